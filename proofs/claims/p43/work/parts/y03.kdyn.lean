/-! FURTHER RULES, two: numbers, constants, calls (printed by wip/gen43/genY.py) -/
section KDYN3
variable {g : q_G} {xt : List ExceptionTableEntry} {M M2 : q_M} {d mc ms d2 mc2 ms2 : Nat} {h0 : q_H} {mv mv2 : List Nat} {Q Q2 : (Option Value ⊕ String) → q_H → Prop} {k n pos pc ln a1 a2 w1 w2 a ci v idx L j b : Nat} {ls : List (Option Value)} {r st As rest : List Value} {h : q_H}
theorem k_o_ishl {x y : Int32} (hok : q_okB M = true) (he : q_nth M.2.2.2.2.1 pos = some (pc, .ishl, ln, a1, a2, w1, w2)) 
    (hJ : q_K g M xt d mc ms h0 mv Q k n (pos + 1, ls, (.int (x <<< (y &&& 31)) :: r), h)) : q_K g M xt d mc ms h0 mv Q k n (pos, ls, (.int y :: .int x :: r), h) := by
  obtain rfl : ln = 1 := (q_atB hok he).2.2.1 (Nat.succ_ne_zero _)
  exact k_stk (st' := (.int (x <<< (y &&& 31)) :: r)) hok he rfl (fun p e R s m args below meth cd H locs cells slots Qz rls ρ hx hb hd hown hts hl kk => lv_ishl hx hb hd kk) (fun h1 h2 => q_cl1 q_vcl_i (q_tl (q_tl h1))) hJ
theorem k_o_i2d {x : Int32} (hok : q_okB M = true) (he : q_nth M.2.2.2.2.1 pos = some (pc, .i2d, ln, a1, a2, w1, w2)) 
    (hJ : q_K g M xt d mc ms h0 mv Q k n (pos + 1, ls, (.double (FP.i2d x) :: r), h)) : q_K g M xt d mc ms h0 mv Q k n (pos, ls, (.int x :: r), h) := by
  obtain rfl : ln = 1 := (q_atB hok he).2.2.1 (Nat.succ_ne_zero _)
  exact k_stk (st' := (.double (FP.i2d x) :: r)) hok he rfl (fun p e R s m args below meth cd H locs cells slots Qz rls ρ hx hb hd hown hts hl kk => lv_i2d hx hb hd kk) (fun h1 h2 => q_cl1 q_vcl_d (q_tl h1)) hJ
theorem k_o_dconst0 (hok : q_okB M = true) (he : q_nth M.2.2.2.2.1 pos = some (pc, .dconst 0, ln, a1, a2, w1, w2))
    (hJ : q_K g M xt d mc ms h0 mv Q k n (pos + 1, ls, (.double FP.dconst0 :: r), h)) : q_K g M xt d mc ms h0 mv Q k n (pos, ls, r, h) := by
  obtain rfl : ln = 1 := (q_atB hok he).2.2.1 (Nat.succ_ne_zero _)
  exact k_stk (st' := (.double FP.dconst0 :: r)) hok he rfl (fun p e R s m args below meth cd H locs cells slots Qz rls ρ hx hb hd hown hts hl kk => lv_dconst0 hx hb hd kk) (fun h1 h2 => q_cl1 q_vcl_d h1) hJ
theorem k_o_ddiv {x y : UInt64} (hok : q_okB M = true) (he : q_nth M.2.2.2.2.1 pos = some (pc, .ddiv, ln, a1, a2, w1, w2)) (hne : vf_n64 (FP.ddiv x y))
    (hJ : q_K g M xt d mc ms h0 mv Q k n (pos + 1, ls, (.double (FP.ddiv x y) :: r), h)) : q_K g M xt d mc ms h0 mv Q k n (pos, ls, (.double y :: .double x :: r), h) := by
  obtain rfl : ln = 1 := (q_atB hok he).2.2.1 (Nat.succ_ne_zero _)
  exact k_stk (st' := (.double (FP.ddiv x y) :: r)) hok he rfl (fun p e R s m args below meth cd H locs cells slots Qz rls ρ hx hb hd hown hts hl kk => lv_ddiv hx hb hd hne kk) (fun h1 h2 => q_cl1 q_vcl_d (q_tl (q_tl h1))) hJ
theorem k_o_ldcI {x : Int32} (hok : q_okB M = true) (he : q_nth M.2.2.2.2.1 pos = some (pc, .ldc idx, ln, a1, a2, w1, w2)) (hw : q_gw w1 w2 = some (.constant M.1.cls idx x))
    (hJ : q_K g M xt d mc ms h0 mv Q k n (pos + 1, ls, .int x :: r, h)) : q_K g M xt d mc ms h0 mv Q k n (pos, ls, r, h) := by
  obtain rfl : ln = 2 := (q_atB hok he).2.2.1 (Nat.succ_ne_zero _)
  exact k_stk (st' := (.int x :: r)) hok he rfl (fun p e R s m args below meth cd H locs cells slots Qz rls ρ hx hb hd hown hts hl kk => lv_ldc hx hb hown (hts _ (q_gw_in hw rfl)) hd kk) (fun h1 h2 => q_cl1 q_vcl_i h1) hJ
theorem k_o_ldcS {tx : String} {i : Nat} (hok : q_okB M = true) (he : q_nth M.2.2.2.2.1 pos = some (pc, .ldc idx, ln, a1, a2, w1, w2)) (hM : M.1.cls = "HayBarnLaw") (hq : (idx, tx, i) ∈ q_lit)
    (hJ : q_K g M xt d mc ms h0 mv Q k n (pos + 1, ls, .ref i :: r, h)) : q_K g M xt d mc ms h0 mv Q k n (pos, ls, r, h) := by
  obtain rfl : ln = 2 := (q_atB hok he).2.2.1 (Nat.succ_ne_zero _)
  intro p e s m args below meth cd D cA ρ0 ρ A H locs rls en hen hB hS
  cases he.symm.trans hen
  obtain ⟨hd, hnx, -, ho2⟩ := q_atB hok he
  obtain ⟨en', he', hpc⟩ := hnx rfl
  obtain ⟨hx, hb, hr, hml, hts, hown, hlk, hnm, hxt⟩ := id hB
  obtain ⟨hK, hW, hVS, hX, hC, hst, hls, hlh, hag, hag2, hA, hnx0⟩ := id hS
  have hi := q_lit_lt _ hq
  have h9 := hJ p e s m args below meth cd D cA ρ0 ρ A H locs rls en' he' hB ⟨hK, hW, hVS, hX, hC, q_cl1 (fun z hz => by cases hz; exact Nat.lt_of_lt_of_le hi hnx0.1) hst, hls, hlh, hag, hag2, hA, hnx0⟩
  rw [hpc] at h9
  have hT := hX.2.2.2.2.2.2.2.2.2.2.1 _ hq
  dsimp only at hT hi
  rw [← hag2 i hi] at hT
  rw [hM] at hown
  exact va_ldcS hx hb hown hT hd h9
theorem k_o_aretA {b : Nat} {C : FieldType} (hok : q_okB M = true) (he : q_nth M.2.2.2.2.1 pos = some (pc, .areturn, ln, a1, a2, w1, w2)) (hty : M.2.2.2.1 = some (.array C)) (hk : k ≤ mc) (hn : n ≤ ms) (hQ : Q (.inl (some (.ref b))) h) : q_K g M xt d mc ms h0 mv Q k n (pos, ls, [(.ref b)], h) := by
  intro p e s m args below meth cd D cA ρ0 ρ A H locs rls en hen hB hS
  cases he.symm.trans hen
  obtain ⟨hd, -, hln, -⟩ := q_atB hok he
  obtain rfl := hln (Nat.succ_ne_zero _)
  obtain ⟨hx, hb, hr, hml, hts, hown, hlk, hnm, hxt⟩ := id hB
  obtain ⟨hK, hW, hVS, hX, hC, hst, hls, hlh, hag, hag2, hA, hnx0⟩ := id hS
  refine W.widen hk hn (vx_ret ?_)
  exact W.aret hx hb (hr.trans hty) (Or.inr ⟨_, rfl⟩) (Or.inr ⟨_, rfl⟩) (fun t ht hW9 => ⟨(some (.ref b)), h, ρ, rfl, hQ, (fun z hz => by cases hz; exact q_hd hst), hag, hag2, by rw [ht]; exact hW, va_K.moved hW9.alike hK, hC, hnx0.1, hnx0.2, q_F hVS ht⟩) hVS.2.2 hd hlk
theorem k_o_xdig51 {i : Int32} (hok : q_okB M = true) (he : q_nth M.2.2.2.2.1 pos = some (pc, .baload, ln, a1, a2, w1, w2)) (hi : i = nI j) (hj : j < 100) 
    (hJ : q_K g M xt d mc ms h0 mv Q k n (pos + 1, ls, .int (nI (48 + j % 10)) :: r, h)) : q_K g M xt d mc ms h0 mv Q k n (pos, ls, .int i :: .ref 51 :: r, h) := by
  obtain rfl : ln = 1 := (q_atB hok he).2.2.1 (Nat.succ_ne_zero _)
  intro p e s m args below meth cd D cA ρ0 ρ A H locs rls en hen hB hS
  cases he.symm.trans hen
  obtain ⟨hd, hnx, -, ho2⟩ := q_atB hok he
  obtain ⟨en', he', hpc⟩ := hnx rfl
  obtain ⟨hx, hb, hr, hml, hts, hown, hlk, hnm, hxt⟩ := id hB
  obtain ⟨hK, hW, hVS, hX, hC, hst, hls, hlh, hag, hag2, hA, hnx0⟩ := id hS
  have h9 := hJ p e s m args below meth cd D cA ρ0 ρ A H locs rls en' he' hB ⟨hK, hW, hVS, hX, hC, q_cl1 q_vcl_i (q_tl (q_tl hst)), hls, hlh, hag, hag2, hA, hnx0⟩
  rw [hpc] at h9
  subst hi
  have hin : vp_in (nI j) 100 := vp_in_nI hj (by omega)
  have hT := hX.2.2.2.2.2.2.1.1
  rw [← hag2 51 (by decide)] at hT
  exact va_tb hx hb hT hVS hin (by rw [nI_clamp (by omega)]; rfl) hd h9
theorem k_o_xdig53 {i : Int32} (hok : q_okB M = true) (he : q_nth M.2.2.2.2.1 pos = some (pc, .baload, ln, a1, a2, w1, w2)) (hi : i = nI j) (hj : j < 100) 
    (hJ : q_K g M xt d mc ms h0 mv Q k n (pos + 1, ls, .int (nI (48 + j / 10)) :: r, h)) : q_K g M xt d mc ms h0 mv Q k n (pos, ls, .int i :: .ref 53 :: r, h) := by
  obtain rfl : ln = 1 := (q_atB hok he).2.2.1 (Nat.succ_ne_zero _)
  intro p e s m args below meth cd D cA ρ0 ρ A H locs rls en hen hB hS
  cases he.symm.trans hen
  obtain ⟨hd, hnx, -, ho2⟩ := q_atB hok he
  obtain ⟨en', he', hpc⟩ := hnx rfl
  obtain ⟨hx, hb, hr, hml, hts, hown, hlk, hnm, hxt⟩ := id hB
  obtain ⟨hK, hW, hVS, hX, hC, hst, hls, hlh, hag, hag2, hA, hnx0⟩ := id hS
  have h9 := hJ p e s m args below meth cd D cA ρ0 ρ A H locs rls en' he' hB ⟨hK, hW, hVS, hX, hC, q_cl1 q_vcl_i (q_tl (q_tl hst)), hls, hlh, hag, hag2, hA, hnx0⟩
  rw [hpc] at h9
  subst hi
  have hin : vp_in (nI j) 100 := vp_in_nI hj (by omega)
  have hT := hX.2.2.2.2.2.2.1.2
  rw [← hag2 53 (by decide)] at hT
  exact va_tb hx hb hT hVS hin (by rw [nI_clamp (by omega)]; rfl) hd h9
end KDYN3
