/-! NEW CELLS, ENDS, CALLS -/
theorem q_clo_new {h : q_H} {sN : q_Sh} (hC : q_clo h) : q_clo (q_new h sN) := by
  refine ⟨fun a j b hb => ?_, fun a j b hb => ?_, fun a ha => (q_ur_n _ _ _ (Nat.ne_of_gt (Nat.lt_of_succ_le ha))).trans (hC.2.2 a (Nat.le_of_succ_le ha))⟩
  · have hb : q_ur (q_R h) (q_nx h) (fun _ => none) a j = some b := hb
    by_cases ha : a = q_nx h
    · rw [ha, q_ur_s] at hb; cases hb
    · rw [q_ur_n _ _ _ ha] at hb
      exact Nat.lt_succ_of_lt (hC.1 _ _ _ hb)
  · have hb : q_ur (q_E h) (q_nx h) (fun _ => none) a j = some b := hb
    by_cases ha : a = q_nx h
    · rw [ha, q_ur_s] at hb; cases hb
    · rw [q_ur_n _ _ _ ha] at hb
      exact hC.2.1 _ _ _ hb
theorem q_vcl_new {h : q_H} {sN : q_Sh} {v : Value} (hv : q_vcl h v) : q_vcl (q_new h sN) v := fun a ha => Nat.lt_succ_of_lt (hv a ha)
theorem q_Sit_new {g : q_G} {nL : Nat} {D : va_G} {cA : Nat → ClassId} {ρ0 ρ : Nat → Nat} {h0 h : q_H} {mv : List Nat} {A : Nat → Prop} {s : State} {H H1 : Heap} {locs : List Loc} {ls : List (Option Value)} {rls : Array Slot} {st r : List Value} {ws : va_W} {q : Nat} {e : va_E} {sN : q_Sh}
    (hS : q_Sit g nL D cA ρ0 ρ h0 h mv A s H locs ls rls st) (h1 : ws.length + 400 = q_nx h) (h2 : ∀ (k : Nat) (q : Nat × va_E), ws[k]? = some q → q.1 = ρ (400 + k) ∧ q_cr cA ρ h (400 + k) q.2 (q_sh h (400 + k)))
    (hcr : q_cr cA (q_ur ρ (q_nx h) q) (q_new h sN) (q_nx h) e sN) (hP : va_P D vwCl (ws ++ [(q, e)]) H1) (hD : va_D A (ws ++ [(q, e)])) (hVS1 : va_S A s.heap H1 locs) (hr : ∀ v ∈ r, q_vcl h v) :
    q_Sit g nL D cA ρ0 (q_ur ρ (q_nx h) q) h0 (q_new h sN) mv A s H1 locs ls rls (.ref (q_nx h) :: r) := by
  obtain ⟨hK, hW, hVS, hX, hC, hst, hls, hlh, hag, hag2, hA, hn1, hn2⟩ := hS
  refine ⟨hK, ⟨ws ++ [(q, e)], by simp only [List.length_append, List.length_cons, List.length_nil]; show _ = q_nx h + 1; omega, fun k x hx => ?_, hP, hD⟩, hVS1, hX, q_clo_new hC, ?_, fun i v hv => q_vcl_new (hls i v hv), ?_, fun a ha hm => ?_, fun a ha => ?_, hA, Nat.le_succ_of_le hn1, Nat.le_succ_of_le hn2⟩
  · by_cases hk : k < ws.length
    · rw [List.getElem?_append_left hk] at hx
      obtain ⟨e1, e2⟩ := h2 k x hx
      have hne : 400 + k ≠ q_nx h := by omega
      refine ⟨by rw [q_ur_n _ _ _ hne]; exact e1, ?_⟩
      rw [show q_sh (q_new h sN) (400 + k) = q_sh h (400 + k) from q_ur_n _ _ _ hne]
      refine q_cr_ren (q_ur_n _ _ _ hne) (q_ur_n _ _ _ hne) (q_ur_n _ _ _ hne) (q_ur_n _ _ _ hne) (fun b hb => ?_) e2
      rcases hb with ⟨j, hb⟩ | ⟨j, hb⟩
      · exact q_ur_n _ _ _ (Nat.ne_of_lt (hC.1 _ _ _ hb))
      · exact q_ur_n _ _ _ (Nat.ne_of_lt (Nat.lt_of_lt_of_le (hC.2.1 _ _ _ hb) (Nat.le_trans (by decide) hn1)))
    · have hk2 : k = ws.length := by
        have := (List.getElem?_eq_some_iff.mp hx).1
        simp only [List.length_append, List.length_cons, List.length_nil] at this
        omega
      rw [hk2, List.getElem?_append_right (Nat.le_refl _), Nat.sub_self] at hx
      cases hx
      have hk3 : 400 + k = q_nx h := by omega
      rw [hk3]
      refine ⟨(q_ur_s _ _ _).symm, ?_⟩
      rw [show q_sh (q_new h sN) (q_nx h) = sN from q_ur_s _ _ _]
      exact hcr
  · exact q_cl1 (fun z hz => by cases hz; exact Nat.lt_succ_self _) (fun v hv => q_vcl_new (hr v hv))
  · exact q_lh_ren (fun i a ha => q_ur_n _ _ _ (Nat.ne_of_lt (hls i _ ha a rfl))) hlh
  · rw [q_ur_n _ _ _ (Nat.ne_of_lt (Nat.lt_of_lt_of_le ha hn2))]; exact hag a ha hm
  · rw [q_ur_n _ _ _ (Nat.ne_of_lt (Nat.lt_of_lt_of_le ha hn1))]; exact hag2 a ha
theorem q_map_new {h : q_H} {ρ : Nat → Nat} {q : Nat} {r : List Value} (hr : ∀ v ∈ r, q_vcl h v) : r.map (q_vz (q_ur ρ (q_nx h) q)) = r.map (q_vz ρ) :=
  q_map_ren fun v hv a ha => q_ur_n _ _ _ (Nat.ne_of_lt (hr v hv a ha))
theorem q_arrI : Jvm.Cond.arrayClass (newarray.typeOf .int) ∈ q_tb := List.mem_filter.mpr ⟨by decide +kernel, rfl⟩
theorem q_arrB : Jvm.Cond.arrayClass (newarray.typeOf .byte) ∈ q_tb := List.mem_filter.mpr ⟨by decide +kernel, rfl⟩
theorem q_arrZ : Jvm.Cond.arrayClass (newarray.typeOf .boolean) ∈ q_tb := List.mem_filter.mpr ⟨by decide +kernel, rfl⟩
section QNEW
variable {g : q_G} {M : q_M} {d mc ms : Nat} {h0 : q_H} {mv : List Nat} {Q : (Option Value ⊕ String) → q_H → Prop} {k n pos pc ln a1 a2 w1 w2 a ci v idx L j : Nat} {ls : List (Option Value)} {r : List Value} {h : q_H}
theorem q_o_newarrI {i : Int32} (hok : q_okM M = true) (he : q_nth M.2.2.2.2.1 pos = some (pc, .newarray .int, ln, a1, a2, w1, w2)) (hi : i = nI L) (hL : L < 65536) (hk : k + 1 ≤ mc) (hn : n + L ≤ ms)
    (hJ : q_J g M d mc ms h0 mv Q (k + 1) (n + L) (pos + 1, ls, .ref (q_nx h) :: r, q_new h (1, 0, L))) : q_J g M d mc ms h0 mv Q k n (pos, ls, .int i :: r, h) := by
  obtain rfl : ln = 2 := (q_at hok he).2.2.1 (Nat.succ_ne_zero _)
  intro p e s m args below meth cd D cA ρ0 ρ A H locs rls en hen hB hS
  cases he.symm.trans hen
  obtain ⟨hd, hnx, -, ho2⟩ := q_at hok he
  obtain ⟨en', he', hpc⟩ := hnx rfl
  obtain ⟨hx, hb, hr, hml, hts, hown, hlk, hnm, hxt⟩ := id hB
  obtain ⟨hK, hW, hVS, hX, hC, hst, hls, hlh, hag, hag2, hA, hnx0⟩ := id hS
  obtain ⟨ws, f1, f2, hP, hD⟩ := id hW
  subst hi
  refine va_newa (ty := .int) (a0 := (L, .inl (fun _ => 0))) hx hb (hts _ q_arrI) rfl hK hP hD hVS hA (fun _ => rfl) (nI_pos (by omega)) (nI_clamp (by omega)) (by show L * 4 ≤ _; omega) hk hn hd (fun q c9 H1 hK1 hP1 hD1 hS1 => ?_)
  have hc9 : c9 = cA 0 := by
    have g1 := (hK1.2 9 (c9, .int) rfl).2
    have g2 := (hK.2 0 (cA 0, .int) rfl).2
    exact Option.some.inj (g1.symm.trans g2)
  subst hc9
  have h9 := hJ p e s m args below meth cd D cA ρ0 (q_ur ρ (q_nx h) q) A H1 locs rls en' he' hB (q_Sit_new (r := r) hS f1 f2 (by show _ = Sum.inl _; rw [show q_I (q_new h (1, 0, L)) (q_nx h) = (fun _ => 0) from q_ur_s _ _ _]) hP1 hD1 hS1 (q_tl hst))
  rw [hpc, List.map_cons, q_map_new (q_tl hst)] at h9
  rw [show q_vz (q_ur ρ (q_nx h) q) (.ref (q_nx h)) = .ref q from congrArg Value.ref (q_ur_s _ _ _)] at h9
  exact h9
theorem q_o_newarrB {i : Int32} (hok : q_okM M = true) (he : q_nth M.2.2.2.2.1 pos = some (pc, .newarray .byte, ln, a1, a2, w1, w2)) (hi : i = nI L) (hL : L < 65536) (hk : k + 1 ≤ mc) (hn : n + L ≤ ms)
    (hJ : q_J g M d mc ms h0 mv Q (k + 1) (n + L) (pos + 1, ls, .ref (q_nx h) :: r, q_new h (1, 1, L))) : q_J g M d mc ms h0 mv Q k n (pos, ls, .int i :: r, h) := by
  obtain rfl : ln = 2 := (q_at hok he).2.2.1 (Nat.succ_ne_zero _)
  intro p e s m args below meth cd D cA ρ0 ρ A H locs rls en hen hB hS
  cases he.symm.trans hen
  obtain ⟨hd, hnx, -, ho2⟩ := q_at hok he
  obtain ⟨en', he', hpc⟩ := hnx rfl
  obtain ⟨hx, hb, hr, hml, hts, hown, hlk, hnm, hxt⟩ := id hB
  obtain ⟨hK, hW, hVS, hX, hC, hst, hls, hlh, hag, hag2, hA, hnx0⟩ := id hS
  obtain ⟨ws, f1, f2, hP, hD⟩ := id hW
  subst hi
  refine va_newa (ty := .byte) (a0 := (L, .inl (fun _ => 0))) hx hb (hts _ q_arrB) rfl hK hP hD hVS hA (fun _ => rfl) (nI_pos (by omega)) (nI_clamp (by omega)) (by show L * 1 ≤ _; omega) hk hn hd (fun q c9 H1 hK1 hP1 hD1 hS1 => ?_)
  have hc9 : c9 = cA 1 := by
    have g1 := (hK1.2 9 (c9, .byte) rfl).2
    have g2 := (hK.2 1 (cA 1, .byte) rfl).2
    exact Option.some.inj (g1.symm.trans g2)
  subst hc9
  have h9 := hJ p e s m args below meth cd D cA ρ0 (q_ur ρ (q_nx h) q) A H1 locs rls en' he' hB (q_Sit_new (r := r) hS f1 f2 (by show _ = Sum.inl _; rw [show q_I (q_new h (1, 1, L)) (q_nx h) = (fun _ => 0) from q_ur_s _ _ _]) hP1 hD1 hS1 (q_tl hst))
  rw [hpc, List.map_cons, q_map_new (q_tl hst)] at h9
  rw [show q_vz (q_ur ρ (q_nx h) q) (.ref (q_nx h)) = .ref q from congrArg Value.ref (q_ur_s _ _ _)] at h9
  exact h9
theorem q_o_newarrZ {i : Int32} (hok : q_okM M = true) (he : q_nth M.2.2.2.2.1 pos = some (pc, .newarray .boolean, ln, a1, a2, w1, w2)) (hi : i = nI L) (hL : L < 65536) (hk : k + 1 ≤ mc) (hn : n + L ≤ ms)
    (hJ : q_J g M d mc ms h0 mv Q (k + 1) (n + L) (pos + 1, ls, .ref (q_nx h) :: r, q_new h (1, 2, L))) : q_J g M d mc ms h0 mv Q k n (pos, ls, .int i :: r, h) := by
  obtain rfl : ln = 2 := (q_at hok he).2.2.1 (Nat.succ_ne_zero _)
  intro p e s m args below meth cd D cA ρ0 ρ A H locs rls en hen hB hS
  cases he.symm.trans hen
  obtain ⟨hd, hnx, -, ho2⟩ := q_at hok he
  obtain ⟨en', he', hpc⟩ := hnx rfl
  obtain ⟨hx, hb, hr, hml, hts, hown, hlk, hnm, hxt⟩ := id hB
  obtain ⟨hK, hW, hVS, hX, hC, hst, hls, hlh, hag, hag2, hA, hnx0⟩ := id hS
  obtain ⟨ws, f1, f2, hP, hD⟩ := id hW
  subst hi
  refine va_newa (ty := .boolean) (a0 := (L, .inl (fun _ => 0))) hx hb (hts _ q_arrZ) rfl hK hP hD hVS hA (fun _ => rfl) (nI_pos (by omega)) (nI_clamp (by omega)) (by show L * 1 ≤ _; omega) hk hn hd (fun q c9 H1 hK1 hP1 hD1 hS1 => ?_)
  have hc9 : c9 = cA 2 := by
    have g1 := (hK1.2 9 (c9, .boolean) rfl).2
    have g2 := (hK.2 2 (cA 2, .boolean) rfl).2
    exact Option.some.inj (g1.symm.trans g2)
  subst hc9
  have h9 := hJ p e s m args below meth cd D cA ρ0 (q_ur ρ (q_nx h) q) A H1 locs rls en' he' hB (q_Sit_new (r := r) hS f1 f2 (by show _ = Sum.inl _; rw [show q_I (q_new h (1, 2, L)) (q_nx h) = (fun _ => 0) from q_ur_s _ _ _]) hP1 hD1 hS1 (q_tl hst))
  rw [hpc, List.map_cons, q_map_new (q_tl hst)] at h9
  rw [show q_vz (q_ur ρ (q_nx h) q) (.ref (q_nx h)) = .ref q from congrArg Value.ref (q_ur_s _ _ _)] at h9
  exact h9
theorem q_o_newqStep {i : Int32} (hok : q_okM M = true) (he : q_nth M.2.2.2.2.1 pos = some (pc, .anewarray idx, ln, a1, a2, w1, w2)) (hw : q_gw w1 w2 = some (.classLink M.1.cls idx "HayBarn$Step")) (hi : i = nI L) (hL : L < 65536) (hk : k + 1 ≤ mc) (hn : n + L ≤ ms)
    (hJ : q_J g M d mc ms h0 mv Q (k + 1) (n + L) (pos + 1, ls, .ref (q_nx h) :: r, q_new h (3, 4, L))) : q_J g M d mc ms h0 mv Q k n (pos, ls, .int i :: r, h) := by
  obtain rfl : ln = 3 := (q_at hok he).2.2.1 (Nat.succ_ne_zero _)
  intro p e s m args below meth cd D cA ρ0 ρ A H locs rls en hen hB hS
  cases he.symm.trans hen
  obtain ⟨hd, hnx, -, ho2⟩ := q_at hok he
  obtain ⟨en', he', hpc⟩ := hnx rfl
  obtain ⟨hx, hb, hr, hml, hts, hown, hlk, hnm, hxt⟩ := id hB
  obtain ⟨hK, hW, hVS, hX, hC, hst, hls, hlh, hag, hag2, hA, hnx0⟩ := id hS
  obtain ⟨ws, f1, f2, hP, hD⟩ := id hW
  subst hi
  have hX9 := id hX
  obtain ⟨-, -, -, -, -, -, -, -, -, -, -, -, -, -, -, -, ⟨hO1, hO3, hO4, hO5⟩, hO2, -⟩ := hX9
  refine va_newq (C := "HayBarn$Step") hx hb hown (hts _ (q_gw_in hw rfl)) hO1 hK hP hD hVS hA (nI_pos (by omega)) (nI_clamp (by omega)) (by omega) hk hn hd (fun q c9 H1 hK1 hP1 hD1 hS1 => ?_)
  have hc9 : c9 = cA 4 := by
    have g1 := (hK1.2 9 (c9, .object "HayBarn$Step") rfl).2
    have g2 := (hK.2 4 (cA 4, .object "HayBarn$Step") rfl).2
    obtain ⟨_, _, _, _, _, g3⟩ := g1
    obtain ⟨_, _, _, _, _, g4⟩ := g2
    exact Option.some.inj (g3.symm.trans g4)
  subst hc9
  have h9 := hJ p e s m args below meth cd D cA ρ0 (q_ur ρ (q_nx h) q) A H1 locs rls en' he' hB (q_Sit_new (r := r) hS f1 f2 (by show _ = Sum.inl _; simp only [show q_R (q_new h (3, 4, L)) (q_nx h) = (fun _ => none) from q_ur_s _ _ _]; rfl) hP1 hD1 hS1 (q_tl hst))
  rw [hpc, List.map_cons, q_map_new (q_tl hst)] at h9
  rw [show q_vz (q_ur ρ (q_nx h) q) (.ref (q_nx h)) = .ref q from congrArg Value.ref (q_ur_s _ _ _)] at h9
  exact h9
theorem q_o_newqSign {i : Int32} (hok : q_okM M = true) (he : q_nth M.2.2.2.2.1 pos = some (pc, .anewarray idx, ln, a1, a2, w1, w2)) (hw : q_gw w1 w2 = some (.classLink M.1.cls idx "HayBarn$Sign")) (hi : i = nI L) (hL : L < 65536) (hk : k + 1 ≤ mc) (hn : n + L ≤ ms)
    (hJ : q_J g M d mc ms h0 mv Q (k + 1) (n + L) (pos + 1, ls, .ref (q_nx h) :: r, q_new h (4, 5, L))) : q_J g M d mc ms h0 mv Q k n (pos, ls, .int i :: r, h) := by
  obtain rfl : ln = 3 := (q_at hok he).2.2.1 (Nat.succ_ne_zero _)
  intro p e s m args below meth cd D cA ρ0 ρ A H locs rls en hen hB hS
  cases he.symm.trans hen
  obtain ⟨hd, hnx, -, ho2⟩ := q_at hok he
  obtain ⟨en', he', hpc⟩ := hnx rfl
  obtain ⟨hx, hb, hr, hml, hts, hown, hlk, hnm, hxt⟩ := id hB
  obtain ⟨hK, hW, hVS, hX, hC, hst, hls, hlh, hag, hag2, hA, hnx0⟩ := id hS
  obtain ⟨ws, f1, f2, hP, hD⟩ := id hW
  subst hi
  have hX9 := id hX
  obtain ⟨-, -, -, -, -, -, -, -, -, -, -, -, -, -, -, -, ⟨hO1, hO3, hO4, hO5⟩, hO2, -⟩ := hX9
  refine va_newq (C := "HayBarn$Sign") hx hb hown (hts _ (q_gw_in hw rfl)) hO2 hK hP hD hVS hA (nI_pos (by omega)) (nI_clamp (by omega)) (by omega) hk hn hd (fun q c9 H1 hK1 hP1 hD1 hS1 => ?_)
  have hc9 : c9 = cA 5 := by
    have g1 := (hK1.2 9 (c9, .object "HayBarn$Sign") rfl).2
    have g2 := (hK.2 5 (cA 5, .object "HayBarn$Sign") rfl).2
    obtain ⟨_, _, _, _, _, g3⟩ := g1
    obtain ⟨_, _, _, _, _, g4⟩ := g2
    exact Option.some.inj (g3.symm.trans g4)
  subst hc9
  have h9 := hJ p e s m args below meth cd D cA ρ0 (q_ur ρ (q_nx h) q) A H1 locs rls en' he' hB (q_Sit_new (r := r) hS f1 f2 (by show _ = Sum.inl _; simp only [show q_E (q_new h (4, 5, L)) (q_nx h) = (fun _ => none) from q_ur_s _ _ _]; rfl) hP1 hD1 hS1 (q_tl hst))
  rw [hpc, List.map_cons, q_map_new (q_tl hst)] at h9
  rw [show q_vz (q_ur ρ (q_nx h) q) (.ref (q_nx h)) = .ref q from congrArg Value.ref (q_ur_s _ _ _)] at h9
  exact h9
def q_chk3 : Bool := (List.range 15).all fun ci => (List.range (q_nf ci)).all fun k => Nat.ble (q_kd ci 0 k) 4
theorem q_chk3_ok : q_chk3 = true := by decide +kernel
theorem q_kd_le {ci k : Nat} (hc : ci < 15) (hk : k < q_nf ci) : q_kd ci 0 k ≤ 4 := by
  have h := q_chk3_ok
  unfold q_chk3 at h
  rw [List.all_eq_true] at h
  have h1 := h ci (List.mem_range.mpr hc)
  rw [List.all_eq_true] at h1
  exact Nat.le_of_ble_eq_true (h1 k (List.mem_range.mpr hk))
/-- a new object -/
theorem q_o_new {C : String} {T : u_T} {N : Nat} (hok : q_okM M = true) (he : q_nth M.2.2.2.2.1 pos = some (pc, .new idx, ln, a1, a2, w1, w2)) (hw : q_gw w1 w2 = some (.classLink M.1.cls idx C)) (hc : vwCl[ci]? = some (C, T, N)) (hi1 : Jvm.Cond.instantiable C N ∈ q_tb) (hi2 : Jvm.Cond.initialized C ∈ q_tb) (hk : k + 1 ≤ mc) (hn : n + N ≤ ms)
    (hJ : q_J g M d mc ms h0 mv Q (k + 1) (n + N) (pos + 1, ls, .ref (q_nx h) :: r, q_new h (0, ci, 0))) : q_J g M d mc ms h0 mv Q k n (pos, ls, r, h) := by
  obtain rfl : ln = 3 := (q_at hok he).2.2.1 (Nat.succ_ne_zero _)
  intro p e s m args below meth cd D cA ρ0 ρ A H locs rls en hen hB hS
  cases he.symm.trans hen
  obtain ⟨hd, hnx, -, ho2⟩ := q_at hok he
  obtain ⟨en', he', hpc⟩ := hnx rfl
  obtain ⟨hx, hb, hr, hml, hts, hown, hlk, hnm, hxt⟩ := id hB
  obtain ⟨hK, hW, hVS, hX, hC, hst, hls, hlh, hag, hag2, hA, hnx0⟩ := id hS
  obtain ⟨ws, f1, f2, hP, hD⟩ := id hW
  have hnf : q_nf ci = N := by unfold q_nf; rw [q_nth_eq, hc]
  have hci := q_cl_lt hc
  have hcr : q_cr cA (q_ur ρ (q_nx h) 0) (q_new h (0, ci, 0)) (q_nx h) (.inr (ci, (List.range N).map (fun j => match q_kd ci 0 j with | 0 => Value.int 0 | 3 => Value.int 0 | 4 => Value.int 0 | _ => .null))) (0, ci, 0) → True := fun _ => trivial
  refine va_new (fs := (List.range N).map (fun j => match q_kd ci 0 j with | 0 => Value.int 0 | 3 => Value.int 0 | 4 => Value.int 0 | _ => .null)) hx hb hts (q_cls_in ci _ hc) (q_fty ci) (q_fty_ok hc) hown (hts _ (q_gw_in hw rfl)) (hts _ hi1) (hts _ hi2) hK hP hD hVS hA hc (fun j hj => ?_) hk hn hd (fun q H1 hP1 hD1 hS1 => ?_)
  · have hty := q_kd_ty (v := 0) hc hj (by decide)
    have hty3 := q_kd_ty3 (v := 0) hc hj (by decide)
    have hle := q_kd_le hci (by rw [hnf]; exact hj)
    unfold vp_V
    rw [List.getD_eq_getElem?_getD, List.getElem?_map, List.getElem?_range hj]
    match hq : q_kd ci 0 j, hle with
    | 0, _ => rw [hty.1 hq]; simp [hq]; rfl
    | 1, _ =>
      rcases hty.2 (Or.inl hq) with ⟨t, ht⟩ | ⟨t, ht⟩ <;> (rw [ht]; simp [hq]; rfl)
    | 2, _ =>
      rcases hty.2 (Or.inr hq) with ⟨t, ht⟩ | ⟨t, ht⟩ <;> (rw [ht]; simp [hq]; rfl)
    | 3, _ => rw [hty3.1 hq]; simp [hq]; rfl
    | 4, _ => rw [hty3.2 hq]; simp [hq]; rfl
  · have h9 := hJ p e s m args below meth cd D cA ρ0 (q_ur ρ (q_nx h) q) A H1 locs rls en' he' hB (q_Sit_new (r := r) hS f1 f2 (by
      refine ⟨_, rfl, by simp [hnf], fun j hj hkj => ?_⟩
      rw [hnf] at hj
      rw [List.getElem?_map, List.getElem?_range hj]
      have hle := q_kd_le hci (by rw [hnf]; exact hj)
      unfold q_fv
      rw [show q_I (q_new h (0, ci, 0)) (q_nx h) = (fun _ => 0) from q_ur_s _ _ _, show q_R (q_new h (0, ci, 0)) (q_nx h) = (fun _ => none) from q_ur_s _ _ _, show q_E (q_new h (0, ci, 0)) (q_nx h) = (fun _ => none) from q_ur_s _ _ _]
      match hq : q_kd ci 0 j, hle with
      | 0, _ => simp [hq]
      | 1, _ => simp [hq]; rfl
      | 2, _ => simp [hq]; rfl
      | 3, _ => simp [hq]
      | 4, _ => simp [hq]) hP1 hD1 hS1 hst)
    rw [hpc, List.map_cons, q_map_new hst] at h9
    rw [show q_vz (q_ur ρ (q_nx h) q) (.ref (q_nx h)) = .ref q from congrArg Value.ref (q_ur_s _ _ _)] at h9
    exact h9
end QNEW
section QENDS
variable {g : q_G} {M : q_M} {d mc ms : Nat} {h0 : q_H} {mv : List Nat} {Q : (Option Value ⊕ String) → q_H → Prop} {k n pos pc ln a1 a2 w1 w2 a ci v idx L j : Nat} {ls : List (Option Value)} {r st : List Value} {h : q_H}
theorem q_F {A : Nat → Prop} {s t : State} {H : Heap} {locs : List Loc} (hVS : va_S A s.heap H locs) (ht : t.heap = H) : va_F A s t := ⟨by rw [ht]; exact hVS.1, fun q h1 h2 => by rw [ht]; exact hVS.2.1 q h1 h2⟩
theorem q_o_iret {x : Int32} {ty : FieldType} (hok : q_okM M = true) (he : q_nth M.2.2.2.2.1 pos = some (pc, .ireturn, ln, a1, a2, w1, w2)) (hty : M.2.2.2.1 = some ty) (hnr : narrow ty (.int x) = .int x) (hk : k ≤ mc) (hn : n ≤ ms) (hQ : Q (.inl (some (.int x))) h) : q_J g M d mc ms h0 mv Q k n (pos, ls, [(.int x)], h) := by
  intro p e s m args below meth cd D cA ρ0 ρ A H locs rls en hen hB hS
  cases he.symm.trans hen
  obtain ⟨hd, -, hln, -⟩ := q_at hok he
  obtain rfl := hln (Nat.succ_ne_zero _)
  obtain ⟨hx, hb, hr, hml, hts, hown, hlk, hnm, hxt⟩ := id hB
  obtain ⟨hK, hW, hVS, hX, hC, hst, hls, hlh, hag, hag2, hA, hnx0⟩ := id hS
  refine W.widen hk hn (vx_ret ?_)
  exact W.zret hx hb (hr.trans hty) hnr (fun t ht hW9 => ⟨(some (.int x)), h, ρ, rfl, hQ, (fun z hz => by cases hz; exact q_vcl_i), hag, hag2, by rw [ht]; exact hW, va_K.moved hW9.alike hK, hC, hnx0.1, hnx0.2, q_F hVS ht⟩) hVS.2.2 hd hlk
theorem q_o_lret {x : Int64} (hok : q_okM M = true) (he : q_nth M.2.2.2.2.1 pos = some (pc, .lreturn, ln, a1, a2, w1, w2)) (hty : M.2.2.2.1 = some .long) (hk : k ≤ mc) (hn : n ≤ ms) (hQ : Q (.inl (some (.long x))) h) : q_J g M d mc ms h0 mv Q k n (pos, ls, [(.long x)], h) := by
  intro p e s m args below meth cd D cA ρ0 ρ A H locs rls en hen hB hS
  cases he.symm.trans hen
  obtain ⟨hd, -, hln, -⟩ := q_at hok he
  obtain rfl := hln (Nat.succ_ne_zero _)
  obtain ⟨hx, hb, hr, hml, hts, hown, hlk, hnm, hxt⟩ := id hB
  obtain ⟨hK, hW, hVS, hX, hC, hst, hls, hlh, hag, hag2, hA, hnx0⟩ := id hS
  refine W.widen hk hn (vx_ret ?_)
  exact W.lret hx hb (hr.trans hty) (fun t ht hW9 => ⟨(some (.long x)), h, ρ, rfl, hQ, (fun z hz => by cases hz; exact q_vcl_l), hag, hag2, by rw [ht]; exact hW, va_K.moved hW9.alike hK, hC, hnx0.1, hnx0.2, q_F hVS ht⟩) hVS.2.2 hd hlk
theorem q_o_dret {x : UInt64} (hok : q_okM M = true) (he : q_nth M.2.2.2.2.1 pos = some (pc, .dreturn, ln, a1, a2, w1, w2)) (hty : M.2.2.2.1 = some .double) (hk : k ≤ mc) (hn : n ≤ ms) (hQ : Q (.inl (some (.double x))) h) : q_J g M d mc ms h0 mv Q k n (pos, ls, [(.double x)], h) := by
  intro p e s m args below meth cd D cA ρ0 ρ A H locs rls en hen hB hS
  cases he.symm.trans hen
  obtain ⟨hd, -, hln, -⟩ := q_at hok he
  obtain rfl := hln (Nat.succ_ne_zero _)
  obtain ⟨hx, hb, hr, hml, hts, hown, hlk, hnm, hxt⟩ := id hB
  obtain ⟨hK, hW, hVS, hX, hC, hst, hls, hlh, hag, hag2, hA, hnx0⟩ := id hS
  refine W.widen hk hn (vx_ret ?_)
  exact W.dret hx hb (hr.trans hty) (fun t ht hW9 => ⟨(some (.double x)), h, ρ, rfl, hQ, (fun z hz => by cases hz; exact q_vcl_d), hag, hag2, by rw [ht]; exact hW, va_K.moved hW9.alike hK, hC, hnx0.1, hnx0.2, q_F hVS ht⟩) hVS.2.2 hd hlk
theorem q_o_vret  (hok : q_okM M = true) (he : q_nth M.2.2.2.2.1 pos = some (pc, .return_, ln, a1, a2, w1, w2)) (hty : M.2.2.2.1 = none) (hk : k ≤ mc) (hn : n ≤ ms) (hQ : Q (.inl none) h) : q_J g M d mc ms h0 mv Q k n (pos, ls, [], h) := by
  intro p e s m args below meth cd D cA ρ0 ρ A H locs rls en hen hB hS
  cases he.symm.trans hen
  obtain ⟨hd, -, hln, -⟩ := q_at hok he
  obtain rfl := hln (Nat.succ_ne_zero _)
  obtain ⟨hx, hb, hr, hml, hts, hown, hlk, hnm, hxt⟩ := id hB
  obtain ⟨hK, hW, hVS, hX, hC, hst, hls, hlh, hag, hag2, hA, hnx0⟩ := id hS
  refine W.widen hk hn (vx_ret ?_)
  exact W.vret hx hb (hr.trans hty) (fun t ht hW9 => ⟨none, h, ρ, rfl, hQ, (fun z hz => by cases hz), hag, hag2, by rw [ht]; exact hW, va_K.moved hW9.alike hK, hC, hnx0.1, hnx0.2, q_F hVS ht⟩) hVS.2.2 hd hlk
theorem q_o_aret {b : Nat} {C : String} (hok : q_okM M = true) (he : q_nth M.2.2.2.2.1 pos = some (pc, .areturn, ln, a1, a2, w1, w2)) (hty : M.2.2.2.1 = some (.object C)) (hk : k ≤ mc) (hn : n ≤ ms) (hQ : Q (.inl (some (.ref b))) h) : q_J g M d mc ms h0 mv Q k n (pos, ls, [(.ref b)], h) := by
  intro p e s m args below meth cd D cA ρ0 ρ A H locs rls en hen hB hS
  cases he.symm.trans hen
  obtain ⟨hd, -, hln, -⟩ := q_at hok he
  obtain rfl := hln (Nat.succ_ne_zero _)
  obtain ⟨hx, hb, hr, hml, hts, hown, hlk, hnm, hxt⟩ := id hB
  obtain ⟨hK, hW, hVS, hX, hC, hst, hls, hlh, hag, hag2, hA, hnx0⟩ := id hS
  refine W.widen hk hn (vx_ret ?_)
  exact W.aret hx hb (hr.trans hty) (Or.inl ⟨_, rfl⟩) (Or.inr ⟨_, rfl⟩) (fun t ht hW9 => ⟨(some (.ref b)), h, ρ, rfl, hQ, (fun z hz => by cases hz; exact q_hd hst), hag, hag2, by rw [ht]; exact hW, va_K.moved hW9.alike hK, hC, hnx0.1, hnx0.2, q_F hVS ht⟩) hVS.2.2 hd hlk
theorem q_o_aretN {C : String} (hok : q_okM M = true) (he : q_nth M.2.2.2.2.1 pos = some (pc, .areturn, ln, a1, a2, w1, w2)) (hty : M.2.2.2.1 = some (.object C)) (hk : k ≤ mc) (hn : n ≤ ms) (hQ : Q (.inl (some .null)) h) : q_J g M d mc ms h0 mv Q k n (pos, ls, [.null], h) := by
  intro p e s m args below meth cd D cA ρ0 ρ A H locs rls en hen hB hS
  cases he.symm.trans hen
  obtain ⟨hd, -, hln, -⟩ := q_at hok he
  obtain rfl := hln (Nat.succ_ne_zero _)
  obtain ⟨hx, hb, hr, hml, hts, hown, hlk, hnm, hxt⟩ := id hB
  obtain ⟨hK, hW, hVS, hX, hC, hst, hls, hlh, hag, hag2, hA, hnx0⟩ := id hS
  refine W.widen hk hn (vx_ret ?_)
  exact W.aret hx hb (hr.trans hty) (Or.inl ⟨_, rfl⟩) (Or.inl rfl) (fun t ht hW9 => ⟨(some .null), h, ρ, rfl, hQ, (fun z hz => by cases hz; exact q_vcl_n), hag, hag2, by rw [ht]; exact hW, va_K.moved hW9.alike hK, hC, hnx0.1, hnx0.2, q_F hVS ht⟩) hVS.2.2 hd hlk
def q_ent : List Value → List (Option Value)
  | [] => []
  | v :: t => bif q_c2 (some v) then some v :: none :: q_ent t else some v :: q_ent t
theorem q_ent_in {ρ : Nat → Nat} : ∀ (As : List Value) (i j : Nat) (v : Value), q_nth (q_ent As) j = some (some v) → (i + j, q_vz ρ v) ∈ lv_args i (As.map (q_vz ρ))
  | [], i, j, v, hv => by simp [q_ent, q_nth] at hv
  | u :: t, i, j, v, hv => by
    simp only [q_ent] at hv
    cases hc : q_c2 (some u) with
    | true =>
      have hcat : (q_vz ρ u).category = 2 := by rw [q_cat]; cases u <;> first | rfl | cases hc
      rw [hc, cond_true] at hv
      simp only [List.map_cons, lv_args]
      match j, hv with
      | 0, hv => simp only [q_nth, Option.some.injEq] at hv; subst hv; exact List.mem_cons_self
      | 1, hv => simp [q_nth] at hv
      | j + 2, hv =>
        refine List.mem_cons_of_mem _ ?_
        rw [if_pos hcat, show i + (j + 2) = i + 2 + j by omega]
        exact q_ent_in t (i + 2) j v (by simpa [q_nth] using hv)
    | false =>
      have hcat : ¬ (q_vz ρ u).category = 2 := by rw [q_cat]; cases u <;> first | (intro h; cases h; done) | cases hc
      rw [hc, cond_false] at hv
      simp only [List.map_cons, lv_args]
      match j, hv with
      | 0, hv => simp only [q_nth, Option.some.injEq] at hv; subst hv; exact List.mem_cons_self
      | j + 1, hv =>
        refine List.mem_cons_of_mem _ ?_
        rw [if_neg hcat, show i + (j + 1) = i + 1 + j by omega]
        exact q_ent_in t (i + 1) j v (by simpa [q_nth] using hv)
theorem q_ent_sl {ρ : Nat → Nat} : ∀ (As : List Value), (lg_sl (As.map (q_vz ρ))).length = (q_ent As).length
  | [] => rfl
  | u :: t => by
    have ih := q_ent_sl (ρ := ρ) t
    unfold lg_sl at ih ⊢
    simp only [List.map_cons, List.flatMap_cons, List.length_append, q_ent, ih]
    cases hc : q_c2 (some u) with
    | true =>
      have hcat : (q_vz ρ u).category = 2 := by rw [q_cat]; cases u <;> first | rfl | cases hc
      rw [if_pos hcat, cond_true]; simp; omega
    | false =>
      have hcat : ¬ (q_vz ρ u).category = 2 := by rw [q_cat]; cases u <;> first | (intro h; cases h; done) | cases hc
      rw [if_neg hcat, cond_false]; simp; omega
theorem q_nth_app {α : Type} {l l' : List α} {i : Nat} {x : α} (hx : q_nth (l ++ l') i = some x) : (q_nth l i = some x) ∨ x ∈ l' := by
  rw [q_nth_eq] at hx
  by_cases hi : i < l.length
  · rw [List.getElem?_append_left hi] at hx
    exact Or.inl (by rw [q_nth_eq]; exact hx)
  · rw [List.getElem?_append_right (by omega)] at hx
    exact Or.inr (List.mem_of_getElem? hx)
/-- a contract out of the walk of a body -/
theorem q_Ct_of {As : List Value} {mv : List Nat} (hok : q_okM M = true) (hlen : (q_ent As).length ≤ M.2.2.1)
    (hJ : q_J g M d mc ms h mv Q 0 0 (0, q_ent As ++ List.replicate (M.2.2.1 - (q_ent As).length) none, [], h)) (en : q_En) (h0 : q_nth M.2.2.2.2.1 0 = some en) (hpc : en.1 = 0) : q_Ct g M d mc ms mv As h Q := by
  intro D cA ρ sz
  obtain ⟨hcode, hpl, -⟩ := q_okCode hok
  refine vx_ofW (cc := M.2.1) (maxL := M.2.2.1) (ret := M.2.2.2.1) hpl rfl ?_
  intro p e s m args below meth c s₁ B hml hxt hv
  obtain ⟨rfl, hsz, hK, hW, hX, hC, hAs, hnx0⟩ := hv
  subst hsz
  have hts := atoms_spec (ws := q_w M) B.pre
  have hB : q_Bs M p s m ((As.map (q_vz ρ)).toArray) meth c := ⟨B.exec, B.bytes, B.returns, hml, fun w hw => hts w (List.mem_cons_of_mem _ hw), findClass_of_methodNamed B.named, B.notSynchronized, (name_of_methodNamed B.named B.method).1, hxt⟩
  have hl := lv_entry (As.map (q_vz ρ)) (n := M.2.2.1) (by rw [q_ent_sl]; exact hlen)
  rw [lg_entry_eq]
  generalize (lg_sl (As.map (q_vz ρ)) ++ List.replicate (M.2.2.1 - (lg_sl (As.map (q_vz ρ))).length) Slot.unset).toArray = rls at hl ⊢
  have hlh : q_lh rls M.2.2.1 ρ (q_ent As ++ List.replicate (M.2.2.1 - (q_ent As).length) none) := by
    refine ⟨hl.1, by simp; omega, hl.2.1, fun i v hv => ?_⟩
    rcases q_nth_app hv with h1 | h1
    · have := q_ent_in (ρ := ρ) As 0 i v h1
      rw [Nat.zero_add] at this
      exact hl.2.2 _ this
    · exact absurd (List.eq_of_mem_replicate h1) (by simp)
  have hls : ∀ i v, q_nth (q_ent As ++ List.replicate (M.2.2.1 - (q_ent As).length) none) i = some (some v) → q_vcl h v := by
    intro i v hv
    rcases q_nth_app hv with h1 | h1
    · have := q_ent_in (ρ := id) As 0 i v h1
      have h3 : ∀ (l : List Value) (i : Nat) (q : Nat × Value), q ∈ lv_args i l → q.2 ∈ l := by
        intro l
        induction l with
        | nil => intro i q hq; cases hq
        | cons a t ih =>
          intro i q hq
          rcases List.mem_cons.mp hq with rfl | hq
          · exact List.mem_cons_self
          · exact List.mem_cons_of_mem _ (ih _ _ hq)
      have h4 := h3 _ _ _ this
      obtain ⟨u, hu, he⟩ := List.mem_map.mp h4
      have hid : ∀ z : Value, q_vz id z = z := fun z => by cases z <;> rfl
      rw [hid, hid] at he
      have he : u = v := he
      rw [← he]; exact hAs u hu
    · exact absurd (List.eq_of_mem_replicate h1) (by simp)
  obtain ⟨ws, f1, f2, hP, hD⟩ := hW
  have hAw : ∀ q : Nat × va_E, q ∈ ws → q_A ρ h s.heap.size q.1 := by
    intro q hq
    obtain ⟨i, hi⟩ := List.getElem?_of_mem hq
    have h1 := (List.getElem?_eq_some_iff.mp hi).1
    exact Or.inl ⟨400 + i, by omega, by omega, (f2 i q hi).1⟩
  have hD1 : va_D (q_A ρ h s.heap.size) ws := ⟨hD.1, fun k q hq => hAw q (List.mem_of_getElem? hq)⟩
  have h9 := hJ p e s m _ below meth c D cA ρ ρ (q_A ρ h s.heap.size) s.heap [] rls en h0 hB ⟨hK, ⟨ws, f1, f2, hP, hD1⟩, va_S.rf, hX, hC, fun v hv => by simp at hv, hls, hlh, fun _ _ _ => rfl, fun _ _ => rfl, fun q hq => Or.inr hq, hnx0, Nat.le_refl _⟩
  rw [hpc] at h9
  exact h9
end QENDS
