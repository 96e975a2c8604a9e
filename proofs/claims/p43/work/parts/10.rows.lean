/-! ROWS, WHAT STANDS OUTSIDE, NEW THINGS -/
theorem q_upd {f : Nat → Nat → Int32} {a j : Nat} {x : Int32} : upd (f a) j x = q_u2 f a j x a := by
  funext i; rw [q_u2_of]; unfold upd; simp
theorem q_updL {f : Nat → Nat → Int64} {a j : Nat} {x : Int64} : vp_updL (f a) j x = q_u2 f a j x a := by
  funext i; rw [q_u2_of]; unfold vp_updL; simp
/-- a row is changed -/
def q_ur {α : Type} (f : Nat → α) (a : Nat) (r : α) : Nat → α := fun b => bif Nat.beq b a then r else f b
theorem q_ur_s {α : Type} (f : Nat → α) (a : Nat) (r : α) : q_ur f a r a = r := by unfold q_ur; rw [q_beqS, cond_true]
theorem q_ur_n {α : Type} (f : Nat → α) (a : Nat) (r : α) {b : Nat} (h : b ≠ a) : q_ur f a r b = f b := by unfold q_ur; rw [q_beqN h, cond_false]
/-- a new cell -/
def q_new (h : q_H) (s : q_Sh) : q_H := (q_nx h + 1, q_ur (q_sh h) (q_nx h) s, q_ur (q_I h) (q_nx h) (fun _ => 0), q_ur (q_R h) (q_nx h) (fun _ => none), q_ur (q_E h) (q_nx h) (fun _ => none), q_ur (q_L h) (q_nx h) (fun _ => 0))
theorem q_cr_ren {cA : Nat → ClassId} {ρ ρ' : Nat → Nat} {h h' : q_H} {a : Nat} {e : va_E} {s : q_Sh} (hI : q_I h' a = q_I h a) (hR : q_R h' a = q_R h a) (hE : q_E h' a = q_E h a) (hL : q_L h' a = q_L h a)
    (hρ : ∀ b, (∃ j, q_R h a j = some b) ∨ (∃ j, q_E h a j = some b) → ρ' b = ρ b) (hc : q_cr cA ρ h a e s) : q_cr cA ρ' h' a e s := by
  have mR : ∀ j, (q_R h a j).map ρ' = (q_R h a j).map ρ := fun j => by
    cases hq : q_R h a j with
    | none => rfl
    | some b => exact congrArg some (hρ b (Or.inl ⟨j, hq⟩))
  have mE : ∀ j, (q_E h a j).map ρ' = (q_E h a j).map ρ := fun j => by
    cases hq : q_E h a j with
    | none => rfl
    | some b => exact congrArg some (hρ b (Or.inr ⟨j, hq⟩))
  obtain ⟨t, c, n⟩ := s
  match t, hc with
  | 0, hc =>
    obtain ⟨fs, e1, e2, e3⟩ := hc
    refine ⟨fs, e1, e2, fun j hj hk => ?_⟩
    rw [e3 j hj hk]
    unfold q_fv
    split <;> simp only [hI, hR, hE, mR, mE]
  | 1, hc => show e = _; rw [hI]; exact hc
  | 2, hc => show e = _; rw [hL]; exact hc
  | 3, hc => show e = _; simp only [hR, mR]; exact hc
  | t + 4, hc => show e = _; simp only [hE, mE]; exact hc
theorem q_vz_ren {ρ ρ' : Nat → Nat} {v : Value} (h : ∀ a, v = .ref a → ρ' a = ρ a) : q_vz ρ' v = q_vz ρ v := by
  cases v <;> first | rfl | exact congrArg Value.ref (h _ rfl)
theorem q_map_ren {ρ ρ' : Nat → Nat} {st : List Value} (h : ∀ v ∈ st, ∀ a, v = .ref a → ρ' a = ρ a) : st.map (q_vz ρ') = st.map (q_vz ρ) :=
  List.map_congr_left fun v hv => q_vz_ren (h v hv)
theorem q_lh_ren {rls : Array Slot} {nL : Nat} {ρ ρ' : Nat → Nat} {ls : List (Option Value)} (h : ∀ i a, q_nth ls i = some (some (.ref a)) → ρ' a = ρ a) (hl : q_lh rls nL ρ ls) : q_lh rls nL ρ' ls :=
  ⟨hl.1, hl.2.1, hl.2.2.1, fun i v hv => by rw [q_vz_ren (fun a ha => h i a (by rw [hv, ha]))]; exact hl.2.2.2 i v hv⟩
section QROWS
variable {g : q_G} {M : q_M} {d mc ms : Nat} {h0 : q_H} {mv : List Nat} {Q : (Option Value ⊕ String) → q_H → Prop} {k n pos pc ln a1 a2 w1 w2 a ci v idx L j : Nat} {ls : List (Option Value)} {r : List Value} {h : q_H}
theorem q_o_iald {i : Int32} (hok : q_okM M = true) (he : q_nth M.2.2.2.2.1 pos = some (pc, .iaload, ln, a1, a2, w1, w2)) (ha : 400 ≤ a) (hsh : q_sh h a = (1, 0, L)) (hi : i = nI j) (hj : j < L) (hL : L < 2147483648)
    (hJ : q_J g M d mc ms h0 mv Q k n (pos + 1, ls, (.int (q_I h a j)) :: r, h)) : q_J g M d mc ms h0 mv Q k n (pos, ls, .int i :: .ref a :: r, h) := by
  obtain rfl : ln = 1 := (q_at hok he).2.2.1 (Nat.succ_ne_zero _)
  intro p e s m args below meth cd D cA ρ0 ρ A H locs rls en hen hB hS
  cases he.symm.trans hen
  obtain ⟨hd, hnx, -, ho2⟩ := q_at hok he
  obtain ⟨en', he', hpc⟩ := hnx rfl
  obtain ⟨hx, hb, hr, hml, hts, hown, hlk, hnm, hxt⟩ := id hB
  obtain ⟨hK, hW, hVS, hX, hC, hst, hls, hlh, hag, hag2, hA, hnx0⟩ := id hS
  have ha2 : a < q_nx h := q_lt hC hsh (by decide)
  have h9 := hJ p e s m args below meth cd D cA ρ0 ρ A H locs rls en' he' hB ⟨hK, hW, hVS, hX, hC, q_cl1 q_vcl_i (q_tl (q_tl hst)), hls, hlh, hag, hag2, hA, hnx0⟩
  rw [hpc] at h9
  obtain ⟨ws, e9, e1, e2, hP, hD, hat, hcr⟩ := q_Wd_at hW ha ha2
  rw [hsh] at hcr
  have hcr : e9 = _ := hcr
  rw [hcr] at hat
  subst hi
  have hin : vp_in (nI j) L := vp_in_nI hj hL
  refine va_iald hx hb hK hP (a - 400) 0 hat rfl hin hd ?_
  rw [nI_clamp (by omega)]
  exact h9
theorem q_o_bald {i : Int32} (hok : q_okM M = true) (he : q_nth M.2.2.2.2.1 pos = some (pc, .baload, ln, a1, a2, w1, w2)) (ha : 400 ≤ a) (hsh : q_sh h a = (1, 1, L)) (hi : i = nI j) (hj : j < L) (hL : L < 2147483648)
    (hJ : q_J g M d mc ms h0 mv Q k n (pos + 1, ls, (.int (q_I h a j)) :: r, h)) : q_J g M d mc ms h0 mv Q k n (pos, ls, .int i :: .ref a :: r, h) := by
  obtain rfl : ln = 1 := (q_at hok he).2.2.1 (Nat.succ_ne_zero _)
  intro p e s m args below meth cd D cA ρ0 ρ A H locs rls en hen hB hS
  cases he.symm.trans hen
  obtain ⟨hd, hnx, -, ho2⟩ := q_at hok he
  obtain ⟨en', he', hpc⟩ := hnx rfl
  obtain ⟨hx, hb, hr, hml, hts, hown, hlk, hnm, hxt⟩ := id hB
  obtain ⟨hK, hW, hVS, hX, hC, hst, hls, hlh, hag, hag2, hA, hnx0⟩ := id hS
  have ha2 : a < q_nx h := q_lt hC hsh (by decide)
  have h9 := hJ p e s m args below meth cd D cA ρ0 ρ A H locs rls en' he' hB ⟨hK, hW, hVS, hX, hC, q_cl1 q_vcl_i (q_tl (q_tl hst)), hls, hlh, hag, hag2, hA, hnx0⟩
  rw [hpc] at h9
  obtain ⟨ws, e9, e1, e2, hP, hD, hat, hcr⟩ := q_Wd_at hW ha ha2
  rw [hsh] at hcr
  have hcr : e9 = _ := hcr
  rw [hcr] at hat
  subst hi
  have hin : vp_in (nI j) L := vp_in_nI hj hL
  refine va_bald hx hb hK hP (a - 400) 1 hat rfl hin hd ?_
  rw [nI_clamp (by omega)]
  exact h9
theorem q_o_zald {i : Int32} (hok : q_okM M = true) (he : q_nth M.2.2.2.2.1 pos = some (pc, .baload, ln, a1, a2, w1, w2)) (ha : 400 ≤ a) (hsh : q_sh h a = (1, 2, L)) (hi : i = nI j) (hj : j < L) (hL : L < 2147483648)
    (hJ : q_J g M d mc ms h0 mv Q k n (pos + 1, ls, (.int (q_I h a j)) :: r, h)) : q_J g M d mc ms h0 mv Q k n (pos, ls, .int i :: .ref a :: r, h) := by
  obtain rfl : ln = 1 := (q_at hok he).2.2.1 (Nat.succ_ne_zero _)
  intro p e s m args below meth cd D cA ρ0 ρ A H locs rls en hen hB hS
  cases he.symm.trans hen
  obtain ⟨hd, hnx, -, ho2⟩ := q_at hok he
  obtain ⟨en', he', hpc⟩ := hnx rfl
  obtain ⟨hx, hb, hr, hml, hts, hown, hlk, hnm, hxt⟩ := id hB
  obtain ⟨hK, hW, hVS, hX, hC, hst, hls, hlh, hag, hag2, hA, hnx0⟩ := id hS
  have ha2 : a < q_nx h := q_lt hC hsh (by decide)
  have h9 := hJ p e s m args below meth cd D cA ρ0 ρ A H locs rls en' he' hB ⟨hK, hW, hVS, hX, hC, q_cl1 q_vcl_i (q_tl (q_tl hst)), hls, hlh, hag, hag2, hA, hnx0⟩
  rw [hpc] at h9
  obtain ⟨ws, e9, e1, e2, hP, hD, hat, hcr⟩ := q_Wd_at hW ha ha2
  rw [hsh] at hcr
  have hcr : e9 = _ := hcr
  rw [hcr] at hat
  subst hi
  have hin : vp_in (nI j) L := vp_in_nI hj hL
  refine va_zald hx hb hK hP (a - 400) 2 hat rfl hin hd ?_
  rw [nI_clamp (by omega)]
  exact h9
theorem q_o_aaldR {i : Int32} (hok : q_okM M = true) (he : q_nth M.2.2.2.2.1 pos = some (pc, .aaload, ln, a1, a2, w1, w2)) (ha : 400 ≤ a) (hsh : q_sh h a = (3, 4, L)) (hi : i = nI j) (hj : j < L) (hL : L < 2147483648)
    (hJ : q_J g M d mc ms h0 mv Q k n (pos + 1, ls, (va_rf (q_R h a j)) :: r, h)) : q_J g M d mc ms h0 mv Q k n (pos, ls, .int i :: .ref a :: r, h) := by
  obtain rfl : ln = 1 := (q_at hok he).2.2.1 (Nat.succ_ne_zero _)
  intro p e s m args below meth cd D cA ρ0 ρ A H locs rls en hen hB hS
  cases he.symm.trans hen
  obtain ⟨hd, hnx, -, ho2⟩ := q_at hok he
  obtain ⟨en', he', hpc⟩ := hnx rfl
  obtain ⟨hx, hb, hr, hml, hts, hown, hlk, hnm, hxt⟩ := id hB
  obtain ⟨hK, hW, hVS, hX, hC, hst, hls, hlh, hag, hag2, hA, hnx0⟩ := id hS
  have ha2 : a < q_nx h := q_lt hC hsh (by decide)
  have h9 := hJ p e s m args below meth cd D cA ρ0 ρ A H locs rls en' he' hB ⟨hK, hW, hVS, hX, hC, q_cl1 (by cases hq : q_R h a j with | none => exact q_vcl_n | some b => intro z hz; cases hz; exact hC.1 _ _ _ hq) (q_tl (q_tl hst)), hls, hlh, hag, hag2, hA, hnx0⟩
  rw [hpc] at h9
  obtain ⟨ws, e9, e1, e2, hP, hD, hat, hcr⟩ := q_Wd_at hW ha ha2
  rw [hsh] at hcr
  have hcr : e9 = _ := hcr
  rw [hcr] at hat
  subst hi
  have hin : vp_in (nI j) L := vp_in_nI hj hL
  refine va_aldq hx hb hK hP (a - 400) 4 hat rfl hin hd ?_
  rw [nI_clamp (by omega)]
  rw [q_rf_vz]; exact h9
theorem q_o_aaldE {i : Int32} (hok : q_okM M = true) (he : q_nth M.2.2.2.2.1 pos = some (pc, .aaload, ln, a1, a2, w1, w2)) (ha : 400 ≤ a) (hsh : q_sh h a = (4, 5, L)) (hi : i = nI j) (hj : j < L) (hL : L < 2147483648)
    (hJ : q_J g M d mc ms h0 mv Q k n (pos + 1, ls, (va_rf (q_E h a j)) :: r, h)) : q_J g M d mc ms h0 mv Q k n (pos, ls, .int i :: .ref a :: r, h) := by
  obtain rfl : ln = 1 := (q_at hok he).2.2.1 (Nat.succ_ne_zero _)
  intro p e s m args below meth cd D cA ρ0 ρ A H locs rls en hen hB hS
  cases he.symm.trans hen
  obtain ⟨hd, hnx, -, ho2⟩ := q_at hok he
  obtain ⟨en', he', hpc⟩ := hnx rfl
  obtain ⟨hx, hb, hr, hml, hts, hown, hlk, hnm, hxt⟩ := id hB
  obtain ⟨hK, hW, hVS, hX, hC, hst, hls, hlh, hag, hag2, hA, hnx0⟩ := id hS
  have ha2 : a < q_nx h := q_lt hC hsh (by decide)
  have h9 := hJ p e s m args below meth cd D cA ρ0 ρ A H locs rls en' he' hB ⟨hK, hW, hVS, hX, hC, q_cl1 (by cases hq : q_E h a j with | none => exact q_vcl_n | some b => intro z hz; cases hz; exact Nat.lt_of_lt_of_le (hC.2.1 _ _ _ hq) (Nat.le_trans (by decide) hnx0.1)) (q_tl (q_tl hst)), hls, hlh, hag, hag2, hA, hnx0⟩
  rw [hpc] at h9
  obtain ⟨ws, e9, e1, e2, hP, hD, hat, hcr⟩ := q_Wd_at hW ha ha2
  rw [hsh] at hcr
  have hcr : e9 = _ := hcr
  rw [hcr] at hat
  subst hi
  have hin : vp_in (nI j) L := vp_in_nI hj hL
  refine va_aldq hx hb hK hP (a - 400) 5 hat rfl hin hd ?_
  rw [nI_clamp (by omega)]
  rw [q_rf_vz]; exact h9
theorem q_o_iast {i : Int32} {x : Int32} (hok : q_okM M = true) (he : q_nth M.2.2.2.2.1 pos = some (pc, .iastore, ln, a1, a2, w1, w2)) (ha : 400 ≤ a) (hsh : q_sh h a = (1, 0, L)) (hi : i = nI j) (hj : j < L) (hL : L < 2147483648) 
    (hJ : q_J g M d mc ms h0 mv Q k n (pos + 1, ls, r, (q_nx h, q_sh h, q_u2 (q_I h) a j x, q_R h, q_E h, q_L h))) : q_J g M d mc ms h0 mv Q k n (pos, ls, .int x :: .int i :: .ref a :: r, h) := by
  obtain rfl : ln = 1 := (q_at hok he).2.2.1 (Nat.succ_ne_zero _)
  intro p e s m args below meth cd D cA ρ0 ρ A H locs rls en hen hB hS
  cases he.symm.trans hen
  obtain ⟨hd, hnx, -, ho2⟩ := q_at hok he
  obtain ⟨en', he', hpc⟩ := hnx rfl
  obtain ⟨hx, hb, hr, hml, hts, hown, hlk, hnm, hxt⟩ := id hB
  obtain ⟨hK, hW, hVS, hX, hC, hst, hls, hlh, hag, hag2, hA, hnx0⟩ := id hS
  have ha2 : a < q_nx h := q_lt hC hsh (by decide)
  obtain ⟨ws, e9, e1, e2, hP, hD, hat, hcr⟩ := q_Wd_at hW ha ha2
  rw [hsh] at hcr
  have hcr : e9 = _ := hcr
  rw [hcr] at hat
  subst hi
  have hin : vp_in (nI j) L := vp_in_nI hj hL
  skip
  refine va_iast hx hb hK hP hD hVS (a - 400) 0 hat rfl hin hd (fun H1 locs1 hP1 hD1 hS1 => ?_)
  rw [nI_clamp (by omega)] at hP1 hD1
  have hW1 : q_Wd D cA ρ (q_nx h, q_sh h, q_u2 (q_I h) a j x, q_R h, q_E h, q_L h) A H1 := by
    refine q_Wd_set e1 e2 ha ha2 rfl rfl (fun b hb => ⟨q_u2_row _ _ _ _ _ hb, rfl, rfl, rfl⟩) ?_ hP1 hD1
    show q_cr cA ρ _ a _ (q_sh h a)
    rw [hsh]
    show (Sum.inl (cA 0, L, Sum.inl (upd (q_I h a) j x)) : va_E) = Sum.inl (cA 0, L, Sum.inl (q_u2 (q_I h) a j x a)); rw [q_upd]
  have h9 := hJ p e s m args below meth cd D cA ρ0 ρ A H1 locs1 rls en' he' hB ⟨hK, hW1, hS1, hX, hC, q_tl (q_tl (q_tl hst)), hls, hlh, hag, hag2, hA, hnx0⟩
  rw [hpc] at h9
  exact h9
theorem q_o_bast {i : Int32} {x : Int32} (hok : q_okM M = true) (he : q_nth M.2.2.2.2.1 pos = some (pc, .bastore, ln, a1, a2, w1, w2)) (ha : 400 ≤ a) (hsh : q_sh h a = (1, 1, L)) (hi : i = nI j) (hj : j < L) (hL : L < 2147483648) 
    (hJ : q_J g M d mc ms h0 mv Q k n (pos + 1, ls, r, (q_nx h, q_sh h, q_u2 (q_I h) a j (vp_nar .byte x), q_R h, q_E h, q_L h))) : q_J g M d mc ms h0 mv Q k n (pos, ls, .int x :: .int i :: .ref a :: r, h) := by
  obtain rfl : ln = 1 := (q_at hok he).2.2.1 (Nat.succ_ne_zero _)
  intro p e s m args below meth cd D cA ρ0 ρ A H locs rls en hen hB hS
  cases he.symm.trans hen
  obtain ⟨hd, hnx, -, ho2⟩ := q_at hok he
  obtain ⟨en', he', hpc⟩ := hnx rfl
  obtain ⟨hx, hb, hr, hml, hts, hown, hlk, hnm, hxt⟩ := id hB
  obtain ⟨hK, hW, hVS, hX, hC, hst, hls, hlh, hag, hag2, hA, hnx0⟩ := id hS
  have ha2 : a < q_nx h := q_lt hC hsh (by decide)
  obtain ⟨ws, e9, e1, e2, hP, hD, hat, hcr⟩ := q_Wd_at hW ha ha2
  rw [hsh] at hcr
  have hcr : e9 = _ := hcr
  rw [hcr] at hat
  subst hi
  have hin : vp_in (nI j) L := vp_in_nI hj hL
  skip
  refine va_bast hx hb hK hP hD hVS (a - 400) 1 hat rfl hin hd (fun H1 locs1 hP1 hD1 hS1 => ?_)
  rw [nI_clamp (by omega)] at hP1 hD1
  have hW1 : q_Wd D cA ρ (q_nx h, q_sh h, q_u2 (q_I h) a j (vp_nar .byte x), q_R h, q_E h, q_L h) A H1 := by
    refine q_Wd_set e1 e2 ha ha2 rfl rfl (fun b hb => ⟨q_u2_row _ _ _ _ _ hb, rfl, rfl, rfl⟩) ?_ hP1 hD1
    show q_cr cA ρ _ a _ (q_sh h a)
    rw [hsh]
    show (Sum.inl (cA 1, L, Sum.inl (upd (q_I h a) j (vp_nar .byte x))) : va_E) = Sum.inl (cA 1, L, Sum.inl (q_u2 (q_I h) a j (vp_nar .byte x) a)); rw [q_upd]
  have h9 := hJ p e s m args below meth cd D cA ρ0 ρ A H1 locs1 rls en' he' hB ⟨hK, hW1, hS1, hX, hC, q_tl (q_tl (q_tl hst)), hls, hlh, hag, hag2, hA, hnx0⟩
  rw [hpc] at h9
  exact h9
theorem q_o_zast {i : Int32} {x : Int32} (hok : q_okM M = true) (he : q_nth M.2.2.2.2.1 pos = some (pc, .bastore, ln, a1, a2, w1, w2)) (ha : 400 ≤ a) (hsh : q_sh h a = (1, 2, L)) (hi : i = nI j) (hj : j < L) (hL : L < 2147483648) 
    (hJ : q_J g M d mc ms h0 mv Q k n (pos + 1, ls, r, (q_nx h, q_sh h, q_u2 (q_I h) a j (vp_nar .boolean x), q_R h, q_E h, q_L h))) : q_J g M d mc ms h0 mv Q k n (pos, ls, .int x :: .int i :: .ref a :: r, h) := by
  obtain rfl : ln = 1 := (q_at hok he).2.2.1 (Nat.succ_ne_zero _)
  intro p e s m args below meth cd D cA ρ0 ρ A H locs rls en hen hB hS
  cases he.symm.trans hen
  obtain ⟨hd, hnx, -, ho2⟩ := q_at hok he
  obtain ⟨en', he', hpc⟩ := hnx rfl
  obtain ⟨hx, hb, hr, hml, hts, hown, hlk, hnm, hxt⟩ := id hB
  obtain ⟨hK, hW, hVS, hX, hC, hst, hls, hlh, hag, hag2, hA, hnx0⟩ := id hS
  have ha2 : a < q_nx h := q_lt hC hsh (by decide)
  obtain ⟨ws, e9, e1, e2, hP, hD, hat, hcr⟩ := q_Wd_at hW ha ha2
  rw [hsh] at hcr
  have hcr : e9 = _ := hcr
  rw [hcr] at hat
  subst hi
  have hin : vp_in (nI j) L := vp_in_nI hj hL
  skip
  refine va_zast hx hb hK hP hD hVS (a - 400) 2 hat rfl hin hd (fun H1 locs1 hP1 hD1 hS1 => ?_)
  rw [nI_clamp (by omega)] at hP1 hD1
  have hW1 : q_Wd D cA ρ (q_nx h, q_sh h, q_u2 (q_I h) a j (vp_nar .boolean x), q_R h, q_E h, q_L h) A H1 := by
    refine q_Wd_set e1 e2 ha ha2 rfl rfl (fun b hb => ⟨q_u2_row _ _ _ _ _ hb, rfl, rfl, rfl⟩) ?_ hP1 hD1
    show q_cr cA ρ _ a _ (q_sh h a)
    rw [hsh]
    show (Sum.inl (cA 2, L, Sum.inl (upd (q_I h a) j (vp_nar .boolean x))) : va_E) = Sum.inl (cA 2, L, Sum.inl (q_u2 (q_I h) a j (vp_nar .boolean x) a)); rw [q_upd]
  have h9 := hJ p e s m args below meth cd D cA ρ0 ρ A H1 locs1 rls en' he' hB ⟨hK, hW1, hS1, hX, hC, q_tl (q_tl (q_tl hst)), hls, hlh, hag, hag2, hA, hnx0⟩
  rw [hpc] at h9
  exact h9
theorem q_o_aastR {i : Int32} {b cb vb : Nat} (hok : q_okM M = true) (he : q_nth M.2.2.2.2.1 pos = some (pc, .aastore, ln, a1, a2, w1, w2)) (ha : 400 ≤ a) (hsh : q_sh h a = (3, 4, L)) (hi : i = nI j) (hj : j < L) (hL : L < 2147483648) (hb1 : 400 ≤ b) (hbs : q_sh h b = (0, 8, vb))
    (hJ : q_J g M d mc ms h0 mv Q k n (pos + 1, ls, r, (q_nx h, q_sh h, q_I h, q_u2 (q_R h) a j (some b), q_E h, q_L h))) : q_J g M d mc ms h0 mv Q k n (pos, ls, .ref b :: .int i :: .ref a :: r, h) := by
  obtain rfl : ln = 1 := (q_at hok he).2.2.1 (Nat.succ_ne_zero _)
  intro p e s m args below meth cd D cA ρ0 ρ A H locs rls en hen hB hS
  cases he.symm.trans hen
  obtain ⟨hd, hnx, -, ho2⟩ := q_at hok he
  obtain ⟨en', he', hpc⟩ := hnx rfl
  obtain ⟨hx, hb, hr, hml, hts, hown, hlk, hnm, hxt⟩ := id hB
  obtain ⟨hK, hW, hVS, hX, hC, hst, hls, hlh, hag, hag2, hA, hnx0⟩ := id hS
  have ha2 : a < q_nx h := q_lt hC hsh (by decide)
  obtain ⟨ws, e9, e1, e2, hP, hD, hat, hcr⟩ := q_Wd_at hW ha ha2
  rw [hsh] at hcr
  have hcr : e9 = _ := hcr
  rw [hcr] at hat
  subst hi
  have hin : vp_in (nI j) L := vp_in_nI hj hL
  have hb2 : b < q_nx h := q_lt hC hbs (by decide)
  obtain ⟨ws9, e8, f1, f2, hP9, hD9, hat9, hcr9⟩ := q_Wd_at hW hb1 hb2
  rw [hbs] at hcr9
  obtain ⟨fs9, hfs9, -, -⟩ := hcr9
  rw [hfs9] at hat9
  have hany : va_Any "HayBarn$Step" s H (ρ b) := va_rAny hK hP9 hat9 (r := (RX10, TX10, 8)) rfl (fun comp c0 h1 h2 => by
    have h3 : s.vm.findClass RX10 = some comp := h1
    cases h2.symm.trans h3
    exact va_asg _ _)
  refine va_astqM hx hb hK hP hD hVS (a - 400) 4 (E := "HayBarn$Step") hat rfl hany hin hd (fun H1 locs1 hP1 hD1 hS1 => ?_)
  rw [nI_clamp (by omega)] at hP1 hD1
  have hW1 : q_Wd D cA ρ (q_nx h, q_sh h, q_I h, q_u2 (q_R h) a j (some b), q_E h, q_L h) A H1 := by
    refine q_Wd_set e1 e2 ha ha2 rfl rfl (fun b hb => ⟨rfl, q_u2_row _ _ _ _ _ hb, rfl, rfl⟩) ?_ hP1 hD1
    show q_cr cA ρ _ a _ (q_sh h a)
    rw [hsh]
    refine congrArg (fun f => (Sum.inl (cA 4, L, Sum.inr (Sum.inr (Sum.inr (Sum.inr f)))) : va_E)) (funext fun i9 => ?_)
    show va_up (fun i => (q_R h a i).map ρ) j (some (ρ b)) i9 = (q_u2 (q_R h) a j (some b) a i9).map ρ
    rw [q_u2_of]; unfold va_up
    by_cases hij : i9 = j <;> simp [hij]
  have h9 := hJ p e s m args below meth cd D cA ρ0 ρ A H1 locs1 rls en' he' hB ⟨hK, hW1, hS1, hX, ⟨fun a8 j8 b8 h8 => by
      rw [show q_R (q_nx h, q_sh h, q_I h, q_u2 (q_R h) a j (some b), q_E h, q_L h) a8 j8 = q_u2 (q_R h) a j (some b) a8 j8 from rfl, q_u2_of] at h8
      split at h8
      · cases h8; exact q_hd hst _ rfl
      · exact hC.1 _ _ _ h8, hC.2⟩, q_tl (q_tl (q_tl hst)), hls, hlh, hag, hag2, hA, hnx0⟩
  rw [hpc] at h9
  exact h9
theorem q_o_aastE {i : Int32} {b : Nat} (hok : q_okM M = true) (he : q_nth M.2.2.2.2.1 pos = some (pc, .aastore, ln, a1, a2, w1, w2)) (ha : 400 ≤ a) (hsh : q_sh h a = (4, 5, L)) (hi : i = nI j) (hj : j < L) (hL : L < 2147483648) (hbe : b < 49)
    (hJ : q_J g M d mc ms h0 mv Q k n (pos + 1, ls, r, (q_nx h, q_sh h, q_I h, q_R h, q_u2 (q_E h) a j (some b), q_L h))) : q_J g M d mc ms h0 mv Q k n (pos, ls, .ref b :: .int i :: .ref a :: r, h) := by
  obtain rfl : ln = 1 := (q_at hok he).2.2.1 (Nat.succ_ne_zero _)
  intro p e s m args below meth cd D cA ρ0 ρ A H locs rls en hen hB hS
  cases he.symm.trans hen
  obtain ⟨hd, hnx, -, ho2⟩ := q_at hok he
  obtain ⟨en', he', hpc⟩ := hnx rfl
  obtain ⟨hx, hb, hr, hml, hts, hown, hlk, hnm, hxt⟩ := id hB
  obtain ⟨hK, hW, hVS, hX, hC, hst, hls, hlh, hag, hag2, hA, hnx0⟩ := id hS
  have ha2 : a < q_nx h := q_lt hC hsh (by decide)
  obtain ⟨ws, e9, e1, e2, hP, hD, hat, hcr⟩ := q_Wd_at hW ha ha2
  rw [hsh] at hcr
  have hcr : e9 = _ := hcr
  rw [hcr] at hat
  subst hi
  have hin : vp_in (nI j) L := vp_in_nI hj hL
  have hany : va_Any "HayBarn$Sign" s H (ρ b) := by
    obtain ⟨cell, c1, c2, c3, c4⟩ := (hX.2.2.1 b hbe).1
    obtain ⟨kC, hkC, -⟩ := Vm.findClass_spec c3
    have hρ : ρ b = ρ0 b := hag2 b (by omega)
    refine ⟨cell, ?_, c2, ⟨kC, hkC⟩, fun comp h1 => ?_⟩
    · rw [hρ, hVS.2.1 _ (Array.getElem?_eq_some_iff.mp c1).1 c4]; exact c1
    · cases c3.symm.trans h1
      exact va_asg _ _
  refine va_astqM hx hb hK hP hD hVS (a - 400) 5 (E := "HayBarn$Sign") hat rfl hany hin hd (fun H1 locs1 hP1 hD1 hS1 => ?_)
  rw [nI_clamp (by omega)] at hP1 hD1
  have hW1 : q_Wd D cA ρ (q_nx h, q_sh h, q_I h, q_R h, q_u2 (q_E h) a j (some b), q_L h) A H1 := by
    refine q_Wd_set e1 e2 ha ha2 rfl rfl (fun b hb => ⟨rfl, rfl, q_u2_row _ _ _ _ _ hb, rfl⟩) ?_ hP1 hD1
    show q_cr cA ρ _ a _ (q_sh h a)
    rw [hsh]
    refine congrArg (fun f => (Sum.inl (cA 5, L, Sum.inr (Sum.inr (Sum.inr (Sum.inr f)))) : va_E)) (funext fun i9 => ?_)
    show va_up (fun i => (q_E h a i).map ρ) j (some (ρ b)) i9 = (q_u2 (q_E h) a j (some b) a i9).map ρ
    rw [q_u2_of]; unfold va_up
    by_cases hij : i9 = j <;> simp [hij]
  have h9 := hJ p e s m args below meth cd D cA ρ0 ρ A H1 locs1 rls en' he' hB ⟨hK, hW1, hS1, hX, ⟨hC.1, fun a8 j8 b8 h8 => by
      rw [show q_E (q_nx h, q_sh h, q_I h, q_R h, q_u2 (q_E h) a j (some b), q_L h) a8 j8 = q_u2 (q_E h) a j (some b) a8 j8 from rfl, q_u2_of] at h8
      split at h8
      · cases h8; exact hbe
      · exact hC.2.1 _ _ _ h8, hC.2.2⟩, q_tl (q_tl (q_tl hst)), hls, hlh, hag, hag2, hA, hnx0⟩
  rw [hpc] at h9
  exact h9
theorem q_o_alenI (hok : q_okM M = true) (he : q_nth M.2.2.2.2.1 pos = some (pc, .arraylength, ln, a1, a2, w1, w2)) (ha : 400 ≤ a) (hsh : q_sh h a = (1, 0, L))
    (hJ : q_J g M d mc ms h0 mv Q k n (pos + 1, ls, .int (nI L) :: r, h)) : q_J g M d mc ms h0 mv Q k n (pos, ls, .ref a :: r, h) := by
  obtain rfl : ln = 1 := (q_at hok he).2.2.1 (Nat.succ_ne_zero _)
  intro p e s m args below meth cd D cA ρ0 ρ A H locs rls en hen hB hS
  cases he.symm.trans hen
  obtain ⟨hd, hnx, -, ho2⟩ := q_at hok he
  obtain ⟨en', he', hpc⟩ := hnx rfl
  obtain ⟨hx, hb, hr, hml, hts, hown, hlk, hnm, hxt⟩ := id hB
  obtain ⟨hK, hW, hVS, hX, hC, hst, hls, hlh, hag, hag2, hA, hnx0⟩ := id hS
  have ha2 : a < q_nx h := q_lt hC hsh (by decide)
  have h9 := hJ p e s m args below meth cd D cA ρ0 ρ A H locs rls en' he' hB ⟨hK, hW, hVS, hX, hC, q_cl1 q_vcl_i (q_tl hst), hls, hlh, hag, hag2, hA, hnx0⟩
  rw [hpc] at h9
  obtain ⟨ws, e9, e1, e2, hP, hD, hat, hcr⟩ := q_Wd_at hW ha ha2
  rw [hsh] at hcr
  have hcr : e9 = _ := hcr
  rw [hcr] at hat
  exact va_alen hx hb hK hP (a - 400) 0 hat rfl rfl hd h9
theorem q_o_alenB (hok : q_okM M = true) (he : q_nth M.2.2.2.2.1 pos = some (pc, .arraylength, ln, a1, a2, w1, w2)) (ha : 400 ≤ a) (hsh : q_sh h a = (1, 1, L))
    (hJ : q_J g M d mc ms h0 mv Q k n (pos + 1, ls, .int (nI L) :: r, h)) : q_J g M d mc ms h0 mv Q k n (pos, ls, .ref a :: r, h) := by
  obtain rfl : ln = 1 := (q_at hok he).2.2.1 (Nat.succ_ne_zero _)
  intro p e s m args below meth cd D cA ρ0 ρ A H locs rls en hen hB hS
  cases he.symm.trans hen
  obtain ⟨hd, hnx, -, ho2⟩ := q_at hok he
  obtain ⟨en', he', hpc⟩ := hnx rfl
  obtain ⟨hx, hb, hr, hml, hts, hown, hlk, hnm, hxt⟩ := id hB
  obtain ⟨hK, hW, hVS, hX, hC, hst, hls, hlh, hag, hag2, hA, hnx0⟩ := id hS
  have ha2 : a < q_nx h := q_lt hC hsh (by decide)
  have h9 := hJ p e s m args below meth cd D cA ρ0 ρ A H locs rls en' he' hB ⟨hK, hW, hVS, hX, hC, q_cl1 q_vcl_i (q_tl hst), hls, hlh, hag, hag2, hA, hnx0⟩
  rw [hpc] at h9
  obtain ⟨ws, e9, e1, e2, hP, hD, hat, hcr⟩ := q_Wd_at hW ha ha2
  rw [hsh] at hcr
  have hcr : e9 = _ := hcr
  rw [hcr] at hat
  exact va_alen hx hb hK hP (a - 400) 1 hat rfl rfl hd h9
theorem q_o_alenZ (hok : q_okM M = true) (he : q_nth M.2.2.2.2.1 pos = some (pc, .arraylength, ln, a1, a2, w1, w2)) (ha : 400 ≤ a) (hsh : q_sh h a = (1, 2, L))
    (hJ : q_J g M d mc ms h0 mv Q k n (pos + 1, ls, .int (nI L) :: r, h)) : q_J g M d mc ms h0 mv Q k n (pos, ls, .ref a :: r, h) := by
  obtain rfl : ln = 1 := (q_at hok he).2.2.1 (Nat.succ_ne_zero _)
  intro p e s m args below meth cd D cA ρ0 ρ A H locs rls en hen hB hS
  cases he.symm.trans hen
  obtain ⟨hd, hnx, -, ho2⟩ := q_at hok he
  obtain ⟨en', he', hpc⟩ := hnx rfl
  obtain ⟨hx, hb, hr, hml, hts, hown, hlk, hnm, hxt⟩ := id hB
  obtain ⟨hK, hW, hVS, hX, hC, hst, hls, hlh, hag, hag2, hA, hnx0⟩ := id hS
  have ha2 : a < q_nx h := q_lt hC hsh (by decide)
  have h9 := hJ p e s m args below meth cd D cA ρ0 ρ A H locs rls en' he' hB ⟨hK, hW, hVS, hX, hC, q_cl1 q_vcl_i (q_tl hst), hls, hlh, hag, hag2, hA, hnx0⟩
  rw [hpc] at h9
  obtain ⟨ws, e9, e1, e2, hP, hD, hat, hcr⟩ := q_Wd_at hW ha ha2
  rw [hsh] at hcr
  have hcr : e9 = _ := hcr
  rw [hcr] at hat
  exact va_alen hx hb hK hP (a - 400) 2 hat rfl rfl hd h9
theorem q_o_alenE (hok : q_okM M = true) (he : q_nth M.2.2.2.2.1 pos = some (pc, .arraylength, ln, a1, a2, w1, w2)) (ha : 400 ≤ a) (hsh : q_sh h a = (4, 5, L))
    (hJ : q_J g M d mc ms h0 mv Q k n (pos + 1, ls, .int (nI L) :: r, h)) : q_J g M d mc ms h0 mv Q k n (pos, ls, .ref a :: r, h) := by
  obtain rfl : ln = 1 := (q_at hok he).2.2.1 (Nat.succ_ne_zero _)
  intro p e s m args below meth cd D cA ρ0 ρ A H locs rls en hen hB hS
  cases he.symm.trans hen
  obtain ⟨hd, hnx, -, ho2⟩ := q_at hok he
  obtain ⟨en', he', hpc⟩ := hnx rfl
  obtain ⟨hx, hb, hr, hml, hts, hown, hlk, hnm, hxt⟩ := id hB
  obtain ⟨hK, hW, hVS, hX, hC, hst, hls, hlh, hag, hag2, hA, hnx0⟩ := id hS
  have ha2 : a < q_nx h := q_lt hC hsh (by decide)
  have h9 := hJ p e s m args below meth cd D cA ρ0 ρ A H locs rls en' he' hB ⟨hK, hW, hVS, hX, hC, q_cl1 q_vcl_i (q_tl hst), hls, hlh, hag, hag2, hA, hnx0⟩
  rw [hpc] at h9
  obtain ⟨ws, e9, e1, e2, hP, hD, hat, hcr⟩ := q_Wd_at hW ha ha2
  rw [hsh] at hcr
  have hcr : e9 = _ := hcr
  rw [hcr] at hat
  exact va_alen hx hb hK hP (a - 400) 5 hat rfl rfl hd h9
theorem q_o_alenR (hok : q_okM M = true) (he : q_nth M.2.2.2.2.1 pos = some (pc, .arraylength, ln, a1, a2, w1, w2)) (ha : 400 ≤ a) (hsh : q_sh h a = (3, 4, L))
    (hJ : q_J g M d mc ms h0 mv Q k n (pos + 1, ls, .int (nI L) :: r, h)) : q_J g M d mc ms h0 mv Q k n (pos, ls, .ref a :: r, h) := by
  obtain rfl : ln = 1 := (q_at hok he).2.2.1 (Nat.succ_ne_zero _)
  intro p e s m args below meth cd D cA ρ0 ρ A H locs rls en hen hB hS
  cases he.symm.trans hen
  obtain ⟨hd, hnx, -, ho2⟩ := q_at hok he
  obtain ⟨en', he', hpc⟩ := hnx rfl
  obtain ⟨hx, hb, hr, hml, hts, hown, hlk, hnm, hxt⟩ := id hB
  obtain ⟨hK, hW, hVS, hX, hC, hst, hls, hlh, hag, hag2, hA, hnx0⟩ := id hS
  have ha2 : a < q_nx h := q_lt hC hsh (by decide)
  have h9 := hJ p e s m args below meth cd D cA ρ0 ρ A H locs rls en' he' hB ⟨hK, hW, hVS, hX, hC, q_cl1 q_vcl_i (q_tl hst), hls, hlh, hag, hag2, hA, hnx0⟩
  rw [hpc] at h9
  obtain ⟨ws, e9, e1, e2, hP, hD, hat, hcr⟩ := q_Wd_at hW ha ha2
  rw [hsh] at hcr
  have hcr : e9 = _ := hcr
  rw [hcr] at hat
  exact va_alen hx hb hK hP (a - 400) 4 hat rfl rfl hd h9
theorem q_stat_lt : ∀ q ∈ q_stat, q.2.2.2 < 400 := by decide
theorem q_isS_of {own : String} {idx a1 : Nat} {w : Option Jvm.Cond} (hw : q_isS own idx a1 w = true) :
    ∃ C n d, (C, n, d, a1) ∈ q_stat ∧ (w = some (.fieldLink own idx C n d) ∨ ∃ host, w = some (.fieldLinkNest own idx C n d host)) := by
  unfold q_isS at hw
  split at hw
  · simp only [Bool.and_eq_true, decide_eq_true_eq] at hw
    obtain ⟨⟨rfl, rfl⟩, h3⟩ := hw
    exact ⟨_, _, _, h3, Or.inl rfl⟩
  · simp only [Bool.and_eq_true, decide_eq_true_eq] at hw
    obtain ⟨⟨rfl, rfl⟩, h3⟩ := hw
    exact ⟨_, _, _, h3, Or.inr ⟨_, rfl⟩⟩
  · cases hw
theorem q_o_gets  (hok : q_okM M = true) (he : q_nth M.2.2.2.2.1 pos = some (pc, .getstatic idx, ln, a1, a2, w1, w2)) (h1 : a1 < 400)
    (hJ : q_J g M d mc ms h0 mv Q k n (pos + 1, ls, .ref a1 :: r, h)) : q_J g M d mc ms h0 mv Q k n (pos, ls, r, h) := by
  obtain rfl : ln = 3 := (q_at hok he).2.2.1 (Nat.succ_ne_zero _)
  intro p e s m args below meth cd D cA ρ0 ρ A H locs rls en hen hB hS
  cases he.symm.trans hen
  obtain ⟨hd, hnx, -, ho2⟩ := q_at hok he
  obtain ⟨en', he', hpc⟩ := hnx rfl
  obtain ⟨hx, hb, hr, hml, hts, hown, hlk, hnm, hxt⟩ := id hB
  obtain ⟨hK, hW, hVS, hX, hC, hst, hls, hlh, hag, hag2, hA, hnx0⟩ := id hS
  have h9 := hJ p e s m args below meth cd D cA ρ0 ρ A H locs rls en' he' hB ⟨hK, hW, hVS, hX, hC, q_cl1 (fun z hz => by cases hz; exact Nat.lt_of_lt_of_le h1 hnx0.1) hst, hls, hlh, hag, hag2, hA, hnx0⟩
  rw [hpc] at h9
  simp only [q_ok2, Bool.or_eq_true, decide_eq_true_eq] at ho2
  obtain ⟨C, nn, dd, hm, hw⟩ := q_isS_of (ho2.resolve_left (by omega))
  have hZ := hX.2.1 _ hm
  have h9 : W p g.1 e (q_rm d mc ms) s m args below meth cd H locs k n (vx_MQ below (q_Qc D cA ρ0 h0 mv A Q) (q_XC D cA ρ0 h0 mv A Q) args s mc ms A) (F0 m (pc + 3) rls (.ref (ρ0 a1) :: r.map (q_vz ρ))) := by
    rw [← hag2 a1 h1]; exact h9
  rcases hw with hw | ⟨host, hw⟩
  · exact va_gets hx hb hZ hVS hown (hts _ (q_gw_in hw rfl)) (fun _ h8 => h8) hd h9
  · exact va_getsN hx hb hZ hVS hown (q_Xn hX (q_gw_in2 hw) rfl rfl) (fun _ h8 => h8) hd h9
theorem q_o_xsw {i : Int32} (hok : q_okM M = true) (he : q_nth M.2.2.2.2.1 pos = some (pc, .iaload, ln, a1, a2, w1, w2)) (hi : i = nI j) (hj : j < 49) 
    (hJ : q_J g M d mc ms h0 mv Q k n (pos + 1, ls, .int (q_sw j) :: r, h)) : q_J g M d mc ms h0 mv Q k n (pos, ls, .int i :: .ref 50 :: r, h) := by
  obtain rfl : ln = 1 := (q_at hok he).2.2.1 (Nat.succ_ne_zero _)
  intro p e s m args below meth cd D cA ρ0 ρ A H locs rls en hen hB hS
  cases he.symm.trans hen
  obtain ⟨hd, hnx, -, ho2⟩ := q_at hok he
  obtain ⟨en', he', hpc⟩ := hnx rfl
  obtain ⟨hx, hb, hr, hml, hts, hown, hlk, hnm, hxt⟩ := id hB
  obtain ⟨hK, hW, hVS, hX, hC, hst, hls, hlh, hag, hag2, hA, hnx0⟩ := id hS
  have h9 := hJ p e s m args below meth cd D cA ρ0 ρ A H locs rls en' he' hB ⟨hK, hW, hVS, hX, hC, q_cl1 q_vcl_i (q_tl (q_tl hst)), hls, hlh, hag, hag2, hA, hnx0⟩
  rw [hpc] at h9
  subst hi
  have hin : vp_in (nI j) (49) := vp_in_nI hj (by omega)
  have hT := hX.2.2.2.2.2.1
  rw [← hag2 50 (by decide)] at hT
  exact va_ti hx hb hT hVS hin (by rw [nI_clamp (by omega)]; rfl) hd h9
theorem q_o_xscr {i : Int32} (hok : q_okM M = true) (he : q_nth M.2.2.2.2.1 pos = some (pc, .iaload, ln, a1, a2, w1, w2)) (hi : i = nI j) (hj : j < g.2.length) (hL : g.2.length < 2147483648)
    (hJ : q_J g M d mc ms h0 mv Q k n (pos + 1, ls, .int (g.2.getD j 0) :: r, h)) : q_J g M d mc ms h0 mv Q k n (pos, ls, .int i :: .ref 52 :: r, h) := by
  obtain rfl : ln = 1 := (q_at hok he).2.2.1 (Nat.succ_ne_zero _)
  intro p e s m args below meth cd D cA ρ0 ρ A H locs rls en hen hB hS
  cases he.symm.trans hen
  obtain ⟨hd, hnx, -, ho2⟩ := q_at hok he
  obtain ⟨en', he', hpc⟩ := hnx rfl
  obtain ⟨hx, hb, hr, hml, hts, hown, hlk, hnm, hxt⟩ := id hB
  obtain ⟨hK, hW, hVS, hX, hC, hst, hls, hlh, hag, hag2, hA, hnx0⟩ := id hS
  have h9 := hJ p e s m args below meth cd D cA ρ0 ρ A H locs rls en' he' hB ⟨hK, hW, hVS, hX, hC, q_cl1 q_vcl_i (q_tl (q_tl hst)), hls, hlh, hag, hag2, hA, hnx0⟩
  rw [hpc] at h9
  subst hi
  have hin : vp_in (nI j) (g.2.length) := vp_in_nI hj (by omega)
  have hT := hX.2.2.2.2.2.2.2.1
  rw [← hag2 52 (by decide)] at hT
  exact va_ti hx hb hT hVS hin (by rw [nI_clamp (by omega)]; rfl) hd h9
theorem q_o_xsigns {i : Int32} (hok : q_okM M = true) (he : q_nth M.2.2.2.2.1 pos = some (pc, .aaload, ln, a1, a2, w1, w2)) (hi : i = nI j) (hj : j < 49) 
    (hJ : q_J g M d mc ms h0 mv Q k n (pos + 1, ls, .ref j :: r, h)) : q_J g M d mc ms h0 mv Q k n (pos, ls, .int i :: .ref 49 :: r, h) := by
  obtain rfl : ln = 1 := (q_at hok he).2.2.1 (Nat.succ_ne_zero _)
  intro p e s m args below meth cd D cA ρ0 ρ A H locs rls en hen hB hS
  cases he.symm.trans hen
  obtain ⟨hd, hnx, -, ho2⟩ := q_at hok he
  obtain ⟨en', he', hpc⟩ := hnx rfl
  obtain ⟨hx, hb, hr, hml, hts, hown, hlk, hnm, hxt⟩ := id hB
  obtain ⟨hK, hW, hVS, hX, hC, hst, hls, hlh, hag, hag2, hA, hnx0⟩ := id hS
  have h9 := hJ p e s m args below meth cd D cA ρ0 ρ A H locs rls en' he' hB ⟨hK, hW, hVS, hX, hC, q_cl1 (fun z hz => by cases hz; exact Nat.lt_of_lt_of_le (show _ < 400 by omega) hnx0.1) (q_tl (q_tl hst)), hls, hlh, hag, hag2, hA, hnx0⟩
  rw [hpc] at h9
  subst hi
  have hin : vp_in (nI j) (49) := vp_in_nI hj (by omega)
  have hT := hX.2.2.2.2.1
  rw [← hag2 49 (by decide)] at hT
  exact vb_tq hx hb hT hVS hin (by rw [nI_clamp (by omega)]; exact congrArg Value.ref (hag2 j (by omega)).symm) hd h9
theorem q_o_xlen49  (hok : q_okM M = true) (he : q_nth M.2.2.2.2.1 pos = some (pc, .arraylength, ln, a1, a2, w1, w2)) 
    (hJ : q_J g M d mc ms h0 mv Q k n (pos + 1, ls, .int (nI (49)) :: r, h)) : q_J g M d mc ms h0 mv Q k n (pos, ls, .ref 49 :: r, h) := by
  obtain rfl : ln = 1 := (q_at hok he).2.2.1 (Nat.succ_ne_zero _)
  intro p e s m args below meth cd D cA ρ0 ρ A H locs rls en hen hB hS
  cases he.symm.trans hen
  obtain ⟨hd, hnx, -, ho2⟩ := q_at hok he
  obtain ⟨en', he', hpc⟩ := hnx rfl
  obtain ⟨hx, hb, hr, hml, hts, hown, hlk, hnm, hxt⟩ := id hB
  obtain ⟨hK, hW, hVS, hX, hC, hst, hls, hlh, hag, hag2, hA, hnx0⟩ := id hS
  have h9 := hJ p e s m args below meth cd D cA ρ0 ρ A H locs rls en' he' hB ⟨hK, hW, hVS, hX, hC, q_cl1 q_vcl_i (q_tl hst), hls, hlh, hag, hag2, hA, hnx0⟩
  rw [hpc] at h9
  have hT := hX.2.2.2.2.1
  rw [← hag2 49 (by decide)] at hT
  exact va_tlen hx hb hT hVS rfl hd h9
theorem q_o_xlen52  (hok : q_okM M = true) (he : q_nth M.2.2.2.2.1 pos = some (pc, .arraylength, ln, a1, a2, w1, w2)) 
    (hJ : q_J g M d mc ms h0 mv Q k n (pos + 1, ls, .int (nI (g.2.length)) :: r, h)) : q_J g M d mc ms h0 mv Q k n (pos, ls, .ref 52 :: r, h) := by
  obtain rfl : ln = 1 := (q_at hok he).2.2.1 (Nat.succ_ne_zero _)
  intro p e s m args below meth cd D cA ρ0 ρ A H locs rls en hen hB hS
  cases he.symm.trans hen
  obtain ⟨hd, hnx, -, ho2⟩ := q_at hok he
  obtain ⟨en', he', hpc⟩ := hnx rfl
  obtain ⟨hx, hb, hr, hml, hts, hown, hlk, hnm, hxt⟩ := id hB
  obtain ⟨hK, hW, hVS, hX, hC, hst, hls, hlh, hag, hag2, hA, hnx0⟩ := id hS
  have h9 := hJ p e s m args below meth cd D cA ρ0 ρ A H locs rls en' he' hB ⟨hK, hW, hVS, hX, hC, q_cl1 q_vcl_i (q_tl hst), hls, hlh, hag, hag2, hA, hnx0⟩
  rw [hpc] at h9
  have hT := hX.2.2.2.2.2.2.2.1
  rw [← hag2 52 (by decide)] at hT
  exact va_tlen hx hb hT hVS rfl hd h9
theorem q_o_xtext {b : Nat} {ref : String} (hok : q_okM M = true) (he : q_nth M.2.2.2.2.1 pos = some (pc, .getfield idx, ln, a1, a2, w1, w2)) (hb1 : b < 49) (hw : q_gw w1 w2 = some (.fieldLink M.1.cls idx "HayBarn$Sign" "text" "Ljava/lang/String;") ∨ ∃ host, q_gw w1 w2 = some (.fieldLinkNest M.1.cls idx "HayBarn$Sign" "text" "Ljava/lang/String;" host))
    (hJ : q_J g M d mc ms h0 mv Q k n (pos + 1, ls, .ref (100 + b) :: r, h)) : q_J g M d mc ms h0 mv Q k n (pos, ls, .ref b :: r, h) := by
  obtain rfl : ln = 3 := (q_at hok he).2.2.1 (Nat.succ_ne_zero _)
  intro p e s m args below meth cd D cA ρ0 ρ A H locs rls en hen hB hS
  cases he.symm.trans hen
  obtain ⟨hd, hnx, -, ho2⟩ := q_at hok he
  obtain ⟨en', he', hpc⟩ := hnx rfl
  obtain ⟨hx, hb, hr, hml, hts, hown, hlk, hnm, hxt⟩ := id hB
  obtain ⟨hK, hW, hVS, hX, hC, hst, hls, hlh, hag, hag2, hA, hnx0⟩ := id hS
  have h9 := hJ p e s m args below meth cd D cA ρ0 ρ A H locs rls en' he' hB ⟨hK, hW, hVS, hX, hC, q_cl1 (fun z hz => by cases hz; exact Nat.lt_of_lt_of_le (show _ < 400 by omega) hnx0.1) (q_tl hst), hls, hlh, hag, hag2, hA, hnx0⟩
  rw [hpc] at h9
  have hT := (hX.2.2.1 b hb1).2.2
  rw [← hag2 b (by omega), ← hag2 (100 + b) (by omega)] at hT
  obtain ⟨cf, kf, fi, f, cell, g1, g2, g3, g4, g5, g6⟩ := hT.kept hVS.2.1
  rcases hw with hw | ⟨host, hw⟩
  · exact W.getf hx hb hown (hts _ (q_gw_in hw rfl)) g1 g2 g3 g4 (v := .ref (ρ (100 + b))) g5 rfl rfl hd h9
  · exact va_Wgetf hx hb hown (q_Xn hX (q_gw_in2 hw) rfl rfl) g1 g2 g3 g4 (v := .ref (ρ (100 + b))) g5 rfl rfl hd h9
theorem q_o_xord {b : Nat} (hok : q_okM M = true) (he : q_nth M.2.2.2.2.1 pos = some (pc, .getfield idx, ln, a1, a2, w1, w2)) (hb1 : b < 49) (hw : q_gw w1 w2 = some (.fieldLink M.1.cls idx "java/lang/Enum" "ordinal" "I"))
    (hJ : q_J g M d mc ms h0 mv Q k n (pos + 1, ls, .int (nI b) :: r, h)) : q_J g M d mc ms h0 mv Q k n (pos, ls, .ref b :: r, h) := by
  obtain rfl : ln = 3 := (q_at hok he).2.2.1 (Nat.succ_ne_zero _)
  intro p e s m args below meth cd D cA ρ0 ρ A H locs rls en hen hB hS
  cases he.symm.trans hen
  obtain ⟨hd, hnx, -, ho2⟩ := q_at hok he
  obtain ⟨en', he', hpc⟩ := hnx rfl
  obtain ⟨hx, hb, hr, hml, hts, hown, hlk, hnm, hxt⟩ := id hB
  obtain ⟨hK, hW, hVS, hX, hC, hst, hls, hlh, hag, hag2, hA, hnx0⟩ := id hS
  have h9 := hJ p e s m args below meth cd D cA ρ0 ρ A H locs rls en' he' hB ⟨hK, hW, hVS, hX, hC, q_cl1 q_vcl_i (q_tl hst), hls, hlh, hag, hag2, hA, hnx0⟩
  rw [hpc] at h9
  have hT := (hX.2.2.1 b hb1).2.1
  rw [← hag2 b (by omega)] at hT
  exact vk_getf hx hb hT hVS hown (hts _ (q_gw_in hw rfl)) (fun _ h8 => h8) hd h9
theorem q_o_xcoder {b : Nat} (hok : q_okM M = true) (he : q_nth M.2.2.2.2.1 pos = some (pc, .getfield idx, ln, a1, a2, w1, w2)) (hb1 : q_isStr b = true) (hb4 : b < 300) (hw : q_gw w1 w2 = some (.fieldLink M.1.cls idx "java/lang/String" "coder" "B"))
    (hJ : q_J g M d mc ms h0 mv Q k n (pos + 1, ls, .int 0 :: r, h)) : q_J g M d mc ms h0 mv Q k n (pos, ls, .ref b :: r, h) := by
  obtain rfl : ln = 3 := (q_at hok he).2.2.1 (Nat.succ_ne_zero _)
  intro p e s m args below meth cd D cA ρ0 ρ A H locs rls en hen hB hS
  cases he.symm.trans hen
  obtain ⟨hd, hnx, -, ho2⟩ := q_at hok he
  obtain ⟨en', he', hpc⟩ := hnx rfl
  obtain ⟨hx, hb, hr, hml, hts, hown, hlk, hnm, hxt⟩ := id hB
  obtain ⟨hK, hW, hVS, hX, hC, hst, hls, hlh, hag, hag2, hA, hnx0⟩ := id hS
  have h9 := hJ p e s m args below meth cd D cA ρ0 ρ A H locs rls en' he' hB ⟨hK, hW, hVS, hX, hC, q_cl1 q_vcl_i (q_tl hst), hls, hlh, hag, hag2, hA, hnx0⟩
  rw [hpc] at h9
  have hT := (hX.2.2.2.2.2.2.2.2.1 b hb1).2.1
  rw [← hag2 b (by omega)] at hT
  exact vk_getf hx hb hT hVS hown (hts _ (q_gw_in hw rfl)) (fun _ h8 => h8) hd h9
theorem q_o_xvalue {b : Nat} (hok : q_okM M = true) (he : q_nth M.2.2.2.2.1 pos = some (pc, .getfield idx, ln, a1, a2, w1, w2)) (hb1 : q_isStr b = true) (hb4 : b < 300) (hw : q_gw w1 w2 = some (.fieldLink M.1.cls idx "java/lang/String" "value" "[B"))
    (hJ : q_J g M d mc ms h0 mv Q k n (pos + 1, ls, .ref (100 + b) :: r, h)) : q_J g M d mc ms h0 mv Q k n (pos, ls, .ref b :: r, h) := by
  obtain rfl : ln = 3 := (q_at hok he).2.2.1 (Nat.succ_ne_zero _)
  intro p e s m args below meth cd D cA ρ0 ρ A H locs rls en hen hB hS
  cases he.symm.trans hen
  obtain ⟨hd, hnx, -, ho2⟩ := q_at hok he
  obtain ⟨en', he', hpc⟩ := hnx rfl
  obtain ⟨hx, hb, hr, hml, hts, hown, hlk, hnm, hxt⟩ := id hB
  obtain ⟨hK, hW, hVS, hX, hC, hst, hls, hlh, hag, hag2, hA, hnx0⟩ := id hS
  have h9 := hJ p e s m args below meth cd D cA ρ0 ρ A H locs rls en' he' hB ⟨hK, hW, hVS, hX, hC, q_cl1 (fun z hz => by cases hz; exact Nat.lt_of_lt_of_le (show _ < 400 by omega) hnx0.1) (q_tl hst), hls, hlh, hag, hag2, hA, hnx0⟩
  rw [hpc] at h9
  have hT := (hX.2.2.2.2.2.2.2.2.1 b hb1).2.2.1
  rw [← hag2 b (by omega), ← hag2 (100 + b) (by omega)] at hT
  exact vk_getf hx hb hT hVS hown (hts _ (q_gw_in hw rfl)) (fun _ h8 => h8) hd h9
theorem q_o_xslen {b : Nat} (hok : q_okM M = true) (he : q_nth M.2.2.2.2.1 pos = some (pc, .arraylength, ln, a1, a2, w1, w2)) (hb1 : q_isStr b = true) (hb4 : b < 300)
    (hJ : q_J g M d mc ms h0 mv Q k n (pos + 1, ls, .int (nI (q_str b).length) :: r, h)) : q_J g M d mc ms h0 mv Q k n (pos, ls, .ref (100 + b) :: r, h) := by
  obtain rfl : ln = 1 := (q_at hok he).2.2.1 (Nat.succ_ne_zero _)
  intro p e s m args below meth cd D cA ρ0 ρ A H locs rls en hen hB hS
  cases he.symm.trans hen
  obtain ⟨hd, hnx, -, ho2⟩ := q_at hok he
  obtain ⟨en', he', hpc⟩ := hnx rfl
  obtain ⟨hx, hb, hr, hml, hts, hown, hlk, hnm, hxt⟩ := id hB
  obtain ⟨hK, hW, hVS, hX, hC, hst, hls, hlh, hag, hag2, hA, hnx0⟩ := id hS
  have h9 := hJ p e s m args below meth cd D cA ρ0 ρ A H locs rls en' he' hB ⟨hK, hW, hVS, hX, hC, q_cl1 q_vcl_i (q_tl hst), hls, hlh, hag, hag2, hA, hnx0⟩
  rw [hpc] at h9
  have hT := (hX.2.2.2.2.2.2.2.2.1 b hb1).2.2.2
  rw [← hag2 (100 + b) (by omega)] at hT
  exact va_tlen hx hb hT hVS rfl hd h9
theorem q_o_xsbyte {b : Nat} {i : Int32} (hok : q_okM M = true) (he : q_nth M.2.2.2.2.1 pos = some (pc, .baload, ln, a1, a2, w1, w2)) (hb1 : q_isStr b = true) (hb4 : b < 300) (hi : i = nI j) (hj : j < (q_str b).length) (hL : (q_str b).length < 2147483648)
    (hJ : q_J g M d mc ms h0 mv Q k n (pos + 1, ls, .int ((q_str b).getD j 0) :: r, h)) : q_J g M d mc ms h0 mv Q k n (pos, ls, .int i :: .ref (100 + b) :: r, h) := by
  obtain rfl : ln = 1 := (q_at hok he).2.2.1 (Nat.succ_ne_zero _)
  intro p e s m args below meth cd D cA ρ0 ρ A H locs rls en hen hB hS
  cases he.symm.trans hen
  obtain ⟨hd, hnx, -, ho2⟩ := q_at hok he
  obtain ⟨en', he', hpc⟩ := hnx rfl
  obtain ⟨hx, hb, hr, hml, hts, hown, hlk, hnm, hxt⟩ := id hB
  obtain ⟨hK, hW, hVS, hX, hC, hst, hls, hlh, hag, hag2, hA, hnx0⟩ := id hS
  have h9 := hJ p e s m args below meth cd D cA ρ0 ρ A H locs rls en' he' hB ⟨hK, hW, hVS, hX, hC, q_cl1 q_vcl_i (q_tl (q_tl hst)), hls, hlh, hag, hag2, hA, hnx0⟩
  rw [hpc] at h9
  subst hi
  have hin : vp_in (nI j) (q_str b).length := vp_in_nI hj (by omega)
  have hT := (hX.2.2.2.2.2.2.2.2.1 b hb1).2.2.2
  rw [← hag2 (100 + b) (by omega)] at hT
  exact va_tb hx hb hT hVS hin (by rw [nI_clamp (by omega)]; rfl) hd h9
theorem q_o_xcompact  (hok : q_okM M = true) (he : q_nth M.2.2.2.2.1 pos = some (pc, .getstatic idx, ln, a1, a2, w1, w2)) (hw : q_gw w1 w2 = some (.fieldLink M.1.cls idx "java/lang/String" "COMPACT_STRINGS" "Z"))
    (hJ : q_J g M d mc ms h0 mv Q k n (pos + 1, ls, .int 1 :: r, h)) : q_J g M d mc ms h0 mv Q k n (pos, ls, r, h) := by
  obtain rfl : ln = 3 := (q_at hok he).2.2.1 (Nat.succ_ne_zero _)
  intro p e s m args below meth cd D cA ρ0 ρ A H locs rls en hen hB hS
  cases he.symm.trans hen
  obtain ⟨hd, hnx, -, ho2⟩ := q_at hok he
  obtain ⟨en', he', hpc⟩ := hnx rfl
  obtain ⟨hx, hb, hr, hml, hts, hown, hlk, hnm, hxt⟩ := id hB
  obtain ⟨hK, hW, hVS, hX, hC, hst, hls, hlh, hag, hag2, hA, hnx0⟩ := id hS
  have h9 := hJ p e s m args below meth cd D cA ρ0 ρ A H locs rls en' he' hB ⟨hK, hW, hVS, hX, hC, q_cl1 q_vcl_i hst, hls, hlh, hag, hag2, hA, hnx0⟩
  rw [hpc] at h9
  obtain ⟨-, -, -, -, -, -, -, -, -, -, -, -, -, -, hZ, -⟩ := hX
  exact va_gets hx hb hZ hVS hown (hts _ (q_gw_in hw rfl)) (fun _ h8 => h8) hd h9
theorem q_o_xsioobe (hok : q_okM M = true) (he : q_nth M.2.2.2.2.1 pos = some (pc, .getstatic idx, ln, a1, a2, w1, w2)) (hw : q_gw w1 w2 = some (.fieldLink M.1.cls idx "jdk/internal/util/Preconditions" "SIOOBE_FORMATTER" "Ljava/util/function/BiFunction;"))
    (hJ : q_J g M d mc ms h0 mv Q k n (pos + 1, ls, .null :: r, h)) (hJ2 : q_J g M d mc ms h0 mv Q k n (pos + 1, ls, .ref 399 :: r, h)) : q_J g M d mc ms h0 mv Q k n (pos, ls, r, h) := by
  obtain rfl : ln = 3 := (q_at hok he).2.2.1 (Nat.succ_ne_zero _)
  intro p e s m args below meth cd D cA ρ0 ρ A H locs rls en hen hB hS
  cases he.symm.trans hen
  obtain ⟨hd, hnx, -, ho2⟩ := q_at hok he
  obtain ⟨en', he', hpc⟩ := hnx rfl
  obtain ⟨hx, hb, hr, hml, hts, hown, hlk, hnm, hxt⟩ := id hB
  obtain ⟨hK, hW, hVS, hX, hC, hst, hls, hlh, hag, hag2, hA, hnx0⟩ := id hS
  have h9 := hJ p e s m args below meth cd D cA ρ0 ρ A H locs rls en' he' hB ⟨hK, hW, hVS, hX, hC, q_cl1 q_vcl_n hst, hls, hlh, hag, hag2, hA, hnx0⟩
  have h7 := hJ2 p e s m args below meth cd D cA ρ0 ρ A H locs rls en' he' hB ⟨hK, hW, hVS, hX, hC, q_cl1 (fun z hz => by cases hz; exact Nat.lt_of_lt_of_le (by decide) hnx0.1) hst, hls, hlh, hag, hag2, hA, hnx0⟩
  rw [hpc] at h9 h7
  have hX9 := id hX
  obtain ⟨-, -, -, -, -, -, -, -, -, -, -, -, -, -, -, hZ, -⟩ := hX9
  rcases hZ with hZ | hZ
  · exact va_gets hx hb hZ hVS hown (hts _ (q_gw_in hw rfl)) (fun _ h8 => h8) hd h9
  · rw [← hag2 399 (by decide)] at hZ
    exact va_gets hx hb hZ hVS hown (hts _ (q_gw_in hw rfl)) (fun _ h8 => h8) hd h7
end QROWS
