/-! THE HEAP: reads, writes, rows, what stands outside -/
theorem q_cls_in : ∀ (ci : Nat) (c : vw_C), vwCl[ci]? = some c → ∀ w ∈ u_ws c.1 c.2.1 c.2.2, w ∈ q_tb := by
  have h : ∀ c ∈ vwCl, ∀ w ∈ u_ws c.1 c.2.1 c.2.2, w ∈ lw_tbl := by
    intro c hc
    simp only [vwCl, List.mem_cons, List.not_mem_nil, or_false] at hc
    rcases hc with rfl | rfl | rfl | rfl | rfl | rfl | rfl | rfl | rfl | rfl | rfl | rfl | rfl | rfl | rfl
    · exact inX1
    · exact inX2
    · exact inX3
    · exact inX4
    · exact inX5
    · exact inX6
    · exact inX7
    · exact inX8
    · exact inX10
    · exact inX11
    · exact inX12
    · exact inX13
    · exact inX14
    · exact inJ0
    · exact inJ4
  intro ci c hc w hw
  refine List.mem_filter.mpr ⟨h c (List.mem_of_getElem? hc) w hw, ?_⟩
  obtain ⟨k, -, rfl⟩ := List.mem_map.mp hw
  unfold u_lay
  split <;> rfl
/-- the kinds of fields are those of the descriptors -/
def q_chk : Bool := (List.range 15).all fun ci => match q_nth vwCl ci with
  | some c => (List.range c.2.2).all fun k => match parseFieldDescriptor (c.2.1 k).2.2.1 with
    | some ty => (List.range 2).all fun v => (match q_kd ci v k, ty with
      | 0, .int => true
      | 0, _ => false
      | 3, .boolean => true
      | 3, _ => false
      | 4, .byte => true
      | 4, _ => false
      | 9, _ => true
      | _, .object _ => true
      | _, .array _ => true
      | _, _ => false)
    | none => false
  | none => false
theorem q_chk_ok : q_chk = true := by decide +kernel
def q_chk2 : Bool := (List.range 15).all fun ci => match q_nth vwCl ci with
  | some c => (List.range c.2.2).all fun a => (List.range c.2.2).all fun b => decide (a = b) || !decide ((c.2.1 a).2.1 = (c.2.1 b).2.1)
  | none => false
theorem q_chk2_ok : q_chk2 = true := by decide +kernel
def q_fty (ci k : Nat) : FieldType := match q_nth vwCl ci with
  | some c => (parseFieldDescriptor (c.2.1 k).2.2.1).getD .int
  | none => .int
theorem q_cl_lt {ci : Nat} {c : vw_C} (hc : vwCl[ci]? = some c) : ci < 15 := (List.getElem?_eq_some_iff.mp hc).1
theorem q_fty_ok {ci : Nat} {c : vw_C} (hc : vwCl[ci]? = some c) : ∀ k, k < c.2.2 → parseFieldDescriptor (c.2.1 k).2.2.1 = some (q_fty ci k) := by
  intro k hk
  have h := q_chk_ok
  unfold q_chk at h
  rw [List.all_eq_true] at h
  have h1 := h ci (List.mem_range.mpr (q_cl_lt hc))
  unfold q_fty
  rw [q_nth_eq, hc] at h1 ⊢
  simp only [List.all_eq_true] at h1
  have h2 := h1 k (List.mem_range.mpr hk)
  show _ = some ((parseFieldDescriptor (c.2.1 k).2.2.1).getD .int)
  cases hp : parseFieldDescriptor (c.2.1 k).2.2.1 with
  | none => rw [hp] at h2; cases h2
  | some ty => rfl
theorem q_kd_ty {ci v k : Nat} {c : vw_C} (hc : vwCl[ci]? = some c) (hk : k < c.2.2) (hv : v < 2) : (q_kd ci v k = 0 → q_fty ci k = .int) ∧ (q_kd ci v k = 1 ∨ q_kd ci v k = 2 → (∃ n, q_fty ci k = .object n) ∨ ∃ t, q_fty ci k = .array t) := by
  have h := q_chk_ok
  unfold q_chk at h
  rw [List.all_eq_true] at h
  have h1 := h ci (List.mem_range.mpr (q_cl_lt hc))
  rw [q_nth_eq, hc] at h1
  simp only [List.all_eq_true] at h1
  have h2 := h1 k (List.mem_range.mpr hk)
  rw [q_fty_ok hc k hk] at h2
  simp only [List.all_eq_true] at h2
  have h3 := h2 v (List.mem_range.mpr hv)
  generalize q_kd ci v k = x at h3
  generalize q_fty ci k = y at h3
  refine ⟨fun e => ?_, fun e => ?_⟩
  · subst e
    cases y <;> first | rfl | cases h3
  · rcases e with rfl | rfl <;> (cases y <;> first | exact Or.inl ⟨_, rfl⟩ | exact Or.inr ⟨_, rfl⟩ | cases h3)
theorem q_kd_ty3 {ci v k : Nat} {c : vw_C} (hc : vwCl[ci]? = some c) (hk : k < c.2.2) (hv : v < 2) : (q_kd ci v k = 3 → q_fty ci k = .boolean) ∧ (q_kd ci v k = 4 → q_fty ci k = .byte) := by
  have h := q_chk_ok
  unfold q_chk at h
  rw [List.all_eq_true] at h
  have h1 := h ci (List.mem_range.mpr (q_cl_lt hc))
  rw [q_nth_eq, hc] at h1
  simp only [List.all_eq_true] at h1
  have h2 := h1 k (List.mem_range.mpr hk)
  rw [q_fty_ok hc k hk] at h2
  simp only [List.all_eq_true] at h2
  have h3 := h2 v (List.mem_range.mpr hv)
  generalize q_kd ci v k = x at h3
  generalize q_fty ci k = y at h3
  refine ⟨fun e => ?_, fun e => ?_⟩
  · subst e
    cases y <;> first | rfl | cases h3
  · subst e
    cases y <;> first | rfl | cases h3
theorem q_names {ci : Nat} {c : vw_C} (hc : vwCl[ci]? = some c) : ∀ a, a < c.2.2 → ∀ b, b < c.2.2 → a ≠ b → (c.2.1 a).2.1 ≠ (c.2.1 b).2.1 := by
  intro a ha b hb hne
  have h := q_chk2_ok
  unfold q_chk2 at h
  rw [List.all_eq_true] at h
  have h1 := h ci (List.mem_range.mpr (q_cl_lt hc))
  rw [q_nth_eq, hc] at h1
  simp only [List.all_eq_true] at h1
  have h2 := h1 a (List.mem_range.mpr ha) b (List.mem_range.mpr hb)
  simp only [Bool.or_eq_true, decide_eq_true_eq, Bool.not_eq_true', decide_eq_false_iff_not] at h2
  exact h2.resolve_left hne
theorem q_fld_of {ci k : Nat} {f : String × String × String × Bool} (hf : q_fld ci k = some f) : ∃ c : vw_C, vwCl[ci]? = some c ∧ k < c.2.2 ∧ c.2.1 k = f ∧ q_nf ci = c.2.2 := by
  unfold q_fld at hf
  rw [q_nth_eq] at hf
  cases hc : vwCl[ci]? with
  | none => rw [hc] at hf; cases hf
  | some c =>
    rw [hc] at hf
    dsimp only at hf
    cases hb : Nat.blt k c.2.2 with
    | false => rw [hb] at hf; cases hf
    | true =>
      rw [hb] at hf
      refine ⟨c, rfl, by simpa [Nat.blt_eq] using hb, Option.some.inj hf, ?_⟩
      unfold q_nf
      rw [q_nth_eq, hc]
/-- a field's word -/
theorem q_isF_of {own : String} {idx : Nat} {f : String × String × String × Bool} {w : Option Jvm.Cond} (hw : q_isF own idx f w = true) :
    w = some (.fieldLink own idx f.1 f.2.1 f.2.2.1) ∨ ∃ host, w = some (.fieldLinkNest own idx f.1 f.2.1 f.2.2.1 host) := by
  unfold q_isF at hw
  split at hw
  · simp only [Bool.and_eq_true, decide_eq_true_eq] at hw
    obtain ⟨⟨⟨⟨rfl, rfl⟩, rfl⟩, rfl⟩, rfl⟩ := hw
    exact Or.inl rfl
  · simp only [Bool.and_eq_true, decide_eq_true_eq] at hw
    obtain ⟨⟨⟨⟨rfl, rfl⟩, rfl⟩, rfl⟩, rfl⟩ := hw
    exact Or.inr ⟨_, rfl⟩
  · cases hw
theorem q_Wd_at {D : va_G} {cA : Nat → ClassId} {ρ : Nat → Nat} {h : q_H} {A : Nat → Prop} {H : Heap} (hW : q_Wd D cA ρ h A H) {a : Nat} (ha : 400 ≤ a) (ha2 : a < q_nx h) :
    ∃ (ws : va_W) (e : va_E), ws.length + 400 = q_nx h ∧ (∀ (k : Nat) (q : Nat × va_E), ws[k]? = some q → q.1 = ρ (400 + k) ∧ q_cr cA ρ h (400 + k) q.2 (q_sh h (400 + k))) ∧ va_P D vwCl ws H ∧ va_D A ws ∧ ws[a - 400]? = some (ρ a, e) ∧ q_cr cA ρ h a e (q_sh h a) := by
  obtain ⟨ws, h1, h2, h3, h4⟩ := hW
  have hk : a - 400 < ws.length := by omega
  have he : ws[a - 400]? = some ws[a - 400] := List.getElem?_eq_getElem hk
  obtain ⟨e1, e2⟩ := h2 _ _ he
  rw [show 400 + (a - 400) = a by omega] at e1 e2
  refine ⟨ws, ws[a - 400].2, h1, h2, h3, h4, ?_, e2⟩
  rw [he, ← e1]
theorem q_cr_congr {cA : Nat → ClassId} {ρ : Nat → Nat} {h h' : q_H} {a : Nat} {e : va_E} {s : q_Sh} (hI : q_I h' a = q_I h a) (hR : q_R h' a = q_R h a) (hE : q_E h' a = q_E h a) (hL : q_L h' a = q_L h a) (hc : q_cr cA ρ h a e s) : q_cr cA ρ h' a e s := by
  obtain ⟨t, c, n⟩ := s
  match t, hc with
  | 0, hc =>
    obtain ⟨fs, e1, e2, e3⟩ := hc
    refine ⟨fs, e1, e2, fun j hj hk => ?_⟩
    rw [e3 j hj hk]
    unfold q_fv
    split <;> simp only [hI, hR, hE]
  | 1, hc => show e = _; rw [hI]; exact hc
  | 2, hc => show e = _; rw [hL]; exact hc
  | 3, hc => show e = _; rw [hR]; exact hc
  | t + 4, hc => show e = _; rw [hE]; exact hc
theorem q_Wd_set {D : va_G} {cA : Nat → ClassId} {ρ : Nat → Nat} {h h' : q_H} {A : Nat → Prop} {H1 : Heap} {ws : va_W} {a : Nat} {e' : va_E} (h1 : ws.length + 400 = q_nx h) (h2 : ∀ (k : Nat) (q : Nat × va_E), ws[k]? = some q → q.1 = ρ (400 + k) ∧ q_cr cA ρ h (400 + k) q.2 (q_sh h (400 + k)))
    (ha : 400 ≤ a) (ha2 : a < q_nx h) (hn : q_nx h' = q_nx h) (hs : q_sh h' = q_sh h) (hrow : ∀ b, b ≠ a → q_I h' b = q_I h b ∧ q_R h' b = q_R h b ∧ q_E h' b = q_E h b ∧ q_L h' b = q_L h b) (hc : q_cr cA ρ h' a e' (q_sh h' a))
    (hP : va_P D vwCl (ws.set (a - 400) (ρ a, e')) H1) (hD : va_D A (ws.set (a - 400) (ρ a, e'))) : q_Wd D cA ρ h' A H1 := by
  refine ⟨_, by rw [List.length_set, hn]; exact h1, fun k q hq => ?_, hP, hD⟩
  by_cases hk : k = a - 400
  · have hka : 400 + k = a := by omega
    rw [hka]
    rw [hk, List.getElem?_set_self (by omega)] at hq
    cases hq
    exact ⟨rfl, hc⟩
  · rw [List.getElem?_set_ne (Ne.symm hk)] at hq
    obtain ⟨e1, e2⟩ := h2 k q hq
    obtain ⟨r1, r2, r3, r4⟩ := hrow (400 + k) (by omega)
    rw [hs]
    exact ⟨e1, q_cr_congr r1 r2 r3 r4 e2⟩
theorem q_rf_vz (ρ : Nat → Nat) (x : Option Nat) : va_rf (x.map ρ) = q_vz ρ (va_rf x) := by cases x <;> rfl
theorem q_Xn {g : q_G} {ρ : Nat → Nat} {A : Nat → Prop} {s : State} {H : Heap} {w : Jvm.Cond} {args : Array Value} (hX : q_Ext g ρ A s H) (hw : w ∈ lw_tbl) (hn : q_isN w = true) (ho : w.onTables = true) : w.before args s = true := by
  obtain ⟨-, -, -, -, -, -, -, -, -, -, -, -, -, -, -, -, -, -, hX⟩ := hX
  exact va_Nw.use ho (hX w hw hn)
section QHEAP
variable {g : q_G} {M : q_M} {d mc ms : Nat} {h0 : q_H} {mv : List Nat} {Q : (Option Value ⊕ String) → q_H → Prop} {k n pos pc ln a1 a2 w1 w2 a ci v idx : Nat} {ls : List (Option Value)} {r : List Value} {h : q_H}
theorem q_o_getI (hok : q_okM M = true) (he : q_nth M.2.2.2.2.1 pos = some (pc, .getfield idx, ln, ci, a2, w1, w2)) (ha : 400 ≤ a) (hsh : q_sh h a = (0, ci, v)) (hci : ci < 15) (hkd : q_kd ci v a2 = 0)
    (hJ : q_J g M d mc ms h0 mv Q k n (pos + 1, ls, (.int (q_I h a a2)) :: r, h)) : q_J g M d mc ms h0 mv Q k n (pos, ls, .ref a :: r, h) := by
  obtain rfl : ln = 3 := (q_at hok he).2.2.1 (Nat.succ_ne_zero _)
  intro p e s m args below meth cd D cA ρ0 ρ A H locs rls en hen hB hS
  cases he.symm.trans hen
  obtain ⟨hd, hnx, -, ho2⟩ := q_at hok he
  obtain ⟨en', he', hpc⟩ := hnx rfl
  obtain ⟨hx, hb, hr, hml, hts, hown, hlk, hnm, hxt⟩ := id hB
  obtain ⟨hK, hW, hVS, hX, hC, hst, hls, hlh, hag, hag2, hA, hnx0⟩ := id hS
  have ha2 : a < q_nx h := q_lt hC hsh (by decide)
  have h9 := hJ p e s m args below meth cd D cA ρ0 ρ A H locs rls en' he' hB ⟨hK, hW, hVS, hX, hC, q_cl1 q_vcl_i (q_tl hst), hls, hlh, hag, hag2, hA, hnx0⟩
  rw [hpc] at h9
  simp only [q_ok2, Bool.or_eq_true, decide_eq_true_eq] at ho2
  have ho3 := ho2.resolve_left (by omega)
  cases hf : q_fld ci a2 with
  | none => rw [hf] at ho3; cases ho3
  | some f =>
  rw [hf] at ho3
  obtain ⟨c, hc, hk, hcf, hnf⟩ := q_fld_of hf
  obtain ⟨ws, e9, e1, e2, hP, hD, hat, hcr⟩ := q_Wd_at hW ha ha2
  rw [hsh] at hcr
  obtain ⟨fs, rfl, hfl, hfv⟩ := hcr
  have hval := hfv a2 (by rw [hnf]; exact hk) (by rw [hkd]; decide)
  rw [hkd] at hval
  have hv2 : fs[a2]? = some (q_vz ρ (.int (q_I h a a2))) := hval
  subst hcf
  rcases q_isF_of ho3 with hw | ⟨host, hw⟩
  · exact va_get (T := c.2.1) (N := c.2.2) (C := c.1) hx hb hts (q_cls_in ci c hc) hown hK hP (a - 400) hat hc a2 hk (hts _ (q_gw_in hw rfl)) (fun _ h8 => h8) hv2 hd h9
  · exact va_getN (T := c.2.1) (N := c.2.2) (C := c.1) hx hb hts (q_cls_in ci c hc) hown hK hP (a - 400) hat hc a2 hk (q_Xn hX (q_gw_in2 hw) rfl rfl) (fun _ h8 => h8) hv2 hd h9
theorem q_o_getR (hok : q_okM M = true) (he : q_nth M.2.2.2.2.1 pos = some (pc, .getfield idx, ln, ci, a2, w1, w2)) (ha : 400 ≤ a) (hsh : q_sh h a = (0, ci, v)) (hci : ci < 15) (hkd : q_kd ci v a2 = 1)
    (hJ : q_J g M d mc ms h0 mv Q k n (pos + 1, ls, (va_rf (q_R h a a2)) :: r, h)) : q_J g M d mc ms h0 mv Q k n (pos, ls, .ref a :: r, h) := by
  obtain rfl : ln = 3 := (q_at hok he).2.2.1 (Nat.succ_ne_zero _)
  intro p e s m args below meth cd D cA ρ0 ρ A H locs rls en hen hB hS
  cases he.symm.trans hen
  obtain ⟨hd, hnx, -, ho2⟩ := q_at hok he
  obtain ⟨en', he', hpc⟩ := hnx rfl
  obtain ⟨hx, hb, hr, hml, hts, hown, hlk, hnm, hxt⟩ := id hB
  obtain ⟨hK, hW, hVS, hX, hC, hst, hls, hlh, hag, hag2, hA, hnx0⟩ := id hS
  have ha2 : a < q_nx h := q_lt hC hsh (by decide)
  have h9 := hJ p e s m args below meth cd D cA ρ0 ρ A H locs rls en' he' hB ⟨hK, hW, hVS, hX, hC, q_cl1 (by cases hq : q_R h a a2 with | none => exact q_vcl_n | some b => intro z hz; cases hz; exact hC.1 _ _ _ hq) (q_tl hst), hls, hlh, hag, hag2, hA, hnx0⟩
  rw [hpc] at h9
  simp only [q_ok2, Bool.or_eq_true, decide_eq_true_eq] at ho2
  have ho3 := ho2.resolve_left (by omega)
  cases hf : q_fld ci a2 with
  | none => rw [hf] at ho3; cases ho3
  | some f =>
  rw [hf] at ho3
  obtain ⟨c, hc, hk, hcf, hnf⟩ := q_fld_of hf
  obtain ⟨ws, e9, e1, e2, hP, hD, hat, hcr⟩ := q_Wd_at hW ha ha2
  rw [hsh] at hcr
  obtain ⟨fs, rfl, hfl, hfv⟩ := hcr
  have hval := hfv a2 (by rw [hnf]; exact hk) (by rw [hkd]; decide)
  rw [hkd] at hval
  have hv2 : fs[a2]? = some (q_vz ρ (va_rf (q_R h a a2))) := hval.trans (congrArg some (q_rf_vz ρ _))
  subst hcf
  rcases q_isF_of ho3 with hw | ⟨host, hw⟩
  · exact va_get (T := c.2.1) (N := c.2.2) (C := c.1) hx hb hts (q_cls_in ci c hc) hown hK hP (a - 400) hat hc a2 hk (hts _ (q_gw_in hw rfl)) (fun _ h8 => h8) hv2 hd h9
  · exact va_getN (T := c.2.1) (N := c.2.2) (C := c.1) hx hb hts (q_cls_in ci c hc) hown hK hP (a - 400) hat hc a2 hk (q_Xn hX (q_gw_in2 hw) rfl rfl) (fun _ h8 => h8) hv2 hd h9
theorem q_o_getE (hok : q_okM M = true) (he : q_nth M.2.2.2.2.1 pos = some (pc, .getfield idx, ln, ci, a2, w1, w2)) (ha : 400 ≤ a) (hsh : q_sh h a = (0, ci, v)) (hci : ci < 15) (hkd : q_kd ci v a2 = 2)
    (hJ : q_J g M d mc ms h0 mv Q k n (pos + 1, ls, (va_rf (q_E h a a2)) :: r, h)) : q_J g M d mc ms h0 mv Q k n (pos, ls, .ref a :: r, h) := by
  obtain rfl : ln = 3 := (q_at hok he).2.2.1 (Nat.succ_ne_zero _)
  intro p e s m args below meth cd D cA ρ0 ρ A H locs rls en hen hB hS
  cases he.symm.trans hen
  obtain ⟨hd, hnx, -, ho2⟩ := q_at hok he
  obtain ⟨en', he', hpc⟩ := hnx rfl
  obtain ⟨hx, hb, hr, hml, hts, hown, hlk, hnm, hxt⟩ := id hB
  obtain ⟨hK, hW, hVS, hX, hC, hst, hls, hlh, hag, hag2, hA, hnx0⟩ := id hS
  have ha2 : a < q_nx h := q_lt hC hsh (by decide)
  have h9 := hJ p e s m args below meth cd D cA ρ0 ρ A H locs rls en' he' hB ⟨hK, hW, hVS, hX, hC, q_cl1 (by cases hq : q_E h a a2 with | none => exact q_vcl_n | some b => intro z hz; cases hz; exact Nat.lt_of_lt_of_le (hC.2.1 _ _ _ hq) (Nat.le_trans (by decide) hnx0.1)) (q_tl hst), hls, hlh, hag, hag2, hA, hnx0⟩
  rw [hpc] at h9
  simp only [q_ok2, Bool.or_eq_true, decide_eq_true_eq] at ho2
  have ho3 := ho2.resolve_left (by omega)
  cases hf : q_fld ci a2 with
  | none => rw [hf] at ho3; cases ho3
  | some f =>
  rw [hf] at ho3
  obtain ⟨c, hc, hk, hcf, hnf⟩ := q_fld_of hf
  obtain ⟨ws, e9, e1, e2, hP, hD, hat, hcr⟩ := q_Wd_at hW ha ha2
  rw [hsh] at hcr
  obtain ⟨fs, rfl, hfl, hfv⟩ := hcr
  have hval := hfv a2 (by rw [hnf]; exact hk) (by rw [hkd]; decide)
  rw [hkd] at hval
  have hv2 : fs[a2]? = some (q_vz ρ (va_rf (q_E h a a2))) := hval.trans (congrArg some (q_rf_vz ρ _))
  subst hcf
  rcases q_isF_of ho3 with hw | ⟨host, hw⟩
  · exact va_get (T := c.2.1) (N := c.2.2) (C := c.1) hx hb hts (q_cls_in ci c hc) hown hK hP (a - 400) hat hc a2 hk (hts _ (q_gw_in hw rfl)) (fun _ h8 => h8) hv2 hd h9
  · exact va_getN (T := c.2.1) (N := c.2.2) (C := c.1) hx hb hts (q_cls_in ci c hc) hown hK hP (a - 400) hat hc a2 hk (q_Xn hX (q_gw_in2 hw) rfl rfl) (fun _ h8 => h8) hv2 hd h9
theorem q_o_putI {x : Int32} (hok : q_okM M = true) (he : q_nth M.2.2.2.2.1 pos = some (pc, .putfield idx, ln, ci, a2, w1, w2)) (ha : 400 ≤ a) (hsh : q_sh h a = (0, ci, v)) (hv2 : v < 2) (hkd : q_kd ci v a2 = 0) 
    (hJ : q_J g M d mc ms h0 mv Q k n (pos + 1, ls, r, (q_nx h, q_sh h, q_u2 (q_I h) a a2 x, q_R h, q_E h, q_L h))) : q_J g M d mc ms h0 mv Q k n (pos, ls, (.int x) :: .ref a :: r, h) := by
  obtain rfl : ln = 3 := (q_at hok he).2.2.1 (Nat.succ_ne_zero _)
  intro p e s m args below meth cd D cA ρ0 ρ A H locs rls en hen hB hS
  cases he.symm.trans hen
  obtain ⟨hd, hnx, -, ho2⟩ := q_at hok he
  obtain ⟨en', he', hpc⟩ := hnx rfl
  obtain ⟨hx, hb, hr, hml, hts, hown, hlk, hnm, hxt⟩ := id hB
  obtain ⟨hK, hW, hVS, hX, hC, hst, hls, hlh, hag, hag2, hA, hnx0⟩ := id hS
  have ha2 : a < q_nx h := q_lt hC hsh (by decide)
  simp only [q_ok2] at ho2
  cases hf : q_fld ci a2 with
  | none => rw [hf] at ho2; cases ho2
  | some f =>
  rw [hf] at ho2
  simp only [Bool.and_eq_true] at ho2
  obtain ⟨ho3, ho4⟩ := ho2
  obtain ⟨c, hc, hk, hcf, hnf⟩ := q_fld_of hf
  obtain ⟨ws, e9, e1, e2, hP, hD, hat, hcr⟩ := q_Wd_at hW ha ha2
  rw [hsh] at hcr
  obtain ⟨fs, rfl, hfl, hfv⟩ := hcr
  have hkl : a2 < fs.length := by rw [hfl, hnf]; exact hk
  subst hcf
  have hty := (q_kd_ty (v := v) hc hk hv2)
  have hnar : narrow (q_fty ci a2) (q_vz ρ (.int x)) = q_vz ρ (.int x) ∧ fits (q_fty ci a2) (q_vz ρ (.int x)) = true := by
    rw [hty.1 hkd]; exact ⟨rfl, rfl⟩
  have fin : ∀ (H1 : Heap) (locs1 : List Loc), va_P D vwCl (ws.set (a - 400) (ρ a, .inr (ci, fs.set a2 (q_vz ρ (.int x))))) H1 → va_D A (ws.set (a - 400) (ρ a, .inr (ci, fs.set a2 (q_vz ρ (.int x))))) → va_S A s.heap H1 locs1 →
      W p g.1 e (q_rm d mc ms) s m args below meth cd H1 locs1 k n (vx_MQ below (q_Qc D cA ρ0 h0 mv A Q) (q_XC D cA ρ0 h0 mv A Q) args s mc ms A) (F0 m (pc + 3) rls (r.map (q_vz ρ))) := by
    intro H1 locs1 hP1 hD1 hS1
    have hW1 : q_Wd D cA ρ (q_nx h, q_sh h, q_u2 (q_I h) a a2 x, q_R h, q_E h, q_L h) A H1 := by
      refine q_Wd_set e1 e2 ha ha2 rfl rfl (fun b hb => ⟨q_u2_row _ _ _ _ _ hb, rfl, rfl, rfl⟩) ?_ hP1 hD1
      show q_cr cA ρ _ a _ (q_sh h a)
      rw [hsh]
      refine ⟨_, rfl, by rw [List.length_set]; exact hfl, fun j hj hkj => ?_⟩
      by_cases hj2 : j = a2
      · subst hj2
        rw [List.getElem?_set_self hkl, hkd]
        exact congrArg (fun z => some (Value.int z)) (q_u2_s _ _ _ _).symm
      · rw [List.getElem?_set_ne (Ne.symm hj2), hfv j hj hkj]
        unfold q_fv
        split <;> first | rfl | (dsimp only [q_I, q_R, q_E]; rw [q_u2_j _ _ _ _ _ _ hj2])
    have h9 := hJ p e s m args below meth cd D cA ρ0 ρ A H1 locs1 rls en' he' hB ⟨hK, hW1, hS1, hX, hC, q_tl (q_tl hst), hls, hlh, hag, hag2, hA, hnx0⟩
    rw [hpc] at h9
    exact h9
  cases hfin : (c.2.1 a2).2.2.2 with
  | true =>
    rw [hfin] at ho4
    simp only [Bool.not_true, Bool.false_or, Bool.and_eq_true, decide_eq_true_eq] at ho4
    have ho4 : M.1.name = "<init>" ∧ (c.2.1 a2).1 = M.1.cls ∧ ∀ host, q_gw w1 w2 ≠ some (.fieldLinkNest M.1.cls idx (c.2.1 a2).1 (c.2.1 a2).2.1 (c.2.1 a2).2.2.1 host) := ⟨ho4.1.1, ho4.1.2, fun host hh => by rw [hh] at ho4; exact absurd ho4.2 (by simp [q_plain])⟩
    rcases q_isF_of ho3 with hw | ⟨host, hw⟩
    · exact va_putF (T := c.2.1) (N := c.2.2) (C := c.1) hx hb hts (q_cls_in ci c hc) (q_fty ci) (q_fty_ok hc) (q_names hc) hown hK hP hD hVS (a - 400) hat hc a2 hk (hts _ (q_gw_in hw rfl)) (fun _ h8 => h8) hfin (by rw [hnm]; exact ho4.1) ho4.2.1 (q_fty_ok hc a2 hk) hnar.1 hnar.2 hkl hd fin
    · exact absurd hw (ho4.2.2 host)
  | false =>
    rcases q_isF_of ho3 with hw | ⟨host, hw⟩
    · exact va_put (T := c.2.1) (N := c.2.2) (C := c.1) hx hb hts (q_cls_in ci c hc) (q_fty ci) (q_fty_ok hc) (q_names hc) hown hK hP hD hVS (a - 400) hat hc a2 hk (hts _ (q_gw_in hw rfl)) (fun _ h8 => h8) hfin (q_fty_ok hc a2 hk) hnar.1 hnar.2 hkl hd fin
    · exact va_putN (T := c.2.1) (N := c.2.2) (C := c.1) hx hb hts (q_cls_in ci c hc) (q_fty ci) (q_fty_ok hc) (q_names hc) hown hK hP hD hVS (a - 400) hat hc a2 hk (q_Xn hX (q_gw_in2 hw) rfl rfl) (fun _ h8 => h8) hfin (q_fty_ok hc a2 hk) hnar.1 hnar.2 hkl hd fin
theorem q_o_putR {b : Nat} (hok : q_okM M = true) (he : q_nth M.2.2.2.2.1 pos = some (pc, .putfield idx, ln, ci, a2, w1, w2)) (ha : 400 ≤ a) (hsh : q_sh h a = (0, ci, v)) (hv2 : v < 2) (hkd : q_kd ci v a2 = 1) 
    (hJ : q_J g M d mc ms h0 mv Q k n (pos + 1, ls, r, (q_nx h, q_sh h, q_I h, q_u2 (q_R h) a a2 (some b), q_E h, q_L h))) : q_J g M d mc ms h0 mv Q k n (pos, ls, (.ref b) :: .ref a :: r, h) := by
  obtain rfl : ln = 3 := (q_at hok he).2.2.1 (Nat.succ_ne_zero _)
  intro p e s m args below meth cd D cA ρ0 ρ A H locs rls en hen hB hS
  cases he.symm.trans hen
  obtain ⟨hd, hnx, -, ho2⟩ := q_at hok he
  obtain ⟨en', he', hpc⟩ := hnx rfl
  obtain ⟨hx, hb, hr, hml, hts, hown, hlk, hnm, hxt⟩ := id hB
  obtain ⟨hK, hW, hVS, hX, hC, hst, hls, hlh, hag, hag2, hA, hnx0⟩ := id hS
  have ha2 : a < q_nx h := q_lt hC hsh (by decide)
  simp only [q_ok2] at ho2
  cases hf : q_fld ci a2 with
  | none => rw [hf] at ho2; cases ho2
  | some f =>
  rw [hf] at ho2
  simp only [Bool.and_eq_true] at ho2
  obtain ⟨ho3, ho4⟩ := ho2
  obtain ⟨c, hc, hk, hcf, hnf⟩ := q_fld_of hf
  obtain ⟨ws, e9, e1, e2, hP, hD, hat, hcr⟩ := q_Wd_at hW ha ha2
  rw [hsh] at hcr
  obtain ⟨fs, rfl, hfl, hfv⟩ := hcr
  have hkl : a2 < fs.length := by rw [hfl, hnf]; exact hk
  subst hcf
  have hty := (q_kd_ty (v := v) hc hk hv2)
  have hnar : narrow (q_fty ci a2) (q_vz ρ (.ref b)) = q_vz ρ (.ref b) ∧ fits (q_fty ci a2) (q_vz ρ (.ref b)) = true := by
    rcases hty.2 (Or.inl hkd) with ⟨t, ht⟩ | ⟨t, ht⟩ <;> (rw [ht]; exact ⟨rfl, rfl⟩)
  have fin : ∀ (H1 : Heap) (locs1 : List Loc), va_P D vwCl (ws.set (a - 400) (ρ a, .inr (ci, fs.set a2 (q_vz ρ (.ref b))))) H1 → va_D A (ws.set (a - 400) (ρ a, .inr (ci, fs.set a2 (q_vz ρ (.ref b))))) → va_S A s.heap H1 locs1 →
      W p g.1 e (q_rm d mc ms) s m args below meth cd H1 locs1 k n (vx_MQ below (q_Qc D cA ρ0 h0 mv A Q) (q_XC D cA ρ0 h0 mv A Q) args s mc ms A) (F0 m (pc + 3) rls (r.map (q_vz ρ))) := by
    intro H1 locs1 hP1 hD1 hS1
    have hW1 : q_Wd D cA ρ (q_nx h, q_sh h, q_I h, q_u2 (q_R h) a a2 (some b), q_E h, q_L h) A H1 := by
      refine q_Wd_set e1 e2 ha ha2 rfl rfl (fun b hb => ⟨rfl, q_u2_row _ _ _ _ _ hb, rfl, rfl⟩) ?_ hP1 hD1
      show q_cr cA ρ _ a _ (q_sh h a)
      rw [hsh]
      refine ⟨_, rfl, by rw [List.length_set]; exact hfl, fun j hj hkj => ?_⟩
      by_cases hj2 : j = a2
      · subst hj2
        rw [List.getElem?_set_self hkl, hkd]
        exact congrArg (fun z : Option Nat => some (va_rf (z.map ρ))) (q_u2_s (q_R h) a j (some b)).symm
      · rw [List.getElem?_set_ne (Ne.symm hj2), hfv j hj hkj]
        unfold q_fv
        split <;> first | rfl | (dsimp only [q_I, q_R, q_E]; rw [q_u2_j _ _ _ _ _ _ hj2])
    have h9 := hJ p e s m args below meth cd D cA ρ0 ρ A H1 locs1 rls en' he' hB ⟨hK, hW1, hS1, hX, ⟨fun a8 j8 b8 h8 => by
      rw [show q_R (q_nx h, q_sh h, q_I h, q_u2 (q_R h) a a2 (some b), q_E h, q_L h) a8 j8 = q_u2 (q_R h) a a2 (some b) a8 j8 from rfl, q_u2_of] at h8
      split at h8
      · cases h8; exact q_hd hst _ rfl
      · exact hC.1 _ _ _ h8, hC.2⟩, q_tl (q_tl hst), hls, hlh, hag, hag2, hA, hnx0⟩
    rw [hpc] at h9
    exact h9
  cases hfin : (c.2.1 a2).2.2.2 with
  | true =>
    rw [hfin] at ho4
    simp only [Bool.not_true, Bool.false_or, Bool.and_eq_true, decide_eq_true_eq] at ho4
    have ho4 : M.1.name = "<init>" ∧ (c.2.1 a2).1 = M.1.cls ∧ ∀ host, q_gw w1 w2 ≠ some (.fieldLinkNest M.1.cls idx (c.2.1 a2).1 (c.2.1 a2).2.1 (c.2.1 a2).2.2.1 host) := ⟨ho4.1.1, ho4.1.2, fun host hh => by rw [hh] at ho4; exact absurd ho4.2 (by simp [q_plain])⟩
    rcases q_isF_of ho3 with hw | ⟨host, hw⟩
    · exact va_putF (T := c.2.1) (N := c.2.2) (C := c.1) hx hb hts (q_cls_in ci c hc) (q_fty ci) (q_fty_ok hc) (q_names hc) hown hK hP hD hVS (a - 400) hat hc a2 hk (hts _ (q_gw_in hw rfl)) (fun _ h8 => h8) hfin (by rw [hnm]; exact ho4.1) ho4.2.1 (q_fty_ok hc a2 hk) hnar.1 hnar.2 hkl hd fin
    · exact absurd hw (ho4.2.2 host)
  | false =>
    rcases q_isF_of ho3 with hw | ⟨host, hw⟩
    · exact va_put (T := c.2.1) (N := c.2.2) (C := c.1) hx hb hts (q_cls_in ci c hc) (q_fty ci) (q_fty_ok hc) (q_names hc) hown hK hP hD hVS (a - 400) hat hc a2 hk (hts _ (q_gw_in hw rfl)) (fun _ h8 => h8) hfin (q_fty_ok hc a2 hk) hnar.1 hnar.2 hkl hd fin
    · exact va_putN (T := c.2.1) (N := c.2.2) (C := c.1) hx hb hts (q_cls_in ci c hc) (q_fty ci) (q_fty_ok hc) (q_names hc) hown hK hP hD hVS (a - 400) hat hc a2 hk (q_Xn hX (q_gw_in2 hw) rfl rfl) (fun _ h8 => h8) hfin (q_fty_ok hc a2 hk) hnar.1 hnar.2 hkl hd fin
theorem q_o_putN  (hok : q_okM M = true) (he : q_nth M.2.2.2.2.1 pos = some (pc, .putfield idx, ln, ci, a2, w1, w2)) (ha : 400 ≤ a) (hsh : q_sh h a = (0, ci, v)) (hv2 : v < 2) (hkd : q_kd ci v a2 = 1) 
    (hJ : q_J g M d mc ms h0 mv Q k n (pos + 1, ls, r, (q_nx h, q_sh h, q_I h, q_u2 (q_R h) a a2 none, q_E h, q_L h))) : q_J g M d mc ms h0 mv Q k n (pos, ls, .null :: .ref a :: r, h) := by
  obtain rfl : ln = 3 := (q_at hok he).2.2.1 (Nat.succ_ne_zero _)
  intro p e s m args below meth cd D cA ρ0 ρ A H locs rls en hen hB hS
  cases he.symm.trans hen
  obtain ⟨hd, hnx, -, ho2⟩ := q_at hok he
  obtain ⟨en', he', hpc⟩ := hnx rfl
  obtain ⟨hx, hb, hr, hml, hts, hown, hlk, hnm, hxt⟩ := id hB
  obtain ⟨hK, hW, hVS, hX, hC, hst, hls, hlh, hag, hag2, hA, hnx0⟩ := id hS
  have ha2 : a < q_nx h := q_lt hC hsh (by decide)
  simp only [q_ok2] at ho2
  cases hf : q_fld ci a2 with
  | none => rw [hf] at ho2; cases ho2
  | some f =>
  rw [hf] at ho2
  simp only [Bool.and_eq_true] at ho2
  obtain ⟨ho3, ho4⟩ := ho2
  obtain ⟨c, hc, hk, hcf, hnf⟩ := q_fld_of hf
  obtain ⟨ws, e9, e1, e2, hP, hD, hat, hcr⟩ := q_Wd_at hW ha ha2
  rw [hsh] at hcr
  obtain ⟨fs, rfl, hfl, hfv⟩ := hcr
  have hkl : a2 < fs.length := by rw [hfl, hnf]; exact hk
  subst hcf
  have hty := (q_kd_ty (v := v) hc hk hv2)
  have hnar : narrow (q_fty ci a2) (q_vz ρ .null) = q_vz ρ .null ∧ fits (q_fty ci a2) (q_vz ρ .null) = true := by
    rcases hty.2 (Or.inl hkd) with ⟨t, ht⟩ | ⟨t, ht⟩ <;> (rw [ht]; exact ⟨rfl, rfl⟩)
  have fin : ∀ (H1 : Heap) (locs1 : List Loc), va_P D vwCl (ws.set (a - 400) (ρ a, .inr (ci, fs.set a2 (q_vz ρ .null)))) H1 → va_D A (ws.set (a - 400) (ρ a, .inr (ci, fs.set a2 (q_vz ρ .null)))) → va_S A s.heap H1 locs1 →
      W p g.1 e (q_rm d mc ms) s m args below meth cd H1 locs1 k n (vx_MQ below (q_Qc D cA ρ0 h0 mv A Q) (q_XC D cA ρ0 h0 mv A Q) args s mc ms A) (F0 m (pc + 3) rls (r.map (q_vz ρ))) := by
    intro H1 locs1 hP1 hD1 hS1
    have hW1 : q_Wd D cA ρ (q_nx h, q_sh h, q_I h, q_u2 (q_R h) a a2 none, q_E h, q_L h) A H1 := by
      refine q_Wd_set e1 e2 ha ha2 rfl rfl (fun b hb => ⟨rfl, q_u2_row _ _ _ _ _ hb, rfl, rfl⟩) ?_ hP1 hD1
      show q_cr cA ρ _ a _ (q_sh h a)
      rw [hsh]
      refine ⟨_, rfl, by rw [List.length_set]; exact hfl, fun j hj hkj => ?_⟩
      by_cases hj2 : j = a2
      · subst hj2
        rw [List.getElem?_set_self hkl, hkd]
        exact congrArg (fun z : Option Nat => some (va_rf (z.map ρ))) (q_u2_s (q_R h) a j none).symm
      · rw [List.getElem?_set_ne (Ne.symm hj2), hfv j hj hkj]
        unfold q_fv
        split <;> first | rfl | (dsimp only [q_I, q_R, q_E]; rw [q_u2_j _ _ _ _ _ _ hj2])
    have h9 := hJ p e s m args below meth cd D cA ρ0 ρ A H1 locs1 rls en' he' hB ⟨hK, hW1, hS1, hX, ⟨fun a8 j8 b8 h8 => by
      rw [show q_R (q_nx h, q_sh h, q_I h, q_u2 (q_R h) a a2 none, q_E h, q_L h) a8 j8 = q_u2 (q_R h) a a2 none a8 j8 from rfl, q_u2_of] at h8
      split at h8
      · cases h8
      · exact hC.1 _ _ _ h8, hC.2⟩, q_tl (q_tl hst), hls, hlh, hag, hag2, hA, hnx0⟩
    rw [hpc] at h9
    exact h9
  cases hfin : (c.2.1 a2).2.2.2 with
  | true =>
    rw [hfin] at ho4
    simp only [Bool.not_true, Bool.false_or, Bool.and_eq_true, decide_eq_true_eq] at ho4
    have ho4 : M.1.name = "<init>" ∧ (c.2.1 a2).1 = M.1.cls ∧ ∀ host, q_gw w1 w2 ≠ some (.fieldLinkNest M.1.cls idx (c.2.1 a2).1 (c.2.1 a2).2.1 (c.2.1 a2).2.2.1 host) := ⟨ho4.1.1, ho4.1.2, fun host hh => by rw [hh] at ho4; exact absurd ho4.2 (by simp [q_plain])⟩
    rcases q_isF_of ho3 with hw | ⟨host, hw⟩
    · exact va_putF (T := c.2.1) (N := c.2.2) (C := c.1) hx hb hts (q_cls_in ci c hc) (q_fty ci) (q_fty_ok hc) (q_names hc) hown hK hP hD hVS (a - 400) hat hc a2 hk (hts _ (q_gw_in hw rfl)) (fun _ h8 => h8) hfin (by rw [hnm]; exact ho4.1) ho4.2.1 (q_fty_ok hc a2 hk) hnar.1 hnar.2 hkl hd fin
    · exact absurd hw (ho4.2.2 host)
  | false =>
    rcases q_isF_of ho3 with hw | ⟨host, hw⟩
    · exact va_put (T := c.2.1) (N := c.2.2) (C := c.1) hx hb hts (q_cls_in ci c hc) (q_fty ci) (q_fty_ok hc) (q_names hc) hown hK hP hD hVS (a - 400) hat hc a2 hk (hts _ (q_gw_in hw rfl)) (fun _ h8 => h8) hfin (q_fty_ok hc a2 hk) hnar.1 hnar.2 hkl hd fin
    · exact va_putN (T := c.2.1) (N := c.2.2) (C := c.1) hx hb hts (q_cls_in ci c hc) (q_fty ci) (q_fty_ok hc) (q_names hc) hown hK hP hD hVS (a - 400) hat hc a2 hk (q_Xn hX (q_gw_in2 hw) rfl rfl) (fun _ h8 => h8) hfin (q_fty_ok hc a2 hk) hnar.1 hnar.2 hkl hd fin
theorem q_o_putE {b : Nat} (hok : q_okM M = true) (he : q_nth M.2.2.2.2.1 pos = some (pc, .putfield idx, ln, ci, a2, w1, w2)) (ha : 400 ≤ a) (hsh : q_sh h a = (0, ci, v)) (hv2 : v < 2) (hkd : q_kd ci v a2 = 2) (hbe : b < 49)
    (hJ : q_J g M d mc ms h0 mv Q k n (pos + 1, ls, r, (q_nx h, q_sh h, q_I h, q_R h, q_u2 (q_E h) a a2 (some b), q_L h))) : q_J g M d mc ms h0 mv Q k n (pos, ls, (.ref b) :: .ref a :: r, h) := by
  obtain rfl : ln = 3 := (q_at hok he).2.2.1 (Nat.succ_ne_zero _)
  intro p e s m args below meth cd D cA ρ0 ρ A H locs rls en hen hB hS
  cases he.symm.trans hen
  obtain ⟨hd, hnx, -, ho2⟩ := q_at hok he
  obtain ⟨en', he', hpc⟩ := hnx rfl
  obtain ⟨hx, hb, hr, hml, hts, hown, hlk, hnm, hxt⟩ := id hB
  obtain ⟨hK, hW, hVS, hX, hC, hst, hls, hlh, hag, hag2, hA, hnx0⟩ := id hS
  have ha2 : a < q_nx h := q_lt hC hsh (by decide)
  simp only [q_ok2] at ho2
  cases hf : q_fld ci a2 with
  | none => rw [hf] at ho2; cases ho2
  | some f =>
  rw [hf] at ho2
  simp only [Bool.and_eq_true] at ho2
  obtain ⟨ho3, ho4⟩ := ho2
  obtain ⟨c, hc, hk, hcf, hnf⟩ := q_fld_of hf
  obtain ⟨ws, e9, e1, e2, hP, hD, hat, hcr⟩ := q_Wd_at hW ha ha2
  rw [hsh] at hcr
  obtain ⟨fs, rfl, hfl, hfv⟩ := hcr
  have hkl : a2 < fs.length := by rw [hfl, hnf]; exact hk
  subst hcf
  have hty := (q_kd_ty (v := v) hc hk hv2)
  have hnar : narrow (q_fty ci a2) (q_vz ρ (.ref b)) = q_vz ρ (.ref b) ∧ fits (q_fty ci a2) (q_vz ρ (.ref b)) = true := by
    rcases hty.2 (Or.inr hkd) with ⟨t, ht⟩ | ⟨t, ht⟩ <;> (rw [ht]; exact ⟨rfl, rfl⟩)
  have fin : ∀ (H1 : Heap) (locs1 : List Loc), va_P D vwCl (ws.set (a - 400) (ρ a, .inr (ci, fs.set a2 (q_vz ρ (.ref b))))) H1 → va_D A (ws.set (a - 400) (ρ a, .inr (ci, fs.set a2 (q_vz ρ (.ref b))))) → va_S A s.heap H1 locs1 →
      W p g.1 e (q_rm d mc ms) s m args below meth cd H1 locs1 k n (vx_MQ below (q_Qc D cA ρ0 h0 mv A Q) (q_XC D cA ρ0 h0 mv A Q) args s mc ms A) (F0 m (pc + 3) rls (r.map (q_vz ρ))) := by
    intro H1 locs1 hP1 hD1 hS1
    have hW1 : q_Wd D cA ρ (q_nx h, q_sh h, q_I h, q_R h, q_u2 (q_E h) a a2 (some b), q_L h) A H1 := by
      refine q_Wd_set e1 e2 ha ha2 rfl rfl (fun b hb => ⟨rfl, rfl, q_u2_row _ _ _ _ _ hb, rfl⟩) ?_ hP1 hD1
      show q_cr cA ρ _ a _ (q_sh h a)
      rw [hsh]
      refine ⟨_, rfl, by rw [List.length_set]; exact hfl, fun j hj hkj => ?_⟩
      by_cases hj2 : j = a2
      · subst hj2
        rw [List.getElem?_set_self hkl, hkd]
        exact congrArg (fun z : Option Nat => some (va_rf (z.map ρ))) (q_u2_s (q_E h) a j (some b)).symm
      · rw [List.getElem?_set_ne (Ne.symm hj2), hfv j hj hkj]
        unfold q_fv
        split <;> first | rfl | (dsimp only [q_I, q_R, q_E]; rw [q_u2_j _ _ _ _ _ _ hj2])
    have h9 := hJ p e s m args below meth cd D cA ρ0 ρ A H1 locs1 rls en' he' hB ⟨hK, hW1, hS1, hX, ⟨hC.1, fun a8 j8 b8 h8 => by
      rw [show q_E (q_nx h, q_sh h, q_I h, q_R h, q_u2 (q_E h) a a2 (some b), q_L h) a8 j8 = q_u2 (q_E h) a a2 (some b) a8 j8 from rfl, q_u2_of] at h8
      split at h8
      · cases h8; exact hbe
      · exact hC.2.1 _ _ _ h8, hC.2.2⟩, q_tl (q_tl hst), hls, hlh, hag, hag2, hA, hnx0⟩
    rw [hpc] at h9
    exact h9
  cases hfin : (c.2.1 a2).2.2.2 with
  | true =>
    rw [hfin] at ho4
    simp only [Bool.not_true, Bool.false_or, Bool.and_eq_true, decide_eq_true_eq] at ho4
    have ho4 : M.1.name = "<init>" ∧ (c.2.1 a2).1 = M.1.cls ∧ ∀ host, q_gw w1 w2 ≠ some (.fieldLinkNest M.1.cls idx (c.2.1 a2).1 (c.2.1 a2).2.1 (c.2.1 a2).2.2.1 host) := ⟨ho4.1.1, ho4.1.2, fun host hh => by rw [hh] at ho4; exact absurd ho4.2 (by simp [q_plain])⟩
    rcases q_isF_of ho3 with hw | ⟨host, hw⟩
    · exact va_putF (T := c.2.1) (N := c.2.2) (C := c.1) hx hb hts (q_cls_in ci c hc) (q_fty ci) (q_fty_ok hc) (q_names hc) hown hK hP hD hVS (a - 400) hat hc a2 hk (hts _ (q_gw_in hw rfl)) (fun _ h8 => h8) hfin (by rw [hnm]; exact ho4.1) ho4.2.1 (q_fty_ok hc a2 hk) hnar.1 hnar.2 hkl hd fin
    · exact absurd hw (ho4.2.2 host)
  | false =>
    rcases q_isF_of ho3 with hw | ⟨host, hw⟩
    · exact va_put (T := c.2.1) (N := c.2.2) (C := c.1) hx hb hts (q_cls_in ci c hc) (q_fty ci) (q_fty_ok hc) (q_names hc) hown hK hP hD hVS (a - 400) hat hc a2 hk (hts _ (q_gw_in hw rfl)) (fun _ h8 => h8) hfin (q_fty_ok hc a2 hk) hnar.1 hnar.2 hkl hd fin
    · exact va_putN (T := c.2.1) (N := c.2.2) (C := c.1) hx hb hts (q_cls_in ci c hc) (q_fty ci) (q_fty_ok hc) (q_names hc) hown hK hP hD hVS (a - 400) hat hc a2 hk (q_Xn hX (q_gw_in2 hw) rfl rfl) (fun _ h8 => h8) hfin (q_fty_ok hc a2 hk) hnar.1 hnar.2 hkl hd fin
end QHEAP
