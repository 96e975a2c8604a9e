/-! FURTHER RULES of the law's machine (printed by wip/gen43/genY.py out of y00) -/
section KDYN
variable {g : q_G} {xt : List ExceptionTableEntry} {M : q_M} {d mc ms : Nat} {h0 : q_H} {mv : List Nat} {Q : (Option Value ⊕ String) → q_H → Prop} {k n pos pc ln a1 a2 w1 w2 a ci v idx L j : Nat} {ls : List (Option Value)} {r st : List Value} {h : q_H}
theorem q_sub4 {x n m : Nat} (e : n + 400 = m) (h1 : 400 ≤ x) (h2 : x < m) : x - 400 < n := by omega
theorem q_fitZ {x : Int32} (h : narrow .boolean (.int x) = .int x) : fits .boolean (.int x) = true := by
  have h1 : x &&& 1 = x := Value.int.inj h
  obtain ⟨u⟩ := x
  have h2 : (u &&& 1).toNat = u.toNat := congrArg (fun z : Int32 => z.toUInt32.toNat) h1
  rw [UInt32.toNat_and] at h2
  have h3 : u.toNat &&& 1 = u.toNat % 2 := Nat.and_one_is_mod _
  have h4 : u.toNat = 0 ∨ u.toNat = 1 := by
    have h5 : u.toNat &&& 1 = u.toNat := h2
    omega
  rcases h4 with h4 | h4
  · obtain rfl : u = 0 := UInt32.toNat_inj.mp h4
    rfl
  · obtain rfl : u = 1 := UInt32.toNat_inj.mp h4
    rfl
theorem q_fitB {x : Int32} (h : narrow .byte (.int x) = .int x) : fits .byte (.int x) = true := by
  have h1 : x.toInt8.toInt32 = x := Value.int.inj h
  have r := m_byte_rng x
  rw [h1] at r
  have e1 : (-128 : Int32).toInt = -128 := by decide
  have e2 : (127 : Int32).toInt = 127 := by decide
  show (decide ((-128 : Int32) ≤ x) && decide (x ≤ (127 : Int32))) = true
  rw [Bool.and_eq_true, decide_eq_true_eq, decide_eq_true_eq, Int32.le_iff_toInt_le, Int32.le_iff_toInt_le, e1, e2]
  omega
theorem q_rf_lt {o : Option Nat} (hv : q_vcl h (va_rf o)) {b : Nat} (hb : o = some b) : b < q_nx h := by
  subst hb
  exact hv b rfl
theorem q_injD {D : va_G} {cA : Nat → ClassId} {ρ : Nat → Nat} {A : Nat → Prop} {H : Heap} (hW : q_Wd D cA ρ h A H) {x y : Option Nat} (hx : ∀ b, x = some b → 400 ≤ b ∧ b < q_nx h) (hy : ∀ b, y = some b → 400 ≤ b ∧ b < q_nx h) (hz : x.map ρ = y.map ρ) : x = y := by
  obtain ⟨ws, e1, e2, hP, hD⟩ := hW
  cases x with
  | none => cases y with
    | none => rfl
    | some y => cases hz
  | some x => cases y with
    | none => cases hz
    | some y =>
      obtain ⟨x1, x2⟩ := hx x rfl
      obtain ⟨y1, y2⟩ := hy y rfl
      have hz : ρ x = ρ y := Option.some.inj hz
      have lx : x - 400 < ws.length := q_sub4 e1 x1 x2
      have ly : y - 400 < ws.length := q_sub4 e1 y1 y2
      have gx := List.getElem?_eq_getElem lx
      have gy := List.getElem?_eq_getElem ly
      have hx3 := (e2 _ _ gx).1
      have hy3 := (e2 _ _ gy).1
      rw [show 400 + (x - 400) = x by omega] at hx3
      rw [show 400 + (y - 400) = y by omega] at hy3
      have := hD.1 _ _ _ _ gx gy (by rw [hx3, hy3, hz])
      rw [show x = y by omega]
theorem k_o_getZ (hok : q_okB M = true) (he : q_nth M.2.2.2.2.1 pos = some (pc, .getfield idx, ln, ci, a2, w1, w2)) (ha : 400 ≤ a) (hsh : q_sh h a = (0, ci, v)) (hci : ci < 15) (hkd : q_kd ci v a2 = 3 ∨ q_kd ci v a2 = 4)
    (hJ : q_K g M xt d mc ms h0 mv Q k n (pos + 1, ls, (.int (q_I h a a2)) :: r, h)) : q_K g M xt d mc ms h0 mv Q k n (pos, ls, .ref a :: r, h) := by
  obtain rfl : ln = 3 := (q_atB hok he).2.2.1 (Nat.succ_ne_zero _)
  intro p e s m args below meth cd D cA ρ0 ρ A H locs rls en hen hB hS
  cases he.symm.trans hen
  obtain ⟨hd, hnx, -, ho2⟩ := q_atB hok he
  obtain ⟨en', he', hpc⟩ := hnx rfl
  obtain ⟨hx, hb, hr, hml, hts, hown, hlk, hnm, hxt⟩ := id hB
  obtain ⟨hK, hW, hVS, hX, hC, hst, hls, hlh, hag, hag2, hA, hnx0⟩ := id hS
  have ha2 : a < q_nx h := q_lt hC hsh (by decide)
  have h9 := hJ p e s m args below meth cd D cA ρ0 ρ A H locs rls en' he' hB ⟨hK, hW, hVS, hX, hC, q_cl1 q_vcl_i (q_tl hst), hls, hlh, hag, hag2, hA, hnx0⟩
  rw [hpc] at h9
  simp only [q_ok2, Bool.or_eq_true, decide_eq_true_eq] at ho2
  have ho3 := ho2.resolve_left (by omega)
  cases hf : q_fld ci a2 with
  | none => rw [hf] at ho3; cases ho3
  | some f =>
  rw [hf] at ho3
  obtain ⟨c, hc, hk, hcf, hnf⟩ := q_fld_of hf
  obtain ⟨ws, e9, e1, e2, hP, hD, hat, hcr⟩ := q_Wd_at hW ha ha2
  rw [hsh] at hcr
  obtain ⟨fs, rfl, hfl, hfv⟩ := hcr
  have hval := hfv a2 (by rw [hnf]; exact hk) (by rcases hkd with e | e <;> (rw [e]; decide))
  have hv2 : fs[a2]? = some (q_vz ρ (.int (q_I h a a2))) := by
    rcases hkd with e | e <;> (rw [e] at hval; exact hval)
  subst hcf
  rcases q_isF_of ho3 with hw | ⟨host, hw⟩
  · exact va_get (T := c.2.1) (N := c.2.2) (C := c.1) hx hb hts (q_cls_in ci c hc) hown hK hP (a - 400) hat hc a2 hk (hts _ (q_gw_in hw rfl)) (fun _ h8 => h8) hv2 hd h9
  · exact va_getN (T := c.2.1) (N := c.2.2) (C := c.1) hx hb hts (q_cls_in ci c hc) hown hK hP (a - 400) hat hc a2 hk (q_Xn hX (q_gw_in2 hw) rfl rfl) (fun _ h8 => h8) hv2 hd h9
theorem k_o_putZ {x : Int32} (hok : q_okB M = true) (he : q_nth M.2.2.2.2.1 pos = some (pc, .putfield idx, ln, ci, a2, w1, w2)) (ha : 400 ≤ a) (hsh : q_sh h a = (0, ci, v)) (hv2 : v < 2) (hkd : q_kd ci v a2 = 3) (hnr : narrow .boolean (.int x) = .int x) 
    (hJ : q_K g M xt d mc ms h0 mv Q k n (pos + 1, ls, r, (q_nx h, q_sh h, q_u2 (q_I h) a a2 x, q_R h, q_E h, q_L h))) : q_K g M xt d mc ms h0 mv Q k n (pos, ls, (.int x) :: .ref a :: r, h) := by
  obtain rfl : ln = 3 := (q_atB hok he).2.2.1 (Nat.succ_ne_zero _)
  intro p e s m args below meth cd D cA ρ0 ρ A H locs rls en hen hB hS
  cases he.symm.trans hen
  obtain ⟨hd, hnx, -, ho2⟩ := q_atB hok he
  obtain ⟨en', he', hpc⟩ := hnx rfl
  obtain ⟨hx, hb, hr, hml, hts, hown, hlk, hnm, hxt⟩ := id hB
  obtain ⟨hK, hW, hVS, hX, hC, hst, hls, hlh, hag, hag2, hA, hnx0⟩ := id hS
  have ha2 : a < q_nx h := q_lt hC hsh (by decide)
  simp only [q_ok2] at ho2
  cases hf : q_fld ci a2 with
  | none => rw [hf] at ho2; cases ho2
  | some f =>
  rw [hf] at ho2
  simp only [Bool.and_eq_true] at ho2
  obtain ⟨ho3, ho4⟩ := ho2
  obtain ⟨c, hc, hk, hcf, hnf⟩ := q_fld_of hf
  obtain ⟨ws, e9, e1, e2, hP, hD, hat, hcr⟩ := q_Wd_at hW ha ha2
  rw [hsh] at hcr
  obtain ⟨fs, rfl, hfl, hfv⟩ := hcr
  have hkl : a2 < fs.length := by rw [hfl, hnf]; exact hk
  subst hcf
  have hty := (q_kd_ty (v := v) hc hk hv2)
  have hnar : narrow (q_fty ci a2) (q_vz ρ (.int x)) = q_vz ρ (.int x) ∧ fits (q_fty ci a2) (q_vz ρ (.int x)) = true := by
    rw [(q_kd_ty3 (v := v) hc hk hv2).1 hkd]; exact ⟨hnr, q_fitZ hnr⟩
  have fin : ∀ (H1 : Heap) (locs1 : List Loc), va_P D vwCl (ws.set (a - 400) (ρ a, .inr (ci, fs.set a2 (q_vz ρ (.int x))))) H1 → va_D A (ws.set (a - 400) (ρ a, .inr (ci, fs.set a2 (q_vz ρ (.int x))))) → va_S A s.heap H1 locs1 →
      W p g.1 e (q_rk d mc ms) s m args below meth cd H1 locs1 k n (vx_MQ below (q_Qc D cA ρ0 h0 mv A Q) (q_XC D cA ρ0 h0 mv A Q) args s mc ms A) (F0 m (pc + 3) rls (r.map (q_vz ρ))) := by
    intro H1 locs1 hP1 hD1 hS1
    have hW1 : q_Wd D cA ρ (q_nx h, q_sh h, q_u2 (q_I h) a a2 x, q_R h, q_E h, q_L h) A H1 := by
      refine q_Wd_set e1 e2 ha ha2 rfl rfl (fun b hb => ⟨q_u2_row _ _ _ _ _ hb, rfl, rfl, rfl⟩) ?_ hP1 hD1
      show q_cr cA ρ _ a _ (q_sh h a)
      rw [hsh]
      refine ⟨_, rfl, by rw [List.length_set]; exact hfl, fun j hj hkj => ?_⟩
      by_cases hj2 : j = a2
      · subst hj2
        rw [List.getElem?_set_self hkl, hkd]
        exact congrArg (fun z => some (Value.int z)) (q_u2_s _ _ _ _).symm
      · rw [List.getElem?_set_ne (Ne.symm hj2), hfv j hj hkj]
        unfold q_fv
        split <;> first | rfl | (dsimp only [q_I, q_R, q_E]; rw [q_u2_j _ _ _ _ _ _ hj2])
    have h9 := hJ p e s m args below meth cd D cA ρ0 ρ A H1 locs1 rls en' he' hB ⟨hK, hW1, hS1, hX, hC, q_tl (q_tl hst), hls, hlh, hag, hag2, hA, hnx0⟩
    rw [hpc] at h9
    exact h9
  cases hfin : (c.2.1 a2).2.2.2 with
  | true =>
    rw [hfin] at ho4
    simp only [Bool.not_true, Bool.false_or, Bool.and_eq_true, decide_eq_true_eq] at ho4
    have ho4 : M.1.name = "<init>" ∧ (c.2.1 a2).1 = M.1.cls ∧ ∀ host, q_gw w1 w2 ≠ some (.fieldLinkNest M.1.cls idx (c.2.1 a2).1 (c.2.1 a2).2.1 (c.2.1 a2).2.2.1 host) := ⟨ho4.1.1, ho4.1.2, fun host hh => by rw [hh] at ho4; exact absurd ho4.2 (by simp [q_plain])⟩
    rcases q_isF_of ho3 with hw | ⟨host, hw⟩
    · exact va_putF (T := c.2.1) (N := c.2.2) (C := c.1) hx hb hts (q_cls_in ci c hc) (q_fty ci) (q_fty_ok hc) (q_names hc) hown hK hP hD hVS (a - 400) hat hc a2 hk (hts _ (q_gw_in hw rfl)) (fun _ h8 => h8) hfin (by rw [hnm]; exact ho4.1) ho4.2.1 (q_fty_ok hc a2 hk) hnar.1 hnar.2 hkl hd fin
    · exact absurd hw (ho4.2.2 host)
  | false =>
    rcases q_isF_of ho3 with hw | ⟨host, hw⟩
    · exact va_put (T := c.2.1) (N := c.2.2) (C := c.1) hx hb hts (q_cls_in ci c hc) (q_fty ci) (q_fty_ok hc) (q_names hc) hown hK hP hD hVS (a - 400) hat hc a2 hk (hts _ (q_gw_in hw rfl)) (fun _ h8 => h8) hfin (q_fty_ok hc a2 hk) hnar.1 hnar.2 hkl hd fin
    · exact va_putN (T := c.2.1) (N := c.2.2) (C := c.1) hx hb hts (q_cls_in ci c hc) (q_fty ci) (q_fty_ok hc) (q_names hc) hown hK hP hD hVS (a - 400) hat hc a2 hk (q_Xn hX (q_gw_in2 hw) rfl rfl) (fun _ h8 => h8) hfin (q_fty_ok hc a2 hk) hnar.1 hnar.2 hkl hd fin
theorem k_o_putB {x : Int32} (hok : q_okB M = true) (he : q_nth M.2.2.2.2.1 pos = some (pc, .putfield idx, ln, ci, a2, w1, w2)) (ha : 400 ≤ a) (hsh : q_sh h a = (0, ci, v)) (hv2 : v < 2) (hkd : q_kd ci v a2 = 4) (hnr : narrow .byte (.int x) = .int x) 
    (hJ : q_K g M xt d mc ms h0 mv Q k n (pos + 1, ls, r, (q_nx h, q_sh h, q_u2 (q_I h) a a2 x, q_R h, q_E h, q_L h))) : q_K g M xt d mc ms h0 mv Q k n (pos, ls, (.int x) :: .ref a :: r, h) := by
  obtain rfl : ln = 3 := (q_atB hok he).2.2.1 (Nat.succ_ne_zero _)
  intro p e s m args below meth cd D cA ρ0 ρ A H locs rls en hen hB hS
  cases he.symm.trans hen
  obtain ⟨hd, hnx, -, ho2⟩ := q_atB hok he
  obtain ⟨en', he', hpc⟩ := hnx rfl
  obtain ⟨hx, hb, hr, hml, hts, hown, hlk, hnm, hxt⟩ := id hB
  obtain ⟨hK, hW, hVS, hX, hC, hst, hls, hlh, hag, hag2, hA, hnx0⟩ := id hS
  have ha2 : a < q_nx h := q_lt hC hsh (by decide)
  simp only [q_ok2] at ho2
  cases hf : q_fld ci a2 with
  | none => rw [hf] at ho2; cases ho2
  | some f =>
  rw [hf] at ho2
  simp only [Bool.and_eq_true] at ho2
  obtain ⟨ho3, ho4⟩ := ho2
  obtain ⟨c, hc, hk, hcf, hnf⟩ := q_fld_of hf
  obtain ⟨ws, e9, e1, e2, hP, hD, hat, hcr⟩ := q_Wd_at hW ha ha2
  rw [hsh] at hcr
  obtain ⟨fs, rfl, hfl, hfv⟩ := hcr
  have hkl : a2 < fs.length := by rw [hfl, hnf]; exact hk
  subst hcf
  have hty := (q_kd_ty (v := v) hc hk hv2)
  have hnar : narrow (q_fty ci a2) (q_vz ρ (.int x)) = q_vz ρ (.int x) ∧ fits (q_fty ci a2) (q_vz ρ (.int x)) = true := by
    rw [(q_kd_ty3 (v := v) hc hk hv2).2 hkd]; exact ⟨hnr, q_fitB hnr⟩
  have fin : ∀ (H1 : Heap) (locs1 : List Loc), va_P D vwCl (ws.set (a - 400) (ρ a, .inr (ci, fs.set a2 (q_vz ρ (.int x))))) H1 → va_D A (ws.set (a - 400) (ρ a, .inr (ci, fs.set a2 (q_vz ρ (.int x))))) → va_S A s.heap H1 locs1 →
      W p g.1 e (q_rk d mc ms) s m args below meth cd H1 locs1 k n (vx_MQ below (q_Qc D cA ρ0 h0 mv A Q) (q_XC D cA ρ0 h0 mv A Q) args s mc ms A) (F0 m (pc + 3) rls (r.map (q_vz ρ))) := by
    intro H1 locs1 hP1 hD1 hS1
    have hW1 : q_Wd D cA ρ (q_nx h, q_sh h, q_u2 (q_I h) a a2 x, q_R h, q_E h, q_L h) A H1 := by
      refine q_Wd_set e1 e2 ha ha2 rfl rfl (fun b hb => ⟨q_u2_row _ _ _ _ _ hb, rfl, rfl, rfl⟩) ?_ hP1 hD1
      show q_cr cA ρ _ a _ (q_sh h a)
      rw [hsh]
      refine ⟨_, rfl, by rw [List.length_set]; exact hfl, fun j hj hkj => ?_⟩
      by_cases hj2 : j = a2
      · subst hj2
        rw [List.getElem?_set_self hkl, hkd]
        exact congrArg (fun z => some (Value.int z)) (q_u2_s _ _ _ _).symm
      · rw [List.getElem?_set_ne (Ne.symm hj2), hfv j hj hkj]
        unfold q_fv
        split <;> first | rfl | (dsimp only [q_I, q_R, q_E]; rw [q_u2_j _ _ _ _ _ _ hj2])
    have h9 := hJ p e s m args below meth cd D cA ρ0 ρ A H1 locs1 rls en' he' hB ⟨hK, hW1, hS1, hX, hC, q_tl (q_tl hst), hls, hlh, hag, hag2, hA, hnx0⟩
    rw [hpc] at h9
    exact h9
  cases hfin : (c.2.1 a2).2.2.2 with
  | true =>
    rw [hfin] at ho4
    simp only [Bool.not_true, Bool.false_or, Bool.and_eq_true, decide_eq_true_eq] at ho4
    have ho4 : M.1.name = "<init>" ∧ (c.2.1 a2).1 = M.1.cls ∧ ∀ host, q_gw w1 w2 ≠ some (.fieldLinkNest M.1.cls idx (c.2.1 a2).1 (c.2.1 a2).2.1 (c.2.1 a2).2.2.1 host) := ⟨ho4.1.1, ho4.1.2, fun host hh => by rw [hh] at ho4; exact absurd ho4.2 (by simp [q_plain])⟩
    rcases q_isF_of ho3 with hw | ⟨host, hw⟩
    · exact va_putF (T := c.2.1) (N := c.2.2) (C := c.1) hx hb hts (q_cls_in ci c hc) (q_fty ci) (q_fty_ok hc) (q_names hc) hown hK hP hD hVS (a - 400) hat hc a2 hk (hts _ (q_gw_in hw rfl)) (fun _ h8 => h8) hfin (by rw [hnm]; exact ho4.1) ho4.2.1 (q_fty_ok hc a2 hk) hnar.1 hnar.2 hkl hd fin
    · exact absurd hw (ho4.2.2 host)
  | false =>
    rcases q_isF_of ho3 with hw | ⟨host, hw⟩
    · exact va_put (T := c.2.1) (N := c.2.2) (C := c.1) hx hb hts (q_cls_in ci c hc) (q_fty ci) (q_fty_ok hc) (q_names hc) hown hK hP hD hVS (a - 400) hat hc a2 hk (hts _ (q_gw_in hw rfl)) (fun _ h8 => h8) hfin (q_fty_ok hc a2 hk) hnar.1 hnar.2 hkl hd fin
    · exact va_putN (T := c.2.1) (N := c.2.2) (C := c.1) hx hb hts (q_cls_in ci c hc) (q_fty ci) (q_fty_ok hc) (q_names hc) hown hK hP hD hVS (a - 400) hat hc a2 hk (q_Xn hX (q_gw_in2 hw) rfl rfl) (fun _ h8 => h8) hfin (q_fty_ok hc a2 hk) hnar.1 hnar.2 hkl hd fin
theorem k_o_aaldBale {i : Int32} (hok : q_okB M = true) (he : q_nth M.2.2.2.2.1 pos = some (pc, .aaload, ln, a1, a2, w1, w2)) (ha : 400 ≤ a) (hsh : q_sh h a = (3, 6, L)) (hi : i = nI j) (hj : j < L) (hL : L < 2147483648)
    (hJ : q_K g M xt d mc ms h0 mv Q k n (pos + 1, ls, (va_rf (q_R h a j)) :: r, h)) : q_K g M xt d mc ms h0 mv Q k n (pos, ls, .int i :: .ref a :: r, h) := by
  obtain rfl : ln = 1 := (q_atB hok he).2.2.1 (Nat.succ_ne_zero _)
  intro p e s m args below meth cd D cA ρ0 ρ A H locs rls en hen hB hS
  cases he.symm.trans hen
  obtain ⟨hd, hnx, -, ho2⟩ := q_atB hok he
  obtain ⟨en', he', hpc⟩ := hnx rfl
  obtain ⟨hx, hb, hr, hml, hts, hown, hlk, hnm, hxt⟩ := id hB
  obtain ⟨hK, hW, hVS, hX, hC, hst, hls, hlh, hag, hag2, hA, hnx0⟩ := id hS
  have ha2 : a < q_nx h := q_lt hC hsh (by decide)
  have h9 := hJ p e s m args below meth cd D cA ρ0 ρ A H locs rls en' he' hB ⟨hK, hW, hVS, hX, hC, q_cl1 (by cases hq : q_R h a j with | none => exact q_vcl_n | some b => intro z hz; cases hz; exact hC.1 _ _ _ hq) (q_tl (q_tl hst)), hls, hlh, hag, hag2, hA, hnx0⟩
  rw [hpc] at h9
  obtain ⟨ws, e9, e1, e2, hP, hD, hat, hcr⟩ := q_Wd_at hW ha ha2
  rw [hsh] at hcr
  have hcr : e9 = _ := hcr
  rw [hcr] at hat
  subst hi
  have hin : vp_in (nI j) L := vp_in_nI hj hL
  refine va_aldq hx hb hK hP (a - 400) 6 hat rfl hin hd ?_
  rw [nI_clamp (by omega)]
  rw [q_rf_vz]; exact h9
theorem k_o_alenBale (hok : q_okB M = true) (he : q_nth M.2.2.2.2.1 pos = some (pc, .arraylength, ln, a1, a2, w1, w2)) (ha : 400 ≤ a) (hsh : q_sh h a = (3, 6, L))
    (hJ : q_K g M xt d mc ms h0 mv Q k n (pos + 1, ls, .int (nI L) :: r, h)) : q_K g M xt d mc ms h0 mv Q k n (pos, ls, .ref a :: r, h) := by
  obtain rfl : ln = 1 := (q_atB hok he).2.2.1 (Nat.succ_ne_zero _)
  intro p e s m args below meth cd D cA ρ0 ρ A H locs rls en hen hB hS
  cases he.symm.trans hen
  obtain ⟨hd, hnx, -, ho2⟩ := q_atB hok he
  obtain ⟨en', he', hpc⟩ := hnx rfl
  obtain ⟨hx, hb, hr, hml, hts, hown, hlk, hnm, hxt⟩ := id hB
  obtain ⟨hK, hW, hVS, hX, hC, hst, hls, hlh, hag, hag2, hA, hnx0⟩ := id hS
  have ha2 : a < q_nx h := q_lt hC hsh (by decide)
  have h9 := hJ p e s m args below meth cd D cA ρ0 ρ A H locs rls en' he' hB ⟨hK, hW, hVS, hX, hC, q_cl1 q_vcl_i (q_tl hst), hls, hlh, hag, hag2, hA, hnx0⟩
  rw [hpc] at h9
  obtain ⟨ws, e9, e1, e2, hP, hD, hat, hcr⟩ := q_Wd_at hW ha ha2
  rw [hsh] at hcr
  have hcr : e9 = _ := hcr
  rw [hcr] at hat
  exact va_alen hx hb hK hP (a - 400) 6 hat rfl rfl hd h9
theorem k_o_newqBale {i : Int32} (hok : q_okB M = true) (he : q_nth M.2.2.2.2.1 pos = some (pc, .anewarray idx, ln, a1, a2, w1, w2)) (hw : q_gw w1 w2 = some (.classLink M.1.cls idx "HayBarnLaw$Bale")) (hi : i = nI L) (hL : L < 65536) (hk : k + 1 ≤ mc) (hn : n + L ≤ ms)
    (hJ : q_K g M xt d mc ms h0 mv Q (k + 1) (n + L) (pos + 1, ls, .ref (q_nx h) :: r, q_new h (3, 6, L))) : q_K g M xt d mc ms h0 mv Q k n (pos, ls, .int i :: r, h) := by
  obtain rfl : ln = 3 := (q_atB hok he).2.2.1 (Nat.succ_ne_zero _)
  intro p e s m args below meth cd D cA ρ0 ρ A H locs rls en hen hB hS
  cases he.symm.trans hen
  obtain ⟨hd, hnx, -, ho2⟩ := q_atB hok he
  obtain ⟨en', he', hpc⟩ := hnx rfl
  obtain ⟨hx, hb, hr, hml, hts, hown, hlk, hnm, hxt⟩ := id hB
  obtain ⟨hK, hW, hVS, hX, hC, hst, hls, hlh, hag, hag2, hA, hnx0⟩ := id hS
  obtain ⟨ws, f1, f2, hP, hD⟩ := id hW
  subst hi
  have hX9 := id hX
  obtain ⟨-, -, -, -, -, -, -, -, -, -, -, -, -, -, -, -, ⟨hO1, hO3, hO4, hO5⟩, hO2, -⟩ := hX9
  refine va_newq (C := "HayBarnLaw$Bale") hx hb hown (hts _ (q_gw_in hw rfl)) hO3 hK hP hD hVS hA (nI_pos (by omega)) (nI_clamp (by omega)) (by omega) hk hn hd (fun q c9 H1 hK1 hP1 hD1 hS1 => ?_)
  have hc9 : c9 = cA 6 := by
    have g1 := (hK1.2 9 (c9, .object "HayBarnLaw$Bale") rfl).2
    have g2 := (hK.2 6 (cA 6, .object "HayBarnLaw$Bale") rfl).2
    obtain ⟨_, _, _, _, _, g3⟩ := g1
    obtain ⟨_, _, _, _, _, g4⟩ := g2
    exact Option.some.inj (g3.symm.trans g4)
  subst hc9
  have h9 := hJ p e s m args below meth cd D cA ρ0 (q_ur ρ (q_nx h) q) A H1 locs rls en' he' hB (q_Sit_new (r := r) hS f1 f2 (by show _ = Sum.inl _; simp only [show q_R (q_new h (3, 6, L)) (q_nx h) = (fun _ => none) from q_ur_s _ _ _]; rfl) hP1 hD1 hS1 (q_tl hst))
  rw [hpc, List.map_cons, q_map_new (q_tl hst)] at h9
  rw [show q_vz (q_ur ρ (q_nx h) q) (.ref (q_nx h)) = .ref q from congrArg Value.ref (q_ur_s _ _ _)] at h9
  exact h9
theorem k_o_aastBale {i : Int32} {b cb vb : Nat} (hok : q_okB M = true) (he : q_nth M.2.2.2.2.1 pos = some (pc, .aastore, ln, a1, a2, w1, w2)) (ha : 400 ≤ a) (hsh : q_sh h a = (3, 6, L)) (hi : i = nI j) (hj : j < L) (hL : L < 2147483648) (hb1 : 400 ≤ b) (hbs : q_sh h b = (0, 11, vb))
    (hJ : q_K g M xt d mc ms h0 mv Q k n (pos + 1, ls, r, (q_nx h, q_sh h, q_I h, q_u2 (q_R h) a j (some b), q_E h, q_L h))) : q_K g M xt d mc ms h0 mv Q k n (pos, ls, .ref b :: .int i :: .ref a :: r, h) := by
  obtain rfl : ln = 1 := (q_atB hok he).2.2.1 (Nat.succ_ne_zero _)
  intro p e s m args below meth cd D cA ρ0 ρ A H locs rls en hen hB hS
  cases he.symm.trans hen
  obtain ⟨hd, hnx, -, ho2⟩ := q_atB hok he
  obtain ⟨en', he', hpc⟩ := hnx rfl
  obtain ⟨hx, hb, hr, hml, hts, hown, hlk, hnm, hxt⟩ := id hB
  obtain ⟨hK, hW, hVS, hX, hC, hst, hls, hlh, hag, hag2, hA, hnx0⟩ := id hS
  have ha2 : a < q_nx h := q_lt hC hsh (by decide)
  obtain ⟨ws, e9, e1, e2, hP, hD, hat, hcr⟩ := q_Wd_at hW ha ha2
  rw [hsh] at hcr
  have hcr : e9 = _ := hcr
  rw [hcr] at hat
  subst hi
  have hin : vp_in (nI j) L := vp_in_nI hj hL
  have hb2 : b < q_nx h := q_lt hC hbs (by decide)
  obtain ⟨ws9, e8, f1, f2, hP9, hD9, hat9, hcr9⟩ := q_Wd_at hW hb1 hb2
  rw [hbs] at hcr9
  obtain ⟨fs9, hfs9, -, -⟩ := hcr9
  rw [hfs9] at hat9
  have hany : va_Any "HayBarnLaw$Bale" s H (ρ b) := va_rAny hK hP9 hat9 (r := (RX13, TX13, 5)) rfl (fun comp c0 h1 h2 => by
    have h3 : s.vm.findClass RX13 = some comp := h1
    cases h2.symm.trans h3
    exact va_asg _ _)
  refine va_astqM hx hb hK hP hD hVS (a - 400) 6 (E := "HayBarnLaw$Bale") hat rfl hany hin hd (fun H1 locs1 hP1 hD1 hS1 => ?_)
  rw [nI_clamp (by omega)] at hP1 hD1
  have hW1 : q_Wd D cA ρ (q_nx h, q_sh h, q_I h, q_u2 (q_R h) a j (some b), q_E h, q_L h) A H1 := by
    refine q_Wd_set e1 e2 ha ha2 rfl rfl (fun b hb => ⟨rfl, q_u2_row _ _ _ _ _ hb, rfl, rfl⟩) ?_ hP1 hD1
    show q_cr cA ρ _ a _ (q_sh h a)
    rw [hsh]
    refine congrArg (fun f => (Sum.inl (cA 6, L, Sum.inr (Sum.inr (Sum.inr (Sum.inr f)))) : va_E)) (funext fun i9 => ?_)
    show va_up (fun i => (q_R h a i).map ρ) j (some (ρ b)) i9 = (q_u2 (q_R h) a j (some b) a i9).map ρ
    rw [q_u2_of]; unfold va_up
    by_cases hij : i9 = j <;> simp [hij]
  have h9 := hJ p e s m args below meth cd D cA ρ0 ρ A H1 locs1 rls en' he' hB ⟨hK, hW1, hS1, hX, ⟨fun a8 j8 b8 h8 => by
      rw [show q_R (q_nx h, q_sh h, q_I h, q_u2 (q_R h) a j (some b), q_E h, q_L h) a8 j8 = q_u2 (q_R h) a j (some b) a8 j8 from rfl, q_u2_of] at h8
      split at h8
      · cases h8; exact q_hd hst _ rfl
      · exact hC.1 _ _ _ h8, hC.2⟩, q_tl (q_tl (q_tl hst)), hls, hlh, hag, hag2, hA, hnx0⟩
  rw [hpc] at h9
  exact h9
theorem k_o_aaldStr {i : Int32} (hok : q_okB M = true) (he : q_nth M.2.2.2.2.1 pos = some (pc, .aaload, ln, a1, a2, w1, w2)) (ha : 400 ≤ a) (hsh : q_sh h a = (3, 8, L)) (hi : i = nI j) (hj : j < L) (hL : L < 2147483648)
    (hJ : q_K g M xt d mc ms h0 mv Q k n (pos + 1, ls, (va_rf (q_R h a j)) :: r, h)) : q_K g M xt d mc ms h0 mv Q k n (pos, ls, .int i :: .ref a :: r, h) := by
  obtain rfl : ln = 1 := (q_atB hok he).2.2.1 (Nat.succ_ne_zero _)
  intro p e s m args below meth cd D cA ρ0 ρ A H locs rls en hen hB hS
  cases he.symm.trans hen
  obtain ⟨hd, hnx, -, ho2⟩ := q_atB hok he
  obtain ⟨en', he', hpc⟩ := hnx rfl
  obtain ⟨hx, hb, hr, hml, hts, hown, hlk, hnm, hxt⟩ := id hB
  obtain ⟨hK, hW, hVS, hX, hC, hst, hls, hlh, hag, hag2, hA, hnx0⟩ := id hS
  have ha2 : a < q_nx h := q_lt hC hsh (by decide)
  have h9 := hJ p e s m args below meth cd D cA ρ0 ρ A H locs rls en' he' hB ⟨hK, hW, hVS, hX, hC, q_cl1 (by cases hq : q_R h a j with | none => exact q_vcl_n | some b => intro z hz; cases hz; exact hC.1 _ _ _ hq) (q_tl (q_tl hst)), hls, hlh, hag, hag2, hA, hnx0⟩
  rw [hpc] at h9
  obtain ⟨ws, e9, e1, e2, hP, hD, hat, hcr⟩ := q_Wd_at hW ha ha2
  rw [hsh] at hcr
  have hcr : e9 = _ := hcr
  rw [hcr] at hat
  subst hi
  have hin : vp_in (nI j) L := vp_in_nI hj hL
  refine va_aldq hx hb hK hP (a - 400) 8 hat rfl hin hd ?_
  rw [nI_clamp (by omega)]
  rw [q_rf_vz]; exact h9
theorem k_o_alenStr (hok : q_okB M = true) (he : q_nth M.2.2.2.2.1 pos = some (pc, .arraylength, ln, a1, a2, w1, w2)) (ha : 400 ≤ a) (hsh : q_sh h a = (3, 8, L))
    (hJ : q_K g M xt d mc ms h0 mv Q k n (pos + 1, ls, .int (nI L) :: r, h)) : q_K g M xt d mc ms h0 mv Q k n (pos, ls, .ref a :: r, h) := by
  obtain rfl : ln = 1 := (q_atB hok he).2.2.1 (Nat.succ_ne_zero _)
  intro p e s m args below meth cd D cA ρ0 ρ A H locs rls en hen hB hS
  cases he.symm.trans hen
  obtain ⟨hd, hnx, -, ho2⟩ := q_atB hok he
  obtain ⟨en', he', hpc⟩ := hnx rfl
  obtain ⟨hx, hb, hr, hml, hts, hown, hlk, hnm, hxt⟩ := id hB
  obtain ⟨hK, hW, hVS, hX, hC, hst, hls, hlh, hag, hag2, hA, hnx0⟩ := id hS
  have ha2 : a < q_nx h := q_lt hC hsh (by decide)
  have h9 := hJ p e s m args below meth cd D cA ρ0 ρ A H locs rls en' he' hB ⟨hK, hW, hVS, hX, hC, q_cl1 q_vcl_i (q_tl hst), hls, hlh, hag, hag2, hA, hnx0⟩
  rw [hpc] at h9
  obtain ⟨ws, e9, e1, e2, hP, hD, hat, hcr⟩ := q_Wd_at hW ha ha2
  rw [hsh] at hcr
  have hcr : e9 = _ := hcr
  rw [hcr] at hat
  exact va_alen hx hb hK hP (a - 400) 8 hat rfl rfl hd h9
theorem k_o_newqStr {i : Int32} (hok : q_okB M = true) (he : q_nth M.2.2.2.2.1 pos = some (pc, .anewarray idx, ln, a1, a2, w1, w2)) (hw : q_gw w1 w2 = some (.classLink M.1.cls idx "java/lang/String")) (hi : i = nI L) (hL : L < 65536) (hk : k + 1 ≤ mc) (hn : n + L ≤ ms)
    (hJ : q_K g M xt d mc ms h0 mv Q (k + 1) (n + L) (pos + 1, ls, .ref (q_nx h) :: r, q_new h (3, 8, L))) : q_K g M xt d mc ms h0 mv Q k n (pos, ls, .int i :: r, h) := by
  obtain rfl : ln = 3 := (q_atB hok he).2.2.1 (Nat.succ_ne_zero _)
  intro p e s m args below meth cd D cA ρ0 ρ A H locs rls en hen hB hS
  cases he.symm.trans hen
  obtain ⟨hd, hnx, -, ho2⟩ := q_atB hok he
  obtain ⟨en', he', hpc⟩ := hnx rfl
  obtain ⟨hx, hb, hr, hml, hts, hown, hlk, hnm, hxt⟩ := id hB
  obtain ⟨hK, hW, hVS, hX, hC, hst, hls, hlh, hag, hag2, hA, hnx0⟩ := id hS
  obtain ⟨ws, f1, f2, hP, hD⟩ := id hW
  subst hi
  have hX9 := id hX
  obtain ⟨-, -, -, -, -, -, -, -, -, -, -, -, -, -, -, -, ⟨hO1, hO3, hO4, hO5⟩, hO2, -⟩ := hX9
  refine va_newq (C := "java/lang/String") hx hb hown (hts _ (q_gw_in hw rfl)) hO4 hK hP hD hVS hA (nI_pos (by omega)) (nI_clamp (by omega)) (by omega) hk hn hd (fun q c9 H1 hK1 hP1 hD1 hS1 => ?_)
  have hc9 : c9 = cA 8 := by
    have g1 := (hK1.2 9 (c9, .object "java/lang/String") rfl).2
    have g2 := (hK.2 8 (cA 8, .object "java/lang/String") rfl).2
    obtain ⟨_, _, _, _, _, g3⟩ := g1
    obtain ⟨_, _, _, _, _, g4⟩ := g2
    exact Option.some.inj (g3.symm.trans g4)
  subst hc9
  have h9 := hJ p e s m args below meth cd D cA ρ0 (q_ur ρ (q_nx h) q) A H1 locs rls en' he' hB (q_Sit_new (r := r) hS f1 f2 (by show _ = Sum.inl _; simp only [show q_R (q_new h (3, 8, L)) (q_nx h) = (fun _ => none) from q_ur_s _ _ _]; rfl) hP1 hD1 hS1 (q_tl hst))
  rw [hpc, List.map_cons, q_map_new (q_tl hst)] at h9
  rw [show q_vz (q_ur ρ (q_nx h) q) (.ref (q_nx h)) = .ref q from congrArg Value.ref (q_ur_s _ _ _)] at h9
  exact h9
theorem k_o_aastStr {i : Int32} {b cb vb : Nat} (hok : q_okB M = true) (he : q_nth M.2.2.2.2.1 pos = some (pc, .aastore, ln, a1, a2, w1, w2)) (ha : 400 ≤ a) (hsh : q_sh h a = (3, 8, L)) (hi : i = nI j) (hj : j < L) (hL : L < 2147483648) (hb1 : 400 ≤ b) (hbs : q_sh h b = (0, 13, vb))
    (hJ : q_K g M xt d mc ms h0 mv Q k n (pos + 1, ls, r, (q_nx h, q_sh h, q_I h, q_u2 (q_R h) a j (some b), q_E h, q_L h))) : q_K g M xt d mc ms h0 mv Q k n (pos, ls, .ref b :: .int i :: .ref a :: r, h) := by
  obtain rfl : ln = 1 := (q_atB hok he).2.2.1 (Nat.succ_ne_zero _)
  intro p e s m args below meth cd D cA ρ0 ρ A H locs rls en hen hB hS
  cases he.symm.trans hen
  obtain ⟨hd, hnx, -, ho2⟩ := q_atB hok he
  obtain ⟨en', he', hpc⟩ := hnx rfl
  obtain ⟨hx, hb, hr, hml, hts, hown, hlk, hnm, hxt⟩ := id hB
  obtain ⟨hK, hW, hVS, hX, hC, hst, hls, hlh, hag, hag2, hA, hnx0⟩ := id hS
  have ha2 : a < q_nx h := q_lt hC hsh (by decide)
  obtain ⟨ws, e9, e1, e2, hP, hD, hat, hcr⟩ := q_Wd_at hW ha ha2
  rw [hsh] at hcr
  have hcr : e9 = _ := hcr
  rw [hcr] at hat
  subst hi
  have hin : vp_in (nI j) L := vp_in_nI hj hL
  have hb2 : b < q_nx h := q_lt hC hbs (by decide)
  obtain ⟨ws9, e8, f1, f2, hP9, hD9, hat9, hcr9⟩ := q_Wd_at hW hb1 hb2
  rw [hbs] at hcr9
  obtain ⟨fs9, hfs9, -, -⟩ := hcr9
  rw [hfs9] at hat9
  have hany : va_Any "java/lang/String" s H (ρ b) := va_rAny hK hP9 hat9 (r := (RJ0, TJ0, 4)) rfl (fun comp c0 h1 h2 => by
    have h3 : s.vm.findClass RJ0 = some comp := h1
    cases h2.symm.trans h3
    exact va_asg _ _)
  refine va_astqM hx hb hK hP hD hVS (a - 400) 8 (E := "java/lang/String") hat rfl hany hin hd (fun H1 locs1 hP1 hD1 hS1 => ?_)
  rw [nI_clamp (by omega)] at hP1 hD1
  have hW1 : q_Wd D cA ρ (q_nx h, q_sh h, q_I h, q_u2 (q_R h) a j (some b), q_E h, q_L h) A H1 := by
    refine q_Wd_set e1 e2 ha ha2 rfl rfl (fun b hb => ⟨rfl, q_u2_row _ _ _ _ _ hb, rfl, rfl⟩) ?_ hP1 hD1
    show q_cr cA ρ _ a _ (q_sh h a)
    rw [hsh]
    refine congrArg (fun f => (Sum.inl (cA 8, L, Sum.inr (Sum.inr (Sum.inr (Sum.inr f)))) : va_E)) (funext fun i9 => ?_)
    show va_up (fun i => (q_R h a i).map ρ) j (some (ρ b)) i9 = (q_u2 (q_R h) a j (some b) a i9).map ρ
    rw [q_u2_of]; unfold va_up
    by_cases hij : i9 = j <;> simp [hij]
  have h9 := hJ p e s m args below meth cd D cA ρ0 ρ A H1 locs1 rls en' he' hB ⟨hK, hW1, hS1, hX, ⟨fun a8 j8 b8 h8 => by
      rw [show q_R (q_nx h, q_sh h, q_I h, q_u2 (q_R h) a j (some b), q_E h, q_L h) a8 j8 = q_u2 (q_R h) a j (some b) a8 j8 from rfl, q_u2_of] at h8
      split at h8
      · cases h8; exact q_hd hst _ rfl
      · exact hC.1 _ _ _ h8, hC.2⟩, q_tl (q_tl (q_tl hst)), hls, hlh, hag, hag2, hA, hnx0⟩
  rw [hpc] at h9
  exact h9
theorem k_o_aastN {i : Int32} (hok : q_okB M = true) (he : q_nth M.2.2.2.2.1 pos = some (pc, .aastore, ln, a1, a2, w1, w2)) (ha : 400 ≤ a) (hsh : q_sh h a = (3, 6, L)) (hi : i = nI j) (hj : j < L) (hL : L < 2147483648)
    (hJ : q_K g M xt d mc ms h0 mv Q k n (pos + 1, ls, r, (q_nx h, q_sh h, q_I h, q_u2 (q_R h) a j none, q_E h, q_L h))) : q_K g M xt d mc ms h0 mv Q k n (pos, ls, .null :: .int i :: .ref a :: r, h) := by
  obtain rfl : ln = 1 := (q_atB hok he).2.2.1 (Nat.succ_ne_zero _)
  intro p e s m args below meth cd D cA ρ0 ρ A H locs rls en hen hB hS
  cases he.symm.trans hen
  obtain ⟨hd, hnx, -, ho2⟩ := q_atB hok he
  obtain ⟨en', he', hpc⟩ := hnx rfl
  obtain ⟨hx, hb, hr, hml, hts, hown, hlk, hnm, hxt⟩ := id hB
  obtain ⟨hK, hW, hVS, hX, hC, hst, hls, hlh, hag, hag2, hA, hnx0⟩ := id hS
  have ha2 : a < q_nx h := q_lt hC hsh (by decide)
  obtain ⟨ws, e9, e1, e2, hP, hD, hat, hcr⟩ := q_Wd_at hW ha ha2
  rw [hsh] at hcr
  have hcr : e9 = _ := hcr
  rw [hcr] at hat
  subst hi
  have hin : vp_in (nI j) L := vp_in_nI hj hL
  refine va_astqN hx hb hK hP hD hVS (a - 400) 6 (C := "HayBarnLaw$Bale") hat rfl hin hd (fun H1 locs1 hP1 hD1 hS1 => ?_)
  rw [nI_clamp (by omega)] at hP1 hD1
  have hW1 : q_Wd D cA ρ (q_nx h, q_sh h, q_I h, q_u2 (q_R h) a j none, q_E h, q_L h) A H1 := by
    refine q_Wd_set e1 e2 ha ha2 rfl rfl (fun b hb => ⟨rfl, q_u2_row _ _ _ _ _ hb, rfl, rfl⟩) ?_ hP1 hD1
    show q_cr cA ρ _ a _ (q_sh h a)
    rw [hsh]
    refine congrArg (fun f => (Sum.inl (cA 6, L, Sum.inr (Sum.inr (Sum.inr (Sum.inr f)))) : va_E)) (funext fun i9 => ?_)
    show va_up (fun i => (q_R h a i).map ρ) j none i9 = (q_u2 (q_R h) a j none a i9).map ρ
    rw [q_u2_of]; unfold va_up
    by_cases hij : i9 = j <;> simp [hij]
  have h9 := hJ p e s m args below meth cd D cA ρ0 ρ A H1 locs1 rls en' he' hB ⟨hK, hW1, hS1, hX, ⟨fun a8 j8 b8 h8 => by
      rw [show q_R (q_nx h, q_sh h, q_I h, q_u2 (q_R h) a j none, q_E h, q_L h) a8 j8 = q_u2 (q_R h) a j none a8 j8 from rfl, q_u2_of] at h8
      split at h8
      · cases h8
      · exact hC.1 _ _ _ h8, hC.2⟩, q_tl (q_tl (q_tl hst)), hls, hlh, hag, hag2, hA, hnx0⟩
  rw [hpc] at h9
  exact h9
theorem k_o_acmpD_eq {off : Int} {x y : Option Nat} (hok : q_okB M = true) (he : q_nth M.2.2.2.2.1 pos = some (pc, .if_acmp .eq off, ln, a1, a2, w1, w2)) (hx4 : ∀ b, x = some b → 400 ≤ b) (hy4 : ∀ b, y = some b → 400 ≤ b)
    (hT : x = y → q_K g M xt d mc ms h0 mv Q k n (a1, ls, r, h)) (hF : ¬ x = y → q_K g M xt d mc ms h0 mv Q k n (pos + 1, ls, r, h)) : q_K g M xt d mc ms h0 mv Q k n (pos, ls, va_rf y :: va_rf x :: r, h) := by
  obtain rfl : ln = 3 := (q_atB hok he).2.2.1 (Nat.succ_ne_zero _)
  intro p e s m args below meth cd D cA ρ0 ρ A H locs rls en hen hB hS
  cases he.symm.trans hen
  obtain ⟨hd, hnx, -, ho2⟩ := q_atB hok he
  obtain ⟨en', he', hpc⟩ := hnx rfl
  obtain ⟨hx, hb, hr, hml, hts, hown, hlk, hnm, hxt⟩ := id hB
  obtain ⟨hK, hW, hVS, hX, hC, hst, hls, hlh, hag, hag2, hA, hnx0⟩ := id hS
  have ho2 : q_tgt M.2.2.2.2.1 pc a1 off = true := ho2
  unfold q_tgt at ho2
  cases hq : q_nth M.2.2.2.2.1 a1 with
  | none => rw [hq] at ho2; cases ho2
  | some et =>
  rw [hq] at ho2
  have htg : (pc : Int) + off = (et.1 : Int) := by simpa using ho2
  show W _ _ _ _ _ _ _ _ _ _ _ _ _ _ _ (F0 m pc rls (q_vz ρ (va_rf y) :: q_vz ρ (va_rf x) :: r.map (q_vz ρ)))
  rw [← q_rf_vz, ← q_rf_vz]
  refine lv_acmp_eq (rx := x.map ρ) (ry := y.map ρ) hx hb hd htg (fun hz => ?_) (fun hz => ?_)
  · exact hT (q_injD hW (fun b hb => ⟨hx4 b hb, q_rf_lt (q_hd (q_tl hst)) hb⟩) (fun b hb => ⟨hy4 b hb, q_rf_lt (q_hd hst) hb⟩) hz) p e s m args below meth cd D cA ρ0 ρ A H locs rls et hq hB ⟨hK, hW, hVS, hX, hC, q_tl (q_tl hst), hls, hlh, hag, hag2, hA, hnx0⟩
  · have h9 := hF (fun hz2 => hz (by rw [hz2])) p e s m args below meth cd D cA ρ0 ρ A H locs rls en' he' hB ⟨hK, hW, hVS, hX, hC, q_tl (q_tl hst), hls, hlh, hag, hag2, hA, hnx0⟩
    rw [hpc] at h9
    exact h9
theorem k_o_acmpD_ne {off : Int} {x y : Option Nat} (hok : q_okB M = true) (he : q_nth M.2.2.2.2.1 pos = some (pc, .if_acmp .ne off, ln, a1, a2, w1, w2)) (hx4 : ∀ b, x = some b → 400 ≤ b) (hy4 : ∀ b, y = some b → 400 ≤ b)
    (hT : ¬ x = y → q_K g M xt d mc ms h0 mv Q k n (a1, ls, r, h)) (hF : x = y → q_K g M xt d mc ms h0 mv Q k n (pos + 1, ls, r, h)) : q_K g M xt d mc ms h0 mv Q k n (pos, ls, va_rf y :: va_rf x :: r, h) := by
  obtain rfl : ln = 3 := (q_atB hok he).2.2.1 (Nat.succ_ne_zero _)
  intro p e s m args below meth cd D cA ρ0 ρ A H locs rls en hen hB hS
  cases he.symm.trans hen
  obtain ⟨hd, hnx, -, ho2⟩ := q_atB hok he
  obtain ⟨en', he', hpc⟩ := hnx rfl
  obtain ⟨hx, hb, hr, hml, hts, hown, hlk, hnm, hxt⟩ := id hB
  obtain ⟨hK, hW, hVS, hX, hC, hst, hls, hlh, hag, hag2, hA, hnx0⟩ := id hS
  have ho2 : q_tgt M.2.2.2.2.1 pc a1 off = true := ho2
  unfold q_tgt at ho2
  cases hq : q_nth M.2.2.2.2.1 a1 with
  | none => rw [hq] at ho2; cases ho2
  | some et =>
  rw [hq] at ho2
  have htg : (pc : Int) + off = (et.1 : Int) := by simpa using ho2
  show W _ _ _ _ _ _ _ _ _ _ _ _ _ _ _ (F0 m pc rls (q_vz ρ (va_rf y) :: q_vz ρ (va_rf x) :: r.map (q_vz ρ)))
  rw [← q_rf_vz, ← q_rf_vz]
  refine lv_acmp_ne (rx := x.map ρ) (ry := y.map ρ) hx hb hd htg (fun hz => ?_) (fun hz => ?_)
  · exact hT (fun hz2 => hz (by rw [hz2])) p e s m args below meth cd D cA ρ0 ρ A H locs rls et hq hB ⟨hK, hW, hVS, hX, hC, q_tl (q_tl hst), hls, hlh, hag, hag2, hA, hnx0⟩
  · have h9 := hF (q_injD hW (fun b hb => ⟨hx4 b hb, q_rf_lt (q_hd (q_tl hst)) hb⟩) (fun b hb => ⟨hy4 b hb, q_rf_lt (q_hd hst) hb⟩) hz) p e s m args below meth cd D cA ρ0 ρ A H locs rls en' he' hB ⟨hK, hW, hVS, hX, hC, q_tl (q_tl hst), hls, hlh, hag, hag2, hA, hnx0⟩
    rw [hpc] at h9
    exact h9
end KDYN
