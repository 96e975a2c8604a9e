/-! views of the heap; fields that point anew; new rows; tables of steps -/
theorem q_shX_t (t r m : Nat) (ext : Nat → q_Sh) : q_ur (q_shX t r m ext) 473 (0, 1, 0) = q_shX 0 r m ext := by
  funext a
  by_cases h : a = 473
  · subst h; rw [q_ur_s]; rfl
  · rw [q_ur_n _ _ _ h]; unfold q_shX; rw [q_beqN h]; rfl
theorem q_shX_r (t r m : Nat) (ext : Nat → q_Sh) : q_ur (q_shX t r m ext) 450 (0, 6, 0) = q_shX t 0 m ext := by
  funext a
  by_cases h : a = 450
  · subst h; rw [q_ur_s]; rfl
  · rw [q_ur_n _ _ _ h]; unfold q_shX; rw [q_beqN h]; rfl
theorem q_shX_new {t r m N : Nat} {ext : Nat → q_Sh} {s : q_Sh} (hN : 492 ≤ N) : q_ur (q_shX t r m ext) N s = q_shX t r m (q_ur ext N s) := by
  funext a
  by_cases ha : a = N
  · subst ha
    rw [q_ur_s]
    unfold q_shX
    rw [q_beqN (show a ≠ 473 by omega), q_beqN (show a ≠ 450 by omega)]
    have : Nat.blt a 492 = false := by
      cases hb : Nat.blt a 492 with
      | true => exact absurd (Nat.blt_eq.mp hb) (by omega)
      | false => rfl
    rw [this]
    exact (q_ur_s _ _ _).symm
  · rw [q_ur_n _ _ _ ha]
    unfold q_shX
    rw [q_ur_n _ _ _ ha]
theorem q_RX_new {z N : Nat} {rx : Nat → Nat → Option Nat} {f : Nat → Option Nat} (hN : 492 ≤ N) : q_ur (q_RX z rx) N f = q_RX z (q_ur rx N f) := by
  funext a
  by_cases ha : a = N
  · subst ha
    rw [q_ur_s]
    unfold q_RX
    have : Nat.blt a 492 = false := by
      cases hb : Nat.blt a 492 with
      | true => exact absurd (Nat.blt_eq.mp hb) (by omega)
      | false => rfl
    rw [this]
    exact (q_ur_s _ _ _).symm
  · rw [q_ur_n _ _ _ ha]
    unfold q_RX
    rw [q_ur_n _ _ _ ha]
theorem q_u2_id {α : Type} {f : Nat → Nat → α} {a j : Nat} {x : α} (h : f a j = x) : q_u2 f a j x = f := by
  funext b i
  rw [q_u2_of]
  split
  · next h1 => rw [h1.1, h1.2, h]
  · rfl
def q_tW {α : Type} (I : Nat → Nat → α) (B : Nat) (T : Nat → Nat → α) : Nat → Nat → α := fun a => bif Nat.ble B a && Nat.blt a (B + 20) then T (a - B) else I a
theorem q_tW_in {α : Type} {I : Nat → Nat → α} {B : Nat} {T : Nat → Nat → α} {j : Nat} (hj : j < 20) : q_tW I B T (B + j) = T j := by
  unfold q_tW
  rw [Nat.ble_eq_true_of_le (Nat.le_add_right B j), Nat.blt_eq.mpr (Nat.add_lt_add_left hj B), Nat.add_sub_cancel_left]
  rfl
theorem q_tW_out {α : Type} {I : Nat → Nat → α} {B a : Nat} {T : Nat → Nat → α} (h : a < B ∨ B + 20 ≤ a) : q_tW I B T a = I a := by
  unfold q_tW
  rcases h with h | h
  · have : Nat.ble B a = false := by
      cases hb : Nat.ble B a with
      | true => exact absurd (Nat.le_of_ble_eq_true hb) (by omega)
      | false => rfl
    rw [this]; rfl
  · have : Nat.blt a (B + 20) = false := by
      cases hb : Nat.blt a (B + 20) with
      | true => exact absurd (Nat.blt_eq.mp hb) (by omega)
      | false => rfl
    rw [this, Bool.and_false]; rfl
theorem q_tW_cases (B a : Nat) : (∃ j, j < 20 ∧ a = B + j) ∨ (a < B ∨ B + 20 ≤ a) := by
  by_cases h : a < B ∨ B + 20 ≤ a
  · exact Or.inr h
  · exact Or.inl ⟨a - B, by omega, by omega⟩
theorem q_tW_u2 {α : Type} {I : Nat → Nat → α} {B j f : Nat} {T : Nat → Nat → α} {x : α} (hj : j < 20) : q_u2 (q_tW I B T) (B + j) f x = q_tW I B (q_u2 T j f x) := by
  funext a
  rcases q_tW_cases B a with ⟨i, hi, rfl⟩ | h
  · rw [q_tW_in hi]
    funext y
    rw [q_u2_of, q_u2_of, q_tW_in hi]
    by_cases hij : i = j
    · subst hij; simp
    · rw [if_neg (fun h => hij (by omega)), if_neg (fun h => hij h.1)]
  · rw [q_tW_out h, q_u2_row _ _ _ _ _ (by omega), q_tW_out h]
theorem q_tW_self {α : Type} {I : Nat → Nat → α} {B : Nat} : q_tW I B (fun j => I (B + j)) = I := by
  funext a
  rcases q_tW_cases B a with ⟨i, hi, rfl⟩ | h
  · rw [q_tW_in hi]
  · rw [q_tW_out h]
theorem q_tW_ws {α : Type} {I : Nat → Nat → α} {B : Nat} {T : Nat → Nat → α} : ∀ {l : List (Nat × (Nat → α))}, q_nin B l = true → q_tW (q_ws I l) B T = q_ws (q_tW I B T) l
  | [], _ => rfl
  | p :: t, h => by
    unfold q_nin at h
    simp only [List.all_cons, Bool.and_eq_true, Bool.or_eq_true] at h
    have ih := q_tW_ws (I := I) (B := B) (T := T) (l := t) (by unfold q_nin; exact h.2)
    have hp : p.1 < B ∨ B + 20 ≤ p.1 := by
      rcases h.1 with h1 | h1
      · exact Or.inl (Nat.blt_eq.mp h1)
      · exact Or.inr (Nat.le_of_ble_eq_true h1)
    show q_tW (q_ur (q_ws I t) p.1 p.2) B T = q_ur (q_ws (q_tW I B T) t) p.1 p.2
    rw [← ih]
    funext a
    rcases q_tW_cases B a with ⟨i, hi, rfl⟩ | ha
    · rw [q_tW_in hi, q_ur_n _ _ _ (by omega), q_tW_in hi]
    · rw [q_tW_out ha]
      by_cases hpa : a = p.1
      · subst hpa; rw [q_ur_s, q_ur_s]
      · rw [q_ur_n _ _ _ hpa, q_ur_n _ _ _ hpa, q_tW_out ha]
theorem q_tW_tW {α : Type} {I : Nat → Nat → α} {B : Nat} {T T' : Nat → Nat → α} : q_tW (q_tW I B T) B T' = q_tW I B T' := by
  funext a
  rcases q_tW_cases B a with ⟨i, hi, rfl⟩ | ha
  · rw [q_tW_in hi, q_tW_in hi]
  · rw [q_tW_out ha, q_tW_out ha, q_tW_out ha]
def q_sidx : List Int32 → Nat → Int32 → Int32
  | [], _, _ => -1
  | b :: t, k, c => if b = c then nI k else q_sidx t (k + 1) c
section QKNEW
variable {g : q_G} {M M2 : q_M} {d mc ms d2 mc2 ms2 : Nat} {h0 : q_H} {mv mv2 : List Nat} {Q : (Option Value ⊕ String) → q_H → Prop} {k n pos pos' pc ln a1 a2 w1 w2 a ci v v2 idx L j b B : Nat} {ls ls' : List (Option Value)} {r st st' As rest : List Value} {h : q_H}
variable {X X2 : q_Am} {I : Nat → Nat → Int32} {E : Nat → Nat → Option Nat} {lI lI' l2I : List (Nat × (Nat → Int32))} {lE lE' l2E : List (Nat × (Nat → Option Nat))} {i x : Int32} {T : Nat → Nat → Int32} {K : Nat → Nat → Option Nat}
theorem q_Wd_set2 {D : va_G} {cA : Nat → ClassId} {ρ : Nat → Nat} {h h' : q_H} {A : Nat → Prop} {H1 : Heap} {ws : va_W} {a : Nat} {e' : va_E} (h1 : ws.length + 400 = q_nx h) (h2 : ∀ (k : Nat) (q : Nat × va_E), ws[k]? = some q → q.1 = ρ (400 + k) ∧ q_cr cA ρ h (400 + k) q.2 (q_sh h (400 + k)))
    (ha : 400 ≤ a) (ha2 : a < q_nx h) (hn : q_nx h' = q_nx h) (hs : ∀ b, b ≠ a → q_sh h' b = q_sh h b) (hrow : ∀ b, b ≠ a → q_I h' b = q_I h b ∧ q_R h' b = q_R h b ∧ q_E h' b = q_E h b ∧ q_L h' b = q_L h b) (hc : q_cr cA ρ h' a e' (q_sh h' a))
    (hP : va_P D vwCl (ws.set (a - 400) (ρ a, e')) H1) (hD : va_D A (ws.set (a - 400) (ρ a, e'))) : q_Wd D cA ρ h' A H1 := by
  refine ⟨_, by rw [List.length_set, hn]; exact h1, fun k q hq => ?_, hP, hD⟩
  by_cases hk : k = a - 400
  · have hka : 400 + k = a := by omega
    rw [hka]
    rw [hk, List.getElem?_set_self (by omega)] at hq
    cases hq
    exact ⟨rfl, hc⟩
  · rw [List.getElem?_set_ne (Ne.symm hk)] at hq
    obtain ⟨e1, e2⟩ := h2 k q hq
    obtain ⟨r1, r2, r3, r4⟩ := hrow (400 + k) (by omega)
    rw [hs _ (by omega)]
    exact ⟨e1, q_cr_congr r1 r2 r3 r4 e2⟩
/-- a field that was not known is written -/
theorem q_o_put9 {b : Nat} (hok : q_okM M = true) (he : q_nth M.2.2.2.2.1 pos = some (pc, .putfield idx, ln, ci, a2, w1, w2)) (ha : 400 ≤ a) (hsh : q_sh h a = (0, ci, v)) (hv2 : v2 < 2) (hkd : q_kd ci v2 a2 = 1) (hoth : ∀ j, j ≠ a2 → q_kd ci v2 j ≠ 9 → q_kd ci v j = q_kd ci v2 j)
    (hJ : q_J g M d mc ms h0 mv Q k n (pos + 1, ls, r, (q_nx h, q_ur (q_sh h) a (0, ci, v2), q_I h, q_u2 (q_R h) a a2 (some b), q_E h, q_L h))) : q_J g M d mc ms h0 mv Q k n (pos, ls, (.ref b) :: .ref a :: r, h) := by
  obtain rfl : ln = 3 := (q_at hok he).2.2.1 (Nat.succ_ne_zero _)
  intro p e s m args below meth cd D cA ρ0 ρ A H locs rls en hen hB hS
  cases he.symm.trans hen
  obtain ⟨hd, hnx, -, ho2⟩ := q_at hok he
  obtain ⟨en', he', hpc⟩ := hnx rfl
  obtain ⟨hx, hb, hr, hml, hts, hown, hlk, hnm, hxt⟩ := id hB
  obtain ⟨hK, hW, hVS, hX, hC, hst, hls, hlh, hag, hag2, hA, hnx0⟩ := id hS
  have ha2 : a < q_nx h := q_lt hC hsh (by decide)
  simp only [q_ok2] at ho2
  cases hf : q_fld ci a2 with
  | none => rw [hf] at ho2; cases ho2
  | some f =>
  rw [hf] at ho2
  simp only [Bool.and_eq_true] at ho2
  obtain ⟨ho3, ho4⟩ := ho2
  obtain ⟨c, hc, hk, hcf, hnf⟩ := q_fld_of hf
  obtain ⟨ws, e9, e1, e2, hP, hD, hat, hcr⟩ := q_Wd_at hW ha ha2
  rw [hsh] at hcr
  obtain ⟨fs, rfl, hfl, hfv⟩ := hcr
  have hkl : a2 < fs.length := by rw [hfl, hnf]; exact hk
  subst hcf
  have hty := (q_kd_ty (v := v2) hc hk hv2)
  have hnar : narrow (q_fty ci a2) (q_vz ρ (.ref b)) = q_vz ρ (.ref b) ∧ fits (q_fty ci a2) (q_vz ρ (.ref b)) = true := by
    rcases hty.2 (Or.inl hkd) with ⟨t, ht⟩ | ⟨t, ht⟩ <;> (rw [ht]; exact ⟨rfl, rfl⟩)
  have fin : ∀ (H1 : Heap) (locs1 : List Loc), va_P D vwCl (ws.set (a - 400) (ρ a, .inr (ci, fs.set a2 (q_vz ρ (.ref b))))) H1 → va_D A (ws.set (a - 400) (ρ a, .inr (ci, fs.set a2 (q_vz ρ (.ref b))))) → va_S A s.heap H1 locs1 →
      W p g.1 e (q_rm d mc ms) s m args below meth cd H1 locs1 k n (vx_MQ below (q_Qc D cA ρ0 h0 mv A Q) (q_XC D cA ρ0 h0 mv A Q) args s mc ms A) (F0 m (pc + 3) rls (r.map (q_vz ρ))) := by
    intro H1 locs1 hP1 hD1 hS1
    have hW1 : q_Wd D cA ρ (q_nx h, q_ur (q_sh h) a (0, ci, v2), q_I h, q_u2 (q_R h) a a2 (some b), q_E h, q_L h) A H1 := by
      refine q_Wd_set2 e1 e2 ha ha2 rfl (fun b hb => q_ur_n _ _ _ hb) (fun b hb => ⟨rfl, q_u2_row _ _ _ _ _ hb, rfl, rfl⟩) ?_ hP1 hD1
      show q_cr cA ρ _ a _ (q_ur (q_sh h) a (0, ci, v2) a)
      rw [q_ur_s]
      refine ⟨_, rfl, by rw [List.length_set]; exact hfl, fun j hj hkj => ?_⟩
      by_cases hj2 : j = a2
      · subst hj2
        rw [List.getElem?_set_self hkl, hkd]
        exact congrArg (fun z : Option Nat => some (va_rf (z.map ρ))) (q_u2_s (q_R h) a j (some b)).symm
      · rw [List.getElem?_set_ne (Ne.symm hj2), hfv j hj (by rw [hoth j hj2 hkj]; exact hkj), hoth j hj2 hkj]
        unfold q_fv
        split <;> first | rfl | (dsimp only [q_I, q_R, q_E]; rw [q_u2_j _ _ _ _ _ _ hj2])
    have h9 := hJ p e s m args below meth cd D cA ρ0 ρ A H1 locs1 rls en' he' hB ⟨hK, hW1, hS1, hX, ⟨fun a8 j8 b8 h8 => by
      rw [show q_R (q_nx h, q_ur (q_sh h) a (0, ci, v2), q_I h, q_u2 (q_R h) a a2 (some b), q_E h, q_L h) a8 j8 = q_u2 (q_R h) a a2 (some b) a8 j8 from rfl, q_u2_of] at h8
      split at h8
      · cases h8; exact q_hd hst _ rfl
      · exact hC.1 _ _ _ h8, hC.2.1, fun a8 h8 => by
        show q_ur (q_sh h) a (0, ci, v2) a8 = _
        rw [q_ur_n _ _ _ (fun h9 => by rw [h9] at h8; exact absurd ha2 (Nat.not_lt.mpr h8))]
        exact hC.2.2 a8 h8⟩, q_tl (q_tl hst), hls, hlh, hag, hag2, hA, hnx0⟩
    rw [hpc] at h9
    exact h9
  cases hfin : (c.2.1 a2).2.2.2 with
  | true =>
    rw [hfin] at ho4
    simp only [Bool.not_true, Bool.false_or, Bool.and_eq_true, decide_eq_true_eq] at ho4
    have ho4 : M.1.name = "<init>" ∧ (c.2.1 a2).1 = M.1.cls ∧ ∀ host, q_gw w1 w2 ≠ some (.fieldLinkNest M.1.cls idx (c.2.1 a2).1 (c.2.1 a2).2.1 (c.2.1 a2).2.2.1 host) := ⟨ho4.1.1, ho4.1.2, fun host hh => by rw [hh] at ho4; exact absurd ho4.2 (by simp [q_plain])⟩
    rcases q_isF_of ho3 with hw | ⟨host, hw⟩
    · exact va_putF (T := c.2.1) (N := c.2.2) (C := c.1) hx hb hts (q_cls_in ci c hc) (q_fty ci) (q_fty_ok hc) (q_names hc) hown hK hP hD hVS (a - 400) hat hc a2 hk (hts _ (q_gw_in hw rfl)) (fun _ h8 => h8) hfin (by rw [hnm]; exact ho4.1) ho4.2.1 (q_fty_ok hc a2 hk) hnar.1 hnar.2 hkl hd fin
    · exact absurd hw (ho4.2.2 host)
  | false =>
    rcases q_isF_of ho3 with hw | ⟨host, hw⟩
    · exact va_put (T := c.2.1) (N := c.2.2) (C := c.1) hx hb hts (q_cls_in ci c hc) (q_fty ci) (q_fty_ok hc) (q_names hc) hown hK hP hD hVS (a - 400) hat hc a2 hk (hts _ (q_gw_in hw rfl)) (fun _ h8 => h8) hfin (q_fty_ok hc a2 hk) hnar.1 hnar.2 hkl hd fin
    · exact va_putN (T := c.2.1) (N := c.2.2) (C := c.1) hx hb hts (q_cls_in ci c hc) (q_fty ci) (q_fty_ok hc) (q_names hc) hown hK hP hD hVS (a - 400) hat hc a2 hk (q_Xn hX (q_gw_in2 hw) rfl rfl) (fun _ h8 => h8) hfin (q_fty_ok hc a2 hk) hnar.1 hnar.2 hkl hd fin
theorem q_kpS {b : Nat} (hok : q_okM M = true) (he : q_nth M.2.2.2.2.1 pos = some (pc, .putfield idx, ln, ci, a2, w1, w2)) (ha : Nat.ble 400 a = true) (hsh : q_aS X a = (0, ci, v)) (hv2 : Nat.blt v 2 = true) (hkd : q_kd ci v a2 = 1) (hR : q_aR X a a2 = some b) (hp : pos + 1 = pos')
    (hJ : q_J g M d mc ms h0 mv Q k n (q_kc X I E pos' ls r lI lE)) : q_J g M d mc ms h0 mv Q k n (q_kc X I E pos ls (.ref b :: .ref a :: r) lI lE) := by
  subst hp
  refine q_o_putR (h := q_hp X (q_ws I lI) (q_ws E lE)) hok he (Nat.le_of_ble_eq_true ha) hsh (Nat.blt_eq.mp hv2) hkd ?_
  dsimp only [q_nx, q_sh, q_I, q_R, q_E, q_L]
  rw [q_u2_id hR]
  exact hJ
theorem q_kp9 {b : Nat} (hok : q_okM M = true) (he : q_nth M.2.2.2.2.1 pos = some (pc, .putfield idx, ln, ci, a2, w1, w2)) (ha : Nat.ble 400 a = true) (hsh : q_aS X a = (0, ci, v)) (hkd : q_kd ci 0 a2 = 1) (hoth : ∀ j, j ≠ a2 → q_kd ci 0 j ≠ 9 → q_kd ci v j = q_kd ci 0 j) (hS2 : q_ur (q_aS X) a (0, ci, 0) = q_aS X2) (hR : q_u2 (q_aR X) a a2 (some b) = q_aR X2) (hN : X.2.2.2.2.1 = X2.2.2.2.2.1) (hL : X.2.2.2.2.2.2.2 = X2.2.2.2.2.2.2.2) (hp : pos + 1 = pos')
    (hJ : q_J g M d mc ms h0 mv Q k n (q_kc X2 I E pos' ls r lI lE)) : q_J g M d mc ms h0 mv Q k n (q_kc X I E pos ls (.ref b :: .ref a :: r) lI lE) := by
  subst hp
  refine q_o_put9 (h := q_hp X (q_ws I lI) (q_ws E lE)) (v2 := 0) hok he (Nat.le_of_ble_eq_true ha) hsh (by decide) hkd hoth ?_
  dsimp only [q_nx, q_sh, q_I, q_R, q_E, q_L]
  rw [hS2, hR, hN, hL]
  exact hJ
theorem q_kpT (hok : q_okM M = true) (he : q_nth M.2.2.2.2.1 pos = some (pc, .putfield idx, ln, ci, a2, w1, w2)) (hj : j < 20) (hci : ci = 8) (hkd : q_kd 8 0 a2 = 0) (hl : q_nin 430 lI = true) (hp : pos + 1 = pos')
    (hJ : q_J g M d mc ms h0 mv Q k n (q_kc X (q_tW I 430 (q_u2 T j a2 x)) E pos' ls r lI lE)) : q_J g M d mc ms h0 mv Q k n (q_kc X (q_tW I 430 T) E pos ls (.int x :: .ref (430 + j) :: r) lI lE) := by
  subst hp; subst hci
  obtain ⟨h1, h2⟩ := q_isSt_ok X (Or.inr rfl) hj
  refine q_o_putI (h := q_hp X (q_ws (q_tW I 430 T) lI) (q_ws E lE)) hok he h2 h1 (by decide) hkd ?_
  dsimp only [q_nx, q_sh, q_I, q_R, q_E, q_L]
  rw [← q_tW_ws hl, q_tW_u2 hj, q_tW_ws hl]
  exact hJ
theorem q_kpK (hok : q_okM M = true) (he : q_nth M.2.2.2.2.1 pos = some (pc, .putfield idx, ln, ci, a2, w1, w2)) (hj : j < 20) (hci : ci = 8) (hkd : q_kd 8 0 a2 = 2) (hb : b < 49) (hl : q_nin 430 lE = true) (hp : pos + 1 = pos')
    (hJ : q_J g M d mc ms h0 mv Q k n (q_kc X I (q_tW E 430 (q_u2 K j a2 (some b))) pos' ls r lI lE)) : q_J g M d mc ms h0 mv Q k n (q_kc X I (q_tW E 430 K) pos ls (.ref b :: .ref (430 + j) :: r) lI lE) := by
  subst hp; subst hci
  obtain ⟨h1, h2⟩ := q_isSt_ok X (Or.inr rfl) hj
  refine q_o_putE (h := q_hp X (q_ws I lI) (q_ws (q_tW E 430 K) lE)) hok he h2 h1 (by decide) hkd hb ?_
  dsimp only [q_nx, q_sh, q_I, q_R, q_E, q_L]
  rw [← q_tW_ws hl, q_tW_u2 hj, q_tW_ws hl]
  exact hJ
theorem q_stb {B j : Nat} (hB : B = 406 ∨ B = 430) : Nat.ble 400 (B + j) = true := Nat.ble_eq_true_of_le (by omega)
theorem q_sts {B j : Nat} (hB : B = 406 ∨ B = 430) (hj : j < 20) : q_aS X (B + j) = (0, 8, 0) := (q_isSt_ok X hB hj).1
/-- a call whose callee writes the table of steps -/
theorem q_kVT {C : String} {Ty : u_T} {N : Nat} {o2 : Option Value ⊕ String} {v3 : Option Value} {T' : Nat → Nat → Int32} {K' : Nat → Nat → Option Nat} (hok : q_okM M = true) (hok2 : q_okM M2 = true) (hcv : q_cvP M2 As.length)
    (hCt : q_Ct g M2 d2 mc2 ms2 mv2 (.ref b :: As) (q_hp X (q_tW (q_ws I lI) 430 T) (q_tW (q_ws E lE) 430 K)) (fun o h' => o = o2 ∧ h' = q_hp X2 (q_ws (q_tW (q_ws I lI) 430 T') l2I) (q_ws (q_tW (q_ws E lE) 430 K') l2E))) (ho : o2 = .inl v3)
    (he : q_nth M.2.2.2.2.1 pos = some (pc, .invokevirtual idx, ln, a1, a2, w1, w2)) (hw : q_lk M idx M2.1 (q_gw w1 w2)) (hb4 : Nat.ble 400 b = true) (hbs : q_aS X b = (0, ci, v)) (hcl : vwCl[ci]? = some (C, Ty, N)) (hC2 : C = M2.1.cls)
    (hd : d2 + 1 ≤ d) (hk : k + mc2 ≤ mc) (hn : n + ms2 ≤ ms) (hcat : (rest.map fun v => v.category).sum ≤ 8) (hmv : ∀ x ∈ mv2, x ∈ mv) (hm1 : q_nmL mv2 ls = true) (hm2 : q_nmS mv2 rest = true)
    (hst' : st = As.reverse ++ .ref b :: rest) (hp : pos + 1 = pos') (hs2 : v3.toList ++ rest = st') (hI : q_ws (q_ws (q_tW I 430 T') lI) l2I = q_ws (q_tW I 430 T') lI') (hE : q_ws (q_ws (q_tW E 430 K') lE) l2E = q_ws (q_tW E 430 K') lE') (hnI : q_nin 430 lI = true) (hnE : q_nin 430 lE = true)
    (hJ : q_J g M d mc ms h0 mv Q (k + mc2) (n + ms2) (q_kc X2 (q_tW I 430 T') (q_tW E 430 K') pos' ls st' lI' lE')) : q_J g M d mc ms h0 mv Q k n (q_kc X (q_tW I 430 T) (q_tW E 430 K) pos ls st lI lE) := by
  subst ho; subst hp; subst hs2
  rw [q_tW_ws hnI, q_tW_ws hnE] at hCt
  refine q_callV (h := q_hp X (q_ws (q_tW I 430 T) lI) (q_ws (q_tW E 430 K) lE)) hok hok2 he hw hcv (Nat.le_of_ble_eq_true hb4) hbs hcl hC2 hCt hd hk hn hcat hmv (q_nmL_of hm1) (q_nmS_of hm2) hst' (fun v3 h3 hq => ?_) (fun E3 h3 hq => ?_)
  · obtain ⟨e1, e2⟩ := hq
    cases e1
    rw [e2, q_tW_ws hnI, q_tW_ws hnE, hI, hE]
    exact hJ
  · cases hq.1
/-- the table of steps goes with rows -/
theorem q_JtW (hnI : q_nin 430 lI = true) (hnE : q_nin 430 lE = true) (hJ : q_J g M d mc ms h0 mv Q k n (pos, ls, st, q_hp X (q_tW (q_ws I lI) 430 T) (q_tW (q_ws E lE) 430 K))) : q_J g M d mc ms h0 mv Q k n (q_kc X (q_tW I 430 T) (q_tW E 430 K) pos ls st lI lE) := by
  show q_J g M d mc ms h0 mv Q k n (pos, ls, st, q_hp X (q_ws (q_tW I 430 T) lI) (q_ws (q_tW E 430 K) lE))
  rw [← q_tW_ws hnI, ← q_tW_ws hnE]
  exact hJ
theorem q_JtWm (hnI : q_nin 430 lI = true) (hnE : q_nin 430 lE = true) (hI : q_ws (q_ws (q_tW I 430 T) lI) l2I = q_ws (q_tW I 430 T) lI') (hE : q_ws (q_ws (q_tW E 430 K) lE) l2E = q_ws (q_tW E 430 K) lE') (hJ : q_J g M d mc ms h0 mv Q k n (q_kc X (q_tW I 430 T) (q_tW E 430 K) pos ls st lI' lE')) : q_J g M d mc ms h0 mv Q k n (q_kc X (q_tW (q_ws I lI) 430 T) (q_tW (q_ws E lE) 430 K) pos ls st l2I l2E) := by
  show q_J g M d mc ms h0 mv Q k n (pos, ls, st, q_hp X (q_ws (q_tW (q_ws I lI) 430 T) l2I) (q_ws (q_tW (q_ws E lE) 430 K) l2E))
  rw [q_tW_ws hnI, q_tW_ws hnE, hI, hE]
  exact hJ
/-- null is no constant -/
theorem q_acmN (hok : q_okM M = true) {off : Int} (he : q_nth M.2.2.2.2.1 pos = some (pc, .if_acmp .ne off, ln, a1, a2, w1, w2)) (hJ : q_J g M d mc ms h0 mv Q k n (q_kc X I E a1 ls r lI lE)) : q_J g M d mc ms h0 mv Q k n (q_kc X I E pos ls (.ref b :: .null :: r) lI lE) := by
  obtain rfl : ln = 3 := (q_at hok he).2.2.1 (Nat.succ_ne_zero _)
  intro p e s m args below meth cd D cA ρ0 ρ A H locs rls en hen hB hS
  cases he.symm.trans hen
  obtain ⟨hd, hnx, -, ho2⟩ := q_at hok he
  obtain ⟨en', he', hpc⟩ := hnx rfl
  obtain ⟨hx, hb, hr, hml, hts, hown, hlk, hnm, hxt⟩ := id hB
  obtain ⟨hK, hW, hVS, hX, hC, hst, hls, hlh, hag, hag2, hA, hnx0⟩ := id hS
  have ho2 : q_tgt M.2.2.2.2.1 pc a1 off = true := ho2
  obtain ⟨et, hq, htg⟩ := q_tgt_of ho2
  refine lv_acmp_ne (rx := none) (ry := some (ρ b)) hx hb hd htg (fun hz => ?_) (fun hz => ?_)
  · exact hJ p e s m args below meth cd D cA ρ0 ρ A H locs rls et hq hB ⟨hK, hW, hVS, hX, hC, q_tl (q_tl hst), hls, hlh, hag, hag2, hA, hnx0⟩
  · cases hz
end QKNEW
