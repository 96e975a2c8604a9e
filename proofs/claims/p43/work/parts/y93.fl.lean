/-! THE LAW MAKES ITS HAYBARN: the class's ids come to be 400 .. 491, the law's own move behind them -/
theorem fl_nx : q_nx q_Z12_22 = 492 := by decide +kernel
theorem fl_ck : q_ck id (q_R q_Z12_22) (q_sh q_Z12_22) = true := by decide +kernel
set_option maxRecDepth 100000 in
theorem fl_3 : ∀ a j, a = 403 ∨ a = 427 → 20 ≤ j → q_R q_Z12_22 (id a) j = none := by
  intro a j ha hj
  obtain ⟨z, rfl⟩ : ∃ z, j = z + 20 := ⟨j - 20, by omega⟩
  rcases ha with rfl | rfl <;> rfl
theorem fl_clo0 : q_clo q_h00 := ⟨fun _ _ _ h => (by cases h), fun _ _ _ h => (by cases h), fun _ _ => rfl⟩
theorem fl_clo1 : q_clo q_h01 := q_clo_new (sN := (0, 10, 0)) fl_clo0
def fl_u (b : Nat) : Nat := if b < 400 then b else b + 92
def fl_s (N a : Nat) : Nat := if a < 400 then a else if a < 492 then a - 400 + N else a - 92
/-- h, with the class's objects in front -/
def fl_H (h : q_H) : q_H := (q_nx h + 92, fun a => if a < 492 then q_shX 1 1 1 q_e0 a else q_sh h (a - 92), fun a => if a < 492 then q_I q_Z12_22 a else q_I h (a - 92), fun a => if a < 492 then q_R0 a else (fun j => (q_R h (a - 92) j).map fl_u), fun a => if a < 492 then (if a < 400 then fun _ => none else q_E q_Z12_22 a) else q_E h (a - 92), fun a => if a < 492 then q_L q_Z12_22 a else q_L h (a - 92))
theorem q_cmp_of {σ : Nat → Nat} {h h' : q_H} {a : Nat} (e0 : q_sh h' a = q_sh h (σ a)) (e1 : q_I h' a = q_I h (σ a)) (e2 : q_E h' a = q_E h (σ a)) (e3 : q_L h' a = q_L h (σ a)) (e4 : ∀ j, q_R h (σ a) j = (q_R h' a j).map σ) : q_cmp σ h h' a := by
  unfold q_cmp
  cases hs : q_sh h' a with
  | mk t cn =>
    obtain ⟨c, n⟩ := cn
    rw [e0] at hs
    match t, hs with
    | 0, hs => exact ⟨⟨e1, e2⟩, n, hs, fun j _ _ => ⟨rfl, fun _ => e4 j⟩⟩
    | 1, hs => exact ⟨hs, e1⟩
    | 2, hs => exact ⟨hs, e3⟩
    | 3, hs => exact ⟨hs, e4⟩
    | t + 4, hs => exact ⟨hs, e2⟩
section FL
variable {g : q_G} {xt : List ExceptionTableEntry} {M : q_M} {d mc ms : Nat} {h h0 : q_H} {mv : List Nat} {Q : q_Po} {k n pos tb s : Nat} {ls : List (Option Value)} {st : List Value}
theorem k_cloI (hJ : q_clo h → q_K g M xt d mc ms h0 mv Q k n (pos, ls, st, h)) : q_K g M xt d mc ms h0 mv Q k n (pos, ls, st, h) := by
  intro p e s m args below meth cd D cA ρ0 ρ A H locs rls en hen hB hS
  obtain ⟨hK, hW, hVS, hX, hC, hr⟩ := id hS
  exact hJ hC p e s m args below meth cd D cA ρ0 ρ A H locs rls en hen hB hS
theorem fl_ap {N : Nat} : q_ap N 400 = N := by
  unfold q_ap
  rw [if_neg (by decide)]
  omega
theorem fl_ctor (hd : 5 ≤ d) (hN : 400 ≤ q_nx h) (hC : q_clo h) : q_Ct g m_X12_init d 91 9014 [] [.ref (q_nx h)] (q_new h (0, 10, 0)) (fun o h2 => o = .inl none ∧ h2 = q_apd (q_nx h) (q_new h (0, 10, 0)) q_Z12_22) := by
  have h9 := q_frame2 (g := g) (N := q_nx h) (h := q_new h (0, 10, 0)) (hc := q_h01) (As := [.ref 400]) hN (Nat.le_succ _) (show 401 + q_nx h = q_nx h + 1 + 400 by omega) (fun a h1 h2 => ?_) fl_clo1 (fun a j b ha hb => ?_) (fun v hv b hb => ?_) (fun o h1 hq => hq.1) (ctc_X12_init_400 (g := g) hd)
  · rw [List.map_cons, List.map_nil, show q_vm (q_ap (q_nx h)) (.ref 400) = .ref (q_nx h) from congrArg Value.ref fl_ap] at h9
    exact q_Ct_mono h9 (fun o h2 hq => ⟨hq.1, by obtain ⟨-, h1, ⟨-, e1⟩, e2⟩ := hq; rw [e2, e1]⟩)
  · have h2 : a < 401 := h2
    obtain rfl : a = 400 := by omega
    have eR : ∀ j, q_R (q_new h (0, 10, 0)) (q_nx h) j = none := fun j => by
      show q_ur (q_R h) (q_nx h) (fun _ => none) (q_nx h) j = none
      rw [q_ur_s]
    have eE : q_E (q_new h (0, 10, 0)) (q_nx h) = fun _ => none := q_ur_s _ _ _
    have eL : q_L (q_new h (0, 10, 0)) (q_nx h) = fun _ => 0 := q_ur_s _ _ _
    refine q_cmp_of ?_ ?_ ?_ ?_ (fun j => ?_)
    · rw [fl_ap, z_sh_new]; rfl
    · rw [fl_ap, tx_n_I0]; rfl
    · rw [fl_ap, eE]; rfl
    · rw [fl_ap, eL]; rfl
    · rw [fl_ap, eR]; rfl
  · have hb : q_R (q_new h (0, 10, 0)) a j = some b := hb
    rw [tx_n_R (by omega)] at hb
    exact hC.1 a j b hb
  · have hv : v = .ref 400 := by simpa using hv
    rw [hv] at hb
    cases hb
    show 400 < 401
    decide
theorem fl_cmp (hN : 400 ≤ q_nx h) {a : Nat} (ha : 400 ≤ a) (ha2 : a < q_nx h + 92) : q_cmp (fl_s (q_nx h)) (q_apd (q_nx h) (q_new h (0, 10, 0)) q_Z12_22) (fl_H h) a := by
  by_cases h1 : a < 492
  · have hσ : fl_s (q_nx h) a = a - 400 + q_nx h := by unfold fl_s; rw [if_neg (by omega), if_pos h1]
    have hn : ¬ a - 400 + q_nx h < q_nx h := by omega
    have ei : a - 400 + q_nx h - q_nx h + 400 = a := by omega
    have A1 : q_sh (q_apd (q_nx h) (q_new h (0, 10, 0)) q_Z12_22) (fl_s (q_nx h) a) = q_sh q_Z12_22 a := by rw [hσ]; exact (if_neg hn).trans (congrArg (q_sh q_Z12_22) ei)
    have A2 : q_I (q_apd (q_nx h) (q_new h (0, 10, 0)) q_Z12_22) (fl_s (q_nx h) a) = q_I q_Z12_22 a := by rw [hσ]; exact (if_neg hn).trans (congrArg (q_I q_Z12_22) ei)
    have A3 : q_E (q_apd (q_nx h) (q_new h (0, 10, 0)) q_Z12_22) (fl_s (q_nx h) a) = q_E q_Z12_22 a := by rw [hσ]; exact (if_neg hn).trans (congrArg (q_E q_Z12_22) ei)
    have A4 : q_L (q_apd (q_nx h) (q_new h (0, 10, 0)) q_Z12_22) (fl_s (q_nx h) a) = q_L q_Z12_22 a := by rw [hσ]; exact (if_neg hn).trans (congrArg (q_L q_Z12_22) ei)
    have A5 : ∀ j, q_R (q_apd (q_nx h) (q_new h (0, 10, 0)) q_Z12_22) (fl_s (q_nx h) a) j = (q_R q_Z12_22 a j).map (q_ap (q_nx h)) := fun j => by
      rw [hσ]
      show (if a - 400 + q_nx h < q_nx h then q_R (q_new h (0, 10, 0)) (a - 400 + q_nx h) else (fun j => (q_R q_Z12_22 (a - 400 + q_nx h - q_nx h + 400) j).map (q_ap (q_nx h)))) j = _
      rw [if_neg hn, ei]
    have B1 : q_sh (fl_H h) a = q_shX 1 1 1 q_e0 a := if_pos h1
    have B2 : q_I (fl_H h) a = q_I q_Z12_22 a := if_pos h1
    have B3 : q_E (fl_H h) a = q_E q_Z12_22 a := (if_pos h1).trans (if_neg (by omega))
    have B4 : q_L (fl_H h) a = q_L q_Z12_22 a := if_pos h1
    have B5 : q_R (fl_H h) a = q_R0 a := if_pos h1
    have hmap : ∀ j, (q_R0 a j).map (q_ap (q_nx h)) = (q_R0 a j).map (fl_s (q_nx h)) := fun j => by
      cases hq : q_R0 a j with
      | none => rfl
      | some b =>
        have hb := q_R0_lt hq
        refine congrArg some ?_
        unfold q_ap fl_s
        by_cases hb4 : b < 400
        · rw [if_pos hb4, if_pos hb4]
        · rw [if_neg hb4, if_neg hb4, if_pos hb]
    have c1 := q_ck_cmp fl_ck (N := 492) (I := q_I q_Z12_22) (E := q_E q_Z12_22) (L := q_L q_Z12_22) fl_3 ha h1
    have hR0 : q_R (q_hp (q_XR (fun a => q_L q_Z12_22 (id a))) (fun a => q_I q_Z12_22 (id a)) (fun a => q_E q_Z12_22 (id a))) a = q_R0 a := q_R0_of h1
    have hRm : ∀ j, q_R q_Z12_22 a j = (q_R (q_hp (q_XR (fun a => q_L q_Z12_22 (id a))) (fun a => q_I q_Z12_22 (id a)) (fun a => q_E q_Z12_22 (id a))) a j).map id → q_R (q_apd (q_nx h) (q_new h (0, 10, 0)) q_Z12_22) (fl_s (q_nx h) a) j = (q_R (fl_H h) a j).map (fl_s (q_nx h)) := fun j e => by
      rw [A5, B5, e, hR0, Option.map_id, id, hmap]
    unfold q_cmp at c1 ⊢
    rw [B1, A1, A2, A3, A4, B2, B3, B4]
    have hs : q_sh (q_hp (q_XR (fun a => q_L q_Z12_22 (id a))) (fun a => q_I q_Z12_22 (id a)) (fun a => q_E q_Z12_22 (id a))) a = q_shX 1 1 1 q_e0 a := rfl
    rw [hs] at c1
    generalize q_shX 1 1 1 q_e0 a = S at c1 ⊢
    obtain ⟨t, c, v'⟩ := S
    match t, c1 with
    | 0, c1 =>
      obtain ⟨-, v, c2, c3⟩ := c1
      exact ⟨⟨rfl, rfl⟩, v, c2, fun j hj hk => ⟨(c3 j hj hk).1, fun h9 => hRm j ((c3 j hj hk).2 h9)⟩⟩
    | 1, c1 => exact ⟨c1.1, rfl⟩
    | 2, c1 => exact ⟨c1.1, rfl⟩
    | 3, c1 => exact ⟨c1.1, fun j => hRm j (c1.2 j)⟩
    | t + 4, c1 => exact ⟨c1.1, rfl⟩
  · have hσ : fl_s (q_nx h) a = a - 92 := by unfold fl_s; rw [if_neg (by omega), if_neg h1]
    have hp : a - 92 < q_nx h := by omega
    have hne : a - 92 ≠ q_nx h := by omega
    refine q_cmp_of ?_ ?_ ?_ ?_ (fun j => ?_)
    · rw [hσ]; exact (if_neg h1).trans (((if_pos hp).trans (tx_n_sh hne)).symm)
    · rw [hσ]; exact (if_neg h1).trans (((if_pos hp).trans (tx_n_I hne)).symm)
    · rw [hσ]; exact (if_neg h1).trans (((if_pos hp).trans (q_ur_n _ _ _ hne)).symm)
    · rw [hσ]; exact (if_neg h1).trans (((if_pos hp).trans (q_ur_n _ _ _ hne)).symm)
    · rw [hσ]
      have e1 : q_R (q_apd (q_nx h) (q_new h (0, 10, 0)) q_Z12_22) (a - 92) j = q_R h (a - 92) j := congrFun ((if_pos hp).trans (tx_n_R hne)) j
      have e2 : q_R (fl_H h) a j = (q_R h (a - 92) j).map fl_u := by
        show (if a < 492 then q_R0 a else (fun j => (q_R h (a - 92) j).map fl_u)) j = _
        rw [if_neg h1]
      rw [e1, e2]
      cases q_R h (a - 92) j with
      | none => rfl
      | some b =>
        refine congrArg some ?_
        show b = fl_s (q_nx h) (fl_u b)
        unfold fl_s fl_u
        by_cases hb4 : b < 400
        · rw [if_pos hb4, if_pos hb4]
        · rw [if_neg hb4, if_neg (by omega), if_neg (by omega)]; omega
theorem fl_clo (hN : 400 ≤ q_nx h) (hC : q_clo h) (hA : q_clo (q_apd (q_nx h) (q_new h (0, 10, 0)) q_Z12_22)) : q_clo (fl_H h) := by
  have hE : ∀ a j b, 400 ≤ a → q_E q_Z12_22 a j = some b → b < 49 := fun a j b h4 hb => by
    refine hA.2.1 (a - 400 + q_nx h) j b ?_
    show (if a - 400 + q_nx h < q_nx h then q_E (q_new h (0, 10, 0)) (a - 400 + q_nx h) else q_E q_Z12_22 (a - 400 + q_nx h - q_nx h + 400)) j = some b
    rw [if_neg (by omega), show a - 400 + q_nx h - q_nx h + 400 = a by omega]
    exact hb
  refine ⟨fun a j b hb => ?_, fun a j b hb => ?_, fun a ha => ?_⟩
  · have hb : (if a < 492 then q_R0 a else (fun j => (q_R h (a - 92) j).map fl_u)) j = some b := hb
    show b < q_nx h + 92
    by_cases h2 : a < 492
    · rw [if_pos h2] at hb
      have := q_R0_lt hb
      omega
    · rw [if_neg h2] at hb
      cases hq : q_R h (a - 92) j with
      | none => simp [hq] at hb
      | some c =>
        have h3 := hC.1 _ _ _ hq
        have hb : some (fl_u c) = some b := by simpa [hq] using hb
        cases hb
        unfold fl_u
        split <;> omega
  · have hb : (if a < 492 then (if a < 400 then fun _ => none else q_E q_Z12_22 a) else q_E h (a - 92)) j = some b := hb
    by_cases h2 : a < 492
    · rw [if_pos h2] at hb
      by_cases h3 : a < 400
      · rw [if_pos h3] at hb; cases hb
      · rw [if_neg h3] at hb; exact hE a j b (by omega) hb
    · rw [if_neg h2] at hb; exact hC.2.1 _ j b hb
  · have ha : q_nx h + 92 ≤ a := ha
    show (if a < 492 then _ else q_sh h (a - 92)) = _
    rw [if_neg (by omega)]
    exact hC.2.2 _ (by omega)
/-- the view: the class's ids in front -/
theorem fl_view {ls' : List (Option Value)} {st' : List Value} (hN : 400 ≤ q_nx h) (hC : q_clo h) (hn0 : q_nx h0 ≤ 400) (hls : ls = ls'.map (fun v => v.map (q_vm (fl_s (q_nx h))))) (hst : st = st'.map (q_vm (fl_s (q_nx h)))) (hv1 : ∀ a, Value.ref a ∈ st' → a < q_nx h + 92) (hv2 : ∀ i a, q_nth ls' i = some (some (.ref a)) → a < q_nx h + 92)
    (hJ : q_K g M xt d mc ms h0 mv Q k n (pos, ls', st', fl_H h)) : q_K g M xt d mc ms h0 mv Q k n (pos, ls, st, q_apd (q_nx h) (q_new h (0, 10, 0)) q_Z12_22) := by
  have hnx : q_nx (q_apd (q_nx h) (q_new h (0, 10, 0)) q_Z12_22) = q_nx h + 92 := by
    show q_nx h + (q_nx q_Z12_22 - 400) = _
    rw [fl_nx]
  refine k_vw (fl_s (q_nx h)) (h := q_apd (q_nx h) (q_new h (0, 10, 0)) q_Z12_22) (h' := fl_H h) (ls' := ls') (st' := st') (by rw [hnx]; exact Nat.le_refl _) (show 400 ≤ q_nx h + 92 by omega) (show q_nx h0 ≤ q_nx h + 92 by omega) (fun a ha => if_pos ha) (fun a h1 h2 => ?_) (fun a b a1 a2 b1 b2 e => ?_) (fun a h1 h2 => fl_cmp hN h1 h2) (fun hA => fl_clo hN hC hA) hls hst hv1 hv2 (fun a ha _ => if_pos (by omega)) hJ
  · have h2 : a < q_nx h + 92 := h2
    rw [hnx]
    unfold fl_s
    rw [if_neg (by omega)]
    split <;> omega
  · have a2 : a < q_nx h + 92 := a2
    have b2 : b < q_nx h + 92 := b2
    have f : ∀ c, 400 ≤ c → (c < 492 ∧ fl_s (q_nx h) c = c - 400 + q_nx h) ∨ (¬ c < 492 ∧ fl_s (q_nx h) c = c - 92) := fun c hc => by
      unfold fl_s
      rw [if_neg (by omega)]
      by_cases h9 : c < 492
      · exact Or.inl ⟨h9, if_pos h9⟩
      · exact Or.inr ⟨h9, if_neg h9⟩
    rcases f a a1 with ⟨f1, f2⟩ | ⟨f1, f2⟩ <;> rcases f b b1 with ⟨f3, f4⟩ | ⟨f3, f4⟩ <;> rw [f2, f4] at e <;> omega
end FL
