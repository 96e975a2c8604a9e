/-! FOR THE PRINTED WALKS -/
theorem q_bd {α β : Type} {o : Option α} {f : α → Option β} {r : β} (h : o.bind f = some r) : ∃ x, o = some x ∧ f x = some r := by
  cases o with
  | none => cases h
  | some x => exact ⟨x, rfl, h⟩
/-- an index that is in range -/
def q_ix (i : Int32) (L : Nat) : Option Nat := if 0 ≤ i ∧ i.toNatClampNeg < L then some i.toNatClampNeg else none
theorem q_ix_lt {i : Int32} {L j : Nat} (h : q_ix i L = some j) : j < L := by
  unfold q_ix at h
  split at h
  · next h1 => cases h; exact h1.2
  · cases h
theorem q_ix_eq {i : Int32} {L j : Nat} (h : q_ix i L = some j) : i = nI j := by
  unfold q_ix at h
  split at h
  · next h1 =>
    cases h
    have h2 : ¬ i < 0 := fun h => by
      have h3 := Int32.le_iff_toInt_le.mp h1.1
      have h4 := Int32.lt_iff_toInt_lt.mp h
      have h5 : (0 : Int32).toInt = 0 := by decide
      omega
    obtain ⟨j, hj, rfl⟩ := nI_of h2
    rw [nI_clamp hj]
  · cases h
theorem q_ix_nI {L j : Nat} (hj : j < L) (hL : L ≤ 2147483648) : q_ix (nI j) L = some j := by
  unfold q_ix
  rw [nI_clamp (by omega), if_pos ⟨nI_pos' (by omega), hj⟩]
theorem q_u2_id {α : Type} {f : Nat → Nat → α} {a j : Nat} {x : α} (h : f a j = x) : q_u2 f a j x = f := by
  funext b i
  rw [q_u2_of]
  split
  · next h1 => rw [h1.1, h1.2, h]
  · rfl
theorem q_shX_new {t r m N : Nat} {ext : Nat → q_Sh} {s : q_Sh} (hN : 529 ≤ N) : q_ur (q_shX t r m ext) N s = q_shX t r m (q_ur ext N s) := by
  funext a
  unfold q_shX
  by_cases ha : a = N
  · subst ha
    rw [q_ur_s]
    have : Nat.blt a 529 = false := by
      cases hb : Nat.blt a 529 with
      | true => exact absurd (Nat.blt_eq.mp hb) (by omega)
      | false => rfl
    rw [this, cond_false, q_ur_s]
  · rw [q_ur_n _ _ _ ha, q_ur_n _ _ _ ha]
theorem q_RX_new {rx : Nat → Nat → Option Nat} {N : Nat} {f : Nat → Option Nat} (hN : 529 ≤ N) : q_ur (q_RX rx) N f = q_RX (q_ur rx N f) := by
  funext a
  unfold q_RX
  by_cases ha : a = N
  · subst ha
    rw [q_ur_s]
    have : Nat.blt a 529 = false := by
      cases hb : Nat.blt a 529 with
      | true => exact absurd (Nat.blt_eq.mp hb) (by omega)
      | false => rfl
    rw [this, cond_false, q_ur_s]
  · rw [q_ur_n _ _ _ ha, q_ur_n _ _ _ ha]
/-- the steps -/
def q_isSt (s : Nat) : Bool := (Nat.ble 406 s && Nat.blt s 426) || (Nat.ble 430 s && Nat.blt s 450)
theorem q_isSt_ok (t r m : Nat) (ext : Nat → q_Sh) {s : Nat} (h : q_isSt s = true) : q_shX t r m ext s = (0, 8, 0) ∧ 400 ≤ s := by
  unfold q_isSt at h
  simp only [Bool.or_eq_true, Bool.and_eq_true] at h
  have h1 : (406 ≤ s ∧ s < 426) ∨ (430 ≤ s ∧ s < 450) := by
    rcases h with ⟨h1, h2⟩ | ⟨h1, h2⟩
    · exact Or.inl ⟨Nat.le_of_ble_eq_true h1, Nat.blt_eq.mp h2⟩
    · exact Or.inr ⟨Nat.le_of_ble_eq_true h1, Nat.blt_eq.mp h2⟩
  have h2 : ∀ i, i < 20 → q_shX t r m ext (406 + i) = (0, 8, 0) ∧ q_shX t r m ext (430 + i) = (0, 8, 0) := by
    intro i hi
    match i, hi with
    | 0, _ | 1, _ | 2, _ | 3, _ | 4, _ | 5, _ | 6, _ | 7, _ | 8, _ | 9, _ | 10, _ | 11, _ | 12, _ | 13, _ | 14, _ | 15, _ | 16, _ | 17, _ | 18, _ | 19, _ => exact ⟨rfl, rfl⟩
    | z + 20, hz => exact absurd hz (by omega)
  rcases h1 with h1 | h1
  · have := (h2 (s - 406) (by omega)).1
    rw [show 406 + (s - 406) = s by omega] at this
    exact ⟨this, by omega⟩
  · have := (h2 (s - 430) (by omega)).2
    rw [show 430 + (s - 430) = s by omega] at this
    exact ⟨this, by omega⟩
theorem q_told (rx : Nat → Nat → Option Nat) {P j : Nat} (hP : P = 402 ∨ P = 426) (hj : j < 20) : q_RX rx (P + 1) j = some (P + 4 + j) ∧ q_isSt (P + 4 + j) = true := by
  rcases hP with rfl | rfl <;>
  (match j, hj with
    | 0, _ | 1, _ | 2, _ | 3, _ | 4, _ | 5, _ | 6, _ | 7, _ | 8, _ | 9, _ | 10, _ | 11, _ | 12, _ | 13, _ | 14, _ | 15, _ | 16, _ | 17, _ | 18, _ | 19, _ => exact ⟨rfl, rfl⟩
    | z + 20, hz => exact absurd hz (by omega))
section QPRINT
variable {g : q_G} {M : q_M} {d mc ms : Nat} {h0 : q_H} {mv : List Nat} {Q : (Option Value ⊕ String) → q_H → Prop} {k n pos pc ln a1 a2 w1 w2 a ci v idx L j : Nat} {ls : List (Option Value)} {r : List Value} {h : q_H}
variable {N : Nat} {sh : Nat → q_Sh} {I : Nat → Nat → Int32} {R E : Nat → Nat → Option Nat} {LL : Nat → Nat → Int64} {i x : Int32}
theorem q_p_iald (hok : q_okM M = true) (he : q_nth M.2.2.2.2.1 pos = some (pc, .iaload, ln, a1, a2, w1, w2)) (ha : 400 ≤ a) (hsh : sh a = (1, 0, L)) (hix : q_ix i L = some j) (hL : L < 2147483648)
    (hJ : q_J g M d mc ms h0 mv Q k n (pos + 1, ls, .int (I a j) :: r, (N, sh, I, R, E, LL))) : q_J g M d mc ms h0 mv Q k n (pos, ls, .int i :: .ref a :: r, (N, sh, I, R, E, LL)) :=
  q_o_iald (h := (N, sh, I, R, E, LL)) hok he ha hsh (q_ix_eq hix) (q_ix_lt hix) hL hJ
theorem q_p_bald (hok : q_okM M = true) (he : q_nth M.2.2.2.2.1 pos = some (pc, .baload, ln, a1, a2, w1, w2)) (ha : 400 ≤ a) (hsh : sh a = (1, 1, L)) (hix : q_ix i L = some j) (hL : L < 2147483648)
    (hJ : q_J g M d mc ms h0 mv Q k n (pos + 1, ls, .int (I a j) :: r, (N, sh, I, R, E, LL))) : q_J g M d mc ms h0 mv Q k n (pos, ls, .int i :: .ref a :: r, (N, sh, I, R, E, LL)) :=
  q_o_bald (h := (N, sh, I, R, E, LL)) hok he ha hsh (q_ix_eq hix) (q_ix_lt hix) hL hJ
theorem q_p_zald (hok : q_okM M = true) (he : q_nth M.2.2.2.2.1 pos = some (pc, .baload, ln, a1, a2, w1, w2)) (ha : 400 ≤ a) (hsh : sh a = (1, 2, L)) (hix : q_ix i L = some j) (hL : L < 2147483648)
    (hJ : q_J g M d mc ms h0 mv Q k n (pos + 1, ls, .int (I a j) :: r, (N, sh, I, R, E, LL))) : q_J g M d mc ms h0 mv Q k n (pos, ls, .int i :: .ref a :: r, (N, sh, I, R, E, LL)) :=
  q_o_zald (h := (N, sh, I, R, E, LL)) hok he ha hsh (q_ix_eq hix) (q_ix_lt hix) hL hJ
theorem q_p_iast (hok : q_okM M = true) (he : q_nth M.2.2.2.2.1 pos = some (pc, .iastore, ln, a1, a2, w1, w2)) (ha : 400 ≤ a) (hsh : sh a = (1, 0, L)) (hix : q_ix i L = some j) (hL : L < 2147483648)
    (hJ : q_J g M d mc ms h0 mv Q k n (pos + 1, ls, r, (N, sh, q_u2 I a j x, R, E, LL))) : q_J g M d mc ms h0 mv Q k n (pos, ls, .int x :: .int i :: .ref a :: r, (N, sh, I, R, E, LL)) :=
  q_o_iast (h := (N, sh, I, R, E, LL)) hok he ha hsh (q_ix_eq hix) (q_ix_lt hix) hL hJ
theorem q_p_bast (hok : q_okM M = true) (he : q_nth M.2.2.2.2.1 pos = some (pc, .bastore, ln, a1, a2, w1, w2)) (ha : 400 ≤ a) (hsh : sh a = (1, 1, L)) (hix : q_ix i L = some j) (hL : L < 2147483648)
    (hJ : q_J g M d mc ms h0 mv Q k n (pos + 1, ls, r, (N, sh, q_u2 I a j x.toInt8.toInt32, R, E, LL))) : q_J g M d mc ms h0 mv Q k n (pos, ls, .int x.toInt8.toInt32 :: .int i :: .ref a :: r, (N, sh, I, R, E, LL)) :=
  q_o_bast (h := (N, sh, I, R, E, LL)) hok he ha hsh (q_ix_eq hix) (q_ix_lt hix) hL (by rw [pk_vb]; exact hJ)
theorem q_p_zast0 (hok : q_okM M = true) (he : q_nth M.2.2.2.2.1 pos = some (pc, .bastore, ln, a1, a2, w1, w2)) (ha : 400 ≤ a) (hsh : sh a = (1, 2, L)) (hix : q_ix i L = some j) (hL : L < 2147483648)
    (hJ : q_J g M d mc ms h0 mv Q k n (pos + 1, ls, r, (N, sh, q_u2 I a j 0, R, E, LL))) : q_J g M d mc ms h0 mv Q k n (pos, ls, .int 0 :: .int i :: .ref a :: r, (N, sh, I, R, E, LL)) :=
  q_o_zast (h := (N, sh, I, R, E, LL)) hok he ha hsh (q_ix_eq hix) (q_ix_lt hix) hL (by rw [show vp_nar .boolean 0 = 0 from by decide]; exact hJ)
theorem q_p_zast1 (hok : q_okM M = true) (he : q_nth M.2.2.2.2.1 pos = some (pc, .bastore, ln, a1, a2, w1, w2)) (ha : 400 ≤ a) (hsh : sh a = (1, 2, L)) (hix : q_ix i L = some j) (hL : L < 2147483648)
    (hJ : q_J g M d mc ms h0 mv Q k n (pos + 1, ls, r, (N, sh, q_u2 I a j 1, R, E, LL))) : q_J g M d mc ms h0 mv Q k n (pos, ls, .int 1 :: .int i :: .ref a :: r, (N, sh, I, R, E, LL)) :=
  q_o_zast (h := (N, sh, I, R, E, LL)) hok he ha hsh (q_ix_eq hix) (q_ix_lt hix) hL (by rw [show vp_nar .boolean 1 = 1 from by decide]; exact hJ)
theorem q_p_aastE {b : Nat} (hok : q_okM M = true) (he : q_nth M.2.2.2.2.1 pos = some (pc, .aastore, ln, a1, a2, w1, w2)) (ha : 400 ≤ a) (hsh : sh a = (4, 5, L)) (hix : q_ix i L = some j) (hL : L < 2147483648) (hb : b < 49)
    (hJ : q_J g M d mc ms h0 mv Q k n (pos + 1, ls, r, (N, sh, I, R, q_u2 E a j (some b), LL))) : q_J g M d mc ms h0 mv Q k n (pos, ls, .ref b :: .int i :: .ref a :: r, (N, sh, I, R, E, LL)) :=
  q_o_aastE (h := (N, sh, I, R, E, LL)) hok he ha hsh (q_ix_eq hix) (q_ix_lt hix) hL hb hJ
/-- what is closed may be used -/
theorem q_p_clo {c : q_C} (h9 : q_clo c.2.2.2 → q_J g M d mc ms h0 mv Q k n c) : q_J g M d mc ms h0 mv Q k n c := by
  intro p e s m args below meth cd D cA ρ0 ρ A H locs rls en hen hB hS
  exact h9 hS.2.2.2.2.1 p e s m args below meth cd D cA ρ0 ρ A H locs rls en hen hB hS
theorem q_p_aaldE (hok : q_okM M = true) (he : q_nth M.2.2.2.2.1 pos = some (pc, .aaload, ln, a1, a2, w1, w2)) (ha : 400 ≤ a) (hsh : sh a = (4, 5, L)) (hix : q_ix i L = some j) (hL : L < 2147483648)
    (hn : E a j = none → q_J g M d mc ms h0 mv Q k n (pos + 1, ls, .null :: r, (N, sh, I, R, E, LL))) (hs : ∀ b, E a j = some b → b < 49 → q_J g M d mc ms h0 mv Q k n (pos + 1, ls, .ref b :: r, (N, sh, I, R, E, LL))) : q_J g M d mc ms h0 mv Q k n (pos, ls, .int i :: .ref a :: r, (N, sh, I, R, E, LL)) := by
  refine q_p_clo (fun hC => ?_)
  refine q_o_aaldE (h := (N, sh, I, R, E, LL)) hok he ha hsh (q_ix_eq hix) (q_ix_lt hix) hL ?_
  have hq2 : q_E (N, sh, I, R, E, LL) a j = E a j := rfl
  cases hq : E a j with
  | none => rw [hq2, hq]; exact hn hq
  | some b => rw [hq2, hq]; exact hs b hq (hC.2.1 a j b hq)
theorem q_p_getE (hok : q_okM M = true) (he : q_nth M.2.2.2.2.1 pos = some (pc, .getfield idx, ln, ci, a2, w1, w2)) (ha : 400 ≤ a) (hsh : sh a = (0, ci, v)) (hci : ci < 14) (hkd : q_kd ci v a2 = 2)
    (hn : E a a2 = none → q_J g M d mc ms h0 mv Q k n (pos + 1, ls, .null :: r, (N, sh, I, R, E, LL))) (hs : ∀ b, E a a2 = some b → b < 49 → q_J g M d mc ms h0 mv Q k n (pos + 1, ls, .ref b :: r, (N, sh, I, R, E, LL))) : q_J g M d mc ms h0 mv Q k n (pos, ls, .ref a :: r, (N, sh, I, R, E, LL)) := by
  refine q_p_clo (fun hC => ?_)
  refine q_o_getE (h := (N, sh, I, R, E, LL)) hok he ha hsh hci hkd ?_
  have hq2 : q_E (N, sh, I, R, E, LL) a a2 = E a a2 := rfl
  cases hq : E a a2 with
  | none => rw [hq2, hq]; exact hn hq
  | some b => rw [hq2, hq]; exact hs b hq (hC.2.1 a a2 b hq)
theorem q_p_getI (hok : q_okM M = true) (he : q_nth M.2.2.2.2.1 pos = some (pc, .getfield idx, ln, ci, a2, w1, w2)) (ha : 400 ≤ a) (hsh : sh a = (0, ci, v)) (hci : ci < 14) (hkd : q_kd ci v a2 = 0)
    (hJ : q_J g M d mc ms h0 mv Q k n (pos + 1, ls, .int (I a a2) :: r, (N, sh, I, R, E, LL))) : q_J g M d mc ms h0 mv Q k n (pos, ls, .ref a :: r, (N, sh, I, R, E, LL)) :=
  q_o_getI (h := (N, sh, I, R, E, LL)) hok he ha hsh hci hkd hJ
theorem q_p_putI (hok : q_okM M = true) (he : q_nth M.2.2.2.2.1 pos = some (pc, .putfield idx, ln, ci, a2, w1, w2)) (ha : 400 ≤ a) (hsh : sh a = (0, ci, v)) (hv2 : v < 2) (hkd : q_kd ci v a2 = 0)
    (hJ : q_J g M d mc ms h0 mv Q k n (pos + 1, ls, r, (N, sh, q_u2 I a a2 x, R, E, LL))) : q_J g M d mc ms h0 mv Q k n (pos, ls, .int x :: .ref a :: r, (N, sh, I, R, E, LL)) :=
  q_o_putI (h := (N, sh, I, R, E, LL)) hok he ha hsh hv2 hkd hJ
theorem q_p_putE {b : Nat} (hok : q_okM M = true) (he : q_nth M.2.2.2.2.1 pos = some (pc, .putfield idx, ln, ci, a2, w1, w2)) (ha : 400 ≤ a) (hsh : sh a = (0, ci, v)) (hv2 : v < 2) (hkd : q_kd ci v a2 = 2) (hb : b < 49)
    (hJ : q_J g M d mc ms h0 mv Q k n (pos + 1, ls, r, (N, sh, I, R, q_u2 E a a2 (some b), LL))) : q_J g M d mc ms h0 mv Q k n (pos, ls, .ref b :: .ref a :: r, (N, sh, I, R, E, LL)) :=
  q_o_putE (h := (N, sh, I, R, E, LL)) hok he ha hsh hv2 hkd hb hJ
theorem q_p_told {P : Nat} {t8 r8 m8 : Nat} {ext : Nat → q_Sh} {rx : Nat → Nat → Option Nat} (hok : q_okM M = true) (he : q_nth M.2.2.2.2.1 pos = some (pc, .aaload, ln, a1, a2, w1, w2)) (hP : P = 402 ∨ P = 426) (hix : q_ix i 20 = some j)
    (hJ : q_isSt (P + 4 + j) = true → q_J g M d mc ms h0 mv Q k n (pos + 1, ls, .ref (P + 4 + j) :: r, (N, q_shX t8 r8 m8 ext, I, q_RX rx, E, LL))) : q_J g M d mc ms h0 mv Q k n (pos, ls, .int i :: .ref (P + 1) :: r, (N, q_shX t8 r8 m8 ext, I, q_RX rx, E, LL)) := by
  obtain ⟨h1, h2⟩ := q_told rx hP (q_ix_lt hix)
  have hJ := hJ h2
  have hs : q_shX t8 r8 m8 ext (P + 1) = (3, 4, 20) ∧ 400 ≤ P + 1 := by rcases hP with rfl | rfl <;> exact ⟨rfl, by decide⟩
  refine q_o_aaldR (h := (N, q_shX t8 r8 m8 ext, I, q_RX rx, E, LL)) hok he hs.2 hs.1 (q_ix_eq hix) (q_ix_lt hix) (by decide) ?_
  have hq2 : q_R (N, q_shX t8 r8 m8 ext, I, q_RX rx, E, LL) (P + 1) j = some (P + 4 + j) := h1
  rw [hq2]
  exact hJ
/-- a switch that is known -/
theorem q_p_sw {dflt lo hi : Int} {offs : Array Int} {dp : Nat} (tg : List Nat) (ix t : Nat) (hok : q_okM M = true) (he : q_nth M.2.2.2.2.1 pos = some (pc, .tableswitch dflt lo hi offs, ln, a1, a2, w1, w2)) (hc : q_swok M.2.2.2.2.1 pc dflt lo hi offs dp tg = true) (ht : q_nth tg ix = some t) (hx : x.toInt = lo + (ix : Int)) (hhi : ¬ hi < lo + (ix : Int))
    (hJ : q_J g M d mc ms h0 mv Q k n (t, ls, r, h)) : q_J g M d mc ms h0 mv Q k n (pos, ls, .int x :: r, h) := by
  refine q_o_sw tg hok he hc (fun i9 t9 h1 h2 => ?_) (fun h1 => ?_)
  · obtain rfl : i9 = ix := by omega
    cases ht.symm.trans h1
    exact hJ
  · omega
def q_swNe (x : Int32) (lo : Int) : Nat → Prop
  | 0 => True
  | n + 1 => q_swNe x lo n ∧ ¬ x = Int32.ofInt (lo + (n : Int))
theorem q_swNe_of {x : Int32} {lo : Int} : ∀ {n i : Nat}, q_swNe x lo n → i < n → ¬ x = Int32.ofInt (lo + (i : Int))
  | 0, i, h, hi => absurd hi (Nat.not_lt_zero _)
  | n + 1, i, h, hi => by
    by_cases h1 : i = n
    · subst h1; exact h.2
    · exact q_swNe_of h.1 (by omega)
theorem q_p_swD {dflt lo hi : Int} {offs : Array Int} {dp : Nat} (tg : List Nat) (hok : q_okM M = true) (he : q_nth M.2.2.2.2.1 pos = some (pc, .tableswitch dflt lo hi offs, ln, a1, a2, w1, w2)) (hc : q_swok M.2.2.2.2.1 pc dflt lo hi offs dp tg = true) (hne : q_swNe x lo tg.length)
    (hJ : q_J g M d mc ms h0 mv Q k n (dp, ls, r, h)) : q_J g M d mc ms h0 mv Q k n (pos, ls, .int x :: r, h) := by
  refine q_o_sw tg hok he hc (fun i9 t9 h1 h2 => ?_) (fun h1 => hJ)
  exfalso
  refine q_swNe_of hne (q_nth_lt h1) ?_
  rw [← h2, Int32.ofInt_toInt]
/-- fewer of the locals are known -/
theorem q_p_less {ls' : List (Option Value)} (hlen : ls'.length = ls.length) (hsub : ∀ i v, q_nth ls' i = some (some v) → q_nth ls i = some (some v)) {st : List Value} (hJ : q_J g M d mc ms h0 mv Q k n (pos, ls', st, h)) : q_J g M d mc ms h0 mv Q k n (pos, ls, st, h) := by
  intro p e s m args below meth cd D cA ρ0 ρ A H locs rls en hen hB hS
  obtain ⟨hK, hW, hVS, hX, hC, hst, hls, hlh, hag, hag2, hA, hnx0⟩ := id hS
  exact hJ p e s m args below meth cd D cA ρ0 ρ A H locs rls en hen hB ⟨hK, hW, hVS, hX, hC, hst, fun i v hv => hls i v (hsub i v hv), ⟨hlh.1, hlen.trans hlh.2.1, hlh.2.2.1, fun i v hv => hlh.2.2.2 i v (hsub i v hv)⟩, hag, hag2, hA, hnx0⟩
/-- ls' says no more than ls -/
def q_sub : List (Option Value) → List (Option Value) → Prop
  | [], [] => True
  | none :: t, _ :: t' => q_sub t t'
  | some v :: t, some w :: t' => v = w ∧ q_sub t t'
  | _, _ => False
theorem q_sub_of : ∀ {l' l : List (Option Value)}, q_sub l' l → l'.length = l.length ∧ ∀ i v, q_nth l' i = some (some v) → q_nth l i = some (some v)
  | [], [], _ => ⟨rfl, fun i v h => h⟩
  | none :: t, _ :: t', h => by
    obtain ⟨h1, h2⟩ := q_sub_of (l' := t) (l := t') h
    exact ⟨by simp [h1], fun i v hv => by cases i with | zero => simp [q_nth] at hv | succ i => exact h2 i v hv⟩
  | some v :: t, some w :: t', h => by
    obtain ⟨h1, h2⟩ := q_sub_of (l' := t) (l := t') h.2
    exact ⟨by simp [h1], fun i u hv => by cases i with | zero => rw [← h.1]; exact hv | succ i => exact h2 i u hv⟩
  | [], _ :: _, h => absurd h id
  | some _ :: _, [], h => absurd h id
  | some _ :: _, none :: _, h => absurd h id
  | none :: _, [], h => absurd h id
theorem q_p_sub {ls' : List (Option Value)} {st : List Value} (hs : q_sub ls' ls) (hJ : q_J g M d mc ms h0 mv Q k n (pos, ls', st, h)) : q_J g M d mc ms h0 mv Q k n (pos, ls, st, h) :=
  q_p_less (q_sub_of hs).1 (q_sub_of hs).2 hJ
end QPRINT
theorem q_nb {x : Int32} (h : x = 0 ∨ x = 1) : narrow .boolean (.int x) = .int x := by rcases h with rfl | rfl <;> rfl
