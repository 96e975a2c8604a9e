/-! blocks of instructions stand for the walk -/
set_option maxHeartbeats 4000000 in
theorem q_step_h {e : q_En} {c c' : q_C} (hsp : q_isSp e.2.1 = false) (hs : q_step e c = some c') : c'.2.2.2 = c.2.2.2 := by
  obtain ⟨pc, ins, ln, a1, a2, w1, w2⟩ := e
  obtain ⟨p, ls, st, N, sh, I, R, E, L⟩ := c
  unfold q_step at hs
  dsimp only at hs hsp
  split at hs
  all_goals first
    | (cases hsp; done)
    | skip
  all_goals (repeat' (split at hs))
  all_goals first
    | (cases hs; rfl)
    | (obtain ⟨l2, e1, -⟩ := q_setk_of _ _ _ _ _ hs; cases e1; rfl)
    | (obtain ⟨l2, e1, -⟩ := q_setk2_of _ _ _ _ _ hs; cases e1; rfl)
    | (cases hs; done)
theorem q_L31 {L : Nat} (h : Nat.blt L 65536 = true) : L < 2147483648 := by
  have := Nat.blt_eq.mp h
  omega
section QKRUN
variable {g : q_G} {M : q_M} {d mc ms : Nat} {h0 : q_H} {mv : List Nat} {Q : (Option Value ⊕ String) → q_H → Prop} {k n : Nat} {X : q_Am} {I : Nat → Nat → Int32} {E : Nat → Nat → Option Nat}
abbrev q_ks (X : q_Am) (I : Nat → Nat → Int32) (E : Nat → Nat → Option Nat) (s : q_KS) : q_C := q_kc X I E s.2.2.1 s.2.2.2.1 s.2.2.2.2.1 s.2.2.2.2.2.1 s.2.2.2.2.2.2
set_option maxHeartbeats 4000000 in
theorem q_sp_J {e : q_En} {s s' : q_KS} (hok : q_okM M = true) (he : q_nth M.2.2.2.2.1 s.2.2.1 = some e) (hs : q_sp X I E e s = some s') (hc : q_cs s'.2.1) (hJ : q_J g M d mc ms h0 mv Q k n (q_ks X I E s')) : q_cs s.2.1 ∧ q_J g M d mc ms h0 mv Q k n (q_ks X I E s) := by
  obtain ⟨pc, ins, ln, a1, a2, w1, w2⟩ := e
  obtain ⟨js, cs, p, ls, st, lI, lE⟩ := s
  have he : q_nth M.2.2.2.2.1 p = some (pc, ins, ln, a1, a2, w1, w2) := he
  unfold q_sp at hs
  dsimp only at hs
  split at hs
  · split at hs
    · split at hs
      · next hb2 =>
        have ha := Nat.le_of_ble_eq_true hb2
        split at hs
        · next hsh =>
          split at hs
          · next hL => cases hs; exact ⟨hc.2, q_o_iald (h := q_hp X (q_ws I lI) (q_ws E lE)) hok he ha hsh (q_ix_eq hc.1) (q_ix_lt hc.1) (q_L31 hL) hJ⟩
          · cases hs
        · cases hs
      · split at hs
        · cases hs; exact ⟨hc.2, q_o_xsw (h := q_hp X (q_ws I lI) (q_ws E lE)) hok he (q_ix_eq hc.1) (q_ix_lt hc.1) hJ⟩
        · cases hs
    · cases hs
  · split at hs
    · split at hs
      · next hb2 =>
        have ha := Nat.le_of_ble_eq_true hb2
        split at hs
        · next hsh =>
          split at hs
          · next hL => cases hs; exact ⟨hc.2, q_o_bald (h := q_hp X (q_ws I lI) (q_ws E lE)) hok he ha hsh (q_ix_eq hc.1) (q_ix_lt hc.1) (q_L31 hL) hJ⟩
          · cases hs
        · next hsh =>
          split at hs
          · next hL => cases hs; exact ⟨hc.2, q_o_zald (h := q_hp X (q_ws I lI) (q_ws E lE)) hok he ha hsh (q_ix_eq hc.1) (q_ix_lt hc.1) (q_L31 hL) hJ⟩
          · cases hs
        · cases hs
      · cases hs
    · cases hs
  · split at hs
    · split at hs
      · cases hs; exact ⟨hc.2, q_o_xsigns (h := q_hp X (q_ws I lI) (q_ws E lE)) hok he (q_ix_eq hc.1) (q_ix_lt hc.1) hJ⟩
      · cases hs
    · cases hs
  · split at hs
    · split at hs
      · next hb2 =>
        have ha := Nat.le_of_ble_eq_true hb2
        split at hs
        · next hsh =>
          split at hs
          · next hL =>
            cases hs
            refine ⟨hc.2, q_o_iast (h := q_hp X (q_ws I lI) (q_ws E lE)) hok he ha hsh (q_ix_eq hc.1) (q_ix_lt hc.1) (q_L31 hL) ?_⟩
            dsimp only [q_nx, q_sh, q_I, q_R, q_E, q_L]
            rw [q_u2_ws]
            exact hJ
          · cases hs
        · cases hs
      · cases hs
    · cases hs
  · split at hs
    · split at hs
      · next hb2 =>
        have ha := Nat.le_of_ble_eq_true hb2
        split at hs
        · next hsh =>
          split at hs
          · next hL =>
            cases hs
            refine ⟨hc.2, q_o_bast (h := q_hp X (q_ws I lI) (q_ws E lE)) hok he ha hsh (q_ix_eq hc.1) (q_ix_lt hc.1) (q_L31 hL) ?_⟩
            rw [vp_nar_byte]
            dsimp only [q_nx, q_sh, q_I, q_R, q_E, q_L]
            rw [q_u2_ws]
            exact hJ
          · cases hs
        · next hsh =>
          split at hs
          · next hL =>
            cases hs
            refine ⟨hc.2, q_o_zast (h := q_hp X (q_ws I lI) (q_ws E lE)) hok he ha hsh (q_ix_eq hc.1) (q_ix_lt hc.1) (q_L31 hL) ?_⟩
            dsimp only [q_nx, q_sh, q_I, q_R, q_E, q_L]
            rw [q_u2_ws]
            exact hJ
          · cases hs
        · cases hs
      · cases hs
    · cases hs
  · split at hs
    · split at hs
      · next hb2 =>
        have ha := Nat.le_of_ble_eq_true hb2
        split at hs
        · next hsh =>
          split at hs
          · next hc1 hc2 =>
            have hc1 := Nat.eq_of_beq_eq_true hc1
            subst hc1
            have hv2 := Nat.blt_eq.mp hc2
            split at hs
            · next hkd =>
              cases hs
              refine ⟨hc, q_o_putI (h := q_hp X (q_ws I lI) (q_ws E lE)) hok he ha hsh hv2 hkd ?_⟩
              dsimp only [q_nx, q_sh, q_I, q_R, q_E, q_L]
              rw [q_u2_ws]
              exact hJ
            · cases hs
          · cases hs
        · cases hs
      · cases hs
    · cases hs
  · split at hs
    · split at hs
      · next hb2 =>
        have ha := Nat.le_of_ble_eq_true hb2
        split at hs
        · next hsh => cases hs; exact ⟨hc, q_o_alenI (h := q_hp X (q_ws I lI) (q_ws E lE)) hok he ha hsh hJ⟩
        · cases hs
      · split at hs
        · cases hs; exact ⟨hc, q_o_xlen49 (h := q_hp X (q_ws I lI) (q_ws E lE)) hok he hJ⟩
        · cases hs
    · cases hs
  · cases hs
set_option maxHeartbeats 4000000 in
theorem q_runK_J {br : Bool} (hok : q_okM M = true) : ∀ (i : Nat) (s : q_KS) (cs : List q_Cn) (c' : q_C), q_runK X I E br M.2.2.2.2.1 i s = some (cs, c') → q_cs cs → q_J g M d mc ms h0 mv Q k n c' → q_cs s.2.1 ∧ q_J g M d mc ms h0 mv Q k n (q_ks X I E s) := by
  intro i
  induction i with
  | zero =>
    intro s cs c' hr hc hJ
    obtain ⟨js, cs0, p, ls, st, lI, lE⟩ := s
    unfold q_runK at hr
    split at hr
    · cases hr; exact ⟨hc, hJ⟩
    · split at hr
      · next e he =>
        split at hr
        · next c2 hs => cases hr; exact ⟨hc, q_step_J hok he hs hJ⟩
        · cases hr
      · cases hr
  | succ i ih =>
    intro s cs c' hr hc hJ
    obtain ⟨js, cs0, p, ls, st, lI, lE⟩ := s
    unfold q_runK at hr
    split at hr
    · next e he =>
      split at hr
      · split at hr
        · next s' hs =>
          obtain ⟨h1, h2⟩ := ih s' cs c' hr hc hJ
          exact q_sp_J hok he hs h1 h2
        · cases hr
      · next hsp =>
        split at hr
        · next c2 hs =>
          obtain ⟨h1, h2⟩ := ih _ cs c' hr hc hJ
          have hh := q_step_h hsp hs
          obtain ⟨p2, ls2, st2, h9⟩ := c2
          dsimp only at hh
          subst hh
          exact ⟨h1, q_step_J hok he hs h2⟩
        · cases hr
    · cases hr
/-- a block -/
theorem q_blk (i : Nat) (js : List Nat) {p : Nat} {ls : List (Option Value)} {st : List Value} {lI : List (Nat × (Nat → Int32))} {lE : List (Nat × (Nat → Option Nat))} {cs : List q_Cn} {c' : q_C} (hok : q_okM M = true) (hr : q_runK X I E false M.2.2.2.2.1 i (js, [], p, ls, st, lI, lE) = some (cs, c')) (hc : q_cs cs) (hJ : q_J g M d mc ms h0 mv Q k n c') :
    q_J g M d mc ms h0 mv Q k n (p, ls, st, q_hp X (q_ws I lI) (q_ws E lE)) := (q_runK_J hok i _ cs c' hr hc hJ).2
/-- a block that ends in a branch -/
theorem q_blf (i : Nat) (js : List Nat) {P : Prop} [Decidable P] {p : Nat} {ls : List (Option Value)} {st : List Value} {lI : List (Nat × (Nat → Int32))} {lE : List (Nat × (Nat → Option Nat))} {cs : List q_Cn} {a b : q_C} (hok : q_okM M = true) (hr : q_runK X I E true M.2.2.2.2.1 i (js, [], p, ls, st, lI, lE) = some (cs, if P then a else b)) (hc : q_cs cs) (ht : P → q_J g M d mc ms h0 mv Q k n a) (hf : ¬ P → q_J g M d mc ms h0 mv Q k n b) :
    q_J g M d mc ms h0 mv Q k n (p, ls, st, q_hp X (q_ws I lI) (q_ws E lE)) := by
  refine (q_runK_J hok i _ cs _ hr hc ?_).2
  by_cases hP : P
  · rw [if_pos hP]; exact ht hP
  · rw [if_neg hP]; exact hf hP
end QKRUN
theorem q_bd {α β : Type} {o : Option α} {f : α → Option β} {r : β} (h : o.bind f = some r) : ∃ x, o = some x ∧ f x = some r := by
  cases o with
  | none => cases h
  | some x => exact ⟨x, rfl, h⟩
theorem q_ip {α : Type} {P : Prop} [Decidable P] {a b : Option α} {r : α} (hP : P) (h : (if P then a else b) = some r) : a = some r := by rwa [if_pos hP] at h
theorem q_in {α : Type} {P : Prop} [Decidable P] {a b : Option α} {r : α} (hP : ¬ P) (h : (if P then a else b) = some r) : b = some r := by rwa [if_neg hP] at h
