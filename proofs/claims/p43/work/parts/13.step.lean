/-! MANY INSTRUCTIONS AT ONCE: the step as a function -/
def q_step (e : q_En) (c : q_C) : Option q_C := match e, c with
  | (_, ins, _, a1, a2, _, _), (p, ls, st, (N, sh, I, R, E, L)) => match ins with
    | .iconst _ => (match a2 with
      | 0 => some (p + 1, ls, .int (OfNat.ofNat a1) :: st, (N, sh, I, R, E, L))
      | _ + 1 => some (p + 1, ls, .int (-(OfNat.ofNat a1)) :: st, (N, sh, I, R, E, L)))
    | .bipush _ => (match a2 with
      | 0 => some (p + 1, ls, .int (OfNat.ofNat a1) :: st, (N, sh, I, R, E, L))
      | _ + 1 => some (p + 1, ls, .int (-(OfNat.ofNat a1)) :: st, (N, sh, I, R, E, L)))
    | .sipush _ => (match a2 with
      | 0 => some (p + 1, ls, .int (OfNat.ofNat a1) :: st, (N, sh, I, R, E, L))
      | _ + 1 => some (p + 1, ls, .int (-(OfNat.ofNat a1)) :: st, (N, sh, I, R, E, L)))
    | .lconst _ => some (p + 1, ls, .long (OfNat.ofNat a1) :: st, (N, sh, I, R, E, L))
    | .ldc2_w _ => some (p + 1, ls, .long (OfNat.ofNat a1) :: st, (N, sh, I, R, E, L))
    | .aconst_null => some (p + 1, ls, .null :: st, (N, sh, I, R, E, L))
    | .iload_n i => (match q_nth ls i.val with
      | some (some (.int x)) => some (p + 1, ls, .int x :: st, (N, sh, I, R, E, L))
      | _ => none)
    | .iload i => (match q_nth ls i with
      | some (some (.int x)) => some (p + 1, ls, .int x :: st, (N, sh, I, R, E, L))
      | _ => none)
    | .lload_n i => (match q_nth ls i.val with
      | some (some (.long x)) => some (p + 1, ls, .long x :: st, (N, sh, I, R, E, L))
      | _ => none)
    | .lload i => (match q_nth ls i with
      | some (some (.long x)) => some (p + 1, ls, .long x :: st, (N, sh, I, R, E, L))
      | _ => none)
    | .dload_n i => (match q_nth ls i.val with
      | some (some (.double x)) => some (p + 1, ls, .double x :: st, (N, sh, I, R, E, L))
      | _ => none)
    | .dload i => (match q_nth ls i with
      | some (some (.double x)) => some (p + 1, ls, .double x :: st, (N, sh, I, R, E, L))
      | _ => none)
    | .aload_n i => (match q_nth ls i.val with
      | some (some (.ref x)) => some (p + 1, ls, .ref x :: st, (N, sh, I, R, E, L))
      | some (some .null) => some (p + 1, ls, .null :: st, (N, sh, I, R, E, L))
      | _ => none)
    | .aload i => (match q_nth ls i with
      | some (some (.ref x)) => some (p + 1, ls, .ref x :: st, (N, sh, I, R, E, L))
      | some (some .null) => some (p + 1, ls, .null :: st, (N, sh, I, R, E, L))
      | _ => none)
    | .istore_n i => (match st with
      | .int x :: r => q_setk ls i.val (.int x) (fun l => some (p + 1, l, r, (N, sh, I, R, E, L)))
      | _ => none)
    | .istore i => (match st with
      | .int x :: r => q_setk ls i (.int x) (fun l => some (p + 1, l, r, (N, sh, I, R, E, L)))
      | _ => none)
    | .lstore_n i => (match st with
      | .long x :: r => q_setk2 ls i.val (.long x) (fun l => some (p + 1, l, r, (N, sh, I, R, E, L)))
      | _ => none)
    | .lstore i => (match st with
      | .long x :: r => q_setk2 ls i (.long x) (fun l => some (p + 1, l, r, (N, sh, I, R, E, L)))
      | _ => none)
    | .dstore_n i => (match st with
      | .double x :: r => q_setk2 ls i.val (.double x) (fun l => some (p + 1, l, r, (N, sh, I, R, E, L)))
      | _ => none)
    | .dstore i => (match st with
      | .double x :: r => q_setk2 ls i (.double x) (fun l => some (p + 1, l, r, (N, sh, I, R, E, L)))
      | _ => none)
    | .astore_n i => (match st with
      | .ref x :: r => q_setk ls i.val (.ref x) (fun l => some (p + 1, l, r, (N, sh, I, R, E, L)))
      | .null :: r => q_setk ls i.val .null (fun l => some (p + 1, l, r, (N, sh, I, R, E, L)))
      | _ => none)
    | .astore i => (match st with
      | .ref x :: r => q_setk ls i (.ref x) (fun l => some (p + 1, l, r, (N, sh, I, R, E, L)))
      | .null :: r => q_setk ls i .null (fun l => some (p + 1, l, r, (N, sh, I, R, E, L)))
      | _ => none)
    | .iinc i _ => (match q_nth ls i with
      | some (some (.int x)) => (match a2 with
        | 0 => q_setk ls i (.int (x + OfNat.ofNat a1)) (fun l => some (p + 1, l, st, (N, sh, I, R, E, L)))
        | _ + 1 => q_setk ls i (.int (x + -(OfNat.ofNat a1))) (fun l => some (p + 1, l, st, (N, sh, I, R, E, L))))
      | _ => none)
    | .iadd => (match st with
      | .int y :: .int x :: r => some (p + 1, ls, .int (x + y) :: r, (N, sh, I, R, E, L))
      | _ => none)
    | .isub => (match st with
      | .int y :: .int x :: r => some (p + 1, ls, .int (x - y) :: r, (N, sh, I, R, E, L))
      | _ => none)
    | .imul => (match st with
      | .int y :: .int x :: r => some (p + 1, ls, .int (x * y) :: r, (N, sh, I, R, E, L))
      | _ => none)
    | .iand => (match st with
      | .int y :: .int x :: r => some (p + 1, ls, .int (x &&& y) :: r, (N, sh, I, R, E, L))
      | _ => none)
    | .ior => (match st with
      | .int y :: .int x :: r => some (p + 1, ls, .int (x ||| y) :: r, (N, sh, I, R, E, L))
      | _ => none)
    | .ishr => (match st with
      | .int y :: .int x :: r => some (p + 1, ls, .int (x >>> (y &&& 31)) :: r, (N, sh, I, R, E, L))
      | _ => none)
    | .ladd => (match st with
      | .long y :: .long x :: r => some (p + 1, ls, .long (x + y) :: r, (N, sh, I, R, E, L))
      | _ => none)
    | .lmul => (match st with
      | .long y :: .long x :: r => some (p + 1, ls, .long (x * y) :: r, (N, sh, I, R, E, L))
      | _ => none)
    | .ineg => (match st with
      | .int x :: r => some (p + 1, ls, .int (-x) :: r, (N, sh, I, R, E, L))
      | _ => none)
    | .i2l => (match st with
      | .int x :: r => some (p + 1, ls, .long (x.toInt64) :: r, (N, sh, I, R, E, L))
      | _ => none)
    | .i2b => (match st with
      | .int x :: r => some (p + 1, ls, .int (x.toInt8.toInt32) :: r, (N, sh, I, R, E, L))
      | _ => none)
    | .i2c => (match st with
      | .int x :: r => some (p + 1, ls, .int ((x.toUInt32 % 65536).toInt32) :: r, (N, sh, I, R, E, L))
      | _ => none)
    | .dup => (match st with
      | .int x :: r => some (p + 1, ls, .int x :: .int x :: r, (N, sh, I, R, E, L))
      | .ref x :: r => some (p + 1, ls, .ref x :: .ref x :: r, (N, sh, I, R, E, L))
      | _ => none)
    | .pop => (match st with
      | .int _ :: r => some (p + 1, ls, r, (N, sh, I, R, E, L))
      | .ref _ :: r => some (p + 1, ls, r, (N, sh, I, R, E, L))
      | _ => none)
    | .dup2 => (match st with
      | .int y :: .ref x :: r => some (p + 1, ls, .int y :: .ref x :: .int y :: .ref x :: r, (N, sh, I, R, E, L))
      | _ => none)
    | .goto _ => some (a1, ls, st, (N, sh, I, R, E, L))
    | .ifCond c _ => (match st with
      | .int x :: r => (match c with
        | .eq => some (if x = 0 then (a1, ls, r, (N, sh, I, R, E, L)) else (p + 1, ls, r, (N, sh, I, R, E, L)))
        | .ne => some (if ¬ x = 0 then (a1, ls, r, (N, sh, I, R, E, L)) else (p + 1, ls, r, (N, sh, I, R, E, L)))
        | .lt => some (if x < 0 then (a1, ls, r, (N, sh, I, R, E, L)) else (p + 1, ls, r, (N, sh, I, R, E, L)))
        | .ge => some (if 0 ≤ x then (a1, ls, r, (N, sh, I, R, E, L)) else (p + 1, ls, r, (N, sh, I, R, E, L)))
        | .gt => some (if 0 < x then (a1, ls, r, (N, sh, I, R, E, L)) else (p + 1, ls, r, (N, sh, I, R, E, L)))
        | .le => some (if x ≤ 0 then (a1, ls, r, (N, sh, I, R, E, L)) else (p + 1, ls, r, (N, sh, I, R, E, L)))        )
      | _ => none)
    | .if_icmp c _ => (match st with
      | .int y :: .int x :: r => (match c with
        | .eq => some (if x = y then (a1, ls, r, (N, sh, I, R, E, L)) else (p + 1, ls, r, (N, sh, I, R, E, L)))
        | .ne => some (if ¬ x = y then (a1, ls, r, (N, sh, I, R, E, L)) else (p + 1, ls, r, (N, sh, I, R, E, L)))
        | .lt => some (if x < y then (a1, ls, r, (N, sh, I, R, E, L)) else (p + 1, ls, r, (N, sh, I, R, E, L)))
        | .ge => some (if y ≤ x then (a1, ls, r, (N, sh, I, R, E, L)) else (p + 1, ls, r, (N, sh, I, R, E, L)))
        | .gt => some (if y < x then (a1, ls, r, (N, sh, I, R, E, L)) else (p + 1, ls, r, (N, sh, I, R, E, L)))
        | .le => some (if x ≤ y then (a1, ls, r, (N, sh, I, R, E, L)) else (p + 1, ls, r, (N, sh, I, R, E, L)))        )
      | _ => none)
    | .ifnull _ => (match st with
      | .ref _ :: r => some (p + 1, ls, r, (N, sh, I, R, E, L))
      | .null :: r => some (a1, ls, r, (N, sh, I, R, E, L))
      | _ => none)
    | .ifnonnull _ => (match st with
      | .ref _ :: r => some (a1, ls, r, (N, sh, I, R, E, L))
      | .null :: r => some (p + 1, ls, r, (N, sh, I, R, E, L))
      | _ => none)
    | .getfield _ => (match st with
      | .ref a :: r => (match Nat.ble 400 a with
        | true => (match sh a with
          | (0, ci, v) => (match Nat.beq ci a1, Nat.blt ci 15 with
            | true, true => (match q_kd ci v a2 with
              | 0 => some (p + 1, ls, .int (I a a2) :: r, (N, sh, I, R, E, L))
              | 1 => (match R a a2 with
                | some b => some (p + 1, ls, .ref b :: r, (N, sh, I, R, E, L))
                | none => some (p + 1, ls, .null :: r, (N, sh, I, R, E, L)))
              | 2 => some (p + 1, ls, va_rf (E a a2) :: r, (N, sh, I, R, E, L))
              | _ => none)
            | _, _ => none)
          | _ => none)
        | _ => none)
      | _ => none)
    | .putfield _ => (match st with
      | v9 :: .ref a :: r => (match Nat.ble 400 a with
        | true => (match sh a with
          | (0, ci, v) => (match Nat.beq ci a1, Nat.blt v 2 with
            | true, true => (match q_kd ci v a2, v9 with
              | 0, .int x => some (p + 1, ls, r, (N, sh, q_u2 I a a2 x, R, E, L))
              | 1, .ref b => some (p + 1, ls, r, (N, sh, I, q_u2 R a a2 (some b), E, L))
              | 1, .null => some (p + 1, ls, r, (N, sh, I, q_u2 R a a2 none, E, L))
              | _, _ => none)
            | _, _ => none)
          | _ => none)
        | _ => none)
      | _ => none)
    | .getstatic _ => (match Nat.blt a1 400 with
      | true => some (p + 1, ls, .ref a1 :: st, (N, sh, I, R, E, L))
      | false => none)
    | _ => none
theorem q_setk_id {β : Type} : ∀ (ls : List (Option Value)) (i : Nat) (v : Value) (K : List (Option Value) → Option β), q_setk ls i v K = (q_setk ls i v some).bind K
  | [], i, v, K => by simp [q_setk]
  | b :: t, 0, v, K => rfl
  | a :: t, 1, v, K => by
    simp only [q_setk]
    cases hc : q_c2 a with
    | true => rfl
    | false =>
      rw [cond_false, cond_false, q_setk_id t 0 v (fun t' => K (a :: t')), q_setk_id t 0 v (fun t' => some (a :: t'))]
      cases q_setk t 0 v some <;> rfl
  | a :: t, i + 2, v, K => by
    simp only [q_setk]
    rw [q_setk_id t (i + 1) v (fun t' => K (a :: t')), q_setk_id t (i + 1) v (fun t' => some (a :: t'))]
    cases q_setk t (i + 1) v some <;> rfl
theorem q_setk2_id {β : Type} : ∀ (ls : List (Option Value)) (i : Nat) (v : Value) (K : List (Option Value) → Option β), q_setk2 ls i v K = (q_setk2 ls i v some).bind K
  | [], i, v, K => by simp [q_setk2]
  | [b], 0, v, K => by simp [q_setk2]
  | b :: c :: t, 0, v, K => by
    simp only [q_setk2]
    cases hc : q_c2 c <;> rfl
  | a :: t, 1, v, K => by
    simp only [q_setk2]
    cases hc : q_c2 a with
    | true => rfl
    | false =>
      rw [cond_false, cond_false, q_setk2_id t 0 v (fun t' => K (a :: t')), q_setk2_id t 0 v (fun t' => some (a :: t'))]
      cases q_setk2 t 0 v some <;> rfl
  | a :: t, i + 2, v, K => by
    simp only [q_setk2]
    rw [q_setk2_id t (i + 1) v (fun t' => K (a :: t')), q_setk2_id t (i + 1) v (fun t' => some (a :: t'))]
    cases q_setk2 t (i + 1) v some <;> rfl
section QSTEP
variable {g : q_G} {M : q_M} {d mc ms : Nat} {h0 : q_H} {mv : List Nat} {Q : (Option Value ⊕ String) → q_H → Prop} {k n : Nat}
theorem q_step_J {e : q_En} {c c' : q_C} (hok : q_okM M = true) (he : q_nth M.2.2.2.2.1 c.1 = some e) (hs : q_step e c = some c') (hJ : q_J g M d mc ms h0 mv Q k n c') : q_J g M d mc ms h0 mv Q k n c := by
  obtain ⟨pc, ins, ln, a1, a2, w1, w2⟩ := e
  obtain ⟨p, ls, st, N, sh, I, R, E, L⟩ := c
  have he : q_nth M.2.2.2.2.1 p = some (pc, ins, ln, a1, a2, w1, w2) := he
  unfold q_step at hs
  dsimp only at hs
  split at hs
  · split at hs <;> (cases hs; exact q_o_iconst hok he hJ)
  · split at hs <;> (cases hs; exact q_o_bipush hok he hJ)
  · split at hs <;> (cases hs; exact q_o_sipush hok he hJ)
  · cases hs; exact q_o_lconst hok he hJ
  · cases hs; exact q_o_ldc2 hok he hJ
  · cases hs; exact q_o_null hok he hJ
  · split at hs
    · next x hv => cases hs; exact q_o_iload_n hok he hv hJ
    · cases hs
  · split at hs
    · next x hv => cases hs; exact q_o_iload hok he hv hJ
    · cases hs
  · split at hs
    · next x hv => cases hs; exact q_o_lload_n hok he hv hJ
    · cases hs
  · split at hs
    · next x hv => cases hs; exact q_o_lload hok he hv hJ
    · cases hs
  · split at hs
    · next x hv => cases hs; exact q_o_dload_n hok he hv hJ
    · cases hs
  · split at hs
    · next x hv => cases hs; exact q_o_dload hok he hv hJ
    · cases hs
  · split at hs
    · next x hv => cases hs; exact q_o_aload_n hok he hv hJ
    · next hv => cases hs; exact q_o_aload_nN hok he hv hJ
    · cases hs
  · split at hs
    · next x hv => cases hs; exact q_o_aload hok he hv hJ
    · next hv => cases hs; exact q_o_aloadN hok he hv hJ
    · cases hs
  · split at hs
    · obtain ⟨l2, e1, e2, e3, e4, e5⟩ := q_setk_of _ _ _ _ _ hs
      cases e1
      exact q_o_istore_n hok he (by first | (rw [q_setk_id] at hs; cases hz : q_setk ls _ _ some with | none => (rw [hz] at hs; cases hs) | some l9 => (rw [hz] at hs; cases hs; rfl)) | rfl) hJ
    · cases hs
  · split at hs
    · obtain ⟨l2, e1, e2, e3, e4, e5⟩ := q_setk_of _ _ _ _ _ hs
      cases e1
      exact q_o_istore hok he (by first | (rw [q_setk_id] at hs; cases hz : q_setk ls _ _ some with | none => (rw [hz] at hs; cases hs) | some l9 => (rw [hz] at hs; cases hs; rfl)) | rfl) hJ
    · cases hs
  · split at hs
    · obtain ⟨l2, e1, e2, e3, e4, e5⟩ := q_setk2_of _ _ _ _ _ hs
      cases e1
      exact q_o_lstore_n hok he (by rw [q_setk2_id] at hs; cases hz : q_setk2 ls _ _ some with | none => (rw [hz] at hs; cases hs) | some l9 => (rw [hz] at hs; cases hs; rfl)) hJ
    · cases hs
  · split at hs
    · obtain ⟨l2, e1, e2, e3, e4, e5⟩ := q_setk2_of _ _ _ _ _ hs
      cases e1
      exact q_o_lstore hok he (by rw [q_setk2_id] at hs; cases hz : q_setk2 ls _ _ some with | none => (rw [hz] at hs; cases hs) | some l9 => (rw [hz] at hs; cases hs; rfl)) hJ
    · cases hs
  · split at hs
    · obtain ⟨l2, e1, e2, e3, e4, e5⟩ := q_setk2_of _ _ _ _ _ hs
      cases e1
      exact q_o_dstore_n hok he (by rw [q_setk2_id] at hs; cases hz : q_setk2 ls _ _ some with | none => (rw [hz] at hs; cases hs) | some l9 => (rw [hz] at hs; cases hs; rfl)) hJ
    · cases hs
  · split at hs
    · obtain ⟨l2, e1, e2, e3, e4, e5⟩ := q_setk2_of _ _ _ _ _ hs
      cases e1
      exact q_o_dstore hok he (by rw [q_setk2_id] at hs; cases hz : q_setk2 ls _ _ some with | none => (rw [hz] at hs; cases hs) | some l9 => (rw [hz] at hs; cases hs; rfl)) hJ
    · cases hs
  · split at hs
    · obtain ⟨l2, e1, e2, e3, e4, e5⟩ := q_setk_of _ _ _ _ _ hs
      cases e1
      exact q_o_astore_n hok he (by first | (rw [q_setk_id] at hs; cases hz : q_setk ls _ _ some with | none => (rw [hz] at hs; cases hs) | some l9 => (rw [hz] at hs; cases hs; rfl)) | rfl) hJ
    · obtain ⟨l2, e1, e2, e3, e4, e5⟩ := q_setk_of _ _ _ _ _ hs
      cases e1
      exact q_o_astore_nN hok he (by first | (rw [q_setk_id] at hs; cases hz : q_setk ls _ _ some with | none => (rw [hz] at hs; cases hs) | some l9 => (rw [hz] at hs; cases hs; rfl)) | rfl) hJ
    · cases hs
  · split at hs
    · obtain ⟨l2, e1, e2, e3, e4, e5⟩ := q_setk_of _ _ _ _ _ hs
      cases e1
      exact q_o_astore hok he (by first | (rw [q_setk_id] at hs; cases hz : q_setk ls _ _ some with | none => (rw [hz] at hs; cases hs) | some l9 => (rw [hz] at hs; cases hs; rfl)) | rfl) hJ
    · obtain ⟨l2, e1, e2, e3, e4, e5⟩ := q_setk_of _ _ _ _ _ hs
      cases e1
      exact q_o_astoreN hok he (by first | (rw [q_setk_id] at hs; cases hz : q_setk ls _ _ some with | none => (rw [hz] at hs; cases hs) | some l9 => (rw [hz] at hs; cases hs; rfl)) | rfl) hJ
    · cases hs
  · split at hs
    · next x hv =>
      split at hs
      · obtain ⟨l2, e1, e2, e3, e4, e5⟩ := q_setk_of _ _ _ _ _ hs
        cases e1
        exact q_o_iinc hok he hv (show q_setk ls _ (.int (x + OfNat.ofNat a1)) some = some l2 from (by first | (rw [q_setk_id] at hs; cases hz : q_setk ls _ _ some with | none => (rw [hz] at hs; cases hs) | some l9 => (rw [hz] at hs; cases hs; rfl)) | rfl)) hJ
      · obtain ⟨l2, e1, e2, e3, e4, e5⟩ := q_setk_of _ _ _ _ _ hs
        cases e1
        exact q_o_iinc hok he hv (show q_setk ls _ (.int (x + -(OfNat.ofNat a1))) some = some l2 from (by first | (rw [q_setk_id] at hs; cases hz : q_setk ls _ _ some with | none => (rw [hz] at hs; cases hs) | some l9 => (rw [hz] at hs; cases hs; rfl)) | rfl)) hJ
    · cases hs
  · split at hs
    · cases hs; exact q_o_iadd hok he hJ
    · cases hs
  · split at hs
    · cases hs; exact q_o_isub hok he hJ
    · cases hs
  · split at hs
    · cases hs; exact q_o_imul hok he hJ
    · cases hs
  · split at hs
    · cases hs; exact q_o_iand hok he hJ
    · cases hs
  · split at hs
    · cases hs; exact q_o_ior hok he hJ
    · cases hs
  · split at hs
    · cases hs; exact q_o_ishr hok he hJ
    · cases hs
  · split at hs
    · cases hs; exact q_o_ladd hok he hJ
    · cases hs
  · split at hs
    · cases hs; exact q_o_lmul hok he hJ
    · cases hs
  · split at hs
    · cases hs; exact q_o_ineg hok he hJ
    · cases hs
  · split at hs
    · cases hs; exact q_o_i2l hok he hJ
    · cases hs
  · split at hs
    · cases hs; exact q_o_i2b hok he hJ
    · cases hs
  · split at hs
    · cases hs; exact q_o_i2c hok he hJ
    · cases hs
  · split at hs
    · cases hs; exact q_o_dup hok he rfl hJ
    · cases hs; exact q_o_dup hok he rfl hJ
    · cases hs
  · split at hs
    · cases hs; exact q_o_pop hok he rfl hJ
    · cases hs; exact q_o_pop hok he rfl hJ
    · cases hs
  · split at hs
    · cases hs; exact q_o_dup2 hok he rfl rfl hJ
    · cases hs
  · cases hs; exact q_o_goto hok he hJ
  · split at hs
    · split at hs <;> (
        have hs := Option.some.inj hs
        subst hs
        first
        | exact q_o_if_eq hok he (fun h9 => by rw [if_pos h9] at hJ; exact hJ) (fun h9 => by rw [if_neg h9] at hJ; exact hJ)
        | exact q_o_if_ne hok he (fun h9 => by rw [if_pos h9] at hJ; exact hJ) (fun h9 => by rw [if_neg h9] at hJ; exact hJ)
        | exact q_o_if_lt hok he (fun h9 => by rw [if_pos h9] at hJ; exact hJ) (fun h9 => by rw [if_neg h9] at hJ; exact hJ)
        | exact q_o_if_ge hok he (fun h9 => by rw [if_pos h9] at hJ; exact hJ) (fun h9 => by rw [if_neg h9] at hJ; exact hJ)
        | exact q_o_if_gt hok he (fun h9 => by rw [if_pos h9] at hJ; exact hJ) (fun h9 => by rw [if_neg h9] at hJ; exact hJ)
        | exact q_o_if_le hok he (fun h9 => by rw [if_pos h9] at hJ; exact hJ) (fun h9 => by rw [if_neg h9] at hJ; exact hJ))
    · cases hs
  · split at hs
    · split at hs <;> (
        have hs := Option.some.inj hs
        subst hs
        first
        | exact q_o_icmp_eq hok he (fun h9 => by rw [if_pos h9] at hJ; exact hJ) (fun h9 => by rw [if_neg h9] at hJ; exact hJ)
        | exact q_o_icmp_ne hok he (fun h9 => by rw [if_pos h9] at hJ; exact hJ) (fun h9 => by rw [if_neg h9] at hJ; exact hJ)
        | exact q_o_icmp_lt hok he (fun h9 => by rw [if_pos h9] at hJ; exact hJ) (fun h9 => by rw [if_neg h9] at hJ; exact hJ)
        | exact q_o_icmp_ge hok he (fun h9 => by rw [if_pos h9] at hJ; exact hJ) (fun h9 => by rw [if_neg h9] at hJ; exact hJ)
        | exact q_o_icmp_gt hok he (fun h9 => by rw [if_pos h9] at hJ; exact hJ) (fun h9 => by rw [if_neg h9] at hJ; exact hJ)
        | exact q_o_icmp_le hok he (fun h9 => by rw [if_pos h9] at hJ; exact hJ) (fun h9 => by rw [if_neg h9] at hJ; exact hJ))
    · cases hs
  · split at hs
    · cases hs; exact q_o_ifnullR hok he hJ
    · cases hs; exact q_o_ifnullN hok he hJ
    · cases hs
  · split at hs
    · cases hs; exact q_o_ifnonnullR hok he hJ
    · cases hs; exact q_o_ifnonnullN hok he hJ
    · cases hs
  · split at hs
    · split at hs
      · next hb2 =>
        have ha := Nat.le_of_ble_eq_true hb2
        split at hs
        · next hsh =>
          split at hs
          · next hc1 hc2 =>
            have hc1 := Nat.eq_of_beq_eq_true hc1
            subst hc1
            have hci := Nat.blt_eq.mp hc2
            split at hs
            · next hkd => cases hs; exact q_o_getI hok he ha hsh hci hkd hJ
            · next hkd =>
              split at hs
              · next b hb => cases hs; exact q_o_getR hok he ha hsh hci hkd (by dsimp only [q_R]; rw [hb]; exact hJ)
              · next hb => cases hs; exact q_o_getR hok he ha hsh hci hkd (by dsimp only [q_R]; rw [hb]; exact hJ)
            · next hkd => cases hs; exact q_o_getE hok he ha hsh hci hkd hJ
            · cases hs
          · cases hs
        · cases hs
      · cases hs
    · cases hs
  · split at hs
    · split at hs
      · next hb2 =>
        have ha := Nat.le_of_ble_eq_true hb2
        split at hs
        · next hsh =>
          split at hs
          · next hc1 hc2 =>
            have hc1 := Nat.eq_of_beq_eq_true hc1
            subst hc1
            have hv2 := Nat.blt_eq.mp hc2
            split at hs
            · next hkd => cases hs; exact q_o_putI hok he ha hsh hv2 hkd hJ
            · next hkd => cases hs; exact q_o_putR hok he ha hsh hv2 hkd hJ
            · next hkd => cases hs; exact q_o_putN hok he ha hsh hv2 hkd hJ
            · cases hs
          · cases hs
        · cases hs
      · cases hs
    · cases hs
  · split at hs
    · next hb1 => cases hs; exact q_o_gets hok he (Nat.blt_eq.mp hb1) hJ
    · cases hs
  · cases hs
def q_run : Nat → List q_En → q_C → Option q_C
  | 0, _, c => some c
  | n + 1, tab, c => match q_nth tab c.1 with
    | some e => (match q_step e c with
      | some c' => q_run n tab c'
      | none => none)
    | none => none
/-- so many instructions on -/
theorem q_go (i : Nat) {c c' : q_C} (hok : q_okM M = true) (hr : q_run i M.2.2.2.2.1 c = some c') (hJ : q_J g M d mc ms h0 mv Q k n c') : q_J g M d mc ms h0 mv Q k n c := by
  induction i generalizing c with
  | zero => cases hr; exact hJ
  | succ i ih =>
    unfold q_run at hr
    split at hr
    · next e he =>
      split at hr
      · next c2 hs => exact q_step_J hok he hs (ih hr)
      · cases hr
    · cases hr
/-- so many instructions on, the last of which is a branch -/
theorem q_if (i : Nat) {P : Prop} [Decidable P] {c a b : q_C} (hok : q_okM M = true) (hr : q_run i M.2.2.2.2.1 c = some (if P then a else b)) (ht : P → q_J g M d mc ms h0 mv Q k n a) (hf : ¬ P → q_J g M d mc ms h0 mv Q k n b) : q_J g M d mc ms h0 mv Q k n c := by
  refine q_go i hok hr ?_
  by_cases hP : P
  · rw [if_pos hP]; exact ht hP
  · rw [if_neg hP]; exact hf hP
end QSTEP
