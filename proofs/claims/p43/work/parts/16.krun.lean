/-! BLOCKS OF INSTRUCTIONS over rows that are known by their ids -/
/-- the variants, the plan that is read, how many ids, what comes behind them, the long numbers -/
abbrev q_Am : Type := Nat × Nat × Nat × Nat × Nat × (Nat → q_Sh) × (Nat → Nat → Option Nat) × (Nat → Nat → Int64)
abbrev q_aS (X : q_Am) : Nat → q_Sh := q_shX X.1 X.2.1 X.2.2.1 X.2.2.2.2.2.1
abbrev q_aR (X : q_Am) : Nat → Nat → Option Nat := q_RX X.2.2.2.1 X.2.2.2.2.2.2.1
abbrev q_hp (X : q_Am) (I : Nat → Nat → Int32) (E : Nat → Nat → Option Nat) : q_H := (X.2.2.2.2.1, q_aS X, I, q_aR X, E, X.2.2.2.2.2.2.2)
def q_ws {α : Type} (I : Nat → α) : List (Nat × α) → Nat → α
  | [] => I
  | p :: t => q_ur (q_ws I t) p.1 p.2
def q_ins {α : Type} (a : Nat) (r : α) : List (Nat × α) → List (Nat × α)
  | [] => [(a, r)]
  | p :: t => bif Nat.beq a p.1 then (a, r) :: t else (bif Nat.blt a p.1 then (a, r) :: p :: t else p :: q_ins a r t)
def q_mrg {α : Type} : List (Nat × α) → List (Nat × α) → List (Nat × α)
  | [], l => l
  | p :: t, l => q_ins p.1 p.2 (q_mrg t l)
def q_up {α : Type} (f : Nat → α) (j : Nat) (x : α) : Nat → α := fun i => bif Nat.beq i j then x else f i
theorem q_ur_ss {α : Type} (f : Nat → α) (a : Nat) (r s : α) : q_ur (q_ur f a r) a s = q_ur f a s := by
  funext b
  by_cases h : b = a
  · subst h; rw [q_ur_s, q_ur_s]
  · rw [q_ur_n _ _ _ h, q_ur_n _ _ _ h, q_ur_n _ _ _ h]
theorem q_ur_com {α : Type} (f : Nat → α) {a b : Nat} (hab : a ≠ b) (r s : α) : q_ur (q_ur f a r) b s = q_ur (q_ur f b s) a r := by
  funext c
  by_cases h : c = b
  · subst h
    rw [q_ur_s, q_ur_n _ _ _ (Ne.symm hab), q_ur_s]
  · rw [q_ur_n _ _ _ h]
    by_cases h2 : c = a
    · subst h2; rw [q_ur_s, q_ur_s]
    · rw [q_ur_n _ _ _ h2, q_ur_n _ _ _ h2, q_ur_n _ _ _ h]
theorem q_ws_ins {α : Type} (I : Nat → α) (a : Nat) (r : α) : ∀ l : List (Nat × α), q_ws I (q_ins a r l) = q_ur (q_ws I l) a r
  | [] => rfl
  | p :: t => by
    unfold q_ins
    cases hb : Nat.beq a p.1 with
    | true =>
      rw [cond_true]
      have := Nat.eq_of_beq_eq_true hb
      subst this
      show q_ur (q_ws I t) p.1 r = q_ur (q_ur (q_ws I t) p.1 p.2) p.1 r
      rw [q_ur_ss]
    | false =>
      rw [cond_false]
      have hne : a ≠ p.1 := fun h => by rw [h, q_beqS] at hb; cases hb
      cases hb2 : Nat.blt a p.1 with
      | true => rw [cond_true]; rfl
      | false =>
        rw [cond_false]
        show q_ur (q_ws I (q_ins a r t)) p.1 p.2 = q_ur (q_ur (q_ws I t) p.1 p.2) a r
        rw [q_ws_ins I a r t, q_ur_com _ hne]
theorem q_ws_mrg {α : Type} (I : Nat → α) (l : List (Nat × α)) : ∀ l2 : List (Nat × α), q_ws (q_ws I l) l2 = q_ws I (q_mrg l2 l)
  | [] => rfl
  | p :: t => by
    show q_ur (q_ws (q_ws I l) t) p.1 p.2 = q_ws I (q_ins p.1 p.2 (q_mrg t l))
    rw [q_ws_mrg I l t, q_ws_ins]
theorem q_u2_ws {α : Type} (I : Nat → Nat → α) (l : List (Nat × (Nat → α))) (a j : Nat) (x : α) : q_u2 (q_ws I l) a j x = q_ws I (q_ins a (q_up (q_ws I l a) j x) l) := by
  rw [q_ws_ins]; rfl
/-- an index that is in range -/
def q_ix (i : Int32) (L : Nat) : Option Nat := if 0 ≤ i ∧ i.toNatClampNeg < L then some i.toNatClampNeg else none
theorem q_ix_lt {i : Int32} {L j : Nat} (h : q_ix i L = some j) : j < L := by
  unfold q_ix at h
  split at h
  · next h1 => cases h; exact h1.2
  · cases h
theorem q_ix_eq {i : Int32} {L j : Nat} (h : q_ix i L = some j) : i = nI j := by
  unfold q_ix at h
  split at h
  · next h1 =>
    cases h
    have h2 : ¬ i < 0 := fun h => by
      have h3 := Int32.le_iff_toInt_le.mp h1.1
      have h4 := Int32.lt_iff_toInt_lt.mp h
      have h5 : (0 : Int32).toInt = 0 := by decide
      omega
    obtain ⟨j, hj, rfl⟩ := nI_of h2
    rw [nI_clamp hj]
  · cases h
theorem q_ix_nI {L j : Nat} (hj : j < L) (hL : L ≤ 2147483648) : q_ix (nI j) L = some j := by
  unfold q_ix
  rw [nI_clamp (by omega), if_pos ⟨nI_pos' (by omega), hj⟩]
/-- index, length, place -/
abbrev q_Cn : Type := Int32 × Nat × Nat
def q_cs : List q_Cn → Prop
  | [] => True
  | c :: t => q_ix c.1 c.2.1 = some c.2.2 ∧ q_cs t
theorem q_cn : q_cs [] := trivial
theorem q_cc {i : Int32} {L j : Nat} {t : List q_Cn} (h : q_ix i L = some j) (ht : q_cs t) : q_cs ((i, L, j) :: t) := ⟨h, ht⟩
/-- indices to be used, conditions, place, locals, stack, rows of numbers, rows of constants -/
abbrev q_KS : Type := List Nat × List q_Cn × Nat × List (Option Value) × List Value × List (Nat × (Nat → Int32)) × List (Nat × (Nat → Option Nat))
def q_isSp : Instr → Bool
  | .iaload => true | .baload => true | .aaload => true | .iastore => true | .bastore => true | .aastore => true | .putfield _ => true | .arraylength => true
  | _ => false
def q_sp (X : q_Am) (I : Nat → Nat → Int32) (E : Nat → Nat → Option Nat) (e : q_En) (s : q_KS) : Option q_KS := match e, s with
  | (_, ins, _, a1, a2, _, _), (js, cs, p, ls, st, lI, lE) => match ins with
    | .iaload => (match st, js with
      | .int i :: .ref a :: r, j :: js => (match Nat.ble 400 a with
        | true => (match q_aS X a with
          | (1, 0, L) => (match Nat.blt L 65536 with
            | true => some (js, (i, L, j) :: cs, p + 1, ls, .int (q_ws I lI a j) :: r, lI, lE)
            | false => none)
          | _ => none)
        | false => (match a with
          | 50 => some (js, (i, 49, j) :: cs, p + 1, ls, .int (q_sw j) :: r, lI, lE)
          | _ => none))
      | _, _ => none)
    | .baload => (match st, js with
      | .int i :: .ref a :: r, j :: js => (match Nat.ble 400 a with
        | true => (match q_aS X a with
          | (1, 1, L) => (match Nat.blt L 65536 with
            | true => some (js, (i, L, j) :: cs, p + 1, ls, .int (q_ws I lI a j) :: r, lI, lE)
            | false => none)
          | (1, 2, L) => (match Nat.blt L 65536 with
            | true => some (js, (i, L, j) :: cs, p + 1, ls, .int (q_ws I lI a j) :: r, lI, lE)
            | false => none)
          | _ => none)
        | false => none)
      | _, _ => none)
    | .aaload => (match st, js with
      | .int i :: .ref a :: r, j :: js => (match a with
        | 49 => some (js, (i, 49, j) :: cs, p + 1, ls, .ref j :: r, lI, lE)
        | _ => none)
      | _, _ => none)
    | .iastore => (match st, js with
      | .int x :: .int i :: .ref a :: r, j :: js => (match Nat.ble 400 a with
        | true => (match q_aS X a with
          | (1, 0, L) => (match Nat.blt L 65536 with
            | true => some (js, (i, L, j) :: cs, p + 1, ls, r, q_ins a (q_up (q_ws I lI a) j x) lI, lE)
            | false => none)
          | _ => none)
        | false => none)
      | _, _ => none)
    | .bastore => (match st, js with
      | .int x :: .int i :: .ref a :: r, j :: js => (match Nat.ble 400 a with
        | true => (match q_aS X a with
          | (1, 1, L) => (match Nat.blt L 65536 with
            | true => some (js, (i, L, j) :: cs, p + 1, ls, r, q_ins a (q_up (q_ws I lI a) j x.toInt8.toInt32) lI, lE)
            | false => none)
          | (1, 2, L) => (match Nat.blt L 65536 with
            | true => some (js, (i, L, j) :: cs, p + 1, ls, r, q_ins a (q_up (q_ws I lI a) j (vp_nar .boolean x)) lI, lE)
            | false => none)
          | _ => none)
        | false => none)
      | _, _ => none)
    | .putfield _ => (match st with
      | .int x :: .ref a :: r => (match Nat.ble 400 a with
        | true => (match q_aS X a with
          | (0, ci, v) => (match Nat.beq ci a1, Nat.blt v 2 with
            | true, true => (match q_kd ci v a2 with
              | 0 => some (js, cs, p + 1, ls, r, q_ins a (q_up (q_ws I lI a) a2 x) lI, lE)
              | _ => none)
            | _, _ => none)
          | _ => none)
        | false => none)
      | _ => none)
    | .arraylength => (match st with
      | .ref a :: r => (match Nat.ble 400 a with
        | true => (match q_aS X a with
          | (1, 0, L) => some (js, cs, p + 1, ls, .int (nI L) :: r, lI, lE)
          | _ => none)
        | false => (match a with
          | 49 => some (js, cs, p + 1, ls, .int (nI 49) :: r, lI, lE)
          | _ => none))
      | _ => none)
    | _ => none
abbrev q_kc (X : q_Am) (I : Nat → Nat → Int32) (E : Nat → Nat → Option Nat) (p : Nat) (ls : List (Option Value)) (st : List Value) (lI : List (Nat × (Nat → Int32))) (lE : List (Nat × (Nat → Option Nat))) : q_C := (p, ls, st, q_hp X (q_ws I lI) (q_ws E lE))
def q_runK (X : q_Am) (I : Nat → Nat → Int32) (E : Nat → Nat → Option Nat) (br : Bool) (tab : List q_En) : Nat → q_KS → Option (List q_Cn × q_C)
  | 0, (_, cs, p, ls, st, lI, lE) => (match br with
    | false => some (cs, q_kc X I E p ls st lI lE)
    | true => (match q_nth tab p with
      | some e => (match q_step e (q_kc X I E p ls st lI lE) with
        | some c' => some (cs, c')
        | none => none)
      | none => none))
  | n + 1, (js, cs, p, ls, st, lI, lE) => (match q_nth tab p with
    | some e => (match q_isSp e.2.1 with
      | true => (match q_sp X I E e (js, cs, p, ls, st, lI, lE) with
        | some s => q_runK X I E br tab n s
        | none => none)
      | false => (match q_step e (q_kc X I E p ls st lI lE) with
        | some c' => q_runK X I E br tab n (js, cs, c'.1, c'.2.1, c'.2.2.1, lI, lE)
        | none => none))
    | none => none)
