/-! THE LAW'S WALKS AS FORMULAS: q_wp says of a piece of code, over any heap, what must hold for it to go on -/
def q_an : List (Nat × Nat) → Nat → Nat
  | [], _ => 0
  | p :: t, i => bif Nat.beq i p.1 then p.2 else q_an t i
def q_cu : List (Nat × List Bool) → Nat → Option (List Bool)
  | [], _ => none
  | p :: t, i => bif Nat.beq i p.1 then some p.2 else q_cu t i
def q_mask : List Bool → List (Option Value) → List (Option Value)
  | b :: bs, v :: t => (bif b then v else none) :: q_mask bs t
  | _, l => l
def q_swc (K : Nat → Prop) (x : Int32) : Int → List Nat → Prop
  | _, [] => True
  | l, t :: ts => (x.toInt = l → K t) ∧ q_swc K x (l + 1) ts
def q_swf : List (Nat × Nat × List Nat) → Nat → Nat × List Nat
  | [], _ => (0, [])
  | p :: t, i => bif Nat.beq i p.1 then p.2 else q_swf t i
/-- a length that fits -/
abbrev q_s16 (L : Nat) : Prop := L < 65536
abbrev q_Po : Type := (Option Value ⊕ String) → q_H → Prop
def q_isR : Option FieldType → Nat
  | none => 0
  | some (.object _) => 2
  | some (.array _) => 2
  | some .long => 3
  | some .double => 4
  | _ => 1
/-- what a call leaves: by the type of the answer, and whether it may be null -/
def q_wret (C : (Option Value → q_H → Prop) → Prop) (rt : Option FieldType) (md : Nat) (K : Option Value → q_H → Prop) : Prop := match q_isR rt with
  | 0 => ∃ P : q_H → Prop, C (fun v h' => v = none ∧ P h') ∧ ∀ h', P h' → K none h'
  | 1 => ∃ P : Int32 → q_H → Prop, C (fun v h' => ∃ x, v = some (.int x) ∧ P x h') ∧ ∀ x h', P x h' → K (some (.int x)) h'
  | 2 => (match md with
    | 0 => ∃ P : Nat → q_H → Prop, C (fun v h' => ∃ x, v = some (.ref x) ∧ P x h') ∧ ∀ x h', P x h' → K (some (.ref x)) h'
    | _ => ∃ P : Option Nat → q_H → Prop, C (fun v h' => ∃ x, v = some (va_rf x) ∧ P x h') ∧ (∀ x h', P (some x) h' → K (some (.ref x)) h') ∧ ∀ h', P none h' → K (some .null) h')
  | 3 => ∃ P : Int64 → q_H → Prop, C (fun v h' => ∃ x, v = some (.long x) ∧ P x h') ∧ ∀ x h', P x h' → K (some (.long x)) h'
  | _ => ∃ P : UInt64 → q_H → Prop, C (fun v h' => ∃ x, v = some (.double x) ∧ P x h') ∧ ∀ x h', P x h' → K (some (.double x)) h'
theorem q_wret_K {C : (Option Value → q_H → Prop) → Prop} {rt : Option FieldType} {md : Nat} {K : Option Value → q_H → Prop} (h : q_wret C rt md K) : ∃ P, C P ∧ ∀ v h', P v h' → K v h' := by
  unfold q_wret at h
  split at h
  · obtain ⟨P, h1, h2⟩ := h; exact ⟨_, h1, fun v h' hp => by rw [hp.1]; exact h2 h' hp.2⟩
  · obtain ⟨P, h1, h2⟩ := h; exact ⟨_, h1, fun v h' hp => by obtain ⟨x, e, hp⟩ := hp; rw [e]; exact h2 x h' hp⟩
  · split at h
    · obtain ⟨P, h1, h2⟩ := h; exact ⟨_, h1, fun v h' hp => by obtain ⟨x, e, hp⟩ := hp; rw [e]; exact h2 x h' hp⟩
    · obtain ⟨P, h1, h2, h3⟩ := h
      exact ⟨_, h1, fun v h' hp => by
        obtain ⟨x, e, hp⟩ := hp
        rw [e]
        cases x with
        | none => exact h3 h' hp
        | some x => exact h2 x h' hp⟩
  · obtain ⟨P, h1, h2⟩ := h; exact ⟨_, h1, fun v h' hp => by obtain ⟨x, e, hp⟩ := hp; rw [e]; exact h2 x h' hp⟩
  · obtain ⟨P, h1, h2⟩ := h; exact ⟨_, h1, fun v h' hp => by obtain ⟨x, e, hp⟩ := hp; rw [e]; exact h2 x h' hp⟩
/-- the callee's contract, as a post on what it returns -/
abbrev q_ctv (g : q_G) (M2 : q_M) (d2 mc2 ms2 : Nat) (mv2 : List Nat) (As : List Value) (h : q_H) (P : Option Value → q_H → Prop) : Prop := q_Ct g M2 d2 mc2 ms2 mv2 As h (fun o h' => ∃ v, o = .inl v ∧ P v h')
/-- a call, but for the receiver -/
def q_wcall (g : q_G) (M2 : q_M) (mv2 : List Nat) (d mc ms : Nat) (mv : List Nat) (As rest : List Value) (ls : List (Option Value)) (h : q_H) (k n md p : Nat) (K : Nat → Nat → q_C → Prop) : Prop :=
  ∃ d2 mc2 ms2 : Nat, d2 + 1 ≤ d ∧ 59 + 64 * d2 ≤ q_lc d ∧ k + mc2 ≤ mc ∧ n + ms2 ≤ ms ∧ (match mv2 with
    | [] => True
    | m => (∀ x ∈ m, x ∈ mv) ∧ (∀ i a, q_nth ls i = some (some (.ref a)) → a ∉ m) ∧ ∀ a, Value.ref a ∈ rest → a ∉ m) ∧
  q_wret (q_ctv g M2 d2 mc2 ms2 mv2 As h) M2.2.2.2.1 md (fun v h' => K (k + mc2) (n + ms2) (p + 1, ls, v.toList ++ rest, h'))
/-- a number, a reference written -/
def q_pI (h : q_H) (a j : Nat) (x : Int32) : q_H := (q_nx h, q_sh h, q_u2 (q_I h) a j x, q_R h, q_E h, q_L h)
def q_pR (h : q_H) (a j : Nat) (x : Option Nat) : q_H := (q_nx h, q_sh h, q_I h, q_u2 (q_R h) a j x, q_E h, q_L h)
theorem q_Ct_mono {g : q_G} {M : q_M} {d mc ms : Nat} {mv : List Nat} {As : List Value} {h : q_H} {Q Q' : q_Po} (hC : q_Ct g M d mc ms mv As h Q) (hQ : ∀ o h', Q o h' → Q' o h') : q_Ct g M d mc ms mv As h Q' := by
  intro D cA ρ sz
  refine Jvm.Free.MetFree.mono (hC D cA ρ sz) (fun _ _ h => h) (fun _ _ _ _ _ h => h) ?_
  rintro a s o t - (⟨hq, L, hL1, hL2⟩ | ⟨q, ho, E, ce, L, hx, r⟩)
  · obtain ⟨v, h1, ρ1, o1, q1, r⟩ := hq
    exact Or.inl ⟨⟨v, h1, ρ1, o1, hQ _ _ q1, r⟩, L, hL1, hL2⟩
  · obtain ⟨h1, ρ1, q1, r2⟩ := hx
    exact Or.inr ⟨q, ho, E, ce, L, ⟨h1, ρ1, hQ _ _ q1, r2⟩, r⟩
/-- calls by the type of their answer -/
def q_cV (g : q_G) (M2 : q_M) (mv2 : List Nat) (d mc ms : Nat) (As : List Value) (h : q_H) (k n : Nat) (V : Prop) (C : Nat → Nat → q_H → Prop) : Prop :=
  ∃ d2 mc2 ms2 : Nat, d2 + 1 ≤ d ∧ 59 + 64 * d2 ≤ q_lc d ∧ k + mc2 ≤ mc ∧ n + ms2 ≤ ms ∧ V ∧ ∃ P : q_H → Prop, q_ctv g M2 d2 mc2 ms2 mv2 As h (fun v h' => v = none ∧ P h') ∧ ∀ h', P h' → C (k + mc2) (n + ms2) h'
theorem q_cV_of {g : q_G} {M2 : q_M} {mv2 : List Nat} {d d2 mc ms mc2 ms2 k n : Nat} {As : List Value} {h : q_H} {V : Prop} {C : Nat → Nat → q_H → Prop} (P : q_H → Prop) (hC : q_Ct g M2 d2 mc2 ms2 mv2 As h (fun o h' => o = .inl none ∧ P h')) (hd : d2 + 1 ≤ d) (hl : 59 + 64 * d2 ≤ q_lc d) (hk : k + mc2 ≤ mc) (hn : n + ms2 ≤ ms) (hV : V) (hc : ∀ h', P h' → C (k + mc2) (n + ms2) h') : q_cV g M2 mv2 d mc ms As h k n V C :=
  ⟨d2, mc2, ms2, hd, hl, hk, hn, hV, P, q_Ct_mono hC (fun o h' hq => by exact ⟨_, hq.1, rfl, hq.2⟩), hc⟩
def q_cI (g : q_G) (M2 : q_M) (mv2 : List Nat) (d mc ms : Nat) (As : List Value) (h : q_H) (k n : Nat) (V : Prop) (C : Nat → Nat → Int32 → q_H → Prop) : Prop :=
  ∃ d2 mc2 ms2 : Nat, d2 + 1 ≤ d ∧ 59 + 64 * d2 ≤ q_lc d ∧ k + mc2 ≤ mc ∧ n + ms2 ≤ ms ∧ V ∧ ∃ P : Int32 → q_H → Prop, q_ctv g M2 d2 mc2 ms2 mv2 As h (fun v h' => ∃ x, v = some (.int x) ∧ P x h') ∧ ∀ x h', P x h' → C (k + mc2) (n + ms2) x h'
theorem q_cI_of {g : q_G} {M2 : q_M} {mv2 : List Nat} {d d2 mc ms mc2 ms2 k n : Nat} {As : List Value} {h : q_H} {V : Prop} {C : Nat → Nat → Int32 → q_H → Prop} (P : Int32 → q_H → Prop) (hC : q_Ct g M2 d2 mc2 ms2 mv2 As h (fun o h' => ∃ x, o = .inl (some (.int x)) ∧ P x h')) (hd : d2 + 1 ≤ d) (hl : 59 + 64 * d2 ≤ q_lc d) (hk : k + mc2 ≤ mc) (hn : n + ms2 ≤ ms) (hV : V) (hc : ∀ x h', P x h' → C (k + mc2) (n + ms2) x h') : q_cI g M2 mv2 d mc ms As h k n V C :=
  ⟨d2, mc2, ms2, hd, hl, hk, hn, hV, P, q_Ct_mono hC (fun o h' hq => by obtain ⟨x, e, hp⟩ := hq; exact ⟨_, e, x, rfl, hp⟩), hc⟩
def q_cR (g : q_G) (M2 : q_M) (mv2 : List Nat) (d mc ms : Nat) (As : List Value) (h : q_H) (k n : Nat) (V : Prop) (C : Nat → Nat → Nat → q_H → Prop) : Prop :=
  ∃ d2 mc2 ms2 : Nat, d2 + 1 ≤ d ∧ 59 + 64 * d2 ≤ q_lc d ∧ k + mc2 ≤ mc ∧ n + ms2 ≤ ms ∧ V ∧ ∃ P : Nat → q_H → Prop, q_ctv g M2 d2 mc2 ms2 mv2 As h (fun v h' => ∃ x, v = some (.ref x) ∧ P x h') ∧ ∀ x h', P x h' → C (k + mc2) (n + ms2) x h'
theorem q_cR_of {g : q_G} {M2 : q_M} {mv2 : List Nat} {d d2 mc ms mc2 ms2 k n : Nat} {As : List Value} {h : q_H} {V : Prop} {C : Nat → Nat → Nat → q_H → Prop} (P : Nat → q_H → Prop) (hC : q_Ct g M2 d2 mc2 ms2 mv2 As h (fun o h' => ∃ x, o = .inl (some (.ref x)) ∧ P x h')) (hd : d2 + 1 ≤ d) (hl : 59 + 64 * d2 ≤ q_lc d) (hk : k + mc2 ≤ mc) (hn : n + ms2 ≤ ms) (hV : V) (hc : ∀ x h', P x h' → C (k + mc2) (n + ms2) x h') : q_cR g M2 mv2 d mc ms As h k n V C :=
  ⟨d2, mc2, ms2, hd, hl, hk, hn, hV, P, q_Ct_mono hC (fun o h' hq => by obtain ⟨x, e, hp⟩ := hq; exact ⟨_, e, x, rfl, hp⟩), hc⟩
def q_cL (g : q_G) (M2 : q_M) (mv2 : List Nat) (d mc ms : Nat) (As : List Value) (h : q_H) (k n : Nat) (V : Prop) (C : Nat → Nat → Int64 → q_H → Prop) : Prop :=
  ∃ d2 mc2 ms2 : Nat, d2 + 1 ≤ d ∧ 59 + 64 * d2 ≤ q_lc d ∧ k + mc2 ≤ mc ∧ n + ms2 ≤ ms ∧ V ∧ ∃ P : Int64 → q_H → Prop, q_ctv g M2 d2 mc2 ms2 mv2 As h (fun v h' => ∃ x, v = some (.long x) ∧ P x h') ∧ ∀ x h', P x h' → C (k + mc2) (n + ms2) x h'
theorem q_cL_of {g : q_G} {M2 : q_M} {mv2 : List Nat} {d d2 mc ms mc2 ms2 k n : Nat} {As : List Value} {h : q_H} {V : Prop} {C : Nat → Nat → Int64 → q_H → Prop} (P : Int64 → q_H → Prop) (hC : q_Ct g M2 d2 mc2 ms2 mv2 As h (fun o h' => ∃ x, o = .inl (some (.long x)) ∧ P x h')) (hd : d2 + 1 ≤ d) (hl : 59 + 64 * d2 ≤ q_lc d) (hk : k + mc2 ≤ mc) (hn : n + ms2 ≤ ms) (hV : V) (hc : ∀ x h', P x h' → C (k + mc2) (n + ms2) x h') : q_cL g M2 mv2 d mc ms As h k n V C :=
  ⟨d2, mc2, ms2, hd, hl, hk, hn, hV, P, q_Ct_mono hC (fun o h' hq => by obtain ⟨x, e, hp⟩ := hq; exact ⟨_, e, x, rfl, hp⟩), hc⟩
def q_cD (g : q_G) (M2 : q_M) (mv2 : List Nat) (d mc ms : Nat) (As : List Value) (h : q_H) (k n : Nat) (V : Prop) (C : Nat → Nat → UInt64 → q_H → Prop) : Prop :=
  ∃ d2 mc2 ms2 : Nat, d2 + 1 ≤ d ∧ 59 + 64 * d2 ≤ q_lc d ∧ k + mc2 ≤ mc ∧ n + ms2 ≤ ms ∧ V ∧ ∃ P : UInt64 → q_H → Prop, q_ctv g M2 d2 mc2 ms2 mv2 As h (fun v h' => ∃ x, v = some (.double x) ∧ P x h') ∧ ∀ x h', P x h' → C (k + mc2) (n + ms2) x h'
theorem q_cD_of {g : q_G} {M2 : q_M} {mv2 : List Nat} {d d2 mc ms mc2 ms2 k n : Nat} {As : List Value} {h : q_H} {V : Prop} {C : Nat → Nat → UInt64 → q_H → Prop} (P : UInt64 → q_H → Prop) (hC : q_Ct g M2 d2 mc2 ms2 mv2 As h (fun o h' => ∃ x, o = .inl (some (.double x)) ∧ P x h')) (hd : d2 + 1 ≤ d) (hl : 59 + 64 * d2 ≤ q_lc d) (hk : k + mc2 ≤ mc) (hn : n + ms2 ≤ ms) (hV : V) (hc : ∀ x h', P x h' → C (k + mc2) (n + ms2) x h') : q_cD g M2 mv2 d mc ms As h k n V C :=
  ⟨d2, mc2, ms2, hd, hl, hk, hn, hV, P, q_Ct_mono hC (fun o h' hq => by obtain ⟨x, e, hp⟩ := hq; exact ⟨_, e, x, rfl, hp⟩), hc⟩
def q_cN (g : q_G) (M2 : q_M) (mv2 : List Nat) (d mc ms : Nat) (As : List Value) (h : q_H) (k n : Nat) (V : Prop) (C : Nat → Nat → Nat → q_H → Prop) (C0 : Nat → Nat → q_H → Prop) : Prop :=
  ∃ d2 mc2 ms2 : Nat, d2 + 1 ≤ d ∧ 59 + 64 * d2 ≤ q_lc d ∧ k + mc2 ≤ mc ∧ n + ms2 ≤ ms ∧ V ∧ ∃ P : Option Nat → q_H → Prop, q_ctv g M2 d2 mc2 ms2 mv2 As h (fun v h' => ∃ x, v = some (va_rf x) ∧ P x h') ∧ (∀ x h', P (some x) h' → C (k + mc2) (n + ms2) x h') ∧ ∀ h', P none h' → C0 (k + mc2) (n + ms2) h'
/-- one instruction -/
def q_wi (g : q_G) (T : List q_En) (rt : Option FieldType) (d mc ms : Nat) (mv : List Nat) (Q : q_Po) (an : List (Nat × Nat)) (sw : List (Nat × Nat × List Nat)) (K : Nat → Nat → q_C → Prop) (k n : Nat) (e : q_En) (c : q_C) : Prop := match e, c with
  | (pc, ins, _, a1, a2, _, _), (p, ls, st, h) => match ins with
    | .ifCond co _ => (match st with
      | .int x :: r => (match co with
        | .eq => (x = 0 → K k n (a1, ls, r, h)) ∧ (¬ x = 0 → K k n (p + 1, ls, r, h))
        | .ne => (¬ x = 0 → K k n (a1, ls, r, h)) ∧ (x = 0 → K k n (p + 1, ls, r, h))
        | .lt => (x < 0 → K k n (a1, ls, r, h)) ∧ (¬ x < 0 → K k n (p + 1, ls, r, h))
        | .ge => (0 ≤ x → K k n (a1, ls, r, h)) ∧ (¬ 0 ≤ x → K k n (p + 1, ls, r, h))
        | .gt => (0 < x → K k n (a1, ls, r, h)) ∧ (¬ 0 < x → K k n (p + 1, ls, r, h))
        | .le => (x ≤ 0 → K k n (a1, ls, r, h)) ∧ (¬ x ≤ 0 → K k n (p + 1, ls, r, h)))
      | _ => False)
    | .if_icmp co _ => (match st with
      | .int y :: .int x :: r => (match co with
        | .eq => (x = y → K k n (a1, ls, r, h)) ∧ (¬ x = y → K k n (p + 1, ls, r, h))
        | .ne => (¬ x = y → K k n (a1, ls, r, h)) ∧ (x = y → K k n (p + 1, ls, r, h))
        | .lt => (x < y → K k n (a1, ls, r, h)) ∧ (¬ x < y → K k n (p + 1, ls, r, h))
        | .ge => (y ≤ x → K k n (a1, ls, r, h)) ∧ (¬ y ≤ x → K k n (p + 1, ls, r, h))
        | .gt => (y < x → K k n (a1, ls, r, h)) ∧ (¬ y < x → K k n (p + 1, ls, r, h))
        | .le => (x ≤ y → K k n (a1, ls, r, h)) ∧ (¬ x ≤ y → K k n (p + 1, ls, r, h)))
      | _ => False)
    | .if_acmp co _ => (match st with
      | .ref y :: .ref x :: r => 400 ≤ x ∧ 400 ≤ y ∧ (match co with
        | .eq => (x = y → K k n (a1, ls, r, h)) ∧ (¬ x = y → K k n (p + 1, ls, r, h))
        | .ne => (¬ x = y → K k n (a1, ls, r, h)) ∧ (x = y → K k n (p + 1, ls, r, h)))
      | .null :: .ref x :: r => 400 ≤ x ∧ (match co with
        | .eq => K k n (p + 1, ls, r, h)
        | .ne => K k n (a1, ls, r, h))
      | .ref y :: .null :: r => 400 ≤ y ∧ (match co with
        | .eq => K k n (p + 1, ls, r, h)
        | .ne => K k n (a1, ls, r, h))
      | _ => False)
    | .tableswitch dflt lo hi offs => (match st with
      | .int x :: r => (match q_swok T pc dflt lo hi offs (q_swf sw p).1 (q_swf sw p).2 with
        | true => q_swc (fun t => K k n (t, ls, r, h)) x lo (q_swf sw p).2 ∧ ((x.toInt < lo ∨ hi < x.toInt) → K k n ((q_swf sw p).1, ls, r, h))
        | false => False)
      | _ => False)
    | .idiv => (match st with
      | .int y :: .int x :: r => ¬ y = 0 ∧ K k n (p + 1, ls, .int (x / y) :: r, h)
      | _ => False)
    | .irem => (match st with
      | .int y :: .int x :: r => ¬ y = 0 ∧ K k n (p + 1, ls, .int (x - x / y * y) :: r, h)
      | _ => False)
    | .ishl => (match st with
      | .int y :: .int x :: r => K k n (p + 1, ls, .int (x <<< (y &&& 31)) :: r, h)
      | _ => False)
    | .i2d => (match st with
      | .int x :: r => K k n (p + 1, ls, .double (FP.i2d x) :: r, h)
      | _ => False)
    | .dconst v => (match v with
      | 0 => K k n (p + 1, ls, .double FP.dconst0 :: st, h)
      | 1 => False)
    | .ddiv => (match st with
      | .double y :: .double x :: r => vf_n64 (FP.ddiv x y) ∧ K k n (p + 1, ls, .double (FP.ddiv x y) :: r, h)
      | _ => False)
    | .getfield _ => (match st with
      | .ref a :: r => (match q_an an p with
        | 2 => (q_isStr a = true ∧ a < 300) ∧ Nat.beq a1 13 = true ∧ (match a2 with
          | 0 => K k n (p + 1, ls, .ref (100 + a) :: r, h)
          | 1 => K k n (p + 1, ls, .int 0 :: r, h)
          | _ => False)
        | md => (400 ≤ a ∧ q_sh h a = (0, a1, 0)) ∧ (match q_kd a1 0 a2 with
          | 0 => K k n (p + 1, ls, .int (q_I h a a2) :: r, h)
          | 1 => (match md with
            | 0 => ∃ b, q_R h a a2 = some b ∧ K k n (p + 1, ls, .ref b :: r, h)
            | _ => (∀ b, q_R h a a2 = some b → K k n (p + 1, ls, .ref b :: r, h)) ∧ (q_R h a a2 = none → K k n (p + 1, ls, .null :: r, h)))
          | 3 => K k n (p + 1, ls, .int (q_I h a a2) :: r, h)
          | 4 => K k n (p + 1, ls, .int (q_I h a a2) :: r, h)
          | _ => False))
      | _ => False)
    | .putfield _ => (match st with
      | .int x :: .ref a :: r => (400 ≤ a ∧ q_sh h a = (0, a1, 0)) ∧ (match q_kd a1 0 a2 with
        | 0 => K k n (p + 1, ls, r, q_pI h a a2 x)
        | 3 => narrow .boolean (.int x) = .int x ∧ K k n (p + 1, ls, r, q_pI h a a2 x)
        | 4 => narrow .byte (.int x) = .int x ∧ K k n (p + 1, ls, r, q_pI h a a2 x)
        | _ => False)
      | .ref b :: .ref a :: r => (400 ≤ a ∧ q_sh h a = (0, a1, 0)) ∧ (match q_kd a1 0 a2 with
        | 1 => K k n (p + 1, ls, r, q_pR h a a2 (some b))
        | _ => False)
      | .null :: .ref a :: r => (400 ≤ a ∧ q_sh h a = (0, a1, 0)) ∧ (match q_kd a1 0 a2 with
        | 1 => K k n (p + 1, ls, r, q_pR h a a2 none)
        | _ => False)
      | _ => False)
    | .getstatic _ => (match a1 with
      | 900 => False
      | _ => (match Nat.blt a1 400 with
        | true => K k n (p + 1, ls, .ref a1 :: st, h)
        | false => False))
    | .arraylength => (match st with
      | .ref a :: r => (match q_an an p with
        | 52 => a = 52 ∧ K k n (p + 1, ls, .int (nI g.2.length) :: r, h)
        | 9 => ∃ b, a = 100 + b ∧ (q_isStr b = true ∧ b < 300) ∧ K k n (p + 1, ls, .int (nI (q_str b).length) :: r, h)
        | 0 => ∃ L, (400 ≤ a ∧ q_sh h a = (1, 0, L)) ∧ K k n (p + 1, ls, .int (nI L) :: r, h)
        | 1 => ∃ L, (400 ≤ a ∧ q_sh h a = (1, 1, L)) ∧ K k n (p + 1, ls, .int (nI L) :: r, h)
        | 2 => ∃ L, (400 ≤ a ∧ q_sh h a = (1, 2, L)) ∧ K k n (p + 1, ls, .int (nI L) :: r, h)
        | 6 => ∃ L, (400 ≤ a ∧ q_sh h a = (3, 6, L)) ∧ K k n (p + 1, ls, .int (nI L) :: r, h)
        | 7 => ∃ L, (400 ≤ a ∧ q_sh h a = (3, 7, L)) ∧ K k n (p + 1, ls, .int (nI L) :: r, h)
        | 8 => ∃ L, (400 ≤ a ∧ q_sh h a = (3, 8, L)) ∧ K k n (p + 1, ls, .int (nI L) :: r, h)
        | _ => False)
      | _ => False)
    | .iaload => (match st with
      | .int i :: .ref a :: r => (match q_an an p with
        | 52 => ∃ j, a = 52 ∧ i = nI j ∧ (j < g.2.length ∧ g.2.length < 2147483648) ∧ K k n (p + 1, ls, .int (g.2.getD j 0) :: r, h)
        | _ => ∃ j L, i = nI j ∧ (400 ≤ a ∧ q_sh h a = (1, 0, L) ∧ j < L ∧ q_s16 L) ∧ K k n (p + 1, ls, .int (q_I h a j) :: r, h))
      | _ => False)
    | .baload => (match st with
      | .int i :: .ref a :: r => (match q_an an p with
        | 51 => ∃ j, a = 51 ∧ i = nI j ∧ j < 100 ∧ K k n (p + 1, ls, .int (nI (48 + j % 10)) :: r, h)
        | 53 => ∃ j, a = 53 ∧ i = nI j ∧ j < 100 ∧ K k n (p + 1, ls, .int (nI (48 + j / 10)) :: r, h)
        | 9 => ∃ b j, a = 100 + b ∧ (q_isStr b = true ∧ b < 300) ∧ i = nI j ∧ j < (q_str b).length ∧ K k n (p + 1, ls, .int ((q_str b).getD j 0) :: r, h)
        | 2 => ∃ j L, i = nI j ∧ (400 ≤ a ∧ q_sh h a = (1, 2, L) ∧ j < L ∧ q_s16 L) ∧ K k n (p + 1, ls, .int (q_I h a j) :: r, h)
        | _ => ∃ j L, i = nI j ∧ (400 ≤ a ∧ q_sh h a = (1, 1, L) ∧ j < L ∧ q_s16 L) ∧ K k n (p + 1, ls, .int (q_I h a j) :: r, h))
      | _ => False)
    | .aaload => (match st with
      | .int i :: .ref a :: r => (match q_an an p with
        | 6 => ∃ j L, i = nI j ∧ (400 ≤ a ∧ q_sh h a = (3, 6, L) ∧ j < L ∧ q_s16 L) ∧ ∃ b, q_R h a j = some b ∧ K k n (p + 1, ls, .ref b :: r, h)
        | 16 => ∃ j L, i = nI j ∧ (400 ≤ a ∧ q_sh h a = (3, 6, L) ∧ j < L ∧ q_s16 L) ∧ (∀ b, q_R h a j = some b → K k n (p + 1, ls, .ref b :: r, h)) ∧ (q_R h a j = none → K k n (p + 1, ls, .null :: r, h))
        | 7 => ∃ j L, i = nI j ∧ (400 ≤ a ∧ q_sh h a = (3, 7, L) ∧ j < L ∧ q_s16 L) ∧ ∃ b, q_R h a j = some b ∧ K k n (p + 1, ls, .ref b :: r, h)
        | 8 => ∃ j L, i = nI j ∧ (400 ≤ a ∧ q_sh h a = (3, 8, L) ∧ j < L ∧ q_s16 L) ∧ ∃ b, q_R h a j = some b ∧ K k n (p + 1, ls, .ref b :: r, h)
        | _ => False)
      | _ => False)
    | .iastore => (match st with
      | .int x :: .int i :: .ref a :: r => ∃ j L, i = nI j ∧ (400 ≤ a ∧ q_sh h a = (1, 0, L) ∧ j < L ∧ q_s16 L) ∧ K k n (p + 1, ls, r, q_pI h a j x)
      | _ => False)
    | .bastore => (match st with
      | .int x :: .int i :: .ref a :: r => (match q_an an p with
        | 2 => ∃ j L, i = nI j ∧ (400 ≤ a ∧ q_sh h a = (1, 2, L) ∧ j < L ∧ q_s16 L) ∧ K k n (p + 1, ls, r, q_pI h a j (vp_nar .boolean x))
        | _ => ∃ j L, i = nI j ∧ (400 ≤ a ∧ q_sh h a = (1, 1, L) ∧ j < L ∧ q_s16 L) ∧ K k n (p + 1, ls, r, q_pI h a j (x.toInt8.toInt32)))
      | _ => False)
    | .aastore => (match st with
      | .ref b :: .int i :: .ref a :: r => (match q_an an p with
        | 6 => ∃ j L, i = nI j ∧ (400 ≤ a ∧ q_sh h a = (3, 6, L) ∧ j < L ∧ q_s16 L) ∧ (400 ≤ b ∧ q_sh h b = (0, 11, 0)) ∧ K k n (p + 1, ls, r, q_pR h a j (some b))
        | 7 => ∃ j L, i = nI j ∧ (400 ≤ a ∧ q_sh h a = (3, 7, L) ∧ j < L ∧ q_s16 L) ∧ (∃ L2, 400 ≤ b ∧ q_sh h b = (1, 0, L2)) ∧ K k n (p + 1, ls, r, q_pR h a j (some b))
        | 8 => ∃ j L, i = nI j ∧ (400 ≤ a ∧ q_sh h a = (3, 8, L) ∧ j < L ∧ q_s16 L) ∧ ((400 ≤ b ∧ q_sh h b = (0, 13, 0)) ∨ (q_isStr b = true ∧ b < 300)) ∧ K k n (p + 1, ls, r, q_pR h a j (some b))
        | _ => False)
      | .null :: .int i :: .ref a :: r => (match q_an an p with
        | 6 => ∃ j L, i = nI j ∧ (400 ≤ a ∧ q_sh h a = (3, 6, L) ∧ j < L ∧ q_s16 L) ∧ K k n (p + 1, ls, r, q_pR h a j none)
        | _ => False)
      | _ => False)
    | .newarray t => (match st with
      | .int i :: r => (match t with
        | .int => ∃ L, i = nI L ∧ q_s16 L ∧ (k + 1 ≤ mc ∧ n + L ≤ ms) ∧ K (k + 1) (n + L) (p + 1, ls, .ref (q_nx h) :: r, q_new h (1, 0, L))
        | .byte => ∃ L, i = nI L ∧ q_s16 L ∧ (k + 1 ≤ mc ∧ n + L ≤ ms) ∧ K (k + 1) (n + L) (p + 1, ls, .ref (q_nx h) :: r, q_new h (1, 1, L))
        | .boolean => ∃ L, i = nI L ∧ q_s16 L ∧ (k + 1 ≤ mc ∧ n + L ≤ ms) ∧ K (k + 1) (n + L) (p + 1, ls, .ref (q_nx h) :: r, q_new h (1, 2, L))
        | _ => False)
      | _ => False)
    | .anewarray _ => (match st with
      | .int i :: r => (match a1 with
        | 6 => ∃ L, i = nI L ∧ q_s16 L ∧ (k + 1 ≤ mc ∧ n + L ≤ ms) ∧ K (k + 1) (n + L) (p + 1, ls, .ref (q_nx h) :: r, q_new h (3, 6, L))
        | 7 => ∃ L, i = nI L ∧ q_s16 L ∧ (k + 1 ≤ mc ∧ n + L ≤ ms) ∧ K (k + 1) (n + L) (p + 1, ls, .ref (q_nx h) :: r, q_new h (3, 7, L))
        | 8 => ∃ L, i = nI L ∧ q_s16 L ∧ (k + 1 ≤ mc ∧ n + L ≤ ms) ∧ K (k + 1) (n + L) (p + 1, ls, .ref (q_nx h) :: r, q_new h (3, 8, L))
        | _ => False)
      | _ => False)
    | .new _ => (k + 1 ≤ mc ∧ n + q_nf a1 ≤ ms) ∧ K (k + 1) (n + q_nf a1) (p + 1, ls, .ref (q_nx h) :: st, q_new h (0, a1, 0))
    | .ldc _ => (match q_lc2 a1 a2 with
      | .inl x => K k n (p + 1, ls, .int x :: st, h)
      | .inr i => K k n (p + 1, ls, .ref i :: st, h))
    | .ireturn => (match st with
      | [.int x] => (match rt with
        | some ty => narrow ty (.int x) = .int x ∧ (k ≤ mc ∧ n ≤ ms) ∧ Q (.inl (some (.int x))) h
        | none => False)
      | _ => False)
    | .areturn => (match st with
      | [.ref x] => (match q_isR rt with
        | 2 => (k ≤ mc ∧ n ≤ ms) ∧ Q (.inl (some (.ref x))) h
        | _ => False)
      | _ => False)
    | .return_ => (match st with
      | [] => (match q_isR rt with
        | 0 => (k ≤ mc ∧ n ≤ ms) ∧ Q (.inl none) h
        | _ => False)
      | _ => False)
    | .invokestatic _ => (match q_mk a1 with
      | 0 => (match Nat.ble ((st.drop a2).map fun v => v.category).sum 8, Nat.beq (st.take a2).length a2 with
        | true, true => q_wcall g (q_mt a1) (q_mv a1) d mc ms mv (st.take a2).reverse (st.drop a2) ls h k n (q_an an p) p K
        | _, _ => False)
      | 6 => (match st with
        | .int y :: .int x :: r => (match Nat.ble (r.map fun v => v.category).sum 8 with
          | true => (k ≤ mc ∧ n ≤ ms) ∧ K k n (p + 1, ls, .int (q_max x y) :: r, h)
          | false => False)
        | _ => False)
      | 7 => (match st with
        | .int y :: .int x :: r => (match Nat.ble (r.map fun v => v.category).sum 8 with
          | true => (k ≤ mc ∧ n ≤ ms) ∧ K k n (p + 1, ls, .int (q_min x y) :: r, h)
          | false => False)
        | _ => False)
      | _ => False)
    | .invokespecial _ => (match st.drop a2 with
      | .ref b :: rest => (match Nat.ble (rest.map fun v => v.category).sum 8, Nat.beq (st.take a2).length a2 with
        | true, true => (match q_mk a1 with
          | 2 => q_wcall g (q_mt a1) [] d mc ms mv (.ref b :: (st.take a2).reverse) rest ls h k n 0 p K
          | 4 => (400 ≤ b ∧ q_sh h b = (0, 14, 0)) ∧ q_wcall g (q_mt a1) [] d mc ms mv (.ref b :: (st.take a2).reverse) rest ls h k n 0 p K
          | 5 => K k n (p + 1, ls, rest, h)
          | _ => False)
        | _, _ => False)
      | _ => False)
    | .invokevirtual _ => (match st.drop a2 with
      | .ref b :: rest => (match Nat.ble (rest.map fun v => v.category).sum 8, Nat.beq (st.take a2).length a2 with
        | true, true => (match q_an an p with
          | 2 => (match q_mk a1 with
            | 1 => Nat.beq (q_mc a1) 13 = true ∧ (q_isStr b = true ∧ b < 300) ∧ q_wcall g (q_mt a1) [] d mc ms mv (.ref b :: (st.take a2).reverse) rest ls h k n 0 p K
            | _ => False)
          | md => (match q_mk a1 with
            | 1 => (400 ≤ b ∧ q_sh h b = (0, q_mc a1, 0)) ∧ q_wcall g (q_mt a1) (q_mv a1) d mc ms mv (.ref b :: (st.take a2).reverse) rest ls h k n md p K
            | 3 => (400 ≤ b ∧ q_sh h b = (0, 14, 0)) ∧ q_wcall g (q_mt a1) [] d mc ms mv (.ref b :: (st.take a2).reverse) rest ls h k n md p K
            | _ => False))
        | _, _ => False)
      | _ => False)
    | _ => (match q_step e c with
      | some c' => K k n c'
      | none => False)
/-- a piece of code, up to where it is cut -/
def q_wp (g : q_G) (T : List q_En) (rt : Option FieldType) (d mc ms : Nat) (mv : List Nat) (Q : q_Po) (an : List (Nat × Nat)) (sw : List (Nat × Nat × List Nat)) (cu : List (Nat × List Bool)) (K0 : Nat → Nat → q_C → Prop) : Nat → Nat → Nat → q_C → Prop
  | 0, _, _, _ => False
  | i + 1, k, n, c => match q_cu cu c.1 with
    | some ma => K0 k n (c.1, q_mask ma c.2.1, c.2.2.1, c.2.2.2)
    | none => (match q_nth T c.1 with
      | some e => q_wi g T rt d mc ms mv Q an sw (q_wp g T rt d mc ms mv Q an sw cu K0 i) k n e c
      | none => False)
/-- its first instruction is done in any case -/
def q_w1 (g : q_G) (T : List q_En) (rt : Option FieldType) (d mc ms : Nat) (mv : List Nat) (Q : q_Po) (an : List (Nat × Nat)) (sw : List (Nat × Nat × List Nat)) (cu : List (Nat × List Bool)) (K0 : Nat → Nat → q_C → Prop) (i k n : Nat) (c : q_C) : Prop := match q_nth T c.1 with
  | some e => q_wi g T rt d mc ms mv Q an sw (q_wp g T rt d mc ms mv Q an sw cu K0 i) k n e c
  | none => False
/-- a link to a method -/
def q_lkB (own : String) (idx : Nat) (y : MethodName) : Option Jvm.Cond → Bool
  | some (.methodLink o i z) => decide (o = own) && (decide (i = idx) && decide (z = y))
  | some (.methodLinkNest o i z _) => decide (o = own) && (decide (i = idx) && decide (z = y))
  | _ => false
theorem q_lkB_of {M : q_M} {idx : Nat} {y : MethodName} {w : Option Jvm.Cond} (h : q_lkB M.1.cls idx y w = true) : q_lk M idx y w := by
  unfold q_lkB at h
  split at h
  · simp only [Bool.and_eq_true, decide_eq_true_eq] at h
    obtain ⟨rfl, rfl, rfl⟩ := h
    exact Or.inl rfl
  · simp only [Bool.and_eq_true, decide_eq_true_eq] at h
    obtain ⟨rfl, rfl, rfl⟩ := h
    exact Or.inr ⟨_, rfl⟩
  · cases h
def q_anC : Nat → String
  | 6 => "HayBarnLaw$Bale"
  | 7 => "[I"
  | 8 => "java/lang/String"
  | _ => ""
/-- what is asked of an instruction once for all -/
def q_okC1 (own : String) (e : q_En) : Bool := match e with
  | (_, ins, _, a1, a2, w1, w2) => match ins with
    | .getfield _ => Nat.blt a1 15 && (!Nat.beq a1 13 || q_plain (q_gw w1 w2))
    | .new idx => (match q_nth vwCl a1 with
      | some c => decide (q_gw w1 w2 = some (.classLink own idx c.1)) && (Nat.ble 10 a1 && Nat.blt a1 15)
      | none => false)
    | .anewarray idx => decide (q_gw w1 w2 = some (.classLink own idx (q_anC a1)))
    | .ldc idx => (match a2 with
      | 2 => decide (own = "HayBarnLaw") && q_lit.any fun q => Nat.beq q.1 idx && Nat.beq q.2.2 a1
      | 0 => decide (q_gw w1 w2 = some (.constant own idx (q_li a1 0)))
      | 1 => decide (q_gw w1 w2 = some (.constant own idx (q_li a1 1)))
      | _ => false)
    | .invokestatic idx => (match q_mk a1 with
      | 0 => q_lkB own idx (q_mt a1).1 (q_gw w1 w2) && (Nat.beq a2 (q_mn a1) && Nat.blt a1 q_NJ)
      | 6 => decide (q_gw w1 w2 = some (.methodLink own idx Lib.Math.max.name))
      | 7 => decide (q_gw w1 w2 = some (.methodLink own idx Lib.Math.min.name))
      | _ => true)
    | .invokespecial idx => (match q_mk a1 with
      | 2 => q_lkB own idx (q_mt a1).1 (q_gw w1 w2) && (Nat.beq a2 (q_mn a1) && Nat.blt a1 q_NJ)
      | 4 => decide (q_gw w1 w2 = some (.methodLink own idx (q_mt a1).1)) && (Nat.beq a2 (q_mn a1) && (Nat.blt a1 q_NJ && decide (own = "java/lang/StringBuilder")))
      | 5 => decide (q_gw w1 w2 = some (.methodLink own idx Lib.objectInit)) && Nat.beq a2 0
      | _ => true)
    | .invokevirtual idx => (match q_mk a1 with
      | 1 => q_lkB own idx (q_mt a1).1 (q_gw w1 w2) && (Nat.beq a2 (q_mn a1) && Nat.blt a1 q_NJ)
      | 3 => decide (q_gw w1 w2 = some (.methodLink own idx (q_mx a1))) && (Nat.beq a2 (q_mn a1) && Nat.blt a1 q_NJ)
      | _ => true)
    | _ => true
def q_okC (M : q_M) : Bool := M.2.2.2.2.1.all (q_okC1 M.1.cls)
theorem q_nwI : ∀ a1, 10 ≤ a1 → a1 < 15 → ∀ c, vwCl[a1]? = some c → Jvm.Cond.instantiable c.1 c.2.2 ∈ q_tb ∧ Jvm.Cond.initialized c.1 ∈ q_tb := by
  intro a1 h1 h2 c hc
  match a1, h1, h2, hc with
  | 10, _, _, hc => cases hc; exact ⟨List.mem_filter.mpr ⟨by decide +kernel, rfl⟩, List.mem_filter.mpr ⟨by decide +kernel, rfl⟩⟩
  | 11, _, _, hc => cases hc; exact ⟨List.mem_filter.mpr ⟨by decide +kernel, rfl⟩, List.mem_filter.mpr ⟨by decide +kernel, rfl⟩⟩
  | 12, _, _, hc => cases hc; exact ⟨List.mem_filter.mpr ⟨by decide +kernel, rfl⟩, List.mem_filter.mpr ⟨by decide +kernel, rfl⟩⟩
  | 13, _, _, hc => cases hc; exact ⟨List.mem_filter.mpr ⟨by decide +kernel, rfl⟩, List.mem_filter.mpr ⟨by decide +kernel, rfl⟩⟩
  | 14, _, _, hc => cases hc; exact ⟨List.mem_filter.mpr ⟨by decide +kernel, rfl⟩, List.mem_filter.mpr ⟨by decide +kernel, rfl⟩⟩
  | a + 15, _, h2, _ => exact absurd h2 (by omega)
theorem q_newOK {own : String} {pc ln a1 a2 w1 w2 idx : Nat} (h : q_okC1 own (pc, .new idx, ln, a1, a2, w1, w2) = true) : ∃ (C : String) (T : u_T) (N : Nat), vwCl[a1]? = some (C, T, N) ∧ q_gw w1 w2 = some (.classLink own idx C) ∧ Jvm.Cond.instantiable C N ∈ q_tb ∧ Jvm.Cond.initialized C ∈ q_tb := by
  simp only [q_okC1] at h
  split at h
  · next c hc =>
    simp only [Bool.and_eq_true, decide_eq_true_eq] at h
    rw [q_nth_eq] at hc
    obtain ⟨h3, h4⟩ := q_nwI a1 (Nat.le_of_ble_eq_true h.2.1) (Nat.blt_eq.mp h.2.2) c hc
    exact ⟨c.1, c.2.1, c.2.2, hc, h.1, h3, h4⟩
  · cases h
section QWC
variable {g : q_G} {xt : List ExceptionTableEntry} {M : q_M} {d mc ms : Nat} {h0 : q_H} {mv : List Nat} {Q : q_Po} {k n p pc ln a1 a2 w1 w2 idx : Nat} {K : Nat → Nat → q_C → Prop} {ls : List (Option Value)} {st rest : List Value} {h : q_H} {b : Nat}
theorem q_ldcOK (hok : q_okB M = true) (he : q_nth M.2.2.2.2.1 p = some (pc, .ldc idx, ln, a1, a2, w1, w2)) (hoe : q_okC1 M.1.cls (pc, .ldc idx, ln, a1, a2, w1, w2) = true) (hK : ∀ k n c, K k n c → q_K g M xt d mc ms h0 mv Q k n c)
    (hw : match q_lc2 a1 a2 with
      | .inl x => K k n (p + 1, ls, .int x :: st, h)
      | .inr i => K k n (p + 1, ls, .ref i :: st, h)) : q_K g M xt d mc ms h0 mv Q k n (p, ls, st, h) := by
  simp only [q_okC1] at hoe
  match a2, hoe, hw with
  | 0, hoe, hw => exact k_o_ldcI hok he (of_decide_eq_true hoe) (hK _ _ _ hw)
  | 1, hoe, hw => exact k_o_ldcI hok he (of_decide_eq_true hoe) (hK _ _ _ hw)
  | 2, hoe, hw =>
    simp only [Bool.and_eq_true, decide_eq_true_eq, List.any_eq_true] at hoe
    obtain ⟨hM, q, hq, e1, e2⟩ := hoe
    have e1 := Nat.eq_of_beq_eq_true e1
    have e2 := Nat.eq_of_beq_eq_true e2
    obtain ⟨q1, q2, q3⟩ := q
    dsimp only at e1 e2
    subst e1 e2
    exact k_o_ldcS hok he hM hq (hK _ _ _ hw)
  | z + 3, hoe, hw => cases hoe
theorem q_mvs {mv2 mv : List Nat} (h : match mv2 with
    | [] => True
    | m => (∀ x ∈ m, x ∈ mv) ∧ (∀ i a, q_nth ls i = some (some (.ref a)) → a ∉ m) ∧ ∀ a, Value.ref a ∈ rest → a ∉ m) : (∀ x ∈ mv2, x ∈ mv) ∧ (∀ i a, q_nth ls i = some (some (.ref a)) → a ∉ mv2) ∧ ∀ a, Value.ref a ∈ rest → a ∉ mv2 := by
  cases mv2 with
  | nil => exact ⟨fun x hx => absurd hx List.not_mem_nil, fun _ _ _ => List.not_mem_nil, fun _ _ => List.not_mem_nil⟩
  | cons a t => exact h
theorem q_drop_eq {m : Nat} (hst : st.drop m = .ref b :: rest) : st = (st.take m).reverse.reverse ++ .ref b :: rest := by
  rw [List.reverse_reverse, ← hst, List.take_append_drop]
theorem q_wS (hok : q_okB M = true) (he : q_nth M.2.2.2.2.1 p = some (pc, .invokestatic idx, ln, a1, a2, w1, w2)) (hoe : q_okC1 M.1.cls (pc, .invokestatic idx, ln, a1, a2, w1, w2) = true) (hmk : q_mk a1 = 0) (hcat : ((st.drop a2).map fun v => v.category).sum ≤ 8) (hlen : (st.take a2).length = a2) (hK : ∀ k n c, K k n c → q_K g M xt d mc ms h0 mv Q k n c) {md : Nat}
    (hw : q_wcall g (q_mt a1) (q_mv a1) d mc ms mv (st.take a2).reverse (st.drop a2) ls h k n md p K) : q_K g M xt d mc ms h0 mv Q k n (p, ls, st, h) := by
  simp only [q_okC1, hmk, Bool.and_eq_true] at hoe
  obtain ⟨hl, hna, hj⟩ := hoe
  obtain ⟨hok2, hcs⟩ := q_cP_S (Nat.blt_eq.mp hj) hmk
  obtain ⟨d2, mc2, ms2, hd, hlc, hk, hn, hm, hr⟩ := hw
  obtain ⟨m1, m2, m3⟩ := q_mvs hm
  obtain ⟨P, hC, hP⟩ := q_wret_K hr
  have hla : (st.take a2).reverse.length = q_mn a1 := by rw [List.length_reverse, hlen]; exact Nat.eq_of_beq_eq_true hna
  refine k_callS hok hok2 he (q_lkB_of hl) (by rw [hla]; exact hcs) hC hd hlc hk hn hcat m1 m2 m3 (by rw [List.reverse_reverse, List.take_append_drop]) (fun v h' hq => ?_) (fun E h' hq => ?_)
  · obtain ⟨v', e, hp⟩ := hq; cases e; exact hK _ _ _ (hP v h' hp)
  · obtain ⟨v', e, -⟩ := hq; cases e
theorem q_wN (hok : q_okB M = true) (he : q_nth M.2.2.2.2.1 p = some (pc, .invokespecial idx, ln, a1, a2, w1, w2)) (hoe : q_okC1 M.1.cls (pc, .invokespecial idx, ln, a1, a2, w1, w2) = true) (hmk : q_mk a1 = 2) (hst : st.drop a2 = .ref b :: rest) (hcat : (rest.map fun v => v.category).sum ≤ 8) (hlen : (st.take a2).length = a2) (hK : ∀ k n c, K k n c → q_K g M xt d mc ms h0 mv Q k n c)
    (hw : q_wcall g (q_mt a1) [] d mc ms mv (.ref b :: (st.take a2).reverse) rest ls h k n 0 p K) : q_K g M xt d mc ms h0 mv Q k n (p, ls, st, h) := by
  simp only [q_okC1, hmk, Bool.and_eq_true] at hoe
  obtain ⟨hl, hna, hj⟩ := hoe
  obtain ⟨hok2, hcs, hret⟩ := q_cP_I (Nat.blt_eq.mp hj) hmk
  obtain ⟨d2, mc2, ms2, hd, hlc, hk, hn, hm, hr⟩ := hw
  obtain ⟨m1, m2, m3⟩ := q_mvs (ls := ls) (rest := rest) (mv := mv) (mv2 := []) trivial
  obtain ⟨P, hC, hP⟩ := q_wret_K hr
  have hla : (st.take a2).reverse.length = q_mn a1 := by rw [List.length_reverse, hlen]; exact Nat.eq_of_beq_eq_true hna
  refine k_callI hok hok2 he (q_lkB_of hl) (by rw [hla]; exact hcs) hret hC hd hlc hk hn hcat m1 m2 m3 (q_drop_eq hst) (fun v h' hq => ?_) (fun E h' hq => ?_)
  · obtain ⟨v', e, hp⟩ := hq; cases e; exact hK _ _ _ (hP v h' hp)
  · obtain ⟨v', e, -⟩ := hq; cases e
theorem q_wO (hd1 : 1 ≤ d) (hok : q_okB M = true) (he : q_nth M.2.2.2.2.1 p = some (pc, .invokespecial idx, ln, a1, a2, w1, w2)) (hoe : q_okC1 M.1.cls (pc, .invokespecial idx, ln, a1, a2, w1, w2) = true) (hmk : q_mk a1 = 5) (hst : st.drop a2 = .ref b :: rest) (hcat : (rest.map fun v => v.category).sum ≤ 8) (hlen : (st.take a2).length = a2)
    (hw : q_K g M xt d mc ms h0 mv Q k n (p + 1, ls, rest, h)) : q_K g M xt d mc ms h0 mv Q k n (p, ls, st, h) := by
  simp only [q_okC1, hmk, Bool.and_eq_true, decide_eq_true_eq] at hoe
  obtain ⟨hl, hna⟩ := hoe
  obtain rfl := Nat.eq_of_beq_eq_true hna
  have hst : st = .ref b :: rest := hst
  rw [hst]
  exact k_o_objInit hok he hl hd1 hcat hw
theorem q_wV (hok : q_okB M = true) (he : q_nth M.2.2.2.2.1 p = some (pc, .invokevirtual idx, ln, a1, a2, w1, w2)) (hoe : q_okC1 M.1.cls (pc, .invokevirtual idx, ln, a1, a2, w1, w2) = true) (hmk : q_mk a1 = 1) (hst : st.drop a2 = .ref b :: rest) (hcat : (rest.map fun v => v.category).sum ≤ 8) (hlen : (st.take a2).length = a2) (hb : 400 ≤ b ∧ q_sh h b = (0, q_mc a1, 0)) (hK : ∀ k n c, K k n c → q_K g M xt d mc ms h0 mv Q k n c) {md : Nat}
    (hw : q_wcall g (q_mt a1) (q_mv a1) d mc ms mv (.ref b :: (st.take a2).reverse) rest ls h k n md p K) : q_K g M xt d mc ms h0 mv Q k n (p, ls, st, h) := by
  simp only [q_okC1, hmk, Bool.and_eq_true] at hoe
  obtain ⟨hl, hna, hj⟩ := hoe
  obtain ⟨hok2, hcs, T, N, hcl⟩ := q_cP_V (Nat.blt_eq.mp hj) hmk
  obtain ⟨d2, mc2, ms2, hd, hlc, hk, hn, hm, hr⟩ := hw
  obtain ⟨m1, m2, m3⟩ := q_mvs hm
  obtain ⟨P, hC, hP⟩ := q_wret_K hr
  have hla : (st.take a2).reverse.length = q_mn a1 := by rw [List.length_reverse, hlen]; exact Nat.eq_of_beq_eq_true hna
  refine k_callV hok hok2 he (q_lkB_of hl) (by rw [hla]; exact hcs) hb.1 hb.2 hcl rfl hC hd hlc hk hn hcat m1 m2 m3 (q_drop_eq hst) (fun v h' hq => ?_) (fun E h' hq => ?_)
  · obtain ⟨v', e, hp⟩ := hq; cases e; exact hK _ _ _ (hP v h' hp)
  · obtain ⟨v', e, -⟩ := hq; cases e
theorem q_wX (hok : q_okB M = true) (he : q_nth M.2.2.2.2.1 p = some (pc, .invokevirtual idx, ln, a1, a2, w1, w2)) (hoe : q_okC1 M.1.cls (pc, .invokevirtual idx, ln, a1, a2, w1, w2) = true) (hmk : q_mk a1 = 1) (hst : st.drop a2 = .ref b :: rest) (hcat : (rest.map fun v => v.category).sum ≤ 8) (hlen : (st.take a2).length = a2) (h13 : Nat.beq (q_mc a1) 13 = true) (hb : q_isStr b = true ∧ b < 300) (hK : ∀ k n c, K k n c → q_K g M xt d mc ms h0 mv Q k n c)
    (hw : q_wcall g (q_mt a1) [] d mc ms mv (.ref b :: (st.take a2).reverse) rest ls h k n 0 p K) : q_K g M xt d mc ms h0 mv Q k n (p, ls, st, h) := by
  simp only [q_okC1, hmk, Bool.and_eq_true] at hoe
  obtain ⟨hl, hna, hj⟩ := hoe
  obtain ⟨hok2, hcs, T, N, hcl⟩ := q_cP_V (Nat.blt_eq.mp hj) hmk
  rw [Nat.eq_of_beq_eq_true h13] at hcl
  have hcl : some ((RJ0, TJ0, 4) : vw_C) = some ((q_mt a1).1.cls, T, N) := hcl
  have hC2 : "java/lang/String" = (q_mt a1).1.cls := congrArg (fun c : vw_C => c.1) (Option.some.inj hcl)
  obtain ⟨d2, mc2, ms2, hd, hlc, hk, hn, hm, hr⟩ := hw
  obtain ⟨m1, m2, m3⟩ := q_mvs (ls := ls) (rest := rest) (mv := mv) (mv2 := []) trivial
  obtain ⟨P, hC, hP⟩ := q_wret_K hr
  have hla : (st.take a2).reverse.length = q_mn a1 := by rw [List.length_reverse, hlen]; exact Nat.eq_of_beq_eq_true hna
  refine k_callX hok hok2 he (q_lkB_of hl) (by rw [hla]; exact hcs) (Nat.lt_trans hb.2 (by decide)) (q_strO hb.1) hC2 hC hd hlc hk hn hcat m1 m2 m3 (q_drop_eq hst) (fun v h' hq => ?_) (fun E h' hq => ?_)
  · obtain ⟨v', e, hp⟩ := hq; cases e; exact hK _ _ _ (hP v h' hp)
  · obtain ⟨v', e, -⟩ := hq; cases e
theorem q_wU (hok : q_okB M = true) (he : q_nth M.2.2.2.2.1 p = some (pc, .invokevirtual idx, ln, a1, a2, w1, w2)) (hoe : q_okC1 M.1.cls (pc, .invokevirtual idx, ln, a1, a2, w1, w2) = true) (hmk : q_mk a1 = 3) (hst : st.drop a2 = .ref b :: rest) (hcat : (rest.map fun v => v.category).sum ≤ 8) (hlen : (st.take a2).length = a2) (hb : 400 ≤ b ∧ q_sh h b = (0, 14, 0)) (hK : ∀ k n c, K k n c → q_K g M xt d mc ms h0 mv Q k n c) {md : Nat}
    (hw : q_wcall g (q_mt a1) [] d mc ms mv (.ref b :: (st.take a2).reverse) rest ls h k n md p K) : q_K g M xt d mc ms h0 mv Q k n (p, ls, st, h) := by
  simp only [q_okC1, hmk, Bool.and_eq_true, decide_eq_true_eq] at hoe
  obtain ⟨hl, hna, hj⟩ := hoe
  obtain ⟨hok2, hcs⟩ := q_cP_U (Nat.blt_eq.mp hj) hmk
  obtain ⟨d2, mc2, ms2, hd, hlc, hk, hn, hm, hr⟩ := hw
  obtain ⟨m1, m2, m3⟩ := q_mvs (ls := ls) (rest := rest) (mv := mv) (mv2 := []) trivial
  obtain ⟨P, hC, hP⟩ := q_wret_K hr
  have hla : (st.take a2).reverse.length = q_mn a1 := by rw [List.length_reverse, hlen]; exact Nat.eq_of_beq_eq_true hna
  refine k_callU hok hok2 he hl (by rw [hla]; exact hcs) hb.1 hb.2 hC hd hlc hk hn hcat m1 m2 m3 (q_drop_eq hst) (fun v h' hq => ?_) (fun E h' hq => ?_)
  · obtain ⟨v', e, hp⟩ := hq; cases e; exact hK _ _ _ (hP v h' hp)
  · obtain ⟨v', e, -⟩ := hq; cases e
theorem q_wSU (hok : q_okB M = true) (he : q_nth M.2.2.2.2.1 p = some (pc, .invokespecial idx, ln, a1, a2, w1, w2)) (hoe : q_okC1 M.1.cls (pc, .invokespecial idx, ln, a1, a2, w1, w2) = true) (hmk : q_mk a1 = 4) (hst : st.drop a2 = .ref b :: rest) (hcat : (rest.map fun v => v.category).sum ≤ 8) (hlen : (st.take a2).length = a2) (hb : 400 ≤ b ∧ q_sh h b = (0, 14, 0)) (hK : ∀ k n c, K k n c → q_K g M xt d mc ms h0 mv Q k n c)
    (hw : q_wcall g (q_mt a1) [] d mc ms mv (.ref b :: (st.take a2).reverse) rest ls h k n 0 p K) : q_K g M xt d mc ms h0 mv Q k n (p, ls, st, h) := by
  simp only [q_okC1, hmk, Bool.and_eq_true, decide_eq_true_eq] at hoe
  obtain ⟨hl, hna, hj, hown⟩ := hoe
  obtain ⟨hok2, hcs⟩ := q_cP_SU (Nat.blt_eq.mp hj) hmk
  obtain ⟨d2, mc2, ms2, hd, hlc, hk, hn, hm, hr⟩ := hw
  obtain ⟨m1, m2, m3⟩ := q_mvs (ls := ls) (rest := rest) (mv := mv) (mv2 := []) trivial
  obtain ⟨P, hC, hP⟩ := q_wret_K hr
  have hla : (st.take a2).reverse.length = q_mn a1 := by rw [List.length_reverse, hlen]; exact Nat.eq_of_beq_eq_true hna
  refine k_callSU hok hok2 he hl (by rw [hla]; exact hcs) hown hb.1 hb.2 hC hd hlc hk hn hcat m1 m2 m3 (q_drop_eq hst) (fun v h' hq => ?_) (fun E h' hq => ?_)
  · obtain ⟨v', e, hp⟩ := hq; cases e; exact hK _ _ _ (hP v h' hp)
  · obtain ⟨v', e, -⟩ := hq; cases e
end QWC
section QWP
variable {g : q_G} {xt : List ExceptionTableEntry} {M : q_M} {d mc ms : Nat} {h0 : q_H} {mv : List Nat} {Q : q_Po} {k n : Nat} {an : List (Nat × Nat)} {sw : List (Nat × Nat × List Nat)} {K : Nat → Nat → q_C → Prop} {e : q_En} {c : q_C}
theorem q_sm31 {L : Nat} (h : q_s16 L) : L < 2147483648 := Nat.lt_trans h (by decide)
theorem q_mask_sub : ∀ (bs : List Bool) (ls : List (Option Value)), q_sub (q_mask bs ls) ls
  | [], [] => trivial
  | [], none :: t => (q_mask_sub [] t : q_sub t t)
  | [], some v :: t => ⟨rfl, (q_mask_sub [] t : q_sub t t)⟩
  | _ :: _, [] => trivial
  | true :: bs, none :: t => (q_mask_sub bs t : q_sub (q_mask bs t) t)
  | true :: bs, some v :: t => ⟨rfl, q_mask_sub bs t⟩
  | false :: bs, none :: t => (q_mask_sub bs t : q_sub (q_mask bs t) t)
  | false :: bs, some v :: t => (q_mask_sub bs t : q_sub (q_mask bs t) t)
theorem q_swc_at {K' : Nat → Prop} {x : Int32} : ∀ (tg : List Nat) (lo : Int), q_swc K' x lo tg → ∀ i t, q_nth tg i = some t → x.toInt = lo + (i : Int) → K' t
  | [], _, _, i, t, h, _ => by cases h
  | a :: ts, lo, hs, 0, t, h, hx => by
    cases h
    exact hs.1 (by omega)
  | a :: ts, lo, hs, i + 1, t, h, hx => q_swc_at ts (lo + 1) hs.2 i t h (by omega)
/-- what the tables say of the instruction -/
theorem q_okC_at (hoc : q_okC M = true) {i : Nat} (he : q_nth M.2.2.2.2.1 i = some e) : q_okC1 M.1.cls e = true := by
  unfold q_okC at hoc
  rw [q_nth_eq] at he
  exact List.all_eq_true.mp hoc e (List.mem_of_getElem? he)
theorem q_take_rev {st : List Value} {m : Nat} : (st.take m).reverse.reverse = st.take m := List.reverse_reverse _
set_option maxHeartbeats 8000000 in
theorem q_wi_K (hd1 : 1 ≤ d) (hok : q_okB M = true) (hoe : q_okC1 M.1.cls e = true) (hK : ∀ k n c, K k n c → q_K g M xt d mc ms h0 mv Q k n c) (he : q_nth M.2.2.2.2.1 c.1 = some e) (hw : q_wi g M.2.2.2.2.1 M.2.2.2.1 d mc ms mv Q an sw K k n e c) : q_K g M xt d mc ms h0 mv Q k n c := by
  obtain ⟨pc, ins, ln, a1, a2, w1, w2⟩ := e
  obtain ⟨p, ls, st, h⟩ := c
  have he : q_nth M.2.2.2.2.1 p = some (pc, ins, ln, a1, a2, w1, w2) := he
  unfold q_wi at hw
  dsimp only at hw
  split at hw
  -- ifCond
  · split at hw
    · split at hw
      · exact k_o_if_eq hok he (fun z => hK _ _ _ (hw.1 z)) (fun z => hK _ _ _ (hw.2 z))
      · exact k_o_if_ne hok he (fun z => hK _ _ _ (hw.1 z)) (fun z => hK _ _ _ (hw.2 (Classical.not_not.mp z)))
      · exact k_o_if_lt hok he (fun z => hK _ _ _ (hw.1 z)) (fun z => hK _ _ _ (hw.2 z))
      · exact k_o_if_ge hok he (fun z => hK _ _ _ (hw.1 z)) (fun z => hK _ _ _ (hw.2 z))
      · exact k_o_if_gt hok he (fun z => hK _ _ _ (hw.1 z)) (fun z => hK _ _ _ (hw.2 z))
      · exact k_o_if_le hok he (fun z => hK _ _ _ (hw.1 z)) (fun z => hK _ _ _ (hw.2 z))
    · cases hw
  -- if_icmp
  · split at hw
    · split at hw
      · exact k_o_icmp_eq hok he (fun z => hK _ _ _ (hw.1 z)) (fun z => hK _ _ _ (hw.2 z))
      · exact k_o_icmp_ne hok he (fun z => hK _ _ _ (hw.1 z)) (fun z => hK _ _ _ (hw.2 (Classical.not_not.mp z)))
      · exact k_o_icmp_lt hok he (fun z => hK _ _ _ (hw.1 z)) (fun z => hK _ _ _ (hw.2 z))
      · exact k_o_icmp_ge hok he (fun z => hK _ _ _ (hw.1 z)) (fun z => hK _ _ _ (hw.2 z))
      · exact k_o_icmp_gt hok he (fun z => hK _ _ _ (hw.1 z)) (fun z => hK _ _ _ (hw.2 z))
      · exact k_o_icmp_le hok he (fun z => hK _ _ _ (hw.1 z)) (fun z => hK _ _ _ (hw.2 z))
    · cases hw
  -- if_acmp
  · split at hw
    · next y x r =>
      obtain ⟨hx, hy, hw⟩ := hw
      split at hw
      · exact k_o_acmpD_eq (x := some x) (y := some y) hok he (fun b hb => by cases hb; exact hx) (fun b hb => by cases hb; exact hy) (fun z => hK _ _ _ (hw.1 (Option.some.inj z))) (fun z => hK _ _ _ (hw.2 (fun z2 => z (by rw [z2]))))
      · exact k_o_acmpD_ne (x := some x) (y := some y) hok he (fun b hb => by cases hb; exact hx) (fun b hb => by cases hb; exact hy) (fun z => hK _ _ _ (hw.1 (fun z2 => z (by rw [z2])))) (fun z => hK _ _ _ (hw.2 (Option.some.inj z)))
    · next x r =>
      obtain ⟨hx, hw⟩ := hw
      split at hw
      · exact k_o_acmpD_eq (x := some x) (y := none) hok he (fun b hb => by cases hb; exact hx) (fun b hb => by cases hb) (fun z => by cases z) (fun z => hK _ _ _ hw)
      · exact k_o_acmpD_ne (x := some x) (y := none) hok he (fun b hb => by cases hb; exact hx) (fun b hb => by cases hb) (fun z => hK _ _ _ hw) (fun z => by cases z)
    · next y r =>
      obtain ⟨hy, hw⟩ := hw
      split at hw
      · exact k_o_acmpD_eq (x := none) (y := some y) hok he (fun b hb => by cases hb) (fun b hb => by cases hb; exact hy) (fun z => by cases z) (fun z => hK _ _ _ hw)
      · exact k_o_acmpD_ne (x := none) (y := some y) hok he (fun b hb => by cases hb) (fun b hb => by cases hb; exact hy) (fun z => hK _ _ _ hw) (fun z => by cases z)
    · cases hw
  -- tableswitch
  · split at hw
    · split at hw
      · next hsw => exact k_o_sw (q_swf sw p).2 hok he hsw (fun i t hi hx => hK _ _ _ (q_swc_at _ _ hw.1 i t hi hx)) (fun hx => hK _ _ _ (hw.2 hx))
      · cases hw
    · cases hw
  -- idiv
  · split at hw
    · exact k_o_idiv hok he hw.1 (hK _ _ _ hw.2)
    · cases hw
  -- irem
  · split at hw
    · exact k_o_irem hok he hw.1 (hK _ _ _ hw.2)
    · cases hw
  -- ishl
  · split at hw
    · exact k_o_ishl hok he (hK _ _ _ hw)
    · cases hw
  -- i2d
  · split at hw
    · exact k_o_i2d hok he (hK _ _ _ hw)
    · cases hw
  -- dconst
  · split at hw
    · exact k_o_dconst0 hok he (hK _ _ _ hw)
    · cases hw
  -- ddiv
  · split at hw
    · exact k_o_ddiv hok he hw.1 (hK _ _ _ hw.2)
    · cases hw
  -- getfield
  · split at hw
    · next idx a r =>
      simp only [q_okC1, Bool.and_eq_true, Bool.or_eq_true] at hoe
      have hci : a1 < 15 := Nat.blt_eq.mp hoe.1
      split at hw
      · obtain ⟨hst, h13, hw⟩ := hw
        obtain rfl := Nat.eq_of_beq_eq_true h13
        have hpl : q_plain (q_gw w1 w2) = true := hoe.2.resolve_left (by decide)
        have ho := (q_atB hok he).2.2.2
        simp only [q_ok2, Bool.or_eq_true, decide_eq_true_eq] at ho
        split at hw
        · have ho := ho.resolve_left (by decide)
          have hf : q_fld 13 0 = some ("java/lang/String", "value", "[B", true) := rfl
          rw [hf] at ho
          rcases q_isF_of ho with hl | ⟨host, hl⟩
          · exact k_o_xvalue hok he hst.1 hst.2 hl (hK _ _ _ hw)
          · rw [hl] at hpl; cases hpl
        · have ho := ho.resolve_left (by decide)
          have hf : q_fld 13 1 = some ("java/lang/String", "coder", "B", true) := rfl
          rw [hf] at ho
          rcases q_isF_of ho with hl | ⟨host, hl⟩
          · exact k_o_xcoder hok he hst.1 hst.2 hl (hK _ _ _ hw)
          · rw [hl] at hpl; cases hpl
        · cases hw
      · obtain ⟨⟨ha, hsh⟩, hw⟩ := hw
        split at hw
        · next hkd => exact k_o_getI hok he ha hsh hci hkd (hK _ _ _ hw)
        · next hkd =>
          refine k_o_getR hok he ha hsh hci hkd ?_
          split at hw
          · obtain ⟨b, hb, hw⟩ := hw
            rw [hb]; exact hK _ _ _ hw
          · cases hq : q_R h a a2 with
            | none => exact hK _ _ _ (hw.2 hq)
            | some b => exact hK _ _ _ (hw.1 b hq)
        · next hkd => exact k_o_getZ hok he ha hsh hci (Or.inl hkd) (hK _ _ _ hw)
        · next hkd => exact k_o_getZ hok he ha hsh hci (Or.inr hkd) (hK _ _ _ hw)
        · cases hw
    · cases hw
  -- putfield
  · split at hw
    · obtain ⟨⟨ha, hsh⟩, hw⟩ := hw
      split at hw
      · next hkd => exact k_o_putI hok he ha hsh (by decide) hkd (hK _ _ _ hw)
      · next hkd => exact k_o_putZ hok he ha hsh (by decide) hkd hw.1 (hK _ _ _ hw.2)
      · next hkd => exact k_o_putB hok he ha hsh (by decide) hkd hw.1 (hK _ _ _ hw.2)
      · cases hw
    · obtain ⟨⟨ha, hsh⟩, hw⟩ := hw
      split at hw
      · next hkd => exact k_o_putR hok he ha hsh (by decide) hkd (hK _ _ _ hw)
      · cases hw
    · obtain ⟨⟨ha, hsh⟩, hw⟩ := hw
      split at hw
      · next hkd => exact k_o_putN hok he ha hsh (by decide) hkd (hK _ _ _ hw)
      · cases hw
    · cases hw
  -- getstatic
  · split at hw
    · cases hw
    · split at hw
      · next hb => exact k_o_gets hok he (Nat.blt_eq.mp hb) (hK _ _ _ hw)
      · cases hw
  -- arraylength
  · split at hw
    · split at hw
      · obtain ⟨rfl, hw⟩ := hw; exact k_o_xlen52 hok he (hK _ _ _ hw)
      · obtain ⟨b, rfl, hb, hw⟩ := hw; exact k_o_xslen hok he hb.1 hb.2 (hK _ _ _ hw)
      · obtain ⟨L, ⟨ha, hs⟩, hw⟩ := hw; exact k_o_alenI hok he ha hs (hK _ _ _ hw)
      · obtain ⟨L, ⟨ha, hs⟩, hw⟩ := hw; exact k_o_alenB hok he ha hs (hK _ _ _ hw)
      · obtain ⟨L, ⟨ha, hs⟩, hw⟩ := hw; exact k_o_alenZ hok he ha hs (hK _ _ _ hw)
      · obtain ⟨L, ⟨ha, hs⟩, hw⟩ := hw; exact k_o_alenBale hok he ha hs (hK _ _ _ hw)
      · obtain ⟨L, ⟨ha, hs⟩, hw⟩ := hw; exact k_o_alenRow hok he ha hs (hK _ _ _ hw)
      · obtain ⟨L, ⟨ha, hs⟩, hw⟩ := hw; exact k_o_alenStr hok he ha hs (hK _ _ _ hw)
      · cases hw
    · cases hw
  -- iaload
  · split at hw
    · split at hw
      · obtain ⟨j, rfl, hi, hj, hw⟩ := hw; exact k_o_xscr hok he hi hj.1 hj.2 (hK _ _ _ hw)
      · obtain ⟨j, L, hi, ⟨ha, hs, hj, hL⟩, hw⟩ := hw; exact k_o_iald hok he ha hs hi hj (q_sm31 hL) (hK _ _ _ hw)
    · cases hw
  -- baload
  · split at hw
    · split at hw
      · obtain ⟨j, rfl, hi, hj, hw⟩ := hw; exact k_o_xdig51 hok he hi hj (hK _ _ _ hw)
      · obtain ⟨j, rfl, hi, hj, hw⟩ := hw; exact k_o_xdig53 hok he hi hj (hK _ _ _ hw)
      · obtain ⟨b, j, rfl, hb, hi, hj, hw⟩ := hw; exact k_o_xsbyte hok he hb.1 hb.2 hi hj (Nat.lt_trans (q_str_at hb.2).1 (by decide)) (hK _ _ _ hw)
      · obtain ⟨j, L, hi, ⟨ha, hs, hj, hL⟩, hw⟩ := hw; exact k_o_zald hok he ha hs hi hj (q_sm31 hL) (hK _ _ _ hw)
      · obtain ⟨j, L, hi, ⟨ha, hs, hj, hL⟩, hw⟩ := hw; exact k_o_bald hok he ha hs hi hj (q_sm31 hL) (hK _ _ _ hw)
    · cases hw
  -- aaload
  · split at hw
    · split at hw
      · obtain ⟨j, L, hi, ⟨ha, hs, hj, hL⟩, b, hb, hw⟩ := hw
        refine k_o_aaldBale hok he ha hs hi hj (q_sm31 hL) ?_
        rw [hb]; exact hK _ _ _ hw
      · obtain ⟨j, L, hi, ⟨ha, hs, hj, hL⟩, hw⟩ := hw
        refine k_o_aaldBale hok he ha hs hi hj (q_sm31 hL) ?_
        cases hq : q_R h _ j with
        | none => exact hK _ _ _ (hw.2 hq)
        | some b => exact hK _ _ _ (hw.1 b hq)
      · obtain ⟨j, L, hi, ⟨ha, hs, hj, hL⟩, b, hb, hw⟩ := hw
        refine k_o_aaldRow hok he ha hs hi hj (q_sm31 hL) ?_
        rw [hb]; exact hK _ _ _ hw
      · obtain ⟨j, L, hi, ⟨ha, hs, hj, hL⟩, b, hb, hw⟩ := hw
        refine k_o_aaldStr hok he ha hs hi hj (q_sm31 hL) ?_
        rw [hb]; exact hK _ _ _ hw
      · cases hw
    · cases hw
  -- iastore
  · split at hw
    · obtain ⟨j, L, hi, ⟨ha, hs, hj, hL⟩, hw⟩ := hw; exact k_o_iast hok he ha hs hi hj (q_sm31 hL) (hK _ _ _ hw)
    · cases hw
  -- bastore
  · split at hw
    · split at hw
      · obtain ⟨j, L, hi, ⟨ha, hs, hj, hL⟩, hw⟩ := hw; exact k_o_zast hok he ha hs hi hj (q_sm31 hL) (hK _ _ _ hw)
      · obtain ⟨j, L, hi, ⟨ha, hs, hj, hL⟩, hw⟩ := hw
        refine k_o_bast hok he ha hs hi hj (q_sm31 hL) ?_
        rw [vp_nar_byte]
        exact hK _ _ _ hw
    · cases hw
  -- aastore
  · split at hw
    · split at hw
      · obtain ⟨j, L, hi, ⟨ha, hs, hj, hL⟩, ⟨hb, hbs⟩, hw⟩ := hw; exact k_o_aastBale (cb := 0) (vb := 0) hok he ha hs hi hj (q_sm31 hL) hb hbs (hK _ _ _ hw)
      · obtain ⟨j, L, hi, ⟨ha, hs, hj, hL⟩, ⟨L2, hb, hbs⟩, hw⟩ := hw; exact k_o_aastRow (L2 := L2) hok he ha hs hi hj (q_sm31 hL) hb hbs (hK _ _ _ hw)
      · obtain ⟨j, L, hi, ⟨ha, hs, hj, hL⟩, hb, hw⟩ := hw
        rcases hb with ⟨hb, hbs⟩ | ⟨hb, hbs⟩
        · exact k_o_aastStr (cb := 0) (vb := 0) hok he ha hs hi hj (q_sm31 hL) hb hbs (hK _ _ _ hw)
        · exact k_o_aastStrC hok he ha hs hi hj (q_sm31 hL) hb hbs (hK _ _ _ hw)
      · cases hw
    · split at hw
      · obtain ⟨j, L, hi, ⟨ha, hs, hj, hL⟩, hw⟩ := hw; exact k_o_aastN hok he ha hs hi hj (q_sm31 hL) (hK _ _ _ hw)
      · cases hw
    · cases hw
  -- newarray
  · split at hw
    · split at hw
      · obtain ⟨L, hi, hL, hr, hw⟩ := hw; exact k_o_newarrI hok he hi hL hr.1 hr.2 (hK _ _ _ hw)
      · obtain ⟨L, hi, hL, hr, hw⟩ := hw; exact k_o_newarrB hok he hi hL hr.1 hr.2 (hK _ _ _ hw)
      · obtain ⟨L, hi, hL, hr, hw⟩ := hw; exact k_o_newarrZ hok he hi hL hr.1 hr.2 (hK _ _ _ hw)
      · cases hw
    · cases hw
  -- anewarray
  · simp only [q_okC1, decide_eq_true_eq] at hoe
    split at hw
    · split at hw
      · obtain ⟨L, hi, hL, hr, hw⟩ := hw; exact k_o_newqBale hok he hoe hi hL hr.1 hr.2 (hK _ _ _ hw)
      · obtain ⟨L, hi, hL, hr, hw⟩ := hw; exact k_o_newqRow hok he hoe hi hL hr.1 hr.2 (hK _ _ _ hw)
      · obtain ⟨L, hi, hL, hr, hw⟩ := hw; exact k_o_newqStr hok he hoe hi hL hr.1 hr.2 (hK _ _ _ hw)
      · cases hw
    · cases hw
  -- new
  · obtain ⟨hr, hw⟩ := hw
    obtain ⟨C, T, N, e1, e2, e3, e4⟩ := q_newOK hoe
    have hnf : q_nf a1 = N := by unfold q_nf; rw [q_nth_eq, e1]
    rw [hnf] at hr hw
    exact k_o_new hok he e2 e1 e3 e4 hr.1 hr.2 (hK _ _ _ hw)
  -- ldc
  · exact q_ldcOK hok he hoe hK hw
  -- ireturn
  · split at hw
    · split at hw
      · next hrt => exact k_o_iret hok he hrt hw.1 hw.2.1.1 hw.2.1.2 hw.2.2
      · cases hw
    · cases hw
  -- areturn
  · split at hw
    · split at hw
      · next hrt =>
        unfold q_isR at hrt
        split at hrt
        · cases hrt
        · next hr2 => exact k_o_aret hok he hr2 hw.1.1 hw.1.2 hw.2
        · next hr2 => exact k_o_aretA hok he hr2 hw.1.1 hw.1.2 hw.2
        · cases hrt
        · cases hrt
        · cases hrt
      · cases hw
    · cases hw
  -- return
  · split at hw
    · split at hw
      · next hrt =>
        unfold q_isR at hrt
        split at hrt
        · next hr2 => exact k_o_vret hok he hr2 hw.1.1 hw.1.2 hw.2
        · cases hrt
        · cases hrt
        · cases hrt
        · cases hrt
        · cases hrt
      · cases hw
    · cases hw
  -- invokestatic
  · split at hw
    · next hmk =>
      split at hw
      · next hcat hlen => exact q_wS hok he hoe hmk (Nat.le_of_ble_eq_true hcat) (Nat.eq_of_beq_eq_true hlen) hK hw
      · cases hw
    · next hmk =>
      simp only [q_okC1, hmk, decide_eq_true_eq] at hoe
      split at hw
      · split at hw
        · next hcat => exact k_o_mmax hok he hoe hd1 (Nat.le_of_ble_eq_true hcat) hw.1.1 hw.1.2 (hK _ _ _ hw.2)
        · cases hw
      · cases hw
    · next hmk =>
      simp only [q_okC1, hmk, decide_eq_true_eq] at hoe
      split at hw
      · split at hw
        · next hcat => exact k_o_mmin hok he hoe hd1 (Nat.le_of_ble_eq_true hcat) hw.1.1 hw.1.2 (hK _ _ _ hw.2)
        · cases hw
      · cases hw
    · cases hw
  -- invokespecial
  · split at hw
    · next b rest hst =>
      split at hw
      · next hcat hlen =>
        split at hw
        · next hmk => exact q_wN hok he hoe hmk hst (Nat.le_of_ble_eq_true hcat) (Nat.eq_of_beq_eq_true hlen) hK hw
        · next hmk => exact q_wSU hok he hoe hmk hst (Nat.le_of_ble_eq_true hcat) (Nat.eq_of_beq_eq_true hlen) hw.1 hK hw.2
        · next hmk => exact q_wO hd1 hok he hoe hmk hst (Nat.le_of_ble_eq_true hcat) (Nat.eq_of_beq_eq_true hlen) (hK _ _ _ hw)
        · cases hw
      · cases hw
    · cases hw
  -- invokevirtual
  · split at hw
    · next b rest hst =>
      split at hw
      · next hcat hlen =>
        split at hw
        · split at hw
          · next hmk => exact q_wX hok he hoe hmk hst (Nat.le_of_ble_eq_true hcat) (Nat.eq_of_beq_eq_true hlen) hw.1 hw.2.1 hK hw.2.2
          · cases hw
        · split at hw
          · next hmk => exact q_wV hok he hoe hmk hst (Nat.le_of_ble_eq_true hcat) (Nat.eq_of_beq_eq_true hlen) hw.1 hK hw.2
          · next hmk => exact q_wU hok he hoe hmk hst (Nat.le_of_ble_eq_true hcat) (Nat.eq_of_beq_eq_true hlen) hw.1 hK hw.2
          · cases hw
      · cases hw
    · cases hw
  -- the rest
  · split at hw
    · next c' hs => exact k_step_J hok he hs (hK _ _ _ hw)
    · cases hw
theorem q_wp_K {cu : List (Nat × List Bool)} {K0 : Nat → Nat → q_C → Prop} (hd1 : 1 ≤ d) (hok : q_okB M = true) (hoc : q_okC M = true) (hK : ∀ k n c, K0 k n c → q_K g M xt d mc ms h0 mv Q k n c) : ∀ (i k n : Nat) (c : q_C), q_wp g M.2.2.2.2.1 M.2.2.2.1 d mc ms mv Q an sw cu K0 i k n c → q_K g M xt d mc ms h0 mv Q k n c
  | 0, _, _, _, h => h.elim
  | i + 1, k, n, c, h => by
    unfold q_wp at h
    split at h
    · exact k_less (q_mask_sub _ _) (hK _ _ _ h)
    · split at h
      · next e he => exact q_wi_K hd1 hok (q_okC_at hoc he) (q_wp_K hd1 hok hoc hK i) he h
      · exact h.elim
theorem q_w1_K {cu : List (Nat × List Bool)} {K0 : Nat → Nat → q_C → Prop} (i : Nat) (hd1 : 1 ≤ d) (hok : q_okB M = true) (hoc : q_okC M = true) (hK : ∀ k n c, K0 k n c → q_K g M xt d mc ms h0 mv Q k n c) (h : q_w1 g M.2.2.2.2.1 M.2.2.2.1 d mc ms mv Q an sw cu K0 i k n c) : q_K g M xt d mc ms h0 mv Q k n c := by
  unfold q_w1 at h
  split at h
  · next e he => exact q_wi_K hd1 hok (q_okC_at hoc he) (q_wp_K hd1 hok hoc hK i) he h
  · exact h.elim
/-- the same where some instructions are never come to -/
def q_okD (M : q_M) (D : List Nat) : Bool := (List.range M.2.2.2.2.1.length).all fun i => D.contains i || (match q_nth M.2.2.2.2.1 i with
  | some e => q_okC1 M.1.cls e
  | none => true)
def q_cuD (cu : List (Nat × List Bool)) (D : List Nat) : Bool := D.all fun i => (q_cu cu i).isSome
theorem q_okD_at {D : List Nat} (hoc : q_okD M D = true) {i : Nat} (hi : i ∉ D) (he : q_nth M.2.2.2.2.1 i = some e) : q_okC1 M.1.cls e = true := by
  unfold q_okD at hoc
  have hl : i < M.2.2.2.2.1.length := by
    rw [q_nth_eq] at he
    exact (List.getElem?_eq_some_iff.mp he).1
  have h := List.all_eq_true.mp hoc i (List.mem_range.mpr hl)
  rw [he, Bool.or_eq_true] at h
  rcases h with h | h
  · exact absurd (List.contains_iff_mem.mp h) hi
  · exact h
theorem q_wpD_K {cu : List (Nat × List Bool)} {D : List Nat} {K0 : Nat → Nat → q_C → Prop} (hd1 : 1 ≤ d) (hok : q_okB M = true) (hoc : q_okD M D = true) (hcu : q_cuD cu D = true) (hK : ∀ k n c, K0 k n c → q_K g M xt d mc ms h0 mv Q k n c) : ∀ (i k n : Nat) (c : q_C), q_wp g M.2.2.2.2.1 M.2.2.2.1 d mc ms mv Q an sw cu K0 i k n c → q_K g M xt d mc ms h0 mv Q k n c
  | 0, _, _, _, h => h.elim
  | i + 1, k, n, c, h => by
    unfold q_wp at h
    split at h
    · exact k_less (q_mask_sub _ _) (hK _ _ _ h)
    · next hn =>
      split at h
      · next e he =>
        refine q_wi_K hd1 hok (q_okD_at hoc (fun hm => ?_) he) (q_wpD_K hd1 hok hoc hcu hK i) he h
        have h9 := List.all_eq_true.mp hcu _ hm
        rw [hn] at h9
        cases h9
      · exact h.elim
theorem q_w1D_K {cu : List (Nat × List Bool)} (D : List Nat) {K0 : Nat → Nat → q_C → Prop} (i : Nat) (hd1 : 1 ≤ d) (hok : q_okB M = true) (hoc : q_okD M D = true) (hcu : q_cuD cu D = true) (hs : c.1 ∉ D) (hK : ∀ k n c, K0 k n c → q_K g M xt d mc ms h0 mv Q k n c) (h : q_w1 g M.2.2.2.2.1 M.2.2.2.1 d mc ms mv Q an sw cu K0 i k n c) : q_K g M xt d mc ms h0 mv Q k n c := by
  unfold q_w1 at h
  split at h
  · next e he => exact q_wi_K hd1 hok (q_okD_at hoc hs he) (q_wpD_K hd1 hok hoc hcu hK i) he h
  · exact h.elim
end QWP
