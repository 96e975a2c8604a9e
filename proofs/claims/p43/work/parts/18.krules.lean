/-! rules over rows: calls, ends, rows of constants, what is padded -/
def q_bz (b : Bool) : Int32 := bif b then 1 else 0
theorem q_bz_nr (b : Bool) : narrow .boolean (.int (q_bz b)) = .int (q_bz b) := by cases b <;> rfl
def q_on {α β : Type} (o : Option α) (a : β) (f : α → β) : β := match o with
  | none => a
  | some x => f x
theorem q_on0 {α β : Type} {o : Option α} {a : Option β} {f : α → Option β} {r : β} (h : o = none) (hf : q_on o a f = some r) : a = some r := by subst h; exact hf
theorem q_on1 {α β : Type} {o : Option α} {a : Option β} {f : α → Option β} {r : β} {x : α} (h : o = some x) (hf : q_on o a f = some r) : f x = some r := by subst h; exact hf
def q_sm {α β γ : Type} (o : α ⊕ β) (f : α → γ) (k : β → γ) : γ := match o with
  | .inl x => f x
  | .inr y => k y
theorem q_sm0 {α β γ : Type} {o : α ⊕ β} {f : α → Option γ} {k : β → Option γ} {r : γ} {x : α} (h : o = .inl x) (hf : q_sm o f k = some r) : f x = some r := by subst h; exact hf
theorem q_sm1 {α β γ : Type} {o : α ⊕ β} {f : α → Option γ} {k : β → Option γ} {r : γ} {y : β} (h : o = .inr y) (hf : q_sm o f k = some r) : k y = some r := by subst h; exact hf
def q_oI (s : Int32 ⊕ String) : Option Value ⊕ String := q_sm s (fun v => .inl (some (.int v))) .inr
def q_oL (s : Int64 ⊕ String) : Option Value ⊕ String := q_sm s (fun v => .inl (some (.long v))) .inr
def q_oZ (s : Bool ⊕ String) : Option Value ⊕ String := q_sm s (fun v => .inl (some (.int (q_bz v)))) .inr
def q_oV (s : Unit ⊕ String) : Option Value ⊕ String := q_sm s (fun _ => .inl none) .inr
theorem q_oIl {s : Int32 ⊕ String} {v : Int32} (h : s = .inl v) : q_oI s = .inl (some (.int v)) := by subst h; rfl
theorem q_oIr {s : Int32 ⊕ String} {v : String} (h : s = .inr v) : q_oI s = .inr v := by subst h; rfl
theorem q_oZl {s : Bool ⊕ String} {v : Bool} (h : s = .inl v) : q_oZ s = .inl (some (.int (q_bz v))) := by subst h; rfl
theorem q_oZr {s : Bool ⊕ String} {v : String} (h : s = .inr v) : q_oZ s = .inr v := by subst h; rfl
theorem q_oVl {s : Unit ⊕ String} {v : Unit} (h : s = .inl v) : q_oV s = .inl none := by subst h; rfl
theorem q_oVr {s : Unit ⊕ String} {v : String} (h : s = .inr v) : q_oV s = .inr v := by subst h; rfl
def q_nz (y : Int32) : Option Unit := if y = 0 then none else some ()
theorem q_nz_ne {y : Int32} {u : Unit} (h : q_nz y = some u) : ¬ y = 0 := fun hy => by unfold q_nz at h; rw [if_pos hy] at h; cases h
def q_e49 (x : Nat) : Option Unit := if x < 49 then some () else none
theorem q_e49_lt {x : Nat} {u : Unit} (h : q_e49 x = some u) : x < 49 := by
  unfold q_e49 at h
  split at h
  · assumption
  · cases h
def q_t20 (x : Nat) : Option Unit := if x < 20 then some () else none
theorem q_t20_lt {x : Nat} {u : Unit} (h : q_t20 x = some u) : x < 20 := by
  unfold q_t20 at h
  split at h
  · assumption
  · cases h
def q_pad {α : Type} (I : Nat → α) : List Nat → List (Nat × α) → List (Nat × α)
  | [], l => l
  | a :: t, l => q_ins a (q_ws I l a) (q_pad I t l)
theorem q_ur_id {α : Type} (f : Nat → α) (a : Nat) : q_ur f a (f a) = f := by
  funext b
  by_cases h : b = a
  · subst h; rw [q_ur_s]
  · rw [q_ur_n _ _ _ h]
theorem q_pad_eq {α : Type} (I : Nat → α) (l : List (Nat × α)) : ∀ W : List Nat, q_ws I (q_pad I W l) = q_ws I l
  | [] => rfl
  | a :: t => by
    show q_ws I (q_ins a (q_ws I l a) (q_pad I t l)) = _
    rw [q_ws_ins, q_pad_eq I l t, q_ur_id]
theorem q_fin {α : Type} {I : Nat → α} {l l2 : List (Nat × α)} (W : List Nat) (h : q_pad I W l = l2) : q_ws I l = q_ws I l2 := by rw [← h, q_pad_eq]
/-- rows that go before others, both by their ids -/
def q_mg {α : Type} : Nat → List (Nat × α) → List (Nat × α) → List (Nat × α)
  | 0, l2, l => l2 ++ l
  | _ + 1, [], l => l
  | _ + 1, p :: t, [] => p :: t
  | n + 1, p :: t, q :: s => bif Nat.beq p.1 q.1 then p :: q_mg n t s else (bif Nat.blt p.1 q.1 then p :: q_mg n t (q :: s) else q :: q_mg n (p :: t) s)
def q_srB {α : Type} (a : Nat) : List (Nat × α) → Bool
  | [] => true
  | p :: t => Nat.blt a p.1 && q_srB p.1 t
def q_sr {α : Type} : List (Nat × α) → Bool
  | [] => true
  | p :: t => q_srB p.1 t
theorem q_srB_lt {α : Type} : ∀ {l : List (Nat × α)} {a b : Nat}, q_srB a l = true → b ≤ a → ∀ q ∈ l, b < q.1
  | [], _, _, _, _, q, hq => absurd hq List.not_mem_nil
  | p :: t, a, b, h, hb, q, hq => by
    simp only [q_srB, Bool.and_eq_true] at h
    have h1 := Nat.blt_eq.mp h.1
    rcases List.mem_cons.mp hq with rfl | hq
    · omega
    · exact q_srB_lt h.2 (by omega) q hq
theorem q_ws_com {α : Type} {J : Nat → α} {a : Nat} {v : α} : ∀ {l : List (Nat × α)}, (∀ q ∈ l, a ≠ q.1) → q_ws (q_ur J a v) l = q_ur (q_ws J l) a v
  | [], _ => rfl
  | p :: t, h => by
    show q_ur (q_ws (q_ur J a v) t) p.1 p.2 = q_ur (q_ur (q_ws J t) p.1 p.2) a v
    rw [q_ws_com (fun q hq => h q (List.mem_cons_of_mem _ hq)), q_ur_com _ (h p List.mem_cons_self)]
theorem q_ws_app {α : Type} {I : Nat → α} : ∀ (l2 l : List (Nat × α)), q_ws I (l2 ++ l) = q_ws (q_ws I l) l2
  | [], l => rfl
  | p :: t, l => by
    show q_ur (q_ws I (t ++ l)) p.1 p.2 = q_ur (q_ws (q_ws I l) t) p.1 p.2
    rw [q_ws_app t l]
theorem q_mg_ws {α : Type} {I : Nat → α} : ∀ (n : Nat) (l2 l : List (Nat × α)), q_sr l2 = true → q_ws I (q_mg n l2 l) = q_ws (q_ws I l) l2
  | 0, l2, l, _ => q_ws_app l2 l
  | n + 1, [], l, _ => rfl
  | n + 1, p :: t, [], _ => rfl
  | n + 1, p :: t, q :: s, h => by
    have ht : q_sr t = true := by
      cases t with
      | nil => rfl
      | cons a b =>
        have h : (Nat.blt p.1 a.1 && q_srB a.1 b) = true := h
        simp only [Bool.and_eq_true] at h
        exact h.2
    have hp : ∀ x ∈ t, p.1 < x.1 := q_srB_lt (a := p.1) h (Nat.le_refl _)
    unfold q_mg
    cases hb : Nat.beq p.1 q.1 with
    | true =>
      rw [cond_true]
      have hpq := Nat.eq_of_beq_eq_true hb
      show q_ur (q_ws I (q_mg n t s)) p.1 p.2 = q_ur (q_ws (q_ur (q_ws I s) q.1 q.2) t) p.1 p.2
      rw [q_mg_ws n t s ht, ← hpq, q_ws_com (fun x hx => Nat.ne_of_lt (hp x hx)), q_ur_ss]
    | false =>
      rw [cond_false]
      cases hb2 : Nat.blt p.1 q.1 with
      | true =>
        rw [cond_true]
        show q_ur (q_ws I (q_mg n t (q :: s))) p.1 p.2 = q_ur (q_ws (q_ws I (q :: s)) t) p.1 p.2
        rw [q_mg_ws n t (q :: s) ht]
      | false =>
        rw [cond_false]
        have hne : q.1 ≠ p.1 := fun e => by rw [e, q_beqS] at hb; cases hb
        have hlt : q.1 < p.1 := by
          rcases Nat.lt_or_ge p.1 q.1 with h1 | h1
          · rw [Nat.blt_eq.mpr h1] at hb2; cases hb2
          · omega
        show q_ur (q_ws I (q_mg n (p :: t) s)) q.1 q.2 = q_ws (q_ur (q_ws I s) q.1 q.2) (p :: t)
        rw [q_mg_ws n (p :: t) s h, q_ws_com (fun x hx => ?_)]
        rcases List.mem_cons.mp hx with rfl | hx
        · exact hne
        · have := hp x hx; omega
theorem q_mgw {α : Type} {I : Nat → α} {l2 l l' : List (Nat × α)} (hs : q_sr l2 = true) (h : q_mg 60 l2 l = l') : q_ws (q_ws I l) l2 = q_ws I l' := by rw [← h, q_mg_ws 60 l2 l hs]
def q_idl {α : Type} (I : Nat → α) : List Nat → List (Nat × α)
  | [] => []
  | a :: t => (a, I a) :: q_idl I t
theorem q_idl_ws {α : Type} {I : Nat → α} : ∀ W : List Nat, q_ws I (q_idl I W) = I
  | [] => rfl
  | a :: t => by
    show q_ur (q_ws I (q_idl I t)) a (I a) = I
    rw [q_idl_ws t, q_ur_id]
theorem q_pdw {α : Type} {I : Nat → α} {l l' : List (Nat × α)} (W : List Nat) (hs : q_sr l = true) (h : q_mg 60 l (q_idl I W) = l') : q_ws I l = q_ws I l' := by
  rw [← h, q_mg_ws 60 l _ hs, q_idl_ws]
theorem q_hpe {X : q_Am} {A A' : Nat → Nat → Int32} {B B' : Nat → Nat → Option Nat} (h1 : A = A') (h2 : B = B') : q_hp X A B = q_hp X A' B' := by rw [h1, h2]
/-- none of these ids is moved -/
def q_nmV (mv : List Nat) : Value → Bool
  | .ref a => mv.all fun x => !Nat.beq x a
  | _ => true
def q_nmL (mv : List Nat) : List (Option Value) → Bool
  | [] => true
  | some v :: t => q_nmV mv v && q_nmL mv t
  | none :: t => q_nmL mv t
def q_nmS (mv : List Nat) : List Value → Bool
  | [] => true
  | v :: t => q_nmV mv v && q_nmS mv t
theorem q_nmV_of {mv : List Nat} {a : Nat} (h : q_nmV mv (.ref a) = true) : a ∉ mv := fun hm => by
  have := List.all_eq_true.mp h a hm
  simp [q_beqS] at this
theorem q_nmL_of {mv : List Nat} : ∀ {ls : List (Option Value)}, q_nmL mv ls = true → ∀ i a, q_nth ls i = some (some (.ref a)) → a ∉ mv
  | [], _, i, a, h => by simp [q_nth] at h
  | some v :: t, h, 0, a, he => by
    simp only [q_nth, Option.some.injEq] at he
    subst he
    simp only [q_nmL, Bool.and_eq_true] at h
    exact q_nmV_of h.1
  | some v :: t, h, i + 1, a, he => by
    simp only [q_nmL, Bool.and_eq_true] at h
    exact q_nmL_of h.2 i a he
  | none :: t, h, 0, a, he => by simp [q_nth] at he
  | none :: t, h, i + 1, a, he => q_nmL_of (ls := t) h i a he
theorem q_nmS_of {mv : List Nat} : ∀ {st : List Value}, q_nmS mv st = true → ∀ a, Value.ref a ∈ st → a ∉ mv
  | [], _, a, h => absurd h List.not_mem_nil
  | v :: t, h, a, he => by
    simp only [q_nmS, Bool.and_eq_true] at h
    rcases List.mem_cons.mp he with h1 | h1
    · subst h1; exact q_nmV_of h.1
    · exact q_nmS_of h.2 a h1
theorem q_nmL0 : ∀ (ls : List (Option Value)), q_nmL [] ls = true
  | [] => rfl
  | some (.ref a) :: t => q_nmL0 t
  | some (.int a) :: t => q_nmL0 t
  | some (.long a) :: t => q_nmL0 t
  | some (.float a) :: t => q_nmL0 t
  | some (.double a) :: t => q_nmL0 t
  | some .null :: t => q_nmL0 t
  | some (.retAddr a) :: t => q_nmL0 t
  | none :: t => q_nmL0 t
theorem q_nmS0 : ∀ (ls : List Value), q_nmS [] ls = true
  | [] => rfl
  | .ref a :: t => q_nmS0 t
  | .int a :: t => q_nmS0 t
  | .long a :: t => q_nmS0 t
  | .float a :: t => q_nmS0 t
  | .double a :: t => q_nmS0 t
  | .null :: t => q_nmS0 t
  | .retAddr a :: t => q_nmS0 t
/-- ls' says no more than ls -/
def q_sub : List (Option Value) → List (Option Value) → Prop
  | [], [] => True
  | none :: t, _ :: t' => q_sub t t'
  | some v :: t, some w :: t' => v = w ∧ q_sub t t'
  | _, _ => False
theorem q_sub_of : ∀ {l' l : List (Option Value)}, q_sub l' l → l'.length = l.length ∧ ∀ i v, q_nth l' i = some (some v) → q_nth l i = some (some v)
  | [], [], _ => ⟨rfl, fun i v h => h⟩
  | none :: t, _ :: t', h => by
    obtain ⟨h1, h2⟩ := q_sub_of (l' := t) (l := t') h
    exact ⟨by simp [h1], fun i v hv => by cases i with | zero => simp [q_nth] at hv | succ i => exact h2 i v hv⟩
  | some v :: t, some w :: t', h => by
    obtain ⟨h1, h2⟩ := q_sub_of (l' := t) (l := t') h.2
    exact ⟨by simp [h1], fun i u hv => by cases i with | zero => rw [← h.1]; exact hv | succ i => exact h2 i u hv⟩
  | [], _ :: _, h => absurd h id
  | some _ :: _, [], h => absurd h id
  | some _ :: _, none :: _, h => absurd h id
  | none :: _, [], h => absurd h id
theorem q_sb0 : q_sub [] [] := trivial
theorem q_sb1 {v : Option Value} {t t' : List (Option Value)} (h : q_sub t t') : q_sub (none :: t) (v :: t') := h
theorem q_sb2 {v : Value} {t t' : List (Option Value)} (h : q_sub t t') : q_sub (some v :: t) (some v :: t') := ⟨rfl, h⟩
section QKRULES
variable {g : q_G} {M M2 : q_M} {d mc ms d2 mc2 ms2 : Nat} {h0 : q_H} {mv mv2 : List Nat} {Q : (Option Value ⊕ String) → q_H → Prop} {k n pos pos' pc ln a1 a2 w1 w2 a ci v idx L j b : Nat} {ls ls' : List (Option Value)} {r st st' As rest : List Value} {h : q_H}
variable {X X2 : q_Am} {I : Nat → Nat → Int32} {E : Nat → Nat → Option Nat} {lI lI' l2I : List (Nat × (Nat → Int32))} {lE lE' l2E : List (Nat × (Nat → Option Nat))} {i x : Int32}
theorem q_less (hs : q_sub ls' ls) (hJ : q_J g M d mc ms h0 mv Q k n (pos, ls', st, h)) : q_J g M d mc ms h0 mv Q k n (pos, ls, st, h) := by
  obtain ⟨hlen, hsub⟩ := q_sub_of hs
  intro p e s m args below meth cd D cA ρ0 ρ A H locs rls en hen hB hS
  obtain ⟨hK, hW, hVS, hX, hC, hst, hls, hlh, hag, hag2, hA, hnx0⟩ := id hS
  exact hJ p e s m args below meth cd D cA ρ0 ρ A H locs rls en hen hB ⟨hK, hW, hVS, hX, hC, hst, fun i v hv => hls i v (hsub i v hv), ⟨hlh.1, hlen.trans hlh.2.1, hlh.2.2.1, fun i v hv => hlh.2.2.2 i v (hsub i v hv)⟩, hag, hag2, hA, hnx0⟩
/-- more rows are named -/
theorem q_Jpad (hI : q_ws I lI = q_ws I lI') (hE : q_ws E lE = q_ws E lE') (hJ : q_J g M d mc ms h0 mv Q k n (q_kc X I E pos ls st lI' lE')) : q_J g M d mc ms h0 mv Q k n (q_kc X I E pos ls st lI lE) := by
  show q_J g M d mc ms h0 mv Q k n (pos, ls, st, q_hp X (q_ws I lI) (q_ws E lE))
  rw [hI, hE]
  exact hJ
/-- rows over rows -/
theorem q_Jmrg (hI : q_ws (q_ws I lI) l2I = q_ws I lI') (hE : q_ws (q_ws E lE) l2E = q_ws E lE') (hJ : q_J g M d mc ms h0 mv Q k n (q_kc X I E pos ls st lI' lE')) : q_J g M d mc ms h0 mv Q k n (q_kc X (q_ws I lI) (q_ws E lE) pos ls st l2I l2E) := by
  show q_J g M d mc ms h0 mv Q k n (pos, ls, st, q_hp X (q_ws (q_ws I lI) l2I) (q_ws (q_ws E lE) l2E))
  rw [hI, hE]
  exact hJ
/-- what a callee's heap is, over the caller's rows -/
theorem q_hmrg (hI : q_ws (q_ws I lI) l2I = q_ws I lI') (hE : q_ws (q_ws E lE) l2E = q_ws E lE') : q_hp X (q_ws (q_ws I lI) l2I) (q_ws (q_ws E lE) l2E) = q_hp X (q_ws I lI') (q_ws E lE') := by
  rw [hI, hE]
theorem q_kV {C : String} {T : u_T} {N : Nat} {o2 : Option Value ⊕ String} {v2 : Option Value} (hok : q_okM M = true) (hok2 : q_okM M2 = true) (hcv : q_cvP M2 As.length)
    (hCt : q_Ct g M2 d2 mc2 ms2 mv2 (.ref b :: As) (q_hp X (q_ws I lI) (q_ws E lE)) (fun o h' => o = o2 ∧ h' = q_hp X2 (q_ws (q_ws I lI) l2I) (q_ws (q_ws E lE) l2E))) (ho : o2 = .inl v2)
    (he : q_nth M.2.2.2.2.1 pos = some (pc, .invokevirtual idx, ln, a1, a2, w1, w2)) (hw : q_lk M idx M2.1 (q_gw w1 w2)) (hb4 : Nat.ble 400 b = true) (hbs : q_aS X b = (0, ci, v)) (hcl : vwCl[ci]? = some (C, T, N)) (hC2 : C = M2.1.cls)
    (hd : d2 + 1 ≤ d) (hk : k + mc2 ≤ mc) (hn : n + ms2 ≤ ms) (hcat : (rest.map fun v => v.category).sum ≤ 8) (hmv : ∀ x ∈ mv2, x ∈ mv) (hm1 : q_nmL mv2 ls = true) (hm2 : q_nmS mv2 rest = true)
    (hst' : st = As.reverse ++ .ref b :: rest) (hp : pos + 1 = pos') (hs2 : v2.toList ++ rest = st') (hI : q_ws (q_ws I lI) l2I = q_ws I lI') (hE : q_ws (q_ws E lE) l2E = q_ws E lE')
    (hJ : q_J g M d mc ms h0 mv Q (k + mc2) (n + ms2) (q_kc X2 I E pos' ls st' lI' lE')) : q_J g M d mc ms h0 mv Q k n (q_kc X I E pos ls st lI lE) := by
  subst ho; subst hp; subst hs2
  refine q_callV (h := q_hp X (q_ws I lI) (q_ws E lE)) hok hok2 he hw hcv (Nat.le_of_ble_eq_true hb4) hbs hcl hC2 hCt hd hk hn hcat hmv (q_nmL_of hm1) (q_nmS_of hm2) hst' (fun v3 h3 hq => ?_) (fun E3 h3 hq => ?_)
  · obtain ⟨e1, e2⟩ := hq
    cases e1
    rw [e2, q_hmrg hI hE]
    exact hJ
  · cases hq.1
theorem q_kVx {C : String} {T : u_T} {N : Nat} {o2 : Option Value ⊕ String} {Ex : String} (hok : q_okM M = true) (hok2 : q_okM M2 = true) (hcv : q_cvP M2 As.length)
    (hCt : q_Ct g M2 d2 mc2 ms2 mv2 (.ref b :: As) (q_hp X (q_ws I lI) (q_ws E lE)) (fun o h' => o = o2 ∧ h' = q_hp X2 (q_ws (q_ws I lI) l2I) (q_ws (q_ws E lE) l2E))) (ho : o2 = .inr Ex)
    (he : q_nth M.2.2.2.2.1 pos = some (pc, .invokevirtual idx, ln, a1, a2, w1, w2)) (hw : q_lk M idx M2.1 (q_gw w1 w2)) (hb4 : Nat.ble 400 b = true) (hbs : q_aS X b = (0, ci, v)) (hcl : vwCl[ci]? = some (C, T, N)) (hC2 : C = M2.1.cls)
    (hd : d2 + 1 ≤ d) (hk : k + mc2 ≤ mc) (hn : n + ms2 ≤ ms) (hcat : (rest.map fun v => v.category).sum ≤ 8) (hmv : ∀ x ∈ mv2, x ∈ mv) (hm1 : q_nmL mv2 ls = true) (hm2 : q_nmS mv2 rest = true)
    (hst' : st = As.reverse ++ .ref b :: rest) (hI : q_ws (q_ws I lI) l2I = q_ws I lI') (hE : q_ws (q_ws E lE) l2E = q_ws E lE')
    (hQ : Q (.inr Ex) (q_hp X2 (q_ws I lI') (q_ws E lE'))) : q_J g M d mc ms h0 mv Q k n (q_kc X I E pos ls st lI lE) := by
  subst ho
  refine q_callV (h := q_hp X (q_ws I lI) (q_ws E lE)) hok hok2 he hw hcv (Nat.le_of_ble_eq_true hb4) hbs hcl hC2 hCt hd hk hn hcat hmv (q_nmL_of hm1) (q_nmS_of hm2) hst' (fun v3 h3 hq => ?_) (fun E3 h3 hq => ?_)
  · cases hq.1
  · obtain ⟨e1, e2⟩ := hq
    cases e1
    rw [e2, q_hmrg hI hE]
    exact hQ
theorem q_kS {o2 : Option Value ⊕ String} {v2 : Option Value} (hok : q_okM M = true) (hok2 : q_okM M2 = true) (hcv : q_csP M2 As.length)
    (hCt : q_Ct g M2 d2 mc2 ms2 mv2 As (q_hp X (q_ws I lI) (q_ws E lE)) (fun o h' => o = o2 ∧ h' = q_hp X2 (q_ws (q_ws I lI) l2I) (q_ws (q_ws E lE) l2E))) (ho : o2 = .inl v2)
    (he : q_nth M.2.2.2.2.1 pos = some (pc, .invokestatic idx, ln, a1, a2, w1, w2)) (hw : q_lk M idx M2.1 (q_gw w1 w2))
    (hd : d2 + 1 ≤ d) (hk : k + mc2 ≤ mc) (hn : n + ms2 ≤ ms) (hcat : (rest.map fun v => v.category).sum ≤ 8) (hmv : ∀ x ∈ mv2, x ∈ mv) (hm1 : q_nmL mv2 ls = true) (hm2 : q_nmS mv2 rest = true)
    (hst' : st = As.reverse ++ rest) (hp : pos + 1 = pos') (hs2 : v2.toList ++ rest = st') (hI : q_ws (q_ws I lI) l2I = q_ws I lI') (hE : q_ws (q_ws E lE) l2E = q_ws E lE')
    (hJ : q_J g M d mc ms h0 mv Q (k + mc2) (n + ms2) (q_kc X2 I E pos' ls st' lI' lE')) : q_J g M d mc ms h0 mv Q k n (q_kc X I E pos ls st lI lE) := by
  subst ho; subst hp; subst hs2
  refine q_callS (h := q_hp X (q_ws I lI) (q_ws E lE)) hok hok2 he hw hcv hCt hd hk hn hcat hmv (q_nmL_of hm1) (q_nmS_of hm2) hst' (fun v3 h3 hq => ?_) (fun E3 h3 hq => ?_)
  · obtain ⟨e1, e2⟩ := hq
    cases e1
    rw [e2, q_hmrg hI hE]
    exact hJ
  · cases hq.1
/-- ends -/
theorem q_kri {f : Int32} {ty : FieldType} (hok : q_okM M = true) (he : q_nth M.2.2.2.2.1 pos = some (pc, .ireturn, ln, a1, a2, w1, w2)) (hty : M.2.2.2.1 = some ty) (hnr : narrow ty (.int f) = .int f) (hk : k ≤ mc) (hn : n ≤ ms) (hQ : Q (.inl (some (.int f))) (q_hp X (q_ws I lI) (q_ws E lE))) : q_J g M d mc ms h0 mv Q k n (q_kc X I E pos ls [.int f] lI lE) := q_o_iret hok he hty hnr hk hn hQ
theorem q_krl {f : Int64} (hok : q_okM M = true) (he : q_nth M.2.2.2.2.1 pos = some (pc, .lreturn, ln, a1, a2, w1, w2)) (hty : M.2.2.2.1 = some .long) (hk : k ≤ mc) (hn : n ≤ ms) (hQ : Q (.inl (some (.long f))) (q_hp X (q_ws I lI) (q_ws E lE))) : q_J g M d mc ms h0 mv Q k n (q_kc X I E pos ls [.long f] lI lE) := q_o_lret hok he hty hk hn hQ
theorem q_krv (hok : q_okM M = true) (he : q_nth M.2.2.2.2.1 pos = some (pc, .return_, ln, a1, a2, w1, w2)) (hty : M.2.2.2.1 = none) (hk : k ≤ mc) (hn : n ≤ ms) (hQ : Q (.inl none) (q_hp X (q_ws I lI) (q_ws E lE))) : q_J g M d mc ms h0 mv Q k n (q_kc X I E pos ls [] lI lE) := q_o_vret hok he hty hk hn hQ
theorem q_kra {C : String} (hok : q_okM M = true) (he : q_nth M.2.2.2.2.1 pos = some (pc, .areturn, ln, a1, a2, w1, w2)) (hty : M.2.2.2.1 = some (.object C)) (hk : k ≤ mc) (hn : n ≤ ms) (hQ : Q (.inl (some (.ref b))) (q_hp X (q_ws I lI) (q_ws E lE))) : q_J g M d mc ms h0 mv Q k n (q_kc X I E pos ls [.ref b] lI lE) := q_o_aret hok he hty hk hn hQ
/-- rows of constants -/
theorem q_clo_J {c : q_C} (h9 : q_clo c.2.2.2 → q_J g M d mc ms h0 mv Q k n c) : q_J g M d mc ms h0 mv Q k n c := by
  intro p e s m args below meth cd D cA ρ0 ρ A H locs rls en hen hB hS
  exact h9 hS.2.2.2.2.1 p e s m args below meth cd D cA ρ0 ρ A H locs rls en hen hB hS
theorem q_kaE {o : Option Nat} (hok : q_okM M = true) (he : q_nth M.2.2.2.2.1 pos = some (pc, .aaload, ln, a1, a2, w1, w2)) (ha : Nat.ble 400 a = true) (hsh : q_aS X a = (4, 5, L)) (hix : q_ix i L = some j) (hL : Nat.blt L 65536 = true) (ho : q_ws E lE a j = o) (hp : pos + 1 = pos')
    (hn : o = none → q_J g M d mc ms h0 mv Q k n (q_kc X I E pos' ls (.null :: r) lI lE)) (hs : ∀ b, o = some b → b < 49 → q_J g M d mc ms h0 mv Q k n (q_kc X I E pos' ls (.ref b :: r) lI lE)) : q_J g M d mc ms h0 mv Q k n (q_kc X I E pos ls (.int i :: .ref a :: r) lI lE) := by
  subst hp; subst ho
  refine q_clo_J (fun hC => ?_)
  refine q_o_aaldE (h := q_hp X (q_ws I lI) (q_ws E lE)) hok he (Nat.le_of_ble_eq_true ha) hsh (q_ix_eq hix) (q_ix_lt hix) (q_L31 hL) ?_
  have hq2 : q_E (q_hp X (q_ws I lI) (q_ws E lE)) a j = q_ws E lE a j := rfl
  cases hq : q_ws E lE a j with
  | none => rw [hq2, hq]; exact hn hq
  | some b => rw [hq2, hq]; exact hs b hq (hC.2.1 a j b hq)
theorem q_kaS (hok : q_okM M = true) (he : q_nth M.2.2.2.2.1 pos = some (pc, .aastore, ln, a1, a2, w1, w2)) (ha : Nat.ble 400 a = true) (hsh : q_aS X a = (4, 5, L)) (hix : q_ix i L = some j) (hL : Nat.blt L 65536 = true) (hb : b < 49) (hp : pos + 1 = pos') (hE : q_ins a (q_up (q_ws E lE a) j (some b)) lE = lE')
    (hJ : q_J g M d mc ms h0 mv Q k n (q_kc X I E pos' ls r lI lE')) : q_J g M d mc ms h0 mv Q k n (q_kc X I E pos ls (.ref b :: .int i :: .ref a :: r) lI lE) := by
  subst hp; subst hE
  refine q_o_aastE (h := q_hp X (q_ws I lI) (q_ws E lE)) hok he (Nat.le_of_ble_eq_true ha) hsh (q_ix_eq hix) (q_ix_lt hix) (q_L31 hL) hb ?_
  dsimp only [q_nx, q_sh, q_I, q_R, q_E, q_L]
  rw [q_u2_ws]
  exact hJ
theorem q_kdv {y : Int32} (hok : q_okM M = true) (he : q_nth M.2.2.2.2.1 pos = some (pc, .idiv, ln, a1, a2, w1, w2)) (hne : ¬ y = 0) (hp : pos + 1 = pos') (hJ : q_J g M d mc ms h0 mv Q k n (q_kc X I E pos' ls (.int (x / y) :: r) lI lE)) : q_J g M d mc ms h0 mv Q k n (q_kc X I E pos ls (.int y :: .int x :: r) lI lE) := by
  subst hp; exact q_o_idiv hok he hne hJ
theorem q_krm {y : Int32} (hok : q_okM M = true) (he : q_nth M.2.2.2.2.1 pos = some (pc, .irem, ln, a1, a2, w1, w2)) (hne : ¬ y = 0) (hp : pos + 1 = pos') (hJ : q_J g M d mc ms h0 mv Q k n (q_kc X I E pos' ls (.int (x - x / y * y) :: r) lI lE)) : q_J g M d mc ms h0 mv Q k n (q_kc X I E pos ls (.int y :: .int x :: r) lI lE) := by
  subst hp; exact q_o_irem hok he hne hJ
theorem q_kmx {y : Int32} (hok : q_okM M = true) (he : q_nth M.2.2.2.2.1 pos = some (pc, .invokestatic idx, ln, a1, a2, w1, w2)) (hw : q_gw w1 w2 = some (.methodLink M.1.cls idx Lib.Math.max.name)) (hd1 : 1 ≤ d) (hcat : (r.map fun v => v.category).sum ≤ 8) (hk : k ≤ mc) (hn : n ≤ ms) (hp : pos + 1 = pos')
    (hJ : q_J g M d mc ms h0 mv Q k n (q_kc X I E pos' ls (.int (q_max x y) :: r) lI lE)) : q_J g M d mc ms h0 mv Q k n (q_kc X I E pos ls (.int y :: .int x :: r) lI lE) := by
  subst hp; exact q_o_mmax hok he hw hd1 hcat hk hn hJ
theorem q_kmn {y : Int32} (hok : q_okM M = true) (he : q_nth M.2.2.2.2.1 pos = some (pc, .invokestatic idx, ln, a1, a2, w1, w2)) (hw : q_gw w1 w2 = some (.methodLink M.1.cls idx Lib.Math.min.name)) (hd1 : 1 ≤ d) (hcat : (r.map fun v => v.category).sum ≤ 8) (hk : k ≤ mc) (hn : n ≤ ms) (hp : pos + 1 = pos')
    (hJ : q_J g M d mc ms h0 mv Q k n (q_kc X I E pos' ls (.int (q_min x y) :: r) lI lE)) : q_J g M d mc ms h0 mv Q k n (q_kc X I E pos ls (.int y :: .int x :: r) lI lE) := by
  subst hp; exact q_o_mmin hok he hw hd1 hcat hk hn hJ
theorem q_kcp {L2 c : Nat} {nn : Int32} (hok : q_okM M = true) (he : q_nth M.2.2.2.2.1 pos = some (pc, .invokestatic idx, ln, a1, a2, w1, w2)) (hw : q_gw w1 w2 = some (.methodLink M.1.cls idx arraycopyName)) (hd1 : 1 ≤ d) (hcat : (r.map fun v => v.category).sum ≤ 8)
    (ha : Nat.ble 400 a = true) (hsh : q_aS X a = (1, 0, L)) (hb4 : Nat.ble 400 b = true) (hsb : q_aS X b = (1, 0, L2)) (hnn : nn = nI c) (hc1 : Nat.ble c L = true) (hc2 : Nat.ble c L2 = true) (hc3 : Nat.blt c 65536 = true) (hp : pos + 1 = pos') (hI : q_ins b (q_cp (q_ws I lI a) (q_ws I lI b) c) lI = lI')
    (hJ : q_J g M d mc ms h0 mv Q k n (q_kc X I E pos' ls r lI' lE)) : q_J g M d mc ms h0 mv Q k n (q_kc X I E pos ls (.int nn :: .int 0 :: .ref b :: .int 0 :: .ref a :: r) lI lE) := by
  subst hp; subst hI
  refine q_o_copy (h := q_hp X (q_ws I lI) (q_ws E lE)) hok he hw hd1 hcat (Nat.le_of_ble_eq_true ha) hsh (Nat.le_of_ble_eq_true hb4) hsb hnn (Nat.le_of_ble_eq_true hc1) (Nat.le_of_ble_eq_true hc2) (q_L31 hc3) ?_
  dsimp only [q_nx, q_sh, q_I, q_R, q_E, q_L]
  have hJ : q_J g M d mc ms h0 mv Q k n (pos + 1, ls, r, q_hp X (q_ws I (q_ins b (q_cp (q_ws I lI a) (q_ws I lI b) c) lI)) (q_ws E lE)) := hJ
  rw [q_ws_ins] at hJ
  exact hJ
/-- a switch -/
theorem q_ksw {dflt lo hi : Int} {offs : Array Int} {dp : Nat} (tg : List Nat) (hok : q_okM M = true) (he : q_nth M.2.2.2.2.1 pos = some (pc, .tableswitch dflt lo hi offs, ln, a1, a2, w1, w2)) (hc : q_swok M.2.2.2.2.1 pc dflt lo hi offs dp tg = true)
    (hJ : ∀ ix t, q_nth tg ix = some t → x = Int32.ofInt (lo + (ix : Int)) → q_J g M d mc ms h0 mv Q k n (q_kc X I E t ls r lI lE))
    (hD : (∀ ix : Nat, ix < tg.length → ¬ x = Int32.ofInt (lo + (ix : Int))) → q_J g M d mc ms h0 mv Q k n (q_kc X I E dp ls r lI lE)) (hlo : -2147483648 ≤ lo) (hhi : hi < 2147483648) : q_J g M d mc ms h0 mv Q k n (q_kc X I E pos ls (.int x :: r) lI lE) := by
  refine q_o_sw tg hok he hc (fun i9 t9 h1 h2 => hJ i9 t9 h1 (by rw [← h2, Int32.ofInt_toInt])) (fun h1 => hD (fun ix hix hx => ?_))
  unfold q_swok at hc
  simp only [Bool.and_eq_true, decide_eq_true_eq, List.all_eq_true] at hc
  obtain ⟨-, c2, c3, -⟩ := hc
  have h2 : x.toInt = lo + (ix : Int) := by
    rw [hx]
    exact Int32.toInt_ofInt_of_le (by omega) (by omega)
  omega
end QKRULES
