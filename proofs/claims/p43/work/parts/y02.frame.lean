/-! THE FRAME: what is said of a heap holds of one with more ids behind -/
/-- the ids below B -/
def q_cut (h : q_H) (B : Nat) : q_H := (B, fun a => if a < B then q_sh h a else (9, 0, 0), q_I h, fun a j => if a < B then q_R h a j else none, q_E h, q_L h)
def q_sft (B B' b : Nat) : Nat := if b < B then b else b - B + B'
/-- h1 below B', and behind it what h has behind B -/
def q_join (B B' : Nat) (h h1 : q_H) : q_H := (B' + (q_nx h - B), fun a => if a < B' then q_sh h1 a else q_sh h (a - B' + B), fun a => if a < B' then q_I h1 a else q_I h (a - B' + B), fun a => if a < B' then q_R h1 a else (fun j => (q_R h (a - B' + B) j).map (q_sft B B')), fun a => if a < B' then q_E h1 a else q_E h (a - B' + B), fun a => if a < B' then q_L h1 a else q_L h (a - B' + B))
theorem q_cr_cut {cA : Nat → ClassId} {ρ : Nat → Nat} {h : q_H} {B a : Nat} {e : va_E} {s : q_Sh} (ha : a < B) (hc : q_cr cA ρ h a e s) : q_cr cA ρ (q_cut h B) a e s :=
  q_cr_congr (h := h) (h' := q_cut h B) rfl (by show (fun j => if a < B then q_R h a j else none) = q_R h a; funext j; rw [if_pos ha]) rfl rfl hc
section QFRAME
variable {g : q_G} {M : q_M} {d mc ms : Nat} {mv mv2 : List Nat} {Q : (Option Value ⊕ String) → q_H → Prop} {h : q_H} {As : List Value} {B B' : Nat}
theorem q_cr_join {cA : Nat → ClassId} {ρ ρ1 : Nat → Nat} {h1 : q_H} {a : Nat} {e : va_E} {s : q_Sh} (hB : B ≤ a) (hE : ∀ a j b, q_E h a j = some b → b < 49) (h49 : ∀ b, b < 49 → ρ1 b = ρ b) (hr : ∀ j b, q_R h a j = some b → ρ1 (q_sft B B' b) = ρ b) (hc : q_cr cA ρ h a e s) : q_cr cA ρ1 (q_join B B' h h1) (a - B + B') e s := by
  have hlt : ¬ a - B + B' < B' := by omega
  have ea : a - B + B' - B' + B = a := by omega
  have e1 : q_I (q_join B B' h h1) (a - B + B') = q_I h a := by show (if a - B + B' < B' then _ else q_I h (a - B + B' - B' + B)) = _; rw [if_neg hlt, ea]
  have e2 : q_E (q_join B B' h h1) (a - B + B') = q_E h a := by show (if a - B + B' < B' then _ else q_E h (a - B + B' - B' + B)) = _; rw [if_neg hlt, ea]
  have e3 : q_L (q_join B B' h h1) (a - B + B') = q_L h a := by show (if a - B + B' < B' then _ else q_L h (a - B + B' - B' + B)) = _; rw [if_neg hlt, ea]
  have e4 : q_R (q_join B B' h h1) (a - B + B') = fun j => (q_R h a j).map (q_sft B B') := by show (if a - B + B' < B' then _ else _) = _; rw [if_neg hlt, ea]
  have m4 : ∀ j, (q_R (q_join B B' h h1) (a - B + B') j).map ρ1 = (q_R h a j).map ρ := by
    intro j
    rw [e4]
    cases hq : q_R h a j with
    | none => simp [hq]
    | some b => simp [hq, hr j b hq]
  have m2 : ∀ j, (q_E (q_join B B' h h1) (a - B + B') j).map ρ1 = (q_E h a j).map ρ := by
    intro j
    rw [e2]
    cases hq : q_E h a j with
    | none => rfl
    | some b => simp [h49 b (hE a j b hq)]
  obtain ⟨t, c, n⟩ := s
  match t, hc with
  | 0, hc =>
    obtain ⟨fs, f1, f2, f3⟩ := hc
    refine ⟨fs, f1, f2, fun j hj hk => ?_⟩
    rw [f3 j hj hk]
    refine congrArg some ?_
    unfold q_fv
    split
    · rw [e1]
    · rw [e1]
    · rw [e1]
    · rw [m4 j]
    · rw [m2 j]
  | 1, hc => show e = _; rw [e1]; exact hc
  | 2, hc => show e = _; rw [e3]; exact hc
  | 3, hc =>
    have hc : e = _ := hc
    show e = _
    rw [hc]
    exact congrArg (fun f : Nat → Option Nat => (Sum.inl (cA c, n, .inr (.inr (.inr (.inr f)))) : va_E)) (funext fun i => (m4 i).symm)
  | t + 4, hc =>
    have hc : e = _ := hc
    show e = _
    rw [hc]
    exact congrArg (fun f : Nat → Option Nat => (Sum.inl (cA c, n, .inr (.inr (.inr (.inr f)))) : va_E)) (funext fun i => (m2 i).symm)
theorem q_clo_cut (hB : 400 ≤ B) (hBn : B ≤ q_nx h) (hin : ∀ a j b, a < B → q_R h a j = some b → b < B) (hC : q_clo h) : q_clo (q_cut h B) := by
  refine ⟨fun a j b hb => ?_, hC.2.1, fun a ha => ?_⟩
  · have hb : (if a < B then q_R h a j else none) = some b := hb
    by_cases h1 : a < B
    · rw [if_pos h1] at hb; exact hin a j b h1 hb
    · rw [if_neg h1] at hb; cases hb
  · show (if a < B then _ else _) = _
    exact if_neg (Nat.not_lt.mpr ha)
theorem q_clo_join {h1 : q_H} (hBn : B ≤ q_nx h) (hBB : B ≤ B') (hn : q_nx h1 = B') (hC : q_clo h) (hC1 : q_clo h1) : q_clo (q_join B B' h h1) := by
  refine ⟨fun a j b hb => ?_, fun a j b hb => ?_, fun a ha => ?_⟩
  · have hb : (if a < B' then q_R h1 a else (fun j => (q_R h (a - B' + B) j).map (q_sft B B'))) j = some b := hb
    show b < B' + (q_nx h - B)
    by_cases h2 : a < B'
    · rw [if_pos h2] at hb
      have := hC1.1 a j b hb
      omega
    · rw [if_neg h2] at hb
      cases hq : q_R h (a - B' + B) j with
      | none => simp [hq] at hb
      | some c =>
        have h3 := hC.1 _ _ _ hq
        have hb : some (q_sft B B' c) = some b := by simpa [hq] using hb
        cases hb
        unfold q_sft
        split <;> omega
  · have hb : (if a < B' then q_E h1 a else q_E h (a - B' + B)) j = some b := hb
    by_cases h2 : a < B'
    · rw [if_pos h2] at hb; exact hC1.2.1 a j b hb
    · rw [if_neg h2] at hb; exact hC.2.1 _ j b hb
  · have ha : B' + (q_nx h - B) ≤ a := ha
    show (if a < B' then q_sh h1 a else q_sh h (a - B' + B)) = _
    rw [if_neg (by omega)]
    exact hC.2.2 _ (by omega)
theorem q_A_cut {ρ : Nat → Nat} {sz : Nat} (hBn : B ≤ q_nx h) : ∀ q, q_A ρ (q_cut h B) sz q → q_A ρ h sz q := by
  rintro q (⟨a, h1, h2, h3⟩ | h1)
  · exact Or.inl ⟨a, h1, Nat.lt_of_lt_of_le h2 hBn, h3⟩
  · exact Or.inr h1
/-- the world behind -/
theorem q_Wd_join {D : va_G} {cA : Nat → ClassId} {ρ ρ1 : Nat → Nat} {h1 : q_H} {sz : Nat} {H0 H1 : Heap} (hB : 400 ≤ B) (hBn : B ≤ q_nx h) (hBB : B ≤ B') (hn : q_nx h1 = B') (hsz : H0.size = sz) (hE : ∀ a j b, q_E h a j = some b → b < 49)
    (hex : ∀ a j b, B ≤ a → q_R h a j = some b → b < B → ρ1 b = ρ b) (hlo : ∀ a, a < 400 → ρ1 a = ρ a) (hC : q_clo h) (hC1 : q_clo h1)
    (hW0 : q_Wd D cA ρ h (fun _ => True) H0) (hW1 : q_Wd D cA ρ1 h1 (q_A ρ (q_cut h B) sz) H1) (hF : ∀ q : Nat, q < H0.size → ¬ q_A ρ (q_cut h B) sz q → H1[q]? = H0[q]?) :
    q_Wd D cA (fun a => if a < B' then ρ1 a else ρ (a - B' + B)) (q_join B B' h h1) (q_A ρ h sz) H1 := by
  obtain ⟨ws0, l0, g0, P0, D0⟩ := hW0
  obtain ⟨ws1, l1, g1, P1, D1⟩ := hW1
  have l0 : ws0.length + 400 = q_nx h := l0
  rw [hn] at l1
  have hdr : ∀ (k : Nat) (q : Nat × va_E), (ws0.drop (B - 400))[k]? = some q → ws0[B - 400 + k]? = some q := fun k q hq => by rwa [List.getElem?_drop] at hq
  have hoff : ∀ (k : Nat) (q : Nat × va_E), ws0[B - 400 + k]? = some q → q.1 = ρ (B + k) ∧ q.1 < sz ∧ ¬ q_A ρ (q_cut h B) sz q.1 ∧ H1[q.1]? = H0[q.1]? := by
    intro k q hq
    have e1 := (g0 _ _ hq).1
    rw [show 400 + (B - 400 + k) = B + k by omega] at e1
    have hlt : q.1 < sz := by rw [← hsz]; exact (P0 _ _ hq).lt
    have hna : ¬ q_A ρ (q_cut h B) sz q.1 := by
      rintro (⟨a, h2, h3, h4⟩ | h2)
      · have h3 : a < B := h3
        have hl : a - 400 < ws0.length := by omega
        have hg := List.getElem?_eq_getElem hl
        have e2 := (g0 _ _ hg).1
        rw [show 400 + (a - 400) = a by omega] at e2
        have := D0.1 _ _ _ _ hg hq (by rw [e2, ← h4])
        omega
      · omega
    exact ⟨e1, hlt, hna, hF _ (by rw [hsz]; exact hlt) hna⟩
  refine ⟨ws1 ++ ws0.drop (B - 400), ?_, fun k q hq => ?_, ?_, ?_, ?_⟩
  · show _ = B' + (q_nx h - B)
    rw [List.length_append, List.length_drop]
    omega
  · by_cases hk : k < ws1.length
    · rw [List.getElem?_append_left hk] at hq
      obtain ⟨e1, e2⟩ := g1 k q hq
      have hk2 : 400 + k < B' := by omega
      refine ⟨by show q.1 = (if 400 + k < B' then ρ1 (400 + k) else ρ (400 + k - B' + B)); rw [if_pos hk2]; exact e1, ?_⟩
      have es : q_sh (q_join B B' h h1) (400 + k) = q_sh h1 (400 + k) := if_pos hk2
      rw [es]
      refine q_cr_ren (h := h1) (h' := q_join B B' h h1) (ρ := ρ1) (show (if 400 + k < B' then _ else _) = _ from if_pos hk2) (show (if 400 + k < B' then _ else _) = _ from if_pos hk2) (show (if 400 + k < B' then _ else _) = _ from if_pos hk2) (show (if 400 + k < B' then _ else _) = _ from if_pos hk2) (fun b hb => ?_) e2
      rcases hb with ⟨j, hb⟩ | ⟨j, hb⟩
      · have := hC1.1 _ _ _ hb
        exact if_pos (by omega)
      · have := hC1.2.1 _ _ _ hb
        exact if_pos (by omega)
    · rw [List.getElem?_append_right (by omega)] at hq
      have hq2 := hdr _ _ hq
      obtain ⟨e1, e2⟩ := g0 _ _ hq2
      have ea : 400 + (B - 400 + (k - ws1.length)) = B + (400 + k - B') := by omega
      rw [ea] at e1 e2
      have hnk : ¬ 400 + k < B' := by omega
      refine ⟨by show q.1 = (if 400 + k < B' then ρ1 (400 + k) else ρ (400 + k - B' + B)); rw [if_neg hnk, e1]; exact congrArg ρ (by omega), ?_⟩
      have es : q_sh (q_join B B' h h1) (400 + k) = q_sh h (B + (400 + k - B')) := by
        show (if 400 + k < B' then _ else q_sh h (400 + k - B' + B)) = _
        rw [if_neg hnk]
        exact congrArg (q_sh h) (by omega)
      rw [es]
      have := q_cr_join (B := B) (B' := B') (h1 := h1) (ρ1 := fun a => if a < B' then ρ1 a else ρ (a - B' + B)) (by omega) hE (fun b hb => ?_) (fun j b hb => ?_) e2
      · rwa [show B + (400 + k - B') - B + B' = 400 + k by omega] at this
      · show (if b < B' then ρ1 b else _) = ρ b
        rw [if_pos (by omega)]; exact hlo b (by omega)
      · show (if q_sft B B' b < B' then _ else _) = ρ b
        unfold q_sft
        by_cases hbB : b < B
        · rw [if_pos hbB, if_pos (by omega)]
          exact hex _ j b (by omega) hb hbB
        · rw [if_neg hbB, if_neg (by omega)]
          exact congrArg ρ (by omega)
  · intro k q hq
    by_cases hk : k < ws1.length
    · rw [List.getElem?_append_left hk] at hq
      exact P1 k q hq
    · rw [List.getElem?_append_right (by omega)] at hq
      have hq2 := hdr _ _ hq
      exact (P0 _ _ hq2).kept (hoff _ _ hq2).2.2.2
  · intro i j p q hi hj hpq
    by_cases h2 : i < ws1.length
    · rw [List.getElem?_append_left h2] at hi
      by_cases h3 : j < ws1.length
      · rw [List.getElem?_append_left h3] at hj
        exact D1.1 i j p q hi hj hpq
      · rw [List.getElem?_append_right (by omega)] at hj
        have hj2 := hdr _ _ hj
        exact absurd (by rw [← hpq]; exact D1.2 _ _ hi) (hoff _ _ hj2).2.2.1
    · rw [List.getElem?_append_right (by omega)] at hi
      have hi2 := hdr _ _ hi
      by_cases h3 : j < ws1.length
      · rw [List.getElem?_append_left h3] at hj
        exact absurd (by rw [hpq]; exact D1.2 _ _ hj) (hoff _ _ hi2).2.2.1
      · rw [List.getElem?_append_right (by omega)] at hj
        have hj2 := hdr _ _ hj
        have := D0.1 _ _ p q hi2 hj2 hpq
        omega
  · intro k q hq
    by_cases hk : k < ws1.length
    · rw [List.getElem?_append_left hk] at hq
      exact q_A_cut hBn _ (D1.2 _ _ hq)
    · rw [List.getElem?_append_right (by omega)] at hq
      have hq2 := hdr _ _ hq
      have e1 := (hoff _ _ hq2).1
      have hlt := (List.getElem?_eq_some_iff.mp hq2).1
      exact Or.inl ⟨B + (k - ws1.length), by omega, by omega, e1⟩
/-- a contract over the ids below B holds over more of them -/
theorem q_frame (hB : 400 ≤ B) (hBn : B ≤ q_nx h) (hin : ∀ a j b, a < B → q_R h a j = some b → b < B) (hAs : ∀ b, Value.ref b ∈ As → b < B)
    (hex : ∀ a j b, B ≤ a → q_R h a j = some b → b < B → b ∉ mv) (hmv : ∀ a, a < q_nx h → a ∉ mv2 → a ∉ mv ∧ (B ≤ a → B' = B)) (hQ : ∀ o h1, Q o h1 → q_nx h1 = B')
    (hCt : q_Ct g M d mc ms mv As (q_cut h B) Q) : q_Ct g M d mc ms mv2 As h (fun o h2 => ∃ h1, Q o h1 ∧ h2 = q_join B B' h h1) := by
  intro D cA ρ sz
  have key : ∀ (st t : State) (h1 : q_H) (ρ1 : Nat → Nat), (st.heap.size = sz ∧ va_K D vwCl (q_Ty cA) st ∧ q_Wd D cA ρ h (fun _ => True) st.heap ∧ q_Ext g ρ (q_A ρ h sz) st st.heap ∧ q_clo h ∧ (∀ v ∈ As, q_vcl h v) ∧ 400 ≤ q_nx h) →
      q_nx h1 = B' → (∀ a, a < B → a ∉ mv → ρ1 a = ρ a) → (∀ a, a < 400 → ρ1 a = ρ a) → q_Wd D cA ρ1 h1 (q_A ρ (q_cut h B) sz) t.heap → q_clo h1 → B ≤ q_nx h1 → va_F (q_A ρ (q_cut h B) sz) st t →
      (∀ a, a < q_nx h → a ∉ mv2 → (fun a => if a < B' then ρ1 a else ρ (a - B' + B)) a = ρ a) ∧ (∀ a, a < 400 → (fun a => if a < B' then ρ1 a else ρ (a - B' + B)) a = ρ a) ∧
      q_Wd D cA (fun a => if a < B' then ρ1 a else ρ (a - B' + B)) (q_join B B' h h1) (q_A ρ h sz) t.heap ∧ q_clo (q_join B B' h h1) ∧ 400 ≤ q_nx (q_join B B' h h1) ∧ q_nx h ≤ q_nx (q_join B B' h h1) ∧ va_F (q_A ρ h sz) st t := by
    intro st t h1 ρ1 hS hn hr1 hr2 hW hC1 hBB hF
    obtain ⟨s1, s2, s3, s4, s5, s6, s7⟩ := hS
    rw [hn] at hBB
    refine ⟨fun a ha ham => ?_, fun a ha => ?_, ?_, q_clo_join hBn hBB hn s5 hC1, ?_, ?_, hF.1, fun q h2 h3 => hF.2 q h2 (fun h4 => h3 (q_A_cut hBn _ h4))⟩
    · obtain ⟨m1, m2⟩ := hmv a ha ham
      show (if a < B' then ρ1 a else ρ (a - B' + B)) = ρ a
      by_cases h2 : a < B
      · rw [if_pos (by omega)]; exact hr1 a h2 m1
      · have e := m2 (by omega)
        rw [if_neg (by omega)]; exact congrArg ρ (by omega)
    · show (if a < B' then ρ1 a else ρ (a - B' + B)) = ρ a
      rw [if_pos (by omega)]; exact hr2 a ha
    · exact q_Wd_join hB hBn hBB hn s1 s5.2.1 (fun a j b h2 h3 h4 => hr1 b h4 (hex a j b h2 h3 h4)) hr2 s5 hC1 s3 hW hF.2
    · show 400 ≤ B' + (q_nx h - B)
      omega
    · show q_nx h ≤ B' + (q_nx h - B)
      omega
  refine Jvm.Free.MetFree.mono (hCt D cA ρ sz) ?_ (fun _ _ _ _ _ h => h) ?_
  · rintro a s ⟨ha, s1, s2, s3, s4, s5, s6, s7⟩
    refine ⟨ha, s1, s2, ?_, q_Ext_narrow s4 (q_A_cut hBn), q_clo_cut hB hBn hin s5, fun v hv b hb => hAs b (by rw [← hb]; exact hv), hB⟩
    obtain ⟨ws, w1, w2, w3, w4⟩ := s3
    have w1 : ws.length + 400 = q_nx h := w1
    have htk : ∀ (k : Nat) (q : Nat × va_E), (ws.take (B - 400))[k]? = some q → k < B - 400 ∧ ws[k]? = some q := by
      intro k q hq
      rw [List.getElem?_take] at hq
      split at hq
      · next h2 => exact ⟨h2, hq⟩
      · cases hq
    refine ⟨ws.take (B - 400), ?_, fun k q hq => ?_, fun k q hq => w3 k q (htk k q hq).2, fun i j p q hi hj hpq => w4.1 i j p q (htk i p hi).2 (htk j q hj).2 hpq, fun k q hq => trivial⟩
    · show _ = B
      rw [List.length_take]; omega
    · obtain ⟨k1, k2⟩ := htk k q hq
      obtain ⟨e1, e2⟩ := w2 k q k2
      refine ⟨e1, ?_⟩
      have es : q_sh (q_cut h B) (400 + k) = q_sh h (400 + k) := if_pos (by omega)
      rw [es]
      exact q_cr_cut (by omega) e2
  · rintro a s o t ⟨ha, hS⟩ (⟨hq, L, hL1, hL2⟩ | ⟨q, ho, E, ce, L, hx, r1, r2, r3, r4, r5, r6⟩)
    · obtain ⟨v, h1, ρ1, o1, q1, q2, q3, q4, q5, q6, q7, q8, q9, q10⟩ := hq
      have hn := hQ _ _ q1
      obtain ⟨k1, k2, k3, k4, k5, k6, k7⟩ := key s t h1 ρ1 hS hn q3 q4 q5 q7 q9 q10
      refine Or.inl ⟨⟨v, q_join B B' h h1, _, ?_, ⟨h1, q1, rfl⟩, fun x hx b hb => ?_, k1, k2, k3, q6, k4, k5, k6, k7⟩, L, hL1, fun z hz => q_A_cut hBn _ (hL2 z hz)⟩
      · rw [o1]
        refine congrArg Outcome.returned ?_
        cases v with
        | none => rfl
        | some x =>
          refine congrArg some ?_
          cases x with
          | ref b =>
            have hb : @LT.lt Nat instLTNat b B' := by rw [← hn]; exact q2 _ rfl b rfl
            exact congrArg Value.ref (if_pos hb).symm
          | _ => rfl
      · have h9 : @LT.lt Nat instLTNat b B' := by rw [← hn]; exact q2 x hx b hb
        show b < B' + (q_nx h - B)
        exact Nat.lt_of_lt_of_le h9 (Nat.le_add_right _ _)
    · obtain ⟨h1, ρ1, q1, q3, q4, q5, q6, q7, q8, q9, q10⟩ := hx
      have hn := hQ _ _ q1
      obtain ⟨k1, k2, k3, k4, k5, k6, k7⟩ := key s t h1 ρ1 hS hn q3 q4 q5 q7 q9 q10
      exact Or.inr ⟨q, ho, E, ce, L, ⟨q_join B B' h h1, _, ⟨h1, q1, rfl⟩, k1, k2, k3, q6, k4, k5, k6, k7⟩, r1, r2, r3, r4, r5, fun z hz => q_A_cut hBn _ (r6 z hz)⟩
end QFRAME
