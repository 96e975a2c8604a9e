/-! THE CONSTRUCTOR IN THE LAW'S HEAP -/
theorem q_Wd_eqv {D : va_G} {cA : Nat → ClassId} {ρ : Nat → Nat} {A : Nat → Prop} {H : Heap} {h h' : q_H} (hn : q_nx h' = q_nx h) (he : ∀ a, 400 ≤ a → a < q_nx h → q_sh h' a = q_sh h a ∧ q_I h' a = q_I h a ∧ q_R h' a = q_R h a ∧ q_E h' a = q_E h a ∧ q_L h' a = q_L h a) (hW : q_Wd D cA ρ h A H) : q_Wd D cA ρ h' A H := by
  obtain ⟨ws, f1, f2, hP, hD⟩ := hW
  have f1 : ws.length + 400 = q_nx h := f1
  refine ⟨ws, by rw [hn]; exact f1, fun k q hq => ?_, hP, hD⟩
  have hl := (List.getElem?_eq_some_iff.mp hq).1
  obtain ⟨e1, e2, e3, e4, e5⟩ := he (400 + k) (by omega) (by omega)
  obtain ⟨g1, g2⟩ := f2 k q hq
  refine ⟨g1, ?_⟩
  rw [e1]
  exact q_cr_ren e2 e3 e4 e5 (fun b _ => rfl) g2
theorem q_Ct_eqv {g : q_G} {M : q_M} {d mc ms N : Nat} {mv : List Nat} {As : List Value} {sh sh' : Nat → q_Sh} {I I' : Nat → Nat → Int32} {R R' E E' : Nat → Nat → Option Nat} {L L' : Nat → Nat → Int64} {Q : (Option Value ⊕ String) → q_H → Prop}
    (he : ∀ a, 400 ≤ a → a < N → sh' a = sh a ∧ I' a = I a ∧ R' a = R a ∧ E' a = E a ∧ L' a = L a) (hclo : q_clo ((N, sh', I', R', E', L') : q_H)) (hC : q_Ct g M d mc ms mv As ((N, sh', I', R', E', L') : q_H) Q) : q_Ct g M d mc ms mv As ((N, sh, I, R, E, L) : q_H) Q := by
  intro D cA ρ sz
  refine Jvm.Free.MetFree.mono (hC D cA ρ sz) ?_ (fun _ _ _ _ _ h => h) (fun _ _ _ _ _ h => h)
  rintro a s ⟨ha, s1, s2, s3, s4, s5, s6, s7⟩
  exact ⟨ha, s1, s2, q_Wd_eqv (h := ((N, sh, I, R, E, L) : q_H)) rfl he s3, s4, hclo, s6, s7⟩
/-- the callee's ids, as they lie behind N of the caller's -/
def q_ap (N b : Nat) : Nat := if b < 400 then b else b - 400 + N
def q_pa (N b : Nat) : Nat := if b < 400 then b else b - N + 400
theorem q_pa_ap {N : Nat} (hN : 400 ≤ N) (b : Nat) : q_pa N (q_ap N b) = b := by
  unfold q_pa q_ap
  by_cases h : b < 400
  · rw [if_pos h, if_pos h]
  · rw [if_neg h, if_neg (by omega)]; omega
/-- h's ids below N, and behind them what h1 has from 400 on -/
def q_apd (N : Nat) (h h1 : q_H) : q_H := (N + (q_nx h1 - 400), fun a => if a < N then q_sh h a else q_sh h1 (a - N + 400), fun a => if a < N then q_I h a else q_I h1 (a - N + 400), fun a => if a < N then q_R h a else (fun j => (q_R h1 (a - N + 400) j).map (q_ap N)), fun a => if a < N then q_E h a else q_E h1 (a - N + 400), fun a => if a < N then q_L h a else q_L h1 (a - N + 400))
section QAPD
variable {g : q_G} {M : q_M} {d mc ms N : Nat} {Q : (Option Value ⊕ String) → q_H → Prop} {h h1 hc : q_H} {As : List Value}
theorem q_cmp_apd (hN : 400 ≤ N) {a : Nat} (ha : N ≤ a) : q_cmp (q_pa N) h1 (q_apd N h h1) a := by
  have hp : q_pa N a = a - N + 400 := by unfold q_pa; rw [if_neg (by omega)]
  have hna : ¬ a < N := by omega
  have e0 : q_sh (q_apd N h h1) a = q_sh h1 (q_pa N a) := by rw [hp]; exact if_neg hna
  have e1 : q_I (q_apd N h h1) a = q_I h1 (q_pa N a) := by rw [hp]; exact if_neg hna
  have e2 : q_E (q_apd N h h1) a = q_E h1 (q_pa N a) := by rw [hp]; exact if_neg hna
  have e3 : q_L (q_apd N h h1) a = q_L h1 (q_pa N a) := by rw [hp]; exact if_neg hna
  have e4 : ∀ j, q_R h1 (q_pa N a) j = (q_R (q_apd N h h1) a j).map (q_pa N) := fun j => by
    have e5 : q_R (q_apd N h h1) a j = (q_R h1 (q_pa N a) j).map (q_ap N) := by
      show (if a < N then q_R h a else (fun j => (q_R h1 (a - N + 400) j).map (q_ap N))) j = _
      rw [if_neg hna, hp]
    rw [e5]
    cases q_R h1 (q_pa N a) j with
    | none => rfl
    | some b => exact congrArg some (q_pa_ap hN b).symm
  unfold q_cmp
  cases hs : q_sh (q_apd N h h1) a with
  | mk t cn =>
    obtain ⟨c, n⟩ := cn
    rw [e0] at hs
    match t, hs with
    | 0, hs => exact ⟨⟨e1, e2⟩, n, hs, fun j _ _ => ⟨rfl, fun _ => e4 j⟩⟩
    | 1, hs => exact ⟨hs, e1⟩
    | 2, hs => exact ⟨hs, e3⟩
    | 3, hs => exact ⟨hs, e4⟩
    | t + 4, hs => exact ⟨hs, e2⟩
theorem q_clo_apd (hN : 400 ≤ N) (hex : ∀ a j b, a < N → q_R h a j = some b → b < N) (hC : q_clo h) (hC1 : q_clo h1) (h4 : 400 ≤ q_nx h1) : q_clo (q_apd N h h1) := by
  refine ⟨fun a j b hb => ?_, fun a j b hb => ?_, fun a ha => ?_⟩
  · have hb : (if a < N then q_R h a else (fun j => (q_R h1 (a - N + 400) j).map (q_ap N))) j = some b := hb
    show b < N + (q_nx h1 - 400)
    by_cases h2 : a < N
    · rw [if_pos h2] at hb
      have := hex a j b h2 hb
      omega
    · rw [if_neg h2] at hb
      cases hq : q_R h1 (a - N + 400) j with
      | none => simp [hq] at hb
      | some c =>
        have h3 := hC1.1 _ _ _ hq
        have hb : some (q_ap N c) = some b := by simpa [hq] using hb
        cases hb
        unfold q_ap
        split <;> omega
  · have hb : (if a < N then q_E h a else q_E h1 (a - N + 400)) j = some b := hb
    by_cases h2 : a < N
    · rw [if_pos h2] at hb; exact hC.2.1 a j b hb
    · rw [if_neg h2] at hb; exact hC1.2.1 _ j b hb
  · have ha : N + (q_nx h1 - 400) ≤ a := ha
    show (if a < N then q_sh h a else q_sh h1 (a - N + 400)) = _
    rw [if_neg (by omega)]
    exact hC1.2.2 _ (by omega)
theorem q_A_ap {ρ : Nat → Nat} {sz : Nat} (hN : 400 ≤ N) (hnc : q_nx hc + N = q_nx h + 400) : ∀ q, q_A (fun a => ρ (q_ap N a)) hc sz q → q_A ρ h sz q := by
  rintro q (⟨a, h1, h2, h3⟩ | h1)
  · have e : q_ap N a = a - 400 + N := by unfold q_ap; rw [if_neg (by omega)]
    exact Or.inl ⟨q_ap N a, by rw [e]; omega, by rw [e]; omega, h3⟩
  · exact Or.inr h1
theorem q_Wd_apd {D : va_G} {cA : Nat → ClassId} {ρ ρ1 : Nat → Nat} {sz : Nat} {H0 H1 : Heap} (hN : 400 ≤ N) (hNn : N ≤ q_nx h) (hnc : q_nx hc + N = q_nx h + 400) (h4 : 400 ≤ q_nx h1) (hsz : H0.size = sz)
    (hex : ∀ a j b, a < N → q_R h a j = some b → b < N) (hlo : ∀ a, a < 400 → ρ1 a = ρ a) (hC : q_clo h) (hC1 : q_clo h1)
    (hW0 : q_Wd D cA ρ h (fun _ => True) H0) (hW1 : q_Wd D cA ρ1 h1 (q_A (fun a => ρ (q_ap N a)) hc sz) H1) (hF : ∀ q : Nat, q < H0.size → ¬ q_A (fun a => ρ (q_ap N a)) hc sz q → H1[q]? = H0[q]?) :
    q_Wd D cA (fun a => if a < N then ρ a else ρ1 (a - N + 400)) (q_apd N h h1) (q_A ρ h sz) H1 := by
  obtain ⟨ws0, l0, g0, P0, D0⟩ := hW0
  obtain ⟨ws1, l1, g1, P1, D1⟩ := hW1
  have l0 : ws0.length + 400 = q_nx h := l0
  have l1 : ws1.length + 400 = q_nx h1 := l1
  have htk : ∀ (k : Nat) (q : Nat × va_E), (ws0.take (N - 400))[k]? = some q → k < N - 400 ∧ ws0[k]? = some q := by
    intro k q hq
    rw [List.getElem?_take] at hq
    split at hq
    · next h2 => exact ⟨h2, hq⟩
    · cases hq
  have hlt : (ws0.take (N - 400)).length = N - 400 := by rw [List.length_take]; omega
  have hoff : ∀ (k : Nat) (q : Nat × va_E), k < N - 400 → ws0[k]? = some q → q.1 = ρ (400 + k) ∧ q.1 < sz ∧ ¬ q_A (fun a => ρ (q_ap N a)) hc sz q.1 ∧ H1[q.1]? = H0[q.1]? := by
    intro k q hk hq
    have e1 := (g0 _ _ hq).1
    have hlt : q.1 < sz := by rw [← hsz]; exact (P0 _ _ hq).lt
    have hna : ¬ q_A (fun a => ρ (q_ap N a)) hc sz q.1 := by
      rintro (⟨a, h2, h3, h4⟩ | h2)
      · have ea : q_ap N a = a - 400 + N := by unfold q_ap; rw [if_neg (by omega)]
        have h4 : q.1 = ρ (q_ap N a) := h4
        have hl : a - 400 + (N - 400) < ws0.length := by omega
        have hg := List.getElem?_eq_getElem hl
        have e2 := (g0 _ _ hg).1
        rw [show 400 + (a - 400 + (N - 400)) = a - 400 + N by omega] at e2
        have := D0.1 _ _ _ _ hg hq (by rw [e2, h4, ea])
        omega
      · omega
    exact ⟨e1, hlt, hna, hF _ (by rw [hsz]; exact hlt) hna⟩
  refine ⟨ws0.take (N - 400) ++ ws1, ?_, fun k q hq => ?_, ?_, ?_, ?_⟩
  · show _ = N + (q_nx h1 - 400)
    rw [List.length_append, hlt]
    omega
  · by_cases hk : k < N - 400
    · rw [List.getElem?_append_left (by omega)] at hq
      obtain ⟨-, hq2⟩ := htk _ _ hq
      obtain ⟨e1, e2⟩ := g0 _ _ hq2
      have hkN : 400 + k < N := by omega
      refine ⟨by show q.1 = (if 400 + k < N then ρ (400 + k) else _); rw [if_pos hkN]; exact e1, ?_⟩
      have es : q_sh (q_apd N h h1) (400 + k) = q_sh h (400 + k) := if_pos hkN
      rw [es]
      refine q_cr_ren (h := h) (h' := q_apd N h h1) (ρ := ρ) (show (if 400 + k < N then _ else _) = _ from if_pos hkN) (show (if 400 + k < N then _ else _) = _ from if_pos hkN) (show (if 400 + k < N then _ else _) = _ from if_pos hkN) (show (if 400 + k < N then _ else _) = _ from if_pos hkN) (fun b hb => ?_) e2
      rcases hb with ⟨j, hb⟩ | ⟨j, hb⟩
      · exact if_pos (hex _ _ _ hkN hb)
      · have := hC.2.1 _ _ _ hb
        exact if_pos (by omega)
    · rw [List.getElem?_append_right (by omega), hlt] at hq
      obtain ⟨e1, e2⟩ := g1 _ _ hq
      have hkN : ¬ 400 + k < N := by omega
      have ea : 400 + (k - (N - 400)) = 400 + k - N + 400 := by omega
      have hp : q_pa N (400 + k) = 400 + (k - (N - 400)) := by unfold q_pa; rw [if_neg (by omega)]; omega
      refine ⟨by show q.1 = (if 400 + k < N then _ else ρ1 (400 + k - N + 400)); rw [if_neg hkN, e1, ea], ?_⟩
      have h9 := q_cr_cmp (cA := cA) (σ := q_pa N) (ρ := ρ1) (h := h1) (h' := q_apd N h h1) (a := 400 + k) (e := q.2) (fun a ha => by unfold q_pa; rw [if_pos (by omega)]) hC1.2.1 (q_cmp_apd hN (by omega)) (by rw [hp]; exact e2)
      refine q_cr_ren (h := q_apd N h h1) (h' := q_apd N h h1) (ρ := fun x => ρ1 (q_pa N x)) rfl rfl rfl rfl (fun b hb => ?_) h9
      show (if b < N then ρ b else ρ1 (b - N + 400)) = ρ1 (q_pa N b)
      have hb2 : b < 400 ∨ N ≤ b := by
        rcases hb with ⟨j, hb⟩ | ⟨j, hb⟩
        · have hb : (if 400 + k < N then q_R h (400 + k) else (fun j => (q_R h1 (400 + k - N + 400) j).map (q_ap N))) j = some b := hb
          rw [if_neg hkN] at hb
          cases hq2 : q_R h1 (400 + k - N + 400) j with
          | none => simp [hq2] at hb
          | some c =>
            have hb : some (q_ap N c) = some b := by simpa [hq2] using hb
            cases hb
            unfold q_ap
            split <;> omega
        · have hb : (if 400 + k < N then q_E h (400 + k) else q_E h1 (400 + k - N + 400)) j = some b := hb
          rw [if_neg hkN] at hb
          have := hC1.2.1 _ _ _ hb
          omega
      unfold q_pa
      rcases hb2 with hb2 | hb2
      · rw [if_pos (by omega), if_pos hb2]; exact (hlo b hb2).symm
      · rw [if_neg (by omega), if_neg (by omega)]
  · intro k q hq
    by_cases hk : k < N - 400
    · rw [List.getElem?_append_left (by omega)] at hq
      obtain ⟨-, hq2⟩ := htk _ _ hq
      exact (P0 _ _ hq2).kept (hoff _ _ hk hq2).2.2.2
    · rw [List.getElem?_append_right (by omega)] at hq
      exact P1 _ q hq
  · intro i j p q hi hj hpq
    by_cases h2 : i < N - 400
    · rw [List.getElem?_append_left (by omega)] at hi
      obtain ⟨-, hi2⟩ := htk _ _ hi
      by_cases h3 : j < N - 400
      · rw [List.getElem?_append_left (by omega)] at hj
        obtain ⟨-, hj2⟩ := htk _ _ hj
        exact D0.1 i j p q hi2 hj2 hpq
      · rw [List.getElem?_append_right (by omega)] at hj
        exact absurd (by rw [hpq]; exact D1.2 _ _ hj) (hoff _ _ h2 hi2).2.2.1
    · rw [List.getElem?_append_right (by omega)] at hi
      by_cases h3 : j < N - 400
      · rw [List.getElem?_append_left (by omega)] at hj
        obtain ⟨-, hj2⟩ := htk _ _ hj
        exact absurd (by rw [← hpq]; exact D1.2 _ _ hi) (hoff _ _ h3 hj2).2.2.1
      · rw [List.getElem?_append_right (by omega)] at hj
        have := D1.1 _ _ p q hi hj hpq
        omega
  · intro k q hq
    by_cases hk : k < N - 400
    · rw [List.getElem?_append_left (by omega)] at hq
      obtain ⟨-, hq2⟩ := htk _ _ hq
      exact Or.inl ⟨400 + k, by omega, by omega, (hoff _ _ hk hq2).1⟩
    · rw [List.getElem?_append_right (by omega)] at hq
      exact q_A_ap hN hnc _ (D1.2 _ _ hq)
/-- a contract that gives nothing back holds of ids that lie behind others -/
theorem q_frame2 (hN : 400 ≤ N) (hNn : N ≤ q_nx h) (hnc : q_nx hc + N = q_nx h + 400) (hcmp : ∀ a, 400 ≤ a → a < q_nx hc → q_cmp (q_ap N) h hc a) (hclo : q_clo hc) (hex : ∀ a j b, a < N → q_R h a j = some b → b < N) (hAs : ∀ v ∈ As, q_vcl hc v)
    (hQ : ∀ o h1, Q o h1 → o = .inl none) (hCt : q_Ct g M d mc ms [] As hc Q) : q_Ct g M d mc ms [] (As.map (q_vm (q_ap N))) h (fun o h2 => o = .inl none ∧ ∃ h1, Q (.inl none) h1 ∧ h2 = q_apd N h h1) := by
  intro D cA ρ sz
  have hmap : (As.map (q_vm (q_ap N))).map (q_vz ρ) = As.map (q_vz (fun a => ρ (q_ap N a))) := by
    rw [List.map_map]
    refine List.map_congr_left (fun v _ => ?_)
    cases v <;> rfl
  refine Jvm.Free.MetFree.mono (hCt D cA (fun a => ρ (q_ap N a)) sz) ?_ (fun _ _ _ _ _ h => h) ?_
  · rintro a s ⟨ha, s1, s2, s3, s4, s5, s6, s7⟩
    refine ⟨by rw [← hmap]; exact ha, s1, s2, ?_, q_Ext_narrow (q_Ext_ren (fun a ha => by show ρ (q_ap N a) = ρ a; unfold q_ap; rw [if_pos ha]) s4) (q_A_ap hN hnc), hclo, hAs, by omega⟩
    obtain ⟨ws, w1, w2, w3, w4⟩ := s3
    have w1 : ws.length + 400 = q_nx h := w1
    have hdr : ∀ (k : Nat) (q : Nat × va_E), (ws.drop (N - 400))[k]? = some q → ws[N - 400 + k]? = some q := fun k q hq => by rwa [List.getElem?_drop] at hq
    refine ⟨ws.drop (N - 400), ?_, fun k q hq => ?_, fun k q hq => w3 _ q (hdr k q hq), ⟨fun i j p q hi hj hpq => ?_, fun k q hq => trivial⟩⟩
    · rw [List.length_drop]; omega
    · have hq2 := hdr k q hq
      have hl := (List.getElem?_eq_some_iff.mp hq2).1
      obtain ⟨e1, e2⟩ := w2 _ q hq2
      have ea : q_ap N (400 + k) = 400 + (N - 400 + k) := by unfold q_ap; rw [if_neg (by omega)]; omega
      refine ⟨by show q.1 = ρ (q_ap N (400 + k)); rw [ea]; exact e1, ?_⟩
      exact q_cr_cmp (σ := q_ap N) (ρ := ρ) (h := h) (h' := hc) (fun a ha => by unfold q_ap; rw [if_pos (by omega)]) s5.2.1 (hcmp _ (by omega) (by omega)) (by rw [ea]; exact e2)
    · have := w4.1 _ _ p q (hdr i p hi) (hdr j q hj) hpq
      omega
  · rintro a s o t ⟨ha, s1, s2, s3, s4, s5, s6, s7⟩ (⟨hq, L, hL1, hL2⟩ | ⟨q, ho, E, ce, L, hx, r1, r2, r3, r4, r5, r6⟩)
    · obtain ⟨v, h1, ρ1, o1, q1, q2, q3, q4, q5, q6, q7, q8, q9, q10⟩ := hq
      have hv := hQ _ _ q1
      have hv : v = none := Sum.inl.inj hv
      subst hv
      refine Or.inl ⟨⟨none, q_apd N h h1, fun a => if a < N then ρ a else ρ1 (a - N + 400), o1, ⟨rfl, h1, q1, rfl⟩, (fun x hx => by cases hx), fun a ha ham => ?_, fun a ha => ?_, q_Wd_apd hN hNn hnc q8 s1 hex (fun a ha => (q4 a ha).trans (by show ρ (q_ap N a) = ρ a; unfold q_ap; rw [if_pos ha])) s5 q7 s3 q5 q10.2, q6, q_clo_apd hN hex s5 q7 q8, ?_, ?_, q10.1, fun q h2 h3 => q10.2 q h2 (fun h4 => h3 (q_A_ap hN hnc _ h4))⟩, L, hL1, fun z hz => q_A_ap hN hnc _ (hL2 z hz)⟩
      · show (if a < N then ρ a else ρ1 (a - N + 400)) = ρ a
        by_cases h2 : a < N
        · rw [if_pos h2]
        · rw [if_neg h2, q3 _ (by omega) List.not_mem_nil]
          show ρ (q_ap N (a - N + 400)) = ρ a
          unfold q_ap
          rw [if_neg (by omega)]
          exact congrArg ρ (by omega)
      · show (if a < N then ρ a else _) = ρ a
        rw [if_pos (by omega)]
      · show 400 ≤ N + (q_nx h1 - 400)
        omega
      · show q_nx h ≤ N + (q_nx h1 - 400)
        omega
    · obtain ⟨h1, ρ1, q1, -⟩ := hx
      exact absurd (hQ _ _ q1) (by intro e; cases e)
end QAPD
