/-! what the printed walks want besides -/
theorem q_kd_out {ci v j : Nat} (h : 24 ≤ j) : q_kd ci v j = 9 := by
  sorry
def q_othc (ci v k : Nat) : Bool := (List.range 24).all fun j => Nat.beq j k || (Nat.beq (q_kd ci 0 j) 9 || Nat.beq (q_kd ci v j) (q_kd ci 0 j))
theorem q_oth_of {ci v k : Nat} (hc : q_othc ci v k = true) : ∀ j, j ≠ k → q_kd ci 0 j ≠ 9 → q_kd ci v j = q_kd ci 0 j := by
  intro j h1 h2
  by_cases hj : j < 24
  · unfold q_othc at hc
    rw [List.all_eq_true] at hc
    have := hc j (List.mem_range.mpr hj)
    rw [q_beqN h1, Bool.false_or, Bool.or_eq_true] at this
    rcases this with h3 | h3
    · exact absurd (Nat.eq_of_beq_eq_true h3) h2
    · exact Nat.eq_of_beq_eq_true h3
  · rw [q_kd_out (by omega), q_kd_out (by omega)]
theorem q_nrS_of {st : List Value} {N : Nat} (h : (st.all fun v => match v with | .ref _ => false | _ => true) = true) : ∀ a, Value.ref a ∈ st → a < N := by
  intro a ha
  have := List.all_eq_true.mp h _ ha
  cases this
theorem q_nrL_of {ls : List (Option Value)} {N : Nat} (h : (ls.all fun v => match v with | some (.ref _) => false | _ => true) = true) : ∀ i a, q_nth ls i = some (some (.ref a)) → a < N := by
  intro i a ha
  rw [q_nth_eq] at ha
  have := List.all_eq_true.mp h _ (List.mem_of_getElem? ha)
  cases this
section QEXT
variable {g : q_G} {M M2 : q_M} {d mc ms d2 mc2 ms2 : Nat} {h0 : q_H} {mv mv2 : List Nat} {Q : (Option Value ⊕ String) → q_H → Prop} {k n pos pos' pc ln a1 a2 w1 w2 a ci v v2 idx L j b B : Nat} {ls ls' : List (Option Value)} {r st st' As rest : List Value} {h : q_H}
variable {X X2 : q_Am} {I : Nat → Nat → Int32} {E : Nat → Nat → Option Nat} {lI lI' l2I : List (Nat × (Nat → Int32))} {lE lE' l2E : List (Nat × (Nat → Option Nat))} {i x : Int32}
theorem q_kldc (hok : q_okM M = true) (he : q_nth M.2.2.2.2.1 pos = some (pc, .ldc idx, ln, a1, a2, w1, w2)) (hM : M.1.cls = "HayBarnModel") (hi : idx = 103) (hp : pos + 1 = pos')
    (hJ : q_J g M d mc ms h0 mv Q k n (q_kc X I E pos' ls (.ref 180 :: r) lI lE)) : q_J g M d mc ms h0 mv Q k n (q_kc X I E pos ls r lI lE) := by
  sorry
theorem q_ksidx (hok : q_okM M = true) (he : q_nth M.2.2.2.2.1 pos = some (pc, .invokevirtual idx, ln, a1, a2, w1, w2)) (hw : q_lk M idx ⟨"java/lang/String", "indexOf", "(I)I"⟩ (q_gw w1 w2)) (hd : 9 ≤ d) (hk : k ≤ mc) (hn : n ≤ ms) (hp : pos + 1 = pos')
    (hJ : q_J g M d mc ms h0 mv Q k n (q_kc X I E pos' ls (.int (q_sidx (q_str 180) 0 i) :: r) lI lE)) : q_J g M d mc ms h0 mv Q k n (q_kc X I E pos ls (.int i :: .ref 180 :: r) lI lE) := by
  sorry
end QEXT
