/-! MATH: what stands behind the first hook of a step, on both sides -/
/-- the class: behind the hook -/
def m_cR (hn tk tv : m_Rr) (tg : Nat → Option Nat) (x1 j : Nat) (qn qu rd : m_Rr) (qd : Nat → Option Nat) (T : Nat → m_Rr) : Option (m_Rr × m_Rr × m_Rr × (Nat → Option Nat) × (Nat → m_Rr)) :=
  if x1 = 9 then (f_X7_take rd tk tg 25).bind fun r7 => (f_X7_readSum (k_readValue 12) (k_readSum 12) qn qu r7.2 hn tk tv qd tg 0).bind fun r8 => (f_X7_readRope r8.2.2.1 tk tv tg 14).bind fun r9 => some (r8.1, r8.2.1, r9.2, r8.2.2.2, q_u2 (q_u2 (q_u2 T j 4 (qn 5)) j 5 (r8.1 5)) j 3 r9.1)
  else if x1 = 10 then (f_X7_readRope rd tk tv tg 15).bind fun r16 => (f_X7_take r16.2 tk tg 16).bind fun r17 => (f_X7_readHook qn r17.2 hn tk tv tg).bind fun r18 => some (qn, qu, r18.2, qd, q_u2 (q_u2 T j 3 r16.1) j 2 r18.1)
  else if x1 = 11 then (f_X7_readRope rd tk tv tg 15).bind fun r25 => some (qn, qu, r25.2, qd, q_u2 T j 3 r25.1)
  else if x1 = 12 then (f_X7_take rd tk tg 17).bind fun r32 => (f_X7_readHook qn r32.2 hn tk tv tg).bind fun r33 => (f_X7_readRope r33.2 tk tv tg 15).bind fun r34 => some (qn, qu, r34.2, qd, q_u2 (q_u2 T j 2 r33.1) j 3 r34.1)
  else some (qn, qu, rd, qd, T)
/-- the class: WHEN -/
def m_cW (hn tk tv : m_Rr) (tg : Nat → Option Nat) (j : Nat) (qn qu rd : m_Rr) (qd : Nat → Option Nat) (T : Nat → m_Rr) : Option (m_Rr × m_Rr × m_Rr × (Nat → Option Nat) × (Nat → m_Rr)) :=
  (f_X7_sign rd tk tg).bind fun r10 => (q_e49 r10).bind fun _ => if r10 = 19 then (f_X7_readTest (k_readSingle 12) (k_readTest 12) (k_readValue 12) (k_readSum 12) qn qu (q_up rd 3 ((rd 3) + 1)) hn tk tv qd tg 0).bind fun r14 => some (r14.1, r14.2.1, r14.2.2.1, r14.2.2.2, q_u2 (q_u2 T j 6 (qn 5)) j 7 (r14.1 5)) else some (qn, qu, rd, qd, T)
/-- the class: a step, where the plan has room for it -/
def m_cS (hn tk tv : m_Rr) (tg : Nat → Option Nat) (x1 j : Nat) (qn qu rd : m_Rr) (qd : Nat → Option Nat) (T : Nat → m_Rr) : Option (m_Rr × m_Rr × m_Rr × (Nat → Option Nat) × (Nat → m_Rr)) :=
  (f_X7_readHook qn (q_up rd 3 ((rd 3) + 1)) hn tk tv tg).bind fun r5 => (m_cR hn tk tv tg x1 j qn qu r5.2 qd (q_u2 T j 1 r5.1)).bind fun a => m_cW hn tk tv tg j a.1 a.2.1 a.2.2.1 a.2.2.2.1 a.2.2.2.2
theorem m_u2_s {α : Type} {T : Nat → Nat → α} {j i : Nat} {x : α} : q_u2 T j i x j i = x := q_u2_s T j i x
theorem m_u2_i {α : Type} {T : Nat → Nat → α} {j i i' : Nat} {x : α} (h : i' ≠ i) : q_u2 T j i x j i' = T j i' := q_u2_j T j i x j i' h
theorem m_u2_j {α : Type} {T : Nat → Nat → α} {j j' i : Nat} {x : α} (h : j' ≠ j) : q_u2 T j i x j' = T j' := q_u2_row T j i x j' h
section
variable {hn tk tv : m_Rr} {tg : Nat → Option Nat} {qn qu rd : m_Rr} {qd : Nat → Option Nat}
theorem m_add {T2 : Nat → m_Rr} {K2 : Nat → Nat → Option Nat} {x1 : Nat} (hx : x1 < 49) : ∃ j, j < 20 ∧ f_X6_addStep qn T2 K2 x1 = some (j, q_up qn 4 (nI (j + 1)), q_u2 (q_u2 (q_u2 (q_u2 (q_u2 (q_u2 (q_u2 T2 j 1 0) j 2 0) j 3 0) j 4 0) j 5 0) j 6 0) j 7 0, q_u2 K2 j 0 (some x1)) ∧ (∀ ns, ns < 20 → qn 4 = nI ns → j = ns) := by
  have e : ∃ j, j < 20 ∧ q_min (q_max (qn 4) 0) 19 = nI j ∧ (∀ ns, ns < 20 → qn 4 = nI ns → j = ns) := by
    by_cases h0 : qn 4 < 0
    · refine ⟨0, by decide, ?_, fun ns h1 h2 => absurd (h2 ▸ h0) (nI_pos (by omega))⟩
      unfold q_max q_min
      rw [if_pos h0]; rfl
    · have hm : q_max (qn 4) 0 = qn 4 := by unfold q_max; rw [if_neg h0]
      rw [hm]
      obtain ⟨a, a1, a2⟩ := nI_of h0
      by_cases h19 : a < 20
      · refine ⟨a, h19, ?_, fun ns h1 h2 => (nI_eq (by omega) (by omega)).mp (a2.symm.trans h2)⟩
        rw [a2]
        unfold q_min
        rw [if_neg (show ¬ (19 : Int32) < nI a from m_nlt (a := 19) (b := a) (by omega) (by decide))]
      · refine ⟨19, by decide, ?_, fun ns h1 h2 => absurd ((nI_eq (by omega) (by omega)).mp (a2.symm.trans h2)) (by omega)⟩
        unfold q_min
        rw [a2, if_pos (show (19 : Int32) < nI a from nI_lt (a := 19) (by omega) a1)]; rfl
  obtain ⟨j, j1, j2, j3⟩ := e
  refine ⟨j, j1, ?_, j3⟩
  unfold f_X6_addStep
  rw [m_e49 hx, Option.bind_some, j2, q_ix_nI j1 (by decide), Option.bind_some]
  unfold f_X10_clear
  rw [show q_t20 j = some () by unfold q_t20; rw [if_pos j1], m_e49 hx, nI_1]; rfl
end
