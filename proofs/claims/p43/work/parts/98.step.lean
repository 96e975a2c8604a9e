/-! MATH: a step's line, on both sides -/
theorem m_iteb {α β : Type} {c : Prop} [Decidable c] {a b : Option α} {g : α → Option β} : (if c then a else b).bind g = if c then a.bind g else b.bind g := by split <;> rfl
section
variable {tp mt tk ts tl tv kn mf mm hn : m_Rr} {z n : Nat} {tg : Nat → Option Nat} {V0 : m_V} {H t : Nat} {qn qu rd md mr mp ps pt pe pc pw : m_Rr} {qd : Nat → Option Nat} {oc cs op s : Nat} {T2 : Nat → m_Rr} {K2 : Nat → Nat → Option Nat}
theorem m_csEq {x1 j : Nat} (hx : x1 < 49) (hj : j < 20) {qn2 : m_Rr} {T0 : Nat → m_Rr} {K0 : Nat → Nat → Option Nat} (ha : f_X6_addStep qn T2 K2 x1 = some (j, qn2, T0, K0)) {rd0 : m_Rr} (hr : (if qn 4 < 20 then some rd else f_X7_blame rd 4 (rd 3)) = some rd0) : f_X7_readStep qn qu rd hn tk tv qd tg T2 K2 x1 = (m_cS hn tk tv tg x1 j qn2 qu rd0 qd T0).bind fun a => some (a.1, a.2.1, a.2.2.1, a.2.2.2.1, a.2.2.2.2, K0) := by
  have ht : q_t20 j = some () := by unfold q_t20; rw [if_pos hj]
  unfold f_X7_readStep m_cS m_cR m_cW
  rw [m_e49 hx, Option.bind_some, ha]
  by_cases h : qn 4 < 20
  · rw [if_pos h] at hr
    obtain rfl : rd = rd0 := Option.some.inj hr
    rw [if_pos h, Option.bind_some]
    dsimp only
    rw [ht, Option.bind_some]
    simp only [m_iteb, Option.bind_assoc, Option.bind_some]
  · rw [if_neg h] at hr
    rw [if_neg h, hr, Option.bind_some, Option.bind_some]
    dsimp only
    rw [ht, Option.bind_some]
    simp only [m_iteb, Option.bind_assoc, Option.bind_some]
theorem m_sumTE {x : Int32} (h : rd 4 = 1) : f_X7_readSum (k_readValue 12) (k_readSum 12) qn qu rd hn tk tv qd tg x = some (qn, qu, rd, qd) := by
  unfold f_X7_readSum f_X7_readProduct
  rw [m_cvE h, Option.bind_some]
  dsimp only
  rw [m_proE h, Option.bind_some]
  dsimp only
  rw [Option.bind_some]
  dsimp only
  rw [m_sumE h]; rfl
theorem m_cRE {j : Nat} {T : Nat → m_Rr} (h : rd 4 = 1) : ∃ T', m_cR hn tk tv tg s j qn qu rd qd T = some (qn, qu, rd, qd, T') := by
  unfold m_cR
  by_cases h9 : s = 9
  · rw [if_pos h9, m_takeE h (by decide) (by decide), Option.bind_some]
    dsimp only
    rw [m_sumTE h, Option.bind_some]
    dsimp only
    rw [m_ropeE h (by decide) (by decide)]
    exact ⟨_, rfl⟩
  · rw [if_neg h9]
    by_cases h10 : s = 10
    · rw [if_pos h10, m_ropeE h (by decide) (by decide), Option.bind_some]
      dsimp only
      rw [m_takeE h (by decide) (by decide), Option.bind_some]
      dsimp only
      rw [m_hookE h]
      exact ⟨_, rfl⟩
    · rw [if_neg h10]
      by_cases h11 : s = 11
      · rw [if_pos h11, m_ropeE h (by decide) (by decide)]
        exact ⟨_, rfl⟩
      · rw [if_neg h11]
        by_cases h12 : s = 12
        · rw [if_pos h12, m_takeE h (by decide) (by decide), Option.bind_some]
          dsimp only
          rw [m_hookE h, Option.bind_some]
          dsimp only
          rw [m_ropeE h (by decide) (by decide)]
          exact ⟨_, rfl⟩
        · rw [if_neg h12]
          exact ⟨_, rfl⟩
theorem m_eo2 {mq pd po pq pr ve : m_Rr} {ns : Nat} (ht : t < 401) (hm : mq 4 = nI ns) (hs : ns < 20) : m_eo mt kn mf mm (q_up mr t 2) (ve, mq, pd, po, pq, pr) t = some (0, (ve, q_up mq 4 (nI (ns + 1)), q_up pd ns (kn t), po, pq, pr)) := by
  have q : q_ix (nI t) 401 = some t := q_ix_nI ht (by decide)
  unfold m_eo f_X15_errorOf f_X15_newStep
  rw [q, Option.bind_some, m_up_s, if_neg (by decide), if_neg (by decide), if_pos rfl, Option.bind_some]
  dsimp only
  rw [if_pos (show ¬ mq 4 = (20 : Int32) from fun e => absurd ((nI_eq (b := 20) (by omega) (by decide)).mp (hm.symm.trans e)) (by omega)), hm, q_ix_nI hs (by decide), Option.bind_some, nI_1]; rfl
theorem m_eo2E {mq pd po pq pr ve : m_Rr} (ht : t < 401) (hm : mq 4 = 20) : m_eo mt kn mf mm (q_up mr t 2) (ve, mq, pd, po, pq, pr) t = some (4, (ve, mq, pd, po, pq, pr)) := by
  have q : q_ix (nI t) 401 = some t := q_ix_nI ht (by decide)
  unfold m_eo f_X15_errorOf f_X15_newStep
  rw [q, Option.bind_some, m_up_s, if_neg (by decide), if_neg (by decide), if_pos rfl, Option.bind_some]
  dsimp only
  rw [if_neg (show ¬ ¬ mq 4 = (20 : Int32) from fun y => y hm)]; rfl
/-- the word of a step, on both sides -/
theorem m_St_step (hF : m_TF tp mt z n tk tg ts tl tv kn mf mm) {mq pd po pq pr : m_Rr} {ns j : Nat} {Q : m_Rr → Prop} (h3 : rd 3 = nI t) (ht : t < n) (hj : ∀ ns, ns < 20 → qn 4 = nI ns → j = ns) (h : m_St mt kn mf mm tg tv hn V0 (mq, pd, po, pq, pr) H rd mr pc pw op cs t Q) (hQ : ∀ v, Q v → qn 4 = nI ns ∧ mq 4 = nI ns ∧ ns ≤ 20) :
    ∃ rd0, (if qn 4 < 20 then some rd else f_X7_blame rd 4 (rd 3)) = some rd0 ∧ rd0 3 = nI t ∧ ∀ rd1 : m_Rr, rd1 4 = rd0 4 → rd1 5 = rd0 5 → m_St mt kn mf mm tg tv hn V0 (q_up mq 4 (nI (j + 1)), q_up pd j (kn t), po, pq, pr) H rd1 (q_up mr t 2) pc pw op cs (t + 1) (fun v => Q v ∧ j = ns ∧ ns < 20) := by
  have n400 : n ≤ 400 := hF.2.2.1
  have cg : m_p2 mt kn mf mm (q_up mr t 2) V0 t = m_p2 mt kn mf mm mr V0 t := m_p2_congr (by omega) (fun j hj => m_up_n (by omega))
  rcases h with ⟨b1, b2, j', V, b3, b4, b5⟩ | ⟨b1, ve, vpc, b3, b4, b5, b6⟩
  · have e : (if qn 4 < 20 then some rd else f_X7_blame rd 4 (rd 3)) = some rd := by
      by_cases h : qn 4 < 20
      · rw [if_pos h]
      · rw [if_neg h]
        unfold f_X7_blame
        rw [if_pos b1]
    refine ⟨rd, e, h3, fun rd1 r4 r5 => Or.inl ⟨by rw [r4]; exact b1, by rw [r4]; exact b2, j', V, by rw [r4]; exact m_p2_err (cg.trans b3) b1, by rw [r5]; exact b4, by omega⟩⟩
  · obtain ⟨q1, q2, q3⟩ := hQ _ b6
    rcases Nat.lt_or_ge ns 20 with h20 | h20
    · have lt : qn 4 < 20 := by rw [q1]; exact nI_lt (b := 20) h20 (by decide)
      have hjn : j = ns := hj ns h20 q1
      subst hjn
      refine ⟨rd, by rw [if_pos lt], h3, fun rd1 r4 r5 => Or.inr ⟨by rw [r4]; exact b1, ve, vpc, m_p2_ok (cg.trans b3) (m_eo2 (by omega) q2 h20), m_Hk_s (by decide) b4, m_Pt_s b5 (fun _ _ => rfl), b6, rfl, h20⟩⟩
    · obtain rfl : ns = 20 := by omega
      have nlt : ¬ qn 4 < 20 := by rw [q1]; decide
      refine ⟨q_up (q_up rd 4 4) 5 (nI t), ?_, ?_, fun rd1 r4 r5 => Or.inl ?_⟩
      · rw [if_neg nlt]
        unfold f_X7_blame
        rw [if_neg (fun y => y b1), h3]
      · rw [m_up_n (by decide), m_up_n (by decide)]; exact h3
      · have e4 : rd1 4 = 4 := by rw [r4, m_up_n (by decide), m_up_s]
        have e5 : rd1 5 = nI t := by rw [r5, m_up_s]
        exact ⟨by rw [e4]; decide, by rw [e4]; decide, t, _, by rw [e4]; exact m_p2_bad (cg.trans b3) (m_eo2E (by omega) q2) (by decide), e5, by omega⟩
end
