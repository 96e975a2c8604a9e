/-! MATH: the loft is swept, on both sides -/
/-- those of the loft that l lacks, up to place p, are gone -/
noncomputable def m_sx (l : List Nat) (sw sp : m_Rr) (p : Nat) : m_Rr := fun b =>
  @ite _ (sw b = 2 ∧ b ∉ l ∧ ∃ q, q < p ∧ sp b = nI q) (Classical.propDecidable _) 0 (sw b)
theorem m_sx_y {l : List Nat} {sw sp : m_Rr} {p b : Nat} (h : sw b = 2 ∧ b ∉ l ∧ ∃ q, q < p ∧ sp b = nI q) : m_sx l sw sp p b = 0 := by unfold m_sx; exact if_pos h
theorem m_sx_n {l : List Nat} {sw sp : m_Rr} {p b : Nat} (h : ¬ (sw b = 2 ∧ b ∉ l ∧ ∃ q, q < p ∧ sp b = nI q)) : m_sx l sw sp p b = sw b := by unfold m_sx; exact if_neg h
/-- no bale that goes begins here -/
theorem m_sx_skip {l : List Nat} {sw sp : m_Rr} {p : Nat} (h : ∀ b, sw b = 2 → b ∉ l → ¬ sp b = nI p) : m_sx l sw sp (p + 1) = m_sx l sw sp p := by
  funext b
  by_cases e : sw b = 2 ∧ b ∉ l ∧ ∃ q, q < p ∧ sp b = nI q
  · rw [m_sx_y e]
    obtain ⟨x1, x2, q, x3, x4⟩ := e
    exact m_sx_y ⟨x1, x2, q, by omega, x4⟩
  · rw [m_sx_n e]
    refine m_sx_n (fun ⟨x1, x2, q, x3, x4⟩ => e ⟨x1, x2, q, ?_, x4⟩)
    by_cases hq : q = p
    · subst hq; exact absurd x4 (h b x1 x2)
    · omega
theorem m_sx_one {l : List Nat} {sw sp : m_Rr} {p b : Nat} (hb1 : sw b = 2) (hb2 : b ∉ l) (hb3 : sp b = nI p) (h : ∀ c, sw c = 2 → c ∉ l → sp c = nI p → c = b) : m_sx l sw sp (p + 1) = q_up (m_sx l sw sp p) b 0 := by
  funext c
  rw [m_up_of]
  by_cases hc : c = b
  · subst hc
    rw [if_pos rfl]
    exact m_sx_y ⟨hb1, hb2, p, by omega, hb3⟩
  · rw [if_neg hc]
    by_cases e : sw c = 2 ∧ c ∉ l ∧ ∃ q, q < p ∧ sp c = nI q
    · rw [m_sx_y e]
      obtain ⟨x1, x2, q, x3, x4⟩ := e
      exact m_sx_y ⟨x1, x2, q, by omega, x4⟩
    · rw [m_sx_n e]
      refine m_sx_n (fun ⟨x1, x2, q, x3, x4⟩ => e ⟨x1, x2, q, ?_, x4⟩)
      by_cases hq : q = p
      · subst hq; exact absurd (h c x1 x2 x4) hc
      · omega
/-- the class: place by place -/
theorem m_sweepC {m : Nat} {pn pl sz nd sw sp ss : m_Rr} {l : List Nat} (hpn : pn 1 = nI m) (hE : ∀ b, b < 128 → sp b = pl b ∧ ss b = sz b) (hL : ∀ b, b < 128 → (b ∈ l ↔ nd b ≠ -1)) (hx8 : ∀ b, sw b = 2 → b < 128) : ∀ (n p fu : Nat) (lyp lop lrp : m_Rr) (lost : Int32), p + n = m → n < fu → m_Lf m lrp (m_sx l sw sp p) sp ss → (∀ b, b < 128 → lyp b = m_sx l sw sp p b) → lop 1 = nI m → lop 2 = m_sm (fun i => m_sx l sw sp p i = 2) (fun _ => 1) 136 →
    ∃ ly' lo' lr' x, f_X2_sweep_L6 pn pl sz nd fu lyp lop lrp lost (nI p) = some (x, ly', lo', lr') ∧ m_Lf m lr' (m_sx l sw sp m) sp ss ∧ (∀ b, b < 128 → ly' b = m_sx l sw sp m b) ∧ lo' 1 = nI m ∧ lo' 2 = m_sm (fun i => m_sx l sw sp m i = 2) (fun _ => 1) 136 ∧ x + lo' 2 = lost + lop 2 := by
  intro n
  induction n with
  | zero =>
    intro p fu lyp lop lrp lost hp hfu hLf hly ho1 ho2
    obtain rfl : p = m := by omega
    obtain ⟨fu, rfl⟩ : ∃ z, fu = z + 1 := ⟨fu - 1, by omega⟩
    refine ⟨lyp, lop, lrp, lost, ?_, hLf, hly, ho1, ho2, rfl⟩
    rw [f_X2_sweep_L6, hpn, if_pos (nI_le (Nat.le_refl _) (by have := hLf.1; omega))]
  | succ n ih =>
    intro p fu lyp lop lrp lost hp hfu hLf hly ho1 ho2
    obtain ⟨fu, rfl⟩ : ∃ z, fu = z + 1 := ⟨fu - 1, by omega⟩
    have m64 := hLf.1
    have eat : f_X5_at lop lrp (nI p) = some (lrp p) := m_loftAt ho1 m64 (by omega)
    have alive : ∀ b, sw b = 2 → b ∉ l → sp b = nI p → m_sx l sw sp p b = 2 := fun b x1 x2 x3 => by
      rw [m_sx_n]; exact x1
      rintro ⟨-, -, q, y1, y2⟩
      have := (nI_eq (by omega) (by omega)).mp (y2.symm.trans x3)
      omega
    have cell : ∀ b, sw b = 2 → b ∉ l → sp b = nI p → lrp p = nI b := fun b x1 x2 x3 => by
      obtain ⟨p', s', b1, b2, b3, b4, b5⟩ := hLf.2.1 b (by have := hx8 b x1; omega) (alive b x1 x2 x3)
      obtain rfl : p' = p := (nI_eq (by omega) (by omega)).mp (b1.symm.trans x3)
      exact b5 _ (Nat.le_refl _) (by omega)
    have skip : (∀ b, sw b = 2 → b ∉ l → ¬ sp b = nI p) → f_X2_sweep_L6 pn pl sz nd (fu + 1) lyp lop lrp lost (nI p) = f_X2_sweep_L6 pn pl sz nd fu lyp lop lrp lost (nI (p + 1)) →
        ∃ ly' lo' lr' x, f_X2_sweep_L6 pn pl sz nd (fu + 1) lyp lop lrp lost (nI p) = some (x, ly', lo', lr') ∧ m_Lf m lr' (m_sx l sw sp m) sp ss ∧ (∀ b, b < 128 → ly' b = m_sx l sw sp m b) ∧ lo' 1 = nI m ∧ lo' 2 = m_sm (fun i => m_sx l sw sp m i = 2) (fun _ => 1) 136 ∧ x + lo' 2 = lost + lop 2 := fun hno he => by
      have e := m_sx_skip hno
      rw [he]
      exact ih (p + 1) fu lyp lop lrp lost (by omega) (by omega) (by rw [e]; exact hLf) (by rw [e]; exact hly) ho1 (by rw [ho2, e])
    rcases hLf.2.2 p (by omega) with hm | ⟨b, hb, hsw, hm, p', s', hp', hs', hps, hpp, hpq⟩
    · refine skip (fun b x1 x2 x3 => m_nI_m1 (by have := hx8 b x1; omega) ((cell b x1 x2 x3).symm.trans hm)) ?_
      have ebl : f_X2_loftBaleFrom pl lop lrp (nI p) = some (-1) := by
        unfold f_X2_loftBaleFrom
        rw [eat, Option.bind_some, if_pos hm]
      rw [f_X2_sweep_L6, hpn, if_neg (nI_ge (by omega) (by omega)), ebl, Option.bind_some, if_pos rfl, nI_1]
    · have ebl : f_X2_loftBaleFrom pl lop lrp (nI p) = some (if p' = p then nI b else -1) := by
        unfold f_X2_loftBaleFrom
        rw [eat, Option.bind_some, hm, if_neg (m_nI_m1 (by omega)), m_place hb, Option.bind_some, ← (hE b hb).1, hp']
        by_cases e : p' = p
        · rw [e, if_neg (fun h2 => h2 rfl), if_pos rfl]
        · rw [if_pos (fun h2 => e ((nI_eq (by omega) (by omega)).mp h2)), if_neg e]
      have hsw2 : sw b = 2 := by
        by_cases e : sw b = 2 ∧ b ∉ l ∧ ∃ q, q < p ∧ sp b = nI q
        · exact e.1
        · rw [m_sx_n e] at hsw; exact hsw
      by_cases e : p' = p
      · subst e
        rw [if_pos rfl] at ebl
        by_cases hbl : b ∈ l
        · refine skip (fun c x1 x2 x3 => ?_) ?_
          · obtain rfl : c = b := (nI_eq (by have := hx8 c x1; omega) (by omega)).mp ((cell c x1 x2 x3).symm.trans hm)
            exact x2 hbl
          · rw [f_X2_sweep_L6, hpn, if_neg (nI_ge (by omega) (by omega)), ebl, Option.bind_some, if_neg (m_nI_m1 (by omega)), m_lhas hb, Option.bind_some, if_pos, nI_1]
            have := (hL b hb).mp hbl
            simp only [this, not_false_eq_true, decide_true]
            decide
        · have hone := m_sx_one hsw2 hbl hp' (fun c x1 x2 x3 => (nI_eq (by have := hx8 c x1; omega) (by omega)).mp ((cell c x1 x2 x3).symm.trans hm))
          have hs1 : 1 ≤ s' := by omega
          obtain ⟨ly', lo', lr', x, a1, a2, a3, a4, a5, a6⟩ := ih (p' + 1) fu (q_up lyp b 0) (q_up lop 2 (lop 2 + -1)) (m_put lrp p' s' (-1)) (lost + 1) (by omega) (by omega)
            (by rw [hone]; exact m_Lf_out hLf hb hsw hp' hs' hps (by decide))
            (by
              rw [hone]
              intro c hc
              rw [m_up_of, m_up_of, hly c hc])
            (by rw [m_up_n (by decide)]; exact ho1)
            (by
              rw [m_up_s, ho2, hone]
              have := m_sm_in (n := 136) (p := fun i => q_up (m_sx l sw sp p') b 0 i = 2) (q := fun i => m_sx l sw sp p' i = 2) (f := fun _ => 1) (g := fun _ => 1) (b := b) (by show ¬ q_up (m_sx l sw sp p') b 0 b = 2; rw [m_up_s]; decide) hsw (by omega) (fun i _ hi => by rw [m_up_n hi]) (fun _ _ _ _ => rfl)
              rw [this]
              show m_sm (fun i => q_up (m_sx l sw sp p') b 0 i = 2) (fun _ => 1) 136 + 1 + -1 = _
              rw [Int32.add_assoc, show (1 : Int32) + -1 = 0 from rfl, Int32.add_zero])
          refine ⟨ly', lo', lr', x, ?_, a2, a3, a4, a5, ?_⟩
          · rw [f_X2_sweep_L6, hpn, if_neg (nI_ge (by omega) (by omega)), ebl, Option.bind_some, if_neg (m_nI_m1 (by omega)), m_lhas hb, Option.bind_some, if_neg, m_size hb, Option.bind_some, ← (hE b hb).2, hs', m_lay m64 ho1 hps, Option.bind_some, m_remove hb, Option.bind_some, if_pos rfl, nI_1]
            · exact a1
            · have h1 : nd b = -1 := Classical.not_not.mp (fun h => hbl ((hL b hb).mpr h))
              simp only [h1, not_true_eq_false, decide_false]
              decide
          · rw [a6, m_up_s, Int32.add_assoc, Int32.add_comm 1, Int32.add_assoc, show (-1 : Int32) + 1 = 0 from rfl, Int32.add_zero]
      · rw [if_neg e] at ebl
        refine skip (fun c x1 x2 x3 => ?_) ?_
        · obtain rfl : c = b := (nI_eq (by have := hx8 c x1; omega) (by omega)).mp ((cell c x1 x2 x3).symm.trans hm)
          exact e ((nI_eq (by omega) (by omega)).mp (hp'.symm.trans x3))
        · rw [f_X2_sweep_L6, hpn, if_neg (nI_ge (by omega) (by omega)), ebl, Option.bind_some, if_pos rfl, nI_1]
/-- the reference: bale by bale -/
def m_sr (mi sw : m_Rr) (i : Nat) : m_Rr := fun b => if b < i ∧ sw b = 2 ∧ mi b = 0 then 0 else sw b
theorem m_sr_c {mi sw : m_Rr} {i : Nat} : m_sr mi sw i i = sw i := by unfold m_sr; exact if_neg (fun h => by omega)
theorem m_sr_0 {mi sw : m_Rr} : m_sr mi sw 0 = sw := by funext b; unfold m_sr; exact if_neg (fun h => by omega)
theorem m_sr_n {mi sw : m_Rr} {i : Nat} (hno : ¬ (sw i = 2 ∧ mi i = 0)) : m_sr mi sw (i + 1) = m_sr mi sw i := by
  funext b
  unfold m_sr
  by_cases h1 : b < i ∧ sw b = 2 ∧ mi b = 0
  · rw [if_pos h1, if_pos ⟨by omega, h1.2⟩]
  · rw [if_neg h1, if_neg (fun h => h1 ⟨by
      have : b ≠ i := fun e => hno (by rw [← e]; exact h.2)
      omega, h.2⟩)]
theorem m_sr_y {mi sw : m_Rr} {i : Nat} (h2 : sw i = 2 ∧ mi i = 0) : q_up (m_sr mi sw i) i 0 = m_sr mi sw (i + 1) := by
  funext b
  rw [m_up_of]
  unfold m_sr
  by_cases hb : b = i
  · subst hb; rw [if_pos rfl, if_pos ⟨by omega, h2⟩]
  · rw [if_neg hb]
    by_cases h1 : b < i ∧ sw b = 2 ∧ mi b = 0
    · rw [if_pos h1, if_pos ⟨by omega, h1.2⟩]
    · rw [if_neg h1, if_neg (fun h => h1 ⟨by omega, h.2⟩)]
def m_n2 (f : m_Rr) : Int32 := m_sm (fun b => f b = 2) (fun _ => 1) 136
theorem m_n2_up {f : m_Rr} {i : Nat} (hi : i < 136) (h : f i = 2) : m_n2 (q_up f i 0) + 1 = m_n2 f := by
  have := m_sm_in (n := 136) (p := fun b => q_up f i 0 b = 2) (q := fun b => f b = 2) (f := fun _ => 1) (g := fun _ => 1) (b := i) (by show ¬ q_up f i 0 i = 2; rw [m_up_s]; decide) h hi (fun c _ hc => by rw [m_up_n hc]) (fun _ _ _ _ => rfl)
  exact this.symm
theorem m_sweepR {mi sw : m_Rr} : ∀ (n i fu : Nat) (lost : Int32), i + n = 136 → n < fu → lost + m_n2 (m_sr mi sw i) = m_n2 sw →
    ∃ x, f_X14_sweep_L6 mi fu (m_sr mi sw i) lost (nI i) = some (x, m_sr mi sw 136) ∧ x + m_n2 (m_sr mi sw 136) = m_n2 sw := by
  intro n
  induction n with
  | zero =>
    intro i fu lost hi hfu hs
    obtain ⟨fu, rfl⟩ : ∃ z, fu = z + 1 := ⟨fu - 1, by omega⟩
    obtain rfl : i = 136 := by omega
    exact ⟨lost, by rw [f_X14_sweep_L6, if_pos (show (136 : Int32) ≤ nI 136 from nI_le (Nat.le_refl _) (by decide))], hs⟩
  | succ n ih =>
    intro i fu lost hi hfu hs
    obtain ⟨fu, rfl⟩ : ∃ z, fu = z + 1 := ⟨fu - 1, by omega⟩
    rw [f_X14_sweep_L6, if_neg (show ¬ (136 : Int32) ≤ nI i from nI_ge (b := 136) (by omega) (by decide)), q_ix_nI (by omega) (by decide), Option.bind_some, m_sr_c, Option.bind_some, Option.bind_some, nI_1]
    by_cases h2 : sw i = 2
    · rw [if_neg (fun h => h h2)]
      by_cases h3 : mi i = 0
      · rw [if_pos h3, m_sr_y ⟨h2, h3⟩]
        refine ih (i + 1) fu (lost + 1) (by omega) (by omega) ?_
        have := m_n2_up (f := m_sr mi sw i) (i := i) (by omega) (by rw [m_sr_c]; exact h2)
        rw [← hs, ← this, m_sr_y ⟨h2, h3⟩, Int32.add_assoc, Int32.add_comm 1]
      · rw [if_neg h3]
        have e := m_sr_n (mi := mi) (sw := sw) (i := i) (fun h => h3 h.2)
        have := ih (i + 1) fu lost (by omega) (by omega) (by rw [e]; exact hs)
        rw [e] at this
        exact this
    · rw [if_pos h2]
      have e := m_sr_n (mi := mi) (sw := sw) (i := i) (fun h => h2 h.1)
      have := ih (i + 1) fu lost (by omega) (by omega) (by rw [e]; exact hs)
      rw [e] at this
      exact this
