/-! THE CLASS AT REST, in the law's heap; what it answers -/
def la_scB (a : Nat) : Bool := (Nat.ble 467 a && Nat.ble a 469) || (Nat.ble 473 a && Nat.ble a 491)
/-- looked at: nothing but rows to work in has changed -/
def la_lk (h h' : q_H) : Prop := q_nx h' = q_nx h ∧ q_sh h' = q_sh h ∧ q_R h' = q_R h ∧ q_E h' = q_E h ∧ q_L h' = q_L h ∧ ∀ a, la_scB a = false → q_I h' a = q_I h a
/-- the counters of the class -/
def lc_Ct (G : Nat) (bn : m_Rr) : Prop := ∃ g p q, bn 10 = nI g ∧ bn 12 = nI p ∧ bn 11 = nI q ∧ q ≤ g ∧ bn 9 = nI (p % 2) ∧ g ≤ G ∧ p ≤ G
abbrev la_m (H m hf : Nat) (hL : List Nat) (h : q_H) (st sh sw sp ss sr sa sd : m_Rr) : Prop := m_R H m hf hL (q_I h 457) (q_I h 459) (q_I h 460) (q_I h 461) (q_I h 462) (q_I h 463) (q_I h 464) (q_I h 465) (q_I h 466) (q_I h 470) (q_I h 471) st sh sw sp ss sr sa sd
def lc_S (H m hf G : Nat) (h : q_H) : Prop := (z_Cls h ∧ z_Sep h) ∧ ((0 < H ∧ H ≤ 6) ∧ hf ≤ 32 ∧ m ≤ 64) ∧ (∃ mp, m_Pl H m hf (q_I h 402) mp) ∧ (∃ hL st sh sw sp ss sr sa sd, la_m H m hf hL h st sh sw sp ss sr sa sd) ∧ lc_Ag (q_I h 457) (q_I h 459) (q_I h 462) ∧ lc_Ct G (q_I h 457)
section LCS
variable {g : q_G} {d H m hf G : Nat} {h h1 h' : q_H}
theorem la_lk_r : la_lk h h := ⟨rfl, rfl, rfl, rfl, rfl, fun _ _ => rfl⟩
theorem la_lk_t (a : la_lk h h1) (b : la_lk h1 h') : la_lk h h' := by
  obtain ⟨a1, a2, a3, a4, a5, a6⟩ := a
  obtain ⟨b1, b2, b3, b4, b5, b6⟩ := b
  exact ⟨b1.trans a1, b2.trans a2, b3.trans a3, b4.trans a4, b5.trans a5, fun x hx => (b6 x hx).trans (a6 x hx)⟩
theorem la_ws_n {I : Nat → m_Rr} {a : Nat} : ∀ {l : List (Nat × m_Rr)}, (l.all fun q => la_scB q.1) = true → la_scB a = false → q_ws I l a = I a
  | [], _, _ => rfl
  | q :: t, hl, ha => by
    rw [List.all_cons, Bool.and_eq_true] at hl
    show q_ur (q_ws I t) q.1 q.2 a = I a
    rw [q_ur_n _ _ _ (fun e => by rw [e, hl.1] at ha; cases ha)]
    exact la_ws_n (l := t) hl.2 ha
theorem la_lk_j {l : List (Nat × m_Rr)} (hl : (l.all fun q => la_scB q.1) = true) : la_lk h (q_jI h l) := ⟨rfl, rfl, rfl, rfl, rfl, fun _ ha => la_ws_n hl ha⟩
theorem la_j0 : q_jI h [] = h := rfl
theorem la_lk_Cls (e : la_lk h h') (hC : z_Cls h ∧ z_Sep h) : z_Cls h' ∧ z_Sep h' := by
  obtain ⟨e1, e2, e3, e4, e5, e6⟩ := e
  obtain ⟨⟨c1, c2⟩, c3⟩ := hC
  exact ⟨⟨by rw [e1]; exact c1, fun a ha => by rw [e2, e3]; exact c2 a ha⟩, fun a j b ha hb => c3 a j b ha (by rw [← e3]; exact hb)⟩
theorem la_m_lk (e : la_lk h h') {hL : List Nat} {st sh sw sp ss sr sa sd : m_Rr} (hR : la_m H m hf hL h st sh sw sp ss sr sa sd) : la_m H m hf hL h' st sh sw sp ss sr sa sd := by
  have r := e.2.2.2.2.2
  show m_R H m hf hL (q_I h' 457) (q_I h' 459) (q_I h' 460) (q_I h' 461) (q_I h' 462) (q_I h' 463) (q_I h' 464) (q_I h' 465) (q_I h' 466) (q_I h' 470) (q_I h' 471) st sh sw sp ss sr sa sd
  rw [r 457 rfl, r 459 rfl, r 460 rfl, r 461 rfl, r 462 rfl, r 463 rfl, r 464 rfl, r 465 rfl, r 466 rfl, r 470 rfl, r 471 rfl]
  exact hR
theorem lc_S_lk (e : la_lk h h') (hS : lc_S H m hf G h) : lc_S H m hf G h' := by
  obtain ⟨s1, s2, s3, s4, s5, s6⟩ := hS
  have r := e.2.2.2.2.2
  refine ⟨la_lk_Cls e s1, s2, ?_, ?_, ?_, ?_⟩
  · rw [r 402 rfl]; exact s3
  · obtain ⟨hL, st, sh, sw, sp, ss, sr, sa, sd, hR⟩ := s4
    exact ⟨hL, st, sh, sw, sp, ss, sr, sa, sd, la_m_lk e hR⟩
  · rw [r 457 rfl, r 459 rfl, r 462 rfl]; exact s5
  · rw [r 457 rfl]; exact s6
theorem lk_of {M : q_M} {c s : Nat} {As : List Value} {x : Int32} (hC : q_Ct g M d c s [] As h (fun o h' => o = .inl (some (.int x)) ∧ h' = q_jI h [])) : q_Ct g M d c s [] As h (fun o h' => ∃ y, o = .inl (some (.int y)) ∧ y = x ∧ h' = h) :=
  q_Ct_mono hC (fun o h' hq => ⟨_, hq.1, rfl, hq.2⟩)
theorem lk_hooks (hd : 1 ≤ d) (hS : lc_S H m hf G h) : q_Ct g m_X12_hooks d 0 0 [] [.ref 400] h (fun o h' => ∃ y, o = .inl (some (.int y)) ∧ y = nI H ∧ h' = h) := by
  obtain ⟨mp, p0, p1, p2, p3, p4, p5, p6⟩ := hS.2.2.1
  exact lk_of (lq_hooks hd hS.1.1 hS.1.2 (congrArg some p5))
theorem lk_placesOfHalf (hd : 1 ≤ d) (hS : lc_S H m hf G h) : q_Ct g m_X12_placesOfHalf d 0 0 [] [.ref 400] h (fun o h' => ∃ y, o = .inl (some (.int y)) ∧ y = nI hf ∧ h' = h) := by
  obtain ⟨mp, p0, p1, p2, p3, p4, p5, p6⟩ := hS.2.2.1
  exact lk_of (lq_placesOfHalf hd hS.1.1 hS.1.2 (congrArg some p0))
theorem lk_steps (hd : 1 ≤ d) (hS : lc_S H m hf G h) : q_Ct g m_X12_steps d 0 0 [] [.ref 400] h (fun o h' => ∃ y, o = .inl (some (.int y)) ∧ y = q_I h 402 4 ∧ h' = h) := lk_of (lq_steps hd hS.1.1 hS.1.2 rfl)
theorem lk_stepsGoneBy (hd : 1 ≤ d) (hS : lc_S H m hf G h) : q_Ct g m_X12_stepsGoneBy d 0 0 [] [.ref 400] h (fun o h' => ∃ y, o = .inl (some (.int y)) ∧ y = q_I h 457 10 ∧ h' = h) := lk_of (lq_stepsGoneBy hd hS.1.1 hS.1.2 rfl)
theorem lk_stepsRefused (hd : 1 ≤ d) (hS : lc_S H m hf G h) : q_Ct g m_X12_stepsRefused d 0 0 [] [.ref 400] h (fun o h' => ∃ y, o = .inl (some (.int y)) ∧ y = q_I h 457 11 ∧ h' = h) := lk_of (lq_stepsRefused hd hS.1.1 hS.1.2 rfl)
theorem lk_workingHalf (hd : 1 ≤ d) (hS : lc_S H m hf G h) : q_Ct g m_X12_workingHalf d 0 0 [] [.ref 400] h (fun o h' => ∃ y, o = .inl (some (.int y)) ∧ y = q_I h 457 9 ∧ h' = h) := lk_of (lq_workingHalf hd hS.1.1 hS.1.2 rfl)
theorem lk_usedPlaces (hd : 1 ≤ d) (hS : lc_S H m hf G h) : q_Ct g m_X12_usedPlaces d 0 0 [] [.ref 400] h (fun o h' => ∃ y, o = .inl (some (.int y)) ∧ y = q_I h 457 8 ∧ h' = h) := lk_of (lq_usedPlaces hd hS.1.1 hS.1.2 rfl)
theorem lk_bales (hd : 2 ≤ d) (hS : lc_S H m hf G h) : q_Ct g m_X12_bales d 0 0 [] [.ref 400] h (fun o h' => ∃ y, o = .inl (some (.int y)) ∧ y = q_I h 457 7 + q_I h 465 2 ∧ h' = h) := lk_of (lq_bales hd hS.1.1 hS.1.2 rfl)
theorem lk_balesInLoft (hd : 1 ≤ d) (hS : lc_S H m hf G h) : q_Ct g m_X12_balesInLoft d 0 0 [] [.ref 400] h (fun o h' => ∃ y, o = .inl (some (.int y)) ∧ y = q_I h 465 2 ∧ h' = h) := lk_of (lq_balesInLoft hd hS.1.1 hS.1.2 rfl)
theorem lk_copyings (hd : 1 ≤ d) (hS : lc_S H m hf G h) : q_Ct g m_X12_copyings d 0 0 [] [.ref 400] h (fun o h' => ∃ y, o = .inl (some (.int y)) ∧ y = q_I h 457 12 ∧ h' = h) := lk_of (lq_copyings hd hS.1.1 hS.1.2 rfl)
theorem lk_balesPromoted (hd : 1 ≤ d) (hS : lc_S H m hf G h) : q_Ct g m_X12_balesPromoted d 0 0 [] [.ref 400] h (fun o h' => ∃ y, o = .inl (some (.int y)) ∧ y = q_I h 457 13 ∧ h' = h) := lk_of (lq_balesPromoted hd hS.1.1 hS.1.2 rfl)
theorem lk_balesGone (hd : 1 ≤ d) (hS : lc_S H m hf G h) : q_Ct g m_X12_balesGone d 0 0 [] [.ref 400] h (fun o h' => ∃ y, o = .inl (some (.int y)) ∧ y = q_I h 457 14 ∧ h' = h) := lk_of (lq_balesGone hd hS.1.1 hS.1.2 rfl)
/-- what lies in the loft -/
def lc_ul (ly sz : m_Rr) : Nat := m_tw (m_w sz) (lc_ll ly)
theorem lc_usedL {hL : List Nat} {bn ly pl sz ag rc ld lo lr hk rw st sh sw sp ss sr sa sd : m_Rr} (hR : m_R H m hf hL bn ly pl sz ag rc ld lo lr hk rw st sh sw sp ss sr sa sd) : f_X5_usedCount lo lr = some (nI (lc_ul ly sz)) ∧ (lc_ll ly).length ≤ lc_ul ly sz ∧ lc_ul ly sz ≤ 1152 ∧ ∀ b ∈ lc_ll ly, m_w sz b ≤ lc_ul ly sz := by
  obtain ⟨x, x1, x2⟩ := m_usedLoft hR.2.2.2.2.1.1 hR.2.2.2.2.1.2.1
  obtain ⟨⟨hE, hZ⟩, -, hv, -⟩ := id hR
  have hs : ∀ b ∈ lc_ll ly, ∃ s, 1 ≤ s ∧ s ≤ 9 ∧ sz b = nI s ∧ m_w sz b = s := fun b hb => by
    obtain ⟨b1, b2⟩ := lc_ll_mem.mp hb
    obtain ⟨s, s1, s2, s3⟩ := (hv b b1).2 (by rw [b2]; decide)
    exact ⟨s, s1, s2, s3, m_w_nI s3 (by omega)⟩
  have h2 : m_sm (fun i => sw i = 2) ss 136 = nI (lc_ul ly sz) := by
    have e1 := m_sm_list (f := ss) (n := 136) (l := lc_ll ly) lc_ll_nd (fun x hx => by have := (lc_ll_mem.mp hx).1; omega)
    have e2 : m_sm (fun i => sw i = 2) ss 136 = m_sm (fun i => i ∈ lc_ll ly) ss 136 := m_sm_congr (fun i hi => by
      rw [lc_ll_mem]
      constructor
      · intro h2
        rcases Nat.lt_or_ge i 128 with h3 | h3
        · exact ⟨h3, (hE i h3).1.symm.trans h2⟩
        · rw [hZ i h3 hi] at h2; exact absurd h2 (by decide)
      · exact fun h2 => (hE i h2.1).1.trans h2.2) (fun _ _ _ => rfl)
    rw [e2, e1]
    exact m_tot_tw (fun b hb => by
      obtain ⟨s, s1, s2, s3, s4⟩ := hs b hb
      rw [(hE b (lc_ll_mem.mp hb).1).2.2.1, s3, s4])
  refine ⟨?_, m_tw_len (fun b hb => by obtain ⟨s, s1, s2, s3, s4⟩ := hs b hb; omega), ?_, fun b hb => ?_⟩
  · rw [x1, ← h2]
    have := m_used (sw := sw) (ss := ss) (w := 2)
    rw [this] at x2
    exact congrArg some (Option.some.inj x2).symm
  · have h1 : ∀ l : List Nat, (∀ b ∈ l, m_w sz b ≤ 9) → m_tw (m_w sz) l ≤ 9 * l.length := fun l => by
      induction l with
      | nil => intro _; exact Nat.le_refl _
      | cons a t ih =>
        intro hl
        have a1 := hl a List.mem_cons_self
        have a2 := ih (fun b hb => hl b (List.mem_cons_of_mem _ hb))
        show m_w sz a + m_tw (m_w sz) t ≤ 9 * (t.length + 1)
        omega
    have h2 := h1 (lc_ll ly) (fun b hb => by obtain ⟨s, s1, s2, s3, s4⟩ := hs b hb; omega)
    have h3 := m_pig 128 (lc_ll ly) lc_ll_nd (fun b hb => (lc_ll_mem.mp hb).1)
    unfold lc_ul
    omega
  · have := m_sub (w := m_w sz) (l := [b]) (k := lc_ll ly) (by simp) (fun x hx => by rw [List.mem_singleton.mp hx]; exact hb)
    exact Nat.le_trans (Nat.le_add_right _ _) this
theorem lk_usedInLoft (hd : 3 ≤ d) (hS : lc_S H m hf G h) : q_Ct g m_X12_usedInLoft d 0 0 [] [.ref 400] h (fun o h' => ∃ y, o = .inl (some (.int y)) ∧ y = nI (lc_ul (q_I h 459) (q_I h 461)) ∧ h' = h) := by
  obtain ⟨hL, st, sh, sw, sp, ss, sr, sa, sd, hR⟩ := hS.2.2.2.1
  exact lk_of (lq_usedInLoft hd hS.1.1 hS.1.2 (by unfold f_X12_usedInLoft; rw [(lc_usedL hR).1]; rfl))
/-- useless bales are counted -/
theorem lk_useless (hd : 6 ≤ d) (hS : lc_S H m hf G h) {hL : List Nat} {st sh sw sp ss sr sa sd : m_Rr} (hR : la_m H m hf hL h st sh sw sp ss sr sa sd) : q_Ct g m_X12_uselessBales d 0 0 [] [.ref 400] h (fun o h' => ∃ y, o = .inl (some (.int y)) ∧ y = nI (lc_nb hL (q_I h 459) - (lc_rch H (q_I h 463) (q_I h 464) (q_I h 470)).length) ∧ la_lk h h') := by
  obtain ⟨u, li', nr', nd', u1, u2⟩ := lc_useless hR (q_I h 467) (q_I h 468) (q_I h 469)
  have e : lc_nb hL (q_I h 459) - (lc_rch H (q_I h 463) (q_I h 464) (q_I h 470)).length = u := by omega
  rw [e]
  refine q_Ct_mono (lq_uselessBales hd hS.1.1 hS.1.2 (r0 := (nI u, li', nr', nd')) (by unfold f_X12_uselessBales; rw [u1]; rfl)) (fun o h' hq => ⟨_, hq.1, rfl, ?_⟩)
  rw [hq.2]
  exact la_lk_j rfl
variable {pn hk pl sz ag rc ld ly : m_Rr} {i b : Nat}
theorem lc_chk (h6 : H ≤ 6) (p5 : pn 3 = nI H) (hi : i < H) : f_X12_checkHook pn (nI i) = some (.inl ()) := by
  unfold f_X12_checkHook
  rw [if_neg (nI_pos (by omega)), p5, if_pos (nI_lt hi (by omega))]
theorem lc_hB (h6 : H ≤ 6) (p5 : pn 3 = nI H) (hi : i < H) : f_X12_holdsBale pn hk (nI i) = some (.inl (decide (¬ hk i = -1))) := by
  unfold f_X12_holdsBale
  rw [lc_chk h6 p5 hi, Option.bind_some]
  show ((f_X2_held hk (nI i)).bind _) = _
  rw [m_held (by omega), Option.bind_some]
  by_cases e : hk i = -1
  · rw [if_pos e, decide_eq_false (fun h => h e)]
  · rw [if_neg e, decide_eq_true e]
theorem lc_hd (h6 : H ≤ 6) (p5 : pn 3 = nI H) (hi : i < H) (hb : hk i = nI b) (b8 : b < 128) : f_X12_heldBale pn hk (nI i) = some (.inl (nI b)) := by
  unfold f_X12_heldBale
  rw [lc_chk h6 p5 hi, Option.bind_some]
  show ((f_X2_held hk (nI i)).bind _) = _
  rw [m_held (by omega), Option.bind_some, hb, if_pos (m_nI_m1 (by omega))]
theorem lk_holds (hd : 7 ≤ d) (hS : lc_S H m hf G h) (hi : i < H) : q_Ct g m_X12_holdsBale d 1 6 [] [.ref 400, .int (nI i)] h (fun o h' => ∃ y, o = .inl (some (.int y)) ∧ y = q_bz (decide (¬ q_I h 470 i = -1)) ∧ h' = h) := by
  obtain ⟨mp, p0, p1, p2, p3, p4, p5, p6⟩ := hS.2.2.1
  exact lk_of (lq_holdsBale hd hS.1.1 hS.1.2 (lc_hB hS.2.1.1.2 p5 hi))
theorem lk_sizeOf (hd : 8 ≤ d) (hS : lc_S H m hf G h) (hi : i < H) (hb : q_I h 470 i = nI b) (b8 : b < 128) : q_Ct g m_X12_sizeOf d 2 12 [] [.ref 400, .int (nI i)] h (fun o h' => ∃ y, o = .inl (some (.int y)) ∧ y = q_I h 461 b ∧ h' = h) := by
  obtain ⟨mp, p0, p1, p2, p3, p4, p5, p6⟩ := hS.2.2.1
  refine lk_of (lq_sizeOf (r0 := .inl (q_I h 461 b)) hd hS.1.1 hS.1.2 ?_)
  unfold f_X12_sizeOf
  rw [lc_hd hS.2.1.1.2 p5 hi hb b8, Option.bind_some]
  show (f_X1_size _ (nI b)).bind _ = _
  rw [m_size b8]; rfl
theorem lk_placeOf (hd : 8 ≤ d) (hS : lc_S H m hf G h) (hi : i < H) (hb : q_I h 470 i = nI b) (b8 : b < 128) : q_Ct g m_X12_placeOf d 2 12 [] [.ref 400, .int (nI i)] h (fun o h' => ∃ y, o = .inl (some (.int y)) ∧ y = q_I h 460 b ∧ h' = h) := by
  obtain ⟨mp, p0, p1, p2, p3, p4, p5, p6⟩ := hS.2.2.1
  refine lk_of (lq_placeOf (r0 := .inl (q_I h 460 b)) hd hS.1.1 hS.1.2 ?_)
  unfold f_X12_placeOf
  rw [lc_hd hS.2.1.1.2 p5 hi hb b8, Option.bind_some]
  show (f_X1_place _ (nI b)).bind _ = _
  rw [m_place b8]; rfl
theorem lk_ropesOf (hd : 8 ≤ d) (hS : lc_S H m hf G h) (hi : i < H) (hb : q_I h 470 i = nI b) (b8 : b < 128) : q_Ct g m_X12_ropesOf d 2 12 [] [.ref 400, .int (nI i)] h (fun o h' => ∃ y, o = .inl (some (.int y)) ∧ y = q_I h 463 b ∧ h' = h) := by
  obtain ⟨mp, p0, p1, p2, p3, p4, p5, p6⟩ := hS.2.2.1
  refine lk_of (lq_ropesOf (r0 := .inl (q_I h 463 b)) hd hS.1.1 hS.1.2 ?_)
  unfold f_X12_ropesOf
  rw [lc_hd hS.2.1.1.2 p5 hi hb b8, Option.bind_some]
  show (f_X1_ropes _ (nI b)).bind _ = _
  rw [m_ropes b8]; rfl
theorem lk_ageOf (hd : 8 ≤ d) (hS : lc_S H m hf G h) (hi : i < H) (hb : q_I h 470 i = nI b) (b8 : b < 128) : q_Ct g m_X12_ageOf d 2 12 [] [.ref 400, .int (nI i)] h (fun o h' => ∃ y, o = .inl (some (.int y)) ∧ y = q_I h 462 b ∧ h' = h) := by
  obtain ⟨mp, p0, p1, p2, p3, p4, p5, p6⟩ := hS.2.2.1
  refine lk_of (lq_ageOf (r0 := .inl (q_I h 462 b)) hd hS.1.1 hS.1.2 ?_)
  unfold f_X12_ageOf
  rw [lc_hd hS.2.1.1.2 p5 hi hb b8, Option.bind_some]
  show (f_X1_age _ (nI b)).bind _ = _
  rw [m_age b8]; rfl
theorem lk_isInLoft (hd : 8 ≤ d) (hS : lc_S H m hf G h) (hi : i < H) (hb : q_I h 470 i = nI b) (b8 : b < 128) : q_Ct g m_X12_isInLoft d 2 12 [] [.ref 400, .int (nI i)] h (fun o h' => ∃ y, o = .inl (some (.int y)) ∧ y = q_bz (decide (q_I h 459 b = 2)) ∧ h' = h) := by
  obtain ⟨mp, p0, p1, p2, p3, p4, p5, p6⟩ := hS.2.2.1
  refine lk_of (lq_isInLoft (r0 := .inl (decide (q_I h 459 b = 2))) hd hS.1.1 hS.1.2 ?_)
  unfold f_X12_isInLoft
  rw [lc_hd hS.2.1.1.2 p5 hi hb b8, Option.bind_some]
  show (f_X1_liesInLoft _ (nI b)).bind _ = _
  unfold f_X1_liesInLoft
  rw [if_neg (nI_pos (by omega)), if_neg (show ¬ (128 : Int32) ≤ nI b from nI_ge (b := 128) b8 (by decide)), q_ix_nI b8 (by decide), Option.bind_some]
  by_cases e : q_I h 459 b = 2
  · rw [if_neg (fun hh => hh e), decide_eq_true e]; rfl
  · rw [if_pos e, decide_eq_false e]; rfl
/-- the mean -/
theorem lk_mean (hd : 4 ≤ d) (hS : lc_S H m hf G h) {hL : List Nat} {st sh sw sp ss sr sa sd : m_Rr} (hR : la_m H m hf hL h st sh sw sp ss sr sa sd) {u1 : Nat} (h8 : q_I h 457 8 = nI u1) (h64 : u1 ≤ 64) : q_Ct g m_X12_meanSize d 0 0 [] [.ref 400] h (fun o h' => ∃ y, o = .inl (some (.double y)) ∧ y = q_mean (u1 + lc_ul (q_I h 459) (q_I h 461)) (lc_nb hL (q_I h 459)) ∧ h' = h) := by
  have hu := (lc_usedL hR).1
  have hc := lc_nb_128 hR
  have hm : lc_ul (q_I h 459) (q_I h 461) ≤ 64 := by
    have e := m_usedC hR.2.2.2.2.1.1.1 hR.2.2.2.2.1.2.1 (lr := q_I h 466)
    obtain ⟨j, j1, j2⟩ := m_sm_c1 (p := fun q => ¬ q_I h 466 q = -1) m
    rw [e, j2] at hu
    have h1 := (nI_eq (by have := hR.2.2.2.2.1.1.1; omega) (by have := (lc_usedL hR).2.2.1; omega)).mp (Option.some.inj hu)
    have := hR.2.2.2.2.1.1.1
    omega
  have c1 : f_X2_baleCount (q_I h 457) (q_I h 465) = some (nI (lc_nb hL (q_I h 459))) := by
    unfold f_X2_baleCount
    rw [lc_b7 hR, lc_lo2 hR, nI_add]; rfl
  have hC := z_call (l := []) hS.1.1 hS.1.2 rfl (lq_as rfl) (fun x hx => absurd hx List.not_mem_nil) (ct_X12_meanSize (g := g) (I := q_I h) (E := q_E h) (L := q_L h) hd (by omega) h64 hm c1 h8 hu)
  exact q_Ct_mono hC (fun o h' hq => ⟨_, hq.1, rfl, hq.2⟩)
end LCS
