/-! MORE QUESTIONS, over the class at rest -/
/-- the checksum, whatever lies in the rows to work in -/
def lc_Dg (h : q_H) (y : Int64) : Prop := ∀ li nr nd : m_Rr, ∃ li' nr' nd', f_X12_digest (q_I h 402) (q_I h 457) (q_I h 459) (q_I h 460) (q_I h 461) (q_I h 462) (q_I h 463) (q_I h 464) (q_I h 465) (q_I h 466) li nr nd (q_I h 470) (q_I h 471) = some (y, li', nr', nd')
/-- what is used once copied -/
def lc_If (h : q_H) (y : Int32) : Prop := ∀ (li nr nd ro : m_Rr) (r : Int32 × m_Rr × m_Rr × m_Rr × m_Rr × m_Rr × m_Rr × m_Rr × m_Rr × m_Rr × m_Rr × m_Rr), f_X2_copyHalf (q_I h 402) (q_I h 457) (q_I h 459) (q_I h 460) (q_I h 461) (q_I h 462) (q_I h 463) (q_I h 464) (q_I h 465) (q_I h 466) li nr nd (q_I h 470) (q_I h 471) ro = some r → r.2.1 8 = y
section LCASK
variable {g : q_G} {d H m hf G : Nat} {h h1 h' : q_H} {i j b c : Nat}
theorem lc_Dg_lk (e : la_lk h h') {y : Int64} (hD : lc_Dg h y) : lc_Dg h' y := by
  have r := e.2.2.2.2.2
  intro li nr nd
  rw [r 402 rfl, r 457 rfl, r 459 rfl, r 460 rfl, r 461 rfl, r 462 rfl, r 463 rfl, r 464 rfl, r 465 rfl, r 466 rfl, r 470 rfl, r 471 rfl]
  exact hD li nr nd
theorem lc_Dg_u {y y' : Int64} (h1 : lc_Dg h y) (h2 : lc_Dg h y') : y = y' := by
  obtain ⟨a1, a2, a3, a4⟩ := h1 (fun _ => 0) (fun _ => 0) (fun _ => 0)
  obtain ⟨b1, b2, b3, b4⟩ := h2 (fun _ => 0) (fun _ => 0) (fun _ => 0)
  have e := Option.some.inj (a4.symm.trans b4)
  exact congrArg Prod.fst e
theorem lc_If_lk (e : la_lk h h') {y : Int32} (hD : lc_If h y) : lc_If h' y := by
  have r := e.2.2.2.2.2
  intro li nr nd ro z hz
  rw [r 402 rfl, r 457 rfl, r 459 rfl, r 460 rfl, r 461 rfl, r 462 rfl, r 463 rfl, r 464 rfl, r 465 rfl, r 466 rfl, r 470 rfl, r 471 rfl] at hz
  exact hD li nr nd ro z hz
/-- a call that looks, its answer known by a property -/
theorem la_cp {M2 : q_M} {mv2 : List Nat} {mc ms mc2 ms2 k n : Nat} {As : List Value} {V : Prop} {C : Nat → Nat → Int32 → q_H → Prop} {P : Int32 → Prop} (hd : 1 ≤ d) (hd2 : d < 2048) (hC : q_Ct g M2 (d - 1) mc2 ms2 mv2 As h (fun o h' => ∃ x, o = .inl (some (.int x)) ∧ P x ∧ la_lk h h')) (hk : k + mc2 ≤ mc) (hn : n + ms2 ≤ ms) (hV : V) (hc : ∀ y h', P y → la_lk h h' → C (k + mc2) (n + ms2) y h') : q_cI g M2 mv2 d mc ms As h k n V C :=
  q_cI_of _ hC (by omega) (q_lcle (by omega) hd2) hk hn hV (fun x h' hp => hc x h' hp.1 hp.2)
theorem lk_same (hd : 7 ≤ d) (hS : lc_S H m hf G h) (hi : i < H) (hj : j < H) : q_Ct g m_X12_holdSame d 2 12 [] [.ref 400, .int (nI i), .int (nI j)] h (fun o h' => ∃ y, o = .inl (some (.int y)) ∧ y = q_bz (decide (¬ q_I h 470 i = -1 ∧ q_I h 470 i = q_I h 470 j)) ∧ h' = h) := by
  obtain ⟨mp, p0, p1, p2, p3, p4, p5, p6⟩ := hS.2.2.1
  obtain ⟨hL, st, sh, sw, sp, ss, sr, sa, sd, hR⟩ := hS.2.2.2.1
  have h6 := hS.2.1.1.2
  refine lk_of (lq_holdSame (r0 := .inl (decide (¬ q_I h 470 i = -1 ∧ q_I h 470 i = q_I h 470 j))) hd hS.1.1 hS.1.2 ?_)
  unfold f_X12_holdSame
  rw [lc_chk h6 p5 hi, Option.bind_some]
  show ((f_X12_checkHook _ (nI j)).bind _) = _
  rw [lc_chk h6 p5 hj, Option.bind_some]
  show ((f_X2_sameHeld _ (nI i) (nI j)).bind _) = _
  rw [m_same hR hi hj, (m_hkv hR hi).2.1, (m_hkv hR hj).2.1]; rfl
theorem lk_between (hd : 8 ≤ d) (hS : lc_S H m hf G h) {hL : List Nat} {st sh sw sp ss sr sa sd : m_Rr} (hR : la_m H m hf hL h st sh sw sp ss sr sa sd) (hi : i < H) (hj : j < H) (hb : q_I h 470 i = nI b) (b8 : b < 128) (b0 : ¬ q_I h 459 b = 0) (hc : q_I h 470 j = nI c) (c8 : c < 128) : q_Ct g m_X12_ropesBetween d 6 36 [] [.ref 400, .int (nI i), .int (nI j)] h (fun o h' => ∃ y, o = .inl (some (.int y)) ∧ lc_Far (lc_rp (q_I h 463) (q_I h 464)) (lc_nb hL (q_I h 459)) b c y ∧ la_lk h h') := by
  obtain ⟨mp, p0, p1, p2, p3, p4, p5, p6⟩ := hS.2.2.1
  have h6 := hS.2.1.1.2
  obtain ⟨v, li', nr', nd', e1, e2⟩ := lc_away hR ⟨b8, b0⟩ c8 (q_I h 467) (q_I h 468) (q_I h 469)
  refine q_Ct_mono (lq_ropesBetween (r0 := (.inl v, li', nr', nd')) hd hS.1.1 hS.1.2 ?_) (fun o h' hq => ⟨v, hq.1, e2, by rw [hq.2]; exact la_lk_j rfl⟩)
  unfold f_X12_ropesBetween
  rw [lc_chk h6 p5 hi, Option.bind_some]
  show ((f_X12_checkHook _ (nI j)).bind _) = _
  rw [lc_chk h6 p5 hj, Option.bind_some]
  show ((f_X12_heldBale _ _ (nI i)).bind _) = _
  rw [lc_hd h6 p5 hi hb b8, Option.bind_some]
  show ((f_X12_heldBale _ _ (nI j)).bind _) = _
  rw [lc_hd h6 p5 hj hc c8, Option.bind_some]
  show ((f_X2_ropesAway _ _ _ _ _ (nI b) (nI c)).bind _) = _
  rw [e1]; rfl
theorem lk_digest (hd : 7 ≤ d) (hS : lc_S H m hf G h) {ns : Nat} (q4 : q_I h 402 4 = nI ns) : q_Ct g m_X12_digest d 0 0 [] [.ref 400] h (fun o h' => ∃ y, o = .inl (some (.long y)) ∧ lc_Dg h y ∧ la_lk h h') := by
  obtain ⟨mp, p0, p1, p2, p3, p4, p5, p6⟩ := hS.2.2.1
  obtain ⟨hL, st, sh, sw, sp, ss, sr, sa, sd, hR⟩ := hS.2.2.2.1
  have hP : m_Pl H m hf (q_I h 402) (q_up mp 4 (nI ns)) := ⟨p0, p1, p2, p3, p4, p5, p6⟩
  have key : ∀ li nr nd : m_Rr, ∃ v li' nr' nd' md' mq' mi', f_X12_digest (q_I h 402) (q_I h 457) (q_I h 459) (q_I h 460) (q_I h 461) (q_I h 462) (q_I h 463) (q_I h 464) (q_I h 465) (q_I h 466) li nr nd (q_I h 470) (q_I h 471) = some (v, li', nr', nd') ∧ f_X15_digest (fun _ => 0) (q_up mp 4 (nI ns)) (fun _ => 0) (fun _ => 0) st sh sw sp ss sr sa sd = some (v, md', mq', mi') := fun li nr nd => by
    obtain ⟨v, li', nr', nd', md', mq', mi', e1, e2, -⟩ := m_q_digest hP hR q4 (m_up_s) li nr nd (fun _ => 0) (fun _ => 0) (fun _ => 0)
    exact ⟨v, li', nr', nd', md', mq', mi', e1, e2⟩
  obtain ⟨v, li', nr', nd', md', mq', mi', e1, e2⟩ := key (q_I h 467) (q_I h 468) (q_I h 469)
  refine q_Ct_mono (lq_digest (r0 := (v, li', nr', nd')) hd hS.1.1 hS.1.2 e1) (fun o h' hq => ⟨v, hq.1, fun li nr nd => ?_, by rw [hq.2]; exact la_lk_j rfl⟩)
  obtain ⟨v2, a1, a2, a3, a4, a5, a6, f1, f2⟩ := key li nr nd
  have e3 := Option.some.inj (e2.symm.trans f2)
  have e4 : v = v2 := congrArg Prod.fst e3
  subst e4
  exact ⟨a1, a2, a3, f1⟩
theorem lk_ifCopied (hd : 4 ≤ d) (hS : lc_S H m hf G h) : q_Ct g m_X12_usedIfCopied d 0 0 [487, 488] [.ref 400] h (fun o h' => ∃ y, o = .inl (some (.int y)) ∧ (lc_If h y ∧ ¬ q_I h 457 8 < y) ∧ la_lk h h') := by
  obtain ⟨mp, hP⟩ := hS.2.2.1
  obtain ⟨hL, st, sh, sw, sp, ss, sr, sa, sd, hR⟩ := hS.2.2.2.1
  obtain ⟨bn', ly', pl', sz', ag', rc', ld', lo', lr', hk', rw', i1, i3, i4, i5⟩ := lc_imit hR (q_I h 473) (q_I h 475) (q_I h 476) (q_I h 477) (q_I h 478) (q_I h 479) (q_I h 480) (q_I h 481) (q_I h 482) (q_I h 486) (q_I h 487)
  obtain ⟨x, hL2, bn2, ly2, pl2, ag2, lo2, lr2, li2, nr2, nd2, rw2, md2, mq2, mi2, st2, sw2, sp2, sa2, c1, c2, c3, c4, -⟩ := lc_copy hP i3 (q_I h 483) (q_I h 484) (q_I h 485) (q_I h 488) (fun _ => 0) (fun _ => 0) (fun _ => 0)
  have v1 := (m_usedH c3).1
  have v2 : bn2 8 = nI (m_tw (m_w sz') hL2) := (m_usedH c3).2.1
  have hu : q_I h 457 8 = nI (m_tw (m_w sz') hL) := by
    have e1 := (m_usedH i3).1
    have e2 := (m_usedH hR).1
    rw [← (m_usedH i3).2.1]
    exact Option.some.inj (e2.symm.trans e1)
  have hle := c4.2.2.2.2
  have h64 : m_tw (m_w sz') hL ≤ 64 := Nat.le_trans (m_usedH i3).2.2.1 (m_usedH i3).2.2.2
  refine q_Ct_mono (lq_usedIfCopied (r0 := (bn2 8, bn2, ly2, pl2, sz', ag2, rc', ld', lo2, lr2, li2, nr2, nd2, hk', rw2, rw')) hd hS.1.1 hS.1.2 ?_) (fun o h' hq => ⟨bn2 8, hq.1, ⟨fun li nr nd ro r hr => ?_, ?_⟩, by rw [hq.2]; exact la_lk_j rfl⟩)
  · unfold f_X12_usedIfCopied
    rw [i1, Option.bind_some]
    dsimp only
    rw [c1, Option.bind_some]
  · obtain ⟨x', hL3, bn3, ly3, pl3, ag3, lo3, lr3, li3, nr3, nd3, rw3, md3, mq3, mi3, st3, sw3, sp3, sa3, f1, f2, f3, -, -⟩ := lc_copy hP hR li nr nd ro (fun _ => 0) (fun _ => 0) (fun _ => 0)
    have e1 := Option.some.inj (f1.symm.trans hr)
    rw [← e1]
    have e2 := Option.some.inj (c2.symm.trans f2)
    simp only [Prod.mk.injEq] at e2
    obtain ⟨-, -, -, -, -, rfl, -, -⟩ := e2
    exact Option.some.inj ((m_usedH f3).1.symm.trans v1)
  · rw [v2, hu]; exact m_nlt hle (by omega)
end LCASK
