/-! THE LAW'S LOOP: new rows of the law; the class ahead of the law by one copying -/
def la_tr (B : Nat) (h : q_H) : q_H := (B, h.2)
/-- the class has copied, the law's barn hasn't yet: X are the rows before -/
def la_Mid (H m hf ns : Nat) (Q : Nat → Nat → Nat) (pn nu : m_Rr) (od : Nat → Option Nat) (T1 : Nat → m_Rr) (K1 : Nat → Nat → Option Nat) (G : Nat) (h : q_H) (s : Nat) (X : m_CB) : Prop :=
  la_D0 H m hf ns Q pn nu od T1 K1 G h s X ∧ lc_S H m hf (G + 1) h ∧ (q_I h 461 = X.2.2.2.1 ∧ q_I h 463 = X.2.2.2.2.2.1 ∧ q_I h 464 = X.2.2.2.2.2.2.1 ∧ q_I h 470 = X.2.2.2.2.2.2.2.2.2.2.2.2.1) ∧
  ∃ li nr nd ro x li' nr' nd' ro', f_X2_copyHalf pn X.1 X.2.1 X.2.2.1 X.2.2.2.1 X.2.2.2.2.1 X.2.2.2.2.2.1 X.2.2.2.2.2.2.1 X.2.2.2.2.2.2.2.1 X.2.2.2.2.2.2.2.2.1 li nr nd X.2.2.2.2.2.2.2.2.2.2.2.2.1 X.2.2.2.2.2.2.2.2.2.2.2.2.2.1 ro = some (x, q_I h 457, q_I h 459, q_I h 460, q_I h 462, q_I h 465, q_I h 466, li', nr', nd', q_I h 471, ro')
section LAMID
variable {g : q_G} {mc ms : Nat} {mv : List Nat} {Qp : q_Po} {H m hf ns oc G s k n B a j : Nat} {Q : Nat → Nat → Nat} {pn nu : m_Rr} {od : Nat → Option Nat} {T1 : Nat → m_Rr} {K1 : Nat → Nat → Option Nat} {h h' : q_H} {X : m_CB} {x : Int32}
theorem la_D_ext (e : z_ext h h') (hD : la_D H m hf ns Q pn nu od T1 K1 G h s) : la_D H m hf ns Q pn nu od T1 K1 G h' s := by
  obtain ⟨hD0, hA⟩ := hD
  obtain ⟨s1, s2, s3⟩ := la_RB_s hD0.2.2.2.1
  have f := z_fr_ext e
  have hi : ∀ a, a < 492 → q_I h' a = q_I h a := fun a ha => (z_I_fr hD0.1.1 f ha).1
  refine ⟨?_, by rw [hi 457 (by decide), hi 459 (by decide), hi 462 (by decide)]; exact hA⟩
  rw [la_X_e hi]
  exact la_D0_fr hD0 f (la_RB_ext e hD0.2.2.2.1) (z_Cn_s hD0.2.2.2.2 (e.2 s s2).2.1)
theorem la_tr_ext (hB : B ≤ q_nx h) : z_ext (la_tr B h) h := ⟨hB, fun a _ => ⟨rfl, rfl, rfl, ⟨rfl, fun _ _ _ e => Or.inl e⟩, rfl⟩⟩
theorem la_tr_D (hB : B ≤ q_nx h) (hD : la_D H m hf ns Q pn nu od T1 K1 G (la_tr B h) s) : la_D H m hf ns Q pn nu od T1 K1 G h s := la_D_ext (la_tr_ext hB) hD
theorem la_tr_of (hD : la_D H m hf ns Q pn nu od T1 K1 G h s) (e : z_ext h h') : la_D H m hf ns Q pn nu od T1 K1 G (la_tr (q_nx h) h') s :=
  la_D_ext (h := h) ⟨Nat.le_refl _, fun a ha => by
    obtain ⟨e1, e2, e3, ⟨e4, e5⟩, e6⟩ := e.2 a ha
    exact ⟨e1, e2, e3, ⟨e4, e5⟩, e6⟩⟩ hD
theorem la_tr_lk (e : la_lk h h') (hD : la_D H m hf ns Q pn nu od T1 K1 G (la_tr B h) s) : la_D H m hf ns Q pn nu od T1 K1 G (la_tr B h') s := by
  obtain ⟨e1, e2, e3, e4, e5, e6⟩ := e
  exact la_D_lk (h := la_tr B h) ⟨rfl, e2, e3, e4, e5, e6⟩ hD
theorem la_tr_pI (ha : B ≤ a) (hD : la_D H m hf ns Q pn nu od T1 K1 G (la_tr B h) s) : la_D H m hf ns Q pn nu od T1 K1 G (la_tr B (q_pI h a j x)) s :=
  la_D_ext (h := la_tr B h) ⟨Nat.le_refl _, fun b hb => ⟨rfl, q_u2_row _ _ _ _ _ (show b ≠ a by have : b < B := hb; omega), rfl, ⟨rfl, fun _ _ _ e => Or.inl e⟩, rfl⟩⟩ hD
theorem la_Mid_lk (e : la_lk h h') (hM : la_Mid H m hf ns Q pn nu od T1 K1 G h s X) : la_Mid H m hf ns Q pn nu od T1 K1 G h' s X := by
  obtain ⟨m1, m2, ⟨m3, m4, m5, m6⟩, li, nr, nd, ro, x, li', nr', nd', ro', m7⟩ := hM
  have r := e.2.2.2.2.2
  refine ⟨?_, lc_S_lk e m2, ⟨(r 461 rfl).trans m3, (r 463 rfl).trans m4, (r 464 rfl).trans m5, (r 470 rfl).trans m6⟩, li, nr, nd, ro, x, li', nr', nd', ro', by rw [r 457 rfl, r 459 rfl, r 460 rfl, r 462 rfl, r 465 rfl, r 466 rfl, r 471 rfl]; exact m7⟩
  rw [la_lk_eq e]
  exact la_D0_j rfl rfl m1
/-- what a copying leaves -/
def la_Cp (H m hf : Nat) (h h' : q_H) (x : Int32) : Prop := ∃ hL st sh sw sp ss sr sa sd hL' st' sh' sw' sp' ss' sr' sa' sd', la_m H m hf hL h st sh sw sp ss sr sa sd ∧ la_m H m hf hL' h' st' sh' sw' sp' ss' sr' sa' sd' ∧ lc_Cq hL hL' (q_I h 457) (q_I h' 457) (q_I h 459) (q_I h' 459) (q_I h 462) (q_I h' 462) (q_I h 461) x ∧ (q_I h' 461 = q_I h 461 ∧ q_I h' 463 = q_I h 463 ∧ q_I h' 464 = q_I h 464 ∧ q_I h' 470 = q_I h 470) ∧
  (∃ tk : List Nat, tk.Nodup ∧ (∀ x ∈ tk, x ∈ hL) ∧ x = nI (hL.length - tk.length) ∧ tk.length ≤ hL.length ∧ lc_nb hL' (q_I h' 459) = tk.length + (lc_ll (q_I h 459)).length ∧ ∀ C : Nat → Prop, (∀ x, some x ∈ lc_hk H (q_I h 470) → C x) → (∀ y ∈ lc_ll (q_I h 459), ∀ x, some x ∈ lc_rp (q_I h 463) (q_I h 464) y → C x) → (∀ y, C y → ∀ x, some x ∈ lc_rp (q_I h 463) (q_I h 464) y → C x) → ∀ x ∈ tk, C x) ∧
  ∀ y, lc_If h y → q_I h' 457 8 = y
/-- the class copies -/
theorem lw_copyC (hT : la_St H m hf ns oc Q pn nu od T1 K1) (hD : la_D H m hf ns Q pn nu od T1 K1 G h s) (hG : G < 2 ^ 28) {V : Prop} (hV : V) {C : Nat → Nat → Int32 → q_H → Prop} (hk : k + 0 ≤ mc) (hn : n + 0 ≤ ms)
    (hC : ∀ x h', la_Mid H m hf ns Q pn nu od T1 K1 G h' s (la_X (q_I h)) → la_Cp H m hf h h' x → (∀ a, 492 ≤ a → q_I h' a = q_I h a) → q_nx h' = q_nx h → q_sh h' = q_sh h → C (k + 0) (n + 0) x h') : q_cI g m_X12_copyNow [471, 472] 2048 mc ms [.ref 400] h k n V C := by
  obtain ⟨hD0, hA⟩ := id hD
  obtain ⟨⟨c1, c2⟩, pl, rows, hRB, hN⟩ := id hD0
  obtain ⟨⟨H0, H6⟩, ⟨hf32, hm64⟩, ⟨mp, hP⟩, -⟩ := id hT
  obtain ⟨hL, Y, ν, hl, ll, hkL, hR, hB⟩ := id hRB
  have hR : la_m H m hf hL h _ _ _ _ _ _ _ _ := hR
  obtain ⟨g0, p0, q0, t1, t2, t3, t4, t5, t6, t7⟩ := la_D_Ct hD
  obtain ⟨x, hL', bn', ly', pl', ag', lo', lr', li', nr', nd', rw', md', mq', mi', st', sw', sp', sa', r1, r2, r3, r4, r5⟩ := lc_copy hP hR (q_I h 467) (q_I h 468) (q_I h 469) (q_I h 472) (fun _ => 0) (fun _ => 0) (fun _ => 0)
  have eM : f_X12_copyNow pn (q_I h 457) (q_I h 459) (q_I h 460) (q_I h 461) (q_I h 462) (q_I h 463) (q_I h 464) (q_I h 465) (q_I h 466) (q_I h 467) (q_I h 468) (q_I h 469) (q_I h 470) (q_I h 471) (q_I h 472) = some (x, bn', ly', pl', ag', lo', lr', li', nr', nd', rw', q_I h 471) := by
    unfold f_X12_copyNow
    rw [r1, Option.bind_some]
  rw [← pl.1] at eM
  have hD1 := la_D0_j (l := [(457, bn'), (459, ly'), (460, pl'), (462, ag'), (465, lo'), (466, lr'), (467, li'), (468, nr'), (469, nd'), (471, rw'), (472, q_I h 471)]) rfl rfl hD0
  refine q_cI_of (fun y h5 => y = x ∧ h5 = q_jI h [(457, bn'), (459, ly'), (460, pl'), (462, ag'), (465, lo'), (466, lr'), (467, li'), (468, nr'), (469, nd'), (471, rw'), (472, q_I h 471)]) (q_Ct_mono (lq_copyNow (d := 1000) (by decide) c1 c2 eM) (fun o h5 hq => ⟨_, hq.1, rfl, hq.2⟩)) (by decide) (show 59 + 64 * 1000 ≤ q_lc 2048 by decide) hk hn hV (fun y h5 hp => ?_)
  obtain ⟨ey, q2⟩ := hp
  subst ey
  rw [← q2] at hD1
  have i1 : q_I h5 457 = bn' := by rw [q2]; rfl
  have i2 : q_I h5 459 = ly' := by rw [q2]; rfl
  have i3 : q_I h5 460 = pl' := by rw [q2]; rfl
  have i4 : q_I h5 462 = ag' := by rw [q2]; rfl
  have i5 : q_I h5 465 = lo' := by rw [q2]; rfl
  have i6 : q_I h5 466 = lr' := by rw [q2]; rfl
  have i7 : q_I h5 471 = rw' := by rw [q2]; rfl
  have j1 : q_I h5 461 = q_I h 461 := by rw [q2]; rfl
  have j2 : q_I h5 463 = q_I h 463 := by rw [q2]; rfl
  have j3 : q_I h5 464 = q_I h 464 := by rw [q2]; rfl
  have j4 : q_I h5 470 = q_I h 470 := by rw [q2]; rfl
  have hA' := lc_Ag_copy hA t2 (by omega) r4
  have hm0 := r3
  rw [← i1, ← i2, ← i3, ← i4, ← i5, ← i6, ← i7, ← j1, ← j2, ← j3, ← j4] at hm0
  have hm' : la_m H m hf hL' h5 _ _ _ _ _ _ _ _ := hm0
  have hS' : lc_S H m hf (G + 1) h5 := by
    refine ⟨hD1.1, ⟨⟨H0, H6⟩, hf32, hm64⟩, ⟨mp, by rw [hD1.2.1.1]; exact hP⟩, ⟨hL', _, _, _, _, _, _, _, _, hm'⟩, by rw [i1, i2, i4]; exact hA', ?_⟩
    rw [i1]
    obtain ⟨⟨d1, d2, d3, d4, d5⟩, -⟩ := r4
    refine ⟨g0, p0 + 1, q0, d1.trans t1, by rw [d2, t2, nI_1], d4.trans t3, t4, ?_, by omega, by omega⟩
    rw [d3, t5]
    rcases Nat.mod_two_eq_zero_or_one p0 with e | e
    · rw [e, show (p0 + 1) % 2 = 1 by omega]; decide
    · rw [e, show (p0 + 1) % 2 = 0 by omega]; decide
  refine hC y h5 ⟨hD1, hS', ⟨j1, j2, j3, j4⟩, q_I h 467, q_I h 468, q_I h 469, q_I h 472, y, li', nr', nd', q_I h 471, by rw [i1, i2, i3, i4, i5, i6, i7]; exact r1⟩ ⟨hL, _, _, _, _, _, _, _, _, hL', _, _, _, _, _, _, _, _, hR, hm', by rw [i1, i2, i4]; exact r4, ⟨j1, j2, j3, j4⟩, by rw [i2]; exact r5, fun z hz => ?_⟩ (fun a ha => by rw [q2]; exact q_ws_hi ha rfl) (by rw [q2]; rfl) (by rw [q2]; rfl)
  rw [i1]
  have hz2 := hz (q_I h 467) (q_I h 468) (q_I h 469) (q_I h 472) (y, bn', ly', pl', ag', lo', lr', li', nr', nd', rw', q_I h 471) (by rw [pl.1]; exact r1)
  exact hz2
/-- the law's barn copies after it -/
theorem lw_copyS (hT : la_St H m hf ns oc Q pn nu od T1 K1) (hM : la_Mid H m hf ns Q pn nu od T1 K1 G h s X) {C : Nat → Nat → Int32 → q_H → Prop} (hk : k + 101 ≤ mc) (hn : n + 12288 ≤ ms)
    (hC : ∀ k' n' y h', k' ≤ k + 101 → n' ≤ n + 12288 → la_D H m hf ns Q pn nu od T1 K1 (G + 1) h' s → z_fr h h' → C k' n' y h') : (400 ≤ s ∧ q_sh h s = (0, 12, 0)) ∧ q_cI g m_X14_copyAll [] 2048 mc ms [.ref s] h k n True C := by
  obtain ⟨hD1, hS, ⟨j1, j2, j3, j4⟩, li, nr, nd, ro, x, li', nr', nd', ro', r1⟩ := hM
  obtain ⟨s1, s2, s3⟩ := la_RB_s hD1.2.2.2.1
  refine ⟨⟨z_4 s1, s3⟩, la_simCopy (d := 2048) (d2 := 1000) (by decide) (by decide) (by decide) (show 59 + 64 * 1000 ≤ q_lc 2048 by decide) hT hD1.2.2.2.1 hD1.2.2.2.2 li nr nd ro hk hn (fun k' n' y h6 b1 b2 b3 b4 b5 b6 b7 b8 b9 b10 hk6 hn6 e1 f6 N6 hX6 => ?_)⟩
  have e2 := Option.some.inj (r1.symm.trans e1)
  simp only [Prod.mk.injEq] at e2
  obtain ⟨-, a1, a2, a3, a4, a5, a6, -, -, -, a7, -⟩ := e2
  have hi : ∀ a, a < 492 → q_I h6 a = q_I h a := fun a ha => (z_I_fr hD1.1.1 f6 ha).1
  have h7 := hX6 (q_I h 467) (q_I h 468) (q_I h 469) (q_I h 472) (q_I h 490) (q_I h 491)
  rw [← a1, ← a2, ← a3, ← a4, ← a5, ← a6, ← a7, ← j1, ← j2, ← j3, ← j4] at h7
  refine hC k' n' y h6 hk6 hn6 ⟨?_, by rw [hi 457 (by decide), hi 459 (by decide), hi 462 (by decide)]; exact hS.2.2.2.2.1⟩ f6
  rw [la_X_e hi]
  exact la_D0_fr hD1 f6 h7 N6
/-- swept, by both -/
theorem lw_sweep (hT : la_St H m hf ns oc Q pn nu od T1 K1) (hD : la_D H m hf ns Q pn nu od T1 K1 G h s) {C : Nat → Nat → Int32 → Int32 → q_H → Prop} (hk : k + 386 ≤ mc) (hn : n + 49152 ≤ ms)
    (hC : ∀ k' n' x y h', k' ≤ k + 386 → n' ≤ n + 49152 → ¬ x < 0 → la_D H m hf ns Q pn nu od T1 K1 (G + 1) h' s → (∀ b ∈ lc_ll (q_I h' 459), b ∈ lc_rch H (q_I h' 463) (q_I h' 464) (q_I h' 470)) → C k' n' x y h') :
    q_cI g m_X12_sweepLoft [] 2048 mc ms [.ref 400] h k n True (fun k n x h => (400 ≤ s ∧ q_sh h s = (0, 12, 0)) ∧ q_cI g m_X14_sweep [] 2048 mc ms [.ref s] h k n True (fun k n y h => C k n x y h)) := by
  obtain ⟨hD0, hA⟩ := id hD
  obtain ⟨⟨c1, c2⟩, pl, rows, hRB, hN⟩ := id hD0
  obtain ⟨⟨H0, H6⟩, ⟨hf32, hm64⟩, ⟨mp, hP⟩, -⟩ := id hT
  obtain ⟨hL, Y, ν, hl, ll, hkL, hR, hB⟩ := id hRB
  have hR : la_m H m hf hL h _ _ _ _ _ _ _ _ := hR
  obtain ⟨s1, s2, s3⟩ := la_RB_s hRB
  obtain ⟨x, bn', ly', ld', lo', lr', li', nr', nd', md', mq', mi', st', sw', sd', r1, r2, r3, ⟨sn, n1, n2⟩, r5, r6, r7⟩ := lc_sweep hP hR (q_I h 467) (q_I h 468) (q_I h 469) (fun _ => 0) (fun _ => 0) (fun _ => 0)
  have eM : f_X12_sweepLoft pn (q_I h 457) (q_I h 459) (q_I h 460) (q_I h 461) (q_I h 463) (q_I h 464) (q_I h 465) (q_I h 466) (q_I h 467) (q_I h 468) (q_I h 469) (q_I h 470) = some (x, bn', ly', ld', lo', lr', li', nr', nd') := by
    unfold f_X12_sweepLoft
    rw [r1, Option.bind_some]
  rw [← pl.1] at eM
  have hD1 := la_D0_j (l := [(457, bn'), (459, ly'), (464, ld'), (465, lo'), (466, lr'), (467, li'), (468, nr'), (469, nd')]) rfl rfl hD0
  refine q_cI_of (fun y h5 => y = x ∧ h5 = q_jI h [(457, bn'), (459, ly'), (464, ld'), (465, lo'), (466, lr'), (467, li'), (468, nr'), (469, nd')]) (q_Ct_mono (lq_sweepLoft (d := 1000) (by decide) c1 c2 eM) (fun o h5 hq => ⟨_, hq.1, rfl, hq.2⟩)) (by decide) (show 59 + 64 * 1000 ≤ q_lc 2048 by decide) (by omega) (by omega) trivial (fun y h5 hp => ?_)
  obtain ⟨ey, q2⟩ := hp
  subst ey
  rw [← q2] at hD1
  have hS5 : q_sh h5 s = (0, 12, 0) := by rw [q2]; exact s3
  refine ⟨⟨z_4 s1, hS5⟩, la_simSweep (d := 2048) (d2 := 1000) (by decide) (by decide) (by decide) (show 59 + 64 * 1000 ≤ q_lc 2048 by decide) hT hD1.2.2.2.1 hD1.2.2.2.2 (q_I h 467) (q_I h 468) (q_I h 469) (by omega) (by omega) (fun k' n' z h6 b1 b2 b3 b4 b5 b6 b7 b8 hk6 hn6 e1 f6 N6 hX6 => ?_)⟩
  have e2 := Option.some.inj (r1.symm.trans e1)
  simp only [Prod.mk.injEq] at e2
  obtain ⟨rfl, rfl, rfl, rfl, rfl, rfl, rfl, rfl, rfl⟩ := e2
  have hi : ∀ a, a < 492 → q_I h6 a = q_I h5 a := fun a ha => (z_I_fr hD1.1.1 f6 ha).1
  have hD6 : la_D H m hf ns Q pn nu od T1 K1 (G + 1) h6 s := by
    refine ⟨?_, ?_⟩
    · rw [la_X_e hi, q2]
      exact la_D0_fr hD1 f6 (hX6 li' nr' nd' (q_I h 472) (q_I h 490) (q_I h 491)) N6
    · rw [hi 457 (by decide), hi 459 (by decide), hi 462 (by decide), q2]
      obtain ⟨p, a1, a2, a3⟩ := hA
      exact ⟨p, a1, (r5 12 (by decide)).trans a2, fun b hb h0 => a3 b hb (by rw [← r6 b hb h0]; exact h0)⟩
  refine hC k' n' y y h6 (by omega) (by omega) (by rw [n2]; exact nI_pos (by omega)) hD6 ?_
  rw [hi 459 (by decide), hi 463 (by decide), hi 464 (by decide), hi 470 (by decide), q2]
  exact r7
end LAMID
