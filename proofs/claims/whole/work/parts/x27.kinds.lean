/-! THE LAW'S KINDS OF CALLS: teach, the mean size -/
theorem m_Pn_T {H m hf ns oc : Nat} {pn nu : m_Rr} {od : Nat → Option Nat} {T1 T2 : Nat → m_Rr} {K1 K2 : Nat → Nat → Option Nat} {mp pd po pq pr ps pt pe pc : m_Rr} (h : m_Pn H m hf ns oc pn nu od T1 K1 mp pd po pq pr ps pt pe pc) (hT : ∀ k, k < 20 → T2 k = T1 k ∧ K2 k = K1 k) : m_Pn H m hf ns oc pn nu od T2 K2 mp pd po pq pr ps pt pe pc := by
  obtain ⟨h1, h2, h3, h4, h5, h6, h7⟩ := h
  refine ⟨h1, h2, h3, h4, h5, h6, fun k hk => ?_⟩
  have h8 := h7 k hk
  unfold m_Sk at h8 ⊢
  rw [(hT k (by omega)).1, (hT k (by omega)).2]
  exact h8
theorem m_Tp_new {hb tp md' mt : m_Rr} {p : Int32} (hB : m_By tp mt) (h3 : md' 3 = p) : m_Tp (q_up (q_up hb 8 p) 7 0) tp (q_up md' 2 0) mt :=
  ⟨⟨0, by decide, m_up_s, m_up_s⟩, hB, by rw [m_up_n (by decide), m_up_s, m_up_n (by decide), h3]⟩
set_option maxHeartbeats 4000000 in
set_option maxRecDepth 100000 in
theorem lawk_2 {xt : List ExceptionTableEntry} {g : q_G} {k n i G : Nat} {I : Nat → Nat → Int32} {E : Nat → Nat → Option Nat} {L : Nat → Nat → Int64} (hi : i + 6 ≤ g.2.length) (hL : g.2.length ≤ 3072) (hRL : q_RL G I E) (hG : G < 2 ^ 29) (hk : k + 103 ≤ 601024) (hn : n + 13760 ≤ 7293033)
    (hcont : ∀ I' E' L', q_RL (G + 100) I' E' → q_LK xt g (k + 103) (n + 13760) (938, q_ll i, [], q_hp (q_XL L') I' E')) : q_LK xt g k n (135, q_ll i, [], q_hp (q_XL L) I E) := by
  obtain ⟨H, m, hf, ns, oc, h, hP, hR, hC, hT⟩ := hRL
  obtain ⟨⟨z, hz, h7, hm2⟩, hBy, h83⟩ := id hT
  obtain ⟨err, qn, qu, rd, hn', tk, ts, tl, tv, qd, tg, T, K, p, md, kn, mf, mm, mr, me, mp, pd, po, pq, pr, ps, pt, pe, pc, pw, s1, s2, s3, hmd, hcase⟩ := m_read hBy hz (md := q_up (q_up (I 492) 0 0) 3 (-1)) (by rw [m_up_n (by decide), m_up_n (by decide)]; exact hm2) (I 426) (I 429) (I 450) (I 451) (I 452) (I 454) (I 455) (I 456) (I 494) (I 495) (I 496) (I 497) (I 498) q_mp0 (fun _ => 0) (fun _ => 0) (fun _ => 0) (fun _ => 0) (fun _ => 0) (fun _ => 0) (fun _ => 0) (fun _ => 0) (fun _ => 0) (E 428) (E 453) (fun j => I (430 + j)) (fun j => E (430 + j)) rfl rfl rfl rfl rfl rfl rfl rfl
  rw [← h7] at s1
  obtain ⟨hRe, hRg, hRv, hRh, hRl, hRk, hRb⟩ := id hR
  have hH6 : H ≤ 6 := hRk.1
  have hm64 : m ≤ 64 := hRl.1.1
  have hf64 : hf ≤ 64 := hRh.2.2.2.2.2.2
  -- the plan that is gone on with
  obtain ⟨H9, m9, hf9, pn9, mp9, hPl9, hH9, hm9, hh9, hq9, hm9'⟩ : ∃ H9 m9 hf9 : Nat, ∃ pn9 mp9 : m_Rr, m_Pl H9 m9 hf9 pn9 mp9 ∧ H9 ≤ 6 ∧ m9 ≤ 64 ∧ hf9 ≤ 64 ∧ (err = 0 → pn9 = qn ∧ ∃ ns9 oc9, m_Pn H9 m9 hf9 ns9 oc9 qn qu qd T K mp pd po pq pr ps pt pe pc) ∧ True := by
    rcases hcase with ⟨c1, c2, c3⟩ | ⟨c1, c2, c3, H9, m9, hf9, ns9, oc9, d1, d2, d3, d4, d5⟩
    · exact ⟨H, m, hf, _, _, hP.1, hH6, hm64, hf64, fun h => absurd h c1, trivial⟩
    · exact ⟨H9, m9, hf9, _, _, d5.1, d4, d3, d2, fun _ => ⟨rfl, ns9, oc9, d5⟩, trivial⟩
  obtain ⟨bn, ly, lo, lr, hk9, st, sh, sw, b1, b2, b3, b4⟩ := m_begin hPl9 hH9 hm9 hh9 hR
  have hp3 : md 3 = p := by
    rcases hcase with ⟨c1, c2, c3⟩ | ⟨c1, c2, c3, -⟩
    · exact c3
    · rw [c3, c2]; exact m_up_s
  have herr : (0 < err ∧ err ≠ 0) ∨ (¬ 0 < err ∧ err = 0) := by
    rcases hcase with ⟨c1, c2, c3⟩ | ⟨c1, c2, c3, -⟩
    · exact Or.inl ⟨c2, c1⟩
    · exact Or.inr ⟨by rw [c1]; decide, c1⟩
  refine k_go 1 (c' := (136, q_ll i, [.ref 400], q_hp (q_XL L) I E)) okB_L_law rfl ?_
  refine k_callV (h := q_hp (q_XL L) I E) (M2 := m_X12_teach) (b := 400) (As := []) (rest := []) okB_L_law ok_X12_teach rfl (Or.inl rfl) cv_X12_teach (by decide) rfl (show vwCl[10]? = some _ from rfl) rfl (ct_X12_teach (d := 410) (by decide) s1 s2 (bn := bn) (ly := ly) (lo := lo) (lr := lr) (hk := hk9) (fun h0 => by rw [← (hq9 h0).1]; exact b1)) (by decide) (show 59 + 64 * 410 ≤ 84000 by decide) (by omega) (by omega) (by decide) (fun x hx => by
    have := List.mem_range'_1.mp hx
    exact List.mem_range'_1.mpr (by omega)) (q_nmL_of rfl) (fun a ha => absurd ha List.not_mem_nil) rfl (fun v h' hq => ?_) (fun E9 h' hq => by cases hq.1)
  obtain ⟨e1, I1, E1, L1, e2, hl1, i400, i401, hhi, hc1⟩ := hq
  cases e1
  subst e2
  have hI1 : ∀ a, 471 ≤ a → I1 a = I a := fun a ha => (hhi a (by omega) (by omega) (by omega) (by omega) (by omega) (by omega)).1
  refine k_go 1 (c' := (138, q_ll i, [.ref 492, .int err], q_hp (q_XL L1) I1 E1)) okB_L_law rfl ?_
  have s3' : f_X15_read (q_up (q_up (I1 492) 0 0) 3 (-1)) (I1 493) (I1 494) (I1 495) (I1 496) (I1 497) (I1 498) q_mp0 (fun _ => 0) (fun _ => 0) (fun _ => 0) (fun _ => 0) (fun _ => 0) (fun _ => 0) (fun _ => 0) (fun _ => 0) (fun _ => 0) = some (err, md, kn, mf, mm, mr, me, mp, pd, po, pq, pr, ps, pt, pe, pc, pw) := by
    rw [hI1 492 (by decide), hI1 493 (by decide), hI1 494 (by decide), hI1 495 (by decide), hI1 496 (by decide), hI1 497 (by decide), hI1 498 (by decide)]
    exact s3
  have b2' : f_X14_begin (I1 512) (I1 513) (I1 514) = some (st, sh, sw) := by
    rw [hI1 512 (by decide), hI1 513 (by decide), hI1 514 (by decide)]
    exact b2
  refine k_callV (h := q_hp (q_XL L1) I1 E1) (M2 := m_X15_teach) (b := 492) (As := []) (rest := [.int err]) okB_L_law ok_X15_teach rfl (Or.inl rfl) cv_X15_teach (by decide) rfl (show vwCl[13]? = some _ from rfl) rfl (ct_X15_teach (d := 410) (by decide) s3' b2') (by decide) (show 59 + 64 * 410 ≤ 84000 by decide) (by omega) (by omega) (Nat.le_of_ble_eq_true rfl) (fun x hx => by
    have := List.mem_range'_1.mp hx
    exact List.mem_range'_1.mpr (by omega)) (q_nmL_of rfl) (fun a ha => by simp at ha) rfl (fun v h' hq => ?_) (fun E9 h' hq => ?_)
  · obtain ⟨I2, E2, L2, e2, hl2, jlo, j493, j492, hc2⟩ := hq
    subst e2
    have hv : v = some (.int err) := by
      rcases hc2 with ⟨x1, x2, -⟩ | ⟨x1, x2, -⟩
      · cases x2; rfl
      · cases x2
        rcases herr with ⟨y1, y2⟩ | ⟨y1, y2⟩
        · exact absurd y1 x1
        · rw [y2]
    subst hv
    refine k_if 1 (P := err = err) (a := (938, q_ll i, [], q_hp (q_XL L2) I2 E2)) (b := (140, q_ll i, [], q_hp (q_XL L2) I2 E2)) okB_L_law rfl (fun _ => ?_) (fun h => absurd rfl h)
    refine k_Jwd (k2 := k + 103) (n2 := n + 13760) (by omega) (by omega) (hcont _ _ _ ?_)
    have hTp : m_Tp (I2 400) (I2 401) (I2 492) (I2 493) := by
      rw [(jlo 400 (by decide)).1, (jlo 401 (by decide)).1, j492, j493, i400, i401, hI1 493 (by decide)]
      exact m_Tp_new hBy hp3
    rcases herr with ⟨y1, y2⟩ | ⟨y1, y2⟩
    · -- an error: all as it was
      obtain ⟨-, k1, n1, n2, n3, n4, n5⟩ : err ≠ 0 ∧ _ := by
        rcases hc1 with h | h
        · exact h
        · exact absurd h.1 y2
      have jhi : ∀ a, 499 ≤ a → a < 529 → I2 a = I1 a := by
        rcases hc2 with ⟨-, -, h⟩ | ⟨h, -⟩
        · exact h
        · exact absurd y1 h
      have A0 : ∀ a, 402 ≤ a → a < 426 → I2 a = I a ∧ E2 a = E a := fun a ha1 ha2 => ⟨(jlo a (by omega)).1.trans (k1 a ha1 ha2).1, (jlo a (by omega)).2.trans (k1 a ha1 ha2).2⟩
      have A1 : ∀ a, 457 ≤ a → a < 492 → I2 a = I a := fun a ha1 ha2 => by
        rw [(jlo a (by omega)).1]
        by_cases z1 : a = 457
        · rw [z1]; exact n1
        by_cases z2 : a = 459
        · rw [z2]; exact n2
        by_cases z3 : a = 465
        · rw [z3]; exact n3
        by_cases z4 : a = 466
        · rw [z4]; exact n4
        by_cases z5 : a = 470
        · rw [z5]; exact n5
        exact (hhi a z1 z2 z3 z4 z5 ha1).1
      have A2 : ∀ a, 499 ≤ a → a < 529 → I2 a = I a := fun a ha1 ha2 => (jhi a ha1 ha2).trans (hI1 a (by omega))
      refine ⟨H, m, hf, ns, oc, h, ?_, ?_, ?_, hTp⟩
      · rw [(A0 402 (by decide) (by decide)).1, (A0 405 (by decide) (by decide)).1, (A0 404 (by decide) (by decide)).2, A2 499 (by decide) (by decide), A2 500 (by decide) (by decide), A2 501 (by decide) (by decide), A2 502 (by decide) (by decide), A2 503 (by decide) (by decide), A2 504 (by decide) (by decide), A2 505 (by decide) (by decide), A2 506 (by decide) (by decide), A2 507 (by decide) (by decide), q_tR_same (I' := I2) (I := I) (B := 406) (fun a h1 h2 => (A0 a (by omega) (by omega)).1), q_tR_same (I' := E2) (I := E) (B := 406) (fun a h1 h2 => (A0 a (by omega) (by omega)).2)]
        exact hP
      · rw [A1 457 (by decide) (by decide), A1 459 (by decide) (by decide), A1 460 (by decide) (by decide), A1 461 (by decide) (by decide), A1 462 (by decide) (by decide), A1 463 (by decide) (by decide), A1 464 (by decide) (by decide), A1 465 (by decide) (by decide), A1 466 (by decide) (by decide), A1 470 (by decide) (by decide), A1 471 (by decide) (by decide), A2 512 (by decide) (by decide), A2 513 (by decide) (by decide), A2 514 (by decide) (by decide), A2 515 (by decide) (by decide), A2 516 (by decide) (by decide), A2 517 (by decide) (by decide), A2 518 (by decide) (by decide), A2 519 (by decide) (by decide)]
        exact hR
      · rw [A1 457 (by decide) (by decide)]
        exact m_Cn_mono hC (by omega)
    · -- a new plan, an empty barn
      obtain ⟨-, k2, k3, k4, k5, k6, k7, k8, k9, k10⟩ : err = 0 ∧ _ := by
        rcases hc1 with h | h
        · exact absurd y2 h.1
        · exact h
      obtain ⟨-, -, x1, x2, x3, x4, x5, x6, x7, x8, x9, x10, x11, x12, x13⟩ : ¬ 0 < err ∧ _ := by
        rcases hc2 with h | h
        · exact absurd h.1 y1
        · exact h
      obtain ⟨-, ns9, oc9, hPn⟩ := hq9 y2
      have A1 : ∀ a, 457 ≤ a → a < 492 → a ≠ 457 → a ≠ 459 → a ≠ 465 → a ≠ 466 → a ≠ 470 → I2 a = I a := fun a ha1 ha2 z1 z2 z3 z4 z5 => (jlo a (by omega)).1.trans (hhi a z1 z2 z3 z4 z5 ha1).1
      have A2 : ∀ a, 515 ≤ a → a < 529 → I2 a = I a := fun a ha1 ha2 => (x13 a ha1 ha2).trans (hI1 a (by omega))
      refine ⟨H9, m9, hf9, ns9, oc9, [], ?_, ?_, ?_, hTp⟩
      · rw [(jlo 402 (by decide)).1, (jlo 405 (by decide)).1, (jlo 404 (by decide)).2, k2, k3, k4, x1, x2, x3, x4, x5, x6, x7, x8, x9]
        refine m_Pn_T hPn (fun j hj => ?_)
        rw [q_tR_at hj, q_tR_at hj, (jlo (406 + j) (by omega)).1, (jlo (406 + j) (by omega)).2]
        exact k5 j hj
      · rw [(jlo 457 (by decide)).1, (jlo 459 (by decide)).1, (jlo 465 (by decide)).1, (jlo 466 (by decide)).1, (jlo 470 (by decide)).1, k6, k7, k8, k9, k10, x10, x11, x12, A1 460 (by decide) (by decide) (by decide) (by decide) (by decide) (by decide) (by decide), A1 461 (by decide) (by decide) (by decide) (by decide) (by decide) (by decide) (by decide), A1 462 (by decide) (by decide) (by decide) (by decide) (by decide) (by decide) (by decide), A1 463 (by decide) (by decide) (by decide) (by decide) (by decide) (by decide) (by decide), A1 464 (by decide) (by decide) (by decide) (by decide) (by decide) (by decide) (by decide), A1 471 (by decide) (by decide) (by decide) (by decide) (by decide) (by decide) (by decide), A2 515 (by decide) (by decide), A2 516 (by decide) (by decide), A2 517 (by decide) (by decide), A2 518 (by decide) (by decide), A2 519 (by decide) (by decide)]
        exact b3
      · rw [(jlo 457 (by decide)).1, k6]
        exact m_Cn_mono b4 (by omega)
  · obtain ⟨I2, E2, L2, e2, hl2, jlo, j493, j492, hc2⟩ := hq
    rcases hc2 with ⟨x1, x2, -⟩ | ⟨x1, x2, -⟩ <;> cases x2
set_option maxHeartbeats 4000000 in
set_option maxRecDepth 100000 in
theorem lawk_38 {xt : List ExceptionTableEntry} {g : q_G} {k n i G : Nat} {I : Nat → Nat → Int32} {E : Nat → Nat → Option Nat} {L : Nat → Nat → Int64} (hi : i + 6 ≤ g.2.length) (hL : g.2.length ≤ 3072) (hRL : q_RL G I E) (hG : G < 2 ^ 29) (hk : k + 103 ≤ 601024) (hn : n + 13760 ≤ 7293033)
    (hcont : ∀ I' E' L', q_RL (G + 100) I' E' → q_LK xt g (k + 103) (n + 13760) (938, q_ll i, [], q_hp (q_XL L') I' E')) : q_LK xt g k n (909, q_ll i, [], q_hp (q_XL L) I E) := by
  obtain ⟨H, m, hf, ns, oc, h, hP, hR, hC, hT⟩ := hRL
  obtain ⟨c, u1, u2, q1, q2, q3, c1, c2, c3, c4, c5, c6⟩ := m_q_mean hR
  refine k_go 1 (c' := (910, q_ll i, [.ref 400], q_hp (q_XL L) I E)) okB_L_law rfl ?_
  refine k_lv (M2 := m_X12_meanSize) (b := 400) (As := []) (rest := []) (val := .double (q_mean (u1 + u2) c)) (I' := I) (E' := E) rfl (Or.inl rfl) ok_X12_meanSize cv_X12_meanSize rfl rfl rfl rfl (ct_X12_meanSize (d := 410) (by decide) q1 q2 q3 c1 c2 c3) (by decide) (by omega) (by omega) (by decide) (fun x hx => absurd hx List.not_mem_nil) (q_nmL0 _) (q_nmS0 _) rfl ?_
  refine k_go 2 (c' := (913, [some (.ref 52), some (.ref 400), some (.ref 492), some (.ref 528), some (.int (nI i)), some (.double (q_mean (u1 + u2) c)), none, none, none], [.ref 492], q_hp (q_XL L) I E)) okB_L_law rfl ?_
  refine k_lv (M2 := m_X15_meanSize) (b := 492) (As := []) (rest := []) (val := .double (q_mean (u1 + u2) c)) (I' := q_ws I [(492, q_up (I 492) 0 0)]) (E' := E) rfl (Or.inl rfl) ok_X15_meanSize cv_X15_meanSize rfl rfl rfl rfl (ct_X15_meanSize (d := 410) (by decide) q1 q2 q3 c4 c5 c6) (by decide) (by omega) (by omega) (by decide) (fun x hx => absurd hx List.not_mem_nil) (q_nmL0 _) (q_nmS0 _) rfl ?_
  have hend : ∀ k2 n2, k2 ≤ k + 103 → n2 ≤ n + 13760 → q_LK xt g k2 n2 (929, [some (.ref 52), some (.ref 400), some (.ref 492), some (.ref 528), some (.int (nI i)), some (.double (q_mean (u1 + u2) c)), none, some (.double (q_mean (u1 + u2) c)), none], [], q_hp (q_XL L) (q_ws I [(492, q_up (I 492) 0 0)]) E) := fun k2 n2 h1 h2 => by
    refine k_go 1 (c' := (938, [some (.ref 52), some (.ref 400), some (.ref 492), some (.ref 528), some (.int (nI i)), some (.double (q_mean (u1 + u2) c)), none, some (.double (q_mean (u1 + u2) c)), none], [], q_hp (q_XL L) (q_ws I [(492, q_up (I 492) 0 0)]) E)) okB_L_law rfl ?_
    refine k_less (ls' := q_ll i) (q_sb2 (q_sb2 (q_sb2 (q_sb2 (q_sb2 (q_sb1 (q_sb1 (q_sb1 (q_sb1 q_sb0))))))))) ?_
    exact k_Jwd h1 h2 (hcont _ _ _ (q_RL_st (l1 := []) (l2 := [(492, q_up (I 492) 0 0)]) hP hT rfl rfl _ rfl hR (m_Cn_mono hC (by omega)) m_mdk_0))
  refine k_go 3 (c' := (917, [some (.ref 52), some (.ref 400), some (.ref 492), some (.ref 528), some (.int (nI i)), some (.double (q_mean (u1 + u2) c)), none, some (.double (q_mean (u1 + u2) c)), none], [.double (q_mean (u1 + u2) c), .double (q_mean (u1 + u2) c)], q_hp (q_XL L) (q_ws I [(492, q_up (I 492) 0 0)]) E)) okB_L_law rfl ?_
  refine k_o_dcmp okB_L_law rfl ?_
  obtain ⟨v, hv⟩ : ∃ v, v = Op.cmpValue (FP.dcmp (q_mean (u1 + u2) c) (q_mean (u1 + u2) c)) CmpOp.l := ⟨_, rfl⟩
  rw [← hv]
  refine k_if 1 (P := v = 0) (a := (929, [some (.ref 52), some (.ref 400), some (.ref 492), some (.ref 528), some (.int (nI i)), some (.double (q_mean (u1 + u2) c)), none, some (.double (q_mean (u1 + u2) c)), none], [], q_hp (q_XL L) (q_ws I [(492, q_up (I 492) 0 0)]) E)) (b := (919, [some (.ref 52), some (.ref 400), some (.ref 492), some (.ref 528), some (.int (nI i)), some (.double (q_mean (u1 + u2) c)), none, some (.double (q_mean (u1 + u2) c)), none], [], q_hp (q_XL L) (q_ws I [(492, q_up (I 492) 0 0)]) E)) okB_L_law rfl (fun _ => hend _ _ (by omega) (by omega)) (fun h0 => ?_)
  refine k_go 2 (c' := (921, [some (.ref 52), some (.ref 400), some (.ref 492), some (.ref 528), some (.int (nI i)), some (.double (q_mean (u1 + u2) c)), none, some (.double (q_mean (u1 + u2) c)), none], [.double (q_mean (u1 + u2) c), .double (q_mean (u1 + u2) c)], q_hp (q_XL L) (q_ws I [(492, q_up (I 492) 0 0)]) E)) okB_L_law rfl ?_
  refine k_o_dcmp okB_L_law rfl ?_
  rw [← hv]
  refine k_if 1 (P := v = 0) (a := (927, [some (.ref 52), some (.ref 400), some (.ref 492), some (.ref 528), some (.int (nI i)), some (.double (q_mean (u1 + u2) c)), none, some (.double (q_mean (u1 + u2) c)), none], [], q_hp (q_XL L) (q_ws I [(492, q_up (I 492) 0 0)]) E)) (b := (923, [some (.ref 52), some (.ref 400), some (.ref 492), some (.ref 528), some (.int (nI i)), some (.double (q_mean (u1 + u2) c)), none, some (.double (q_mean (u1 + u2) c)), none], [], q_hp (q_XL L) (q_ws I [(492, q_up (I 492) 0 0)]) E)) okB_L_law rfl (fun h => absurd h h0) (fun _ => ?_)
  refine k_go 2 (c' := (925, [some (.ref 52), some (.ref 400), some (.ref 492), some (.ref 528), some (.int (nI i)), some (.double (q_mean (u1 + u2) c)), none, some (.double (q_mean (u1 + u2) c)), none], [.double (q_mean (u1 + u2) c), .double (q_mean (u1 + u2) c)], q_hp (q_XL L) (q_ws I [(492, q_up (I 492) 0 0)]) E)) okB_L_law rfl ?_
  refine k_o_dcmp okB_L_law rfl ?_
  rw [← hv]
  exact k_if 1 (P := ¬ v = 0) (a := (929, [some (.ref 52), some (.ref 400), some (.ref 492), some (.ref 528), some (.int (nI i)), some (.double (q_mean (u1 + u2) c)), none, some (.double (q_mean (u1 + u2) c)), none], [], q_hp (q_XL L) (q_ws I [(492, q_up (I 492) 0 0)]) E)) (b := (927, [some (.ref 52), some (.ref 400), some (.ref 492), some (.ref 528), some (.int (nI i)), some (.double (q_mean (u1 + u2) c)), none, some (.double (q_mean (u1 + u2) c)), none], [], q_hp (q_XL L) (q_ws I [(492, q_up (I 492) 0 0)]) E)) okB_L_law rfl (fun _ => hend _ _ (by omega) (by omega)) (fun h => absurd h0 h)
