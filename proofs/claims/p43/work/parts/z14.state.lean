/-! THE LAW'S STATE between two doings, with what is told held fast; exceptions caught in act -/
def la_St (H m hf ns oc : Nat) (Q : Nat → Nat → Nat) (pn nu : m_Rr) (od : Nat → Option Nat) (T1 : Nat → m_Rr) (K1 : Nat → Nat → Option Nat) : Prop :=
  (0 < H ∧ H ≤ 6) ∧ (hf ≤ 32 ∧ m ≤ 64) ∧ (∃ mp, m_Pl H m hf pn mp) ∧ (pn 4 = nI ns ∧ ns ≤ 12) ∧ (pn 5 = nI oc ∧ oc ≤ 400) ∧ ∀ k, k < ns → z_Tld H oc od nu T1 K1 k (zp_w (Q k))
def la_Pl (pn nu : m_Rr) (od : Nat → Option Nat) (T1 : Nat → m_Rr) (K1 : Nat → Nat → Option Nat) (h : q_H) : Prop := q_I h 402 = pn ∧ q_I h 405 = nu ∧ q_E h 404 = od ∧ q_tR (q_I h) 406 = T1 ∧ q_tR (q_E h) 406 = K1
/-- but for the class's rows: what the law's barn says of rows X -/
def la_D0 (H m hf ns : Nat) (Q : Nat → Nat → Nat) (pn nu : m_Rr) (od : Nat → Option Nat) (T1 : Nat → m_Rr) (K1 : Nat → Nat → Option Nat) (G : Nat) (h : q_H) (s : Nat) (X : m_CB) : Prop :=
  (z_Cls h ∧ z_Sep h) ∧ la_Pl pn nu od T1 K1 h ∧ z_Rows h s ns (fun k => zp_w (Q k)) ∧ z_RB H m hf pn h s X ∧ z_Cn h s G
def la_D (H m hf ns : Nat) (Q : Nat → Nat → Nat) (pn nu : m_Rr) (od : Nat → Option Nat) (T1 : Nat → m_Rr) (K1 : Nat → Nat → Option Nat) (G : Nat) (h : q_H) (s : Nat) : Prop :=
  la_D0 H m hf ns Q pn nu od T1 K1 G h s (la_X (q_I h)) ∧ lc_Ag (q_I h 457) (q_I h 459) (q_I h 462)
section LASTATE
variable {g : q_G} {d H m hf ns oc G G' : Nat} {Q : Nat → Nat → Nat} {pn nu : m_Rr} {od : Nat → Option Nat} {T1 : Nat → m_Rr} {K1 : Nat → Nat → Option Nat} {h h1 h' : q_H} {s : Nat} {X : m_CB}
theorem la_tR {α : Type} {I J : Nat → Nat → α} {B : Nat} (e : ∀ a, a < B + 20 → I a = J a) : q_tR I B = q_tR J B := by
  funext j
  unfold q_tR
  cases hb : Nat.blt j 20 with
  | true =>
    have := Nat.blt_eq.mp hb
    show I (B + j) = J (B + j)
    exact e _ (by omega)
  | false =>
    show I B = J B
    exact e _ (by omega)
theorem la_Pl_c (e : ∀ a, a < 457 → q_I h' a = q_I h a ∧ q_E h' a = q_E h a) (hP : la_Pl pn nu od T1 K1 h) : la_Pl pn nu od T1 K1 h' := by
  obtain ⟨p1, p2, p3, p4, p5⟩ := hP
  exact ⟨(e 402 (by decide)).1.trans p1, (e 405 (by decide)).1.trans p2, (e 404 (by decide)).2.trans p3, (la_tR (fun a ha => (e a (by omega)).1)).trans p4, (la_tR (fun a ha => (e a (by omega)).2)).trans p5⟩
theorem la_ws_lo {I : Nat → m_Rr} {a : Nat} (ha : a < 457) : ∀ {l : List (Nat × m_Rr)}, (l.all fun q => Nat.ble 457 q.1) = true → q_ws I l a = I a
  | [], _ => rfl
  | q :: t, hl => by
    rw [List.all_cons, Bool.and_eq_true] at hl
    have h1 := Nat.le_of_ble_eq_true hl.1
    show q_ur (q_ws I t) q.1 q.2 a = I a
    rw [q_ur_n _ _ _ (by omega)]
    exact la_ws_lo ha (l := t) hl.2
theorem la_RB_s (hX : z_RB H m hf pn h s X) : 492 ≤ s ∧ s < q_nx h ∧ q_sh h s = (0, 12, 0) := by
  obtain ⟨hL, Y, ν, hl, ll, hkL, hR, hB⟩ := hX
  have := z_OK_s hB.1
  exact ⟨this.2.1, this.2.2.1, this.1⟩
/-- the class has changed rows -/
theorem la_D0_j {l : List (Nat × m_Rr)} (hl : q_l492 l = true) (h57 : (l.all fun q => Nat.ble 457 q.1) = true) (hD : la_D0 H m hf ns Q pn nu od T1 K1 G h s X) : la_D0 H m hf ns Q pn nu od T1 K1 G (q_jI h l) s X := by
  obtain ⟨⟨d1, d2⟩, d3, d4, d5, d6⟩ := hD
  obtain ⟨s1, s2, s3⟩ := la_RB_s d5
  exact ⟨⟨z_Cls_jI d1, z_Sep_jI d2⟩, la_Pl_c (fun a ha => ⟨la_ws_lo ha h57, rfl⟩) d3, z_Rows_jI hl d4, z_RB_jI hl d5, z_Cn_s d6 (q_ws_hi s1 hl)⟩
/-- the law's barn has changed -/
theorem la_D0_fr {X' : m_CB} (hD : la_D0 H m hf ns Q pn nu od T1 K1 G h s X) (f : z_fr h h') (hX : z_RB H m hf pn h' s X') (hN : z_Cn h' s G') : la_D0 H m hf ns Q pn nu od T1 K1 G' h' s X' := by
  obtain ⟨⟨d1, d2⟩, d3, d4, d5, d6⟩ := hD
  obtain ⟨s1, s2, s3⟩ := la_RB_s d5
  exact ⟨⟨z_Cls_fr d1 f, z_Sep_fr d1 d2 f⟩, la_Pl_c (fun a ha => z_I_fr d1 f (by omega)) d3, z_Rows_fr s3 s2 d4 f, hX, hN⟩
/-- looked at: by rows -/
theorem la_wsm {I J : Nat → m_Rr} {a : Nat} : ∀ ks : List Nat, q_ws I (ks.map (fun a => (a, J a))) a = if a ∈ ks then J a else I a
  | [] => by rw [if_neg (fun h => by cases h)]; rfl
  | b :: t => by
    show q_ur (q_ws I (t.map (fun a => (a, J a)))) b (J b) a = _
    by_cases e : a = b
    · subst e
      rw [q_ur_s, if_pos List.mem_cons_self]
    · rw [q_ur_n _ _ _ e, la_wsm t]
      by_cases ht : a ∈ t
      · rw [if_pos ht, if_pos (List.mem_cons_of_mem _ ht)]
      · rw [if_neg ht, if_neg (fun h => (List.mem_cons.mp h).elim e ht)]
abbrev la_ks : List Nat := [467, 468, 469, 473, 474, 475, 476, 477, 478, 479, 480, 481, 482, 483, 484, 485, 486, 487, 488, 489, 490, 491]
theorem la_ks_sc {a : Nat} : a ∈ la_ks ↔ la_scB a = true := by
  unfold la_scB
  rw [Bool.or_eq_true, Bool.and_eq_true, Bool.and_eq_true, Nat.ble_eq, Nat.ble_eq, Nat.ble_eq, Nat.ble_eq]
  simp only [List.mem_cons, List.not_mem_nil, or_false]
  omega
theorem la_lk_eq (e : la_lk h h') : h' = q_jI h (la_ks.map (fun a => (a, q_I h' a))) := by
  obtain ⟨e1, e2, e3, e4, e5, e6⟩ := e
  have eI : q_I h' = q_ws (q_I h) (la_ks.map (fun a => (a, q_I h' a))) := by
    funext a
    rw [la_wsm]
    by_cases ha : a ∈ la_ks
    · rw [if_pos ha]
    · rw [if_neg ha]
      exact e6 a (by cases hb : la_scB a with
        | true => exact absurd (la_ks_sc.mpr hb) ha
        | false => rfl)
  show h' = (q_nx h, q_sh h, q_ws (q_I h) (la_ks.map (fun a => (a, q_I h' a))), q_R h, q_E h, q_L h)
  rw [← eI, ← e1, ← e2, ← e3, ← e4, ← e5]
theorem la_D_lk (e : la_lk h h') (hD : la_D H m hf ns Q pn nu od T1 K1 G h s) : la_D H m hf ns Q pn nu od T1 K1 G h' s := by
  obtain ⟨h0, hA⟩ := hD
  have r := e.2.2.2.2.2
  have h1 : la_D0 H m hf ns Q pn nu od T1 K1 G h' s (la_X (q_I h)) := by
    rw [la_lk_eq e]
    exact la_D0_j rfl rfl h0
  obtain ⟨d1, d3, d4, d5, d6⟩ := h1
  refine ⟨⟨d1, d3, d4, ?_, d6⟩, by rw [r 457 rfl, r 459 rfl, r 462 rfl]; exact hA⟩
  obtain ⟨hL, Y, ν, hl, ll, hkL, hR, hB⟩ := d5
  refine ⟨hL, Y, ν, hl, ll, hkL, ?_, ?_⟩
  · show m_R H m hf hL (q_I h' 457) (q_I h' 459) (q_I h' 460) (q_I h' 461) (q_I h' 462) (q_I h' 463) (q_I h' 464) (q_I h' 465) (q_I h' 466) (q_I h' 470) (q_I h' 471) _ _ _ _ _ _ _ _
    rw [r 457 rfl, r 459 rfl, r 460 rfl, r 461 rfl, r 462 rfl, r 463 rfl, r 464 rfl, r 465 rfl, r 466 rfl, r 470 rfl, r 471 rfl]
    exact hR
  · show z_B h' s ν H m hf hL pn (q_I h' 457) (q_I h' 459) (q_I h' 460) (q_I h' 461) (q_I h' 462) (q_I h' 463) (q_I h' 464) (q_I h' 470) hl ll hkL
    rw [r 457 rfl, r 459 rfl, r 460 rfl, r 461 rfl, r 462 rfl, r 463 rfl, r 464 rfl, r 470 rfl]
    exact hB
/-- the class's counters are the law's -/
theorem la_Ct {hL : List Nat} {ν : Nat → Nat} {bn ly pl sz ag rc ld hk : m_Rr} {hl ll : List Nat} {hkL : List (Option Nat)} (hB : z_B h s ν H m hf hL pn bn ly pl sz ag rc ld hk hl ll hkL) (hN : z_Cn h s G) : lc_Ct G bn := by
  obtain ⟨b1, b2, b3, b4, b5, b6, b7, b8, b9⟩ := hB
  obtain ⟨g, p, q, a1, a2, a3, a4, a5, a6⟩ := hN
  exact ⟨g, p, q, b5.symm.trans a1, b8.symm.trans a2, b6.symm.trans a3, a4, b7.symm.trans a5, by omega, by omega⟩
theorem la_D_S (hT : la_St H m hf ns oc Q pn nu od T1 K1) (hD : la_D H m hf ns Q pn nu od T1 K1 G h s) : lc_S H m hf G h := by
  obtain ⟨⟨d1, d3, d4, d5, d6⟩, hA⟩ := hD
  obtain ⟨t1, t2, t3, -⟩ := hT
  obtain ⟨hL, Y, ν, hl, ll, hkL, hR, hB⟩ := d5
  exact ⟨d1, ⟨t1, t2⟩, by rw [d3.1]; exact t3, ⟨hL, _, _, _, _, _, _, _, _, hR⟩, hA, la_Ct hB d6⟩
end LASTATE
section LACATCH
variable {g : q_G} {xt : List ExceptionTableEntry} {M : q_M} {d mc ms : Nat} {h0 : q_H} {mv : List Nat} {Q : (Option Value ⊕ String) → q_H → Prop} {k n pc ln a1 a2 w1 w2 : Nat} {ls ls' : List (Option Value)} {h : q_H}
theorem k_lessX {E : String} (hs : q_sub ls' ls) (hJ : q_KX g M xt d mc ms h0 mv Q k n pc ls' E h) : q_KX g M xt d mc ms h0 mv Q k n pc ls E h := by
  obtain ⟨hlen, hsub⟩ := q_sub_of hs
  intro p e s m args below meth cd D cA ρ0 ρ A H locs rls rest q ce hB hS
  obtain ⟨hK, hW, hVS, hX, hC, hst, hls, hlh, hag, hag2, hA, hnx0⟩ := id hS
  exact hJ p e s m args below meth cd D cA ρ0 ρ A H locs rls rest q ce hB ⟨hK, hW, hVS, hX, hC, hst, fun i v hv => hls i v (hsub i v hv), ⟨hlh.1, hlen.trans hlh.2.1, hlh.2.2.1, fun i v hv => hlh.2.2.2 i v (hsub i v hv)⟩, hag, hag2, hA, hnx0⟩
/-- caught by a row of the table: those ahead are of other places -/
theorem k_catch2 {E name : String} {hp i : Nat} (hok : q_okB M = true) (pre : List ExceptionTableEntry) (x : ExceptionTableEntry) (suf : List ExceptionTableEntry) (hsplit : xt = pre ++ x :: suf)
    (hpre : ∀ z ∈ pre, covers z pc = false) (hx : covers x pc = true) (h0x : x.catchType ≠ 0)
    (hlink : Jvm.Cond.classLink M.1.cls x.catchType name ∈ q_tb) (hcast : Jvm.Cond.castable E name ∈ lw_tbl) (hi : i < M.2.2.1) (hcat : ∀ j u, q_nth ls j = some (some u) → j ≠ i ∧ u.category = 1)
    (he : q_nth M.2.2.2.2.1 hp = some (x.handlerPc, .astore i, ln, a1, a2, w1, w2)) (hJ : q_K g M xt d mc ms h0 mv Q k n (hp + 1, ls, [], h)) : q_KX g M xt d mc ms h0 mv Q k n pc ls E h := by
  obtain rfl : ln = 2 := (q_atB hok he).2.2.1 (Nat.succ_ne_zero _)
  intro p e s m args below meth cd D cA ρ0 ρ A H locs rls rest q ce hB hS hce hcv hcl
  obtain ⟨hdg, hnx, -, -⟩ := q_atB hok he
  obtain ⟨en', he', hpc⟩ := hnx rfl
  obtain ⟨hx0, hb, hr0, hml, hts, hown, hlk, hnm, hxt⟩ := id hB
  obtain ⟨hK, hW, hVS, hX, hC, hst, hls, hlh, hag, hag2, hA, hn1, hn2⟩ := id hS
  refine vx_catch (name := name) hown pre x suf (by rw [hxt, hsplit]) (fun z hz => Or.inl (hpre z hz)) hx h0x (hts _ hlink) (q_Xn hX hcast rfl rfl) hce hcv hcl ?_
  refine lv_astore hx0 hb hdg (q_lh_has hlh) hi rfl (fun rls' h' => ?_)
  have h9 := hJ p e s m args below meth cd D cA ρ0 ρ A H locs rls' en' he' hB ⟨hK, hW, hVS, hX, hC, hst, hls, ⟨h'.1, hlh.2.1, h'.2.1, fun j u hj => h'.2.2 (j, q_vz ρ u) (List.mem_cons_of_mem _ (List.mem_filter.mpr ⟨q_lv_in hj, ?_⟩))⟩, hag, hag2, hA, hn1, hn2⟩
  · rw [hpc] at h9
    exact h9
  · obtain ⟨u1, u2⟩ := hcat j u hj
    have h1 : (j == i) = false := by simpa using u1
    simp only [h1, q_cat, u2, Bool.not_false, Bool.true_and]
    cases (j + 1 == i) <;> rfl
abbrev la_hh : List (Nat × Nat × Nat × Nat) := [(37, 161, 464, 192), (162, 254, 464, 192), (255, 306, 464, 192), (307, 352, 464, 192), (353, 401, 464, 192), (402, 463, 464, 192)]
theorem cw_L_act : Jvm.Cond.codeWith m_L_act.1 m_L_act.2.1 m_L_act.2.2.1 m_L_act.2.2.2.1 la_hh ∈ q_tb := q_gw_in (k := 7) (i := 65) (by decide +kernel) rfl
/-- an IllegalStateException in act: what was not done by hand isn't done by the class -/
theorem la_catch (i : Nat) (hd : 1 ≤ d) (hi : i < 6) (hpre : ∀ z ∈ (tableOf la_hh).take i, covers z pc = false) (hx : covers ((tableOf la_hh)[i]'(by show i < 6; exact hi)) pc = true) (hs : q_sub [none, none, none, none, none, none, some (.int 0), none, none] ls) (hk : k ≤ mc) (hn : n ≤ ms) (hQ : Q (.inl (some (.int 1))) h) : q_KX g m_L_act (tableOf la_hh) d mc ms h0 mv Q k n pc ls "java/lang/IllegalStateException" h := by
  refine k_lessX hs ?_
  have hz : ∀ x ∈ tableOf la_hh, x.catchType = 192 ∧ x.handlerPc = 464 := by decide
  have hmem : (tableOf la_hh)[i]'(by show i < 6; exact hi) ∈ tableOf la_hh := List.getElem_mem _
  obtain ⟨z1, z2⟩ := hz _ hmem
  refine k_catch2 (name := "java/lang/IllegalStateException") (hp := 226) (i := 7) (ln := 2) (a1 := 0) (a2 := 0) (w1 := 0) (w2 := 0) okB_L_act ((tableOf la_hh).take i) ((tableOf la_hh)[i]'(by show i < 6; exact hi)) ((tableOf la_hh).drop (i + 1)) ?_ hpre hx (by rw [z1]; decide) (by rw [z1]; exact q_gw_in (k := 7) (i := 66) (by decide +kernel) rfl) (q_gw_in2 (k := 2) (i := 97) (by decide +kernel)) (by decide) (fun j u hj => ?_) (by rw [z2]; rfl) ?_
  · rw [← List.drop_eq_getElem_cons (by show i < 6; exact hi), List.take_append_drop]
  · rw [q_nth_eq] at hj
    have h9 := List.mem_of_getElem? hj
    simp at h9
    subst h9
    refine ⟨fun e => ?_, rfl⟩
    subst e
    cases hj
  · exact w_L_act_227 hd ⟨fun hc => absurd rfl hc, fun _ => ⟨rfl, ⟨hk, hn⟩, hQ⟩⟩
end LACATCH
