/-! STEPS REFUSED are one more, or as many -/
section LCREF
variable {H m hf ns oc : Nat} {hL : List Nat} {pn mp bn ly pl sz ag rc ld lo lr hk rw st sh sw sp ss sr sa sd : m_Rr}
theorem lc_make11 (hP : m_Pl H m hf pn mp) (hR : m_R H m hf hL bn ly pl sz ag rc ld lo lr hk rw st sh sw sp ss sr sa sd) (li nr nd ro : m_Rr) {i s k : Nat} (hi : i < H) (hs1 : 1 ≤ s) (hs9 : s ≤ 9) (hk3 : k ≤ 3) :
    ∃ r, f_X2_makeBale pn bn ly pl sz ag rc ld lo lr li nr nd hk rw ro (nI i) (nI s) (nI k) = some r ∧ r.2.1 11 = bn 11 := by
  obtain ⟨p0, p1, p2, p3, p4, p5, p6⟩ := id hP
  obtain ⟨u1, u2, u3, u4⟩ := m_usedH hR
  have hfree : f_X2_freePlaces pn bn = some (nI (hf - m_tw (m_w sz) hL)) := by
    unfold f_X2_freePlaces
    rw [p0, u2, m_subI u3]
  by_cases fit : s ≤ hf - m_tw (m_w sz) hL
  · obtain ⟨v, v8, a1, a2, a3, a4, a5, a6⟩ := m_new hR hi hs1 hs9 hk3 (by omega)
    have hle := nI_le fit (by omega)
    refine ⟨(true, q_up (q_up bn 7 (nI (hL.length + 1))) 8 (bn 8 + nI s), q_up ly v 1, q_up pl v (bn 8), q_up sz v (nI s), q_up ag v 0, q_up rc v (nI k), m_3 ld (v * 3), lo, lr, li, nr, nd, q_up hk i (nI v), q_up rw hL.length (nI v), ro), ?_, ?_⟩
    · unfold f_X2_makeBale
      rw [hfree, Option.bind_some, if_pos hle, Option.bind_some, if_pos hle, a1, Option.bind_some, if_pos (m_nI_m1 (by omega)), a2, Option.bind_some, a3, Option.bind_some]
    · exact (show q_up (q_up bn 7 (nI (hL.length + 1))) 8 (bn 8 + nI s) 11 = bn 11 by rw [m_up_n (by decide), m_up_n (by decide)])
  · obtain ⟨x, h', bn', ly', pl', ag', lo', lr', li', nr', nd', rw', md', mq', mi', st', sw', sp', sa', c1, c2, c3, c4, -⟩ := lc_copy hP hR li nr nd ro (fun _ => 0) (fun _ => 0) (fun _ => 0)
    have hgt := nI_ge (show hf - m_tw (m_w sz) hL < s by omega) (by omega)
    have hA' : bn' 11 = bn 11 := c4.1.2.2.2.1
    obtain ⟨y1, y2, y3, y4⟩ := m_usedH c3
    have gfree : f_X2_freePlaces pn bn' = some (nI (hf - m_tw (m_w sz) h')) := by
      unfold f_X2_freePlaces
      rw [p0, y2, m_subI y3]
    by_cases fit2 : s ≤ hf - m_tw (m_w sz) h'
    · obtain ⟨v, v8, a1, a2, a3, a4, a5, a6⟩ := m_new c3 hi hs1 hs9 hk3 (by omega)
      have hle := nI_le fit2 (by omega)
      refine ⟨(true, q_up (q_up bn' 7 (nI (h'.length + 1))) 8 (bn' 8 + nI s), q_up ly' v 1, q_up pl' v (bn' 8), q_up sz v (nI s), q_up ag' v 0, q_up rc v (nI k), m_3 ld (v * 3), lo', lr', li', nr', nd', q_up hk i (nI v), q_up rw' h'.length (nI v), rw), ?_, ?_⟩
      · unfold f_X2_makeBale
        rw [hfree, Option.bind_some, if_neg hgt, c1, Option.bind_some, gfree, Option.bind_some, if_pos hle, a1, Option.bind_some, if_pos (m_nI_m1 (by omega)), a2, Option.bind_some, a3, Option.bind_some]
      · exact (show q_up (q_up bn' 7 (nI (h'.length + 1))) 8 (bn' 8 + nI s) 11 = bn 11 by rw [m_up_n (by decide), m_up_n (by decide)]; exact hA')
    · have hgt2 := nI_ge (show hf - m_tw (m_w sz) h' < s by omega) (by omega)
      refine ⟨(false, bn', ly', pl', sz, ag', rc, ld, lo', lr', li', nr', nd', hk, rw', rw), ?_, ?_⟩
      · unfold f_X2_makeBale
        rw [hfree, Option.bind_some, if_neg hgt, c1, Option.bind_some, gfree, Option.bind_some, if_neg hgt2]
      · exact hA'
variable {nu : m_Rr} {od : Nat → Option Nat} {T1 : Nat → m_Rr} {K1 : Nat → Nat → Option Nat} {pd po pq pr ps pt pe pc : m_Rr} {X X' : m_CB} {Y : m_SB} {ok : Bool}
theorem lc_perf11 (hP : m_Pn H m hf ns oc pn nu od T1 K1 mp pd po pq pr ps pt pe pc) (hR : m_RB H m hf X Y) {k : Nat} (hk : k < ns) (he : m_pf pn nu od T1 K1 X k = some (ok, X')) : X'.1 11 = X.1 11 := by
  obtain ⟨hPl, q1, q2, q3, q4, q5, q6⟩ := hP
  obtain ⟨⟨x, xH, x1, x2⟩, hkind, -⟩ := q6 k hk
  obtain ⟨h, hR⟩ := hR
  have t20 : q_t20 k = some () := by unfold q_t20; rw [if_pos (by omega)]
  unfold m_pf f_X3_perform at he
  rw [t20, Option.bind_some] at he
  rcases hkind with ⟨e1, e2, i0, n, a, b, r, f1, f2, f3, f4, f5, f6, f7, f8, f9, f10⟩ | ⟨e1, e2, y, yH, f1, f2, f3⟩ | ⟨e1, e2, f3⟩ | ⟨e1, e2, y, yH, f1, f2, f3⟩ | ⟨e1, e2⟩
  · obtain ⟨v, rk', sk', ms', g1, g2⟩ := m_eval hPl hR q4 q5 f3 f6 f7 X.2.2.2.2.2.2.2.2.2.2.2.2.2.2.2.1 X.2.2.2.2.2.2.2.2.2.2.2.2.2.2.2.2 Y.2.1
    obtain ⟨s, s1, s9, s2, s3⟩ := m_clip v
    obtain ⟨r0, y1, y2⟩ := lc_make11 hPl hR X.2.2.2.2.2.2.2.2.2.1 X.2.2.2.2.2.2.2.2.2.2.1 X.2.2.2.2.2.2.2.2.2.2.2.1 X.2.2.2.2.2.2.2.2.2.2.2.2.2.2.1 xH s1 s9 f8
    rw [e1] at he
    change ((f_X8_reckon pn nu X.1 X.2.2.2.1 X.2.2.2.2.1 X.2.2.2.2.2.2.2.1 X.2.2.2.2.2.2.2.2.2.2.2.2.1 X.2.2.2.2.2.2.2.2.2.2.2.2.2.2.2.1 X.2.2.2.2.2.2.2.2.2.2.2.2.2.2.2.2 od (T1 k 4) (T1 k 5)).bind _) = _ at he
    rw [f1, f2, g1, Option.bind_some, s2, x1, f9, y1, Option.bind_some] at he
    cases he
    exact y2
  · rw [e1] at he
    change ((f_X2_tieRope X.2.2.2.2.2.1 X.2.2.2.2.2.2.1 X.2.2.2.2.2.2.2.2.2.2.2.2.1 (T1 k 1) (T1 k 3) (T1 k 2)).bind _) = _ at he
    obtain ⟨r, hr, he⟩ := q_bd he
    cases he
    rfl
  · rw [e1] at he
    change ((f_X2_untieRope X.2.2.2.2.2.1 X.2.2.2.2.2.2.1 X.2.2.2.2.2.2.2.2.2.2.2.2.1 (T1 k 1) (T1 k 3)).bind _) = _ at he
    obtain ⟨r, hr, he⟩ := q_bd he
    cases he
    rfl
  · rw [e1] at he
    change ((f_X2_followRope X.2.2.2.2.2.1 X.2.2.2.2.2.2.1 X.2.2.2.2.2.2.2.2.2.2.2.2.1 (T1 k 1) (T1 k 2) (T1 k 3)).bind _) = _ at he
    obtain ⟨r, hr, he⟩ := q_bd he
    cases he
    rfl
  · rw [e1] at he
    change ((f_X2_dropBale X.2.2.2.2.2.2.2.2.2.2.2.2.1 (T1 k 1)).bind _) = _ at he
    obtain ⟨r, hr, he⟩ := q_bd he
    cases he
    rfl
theorem lc_f11 {x : Int32} (hA : X.1 11 = x) : (m_fC ok X).1 11 = x ∨ (ok = false ∧ (m_fC ok X).1 11 = x + 1) := by
  cases ok with
  | true => exact Or.inl (show q_up X.1 10 (X.1 10 + 1) 11 = x from (m_up_n (by decide)).trans hA)
  | false => exact Or.inr ⟨rfl, (show q_up (q_up X.1 11 (X.1 11 + 1)) 10 (q_up X.1 11 (X.1 11 + 1) 10 + 1) 11 = x + 1 from (m_up_n (by decide)).trans (m_up_s.trans (by rw [hA])))⟩
theorem lc_step11 (hP : m_Pn H m hf ns oc pn nu od T1 K1 mp pd po pq pr ps pt pe pc) (hR : m_RB H m hf X Y) (hns : 0 < ns) {g : Nat} (hg : X.1 10 = nI g) (hg2 : g < 2 ^ 30) (he : m_ps pn nu od T1 K1 X = some (ok, X')) : X'.1 11 = X.1 11 ∨ (ok = false ∧ X'.1 11 = X.1 11 + 1) := by
  have hk : g % ns < ns := Nat.mod_lt _ hns
  rw [z_eC hP.2.1 hns hP.2.2.2.1 hg hg2] at he
  obtain ⟨r7, -, he⟩ := q_bd he
  by_cases e7 : q_bz r7 = 0
  · rw [if_pos e7] at he
    obtain ⟨r, hr, he⟩ := q_bd he
    obtain ⟨o1, X1⟩ := r
    cases he
    exact lc_f11 (lc_perf11 hP hR hk hr)
  · rw [if_neg e7] at he
    obtain ⟨r18, -, he⟩ := q_bd he
    by_cases e8 : ¬ r18.1 = 1
    · rw [if_pos e8] at he
      cases he
      exact Or.inl (show q_up X.1 10 (X.1 10 + 1) 11 = X.1 11 from m_up_n (by decide))
    · rw [if_neg e8] at he
      obtain ⟨r, hr, he⟩ := q_bd he
      obtain ⟨o1, X1⟩ := r
      cases he
      exact lc_f11 (lc_perf11 hP (X := (X.1, X.2.1, X.2.2.1, X.2.2.2.1, X.2.2.2.2.1, X.2.2.2.2.2.1, X.2.2.2.2.2.2.1, X.2.2.2.2.2.2.2.1, X.2.2.2.2.2.2.2.2.1, X.2.2.2.2.2.2.2.2.2.1, X.2.2.2.2.2.2.2.2.2.2.1, X.2.2.2.2.2.2.2.2.2.2.2.1, X.2.2.2.2.2.2.2.2.2.2.2.2.1, X.2.2.2.2.2.2.2.2.2.2.2.2.2.1, X.2.2.2.2.2.2.2.2.2.2.2.2.2.2.1, r18.2.1, r18.2.2)) (Y := Y) hR hk hr)
variable {g : q_G} {d G : Nat} {Q : Nat → Nat → Nat} {h h1 h' : q_H} {s : Nat} {mq : m_Rr}
/-- until the next copying -/
theorem lk_until (hd : 8 ≤ d) (hS : lc_S H m hf G h) (hG : G < 2 ^ 29) (hPn : m_Pn H m hf ns oc pn nu od T1 K1 mq pd po pq pr ps pt pe pc) (hPl : la_Pl pn nu od T1 K1 h) (hX : m_RB H m hf (la_X (q_I h)) Y) {p : Nat} (hp : q_I h 457 12 = nI p) (hp2 : p < 2 ^ 29) : q_Ct g m_X12_stepsUntilCopying d 0 0 [487, 488] [.ref 400] h (fun o h' => ∃ y, o = .inl (some (.int y)) ∧ (0 < ns → lc_Un (m_go mq pd po pq pr ps pt pe pc) p Y y) ∧ la_lk h h') := by
  obtain ⟨md, ms, mq2, mi, st, sh, sw, sp, ss, sr, sa, sd⟩ := Y
  obtain ⟨hL, hR⟩ := hX
  obtain ⟨g0, p0, q0, c1, c2, c3, c4, c5, c6, c7⟩ := hS.2.2.2.2.2
  obtain ⟨v, X', e1, e2⟩ := lc_until hPn hR c1 hp (by omega) hp2 (q_I h 473) (q_I h 475) (q_I h 476) (q_I h 477) (q_I h 478) (q_I h 479) (q_I h 480) (q_I h 481) (q_I h 482) (q_I h 483) (q_I h 484) (q_I h 485) (q_I h 486) (q_I h 487) (q_I h 488) (q_I h 490) (q_I h 491) md ms mq2 mi
  obtain ⟨l1, l2, l3, l4, l5⟩ := hPl
  refine q_Ct_mono (lq_stepsUntilCopying (r0 := (v, X')) hd hS.1.1 hS.1.2 (by rw [l1, l2, l3, l4, l5]; exact e1)) (fun o h' hq => ⟨v, hq.1, e2, by rw [hq.2]; exact la_lk_j rfl⟩)
/-- what is used after steps -/
theorem lk_after (hd : 8 ≤ d) (hS : lc_S H m hf G h) (hG : G < 2 ^ 29) (hPn : m_Pn H m hf ns oc pn nu od T1 K1 mq pd po pq pr ps pt pe pc) (hns : 0 < ns) (hPl : la_Pl pn nu od T1 K1 h) (hX : m_RB H m hf (la_X (q_I h)) Y) {c : Nat} (h1 : 1 ≤ c) (h2 : c ≤ 100) : q_Ct g m_X12_usedAfter d 2 12 [487, 488] [.ref 400, .int (nI c)] h (fun o h' => ∃ y, o = .inl (some (.int y)) ∧ (∃ Z, lc_it (m_go mq pd po pq pr ps pt pe pc) c Y = some Z ∧ lc_us Z = some y) ∧ la_lk h h') := by
  obtain ⟨md, ms, mq2, mi, st, sh, sw, sp, ss, sr, sa, sd⟩ := Y
  obtain ⟨hL, hR⟩ := hX
  obtain ⟨g0, p0, q0, c1, c2, c3, c4, c5, c6, c7⟩ := hS.2.2.2.2.2
  obtain ⟨u, X', Z, e1, e2, e3⟩ := lc_usedAfter hPn hns hR c1 c2 (by omega) h1 h2 (q_I h 473) (q_I h 475) (q_I h 476) (q_I h 477) (q_I h 478) (q_I h 479) (q_I h 480) (q_I h 481) (q_I h 482) (q_I h 483) (q_I h 484) (q_I h 485) (q_I h 486) (q_I h 487) (q_I h 488) (q_I h 490) (q_I h 491) md ms mq2 mi
  obtain ⟨l1, l2, l3, l4, l5⟩ := hPl
  refine q_Ct_mono (lq_usedAfter (r0 := (.inl u, X')) hd hS.1.1 hS.1.2 (by rw [l1, l2, l3, l4, l5]; exact e1)) (fun o h' hq => ⟨u, hq.1, ⟨Z, e2, e3⟩, by rw [hq.2]; exact la_lk_j rfl⟩)
end LCREF
