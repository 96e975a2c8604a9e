/-! AGES are no more than copyings: kept by all that is done -/
section LCAGE
variable {H m hf ns oc : Nat} {hL : List Nat} {pn mp bn ly pl sz ag rc ld lo lr hk rw st sh sw sp ss sr sa sd : m_Rr}
theorem lc_Ag_copy {hL' : List Nat} {bn' ly' ag' : m_Rr} {x : Int32} {p0 : Nat} (hA : lc_Ag bn ly ag) (hp0 : bn 12 = nI p0) (hp1 : p0 + 1 < 2 ^ 30) (hC : lc_Cq hL hL' bn bn' ly ly' ag ag' sz x) : lc_Ag bn' ly' ag' := by
  obtain ⟨p, p3, p1, p2⟩ := hA
  obtain ⟨⟨-, c2, -⟩, -, -, c, -⟩ := hC
  obtain rfl : p = p0 := (nI_eq (by omega) (by omega)).mp (p1.symm.trans hp0)
  refine ⟨p + 1, hp1, by rw [c2, p1, nI_1], fun b hb h0 => ?_⟩
  rcases c b hb h0 with ⟨e1, -, e2⟩ | ⟨e1, ⟨-, e2⟩ | ⟨-, e2⟩⟩
  · obtain ⟨a, a1, a2⟩ := p2 b hb (by rw [e1]; decide)
    exact ⟨a, by omega, e2.trans a2⟩
  · obtain ⟨a, a1, a2⟩ := p2 b hb (by rw [e1]; decide)
    exact ⟨a, by omega, e2.trans a2⟩
  · obtain ⟨a, a1, a2⟩ := p2 b hb (by rw [e1]; decide)
    exact ⟨a + 1, by omega, by rw [e2, a2, nI_1]⟩
theorem lc_Ag_new {bn' : m_Rr} {v : Nat} (hA : lc_Ag bn ly ag) (h12 : bn' 12 = bn 12) : lc_Ag bn' (q_up ly v 1) (q_up ag v 0) := by
  obtain ⟨p, p3, p1, p2⟩ := hA
  refine ⟨p, p3, h12.trans p1, fun b hb h0 => ?_⟩
  by_cases e : b = v
  · subst e
    exact ⟨0, Nat.zero_le _, m_up_s⟩
  · rw [m_up_n e] at h0 ⊢
    exact p2 b hb h0
theorem lc_make (hP : m_Pl H m hf pn mp) (hR : m_R H m hf hL bn ly pl sz ag rc ld lo lr hk rw st sh sw sp ss sr sa sd) (hA : lc_Ag bn ly ag) {p0 : Nat} (hp0 : bn 12 = nI p0) (hp1 : p0 + 1 < 2 ^ 30) (li nr nd ro : m_Rr) {i s k : Nat} (hi : i < H) (hs1 : 1 ≤ s) (hs9 : s ≤ 9) (hk3 : k ≤ 3) :
    ∃ r, f_X2_makeBale pn bn ly pl sz ag rc ld lo lr li nr nd hk rw ro (nI i) (nI s) (nI k) = some r ∧ lc_Ag r.2.1 r.2.2.1 r.2.2.2.2.2.1 := by
  obtain ⟨p0, p1, p2, p3, p4, p5, p6⟩ := id hP
  obtain ⟨u1, u2, u3, u4⟩ := m_usedH hR
  have hfree : f_X2_freePlaces pn bn = some (nI (hf - m_tw (m_w sz) hL)) := by
    unfold f_X2_freePlaces
    rw [p0, u2, m_subI u3]
  by_cases fit : s ≤ hf - m_tw (m_w sz) hL
  · obtain ⟨v, v8, a1, a2, a3, a4, a5, a6⟩ := m_new hR hi hs1 hs9 hk3 (by omega)
    have hle := nI_le fit (by omega)
    refine ⟨(true, q_up (q_up bn 7 (nI (hL.length + 1))) 8 (bn 8 + nI s), q_up ly v 1, q_up pl v (bn 8), q_up sz v (nI s), q_up ag v 0, q_up rc v (nI k), m_3 ld (v * 3), lo, lr, li, nr, nd, q_up hk i (nI v), q_up rw hL.length (nI v), ro), ?_, ?_⟩
    · unfold f_X2_makeBale
      rw [hfree, Option.bind_some, if_pos hle, Option.bind_some, if_pos hle, a1, Option.bind_some, if_pos (m_nI_m1 (by omega)), a2, Option.bind_some, a3, Option.bind_some]
    · exact (show lc_Ag (q_up (q_up bn 7 (nI (hL.length + 1))) 8 (bn 8 + nI s)) (q_up ly v 1) (q_up ag v 0) from lc_Ag_new hA (by rw [m_up_n (by decide), m_up_n (by decide)]))
  · obtain ⟨x, h', bn', ly', pl', ag', lo', lr', li', nr', nd', rw', md', mq', mi', st', sw', sp', sa', c1, c2, c3, c4, -⟩ := lc_copy hP hR li nr nd ro (fun _ => 0) (fun _ => 0) (fun _ => 0)
    have hgt := nI_ge (show hf - m_tw (m_w sz) hL < s by omega) (by omega)
    have hA' := lc_Ag_copy hA hp0 hp1 c4
    obtain ⟨y1, y2, y3, y4⟩ := m_usedH c3
    have gfree : f_X2_freePlaces pn bn' = some (nI (hf - m_tw (m_w sz) h')) := by
      unfold f_X2_freePlaces
      rw [p0, y2, m_subI y3]
    by_cases fit2 : s ≤ hf - m_tw (m_w sz) h'
    · obtain ⟨v, v8, a1, a2, a3, a4, a5, a6⟩ := m_new c3 hi hs1 hs9 hk3 (by omega)
      have hle := nI_le fit2 (by omega)
      refine ⟨(true, q_up (q_up bn' 7 (nI (h'.length + 1))) 8 (bn' 8 + nI s), q_up ly' v 1, q_up pl' v (bn' 8), q_up sz v (nI s), q_up ag' v 0, q_up rc v (nI k), m_3 ld (v * 3), lo', lr', li', nr', nd', q_up hk i (nI v), q_up rw' h'.length (nI v), rw), ?_, ?_⟩
      · unfold f_X2_makeBale
        rw [hfree, Option.bind_some, if_neg hgt, c1, Option.bind_some, gfree, Option.bind_some, if_pos hle, a1, Option.bind_some, if_pos (m_nI_m1 (by omega)), a2, Option.bind_some, a3, Option.bind_some]
      · exact (show lc_Ag (q_up (q_up bn' 7 (nI (h'.length + 1))) 8 (bn' 8 + nI s)) (q_up ly' v 1) (q_up ag' v 0) from lc_Ag_new hA' (by rw [m_up_n (by decide), m_up_n (by decide)]))
    · have hgt2 := nI_ge (show hf - m_tw (m_w sz) h' < s by omega) (by omega)
      refine ⟨(false, bn', ly', pl', sz, ag', rc, ld, lo', lr', li', nr', nd', hk, rw', rw), ?_, ?_⟩
      · unfold f_X2_makeBale
        rw [hfree, Option.bind_some, if_neg hgt, c1, Option.bind_some, gfree, Option.bind_some, if_neg hgt2]
      · exact hA'
abbrev lc_AgX (X : m_CB) : Prop := lc_Ag X.1 X.2.1 X.2.2.2.2.1
variable {nu : m_Rr} {od : Nat → Option Nat} {T1 : Nat → m_Rr} {K1 : Nat → Nat → Option Nat} {pd po pq pr ps pt pe pc : m_Rr} {X X' : m_CB} {Y : m_SB} {ok : Bool}
theorem lc_perfA (hP : m_Pn H m hf ns oc pn nu od T1 K1 mp pd po pq pr ps pt pe pc) (hR : m_RB H m hf X Y) (hA : lc_AgX X) {p0 : Nat} (hp0 : X.1 12 = nI p0) (hp1 : p0 + 1 < 2 ^ 30) {k : Nat} (hk : k < ns) (he : m_pf pn nu od T1 K1 X k = some (ok, X')) : lc_AgX X' := by
  obtain ⟨hPl, q1, q2, q3, q4, q5, q6⟩ := hP
  obtain ⟨⟨x, xH, x1, x2⟩, hkind, -⟩ := q6 k hk
  obtain ⟨h, hR⟩ := hR
  have t20 : q_t20 k = some () := by unfold q_t20; rw [if_pos (by omega)]
  unfold m_pf f_X3_perform at he
  rw [t20, Option.bind_some] at he
  rcases hkind with ⟨e1, e2, i0, n, a, b, r, f1, f2, f3, f4, f5, f6, f7, f8, f9, f10⟩ | ⟨e1, e2, y, yH, f1, f2, f3⟩ | ⟨e1, e2, f3⟩ | ⟨e1, e2, y, yH, f1, f2, f3⟩ | ⟨e1, e2⟩
  · obtain ⟨v, rk', sk', ms', g1, g2⟩ := m_eval hPl hR q4 q5 f3 f6 f7 X.2.2.2.2.2.2.2.2.2.2.2.2.2.2.2.1 X.2.2.2.2.2.2.2.2.2.2.2.2.2.2.2.2 Y.2.1
    obtain ⟨s, s1, s9, s2, s3⟩ := m_clip v
    obtain ⟨r0, y1, y2⟩ := lc_make hPl hR hA hp0 hp1 X.2.2.2.2.2.2.2.2.2.1 X.2.2.2.2.2.2.2.2.2.2.1 X.2.2.2.2.2.2.2.2.2.2.2.1 X.2.2.2.2.2.2.2.2.2.2.2.2.2.2.1 xH s1 s9 f8
    rw [e1] at he
    change ((f_X8_reckon pn nu X.1 X.2.2.2.1 X.2.2.2.2.1 X.2.2.2.2.2.2.2.1 X.2.2.2.2.2.2.2.2.2.2.2.2.1 X.2.2.2.2.2.2.2.2.2.2.2.2.2.2.2.1 X.2.2.2.2.2.2.2.2.2.2.2.2.2.2.2.2 od (T1 k 4) (T1 k 5)).bind _) = _ at he
    rw [f1, f2, g1, Option.bind_some, s2, x1, f9, y1, Option.bind_some] at he
    cases he
    exact y2
  · rw [e1] at he
    change ((f_X2_tieRope X.2.2.2.2.2.1 X.2.2.2.2.2.2.1 X.2.2.2.2.2.2.2.2.2.2.2.2.1 (T1 k 1) (T1 k 3) (T1 k 2)).bind _) = _ at he
    obtain ⟨r, hr, he⟩ := q_bd he
    cases he
    exact hA
  · rw [e1] at he
    change ((f_X2_untieRope X.2.2.2.2.2.1 X.2.2.2.2.2.2.1 X.2.2.2.2.2.2.2.2.2.2.2.2.1 (T1 k 1) (T1 k 3)).bind _) = _ at he
    obtain ⟨r, hr, he⟩ := q_bd he
    cases he
    exact hA
  · rw [e1] at he
    change ((f_X2_followRope X.2.2.2.2.2.1 X.2.2.2.2.2.2.1 X.2.2.2.2.2.2.2.2.2.2.2.2.1 (T1 k 1) (T1 k 2) (T1 k 3)).bind _) = _ at he
    obtain ⟨r, hr, he⟩ := q_bd he
    cases he
    exact hA
  · rw [e1] at he
    change ((f_X2_dropBale X.2.2.2.2.2.2.2.2.2.2.2.2.1 (T1 k 1)).bind _) = _ at he
    obtain ⟨r, hr, he⟩ := q_bd he
    cases he
    exact hA
theorem lc_fA (hA : lc_AgX X) : lc_AgX (m_fC ok X) := by
  obtain ⟨p, p3, p1, p2⟩ := hA
  refine ⟨p, p3, ?_, p2⟩
  cases ok with
  | true => exact (show q_up X.1 10 (X.1 10 + 1) 12 = nI p from (m_up_n (by decide)).trans p1)
  | false => exact (show q_up (q_up X.1 11 (X.1 11 + 1)) 10 (q_up X.1 11 (X.1 11 + 1) 10 + 1) 12 = nI p from (m_up_n (by decide)).trans ((m_up_n (by decide)).trans p1))
theorem lc_stepA (hP : m_Pn H m hf ns oc pn nu od T1 K1 mp pd po pq pr ps pt pe pc) (hR : m_RB H m hf X Y) (hA : lc_AgX X) {p0 : Nat} (hp0 : X.1 12 = nI p0) (hp1 : p0 + 1 < 2 ^ 30) (hns : 0 < ns) {g : Nat} (hg : X.1 10 = nI g) (hg2 : g < 2 ^ 30) (he : m_ps pn nu od T1 K1 X = some (ok, X')) : lc_AgX X' := by
  have hk : g % ns < ns := Nat.mod_lt _ hns
  rw [z_eC hP.2.1 hns hP.2.2.2.1 hg hg2] at he
  obtain ⟨r7, -, he⟩ := q_bd he
  by_cases e7 : q_bz r7 = 0
  · rw [if_pos e7] at he
    obtain ⟨r, hr, he⟩ := q_bd he
    obtain ⟨o1, X1⟩ := r
    cases he
    exact lc_fA (lc_perfA hP hR hA hp0 hp1 hk hr)
  · rw [if_neg e7] at he
    obtain ⟨r18, -, he⟩ := q_bd he
    by_cases e8 : ¬ r18.1 = 1
    · rw [if_pos e8] at he
      cases he
      obtain ⟨p, p3, p1, p2⟩ := hA
      exact ⟨p, p3, (show q_up X.1 10 (X.1 10 + 1) 12 = nI p from (m_up_n (by decide)).trans p1), p2⟩
    · rw [if_neg e8] at he
      obtain ⟨r, hr, he⟩ := q_bd he
      obtain ⟨o1, X1⟩ := r
      cases he
      exact lc_fA (lc_perfA hP (X := (X.1, X.2.1, X.2.2.1, X.2.2.2.1, X.2.2.2.2.1, X.2.2.2.2.2.1, X.2.2.2.2.2.2.1, X.2.2.2.2.2.2.2.1, X.2.2.2.2.2.2.2.2.1, X.2.2.2.2.2.2.2.2.2.1, X.2.2.2.2.2.2.2.2.2.2.1, X.2.2.2.2.2.2.2.2.2.2.2.1, X.2.2.2.2.2.2.2.2.2.2.2.2.1, X.2.2.2.2.2.2.2.2.2.2.2.2.2.1, X.2.2.2.2.2.2.2.2.2.2.2.2.2.2.1, r18.2.1, r18.2.2)) (Y := Y) hR hA hp0 hp1 hk hr)
theorem lc_runA (hP : m_Pn H m hf ns oc pn nu od T1 K1 mp pd po pq pr ps pt pe pc) (hns : 0 < ns) {c : Nat} (hc : c ≤ 100) : ∀ (n i fu : Nat) (X : m_CB) (Y : m_SB) (x : Int32) (g p : Nat) (v : Int32) (X' : m_CB), i + n = c → n < fu → m_RB H m hf X Y → lc_AgX X → X.1 10 = nI g → g + n < 2 ^ 30 → X.1 12 = nI p → p + n < 2 ^ 30 → m_gC pn nu od T1 K1 (nI c) fu X x (nI i) = some (v, X') → lc_AgX X' := by
  intro n
  induction n with
  | zero =>
    intro i fu X Y x g p v X' hi hfu hR hA hg hg2 hx hp2 he
    obtain ⟨fu, rfl⟩ : ∃ z, fu = z + 1 := ⟨fu - 1, by omega⟩
    rw [m_gC_s, if_pos (nI_le (by omega) (by omega))] at he
    cases he
    exact hA
  | succ n ih =>
    intro i fu X Y x g p v X' hi hfu hR hA hg hg2 hx hp2 he
    obtain ⟨fu, rfl⟩ : ∃ z, fu = z + 1 := ⟨fu - 1, by omega⟩
    obtain ⟨ok, X1, Y1, y1, y2, y3, y4, y5, y6⟩ := m_step hP hR hns hg (by omega)
    have hp : ∃ p', p' + n < 2 ^ 30 ∧ X1.1 12 = nI p' := by
      rcases y6 with e | e
      · exact ⟨p, by omega, e.trans hx⟩
      · exact ⟨p + 1, by omega, by rw [e, hx, nI_1]⟩
    obtain ⟨p', hp3, hp⟩ := hp
    have hA1 := lc_stepA hP hR hA hx (by omega) hns hg (by omega) y1
    rw [m_gC_s, if_neg (nI_ge (by omega) (by omega)), y1, Option.bind_some, nI_1] at he
    dsimp only at he
    by_cases e : q_bz ok = 0
    · rw [if_pos e] at he
      exact ih (i + 1) fu X1 Y1 _ (g + 1) p' v X' (by omega) (by omega) y3 hA1 y5 (by omega) hp hp3 he
    · rw [if_neg e] at he
      exact ih (i + 1) fu X1 Y1 _ (g + 1) p' v X' (by omega) (by omega) y3 hA1 y5 (by omega) hp hp3 he
end LCAGE
