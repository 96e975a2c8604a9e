/-! MATH: what would be, on both sides -/
theorem m_R_congr {H m hf : Nat} {h : List Nat} {bn ly pl sz ag rc ld lo lr hk rw st sh sw sp ss sr sa sd : m_Rr} {bn' ly' pl' sz' ag' rc' ld' lo' lr' hk' rw' st' sh' sw' sp' ss' sr' sa' sd' : m_Rr} (hR : m_R H m hf h bn ly pl sz ag rc ld lo lr hk rw st sh sw sp ss sr sa sd)
    (hbn : ∀ j, 7 ≤ j → j ≤ 14 → bn' j = bn j) (hly : ∀ b, b < 128 → ly' b = ly b) (hpl : ∀ b, b < 128 → pl' b = pl b) (hsz : ∀ b, b < 128 → sz' b = sz b) (hag : ∀ b, b < 128 → ag' b = ag b) (hrc : ∀ b, b < 128 → rc' b = rc b) (hld : ∀ b, b < 384 → ld' b = ld b) (hlo1 : lo' 1 = lo 1) (hlo2 : lo' 2 = lo 2) (hlr : ∀ b, b < 64 → lr' b = lr b) (hhk : ∀ b, b < 6 → hk' b = hk b) (hrw : ∀ b, b < 64 → rw' b = rw b)
    (hst : ∀ j, j ≤ 5 → st' j = st j) (hsh : ∀ b, b < 6 → sh' b = sh b) (hsw : ∀ b, b < 136 → sw' b = sw b) (hsp : ∀ b, b < 136 → sp' b = sp b) (hss : ∀ b, b < 136 → ss' b = ss b) (hsr : ∀ b, b < 136 → sr' b = sr b) (hsa : ∀ b, b < 136 → sa' b = sa b) (hsd : ∀ b, b < 408 → sd' b = sd b) :
    m_R H m hf h bn' ly' pl' sz' ag' rc' ld' lo' lr' hk' rw' st' sh' sw' sp' ss' sr' sa' sd' := by
  obtain ⟨⟨hE, hZ⟩, ⟨hg1, hg2⟩, hv, hRh, ⟨hLf, hl1, hl2⟩, hK, ⟨c1, c2, c3, c4, c5, c6⟩⟩ := hR
  obtain ⟨w1, w2, w3, w4⟩ := m_R_len hv hRh
  obtain ⟨hnd, hmem, hrw0, hb7, hb8, htw, h64⟩ := hRh
  have ht : ∀ t : List Nat, (∀ b ∈ t, b < 128) → m_tot sz' t = m_tot sz t := fun t ht => by
    induction t with
    | nil => rfl
    | cons a t ih =>
      show sz' a + m_tot sz' t = sz a + m_tot sz t
      rw [hsz a (ht a List.mem_cons_self), ih (fun b hb => ht b (List.mem_cons_of_mem _ hb))]
  have hh8 : ∀ b ∈ h, b < 128 := fun b hb => ((hmem b).mp hb).1
  refine ⟨⟨fun b hb => ?_, fun b h1 h2 => by rw [hsw b h2]; exact hZ b h1 h2⟩, ⟨fun b hb => ?_, fun k hk => by rw [hsd k hk]; exact hg2 k hk⟩, fun b hb => by rw [hly b hb, hsz b hb]; exact hv b hb, ⟨hnd, fun b => ?_, fun i b hi => ?_, ?_, ?_, ?_, h64⟩, ⟨?_, hlo1.trans hl1, ?_⟩, ⟨hK.1, fun i hi => ?_⟩, ⟨?_, ?_, ?_, ?_, ?_, ?_⟩⟩
  · rw [hsw b (by omega), hsp b (by omega), hss b (by omega), hsa b (by omega), hsr b (by omega), hly b hb, hpl b hb, hsz b hb, hag b hb, hrc b hb]
    exact hE b hb
  · obtain ⟨k, k1, k2, k3⟩ := hg1 b hb
    refine ⟨k, k1, by rw [hrc b hb]; exact k2, fun r hr => ?_⟩
    rw [hsd _ (by omega), hld _ (by omega), hly b hb]
    exact ⟨(k3 r hr).1, (k3 r hr).2.imp id (fun ⟨c, x, y, z⟩ => ⟨c, x, y, by rw [hly c x]; exact z⟩)⟩
  · rw [hmem]
    constructor
    · exact fun x => ⟨x.1, by rw [hly b x.1]; exact x.2⟩
    · exact fun x => ⟨x.1, by rw [← hly b x.1]; exact x.2⟩
  · have hil := (List.getElem?_eq_some_iff.mp hi).1
    have hb8 := hh8 b (List.mem_of_getElem? hi)
    rw [hrw i (by omega), hpl b hb8, ht _ (fun c hc => hh8 c (List.mem_of_mem_take hc))]
    exact hrw0 i b hi
  · rw [hbn 7 (by omega) (by omega)]; exact hb7
  · rw [hbn 8 (by omega) (by omega), ht h hh8]; exact hb8
  · rw [m_tw_congr (v := m_w sz) (fun x hx => by unfold m_w; rw [hsz x (hh8 x hx)])]; exact htw
  · have h64m := hLf.1
    refine ⟨hLf.1, fun b hb hw => ?_, fun q hq => ?_⟩
    · obtain ⟨p, s, x1, x2, x3, x4, x5⟩ := hLf.2.1 b hb (by rw [← hsw b hb]; exact hw)
      exact ⟨p, s, by rw [hsp b hb]; exact x1, by rw [hss b hb]; exact x2, x3, x4, fun q q1 q2 => by rw [hlr q (by omega)]; exact x5 q q1 q2⟩
    · rw [hlr q (by omega)]
      exact (hLf.2.2 q hq).imp id (fun ⟨b, x1, x2, x3, p, s, x4, x5, x6⟩ => ⟨b, x1, by rw [hsw b (by omega)]; exact x2, x3, p, s, by rw [hsp b (by omega)]; exact x4, by rw [hss b (by omega)]; exact x5, x6⟩)
  · rw [hlo2, hl2]
    exact m_sm_congr (fun i hi => by rw [hsw i hi]) (fun _ _ _ => rfl)
  · rw [hhk i hi, hsh i hi]
    obtain ⟨x, y⟩ := hK.2 i hi
    exact ⟨fun hin => ⟨(x hin).1, (x hin).2.imp id (fun ⟨c, ⟨z1, z2⟩, z3⟩ => ⟨c, ⟨z1, by rw [hly c z1]; exact z2⟩, z3⟩)⟩, y⟩
  · rw [hbn 9 (by omega) (by omega), hst 2 (by omega)]; exact c1
  · rw [hbn 10 (by omega) (by omega), hst 0 (by omega)]; exact c2
  · rw [hbn 11 (by omega) (by omega), hst 1 (by omega)]; exact c3
  · rw [hbn 12 (by omega) (by omega), hst 3 (by omega)]; exact c4
  · rw [hbn 13 (by omega) (by omega), hst 4 (by omega)]; exact c5
  · rw [hbn 14 (by omega) (by omega), hst 5 (by omega)]; exact c6
/-- the field trial becomes what the barn is; ahead likewise -/
theorem m_imit {H m hf : Nat} {h : List Nat} {bn ly pl sz ag rc ld lo lr hk rw st sh sw sp ss sr sa sd : m_Rr} (hR : m_R H m hf h bn ly pl sz ag rc ld lo lr hk rw st sh sw sp ss sr sa sd) (bnt lyt plt szt agt rct ldt lot lrt hkt rwt stt sht swt spt sst srt sat sdt : m_Rr) :
    ∃ bn' ly' pl' sz' ag' rc' ld' lo' lr' hk' rw' st' sh' sw' sp' ss' sr' sa' sd', f_X2_imitate bn ly pl sz ag rc ld lo lr hk rw bnt lyt plt szt agt rct ldt lot lrt hkt rwt = some (bn', ly', pl', sz', ag', rc', ld', lo', lr', hk', rw') ∧ f_X14_become st sh sw sp ss sr sa sd stt sht swt spt sst srt sat sdt = some (st', sh', sw', sp', ss', sr', sa', sd') ∧ m_R H m hf h bn' ly' pl' sz' ag' rc' ld' lo' lr' hk' rw' st' sh' sw' sp' ss' sr' sa' sd' ∧ bn' 10 = bn 10 ∧ bn' 12 = bn 12 ∧ st' 3 = st 3 := by
  have hbn : ∀ j, 7 ≤ j → j ≤ 14 → (q_up (q_up (q_up (q_up (q_up (q_up (q_up (q_up bnt 7 (bn 7)) 8 (bn 8)) 9 (bn 9)) 10 (bn 10)) 11 (bn 11)) 12 (bn 12)) 13 (bn 13)) 14 (bn 14)) j = bn j := fun j h1 h2 => by
    have : j = 7 ∨ j = 8 ∨ j = 9 ∨ j = 10 ∨ j = 11 ∨ j = 12 ∨ j = 13 ∨ j = 14 := by omega
    rcases this with rfl | rfl | rfl | rfl | rfl | rfl | rfl | rfl <;> rfl
  have hst : ∀ j, j ≤ 5 → (q_up (q_up (q_up (q_up (q_up (q_up stt 0 (st 0)) 1 (st 1)) 2 (st 2)) 3 (st 3)) 4 (st 4)) 5 (st 5)) j = st j := fun j h2 => by
    have : j = 0 ∨ j = 1 ∨ j = 2 ∨ j = 3 ∨ j = 4 ∨ j = 5 := by omega
    rcases this with rfl | rfl | rfl | rfl | rfl | rfl <;> rfl
  exact ⟨_, _, _, _, _, _, _, _, _, _, _, _, _, _, _, _, _, _, _, rfl, rfl, m_R_congr hR hbn (fun _ => q_cp_lt) (fun _ => q_cp_lt) (fun _ => q_cp_lt) (fun _ => q_cp_lt) (fun _ => q_cp_lt) (fun _ => q_cp_lt) rfl rfl (fun _ => q_cp_lt) (fun _ => q_cp_lt) (fun _ => q_cp_lt) hst (fun _ => q_cp_lt) (fun _ => q_cp_lt) (fun _ => q_cp_lt) (fun _ => q_cp_lt) (fun _ => q_cp_lt) (fun _ => q_cp_lt) (fun _ => q_cp_lt), rfl, rfl, rfl⟩
def m_Cn (G : Nat) (bn : m_Rr) : Prop := ∃ g p, bn 10 = nI g ∧ bn 12 = nI p ∧ g ≤ G ∧ p ≤ G
theorem m_Cn_1 {G : Nat} {bn bn' : m_Rr} (h : m_Cn G bn) (hc : m_cnt bn bn') : m_Cn (G + 1) bn' := by
  obtain ⟨g, p, h1, h2, h3, h4⟩ := h
  rcases hc.2 with e | e
  · exact ⟨g, p, hc.1.trans h1, e.trans h2, by omega, by omega⟩
  · exact ⟨g, p + 1, hc.1.trans h1, by rw [e, h2, nI_1], by omega, by omega⟩
/-- so many steps: 1 to 100 -/
theorem m_workQ {ns : Nat} {pn mp : m_Rr} (q1 : pn 4 = nI ns) (q2 : mp 4 = nI ns) (hns : ns ≤ 20) (x : Int32) : (f_X12_checkWork pn x = some (.inr m_sIA) ∧ f_X15_isIn x 1 100 = some false) ∨ (∃ c, 1 ≤ c ∧ c ≤ 100 ∧ x = nI c ∧ f_X12_checkWork pn x = some (if ns = 0 then .inr m_sIS else .inl ()) ∧ f_X15_isIn x 1 100 = some true) := by
  by_cases h1 : x < 1
  · refine Or.inl ⟨?_, ?_⟩
    · unfold f_X12_checkWork; rw [if_pos h1]
    · unfold f_X15_isIn; rw [if_pos h1]
  · by_cases h2 : x ≤ 100
    · obtain ⟨c, c31, rfl⟩ := nI_of (show ¬ x < 0 from fun hh => h1 (Int32.lt_trans hh (by decide)))
      have hc1 : 1 ≤ c := by
        rcases Nat.lt_or_ge c 1 with hh | hh
        · obtain rfl : c = 0 := by omega
          exact absurd (show nI 0 < 1 by decide) h1
        · exact hh
      have hc2 : c ≤ 100 := by
        rcases Nat.lt_or_ge 100 c with hh | hh
        · exact absurd h2 (nI_ge (a := 100) hh c31)
        · exact hh
      refine Or.inr ⟨c, hc1, hc2, rfl, ?_, ?_⟩
      · unfold f_X12_checkWork
        rw [if_neg h1, if_pos h2, q1]
        by_cases e : ns = 0
        · rw [if_pos e, if_neg (by rw [e]; decide)]
        · rw [if_neg e, if_pos (nI_ne0 (by omega) (by omega))]
      · unfold f_X15_isIn
        rw [if_neg h1, if_neg (Int32.not_lt.mpr h2)]
    · refine Or.inl ⟨?_, ?_⟩
      · unfold f_X12_checkWork; rw [if_neg h1, if_neg h2]
      · unfold f_X15_isIn; rw [if_neg h1, if_pos (Int32.not_le.mp h2)]
theorem m_goC {pn nu : m_Rr} {od : Nat → Option Nat} {T1 : Nat → m_Rr} {K1 : Nat → Nat → Option Nat} {X : m_CB} {c : Int32} : f_X3_goOn pn nu X.1 X.2.1 X.2.2.1 X.2.2.2.1 X.2.2.2.2.1 X.2.2.2.2.2.1 X.2.2.2.2.2.2.1 X.2.2.2.2.2.2.2.1 X.2.2.2.2.2.2.2.2.1 X.2.2.2.2.2.2.2.2.2.1 X.2.2.2.2.2.2.2.2.2.2.1 X.2.2.2.2.2.2.2.2.2.2.2.1 X.2.2.2.2.2.2.2.2.2.2.2.2.1 X.2.2.2.2.2.2.2.2.2.2.2.2.2.1 X.2.2.2.2.2.2.2.2.2.2.2.2.2.2.1 X.2.2.2.2.2.2.2.2.2.2.2.2.2.2.2.1 X.2.2.2.2.2.2.2.2.2.2.2.2.2.2.2.2 od T1 K1 c = m_gC pn nu od T1 K1 c 4096 X 0 0 := by
  show (m_gC pn nu od T1 K1 c 4096 X 0 0).bind _ = _
  cases m_gC pn nu od T1 K1 c 4096 X 0 0 <;> rfl
theorem m_goR {mp pd po pq pr ps pt pe pc : m_Rr} {Y : m_SB} {c : Int32} : f_X14_goOn_ Y.1 mp pd po pq pr ps pt pe pc Y.2.1 Y.2.2.1 Y.2.2.2.1 Y.2.2.2.2.1 Y.2.2.2.2.2.1 Y.2.2.2.2.2.2.1 Y.2.2.2.2.2.2.2.1 Y.2.2.2.2.2.2.2.2.1 Y.2.2.2.2.2.2.2.2.2.1 Y.2.2.2.2.2.2.2.2.2.2.1 Y.2.2.2.2.2.2.2.2.2.2.2 c = m_gR mp pd po pq pr ps pt pe pc c 101 Y 0 0 := by
  show (m_gR mp pd po pq pr ps pt pe pc c 101 Y 0 0).bind _ = _
  cases m_gR mp pd po pq pr ps pt pe pc c 101 Y 0 0 <;> rfl

theorem m_q_work {H m hf ns oc : Nat} {pn nu : m_Rr} {od : Nat → Option Nat} {T1 : Nat → m_Rr} {K1 : Nat → Nat → Option Nat} {mp pd po pq pr ps pt pe pc : m_Rr} (hP : m_Pn H m hf ns oc pn nu od T1 K1 mp pd po pq pr ps pt pe pc) {h : List Nat} {bn ly pl sz ag rc ld lo lr hk rw st sh sw sp ss sr sa sd : m_Rr} (hR : m_R H m hf h bn ly pl sz ag rc ld lo lr hk rw st sh sw sp ss sr sa sd) {G : Nat} (hC : m_Cn G bn) (hG : G < 2 ^ 29) (li nr nd ro rk sk md ms mq mi : m_Rr) (x : Int32) :
    ∃ r X' b Y', f_X12_work pn nu bn ly pl sz ag rc ld lo lr li nr nd hk rw ro rk sk od T1 K1 x = some (r, X') ∧ f_X15_work md mp pd po pq pr ps pt pe pc ms mq mi st sh sw sp ss sr sa sd x = some (b, Y') ∧ m_an [m_sIA, m_sIS] r b (Y'.1 0) ∧ m_mdk md Y'.1 ∧ m_RB H m hf X' Y' ∧ m_Cn (G + 100) X'.1 := by
  obtain ⟨hPl, q1, q2, q3, q4, q5, q6⟩ := id hP
  obtain ⟨g, p, g1, g2, g3, g4⟩ := id hC
  have hC' : m_Cn (G + 100) bn := ⟨g, p, g1, g2, by omega, by omega⟩
  rcases m_workQ q1 q2 q3 x with ⟨a1, a2⟩ | ⟨c, c1, c2, rfl, a1, a2⟩
  · refine ⟨.inr m_sIA, (bn, ly, pl, sz, ag, rc, ld, lo, lr, li, nr, nd, hk, rw, ro, rk, sk), 0, (q_up (q_up md 0 0) 0 1, ms, mq, mi, st, sh, sw, sp, ss, sr, sa, sd), ?_, ?_, ⟨0, rfl, by show q_up (q_up md 0 0) 0 1 0 = nI (0 + 1); rw [m_up_s]; rfl⟩, m_mdk_00, ⟨h, hR⟩, hC'⟩
    · unfold f_X12_work; rw [a1]; rfl
    · unfold f_X15_work; rw [a2]; rfl
  · by_cases e : ns = 0
    · refine ⟨.inr m_sIS, (bn, ly, pl, sz, ag, rc, ld, lo, lr, li, nr, nd, hk, rw, ro, rk, sk), 0, (q_up (q_up md 0 0) 0 2, ms, mq, mi, st, sh, sw, sp, ss, sr, sa, sd), ?_, ?_, ⟨1, rfl, by show q_up (q_up md 0 0) 0 2 0 = nI (1 + 1); rw [m_up_s]; rfl⟩, m_mdk_00, ⟨h, hR⟩, hC'⟩
      · unfold f_X12_work; rw [a1, if_pos e]; rfl
      · unfold f_X15_work
        rw [a2, Option.bind_some, if_pos (show ¬ q_bz true = 0 by decide), q2, e, if_neg (show ¬ ¬ nI 0 = 0 from fun hh => hh rfl)]; rfl
    · obtain ⟨v, X', Y', p', y1, y2, y3, y4, y5, y6, y7, y8⟩ := m_goOn hP (by omega) c2 c 0 4096 101 (bn, ly, pl, sz, ag, rc, ld, lo, lr, li, nr, nd, hk, rw, ro, rk, sk) (q_up md 0 0, ms, mq, mi, st, sh, sw, sp, ss, sr, sa, sd) 0 g p (by omega) (by omega) (by omega) ⟨h, hR⟩ g1 (by omega) g2
      rw [show nI 0 = 0 from rfl] at y1 y2
      refine ⟨.inl v, X', v, Y', ?_, ?_, ⟨by rw [y4 0 (by decide)]; show q_up md 0 0 0 = 0; exact m_up_s, rfl⟩, fun j h0 h16 => (y4 j h16).trans (m_up_n h0), y3, ⟨g + c, p', y5, y6, by omega, by omega⟩⟩
      · unfold f_X12_work
        rw [a1, if_neg e, Option.bind_some]
        show ((f_X3_goOn pn nu bn ly pl sz ag rc ld lo lr li nr nd hk rw ro rk sk od T1 K1 (nI c)).bind _) = _
        have := m_goC (pn := pn) (nu := nu) (od := od) (T1 := T1) (K1 := K1) (X := (bn, ly, pl, sz, ag, rc, ld, lo, lr, li, nr, nd, hk, rw, ro, rk, sk)) (c := nI c)
        dsimp only at this
        rw [this, y1]; rfl
      · unfold f_X15_work
        have := m_goR (mp := mp) (pd := pd) (po := po) (pq := pq) (pr := pr) (ps := ps) (pt := pt) (pe := pe) (pc := pc) (Y := (q_up md 0 0, ms, mq, mi, st, sh, sw, sp, ss, sr, sa, sd)) (c := nI c)
        dsimp only at this
        rw [a2, Option.bind_some, if_pos (show ¬ q_bz true = 0 by decide), q2, if_pos (nI_ne0 (by omega) (by omega)), this, y2]; rfl

theorem m_q_usedAfter {H m hf ns oc : Nat} {pn nu : m_Rr} {od : Nat → Option Nat} {T1 : Nat → m_Rr} {K1 : Nat → Nat → Option Nat} {mp pd po pq pr ps pt pe pc : m_Rr} (hP : m_Pn H m hf ns oc pn nu od T1 K1 mp pd po pq pr ps pt pe pc) {h : List Nat} {bn ly pl sz ag rc ld lo lr hk rw st sh sw sp ss sr sa sd : m_Rr} (hR : m_R H m hf h bn ly pl sz ag rc ld lo lr hk rw st sh sw sp ss sr sa sd) {G : Nat} (hC : m_Cn G bn) (hG : G < 2 ^ 29) (bnt lyt plt szt agt rct ldt lot lrt li nr nd hkt rwt ro rk sk md ms mq mi stt sht swt spt sst srt sat sdt : m_Rr) (x : Int32) :
    ∃ r X' b Y', f_X12_usedAfter pn nu bn ly pl sz ag rc ld lo lr hk rw bnt lyt plt szt agt rct ldt lot lrt li nr nd hkt rwt ro rk sk od T1 K1 x = some (r, X') ∧ f_X15_usedAfter md mp pd po pq pr ps pt pe pc ms mq mi st sh sw sp ss sr sa sd stt sht swt spt sst srt sat sdt x = some (b, Y') ∧ m_an [m_sIA, m_sIS] r b (Y'.1 0) ∧ m_mdk md Y'.1 := by
  obtain ⟨hPl, q1, q2, q3, q4, q5, q6⟩ := id hP
  obtain ⟨g, p, g1, g2, g3, g4⟩ := id hC
  rcases m_workQ q1 q2 q3 x with ⟨a1, a2⟩ | ⟨c, c1, c2, rfl, a1, a2⟩
  · refine ⟨.inr m_sIA, (bnt, lyt, plt, szt, agt, rct, ldt, lot, lrt, li, nr, nd, hkt, rwt, ro, rk, sk), 0, (q_up (q_up md 0 0) 0 1, ms, mq, mi, stt, sht, swt, spt, sst, srt, sat, sdt), ?_, ?_, ⟨0, rfl, by show q_up (q_up md 0 0) 0 1 0 = nI (0 + 1); rw [m_up_s]; rfl⟩, m_mdk_00⟩
    · unfold f_X12_usedAfter; rw [a1]; rfl
    · unfold f_X15_usedAfter; rw [a2]; rfl
  · by_cases e : ns = 0
    · refine ⟨.inr m_sIS, (bnt, lyt, plt, szt, agt, rct, ldt, lot, lrt, li, nr, nd, hkt, rwt, ro, rk, sk), 0, (q_up (q_up md 0 0) 0 2, ms, mq, mi, stt, sht, swt, spt, sst, srt, sat, sdt), ?_, ?_, ⟨1, rfl, by show q_up (q_up md 0 0) 0 2 0 = nI (1 + 1); rw [m_up_s]; rfl⟩, m_mdk_00⟩
      · unfold f_X12_usedAfter; rw [a1, if_pos e]; rfl
      · unfold f_X15_usedAfter
        rw [a2, Option.bind_some, if_pos (show ¬ q_bz true = 0 by decide), q2, e, if_neg (show ¬ ¬ nI 0 = 0 from fun hh => hh rfl)]; rfl
    · obtain ⟨bn', ly', pl', sz', ag', rc', ld', lo', lr', hk', rw', st', sh', sw', sp', ss', sr', sa', sd', i1, i2, i3, i4, i5, i6⟩ := m_imit hR bnt lyt plt szt agt rct ldt lot lrt hkt rwt stt sht swt spt sst srt sat sdt
      obtain ⟨v, X', Y', p', y1, y2, ⟨h', y3⟩, y4, y5, y6, y7, y8⟩ := m_goOn hP (by omega) c2 c 0 4096 101 (bn', ly', pl', sz', ag', rc', ld', lo', lr', li, nr, nd, hk', rw', ro, rk, sk) (q_up md 0 0, ms, mq, mi, st', sh', sw', sp', ss', sr', sa', sd') 0 g p (by omega) (by omega) (by omega) ⟨h, i3⟩ (i4.trans g1) (by omega) (i5.trans g2)
      rw [show nI 0 = 0 from rfl] at y1 y2
      refine ⟨.inl (X'.1 8), X', X'.1 8, Y', ?_, ?_, ⟨by rw [y4 0 (by decide)]; show q_up md 0 0 0 = 0; exact m_up_s, rfl⟩, fun j h0 h16 => (y4 j h16).trans (m_up_n h0)⟩
      · unfold f_X12_usedAfter
        rw [a1, if_neg e, Option.bind_some]
        unfold q_sm
        dsimp only
        rw [i1, Option.bind_some]
        have := m_goC (pn := pn) (nu := nu) (od := od) (T1 := T1) (K1 := K1) (X := (bn', ly', pl', sz', ag', rc', ld', lo', lr', li, nr, nd, hk', rw', ro, rk, sk)) (c := nI c)
        dsimp only at this ⊢
        rw [this, y1]; rfl
      · unfold f_X15_usedAfter
        rw [a2, Option.bind_some, if_pos (show ¬ q_bz true = 0 by decide), q2, if_pos (nI_ne0 (by omega) (by omega)), i2, Option.bind_some]
        have := m_goR (mp := mp) (pd := pd) (po := po) (pq := pq) (pr := pr) (ps := ps) (pt := pt) (pe := pe) (pc := pc) (Y := (q_up md 0 0, ms, mq, mi, st', sh', sw', sp', ss', sr', sa', sd')) (c := nI c)
        dsimp only at this ⊢
        rw [this, y2, Option.bind_some, (m_usedH y3).1]; rfl
theorem m_q_usedIfCopied {H m hf : Nat} {pn mp : m_Rr} (hP : m_Pl H m hf pn mp) {h : List Nat} {bn ly pl sz ag rc ld lo lr hk rw st sh sw sp ss sr sa sd : m_Rr} (hR : m_R H m hf h bn ly pl sz ag rc ld lo lr hk rw st sh sw sp ss sr sa sd) (bnt lyt plt szt agt rct ldt lot lrt li nr nd hkt rwt ro md mq mi stt sht swt spt sst srt sat sdt : m_Rr) :
    ∃ v X' md' Y', f_X12_usedIfCopied pn bn ly pl sz ag rc ld lo lr hk rw bnt lyt plt szt agt rct ldt lot lrt li nr nd hkt rwt ro = some (v, X') ∧ f_X15_usedIfCopied md mp mq mi st sh sw sp ss sr sa sd stt sht swt spt sst srt sat sdt = some (v, md', Y') ∧ m_mdk md md' := by
  obtain ⟨bn', ly', pl', sz', ag', rc', ld', lo', lr', hk', rw', st', sh', sw', sp', ss', sr', sa', sd', i1, i2, i3, i4, i5, i6⟩ := m_imit hR bnt lyt plt szt agt rct ldt lot lrt hkt rwt stt sht swt spt sst srt sat sdt
  obtain ⟨x, h', bn2, ly2, pl2, ag2, lo2, lr2, li2, nr2, nd2, rw2, md2, mq2, mi2, st2, sw2, sp2, sa2, c1, c2, c3, c4, c5, c6⟩ := m_copy hP i3 li nr nd ro (q_up md 0 0) mq mi
  refine ⟨bn2 8, (bn2, ly2, pl2, sz', ag2, rc', ld', lo2, lr2, li2, nr2, nd2, hk', rw2, rw'), md2, (mq2, mi2, st2, sh', sw2, sp2, ss', sr', sa2, sd'), ?_, ?_, fun q h0 h16 => (c4 q h16).trans (m_up_n h0)⟩
  · unfold f_X12_usedIfCopied
    rw [i1, Option.bind_some]
    dsimp only
    rw [c1, Option.bind_some]
  · unfold f_X15_usedIfCopied
    rw [i2, Option.bind_some]
    dsimp only
    rw [c2, Option.bind_some]
    dsimp only
    rw [(m_usedH c3).1, Option.bind_some]
def m_sC (pn nu : m_Rr) (od : Nat → Option Nat) (T1 : Nat → m_Rr) (K1 : Nat → Nat → Option Nat) (bn : m_Rr) (fu : Nat) (X : m_CB) (v : Int32) : Option (Nat × Int32 × m_CB) := f_X12_stepsUntilCopying_L13 pn nu bn od T1 K1 fu X.1 X.2.1 X.2.2.1 X.2.2.2.1 X.2.2.2.2.1 X.2.2.2.2.2.1 X.2.2.2.2.2.2.1 X.2.2.2.2.2.2.2.1 X.2.2.2.2.2.2.2.2.1 X.2.2.2.2.2.2.2.2.2.1 X.2.2.2.2.2.2.2.2.2.2.1 X.2.2.2.2.2.2.2.2.2.2.2.1 X.2.2.2.2.2.2.2.2.2.2.2.2.1 X.2.2.2.2.2.2.2.2.2.2.2.2.2.1 X.2.2.2.2.2.2.2.2.2.2.2.2.2.2.1 X.2.2.2.2.2.2.2.2.2.2.2.2.2.2.2.1 X.2.2.2.2.2.2.2.2.2.2.2.2.2.2.2.2 v
def m_sR (mp pd po pq pr ps pt pe pc st : m_Rr) (fu : Nat) (Y : m_SB) (v : Int32) : Option (Nat × Int32 × m_SB) := f_X15_stepsUntilCopying_L11 mp pd po pq pr ps pt pe pc st fu Y.1 Y.2.1 Y.2.2.1 Y.2.2.2.1 Y.2.2.2.2.1 Y.2.2.2.2.2.1 Y.2.2.2.2.2.2.1 Y.2.2.2.2.2.2.2.1 Y.2.2.2.2.2.2.2.2.1 Y.2.2.2.2.2.2.2.2.2.1 Y.2.2.2.2.2.2.2.2.2.2.1 Y.2.2.2.2.2.2.2.2.2.2.2 v
theorem m_sC_s {pn nu : m_Rr} {od : Nat → Option Nat} {T1 : Nat → m_Rr} {K1 : Nat → Nat → Option Nat} {bn : m_Rr} {fu : Nat} {X : m_CB} {v : Int32} : m_sC pn nu od T1 K1 bn (fu + 1) X v = if (100 : Int32) < v then some (0, 0, X) else (m_gC pn nu od T1 K1 1 4096 X 0 0).bind fun r => if r.2.1 12 = bn 12 then m_sC pn nu od T1 K1 bn fu r.2 (v + 1) else some (1, v, r.2) := by
  rw [← m_goC]; rfl
theorem m_sR_s {mp pd po pq pr ps pt pe pc st : m_Rr} {fu : Nat} {Y : m_SB} {v : Int32} : m_sR mp pd po pq pr ps pt pe pc st (fu + 1) Y v = if (100 : Int32) < v then some (0, 0, Y) else if mp 4 ≤ 0 then some (0, 0, Y) else (m_go mp pd po pq pr ps pt pe pc Y).bind fun r => if r.2.2.2.2.2.1 3 ≤ st 3 then m_sR mp pd po pq pr ps pt pe pc st fu r.2 (v + 1) else some (1, v, r.2) := rfl
theorem m_untilL {H m hf ns oc : Nat} {pn nu : m_Rr} {od : Nat → Option Nat} {T1 : Nat → m_Rr} {K1 : Nat → Nat → Option Nat} {mp pd po pq pr ps pt pe pc : m_Rr} (hP : m_Pn H m hf ns oc pn nu od T1 K1 mp pd po pq pr ps pt pe pc) (hns : 0 < ns) {bn st : m_Rr} {p : Nat} (hb : bn 12 = nI p) (hs : st 3 = nI p) (hp : p < 2 ^ 30) : ∀ (n i fu fv : Nat) (X : m_CB) (Y : m_SB) (g : Nat), i + n = 101 → n < fu → n < fv → 1 ≤ i → m_RB H m hf X Y → X.1 10 = nI g → g + n < 2 ^ 30 → X.1 12 = nI p →
    ∃ fl v X' Y', m_sC pn nu od T1 K1 bn fu X (nI i) = some (fl, v, X') ∧ m_sR mp pd po pq pr ps pt pe pc st fv Y (nI i) = some (fl, v, Y') ∧ (∀ j, j ≠ 16 → Y'.1 j = Y.1 j) := by
  obtain ⟨hPl, q1, q2, q3, q4, q5, q6⟩ := id hP
  intro n
  induction n with
  | zero =>
    intro i fu fv X Y g hi hfu hfv h1 hR hg hg2 hx
    obtain ⟨fu, rfl⟩ : ∃ z, fu = z + 1 := ⟨fu - 1, by omega⟩
    obtain ⟨fv, rfl⟩ : ∃ z, fv = z + 1 := ⟨fv - 1, by omega⟩
    obtain rfl : i = 101 := by omega
    refine ⟨0, 0, X, Y, ?_, ?_, fun _ _ => rfl⟩
    · rw [m_sC_s, if_pos (by decide)]
    · rw [m_sR_s, if_pos (by decide)]
  | succ n ih =>
    intro i fu fv X Y g hi hfu hfv h1 hR hg hg2 hx
    obtain ⟨fu, rfl⟩ : ∃ z, fu = z + 1 := ⟨fu - 1, by omega⟩
    obtain ⟨fv, rfl⟩ : ∃ z, fv = z + 1 := ⟨fv - 1, by omega⟩
    obtain ⟨ok, X', Y', y1, y2, y3, y4, y5, y6⟩ := m_step hP hR hns hg (by omega)
    have e1 : ∃ w, m_gC pn nu od T1 K1 1 4096 X 0 0 = some (w, X') := by
      rw [show (4096 : Nat) = 4095 + 1 from rfl, m_gC_s, if_neg (by decide), y1, Option.bind_some]
      cases ok with
      | false =>
        rw [if_pos (show q_bz false = 0 from rfl), show (4095 : Nat) = 4094 + 1 from rfl, m_gC_s, if_pos (by decide)]
        exact ⟨_, rfl⟩
      | true =>
        rw [if_neg (show ¬ q_bz true = 0 by decide), show (4095 : Nat) = 4094 + 1 from rfl, m_gC_s, if_pos (by decide)]
        exact ⟨_, rfl⟩
    obtain ⟨w, e1⟩ := e1
    have hst : Y'.2.2.2.2.1 3 = X'.1 12 := by
      obtain ⟨h', -, -, -, -, -, -, ⟨-, -, -, c4, -⟩⟩ := y3
      exact c4.symm
    rw [m_sC_s, if_neg (show ¬ (100 : Int32) < nI i from m_nlt (a := 100) (b := i) (by omega) (by decide)), e1, Option.bind_some, m_sR_s, if_neg (show ¬ (100 : Int32) < nI i from m_nlt (a := 100) (b := i) (by omega) (by decide)), q2, if_neg (nI_nle hns (by omega)), y2, Option.bind_some, hst, hb, hs, nI_1]
    rcases y6 with e | e
    · rw [e, hx, if_pos rfl, if_pos (nI_le (Nat.le_refl _) (by omega))]
      obtain ⟨fl, v, X2, Y2, z1, z2, z3⟩ := ih (i + 1) fu fv X' Y' (g + 1) (by omega) (by omega) (by omega) (by omega) y3 y5 (by omega) (e.trans hx)
      exact ⟨fl, v, X2, Y2, z1, z2, fun j hj => (z3 j hj).trans (y4 j hj)⟩
    · rw [e, hx, nI_1, if_neg (fun hh => by have := (nI_eq (by omega) (by omega)).mp hh; omega), if_neg (nI_ge (by omega) (by omega))]
      exact ⟨1, nI i, X', Y', rfl, rfl, y4⟩
theorem m_q_stepsUntilCopying {H m hf ns oc : Nat} {pn nu : m_Rr} {od : Nat → Option Nat} {T1 : Nat → m_Rr} {K1 : Nat → Nat → Option Nat} {mp pd po pq pr ps pt pe pc : m_Rr} (hP : m_Pn H m hf ns oc pn nu od T1 K1 mp pd po pq pr ps pt pe pc) {h : List Nat} {bn ly pl sz ag rc ld lo lr hk rw st sh sw sp ss sr sa sd : m_Rr} (hR : m_R H m hf h bn ly pl sz ag rc ld lo lr hk rw st sh sw sp ss sr sa sd) {G : Nat} (hC : m_Cn G bn) (hG : G < 2 ^ 29) (bnt lyt plt szt agt rct ldt lot lrt li nr nd hkt rwt ro rk sk md ms mq mi stt sht swt spt sst srt sat sdt : m_Rr) :
    ∃ v X' Y', f_X12_stepsUntilCopying pn nu bn ly pl sz ag rc ld lo lr hk rw bnt lyt plt szt agt rct ldt lot lrt li nr nd hkt rwt ro rk sk od T1 K1 = some (v, X') ∧ f_X15_stepsUntilCopying md mp pd po pq pr ps pt pe pc ms mq mi st sh sw sp ss sr sa sd stt sht swt spt sst srt sat sdt = some (v, Y') ∧ m_mdk md Y'.1 := by
  obtain ⟨hPl, q1, q2, q3, q4, q5, q6⟩ := id hP
  obtain ⟨g, p, g1, g2, g3, g4⟩ := id hC
  obtain ⟨bn', ly', pl', sz', ag', rc', ld', lo', lr', hk', rw', st', sh', sw', sp', ss', sr', sa', sd', i1, i2, i3, i4, i5, i6⟩ := m_imit hR bnt lyt plt szt agt rct ldt lot lrt hkt rwt stt sht swt spt sst srt sat sdt
  by_cases e : ns = 0
  · refine ⟨-1, (bnt, lyt, plt, szt, agt, rct, ldt, lot, lrt, li, nr, nd, hkt, rwt, ro, rk, sk), (q_up md 0 0, ms, mq, mi, st', sh', sw', sp', ss', sr', sa', sd'), ?_, ?_, m_mdk_0⟩
    · unfold f_X12_stepsUntilCopying
      rw [q1, e, if_neg (show ¬ ¬ nI 0 = 0 from fun hh => hh rfl)]
    · unfold f_X15_stepsUntilCopying
      rw [i2, Option.bind_some]
      have := m_sR_s (mp := mp) (pd := pd) (po := po) (pq := pq) (pr := pr) (ps := ps) (pt := pt) (pe := pe) (pc := pc) (st := st) (fu := 100) (Y := (q_up md 0 0, ms, mq, mi, st', sh', sw', sp', ss', sr', sa', sd')) (v := 1)
      rw [if_neg (by decide), q2, e, if_pos (by decide)] at this
      have this' : f_X15_stepsUntilCopying_L11 mp pd po pq pr ps pt pe pc st 101 (q_up md 0 0) ms mq mi st' sh' sw' sp' ss' sr' sa' sd' 1 = _ := this
      dsimp only
      rw [this']; rfl
  · obtain ⟨fl, v, X', Y', z1, z2, z3⟩ := m_untilL hP (show 0 < ns by omega) g2 (hR.2.2.2.2.2.2.2.2.2.1.symm.trans g2) (by omega) 100 1 4096 101 (bn', ly', pl', sz', ag', rc', ld', lo', lr', li, nr, nd, hk', rw', ro, rk, sk) (q_up md 0 0, ms, mq, mi, st', sh', sw', sp', ss', sr', sa', sd') g (by omega) (by omega) (by omega) (by omega) ⟨h, i3⟩ (i4.trans g1) (by omega) (i5.trans g2)
    have hmd : m_mdk md Y'.1 := fun j h0 h16 => (z3 j h16).trans (m_up_n h0)
    have z1' : f_X12_stepsUntilCopying_L13 pn nu bn od T1 K1 4096 bn' ly' pl' sz' ag' rc' ld' lo' lr' li nr nd hk' rw' ro rk sk 1 = some (fl, v, X') := z1
    have z2' : f_X15_stepsUntilCopying_L11 mp pd po pq pr ps pt pe pc st 101 (q_up md 0 0) ms mq mi st' sh' sw' sp' ss' sr' sa' sd' 1 = some (fl, v, Y') := z2
    have eC : f_X12_stepsUntilCopying pn nu bn ly pl sz ag rc ld lo lr hk rw bnt lyt plt szt agt rct ldt lot lrt li nr nd hkt rwt ro rk sk od T1 K1 = if fl = 0 then some (-1, X') else some (v, X') := by
      unfold f_X12_stepsUntilCopying
      rw [q1, if_pos (nI_ne0 (by omega) (by omega)), i1, Option.bind_some]
      dsimp only
      rw [z1', Option.bind_some]
    have eR : f_X15_stepsUntilCopying md mp pd po pq pr ps pt pe pc ms mq mi st sh sw sp ss sr sa sd stt sht swt spt sst srt sat sdt = if fl = 0 then some (-1, Y') else some (v, Y') := by
      unfold f_X15_stepsUntilCopying
      rw [i2, Option.bind_some]
      dsimp only
      rw [z2', Option.bind_some]
    rw [eC, eR]
    by_cases e0 : fl = 0
    · rw [if_pos e0, if_pos e0]; exact ⟨-1, X', Y', rfl, rfl, hmd⟩
    · rw [if_neg e0, if_neg e0]; exact ⟨v, X', Y', rfl, rfl, hmd⟩
