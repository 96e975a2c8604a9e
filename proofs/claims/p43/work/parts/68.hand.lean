/-! MATH: what is done by hand, on both sides -/
/-- how the counters of steps and of copyings go on -/
def m_cnt (bn bn' : m_Rr) : Prop := bn' 10 = bn 10 ∧ (bn' 12 = bn 12 ∨ bn' 12 = bn 12 + 1)
theorem m_cnt_r {bn : m_Rr} : m_cnt bn bn := ⟨rfl, Or.inl rfl⟩
theorem m_q_make {H m hf : Nat} {h : List Nat} {pn mp bn ly pl sz ag rc ld lo lr hk rw st sh sw sp ss sr sa sd : m_Rr} (hP : m_Pl H m hf pn mp) (hR : m_R H m hf h bn ly pl sz ag rc ld lo lr hk rw st sh sw sp ss sr sa sd) (li nr nd ro md mq mi : m_Rr) (x y z : Int32) :
    ∃ r bn' ly' pl' sz' ag' rc' ld' lo' lr' li' nr' nd' hk' rw' ro' b md' mq' mi' st' sh' sw' sp' ss' sr' sa' sd' h', f_X12_make pn bn ly pl sz ag rc ld lo lr li nr nd hk rw ro x y z = some (r, bn', ly', pl', sz', ag', rc', ld', lo', lr', li', nr', nd', hk', rw', ro') ∧ f_X15_make md mp mq mi st sh sw sp ss sr sa sd x y z = some (b, md', mq', mi', st', sh', sw', sp', ss', sr', sa', sd') ∧ m_an [m_sIO, m_sIA, m_sIS] r b (md' 0) ∧ m_mdk md md' ∧ m_R H m hf h' bn' ly' pl' sz' ag' rc' ld' lo' lr' hk' rw' st' sh' sw' sp' ss' sr' sa' sd' ∧ m_cnt bn bn' := by
  obtain ⟨p0, p1, p2, p3, p4, p5, p6⟩ := id hP
  rcases m_hookQ hR.2.2.2.2.2.1.1 p5 p6 x with ⟨a1, a2⟩ | ⟨i, iH, rfl, a1, a2⟩
  · refine ⟨.inr m_sIO, bn, ly, pl, sz, ag, rc, ld, lo, lr, li, nr, nd, hk, rw, ro, 0, q_up (q_up md 0 0) 0 1, mq, mi, st, sh, sw, sp, ss, sr, sa, sd, h, ?_, ?_, ⟨0, rfl, by rw [m_up_s]; rfl⟩, m_mdk_00, hR, m_cnt_r⟩
    · unfold f_X12_make; rw [a1]; rfl
    · unfold f_X15_make; rw [a2]; rfl
  · have eC : f_X12_make pn bn ly pl sz ag rc ld lo lr li nr nd hk rw ro (nI i) y z = if y < (1 : Int32) then some (.inr m_sIA, bn, ly, pl, sz, ag, rc, ld, lo, lr, li, nr, nd, hk, rw, ro) else if (9 : Int32) < y then some (.inr m_sIA, bn, ly, pl, sz, ag, rc, ld, lo, lr, li, nr, nd, hk, rw, ro) else if z < 0 then some (.inr m_sIA, bn, ly, pl, sz, ag, rc, ld, lo, lr, li, nr, nd, hk, rw, ro) else if z ≤ (3 : Int32) then
        (f_X2_makeBale pn bn ly pl sz ag rc ld lo lr li nr nd hk rw ro (nI i) y z).bind fun r9 => if ¬ (q_bz r9.1) = 0 then (f_X2_held r9.2.2.2.2.2.2.2.2.2.2.2.2.2.1 (nI i)).bind fun r11 => (f_X1_place r9.2.2.2.1 r11).bind fun r12 => some (.inl r12, r9.2) else some (.inr m_sIS, r9.2) else some (.inr m_sIA, bn, ly, pl, sz, ag, rc, ld, lo, lr, li, nr, nd, hk, rw, ro) := by
      unfold f_X12_make
      rw [a1, Option.bind_some]; rfl
    have eR : f_X15_make md mp mq mi st sh sw sp ss sr sa sd (nI i) y z = (f_X15_isIn y 1 9).bind fun r3 => if (q_bz r3) = 0 then some (0, q_up (q_up md 0 0) 0 2, mq, mi, st, sh, sw, sp, ss, sr, sa, sd) else (f_X15_isIn z 0 3).bind fun r6 => if ¬ (q_bz r6) = 0 then (f_X14_make (q_up md 0 0) mp mq mi st sh sw sp ss sr sa sd (nI i) y z).bind fun r8 => if (q_bz r8.1) = 0 then some (0, q_up r8.2.1 0 3, r8.2.2) else (q_ix (nI i) 6).bind fun j11 => (q_ix (r8.2.2.2.2.2.1 j11) 136).bind fun j12 => some (r8.2.2.2.2.2.2.2.1 j12, r8.2) else some (0, q_up (q_up md 0 0) 0 2, mq, mi, st, sh, sw, sp, ss, sr, sa, sd) := by
      unfold f_X15_make
      rw [a2, Option.bind_some, if_pos (show ¬ q_bz true = 0 by decide)]; rfl
    have bad : f_X12_make pn bn ly pl sz ag rc ld lo lr li nr nd hk rw ro (nI i) y z = some (.inr m_sIA, bn, ly, pl, sz, ag, rc, ld, lo, lr, li, nr, nd, hk, rw, ro) → f_X15_make md mp mq mi st sh sw sp ss sr sa sd (nI i) y z = some (0, q_up (q_up md 0 0) 0 2, mq, mi, st, sh, sw, sp, ss, sr, sa, sd) → ∃ r bn' ly' pl' sz' ag' rc' ld' lo' lr' li' nr' nd' hk' rw' ro' b md' mq' mi' st' sh' sw' sp' ss' sr' sa' sd' h', f_X12_make pn bn ly pl sz ag rc ld lo lr li nr nd hk rw ro (nI i) y z = some (r, bn', ly', pl', sz', ag', rc', ld', lo', lr', li', nr', nd', hk', rw', ro') ∧ f_X15_make md mp mq mi st sh sw sp ss sr sa sd (nI i) y z = some (b, md', mq', mi', st', sh', sw', sp', ss', sr', sa', sd') ∧ m_an [m_sIO, m_sIA, m_sIS] r b (md' 0) ∧ m_mdk md md' ∧ m_R H m hf h' bn' ly' pl' sz' ag' rc' ld' lo' lr' hk' rw' st' sh' sw' sp' ss' sr' sa' sd' ∧ m_cnt bn bn' :=
      fun e1 e2 => ⟨_, _, _, _, _, _, _, _, _, _, _, _, _, _, _, _, _, _, _, _, _, _, _, _, _, _, _, _, h, e1, e2, ⟨1, rfl, by rw [m_up_s]; rfl⟩, m_mdk_00, hR, m_cnt_r⟩
    by_cases y1 : y < 1
    · refine bad (by rw [eC, if_pos y1]) ?_
      rw [eR]; unfold f_X15_isIn; rw [if_pos y1]; rfl
    · by_cases y9 : (9 : Int32) < y
      · refine bad (by rw [eC, if_neg y1, if_pos y9]) ?_
        rw [eR]; unfold f_X15_isIn; rw [if_neg y1, if_pos y9]; rfl
      · have ein : f_X15_isIn y 1 9 = some true := by unfold f_X15_isIn; rw [if_neg y1, if_neg y9]
        by_cases z0 : z < 0
        · refine bad (by rw [eC, if_neg y1, if_neg y9, if_pos z0]) ?_
          rw [eR, ein, Option.bind_some, if_neg (show ¬ q_bz true = 0 by decide)]; unfold f_X15_isIn; rw [if_pos z0]; rfl
        · by_cases z3 : z ≤ 3
          · have ein2 : f_X15_isIn z 0 3 = some true := by unfold f_X15_isIn; rw [if_neg z0, if_neg (Int32.not_lt.mpr z3)]
            obtain ⟨s, s31, rfl⟩ := nI_of (show ¬ y < 0 from fun hh => y1 (Int32.lt_trans hh (by decide)))
            obtain ⟨k, k31, rfl⟩ := nI_of z0
            have hs1 : 1 ≤ s := by
              rcases Nat.lt_or_ge s 1 with hh | hh
              · obtain rfl : s = 0 := by omega
                exact absurd (show nI 0 < 1 by decide) y1
              · exact hh
            have hs9 : s ≤ 9 := by
              rcases Nat.lt_or_ge 9 s with hh | hh
              · exact absurd (nI_lt (a := 9) hh s31) y9
              · exact hh
            have hk3 : k ≤ 3 := by
              rcases Nat.lt_or_ge 3 k with hh | hh
              · exact absurd z3 (nI_ge (a := 3) hh k31)
              · exact hh
            obtain ⟨ok, h', bn', ly', pl', sz', ag', rc', ld', lo', lr', li', nr', nd', hk', rw', ro', md', mq', mi', st', sh', sw', sp', ss', sr', sa', sd', w1, w2, w3, w4, w5, w6, w7⟩ := m_make hP hR li nr nd ro (q_up md 0 0) mq mi iH hs1 hs9 hk3
            rw [eC, if_neg y1, if_neg y9, if_neg z0, if_pos z3, w1, Option.bind_some, eR, ein, Option.bind_some, if_neg (show ¬ q_bz true = 0 by decide), ein2, Option.bind_some, if_pos (show ¬ q_bz true = 0 by decide), w2, Option.bind_some]
            have i6 := (m_hkv hR iH).1
            cases ok with
            | false =>
              refine ⟨.inr m_sIS, bn', ly', pl', sz', ag', rc', ld', lo', lr', li', nr', nd', hk', rw', ro', 0, q_up md' 0 3, mq', mi', st', sh', sw', sp', ss', sr', sa', sd', h', ?_, ?_, ⟨2, rfl, by rw [m_up_s]; rfl⟩, fun q h0 h16 => (m_up_n h0).trans ((w4 q h16).trans (m_up_n h0)), w3, w6, w7⟩
              · rw [if_neg (show ¬ ¬ q_bz false = 0 from fun hh => hh rfl)]
              · rw [if_pos (show q_bz false = 0 from rfl)]
            | true =>
              obtain ⟨c, c8, c1, c2⟩ := w5 rfl
              refine ⟨.inl (pl' c), bn', ly', pl', sz', ag', rc', ld', lo', lr', li', nr', nd', hk', rw', ro', sp' c, md', mq', mi', st', sh', sw', sp', ss', sr', sa', sd', h', ?_, ?_, ⟨by rw [w4 0 (by decide), m_up_s], (w3.1.1 c c8).2.1.symm⟩, fun q h0 h16 => (w4 q h16).trans (m_up_n h0), w3, w6, w7⟩
              · rw [if_pos (show ¬ q_bz true = 0 by decide)]; dsimp only; rw [m_held i6, Option.bind_some, c1, m_place c8, Option.bind_some]
              · rw [if_neg (show ¬ q_bz true = 0 by decide), q_ix_nI i6 (by decide), Option.bind_some]; dsimp only; rw [c2, q_ix_nI (by omega) (by decide), Option.bind_some]
          · refine bad (by rw [eC, if_neg y1, if_neg y9, if_neg z0, if_neg z3]) ?_
            rw [eR, ein, Option.bind_some, if_neg (show ¬ q_bz true = 0 by decide)]; unfold f_X15_isIn; rw [if_neg z0, if_pos (Int32.not_le.mp z3)]; rfl
/-- how many ropes of a bale lead to bales -/
theorem m_leadCount {rc ld sh sr sd : m_Rr} {i c k : Nat} (i6 : i < 6) (hc : c < 128) (hs : sh i = nI c) (hk3 : k ≤ 3) (hk1 : rc c = nI k) (hk2 : sr c = nI k) (hl : ∀ r, r < k → sd (3 * c + r) = ld (c * 3 + r)) : ∀ (n r fu fv : Nat) (x : Int32), r + n = k → n < fu → n < fv → ∃ v, f_X1_leadCount_L4 rc ld (nI c) fu x (nI r) = some v ∧ f_X15_tie_L30 sh sr sd (nI i) fv x (nI r) = some v := by
  intro n
  induction n with
  | zero =>
    intro r fu fv x hr hfu hfv
    obtain ⟨fu, rfl⟩ : ∃ z, fu = z + 1 := ⟨fu - 1, by omega⟩
    obtain ⟨fv, rfl⟩ : ∃ z, fv = z + 1 := ⟨fv - 1, by omega⟩
    refine ⟨x, ?_, ?_⟩
    · rw [f_X1_leadCount_L4, m_ropes hc, Option.bind_some, hk1, if_pos (nI_le (by omega) (by omega))]
    · rw [f_X15_tie_L30, q_ix_nI i6 (by decide), Option.bind_some, hs, q_ix_nI (by omega) (by decide), Option.bind_some, hk2, if_pos (nI_le (by omega) (by omega))]
  | succ n ih =>
    intro r fu fv x hr hfu hfv
    obtain ⟨fu, rfl⟩ : ∃ z, fu = z + 1 := ⟨fu - 1, by omega⟩
    obtain ⟨fv, rfl⟩ : ∃ z, fv = z + 1 := ⟨fv - 1, by omega⟩
    have eC : f_X1_leadCount_L4 rc ld (nI c) (fu + 1) x (nI r) = if ld (c * 3 + r) = -1 then f_X1_leadCount_L4 rc ld (nI c) fu x (nI (r + 1)) else f_X1_leadCount_L4 rc ld (nI c) fu (x + 1) (nI (r + 1)) := by
      rw [f_X1_leadCount_L4, m_ropes hc, Option.bind_some, hk1, if_neg (nI_ge (by omega) (by omega)), m_lead hc (by omega) hk1 hk3, Option.bind_some, if_pos (show r < k by omega), nI_1]
    have eR : f_X15_tie_L30 sh sr sd (nI i) (fv + 1) x (nI r) = if ¬ ld (c * 3 + r) = -1 then f_X15_tie_L30 sh sr sd (nI i) fv (x + 1) (nI (r + 1)) else f_X15_tie_L30 sh sr sd (nI i) fv x (nI (r + 1)) := by
      rw [f_X15_tie_L30, q_ix_nI i6 (by decide), Option.bind_some, hs, q_ix_nI (by omega) (by decide), Option.bind_some, hk2, if_neg (nI_ge (by omega) (by omega)), m_leadsTo i6 hc (by omega) hs, Option.bind_some, hl r (by omega), nI_1, Int32.add_zero]
    rw [eC, eR]
    by_cases e : ld (c * 3 + r) = -1
    · rw [if_pos e, if_neg (fun z => z e)]
      exact ih (r + 1) fu fv x (by omega) (by omega) (by omega)
    · rw [if_neg e, if_pos e]
      exact ih (r + 1) fu fv (x + 1) (by omega) (by omega) (by omega)
theorem m_q_tie {H m hf : Nat} {h : List Nat} {pn mp bn ly pl sz ag rc ld lo lr hk rw st sh sw sp ss sr sa sd : m_Rr} (hP : m_Pl H m hf pn mp) (hR : m_R H m hf h bn ly pl sz ag rc ld lo lr hk rw st sh sw sp ss sr sa sd) (md : m_Rr) (x y z : Int32) :
    ∃ r ld' b md' sd', f_X12_tie pn rc ld hk x y z = some (r, ld') ∧ f_X15_tie md mp sh sr sd x y z = some (b, md', sd') ∧ m_an [m_sIO, m_sIS] r b (md' 0) ∧ m_mdk md md' ∧ m_R H m hf h bn ly pl sz ag rc ld' lo lr hk rw st sh sw sp ss sr sa sd' := by
  obtain ⟨p0, p1, p2, p3, p4, p5, p6⟩ := id hP
  rcases m_hookQ hR.2.2.2.2.2.1.1 p5 p6 x with ⟨a1, a2⟩ | ⟨i, iH, rfl, a1, a2⟩
  · refine ⟨.inr m_sIO, ld, 0, q_up (q_up md 0 0) 0 1, sd, ?_, ?_, ⟨0, rfl, by rw [m_up_s]; rfl⟩, m_mdk_00, hR⟩
    · unfold f_X12_tie; rw [a1]; rfl
    · unfold f_X15_tie; rw [a2]; rfl
  · rcases m_hookQ hR.2.2.2.2.2.1.1 p5 p6 z with ⟨b1, b2⟩ | ⟨j, jH, rfl, b1, b2⟩
    · refine ⟨.inr m_sIO, ld, 0, q_up (q_up md 0 0) 0 1, sd, ?_, ?_, ⟨0, rfl, by rw [m_up_s]; rfl⟩, m_mdk_00, hR⟩
      · unfold f_X12_tie
        rw [a1, Option.bind_some]
        show ((f_X12_checkHook pn z).bind _) = _
        rw [b1]; rfl
      · unfold f_X15_tie
        rw [a2, Option.bind_some, if_neg (show ¬ q_bz true = 0 by decide), b2]; rfl
    · obtain ⟨ok, ld', sd', w1, w2, w3, w4⟩ := m_tie hR iH jH y
      have eC : f_X12_tie pn rc ld hk (nI i) y (nI j) = if ¬ q_bz ok = 0 then (f_X2_held hk (nI i)).bind fun r11 => (f_X1_leadCount rc ld' r11).bind fun r12 => some (.inl r12, ld') else some (.inr m_sIS, ld') := by
        unfold f_X12_tie
        rw [a1, Option.bind_some]
        show ((f_X12_checkHook pn (nI j)).bind _) = _
        rw [b1, Option.bind_some]
        show ((f_X2_tieRope rc ld hk (nI i) y (nI j)).bind _) = _
        rw [w1, Option.bind_some]
      have eR : f_X15_tie md mp sh sr sd (nI i) y (nI j) = if ¬ q_bz ok = 0 then (f_X15_tie_L30 sh sr sd' (nI i) 4096 0 0).bind fun r13 => some (r13, q_up md 0 0, sd') else some (0, q_up (q_up md 0 0) 0 2, sd') := by
        unfold f_X15_tie
        rw [a2, Option.bind_some, if_neg (show ¬ q_bz true = 0 by decide), b2, Option.bind_some, if_pos (show ¬ q_bz true = 0 by decide), w2, Option.bind_some]; rfl
      rw [eC, eR]
      cases ok with
      | false => exact ⟨.inr m_sIS, ld', 0, q_up (q_up md 0 0) 0 2, sd', rfl, rfl, ⟨1, rfl, by rw [m_up_s]; rfl⟩, m_mdk_00, w3⟩
      | true =>
        obtain ⟨c, c8, c1, c2⟩ := w4 rfl
        obtain ⟨i6, -, -⟩ := m_hkv hR iH
        obtain ⟨k, k1, k2, k3, k4⟩ := m_kc w3 c8
        obtain ⟨v, v1, v2⟩ := m_leadCount i6 c8 c2 k1 k2 k3 (fun r hr => (k4 r hr).1) k 0 4096 4096 0 (by omega) (by omega) (by omega)
        rw [show nI 0 = 0 from rfl] at v1 v2
        refine ⟨.inl v, ld', v, q_up md 0 0, sd', ?_, ?_, ⟨m_up_s, rfl⟩, m_mdk_0, w3⟩
        · rw [if_pos (show ¬ q_bz true = 0 by decide), m_held i6, Option.bind_some, c1]
          unfold f_X1_leadCount
          rw [v1]; rfl
        · rw [if_pos (show ¬ q_bz true = 0 by decide), v2]; rfl
theorem m_q_follow {H m hf : Nat} {h : List Nat} {pn mp bn ly pl sz ag rc ld lo lr hk rw st sh sw sp ss sr sa sd : m_Rr} (hP : m_Pl H m hf pn mp) (hR : m_R H m hf h bn ly pl sz ag rc ld lo lr hk rw st sh sw sp ss sr sa sd) (md : m_Rr) (x y z : Int32) :
    ∃ r hk' b md' sh', f_X12_follow pn pl rc ld hk x y z = some (r, hk') ∧ f_X15_follow md mp sh sp sr sd x y z = some (b, md', sh') ∧ m_an [m_sIO, m_sIS] r b (md' 0) ∧ m_mdk md md' ∧ m_R H m hf h bn ly pl sz ag rc ld lo lr hk' rw st sh' sw sp ss sr sa sd := by
  obtain ⟨p0, p1, p2, p3, p4, p5, p6⟩ := id hP
  rcases m_hookQ hR.2.2.2.2.2.1.1 p5 p6 x with ⟨a1, a2⟩ | ⟨i, iH, rfl, a1, a2⟩
  · refine ⟨.inr m_sIO, hk, 0, q_up (q_up md 0 0) 0 1, sh, ?_, ?_, ⟨0, rfl, by rw [m_up_s]; rfl⟩, m_mdk_00, hR⟩
    · unfold f_X12_follow; rw [a1]; rfl
    · unfold f_X15_follow; rw [a2]; rfl
  · rcases m_hookQ hR.2.2.2.2.2.1.1 p5 p6 y with ⟨b1, b2⟩ | ⟨j, jH, rfl, b1, b2⟩
    · refine ⟨.inr m_sIO, hk, 0, q_up (q_up md 0 0) 0 1, sh, ?_, ?_, ⟨0, rfl, by rw [m_up_s]; rfl⟩, m_mdk_00, hR⟩
      · unfold f_X12_follow
        rw [a1, Option.bind_some]
        show ((f_X12_checkHook pn y).bind _) = _
        rw [b1]; rfl
      · unfold f_X15_follow
        rw [a2, Option.bind_some, if_neg (show ¬ q_bz true = 0 by decide), b2]; rfl
    · obtain ⟨ok, hk', sh', w1, w2, w3, w4⟩ := m_follow hR iH jH z
      have eC : f_X12_follow pn pl rc ld hk (nI i) (nI j) z = if ¬ q_bz ok = 0 then (f_X2_held hk' (nI i)).bind fun r11 => (f_X1_place pl r11).bind fun r12 => some (.inl r12, hk') else some (.inr m_sIS, hk') := by
        unfold f_X12_follow
        rw [a1, Option.bind_some]
        show ((f_X12_checkHook pn (nI j)).bind _) = _
        rw [b1, Option.bind_some]
        show ((f_X2_followRope rc ld hk (nI i) (nI j) z).bind _) = _
        rw [w1, Option.bind_some]
      have eR : f_X15_follow md mp sh sp sr sd (nI i) (nI j) z = if q_bz ok = 0 then some (0, q_up (q_up md 0 0) 0 2, sh') else (q_ix (nI i) 6).bind fun j9 => (q_ix (sh' j9) 136).bind fun j10 => some (sp j10, q_up md 0 0, sh') := by
        unfold f_X15_follow
        rw [a2, Option.bind_some, if_neg (show ¬ q_bz true = 0 by decide), b2, Option.bind_some, if_pos (show ¬ q_bz true = 0 by decide), w2, Option.bind_some]; rfl
      rw [eC, eR]
      cases ok with
      | false => exact ⟨.inr m_sIS, hk', 0, q_up (q_up md 0 0) 0 2, sh', rfl, rfl, ⟨1, rfl, by rw [m_up_s]; rfl⟩, m_mdk_00, w3⟩
      | true =>
        obtain ⟨c, c8, c1, c2⟩ := w4 rfl
        obtain ⟨i6, -, -⟩ := m_hkv hR iH
        refine ⟨.inl (pl c), hk', sp c, q_up md 0 0, sh', ?_, ?_, ⟨m_up_s, (hR.1.1 c c8).2.1.symm⟩, m_mdk_0, w3⟩
        · rw [if_pos (show ¬ q_bz true = 0 by decide), m_held i6, Option.bind_some, c1, m_place c8]; rfl
        · rw [if_neg (show ¬ q_bz true = 0 by decide), q_ix_nI i6 (by decide), Option.bind_some, c2, q_ix_nI (by omega) (by decide), Option.bind_some]
theorem m_q_drop {H m hf : Nat} {h : List Nat} {pn mp bn ly pl sz ag rc ld lo lr hk rw st sh sw sp ss sr sa sd : m_Rr} (hP : m_Pl H m hf pn mp) (hR : m_R H m hf h bn ly pl sz ag rc ld lo lr hk rw st sh sw sp ss sr sa sd) (li nr nd md mq mi : m_Rr) (x : Int32) :
    ∃ r li' nr' nd' hk' b md' mq' mi' sh', f_X12_drop pn bn rc ld lo li nr nd hk x = some (r, li', nr', nd', hk') ∧ f_X15_drop md mp mq mi sh sw sr sd x = some (b, md', mq', mi', sh') ∧ m_an [m_sIO, m_sIS] r b (md' 0) ∧ m_mdk md md' ∧ m_R H m hf h bn ly pl sz ag rc ld lo lr hk' rw st sh' sw sp ss sr sa sd := by
  obtain ⟨p0, p1, p2, p3, p4, p5, p6⟩ := id hP
  rcases m_hookQ hR.2.2.2.2.2.1.1 p5 p6 x with ⟨a1, a2⟩ | ⟨i, iH, rfl, a1, a2⟩
  · refine ⟨.inr m_sIO, li, nr, nd, hk, 0, q_up (q_up md 0 0) 0 1, mq, mi, sh, ?_, ?_, ⟨0, rfl, by rw [m_up_s]; rfl⟩, m_mdk_00, hR⟩
    · unfold f_X12_drop; rw [a1]; rfl
    · unfold f_X15_drop; rw [a2]; rfl
  · obtain ⟨ok, hk', sh', w1, w2, w3⟩ := m_drop hR iH
    have eC : f_X12_drop pn bn rc ld lo li nr nd hk (nI i) = if ¬ q_bz ok = 0 then (f_X2_uselessCount bn rc ld lo li nr nd hk').bind fun r7 => some (.inl r7.1, r7.2.1, r7.2.2.1, r7.2.2.2, hk') else some (.inr m_sIS, li, nr, nd, hk') := by
      unfold f_X12_drop
      rw [a1, Option.bind_some]
      show ((f_X2_dropBale hk (nI i)).bind _) = _
      rw [w1, Option.bind_some]
    have eR : f_X15_drop md mp mq mi sh sw sr sd (nI i) = if q_bz ok = 0 then some (0, q_up (q_up md 0 0) 0 2, mq, mi, sh') else (f_X14_useless (q_up md 0 0) mp mq mi sh' sw sr sd).bind fun r6 => some (r6.1, r6.2.1, r6.2.2.1, r6.2.2.2, sh') := by
      unfold f_X15_drop
      rw [a2, Option.bind_some, if_pos (show ¬ q_bz true = 0 by decide), w2, Option.bind_some]; rfl
    rw [eC, eR]
    cases ok with
    | false => exact ⟨.inr m_sIS, li, nr, nd, hk', 0, q_up (q_up md 0 0) 0 2, mq, mi, sh', rfl, rfl, ⟨1, rfl, by rw [m_up_s]; rfl⟩, m_mdk_00, w3⟩
    | true =>
      obtain ⟨v, li', nr', nd', md', mq', mi', v1, v2, v3⟩ := m_f_useless hP w3 li nr nd (q_up md 0 0) mq mi
      refine ⟨.inl v, li', nr', nd', hk', v, md', mq', mi', sh', ?_, ?_, ⟨by rw [v3 0 (by decide), m_up_s], rfl⟩, fun q h0 h16 => (v3 q h16).trans (m_up_n h0), w3⟩
      · rw [if_pos (show ¬ q_bz true = 0 by decide), v1]; rfl
      · rw [if_neg (show ¬ q_bz true = 0 by decide), v2]; rfl
theorem m_q_copyNow {H m hf : Nat} {h : List Nat} {pn mp bn ly pl sz ag rc ld lo lr hk rw st sh sw sp ss sr sa sd : m_Rr} (hP : m_Pl H m hf pn mp) (hR : m_R H m hf h bn ly pl sz ag rc ld lo lr hk rw st sh sw sp ss sr sa sd) (li nr nd ro md mq mi : m_Rr) :
    ∃ x h' bn' ly' pl' ag' lo' lr' li' nr' nd' rw' md' mq' mi' st' sw' sp' sa', f_X12_copyNow pn bn ly pl sz ag rc ld lo lr li nr nd hk rw ro = some (x, bn', ly', pl', ag', lo', lr', li', nr', nd', rw', rw) ∧ f_X15_copyNow md mp mq mi st sh sw sp ss sr sa sd = some (x, md', mq', mi', st', sw', sp', sa') ∧ m_mdk md md' ∧ m_R H m hf h' bn' ly' pl' sz ag' rc ld lo' lr' hk rw' st' sh sw' sp' ss sr sa' sd ∧ m_cnt bn bn' := by
  obtain ⟨x, h', bn', ly', pl', ag', lo', lr', li', nr', nd', rw', md', mq', mi', st', sw', sp', sa', c1, c2, c3, c4, c5, c6⟩ := m_copy hP hR li nr nd ro md mq mi
  refine ⟨x, h', bn', ly', pl', ag', lo', lr', li', nr', nd', rw', q_up md' 0 0, mq', mi', st', sw', sp', sa', ?_, ?_, fun q h0 h16 => (m_up_n h0).trans (c4 q h16), c3, c5, Or.inr c6⟩
  · unfold f_X12_copyNow; rw [c1]; rfl
  · unfold f_X15_copyNow; rw [c2]; rfl
theorem m_q_sweepLoft {H m hf : Nat} {h : List Nat} {pn mp bn ly pl sz ag rc ld lo lr hk rw st sh sw sp ss sr sa sd : m_Rr} (hP : m_Pl H m hf pn mp) (hR : m_R H m hf h bn ly pl sz ag rc ld lo lr hk rw st sh sw sp ss sr sa sd) (li nr nd md mq mi : m_Rr) :
    ∃ x bn' ly' ld' lo' lr' li' nr' nd' md' mq' mi' st' sw' sd', f_X12_sweepLoft pn bn ly pl sz rc ld lo lr li nr nd hk = some (x, bn', ly', ld', lo', lr', li', nr', nd') ∧ f_X15_sweepLoft md mp mq mi st sh sw sr sd = some (x, md', mq', mi', st', sw', sd') ∧ m_mdk md md' ∧ m_R H m hf h bn' ly' pl sz ag rc ld' lo' lr' hk rw st' sh sw' sp ss sr sa sd' ∧ m_cnt bn bn' := by
  obtain ⟨x, bn', ly', ld', lo', lr', li', nr', nd', md', mq', mi', st', sw', sd', c1, c2, c3, c4, c5, c6⟩ := m_sweep hP hR li nr nd md mq mi
  refine ⟨x, bn', ly', ld', lo', lr', li', nr', nd', q_up md' 0 0, mq', mi', st', sw', sd', ?_, ?_, fun q h0 h16 => (m_up_n h0).trans (c4 q h16), c3, c5, Or.inl c6⟩
  · unfold f_X12_sweepLoft; rw [c1]; rfl
  · unfold f_X15_sweepLoft; rw [c2]; rfl
