/-! MATH: making, with a copying ahead of it; tying, untying, following, dropping, on both sides -/
theorem m_usedH {H m hf : Nat} {h : List Nat} {bn ly pl sz ag rc ld lo lr hk rw st sh sw sp ss sr sa sd : m_Rr} (hR : m_R H m hf h bn ly pl sz ag rc ld lo lr hk rw st sh sw sp ss sr sa sd) : f_X14_used sw ss 1 = some (bn 8) ∧ bn 8 = nI (m_tw (m_w sz) h) ∧ m_tw (m_w sz) h ≤ hf ∧ hf ≤ 64 := by
  obtain ⟨⟨hE, hZ⟩, -, hv, hRh, -⟩ := id hR
  obtain ⟨w1, w2, w3, w4⟩ := m_R_len hv hRh
  obtain ⟨hnd, hmem, hrw, hb7, hb8, htw, h64⟩ := id hRh
  refine ⟨?_, hb8.trans w4, htw, h64⟩
  have h1 : m_sm (fun i => sw i = 1) ss 136 = m_tot ss h := m_sm_half hnd (fun b => by
    rw [hmem]
    constructor
    · exact fun x => ⟨x.1, (hE b x.1).1.trans x.2⟩
    · exact fun x => ⟨x.1, (hE b x.1).1.symm.trans x.2⟩) hZ
  have h2 : ∀ t : List Nat, (∀ b ∈ t, b < 128) → m_tot ss t = m_tot sz t := fun t ht => by
    induction t with
    | nil => rfl
    | cons a t ih =>
      show ss a + m_tot ss t = sz a + m_tot sz t
      rw [(hE a (ht a List.mem_cons_self)).2.2.1, ih (fun b hb => ht b (List.mem_cons_of_mem _ hb))]
  rw [m_used, h1, h2 h (fun b hb => ((hmem b).mp hb).1), hb8]
theorem m_make {H m hf : Nat} {h : List Nat} {pn mp bn ly pl sz ag rc ld lo lr hk rw st sh sw sp ss sr sa sd : m_Rr} (hP : m_Pl H m hf pn mp) (hR : m_R H m hf h bn ly pl sz ag rc ld lo lr hk rw st sh sw sp ss sr sa sd) (li nr nd ro md mq mi : m_Rr) {i s k : Nat} (hi : i < H) (hs1 : 1 ≤ s) (hs9 : s ≤ 9) (hk3 : k ≤ 3) :
    ∃ ok h' bn' ly' pl' sz' ag' rc' ld' lo' lr' li' nr' nd' hk' rw' ro' md' mq' mi' st' sh' sw' sp' ss' sr' sa' sd', f_X2_makeBale pn bn ly pl sz ag rc ld lo lr li nr nd hk rw ro (nI i) (nI s) (nI k) = some (ok, bn', ly', pl', sz', ag', rc', ld', lo', lr', li', nr', nd', hk', rw', ro') ∧ f_X14_make md mp mq mi st sh sw sp ss sr sa sd (nI i) (nI s) (nI k) = some (ok, md', mq', mi', st', sh', sw', sp', ss', sr', sa', sd') ∧ m_R H m hf h' bn' ly' pl' sz' ag' rc' ld' lo' lr' hk' rw' st' sh' sw' sp' ss' sr' sa' sd' ∧ (∀ j, j ≠ 16 → md' j = md j) ∧ (ok = true → ∃ c, c < 128 ∧ hk' i = nI c ∧ sh' i = nI c) ∧ bn' 10 = bn 10 ∧ (bn' 12 = bn 12 ∨ bn' 12 = bn 12 + 1) := by
  obtain ⟨p0, p1, p2, p3, p4, p5, p6⟩ := id hP
  obtain ⟨u1, u2, u3, u4⟩ := m_usedH hR
  have h6 := hR.2.2.2.2.2.1.1
  have hfree : f_X2_freePlaces pn bn = some (nI (hf - m_tw (m_w sz) h)) := by
    unfold f_X2_freePlaces
    rw [p0, u2, m_subI u3]
  have hfree2 : mp 1 - bn 8 = nI (hf - m_tw (m_w sz) h) := by rw [p1, u2, m_subI u3]
  by_cases fit : s ≤ hf - m_tw (m_w sz) h
  · obtain ⟨v, v8, a1, a2, a3, a4, a5, a6⟩ := m_new hR hi hs1 hs9 hk3 (by omega)
    have hle := nI_le fit (by omega)
    refine ⟨true, _, _, _, _, _, _, _, _, _, _, li, nr, nd, _, _, ro, md, mq, mi, _, _, _, _, _, _, _, _, ?_, ?_, a6, fun _ _ => rfl, fun _ => ⟨v, v8, m_up_s, m_up_s⟩, by rw [m_up_n (by decide), m_up_n (by decide)], Or.inl (by rw [m_up_n (by decide), m_up_n (by decide)])⟩
    · unfold f_X2_makeBale
      rw [hfree, Option.bind_some, if_pos hle, Option.bind_some, if_pos hle, a1, Option.bind_some, if_pos (m_nI_m1 (by omega)), a2, Option.bind_some, a3, Option.bind_some]
    · unfold f_X14_make
      rw [u1, Option.bind_some, hfree2, if_pos hle, Option.bind_some, hfree2, if_pos hle, a4, Option.bind_some, q_ix_nI (show v < 136 by omega) (by decide), Option.bind_some, Option.bind_some, Option.bind_some, Option.bind_some, Option.bind_some, a5, Option.bind_some, q_ix_nI (show i < 6 by omega) (by decide), Option.bind_some]
  · obtain ⟨x, h', bn', ly', pl', ag', lo', lr', li', nr', nd', rw', md', mq', mi', st', sw', sp', sa', c1, c2, c3, c4, c5, c6⟩ := m_copy hP hR li nr nd ro md mq mi
    have hgt := nI_ge (show hf - m_tw (m_w sz) h < s by omega) (by omega)
    obtain ⟨y1, y2, y3, y4⟩ := m_usedH c3
    have gfree : f_X2_freePlaces pn bn' = some (nI (hf - m_tw (m_w sz) h')) := by
      unfold f_X2_freePlaces
      rw [p0, y2, m_subI y3]
    have gfree2 : mp 1 - bn' 8 = nI (hf - m_tw (m_w sz) h') := by rw [p1, y2, m_subI y3]
    by_cases fit2 : s ≤ hf - m_tw (m_w sz) h'
    · obtain ⟨v, v8, a1, a2, a3, a4, a5, a6⟩ := m_new c3 hi hs1 hs9 hk3 (by omega)
      have hle := nI_le fit2 (by omega)
      refine ⟨true, _, _, _, _, _, _, _, _, _, _, li', nr', nd', _, _, rw, md', mq', mi', _, _, _, _, _, _, _, _, ?_, ?_, a6, c4, fun _ => ⟨v, v8, m_up_s, m_up_s⟩, by rw [m_up_n (by decide), m_up_n (by decide)]; exact c5, Or.inr (by rw [m_up_n (by decide), m_up_n (by decide)]; exact c6)⟩
      · unfold f_X2_makeBale
        rw [hfree, Option.bind_some, if_neg hgt, c1, Option.bind_some, gfree, Option.bind_some, if_pos hle, a1, Option.bind_some, if_pos (m_nI_m1 (by omega)), a2, Option.bind_some, a3, Option.bind_some]
      · unfold f_X14_make
        rw [u1, Option.bind_some, hfree2, if_neg hgt, c2, Option.bind_some, y1, Option.bind_some, gfree2, if_pos hle, a4, Option.bind_some, q_ix_nI (show v < 136 by omega) (by decide), Option.bind_some, Option.bind_some, Option.bind_some, Option.bind_some, Option.bind_some, a5, Option.bind_some, q_ix_nI (show i < 6 by omega) (by decide), Option.bind_some]
    · have hgt2 := nI_ge (show hf - m_tw (m_w sz) h' < s by omega) (by omega)
      refine ⟨false, h', bn', ly', pl', sz, ag', rc, ld, lo', lr', li', nr', nd', hk, rw', rw, md', mq', mi', st', sh, sw', sp', ss, sr, sa', sd, ?_, ?_, c3, c4, fun h => absurd h (by decide), c5, Or.inr c6⟩
      · unfold f_X2_makeBale
        rw [hfree, Option.bind_some, if_neg hgt, c1, Option.bind_some, gfree, Option.bind_some, if_neg hgt2]
      · unfold f_X14_make
        rw [u1, Option.bind_some, hfree2, if_neg hgt, c2, Option.bind_some, y1, Option.bind_some, gfree2, if_neg hgt2]
theorem m_isInN {x y : Int32} (h : x < 0) : f_X15_isIn x 0 y = some false := by unfold f_X15_isIn; rw [if_pos h]
theorem m_isInR {r k : Nat} (hr : r < 2147483648) (hk : k < 2147483648) : f_X15_isIn (nI r) 0 (nI k - 1) = some (decide (r < k)) := by
  unfold f_X15_isIn
  rw [if_neg (nI_pos hr)]
  cases k with
  | zero =>
    rw [if_pos (show nI 0 - 1 < nI r from Int32.lt_of_lt_of_le (show (nI 0 - 1 : Int32) < 0 by decide) (nI_pos' hr))]
    simp
  | succ k =>
    rw [nI_pred]
    by_cases h : r < k + 1
    · rw [if_neg (m_nlt (by omega) (by omega))]; simp [h]
    · rw [if_pos (nI_lt (by omega) hr)]; simp [h]
/-- what a hook holds -/
theorem m_hkv {H m hf : Nat} {h : List Nat} {bn ly pl sz ag rc ld lo lr hk rw st sh sw sp ss sr sa sd : m_Rr} (hR : m_R H m hf h bn ly pl sz ag rc ld lo lr hk rw st sh sw sp ss sr sa sd) {i : Nat} (hi : i < H) : i < 6 ∧ hk i = sh i ∧ (hk i = -1 ∨ ∃ c, c < 128 ∧ ly c ≠ 0 ∧ hk i = nI c) := by
  obtain ⟨-, -, -, -, -, hK, -⟩ := hR
  have h6 := hK.1
  obtain ⟨x, y⟩ := (hK.2 i (by omega)).1 hi
  exact ⟨by omega, x, y.imp id (fun ⟨c, ⟨x1, x2⟩, x3⟩ => ⟨c, x1, x2, x3⟩)⟩
theorem m_hasRope1 {rc : m_Rr} {x : Int32} : f_X1_hasRope rc (-1) x = some false := by unfold f_X1_hasRope; rw [if_pos (by decide)]
/-- whether the bale of a hook has a rope: class and reference -/
theorem m_hasB {rc ld sh sr : m_Rr} {c i k : Nat} (hc : c < 128) (hi : i < 6) (hs : sh i = nI c) (hk3 : k ≤ 3) (hk : rc c = nI k) (hsr : sr c = nI k) (x : Int32) :
    (f_X1_hasRope rc (nI c) x = some false ∧ f_X14_hasRope sh sr (nI i) x = some false ∧ f_X1_lead rc ld (nI c) x = some (-1) ∧ ∀ v, f_X1_setLead rc ld (nI c) x v = some ld) ∨ ∃ r, r < k ∧ x = nI r ∧ f_X1_hasRope rc (nI c) x = some true ∧ f_X14_hasRope sh sr (nI i) x = some true ∧ f_X1_lead rc ld (nI c) x = some (ld (c * 3 + r)) ∧ ∀ v, f_X1_setLead rc ld (nI c) x v = some (q_up ld (c * 3 + r) v) := by
  have hR : f_X14_hasRope sh sr (nI i) x = (f_X15_isIn x 0 (nI k - 1)).bind fun r5 => if (q_bz r5) = 0 then some false else some true := by
    unfold f_X14_hasRope
    rw [q_ix_nI hi (by decide), Option.bind_some, hs, if_neg (m_nI_m1 (by omega)), Option.bind_some, hs, q_ix_nI (by omega) (by decide), Option.bind_some, hsr]
  by_cases hx : x < 0
  · have h0 : f_X1_hasRope rc (nI c) x = some false := by
      unfold f_X1_hasRope
      rw [if_neg (nI_pos (by omega)), if_neg (show ¬ (128 : Int32) ≤ nI c from nI_ge hc (by decide)), if_pos hx]
    refine Or.inl ⟨h0, ?_, ?_, fun v => ?_⟩
    · rw [hR, m_isInN hx]; rfl
    · unfold f_X1_lead; rw [h0]; rfl
    · unfold f_X1_setLead; rw [h0]; rfl
  · obtain ⟨r, hr, rfl⟩ := nI_of hx
    have h0 := m_hasRope hc hr hk hk3
    by_cases h : r < k
    · refine Or.inr ⟨r, h, rfl, ?_, ?_, ?_, fun v => ?_⟩
      · rw [h0]; simp [h]
      · rw [hR, m_isInR hr (by omega), Option.bind_some]; simp only [h, decide_true]; rfl
      · rw [m_lead hc hr hk hk3, if_pos h]
      · rw [m_setLead hc hr hk hk3, if_pos h]
    · refine Or.inl ⟨?_, ?_, ?_, fun v => ?_⟩
      · rw [h0]; simp [h]
      · rw [hR, m_isInR hr (by omega), Option.bind_some]; simp only [h, decide_false]; rfl
      · rw [m_lead hc hr hk hk3, if_neg h]
      · rw [m_setLead hc hr hk hk3, if_neg h]
theorem m_hasR1 {sh sr : m_Rr} {i : Nat} {x : Int32} (hi : i < 6) (hs : sh i = -1) : f_X14_hasRope sh sr (nI i) x = some false := by
  unfold f_X14_hasRope
  rw [q_ix_nI hi (by decide), Option.bind_some, if_pos hs]
/-- one rope leads elsewhere -/
theorem m_R_lead {H m hf : Nat} {h : List Nat} {bn ly pl sz ag rc ld lo lr hk rw st sh sw sp ss sr sa sd : m_Rr} (hR : m_R H m hf h bn ly pl sz ag rc ld lo lr hk rw st sh sw sp ss sr sa sd) {c r : Nat} {v : Int32} (hc : c < 128) (hr : r < 3) (hv : v = -1 ∨ ∃ d, d < 128 ∧ ly d ≠ 0 ∧ v = nI d) : m_R H m hf h bn ly pl sz ag rc (q_up ld (c * 3 + r) v) lo lr hk rw st sh sw sp ss sr sa (q_up sd (3 * c + r) v) := by
  obtain ⟨h1, ⟨hg1, hg2⟩, h3, h4, h5, h6, h7⟩ := hR
  refine ⟨h1, ⟨fun b hb => ?_, fun j hj => ?_⟩, h3, h4, h5, h6, h7⟩
  · obtain ⟨k, k1, k2, k3⟩ := hg1 b hb
    refine ⟨k, k1, k2, fun q hq => ?_⟩
    by_cases e : b = c ∧ q = r
    · obtain ⟨rfl, rfl⟩ := e
      rw [m_up_s, m_up_s]
      exact ⟨rfl, hv.imp id (fun ⟨d, x, y, z⟩ => ⟨d, x, z, fun _ => y⟩)⟩
    · rw [m_up_n (by omega), m_up_n (by omega)]; exact k3 q hq
  · by_cases e : j = 3 * c + r
    · subst e
      rw [m_up_s]
      exact hv.imp id (fun ⟨d, x, y, z⟩ => ⟨d, x, z⟩)
    · rw [m_up_n e]; exact hg2 j hj
/-- a hook holds another bale, or none -/
theorem m_R_hook {H m hf : Nat} {h : List Nat} {bn ly pl sz ag rc ld lo lr hk rw st sh sw sp ss sr sa sd : m_Rr} (hR : m_R H m hf h bn ly pl sz ag rc ld lo lr hk rw st sh sw sp ss sr sa sd) {i : Nat} {v : Int32} (hi : i < H) (hv : v = -1 ∨ ∃ d, d < 128 ∧ ly d ≠ 0 ∧ v = nI d) : m_R H m hf h bn ly pl sz ag rc ld lo lr (q_up hk i v) rw st (q_up sh i v) sw sp ss sr sa sd := by
  obtain ⟨h1, h2, h3, h4, h5, hK, h7⟩ := hR
  refine ⟨h1, h2, h3, h4, h5, ⟨hK.1, fun j hj => ⟨fun hjn => ?_, fun hjn => ?_⟩⟩, h7⟩
  · by_cases e : j = i
    · subst e
      rw [m_up_s, m_up_s]
      exact ⟨rfl, hv.imp id (fun ⟨d, x, y, z⟩ => ⟨d, ⟨x, y⟩, z⟩)⟩
    · rw [m_up_n e, m_up_n e]; exact (hK.2 j hj).1 hjn
  · rw [m_up_n (by omega)]; exact (hK.2 j hj).2 hjn
section
variable {H m hf : Nat} {h : List Nat} {bn ly pl sz ag rc ld lo lr hk rw st sh sw sp ss sr sa sd : m_Rr}
theorem m_kc (hR : m_R H m hf h bn ly pl sz ag rc ld lo lr hk rw st sh sw sp ss sr sa sd) {c : Nat} (hc : c < 128) : ∃ k, k ≤ 3 ∧ rc c = nI k ∧ sr c = nI k ∧ ∀ r, r < k → sd (3 * c + r) = ld (c * 3 + r) ∧ (ld (c * 3 + r) = -1 ∨ ∃ d, d < 128 ∧ ld (c * 3 + r) = nI d ∧ (ly c ≠ 0 → ly d ≠ 0)) := by
  obtain ⟨⟨hE, -⟩, ⟨hg1, -⟩, -⟩ := hR
  obtain ⟨k, k1, k2, k3⟩ := hg1 c hc
  exact ⟨k, k1, k2, by rw [(hE c hc).2.2.2.2]; exact k2, k3⟩
theorem m_tie (hR : m_R H m hf h bn ly pl sz ag rc ld lo lr hk rw st sh sw sp ss sr sa sd) {i j : Nat} (hi : i < H) (hj : j < H) (x : Int32) :
    ∃ ok ld' sd', f_X2_tieRope rc ld hk (nI i) x (nI j) = some (ok, ld') ∧ f_X14_tie sh sr sd (nI i) x (nI j) = some (ok, sd') ∧ m_R H m hf h bn ly pl sz ag rc ld' lo lr hk rw st sh sw sp ss sr sa sd' ∧ (ok = true → ∃ c, c < 128 ∧ hk i = nI c ∧ sh i = nI c) := by
  obtain ⟨i6, i1, i2⟩ := m_hkv hR hi
  obtain ⟨j6, j1, j2⟩ := m_hkv hR hj
  have e1 : f_X2_tieRope rc ld hk (nI i) x (nI j) = if hk j = -1 then some (false, ld) else (f_X1_hasRope rc (hk i) x).bind fun r4 => if ¬ (q_bz r4) = 0 then (f_X1_setLead rc ld (hk i) x (hk j)).bind fun r7 => some (true, r7) else some (false, ld) := by
    unfold f_X2_tieRope
    rw [m_held i6, Option.bind_some, m_held j6, Option.bind_some]; rfl
  rcases i2 with hm | ⟨c, hc, hc0, hm⟩
  · refine ⟨false, ld, sd, ?_, ?_, hR, fun h => absurd h (by decide)⟩
    · rw [e1, hm, m_hasRope1]
      by_cases e : hk j = -1
      · rw [if_pos e]
      · rw [if_neg e]; rfl
    · unfold f_X14_tie
      rw [m_hasR1 i6 (i1.symm.trans hm)]; rfl
  · obtain ⟨k, k1, k2, k3, k4⟩ := m_kc hR hc
    rcases m_hasB (ld := ld) hc i6 (i1.symm.trans hm) k1 k2 k3 x with ⟨a1, a2, a3, a4⟩ | ⟨r, hr, rfl, a1, a2, a3, a4⟩
    · refine ⟨false, ld, sd, ?_, ?_, hR, fun h => absurd h (by decide)⟩
      · rw [e1, hm, a1]
        by_cases e : hk j = -1
        · rw [if_pos e]
        · rw [if_neg e]; rfl
      · unfold f_X14_tie
        rw [a2]; rfl
    · rcases j2 with hn | ⟨d, hd, hd0, hn⟩
      · refine ⟨false, ld, sd, ?_, ?_, hR, fun h => absurd h (by decide)⟩
        · rw [e1, if_pos hn]
        · unfold f_X14_tie
          rw [a2, Option.bind_some, if_neg (by decide), q_ix_nI j6 (by decide), Option.bind_some, ← j1, hn, if_neg (by decide)]
      · refine ⟨true, q_up ld (c * 3 + r) (nI d), q_up sd (3 * c + r) (nI d), ?_, ?_, m_R_lead hR hc (by omega) (Or.inr ⟨d, hd, hd0, rfl⟩), fun _ => ⟨c, hc, hm, i1.symm.trans hm⟩⟩
        · rw [e1, hn, if_neg (m_nI_m1 (by omega)), hm, a1, Option.bind_some, if_pos (by decide), a4, Option.bind_some]
        · unfold f_X14_tie
          rw [a2, Option.bind_some, if_neg (by decide), q_ix_nI j6 (by decide), Option.bind_some, ← j1, hn, if_pos (m_nI_m1 (by omega)), q_ix_nI i6 (by decide), Option.bind_some, Option.bind_some, ← i1, hm, ← j1, hn, show (3 : Int32) * nI c + nI r = nI (3 * c + r) from by rw [show (3 : Int32) = nI 3 from rfl, pk_mul, nI_add], q_ix_nI (by omega) (by decide), Option.bind_some]
theorem m_untie (hR : m_R H m hf h bn ly pl sz ag rc ld lo lr hk rw st sh sw sp ss sr sa sd) {i : Nat} (hi : i < H) (x : Int32) :
    ∃ ok ld' sd', f_X2_untieRope rc ld hk (nI i) x = some (ok, ld') ∧ f_X14_untie sh sr sd (nI i) x = some (ok, sd') ∧ m_R H m hf h bn ly pl sz ag rc ld' lo lr hk rw st sh sw sp ss sr sa sd' := by
  obtain ⟨i6, i1, i2⟩ := m_hkv hR hi
  rcases i2 with hm | ⟨c, hc, hc0, hm⟩
  · refine ⟨false, ld, sd, ?_, ?_, hR⟩
    · unfold f_X2_untieRope
      rw [m_held i6, Option.bind_some, hm, m_hasRope1]; rfl
    · unfold f_X14_untie
      rw [m_hasR1 i6 (i1.symm.trans hm)]; rfl
  · obtain ⟨k, k1, k2, k3, k4⟩ := m_kc hR hc
    rcases m_hasB (ld := ld) hc i6 (i1.symm.trans hm) k1 k2 k3 x with ⟨a1, a2, a3, a4⟩ | ⟨r, hr, rfl, a1, a2, a3, a4⟩
    · refine ⟨false, ld, sd, ?_, ?_, hR⟩
      · unfold f_X2_untieRope
        rw [m_held i6, Option.bind_some, hm, a1]; rfl
      · unfold f_X14_untie
        rw [a2]; rfl
    · refine ⟨true, q_up ld (c * 3 + r) (-1), q_up sd (3 * c + r) (-1), ?_, ?_, m_R_lead hR hc (by omega) (Or.inl rfl)⟩
      · unfold f_X2_untieRope
        rw [m_held i6, Option.bind_some, hm, a1, Option.bind_some]
        first | rw [if_pos (by decide), a4, Option.bind_some] | rw [if_neg (by decide), a4, Option.bind_some]
      · unfold f_X14_untie
        rw [a2, Option.bind_some]
        first | rw [if_neg (by decide), q_ix_nI i6 (by decide), Option.bind_some, ← i1, hm, show (3 : Int32) * nI c + nI r = nI (3 * c + r) from by rw [show (3 : Int32) = nI 3 from rfl, pk_mul, nI_add], q_ix_nI (by omega) (by decide), Option.bind_some] | rw [if_pos (by decide), q_ix_nI i6 (by decide), Option.bind_some, ← i1, hm, show (3 : Int32) * nI c + nI r = nI (3 * c + r) from by rw [show (3 : Int32) = nI 3 from rfl, pk_mul, nI_add], q_ix_nI (by omega) (by decide), Option.bind_some]
theorem m_leadsTo {i c r : Nat} (i6 : i < 6) (hc : c < 128) (hr : r < 3) (hs : sh i = nI c) : f_X14_leadsTo sh sd (nI i) (nI r) = some (sd (3 * c + r)) := by
  unfold f_X14_leadsTo
  rw [q_ix_nI i6 (by decide), Option.bind_some, hs, show (3 : Int32) * nI c + nI r = nI (3 * c + r) from by rw [show (3 : Int32) = nI 3 from rfl, pk_mul, nI_add], q_ix_nI (by omega) (by decide), Option.bind_some]
theorem m_follow (hR : m_R H m hf h bn ly pl sz ag rc ld lo lr hk rw st sh sw sp ss sr sa sd) {i j : Nat} (hi : i < H) (hj : j < H) (x : Int32) :
    ∃ ok hk' sh', f_X2_followRope rc ld hk (nI i) (nI j) x = some (ok, hk') ∧ f_X14_follow sh sr sd (nI i) (nI j) x = some (ok, sh') ∧ m_R H m hf h bn ly pl sz ag rc ld lo lr hk' rw st sh' sw sp ss sr sa sd ∧ (ok = true → ∃ c, c < 128 ∧ hk' i = nI c ∧ sh' i = nI c) := by
  obtain ⟨i6, -, -⟩ := m_hkv hR hi
  obtain ⟨j6, j1, j2⟩ := m_hkv hR hj
  rcases j2 with hm | ⟨c, hc, hc0, hm⟩
  · refine ⟨false, hk, sh, ?_, ?_, hR, fun h => absurd h (by decide)⟩
    · unfold f_X2_followRope
      have e : f_X1_lead rc ld (-1) x = some (-1) := by unfold f_X1_lead; rw [m_hasRope1]; rfl
      rw [m_held j6, Option.bind_some, hm, e, Option.bind_some, if_neg (by decide)]
    · unfold f_X14_follow
      rw [m_hasR1 j6 (j1.symm.trans hm)]; rfl
  · obtain ⟨k, k1, k2, k3, k4⟩ := m_kc hR hc
    rcases m_hasB (ld := ld) hc j6 (j1.symm.trans hm) k1 k2 k3 x with ⟨a1, a2, a3, a4⟩ | ⟨r, hr, rfl, a1, a2, a3, a4⟩
    · refine ⟨false, hk, sh, ?_, ?_, hR, fun h => absurd h (by decide)⟩
      · unfold f_X2_followRope
        rw [m_held j6, Option.bind_some, hm, a3, Option.bind_some, if_neg (by decide)]
      · unfold f_X14_follow
        rw [a2]; rfl
    · obtain ⟨z1, z2⟩ := k4 r hr
      have eR : f_X14_follow sh sr sd (nI i) (nI j) (nI r) = if ¬ ld (c * 3 + r) = -1 then some (true, q_up sh i (ld (c * 3 + r))) else some (false, sh) := by
        unfold f_X14_follow
        rw [a2, Option.bind_some, if_neg (by decide), m_leadsTo j6 hc (by omega) (j1.symm.trans hm), Option.bind_some, z1]
        rw [Option.bind_some, q_ix_nI i6 (by decide), Option.bind_some]
      have eC : f_X2_followRope rc ld hk (nI i) (nI j) (nI r) = if ¬ ld (c * 3 + r) = -1 then some (true, q_up hk i (ld (c * 3 + r))) else some (false, hk) := by
        unfold f_X2_followRope
        rw [m_held j6, Option.bind_some, hm, a3, Option.bind_some, m_hold i6, Option.bind_some]
      rw [eR, eC]
      rcases z2 with e | ⟨d, d1, d2, d3⟩
      · refine ⟨false, hk, sh, ?_, ?_, hR, fun h => absurd h (by decide)⟩
        · rw [if_neg (fun h => h e)]
        · rw [if_neg (fun h => h e)]
      · have hne : ¬ ld (c * 3 + r) = -1 := by rw [d2]; exact m_nI_m1 (by omega)
        refine ⟨true, q_up hk i (ld (c * 3 + r)), q_up sh i (ld (c * 3 + r)), by rw [if_pos hne], by rw [if_pos hne], m_R_hook hR hi (Or.inr ⟨d, d1, d3 hc0, d2⟩), fun _ => ⟨d, d1, by rw [m_up_s]; exact d2, by rw [m_up_s]; exact d2⟩⟩
theorem m_drop (hR : m_R H m hf h bn ly pl sz ag rc ld lo lr hk rw st sh sw sp ss sr sa sd) {i : Nat} (hi : i < H) :
    ∃ ok hk' sh', f_X2_dropBale hk (nI i) = some (ok, hk') ∧ f_X14_drop sh (nI i) = some (ok, sh') ∧ m_R H m hf h bn ly pl sz ag rc ld lo lr hk' rw st sh' sw sp ss sr sa sd := by
  obtain ⟨i6, i1, i2⟩ := m_hkv hR hi
  have eC : f_X2_dropBale hk (nI i) = if ¬ hk i = -1 then some (true, q_up hk i (-1)) else some (false, hk) := by
    unfold f_X2_dropBale
    rw [m_held i6, Option.bind_some, m_hold i6, Option.bind_some]
  have eR : f_X14_drop sh (nI i) = if ¬ hk i = -1 then some (true, q_up sh i (-1)) else some (false, sh) := by
    unfold f_X14_drop
    rw [q_ix_nI i6 (by decide), Option.bind_some, Option.bind_some, i1]
  rw [eC, eR]
  by_cases e : hk i = -1
  · exact ⟨false, hk, sh, by rw [if_neg (fun h => h e)], by rw [if_neg (fun h => h e)], hR⟩
  · exact ⟨true, q_up hk i (-1), q_up sh i (-1), by rw [if_pos e], by rw [if_pos e], m_R_hook hR hi (Or.inl rfl)⟩
end
