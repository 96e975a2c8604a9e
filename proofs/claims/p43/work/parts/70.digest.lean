/-! MATH: the checksum, on both sides -/
theorem m_dgLead {H m hf : Nat} {h : List Nat} {bn ly pl sz ag rc ld lo lr hk rw st sh sw sp ss sr sa sd : m_Rr} (hR : m_R H m hf h bn ly pl sz ag rc ld lo lr hk rw st sh sw sp ss sr sa sd) {x : Int32} (hx : x = -1 ∨ ∃ c, c < 128 ∧ x = nI c) : ∃ v, f_X12_digestOfLead ly pl x = some v ∧ f_X15_code sw sp x = some v := by
  rcases hx with rfl | ⟨c, hc, rfl⟩
  · refine ⟨0, ?_, ?_⟩
    · unfold f_X12_digestOfLead; rw [if_neg (by decide)]
    · unfold f_X15_code; rw [if_neg (by decide)]
  · obtain ⟨e1, e2, -⟩ := hR.1.1 c hc
    have hn : ¬ nI c = -1 := m_nI_m1 (by omega)
    have eC : f_X12_digestOfLead ly pl (nI c) = if ly c = 2 then some (1 + pl c + 100) else some (1 + pl c) := by
      unfold f_X12_digestOfLead
      rw [if_pos hn, m_place hc, Option.bind_some, m_loft hc, Option.bind_some]
      by_cases e : ly c = 2
      · rw [if_neg (by rw [m_bz]; simp [e]), if_pos e]
      · rw [if_pos (by rw [m_bz]; simp [e]), if_neg e]
    have eR : f_X15_code sw sp (nI c) = if ly c = 2 then some (1 + pl c + 100) else some (1 + pl c) := by
      unfold f_X15_code
      rw [if_pos hn, q_ix_nI (by omega) (by decide), Option.bind_some, Option.bind_some, e1, e2, Int32.add_comm (pl c) 1, Int32.add_zero]
      by_cases e : ly c = 2
      · rw [if_neg (fun z => z e), if_pos e]
      · rw [if_pos e, if_neg e]
    rw [eC, eR]
    by_cases e : ly c = 2
    · rw [if_pos e]; exact ⟨_, rfl, rfl⟩
    · rw [if_neg e]; exact ⟨_, rfl, rfl⟩
theorem m_dgRopes {H m hf : Nat} {h : List Nat} {bn ly pl sz ag rc ld lo lr hk rw st sh sw sp ss sr sa sd : m_Rr} (hR : m_R H m hf h bn ly pl sz ag rc ld lo lr hk rw st sh sw sp ss sr sa sd) {b k : Nat} (hb : b < 128) (hk3 : k ≤ 3) (hk : rc b = nI k) (hsk : sr b = nI k) (hl : ∀ r, r < k → sd (3 * b + r) = ld (b * 3 + r) ∧ (ld (b * 3 + r) = -1 ∨ ∃ c, c < 128 ∧ ld (b * 3 + r) = nI c)) : ∀ (n r fu fv : Nat) (d : Int64), r + n = k → n < fu → n < fv → ∃ v, f_X12_digestWithBale_L44 ly pl rc ld (nI b) fu d (nI r) = some v ∧ f_X15_digestOf_L60 sw sp sr sd (nI b) fv d (nI r) = some v := by
  intro n
  induction n with
  | zero =>
    intro r fu fv d hr hfu hfv
    obtain ⟨fu, rfl⟩ : ∃ z, fu = z + 1 := ⟨fu - 1, by omega⟩
    obtain ⟨fv, rfl⟩ : ∃ z, fv = z + 1 := ⟨fv - 1, by omega⟩
    refine ⟨d, ?_, ?_⟩
    · rw [f_X12_digestWithBale_L44, m_ropes hb, Option.bind_some, hk, if_pos (nI_le (by omega) (by omega))]
    · rw [f_X15_digestOf_L60, q_ix_nI (by omega) (by decide), Option.bind_some, hsk, if_pos (nI_le (by omega) (by omega))]
  | succ n ih =>
    intro r fu fv d hr hfu hfv
    obtain ⟨fu, rfl⟩ : ∃ z, fu = z + 1 := ⟨fu - 1, by omega⟩
    obtain ⟨fv, rfl⟩ : ∃ z, fv = z + 1 := ⟨fv - 1, by omega⟩
    obtain ⟨z1, z2⟩ := hl r (by omega)
    obtain ⟨w, w1, w2⟩ := m_dgLead hR z2
    obtain ⟨v, v1, v2⟩ := ih (r + 1) fu fv (d * 31 + w.toInt64) (by omega) (by omega) (by omega)
    refine ⟨v, ?_, ?_⟩
    · rw [f_X12_digestWithBale_L44, m_ropes hb, Option.bind_some, hk, if_neg (nI_ge (by omega) (by omega)), m_lead hb (by omega) hk hk3, Option.bind_some, if_pos (show r < k by omega), w1, Option.bind_some, nI_1, v1]
    · rw [f_X15_digestOf_L60, q_ix_nI (by omega) (by decide), Option.bind_some, hsk, if_neg (nI_ge (by omega) (by omega)), show (3 : Int32) * nI b + nI r = nI (3 * b + r) from by rw [show (3 : Int32) = nI 3 from rfl, pk_mul, nI_add], q_ix_nI (by omega) (by decide), Option.bind_some, z1, w2, Option.bind_some, nI_1, v2]
theorem m_dgBale {H m hf : Nat} {h : List Nat} {bn ly pl sz ag rc ld lo lr hk rw st sh sw sp ss sr sa sd : m_Rr} (hR : m_R H m hf h bn ly pl sz ag rc ld lo lr hk rw st sh sw sp ss sr sa sd) {b : Nat} (hb : b < 128) (d : Int64) : ∃ v, f_X12_digestWithBale ly pl sz ag rc ld d (nI b) = some v ∧ f_X15_digestOf_L60 sw sp sr sd (nI b) 4096 ((((d * 31 + (sp b).toInt64) * 31 + (ss b).toInt64) * 31 + (sa b).toInt64) * 31 + (sr b).toInt64) 0 = some v := by
  obtain ⟨k, k1, k2, k3, k4⟩ := m_kc hR hb
  obtain ⟨e1, e2, e3, e4, e5⟩ := hR.1.1 b hb
  obtain ⟨v, v1, v2⟩ := m_dgRopes hR hb k1 k2 k3 (fun r hr => ⟨(k4 r hr).1, (k4 r hr).2.imp id (fun ⟨c, x, y, z⟩ => ⟨c, x, y⟩)⟩) k 0 4096 4096 ((((d * 31 + (sp b).toInt64) * 31 + (ss b).toInt64) * 31 + (sa b).toInt64) * 31 + (sr b).toInt64) (by omega) (by omega) (by omega)
  rw [show nI 0 = 0 from rfl] at v1 v2
  refine ⟨v, ?_, v2⟩
  rw [e2, e3, e4, e5] at v1
  unfold f_X12_digestWithBale
  rw [m_place hb, Option.bind_some, m_size hb, Option.bind_some, m_age hb, Option.bind_some, m_ropes hb, Option.bind_some, v1]; rfl
/-- the one bale of a kind that lies at a place -/
theorem m_atU {sw sp ss : m_Rr} {w : Int32} {q b p s : Nat} (hq : q < 2 ^ 30) (hb : b < 136) (hw : sw b = w) (hp : sp b = nI p) (hs : ss b = nI s) (h1 : p ≤ q) (h2 : q < p + s) (hs2 : p + s < 2 ^ 30) (hu : ∀ c, c < 136 → sw c = w → ∃ p' s', sp c = nI p' ∧ ss c = nI s' ∧ p' + s' < 2 ^ 30 ∧ (p' ≤ q → q < p' + s' → c = b)) : f_X14_at sw sp ss w (nI q) = some (nI b) := by
  have loop : ∀ (n i fu : Nat), i + n = b → n < fu → f_X14_at_L2 sw sp ss w (nI q) fu (nI i) = some (1, nI b) := by
    intro n
    induction n with
    | zero =>
      intro i fu hi hfu
      obtain ⟨fu, rfl⟩ : ∃ z, fu = z + 1 := ⟨fu - 1, by omega⟩
      obtain rfl : i = b := by omega
      rw [f_X14_at_L2, if_neg (show ¬ (136 : Int32) ≤ nI i from nI_ge (b := 136) (by omega) (by decide)), q_ix_nI (by omega) (by decide), Option.bind_some, if_neg (fun z => z hw), Option.bind_some, hp, if_neg (m_nlt h1 (by omega)), Option.bind_some, Option.bind_some, hs, hp, nI_add, if_neg (nI_ge h2 (by omega))]
    | succ n ih =>
      intro i fu hi hfu
      obtain ⟨fu, rfl⟩ : ∃ z, fu = z + 1 := ⟨fu - 1, by omega⟩
      have e := ih (i + 1) fu (by omega) (by omega)
      rw [f_X14_at_L2, if_neg (show ¬ (136 : Int32) ≤ nI i from nI_ge (b := 136) (by omega) (by decide)), q_ix_nI (by omega) (by decide), Option.bind_some, Option.bind_some, Option.bind_some, Option.bind_some, nI_1]
      by_cases hwi : sw i = w
      · obtain ⟨p', s', x1, x2, x3, x4⟩ := hu i (by omega) hwi
        rw [if_neg (fun z => z hwi), x1, x2, nI_add]
        by_cases y1 : q < p'
        · rw [if_pos (nI_lt y1 (by omega))]; exact e
        · rw [if_neg (m_nlt (by omega) (by omega))]
          by_cases y2 : p' + s' ≤ q
          · rw [if_pos (nI_le y2 (by omega))]; exact e
          · have := x4 (by omega) (by omega); omega
      · rw [if_pos hwi]; exact e
  unfold f_X14_at
  rw [show (0 : Int32) = nI 0 from rfl, loop b 0 4096 (by omega) (by omega), Option.bind_some, if_neg (show ¬ (1 : Nat) = 0 by decide)]
theorem m_atN {sw sp ss : m_Rr} {w : Int32} {q : Nat} (hq : q < 2 ^ 30) (hu : ∀ c, c < 136 → sw c = w → ∃ p' s', sp c = nI p' ∧ ss c = nI s' ∧ p' + s' < 2 ^ 30 ∧ ¬ (p' ≤ q ∧ q < p' + s')) : f_X14_at sw sp ss w (nI q) = some (-1) := by
  have loop : ∀ (n i fu : Nat), i + n = 136 → n < fu → f_X14_at_L2 sw sp ss w (nI q) fu (nI i) = some (0, 0) := by
    intro n
    induction n with
    | zero =>
      intro i fu hi hfu
      obtain ⟨fu, rfl⟩ : ∃ z, fu = z + 1 := ⟨fu - 1, by omega⟩
      obtain rfl : i = 136 := by omega
      rw [f_X14_at_L2, if_pos (show (136 : Int32) ≤ nI 136 from nI_le (Nat.le_refl _) (by decide))]
    | succ n ih =>
      intro i fu hi hfu
      obtain ⟨fu, rfl⟩ : ∃ z, fu = z + 1 := ⟨fu - 1, by omega⟩
      have e := ih (i + 1) fu (by omega) (by omega)
      rw [f_X14_at_L2, if_neg (show ¬ (136 : Int32) ≤ nI i from nI_ge (b := 136) (by omega) (by decide)), q_ix_nI (by omega) (by decide), Option.bind_some, Option.bind_some, Option.bind_some, Option.bind_some, nI_1]
      by_cases hwi : sw i = w
      · obtain ⟨p', s', x1, x2, x3, x4⟩ := hu i (by omega) hwi
        rw [if_neg (fun z => z hwi), x1, x2, nI_add]
        by_cases y1 : q < p'
        · rw [if_pos (nI_lt y1 (by omega))]; exact e
        · rw [if_neg (m_nlt (by omega) (by omega))]
          by_cases y2 : p' + s' ≤ q
          · rw [if_pos (nI_le y2 (by omega))]; exact e
          · exact absurd ⟨by omega, by omega⟩ x4
      · rw [if_pos hwi]; exact e
  unfold f_X14_at
  rw [show (0 : Int32) = nI 0 from rfl, loop 136 0 4096 (by omega) (by omega), Option.bind_some, if_pos rfl]
/-- where the bales of the half lie -/
theorem m_halfAt {H m hf : Nat} {h : List Nat} {bn ly pl sz ag rc ld lo lr hk rw st sh sw sp ss sr sa sd : m_Rr} (hR : m_R H m hf h bn ly pl sz ag rc ld lo lr hk rw st sh sw sp ss sr sa sd) : ∀ c, c < 136 → sw c = 1 → ∃ i s, h[i]? = some c ∧ sp c = nI (m_tw (m_w sz) (h.take i)) ∧ ss c = nI s ∧ 1 ≤ s ∧ m_w sz c = s ∧ s ≤ 9 := by
  obtain ⟨⟨hE, hZ⟩, -, hv, hRh, -⟩ := hR
  obtain ⟨w1, w2, w3, w4⟩ := m_R_len hv hRh
  obtain ⟨hnd, hmem, hrw, -⟩ := hRh
  intro c hc hw
  have hc8 : c < 128 := by
    rcases Nat.lt_or_ge c 128 with h1 | h1
    · exact h1
    · rw [hZ c h1 hc] at hw; exact absurd hw (by decide)
  have hch : c ∈ h := (hmem c).mpr ⟨hc8, (hE c hc8).1.symm.trans hw⟩
  obtain ⟨i, hi⟩ := List.getElem?_of_mem hch
  obtain ⟨s, s1, s2, s3, s4⟩ := w1 c hch
  refine ⟨i, s, hi, ?_, by rw [(hE c hc8).2.2.1]; exact s3, s1, s4, s2⟩
  rw [(hE c hc8).2.1, (hrw i c hi).2]
  exact m_tot_tw (fun b hb => by
    obtain ⟨s, s1, s2, s3, s4⟩ := w1 b (List.mem_of_mem_take hb)
    rw [s3, s4])
theorem m_tw_take {w : Nat → Nat} {h : List Nat} {i c : Nat} (hi : h[i]? = some c) : m_tw w (h.take (i + 1)) = m_tw w (h.take i) + w c := by
  rw [List.take_succ, hi, m_tw_app]
  show _ + (w c + 0) = _
  rfl
theorem m_tw_mono {w : Nat → Nat} {h : List Nat} : ∀ {j i : Nat}, i ≤ j → m_tw w (h.take i) ≤ m_tw w (h.take j) := by
  intro j
  induction j with
  | zero => intro i hij; obtain rfl : i = 0 := by omega
            exact Nat.le_refl _
  | succ j ih =>
    intro i hij
    by_cases e : i = j + 1
    · subst e; exact Nat.le_refl _
    · have h1 := ih (i := i) (by omega)
      rcases hj : h[j]? with _ | c
      · have : h.take (j + 1) = h.take j := by rw [List.take_succ, hj]; simp
        rw [this]; exact h1
      · rw [m_tw_take hj]; omega
theorem m_tw_all {w : Nat → Nat} {h : List Nat} (i : Nat) : m_tw w (h.take i) ≤ m_tw w h := by
  by_cases e : i ≤ h.length
  · have := m_tw_mono (w := w) (h := h) e
    rwa [List.take_length] at this
  · rw [List.take_of_length_le (by omega)]; exact Nat.le_refl _
/-- one cell of the half that is not a place: it is passed over -/
theorem m_dgHalf {H m hf : Nat} {h : List Nat} {bn ly pl sz ag rc ld lo lr hk rw st sh sw sp ss sr sa sd : m_Rr} (hR : m_R H m hf h bn ly pl sz ag rc ld lo lr hk rw st sh sw sp ss sr sa sd) : ∀ (n i : Nat) (fu fv : Nat) (d : Int64), i + n = h.length → n < fu → hf - m_tw (m_w sz) (h.take i) < fv → ∃ v, f_X12_digest_L5 bn ly pl sz ag rc ld rw fu d (nI i) = some v ∧ f_X15_digestOf_L4 sw sp ss sr sa sd 1 (nI hf) fv d (nI (m_tw (m_w sz) (h.take i))) = some v := by
  have hA := m_halfAt hR
  obtain ⟨⟨hE, hZ⟩, -, hv, hRh, -⟩ := id hR
  obtain ⟨w1, w2, w3, w4⟩ := m_R_len hv hRh
  obtain ⟨hnd, hmem, hrw, hb7, -, htw, h64⟩ := hRh
  have hlim : ∀ i, m_tw (m_w sz) (h.take i) ≤ hf := fun i => Nat.le_trans (m_tw_all i) htw
  /- two bales don't lie at one place -/
  have hone : ∀ i j b c q s, h[i]? = some b → h[j]? = some c → m_w sz b = s → m_tw (m_w sz) (h.take i) ≤ q → q < m_tw (m_w sz) (h.take i) + s → m_tw (m_w sz) (h.take j) ≤ q → q < m_tw (m_w sz) (h.take j) + m_w sz c → c = b := fun i j b c q s hi hj hs q1 q2 q3 q4 => by
    rcases Nat.lt_trichotomy i j with e | e | e
    · have := m_tw_mono (w := m_w sz) (h := h) (show i + 1 ≤ j by omega)
      rw [m_tw_take hi] at this
      omega
    · subst e; rw [hi] at hj; exact (Option.some.inj hj).symm
    · have := m_tw_mono (w := m_w sz) (h := h) (show j + 1 ≤ i by omega)
      rw [m_tw_take hj] at this
      omega
  intro n
  induction n with
  | zero =>
    intro i fu fv d hi hfu hfv
    obtain ⟨fu, rfl⟩ : ∃ z, fu = z + 1 := ⟨fu - 1, by omega⟩
    refine ⟨d, ?_, ?_⟩
    · rw [f_X12_digest_L5, hb7, if_pos (nI_le (by omega) (by omega))]
    · have hi2 : h.take i = h := List.take_of_length_le (by omega)
      rw [hi2] at hfv ⊢
      have tail : ∀ (k q fv : Nat), q + k = hf → k < fv → m_tw (m_w sz) h ≤ q → f_X15_digestOf_L4 sw sp ss sr sa sd 1 (nI hf) fv d (nI q) = some d := by
        intro k
        induction k with
        | zero =>
          intro q fv hq hfv hle
          obtain ⟨fv, rfl⟩ : ∃ z, fv = z + 1 := ⟨fv - 1, by omega⟩
          rw [f_X15_digestOf_L4, if_pos (nI_le (by omega) (by omega))]
        | succ k ih2 =>
          intro q fv hq hfv hle
          obtain ⟨fv, rfl⟩ : ∃ z, fv = z + 1 := ⟨fv - 1, by omega⟩
          rw [f_X15_digestOf_L4, if_neg (nI_ge (by omega) (by omega)), m_atN (by omega) (fun c hc hw => by
            obtain ⟨j, s, x1, x2, x3, x4, x5, x6⟩ := hA c hc hw
            have := m_tw_all (w := m_w sz) (h := h) (j + 1)
            rw [m_tw_take x1] at this
            exact ⟨_, s, x2, x3, by omega, by omega⟩), Option.bind_some, if_pos rfl, nI_1]
          exact ih2 (q + 1) fv (by omega) (by omega) (by omega)
      exact tail (hf - m_tw (m_w sz) h) _ fv (by omega) (by omega) (Nat.le_refl _)
  | succ n ih =>
    intro i fu fv d hi hfu hfv
    obtain ⟨fu, rfl⟩ : ∃ z, fu = z + 1 := ⟨fu - 1, by omega⟩
    have hlt : i < h.length := by omega
    obtain ⟨b, hb⟩ : ∃ b, h[i]? = some b := ⟨h[i], List.getElem?_eq_getElem hlt⟩
    have hbh := List.mem_of_getElem? hb
    obtain ⟨b8, b1⟩ := (hmem b).mp hbh
    obtain ⟨s, s1, s9, s2, s3⟩ := w1 b hbh
    obtain ⟨v0, v1, v2⟩ := m_dgBale hR b8 d
    have htk := m_tw_take (w := m_w sz) hb
    have hnext := hlim (i + 1)
    have hspb : sp b = nI (m_tw (m_w sz) (h.take i)) := by
      obtain ⟨j, s', x1, x2, -⟩ := hA b (by omega) ((hE b b8).1.trans b1)
      have : j = i := by
        have q1 := (List.getElem?_eq_some_iff.mp x1)
        have q2 := (List.getElem?_eq_some_iff.mp hb)
        obtain ⟨q1, q1'⟩ := q1
        obtain ⟨q2, q2'⟩ := q2
        exact (List.getElem_inj hnd).mp (q1'.trans q2'.symm)
      rw [← this]; exact x2
    have hat : ∀ q, m_tw (m_w sz) (h.take i) ≤ q → q < m_tw (m_w sz) (h.take i) + s → f_X14_at sw sp ss 1 (nI q) = some (nI b) := fun q q1 q2 =>
      m_atU (by omega) (show b < 136 by omega) ((hE b b8).1.trans b1) hspb (by rw [(hE b b8).2.2.1]; exact s2) q1 q2 (by omega) (fun c hc hw => by
        obtain ⟨j, s', x1, x2, x3, x4, x5, x6⟩ := hA c hc hw
        have := hlim j
        exact ⟨_, s', x2, x3, by omega, fun y1 y2 => hone i j b c q s hb x1 s3 q1 q2 y1 (by omega)⟩)
    have skip : ∀ (k q fv : Nat) (e : Int64), q + k = m_tw (m_w sz) (h.take i) + s → m_tw (m_w sz) (h.take i) < q → k ≤ fv → f_X15_digestOf_L4 sw sp ss sr sa sd 1 (nI hf) fv e (nI q) = f_X15_digestOf_L4 sw sp ss sr sa sd 1 (nI hf) (fv - k) e (nI (q + k)) := by
      intro k
      induction k with
      | zero => intro q fv e _ _ _; rfl
      | succ k ih2 =>
        intro q fv e hq hlt2 hfv
        obtain ⟨fv, rfl⟩ : ∃ z, fv = z + 1 := ⟨fv - 1, by omega⟩
        rw [f_X15_digestOf_L4, if_neg (nI_ge (by omega) (by omega)), hat q (by omega) (by omega), Option.bind_some, if_neg (m_nI_m1 (by omega)), q_ix_nI (show b < 136 by omega) (by decide), Option.bind_some, hspb, if_neg (fun z => by have := (nI_eq (by omega) (by omega)).mp z; omega), nI_1, ih2 (q + 1) fv e (by omega) (by omega) (by omega), show fv + 1 - (k + 1) = fv - k by omega, show q + 1 + k = q + (k + 1) by omega]
    obtain ⟨fv, rfl⟩ : ∃ z, fv = z + 1 := ⟨fv - 1, by omega⟩
    obtain ⟨v, z1, z2⟩ := ih (i + 1) fu (fv - (s - 1)) v0 (by omega) (by omega) (by omega)
    refine ⟨v, ?_, ?_⟩
    · have e : f_X2_inRow bn rw (nI i) = some (nI b) := by
        unfold f_X2_inRow
        rw [if_neg (nI_pos (by omega)), hb7, if_neg (nI_ge hlt (by omega)), if_neg (show ¬ (64 : Int32) ≤ nI i from nI_ge (b := 64) (by omega) (by decide)), q_ix_nI (by omega) (by decide), Option.bind_some, (hrw i b hb).1]
      rw [f_X12_digest_L5, hb7, if_neg (nI_ge hlt (by omega)), e, Option.bind_some, v1, Option.bind_some, nI_1, z1]
    · rw [f_X15_digestOf_L4, if_neg (nI_ge (by omega) (by omega)), hat _ (Nat.le_refl _) (by omega), Option.bind_some, if_neg (m_nI_m1 (by omega)), q_ix_nI (show b < 136 by omega) (by decide), Option.bind_some, if_pos hspb, Option.bind_some, Option.bind_some, Option.bind_some]
      rw [hspb] at v2
      rw [v2, Option.bind_some, nI_1, skip (s - 1) _ fv v0 (by omega) (by omega) (by omega), show m_tw (m_w sz) (h.take i) + 1 + (s - 1) = m_tw (m_w sz) (h.take (i + 1)) by omega]
      exact z2
theorem m_dgLoft {H m hf : Nat} {h : List Nat} {pn bn ly pl sz ag rc ld lo lr hk rw st sh sw sp ss sr sa sd : m_Rr} (p2 : pn 1 = nI m) (hR : m_R H m hf h bn ly pl sz ag rc ld lo lr hk rw st sh sw sp ss sr sa sd) : ∀ (n p fu fv : Nat) (d : Int64), p + n = m → n < fu → n < fv → ∃ v, f_X12_digest_L22 pn ly pl sz ag rc ld lo lr fu d (nI p) = some v ∧ f_X15_digestOf_L4 sw sp ss sr sa sd 2 (nI m) fv d (nI p) = some v := by
  obtain ⟨⟨hE, hZ⟩, -, -, -, ⟨hLf, hlo1, -⟩, -⟩ := id hR
  have m64 := hLf.1
  intro n
  induction n with
  | zero =>
    intro p fu fv d hp hfu hfv
    obtain ⟨fu, rfl⟩ : ∃ z, fu = z + 1 := ⟨fu - 1, by omega⟩
    obtain ⟨fv, rfl⟩ : ∃ z, fv = z + 1 := ⟨fv - 1, by omega⟩
    refine ⟨d, ?_, ?_⟩
    · rw [f_X12_digest_L22, p2, if_pos (nI_le (by omega) (by omega))]
    · rw [f_X15_digestOf_L4, if_pos (nI_le (by omega) (by omega))]
  | succ n ih =>
    intro p fu fv d hp hfu hfv
    obtain ⟨fu, rfl⟩ : ∃ z, fu = z + 1 := ⟨fu - 1, by omega⟩
    obtain ⟨fv, rfl⟩ : ∃ z, fv = z + 1 := ⟨fv - 1, by omega⟩
    have eat : f_X5_at lo lr (nI p) = some (lr p) := m_loftAt hlo1 m64 (by omega)
    rw [f_X12_digest_L22, p2, if_neg (nI_ge (by omega) (by omega)), f_X15_digestOf_L4, if_neg (nI_ge (by omega) (by omega)), m_at hLf (by omega), Option.bind_some, nI_1]
    unfold f_X2_loftBaleFrom
    rw [eat, Option.bind_some]
    rcases hLf.2.2 p (by omega) with hm | ⟨b, hb, hsw, hm, p', s', hp', hs', hps, hpp, hpq⟩
    · rw [if_pos hm, if_pos hm, Option.bind_some, if_pos rfl]
      exact ih (p + 1) fu fv d (by omega) (by omega) (by omega)
    · have hn : ¬ nI b = -1 := m_nI_m1 (by omega)
      rw [hm, if_neg hn, if_neg hn, m_place hb, Option.bind_some, ← (hE b hb).2.1, hp', q_ix_nI (show b < 136 by omega) (by decide), Option.bind_some, hp']
      by_cases e : p' = p
      · subst e
        obtain ⟨v0, v1, v2⟩ := m_dgBale hR hb d
        rw [hp'] at v2
        rw [if_neg (fun z => z rfl), Option.bind_some, if_neg hn, v1, Option.bind_some, if_pos rfl, Option.bind_some, Option.bind_some, Option.bind_some, v2, Option.bind_some]
        exact ih (p' + 1) fu fv v0 (by omega) (by omega) (by omega)
      · have hne : ¬ nI p' = nI p := fun z => e ((nI_eq (by omega) (by omega)).mp z)
        rw [if_pos hne, Option.bind_some, if_pos rfl, if_neg hne]
        exact ih (p + 1) fu fv d (by omega) (by omega) (by omega)
theorem m_dgHooks {H m hf : Nat} {h : List Nat} {pn mp bn ly pl sz ag rc ld lo lr hk rw st sh sw sp ss sr sa sd : m_Rr} (hP : m_Pl H m hf pn mp) (hR : m_R H m hf h bn ly pl sz ag rc ld lo lr hk rw st sh sw sp ss sr sa sd) : ∀ (n i fu fv : Nat) (d : Int64), i + n = H → n < fu → n < fv → ∃ v, f_X12_digest_L44 pn ly pl hk fu d (nI i) = some v ∧ f_X15_digest_L142 mp sh sw sp fv d (nI i) = some v := by
  obtain ⟨p0, p1, p2, p3, p4, p5, p6⟩ := hP
  have h6 := hR.2.2.2.2.2.1.1
  intro n
  induction n with
  | zero =>
    intro p fu fv d hp hfu hfv
    obtain ⟨fu, rfl⟩ : ∃ z, fu = z + 1 := ⟨fu - 1, by omega⟩
    obtain ⟨fv, rfl⟩ : ∃ z, fv = z + 1 := ⟨fv - 1, by omega⟩
    refine ⟨d, ?_, ?_⟩
    · rw [f_X12_digest_L44, p5, if_pos (nI_le (by omega) (by omega))]
    · rw [f_X15_digest_L142, p6, if_pos (nI_le (by omega) (by omega))]
  | succ n ih =>
    intro i fu fv d hi hfu hfv
    obtain ⟨fu, rfl⟩ : ∃ z, fu = z + 1 := ⟨fu - 1, by omega⟩
    obtain ⟨fv, rfl⟩ : ∃ z, fv = z + 1 := ⟨fv - 1, by omega⟩
    obtain ⟨i6, i1, i2⟩ := m_hkv hR (show i < H by omega)
    obtain ⟨w, w1, w2⟩ := m_dgLead hR (x := hk i) (i2.imp id (fun ⟨c, x, y, z⟩ => ⟨c, x, z⟩))
    obtain ⟨v, v1, v2⟩ := ih (i + 1) fu fv (d * 31 + w.toInt64) (by omega) (by omega) (by omega)
    refine ⟨v, ?_, ?_⟩
    · rw [f_X12_digest_L44, p5, if_neg (nI_ge (by omega) (by omega)), m_held i6, Option.bind_some, w1, Option.bind_some, nI_1, v1]
    · rw [f_X15_digest_L142, p6, if_neg (nI_ge (by omega) (by omega)), q_ix_nI i6 (by decide), Option.bind_some, ← i1, w2, Option.bind_some, nI_1, v2]
/-- fifteen numbers, one behind the other -/
def m_dg (f : m_Rr) : Nat → Int64 → Int64
  | 0, d => d
  | n + 1, d => m_dg f n d * 31 + (f n).toInt64
theorem m_dg15 {f : m_Rr} {d : Int64} : ∀ (n i fu : Nat), i + n = 15 → n < fu → f_X15_digest_L108 f (nI 15) fu (m_dg f i d) (nI i) = some (m_dg f 15 d) := by
  intro n
  induction n with
  | zero =>
    intro i fu hi hfu
    obtain ⟨fu, rfl⟩ : ∃ z, fu = z + 1 := ⟨fu - 1, by omega⟩
    obtain rfl : i = 15 := by omega
    rw [f_X15_digest_L108, if_pos (nI_le (by omega) (by omega))]
  | succ n ih =>
    intro i fu hi hfu
    obtain ⟨fu, rfl⟩ : ∃ z, fu = z + 1 := ⟨fu - 1, by omega⟩
    have e := ih (i + 1) fu (by omega) (by omega)
    rw [f_X15_digest_L108, if_neg (nI_ge (by omega) (by omega)), q_ix_nI (by omega) (by decide), Option.bind_some, nI_1]
    exact e
theorem m_q_digest {H m hf : Nat} {h : List Nat} {pn mp bn ly pl sz ag rc ld lo lr hk rw st sh sw sp ss sr sa sd : m_Rr} (hP : m_Pl H m hf pn mp) (hR : m_R H m hf h bn ly pl sz ag rc ld lo lr hk rw st sh sw sp ss sr sa sd) {ns : Nat} (q1 : pn 4 = nI ns) (q2 : mp 4 = nI ns) (li nr nd md mq mi : m_Rr) : ∃ v li' nr' nd' md' mq' mi', f_X12_digest pn bn ly pl sz ag rc ld lo lr li nr nd hk rw = some (v, li', nr', nd') ∧ f_X15_digest md mp mq mi st sh sw sp ss sr sa sd = some (v, md', mq', mi') ∧ m_mdk md md' := by
  obtain ⟨p0, p1, p2, p3, p4, p5, p6⟩ := id hP
  obtain ⟨c1, c2, c3, c4, c5, c6⟩ := hR.2.2.2.2.2.2
  obtain ⟨u, li', nr', nd', md', mq', mi', u1, u2, u3⟩ := m_f_useless hP hR li nr nd (q_up md 0 0) mq mi
  obtain ⟨x, x1, x2⟩ := m_usedLoft hR.2.2.2.2.1.1 hR.2.2.2.2.1.2.1
  obtain ⟨y, y1, y2⟩ := m_longest hR.2.2.2.2.1.1 p3 hR.2.2.2.2.1.2.1
  obtain ⟨f, hf0⟩ : ∃ f : m_Rr, f = q_up (q_up (q_up (q_up (q_up (q_up (q_up (q_up (q_up (q_up (q_up (q_up (q_up (q_up (q_up (fun _ => 0) 0 (mp 0)) 1 (mp 4)) 2 (mp 1)) 3 (st 0)) 4 (st 1)) 5 (st 2)) 6 (bn 8)) 7 x) 8 y) 9 (bn 7 + lo 2)) 10 (lo 2)) 11 u) 12 (st 3)) 13 (st 4)) 14 (st 5) := ⟨_, rfl⟩
  have h15 := m_dg15 (f := f) (d := 971) 15 0 4096 (by omega) (by omega)
  obtain ⟨v1, a1, a2⟩ := m_dgHalf hR h.length 0 4096 4096 (m_dg f 15 971) (by omega) (by have := (m_R_len hR.2.2.1 hR.2.2.2.1).2.2.1; omega) (by have := (m_usedH hR).2.2.2; omega)
  obtain ⟨v2, b1, b2⟩ := m_dgLoft p2 hR m 0 4096 4096 v1 (by omega) (by have := hR.2.2.2.2.1.1.1; omega) (by have := hR.2.2.2.2.1.1.1; omega)
  obtain ⟨v3, d1, d2⟩ := m_dgHooks hP hR H 0 4096 4096 v2 (by omega) (by have := hR.2.2.2.2.2.1.1; omega) (by have := hR.2.2.2.2.2.1.1; omega)
  rw [List.take_zero, show m_tw (m_w sz) [] = 0 from rfl, show nI 0 = 0 from rfl] at a2
  rw [show nI 0 = 0 from rfl] at a1 b1 b2 d1 d2 h15
  refine ⟨v3, li', nr', nd', md', mq', mi', ?_, ?_, fun q h0 h16 => (u3 q h16).trans (m_up_n h0)⟩
  · have e : f_X12_digestOfCounts pn bn rc ld lo lr li nr nd hk = some (m_dg f 15 971, li', nr', nd') := by
      unfold f_X12_digestOfCounts f_X12_usedInLoft f_X12_longestGap
      rw [show f_X12_hooks pn = some (mp 0) from congrArg some (p5.trans p6.symm), Option.bind_some, show f_X12_steps pn = some (mp 4) from congrArg some (q1.trans q2.symm), Option.bind_some, show f_X12_placesOfHalf pn = some (mp 1) from congrArg some (p0.trans p1.symm), Option.bind_some, show f_X12_stepsGoneBy bn = some (st 0) from congrArg some c2, Option.bind_some, show f_X12_stepsRefused bn = some (st 1) from congrArg some c3, Option.bind_some, show f_X12_workingHalf bn = some (st 2) from congrArg some c1, Option.bind_some, show f_X12_usedPlaces bn = some (bn 8) from rfl, Option.bind_some, x1, Option.bind_some, Option.bind_some, y1, Option.bind_some, Option.bind_some, show f_X12_bales bn lo = some (bn 7 + lo 2) from rfl, Option.bind_some, show f_X12_balesInLoft lo = some (lo 2) from rfl, Option.bind_some, u1, Option.bind_some, show f_X12_copyings bn = some (st 3) from congrArg some c4, Option.bind_some, show f_X12_balesPromoted bn = some (st 4) from congrArg some c5, Option.bind_some, show f_X12_balesGone bn = some (st 5) from congrArg some c6, Option.bind_some, hf0]
      rfl
    unfold f_X12_digest
    rw [e, Option.bind_some, a1, Option.bind_some, b1, Option.bind_some, d1, Option.bind_some]
  · have q15 : ∀ j, j < 15 → q_ix (nI j) 15 = some j := fun j hj => q_ix_nI hj (by decide)
    unfold f_X15_digest f_X15_digestOf
    rw [show (0 : Int32) = nI 0 from rfl, show (1 : Int32) = nI 1 from rfl, show (2 : Int32) = nI 2 from rfl, show (3 : Int32) = nI 3 from rfl, show (4 : Int32) = nI 4 from rfl, show (5 : Int32) = nI 5 from rfl, show (6 : Int32) = nI 6 from rfl, show (7 : Int32) = nI 7 from rfl, show (8 : Int32) = nI 8 from rfl, show (9 : Int32) = nI 9 from rfl, show (10 : Int32) = nI 10 from rfl, show (11 : Int32) = nI 11 from rfl, show (12 : Int32) = nI 12 from rfl, show (13 : Int32) = nI 13 from rfl, show (14 : Int32) = nI 14 from rfl]
    rw [q15 0 (by decide), Option.bind_some, q15 1 (by decide), Option.bind_some, q15 2 (by decide), Option.bind_some, q15 3 (by decide), Option.bind_some, q15 4 (by decide), Option.bind_some, q15 5 (by decide), Option.bind_some, show f_X14_used sw ss (nI 1) = some (bn 8) from (m_usedH hR).1, Option.bind_some, q15 6 (by decide), Option.bind_some, show f_X14_used sw ss (nI 2) = some x from x2, Option.bind_some, q15 7 (by decide), Option.bind_some, y2, Option.bind_some, q15 8 (by decide), Option.bind_some, m_bales_, ← m_b7_of hR, ← hR.2.2.2.2.1.2.2, Option.bind_some, q15 9 (by decide), Option.bind_some, show f_X14_bales sw (nI 2) = some (lo 2) from by rw [hR.2.2.2.2.1.2.2]; exact m_bales, Option.bind_some, q15 10 (by decide), Option.bind_some, show f_X14_useless (q_up md 0 (nI 0)) mp mq mi sh sw sr sd = _ from u2, Option.bind_some, q15 11 (by decide), Option.bind_some, q15 12 (by decide), Option.bind_some, q15 13 (by decide), Option.bind_some, q15 14 (by decide), Option.bind_some]
    have h15' : f_X15_digest_L108 (q_up (q_up (q_up (q_up (q_up (q_up (q_up (q_up (q_up (q_up (q_up (q_up (q_up (q_up (q_up (fun _ => nI 0) 0 (mp 0)) 1 (mp 4)) 2 (mp 1)) 3 (st 0)) 4 (st 1)) 5 (st 2)) 6 (bn 8)) 7 x) 8 y) 9 (bn 7 + lo 2)) 10 (lo 2)) 11 u) 12 (st 3)) 13 (st 4)) 14 (st 5)) (nI 15) 4096 971 (nI 0) = some (m_dg f 15 971) := by rw [hf0] at h15 ⊢; exact h15
    rw [h15', Option.bind_some, p1, p3]
    rw [show nI 1 = (1 : Int32) from rfl, show nI 2 = (2 : Int32) from rfl, show nI 0 = (0 : Int32) from rfl, a2, Option.bind_some, Option.bind_some, b2, Option.bind_some, Option.bind_some, d2, Option.bind_some]
