/-! MATH: all tokens, on both sides -/
/-- n tokens, and what stands behind them: 0 the end, 1 what is no token -/
def m_Tk (mt : m_Rr) (z n : Nat) (tk : m_Rr) (tg : Nat → Option Nat) (ts tl tv kn mf mm mr me : m_Rr) : Prop :=
  n ≤ 400 ∧ (∀ i, i < n → m_T1 mt z tg ts tl tv kn mf mm i) ∧ (∃ e p, (e = 0 ∨ e = 1) ∧ p ≤ z ∧ tg n = some e ∧ ts n = nI p ∧ mf n = nI p ∧ kn n = m_kd e) ∧ tk 5 = nI z ∧ tk 6 = nI (n + 1) ∧ (∀ i, i ≤ n → mr i = 0 ∧ me i = 0)
/-- a token's facts look only at the tokens up to it -/
theorem m_T1_congr {mt : m_Rr} {z : Nat} {tg tg' : Nat → Option Nat} {ts ts' tl tl' tv tv' kn kn' mf mf' mm mm' : m_Rr} {i : Nat} (h : m_T1 mt z tg ts tl tv kn mf mm i) (h1 : ∀ j, j ≤ i → tg' j = tg j ∧ ts' j = ts j ∧ tl' j = tl j) (h2 : tv' i = tv i ∧ kn' i = kn i ∧ mf' i = mf i ∧ mm' i = mm i) : m_T1 mt z tg' ts' tl' tv' kn' mf' mm' i := by
  obtain ⟨s, p, len, a1, a2, a3, a4, a5, a6, a7, a8, a9, b1, b2, b3⟩ := h
  have tx : ∀ j, j ≤ i → m_tx mt z ts' tl' j = m_tx mt z ts tl j := fun j hj => by unfold m_tx; rw [(h1 j hj).2.1, (h1 j hj).2.2]
  refine ⟨s, p, len, (h1 i (Nat.le_refl _)).1.trans a1, a2, a3, a4, a5, (h1 i (Nat.le_refl _)).2.1.trans a6, h2.2.2.1.trans a7, (h1 i (Nat.le_refl _)).2.2.trans a8, h2.2.2.2.trans a9, h2.2.1.trans b1, fun hs => ⟨(b2 hs).1, h2.1.trans (b2 hs).2⟩, fun hs => ?_⟩
  obtain ⟨c1, k, k1, k2, k3, k4, k5⟩ := b3 hs
  refine ⟨c1, k, k1, h2.1.trans k2, (h1 k k1).1.trans k3, by rw [tx k k1, tx i (Nat.le_refl _)]; exact k4, fun j hj h3 => ?_⟩
  rw [tx j (by omega), tx i (Nat.le_refl _)]
  exact k5 j hj ((h1 j (by omega)).1.symm.trans h3)
section
variable {tp mt md : m_Rr} {z : Nat}
/-- a token is put to the others, by the class -/
theorem m_addC (hB : m_By tp mt) (hz : z ≤ 2000) {tk ts tl tv kn mf mm : m_Rr} {tg : Nat → Option Nat} {n : Nat} (hk : tk 5 = nI z) (h6 : tk 6 = nI n) (hn : n < 400) (hT : ∀ i, i < n → m_T1 mt z tg ts tl tv kn mf mm i) {s p len : Nat} (l1 : 1 ≤ len) (l10 : len ≤ 10) (hp : p + len ≤ z) (hs : (s = 2 ∧ len ≤ 6 ∧ ∀ j, j < len → m_iD (m_vR mt z (p + j)) = true) ∨ ((s = 3 ∨ (5 ≤ s ∧ s < 34)) ∧ ∀ j, j < len → m_pW mt z (p + j) = true) ∨ (34 ≤ s ∧ s < 49)) :
    ∃ v, f_X11_add tp tk ts tl tv tg s (nI p) (nI len) = some (q_up tk 6 (nI (n + 1)), q_up ts n (nI p), q_up tl n (nI len), q_up tv n v, q_up tg n (some s)) ∧ (∀ i, i < n + 1 → m_T1 mt z (q_up tg n (some s)) (q_up ts n (nI p)) (q_up tl n (nI len)) (q_up tv n v) (q_up kn n (m_kd s)) (q_up mf n (nI p)) (q_up mm n (nI len)) i) := by
  have q401 : q_ix (nI n) 401 = some n := q_ix_nI (by omega) (by decide)
  have hs49 : s < 49 := by rcases hs with ⟨h, -⟩ | ⟨h, -⟩ | h <;> omega
  have he : q_e49 s = some () := by unfold q_e49; rw [if_pos hs49]
  have hs3 : s = 2 ∨ s = 3 ∨ (5 ≤ s ∧ s < 49) := by rcases hs with ⟨h, -⟩ | ⟨h, -⟩ | h <;> omega
  have fin : ∀ v, f_X11_valueOf tp tk (q_up ts n (nI p)) (q_up tl n (nI len)) (q_up tg n (some s)) s (nI p) (nI len) = some v → (s = 2 → (∀ j, j < len → m_iD (m_vR mt z (p + j)) = true) ∧ v = m_num (m_vR mt z) p len 0 0) → (s = 3 → (∀ j, j < len → m_pW mt z (p + j) = true) ∧ ∃ k, k ≤ n ∧ v = nI k ∧ q_up tg n (some s) k = some 3 ∧ m_tx mt z (q_up ts n (nI p)) (q_up tl n (nI len)) k = m_tx mt z (q_up ts n (nI p)) (q_up tl n (nI len)) n ∧ ∀ j, j < k → q_up tg n (some s) j = some 3 → m_tx mt z (q_up ts n (nI p)) (q_up tl n (nI len)) j ≠ m_tx mt z (q_up ts n (nI p)) (q_up tl n (nI len)) n) →
      ∃ v, f_X11_add tp tk ts tl tv tg s (nI p) (nI len) = some (q_up tk 6 (nI (n + 1)), q_up ts n (nI p), q_up tl n (nI len), q_up tv n v, q_up tg n (some s)) ∧ (∀ i, i < n + 1 → m_T1 mt z (q_up tg n (some s)) (q_up ts n (nI p)) (q_up tl n (nI len)) (q_up tv n v) (q_up kn n (m_kd s)) (q_up mf n (nI p)) (q_up mm n (nI len)) i) := by
    intro v e1 e2 e3
    refine ⟨v, ?_, fun i hi => ?_⟩
    · unfold f_X11_add
      rw [he, Option.bind_some, h6, if_neg (nI_pos (by omega)), if_neg (show ¬ (400 : Int32) < nI n from m_nlt (a := 400) (b := n) (by omega) (by decide)), q401, Option.bind_some, Option.bind_some, Option.bind_some, e1, Option.bind_some, Option.bind_some, nI_1]
    · by_cases hin : i = n
      · subst hin
        exact ⟨s, p, len, m_up_s, hs3, hp, l1, l10, m_up_s, m_up_s, m_up_s, m_up_s, m_up_s, fun h => ⟨(e2 h).1, by rw [m_up_s]; exact (e2 h).2⟩, fun h => by rw [m_up_s]; exact e3 h⟩
      · exact m_T1_congr (hT i (by omega)) (fun j hj => ⟨m_up_n (by omega), m_up_n (by omega), m_up_n (by omega)⟩) ⟨m_up_n hin, m_up_n hin, m_up_n hin, m_up_n hin⟩
  by_cases h2 : s = 2
  · subst h2
    obtain ⟨hd6, hd⟩ : len ≤ 6 ∧ ∀ j, j < len → m_iD (m_vR mt z (p + j)) = true := by
      rcases hs with ⟨-, h1, h2⟩ | ⟨h, -⟩ | h
      · exact ⟨h1, h2⟩
      · omega
      · omega
    refine fin (m_num (m_vR mt z) p len 0 0) ?_ (fun _ => ⟨hd, rfl⟩) (fun h => absurd h (by decide))
    unfold f_X11_valueOf f_X11_numberAt
    have e := m_numC hB hz hk (p := p) (len := len) (by omega) hd len 0 4096 0 (by omega) (by omega)
    rw [show nI 0 = 0 from rfl] at e
    rw [he, Option.bind_some, if_pos rfl, e]; rfl
  · by_cases h3 : s = 3
    · subst h3
      have hw : ∀ j, j < len → m_pW mt z (p + j) = true := by
        rcases hs with ⟨h, -⟩ | ⟨-, h⟩ | h
        · omega
        · exact h
        · omega
      have htn : m_tx mt z (q_up ts n (nI p)) (q_up tl n (nI len)) n = m_W (m_vR mt z) p len := m_tx_eq m_up_s m_up_s (by omega) (by omega)
      have htg : ∀ j, j < n → m_tx mt z (q_up ts n (nI p)) (q_up tl n (nI len)) j = m_tx mt z ts tl j := fun j hj => by unfold m_tx; rw [m_up_n (by omega), m_up_n (by omega)]
      have hl := m_likeL hB hz hk (tg := q_up tg n (some 3)) (ts := q_up ts n (nI p)) (tl := q_up tl n (nI len)) (n := n) (p := p) (len := len) (by omega) h6 hp l10 hw (fun i hi => by
        obtain ⟨s, q, l, a1, a2, a3, a4, a5, a6, a7, a8, a9, b1, b2, b3⟩ := hT i hi
        exact ⟨s, q, l, (m_up_n (by omega)).trans a1, (m_up_n (by omega)).trans a6, (m_up_n (by omega)).trans a8, a3, a5, fun h => (b3 h).1⟩) n 0 4096 (by omega) (by omega) (fun j hj => by omega)
      have eV : f_X11_valueOf tp tk (q_up ts n (nI p)) (q_up tl n (nI len)) (q_up tg n (some 3)) 3 (nI p) (nI len) = (f_X11_firstLike_L2 tp tk (q_up ts n (nI p)) (q_up tl n (nI len)) (q_up tg n (some 3)) (nI p) (nI len) 4096 (nI 0)).bind fun r27 => if r27.1 = 0 then some (nI n) else some r27.2 := by
        unfold f_X11_valueOf f_X11_firstLike
        rw [he, Option.bind_some, if_neg (by decide), if_pos rfl, h6]
        rw [show (0 : Int32) = nI 0 from rfl]
        cases f_X11_firstLike_L2 tp tk (q_up ts n (nI p)) (q_up tl n (nI len)) (q_up tg n (some 3)) (nI p) (nI len) 4096 (nI 0) with
        | none => rfl
        | some r => by_cases h : r.1 = 0 <;> simp [h]
      rcases hl with ⟨j, j1, j2, j3, j4, j5⟩ | ⟨j2, j5⟩
      · refine fin (nI j) (by rw [eV, j2, Option.bind_some, if_neg (show ¬ (1 : Nat) = 0 by decide)]) (fun h => absurd h (by decide)) (fun _ => ⟨hw, j, by omega, rfl, j3, by rw [htn]; exact j4, fun u hu h3 => by rw [htn]; exact j5 u hu h3⟩)
      · refine fin (nI n) (by rw [eV, j2, Option.bind_some, if_pos rfl]) (fun h => absurd h (by decide)) (fun _ => ⟨hw, n, Nat.le_refl _, rfl, m_up_s, rfl, fun u hu h3 => by rw [htn]; exact j5 u hu h3⟩)
    · refine fin 0 ?_ (fun h => absurd h h2) (fun h => absurd h h3)
      unfold f_X11_valueOf
      rw [he, Option.bind_some, if_neg h2, if_neg h3]
/-- what stands behind the last token -/
theorem m_addE {tk ts tl tv : m_Rr} {tg : Nat → Option Nat} {n e p : Nat} (h6 : tk 6 = nI n) (hn : n ≤ 400) (he : e = 0 ∨ e = 1) : f_X11_add tp tk ts tl tv tg e (nI p) 0 = some (q_up tk 6 (nI (n + 1)), q_up ts n (nI p), q_up tl n 0, q_up tv n 0, q_up tg n (some e)) := by
  have q401 : q_ix (nI n) 401 = some n := q_ix_nI (by omega) (by decide)
  have he49 : q_e49 e = some () := by unfold q_e49; rw [if_pos (by omega)]
  unfold f_X11_add f_X11_valueOf
  rw [he49, Option.bind_some, h6, if_neg (nI_pos (by omega)), if_neg (show ¬ (400 : Int32) < nI n from m_nlt (a := 400) (b := n) (by omega) (by decide)), q401, Option.bind_some, Option.bind_some, Option.bind_some, Option.bind_some, if_neg (by omega), if_neg (by omega), Option.bind_some, Option.bind_some, nI_1]
theorem m_cutL (hB : m_By tp mt) (hz : z ≤ 2000) (hmd : md 2 = nI z) : ∀ (k n q : Nat) (fu fv : Nat) (tk ts tl tv kn mf mm mr me : m_Rr) (tg : Nat → Option Nat), n + k = 400 → k < fu → k < fv → q ≤ z → tk 5 = nI z → tk 6 = nI n → (∀ i, i < n → m_T1 mt z tg ts tl tv kn mf mm i) → (∀ i, i < n → mr i = 0 ∧ me i = 0) →
    ∃ fl p tk' ts' tl' tv' tg' fr kn' mf' mm' mr' me' n', f_X11_split_L12 tp fu tk ts tl tv tg (nI (m_run (m_pB mt z) (z - q) q)) (nI n) = some (fl, nI p, tk', ts', tl', tv', tg') ∧ f_X15_cut_L4 md mt fv kn mf mm mr me (nI q) (nI n) = some (fr, kn', mf', mm', mr', me') ∧ n' ≤ 400 ∧ p ≤ z ∧ tk' 5 = nI z ∧ tk' 6 = nI n' ∧ (∀ i, i < n' → m_T1 mt z tg' ts' tl' tv' kn' mf' mm' i) ∧ (∀ i, i ≤ n' → mr' i = 0 ∧ me' i = 0) ∧ mf' n' = nI p ∧ kn' n' = m_kd (if z ≤ p then 0 else 1) := by
  intro k
  induction k with
  | zero =>
    intro n q fu fv tk ts tl tv kn mf mm mr me tg hn hfu hfv hq h5 h6 hT hM
    obtain ⟨fu, rfl⟩ : ∃ z, fu = z + 1 := ⟨fu - 1, by omega⟩
    obtain ⟨fv, rfl⟩ : ∃ z, fv = z + 1 := ⟨fv - 1, by omega⟩
    obtain rfl : n = 400 := by omega
    obtain ⟨p, hp⟩ : ∃ p, p = m_run (m_pB mt z) (z - q) q := ⟨_, rfl⟩
    have hpz : p ≤ z := by rw [hp]; have := (m_run_ge (P := m_pB mt z) (n := z - q) (e := q)).2; omega
    have q401 : q_ix (nI 400) 401 = some 400 := q_ix_nI (by decide) (by decide)
    have hbl := m_blankR hB hz hmd (z - q) q 4096 (by omega) (by omega)
    rw [← hp] at hbl ⊢
    obtain ⟨x, mm', hkd, hmm', hx⟩ : ∃ x mm', f_X15_kindAt md mt mm (nI p) (nI 400) = some (x, mm') ∧ (∀ i, i < 400 → mm' i = mm i) ∧ (x = 900 ↔ z ≤ p) := by
      by_cases h : p < z
      · rcases m_token hB hz h5 hmd h (show 400 < 401 by decide) mm with ⟨-, x, h2⟩ | ⟨s, len, b1, b2, b3, b4, b5, b6, b7⟩
        · exact ⟨901, _, h2, fun i hi => m_up_n (by omega), ⟨fun hh => absurd hh (by decide), fun hh => by omega⟩⟩
        · refine ⟨_, _, b6, fun i hi => m_up_n (by omega), ⟨fun hh => ?_, fun hh => by omega⟩⟩
          have hs49 : s < 49 := by rcases b7 with ⟨h, -⟩ | ⟨h, -⟩ | h <;> omega
          have := m_kd_inj s hs49 0 (by decide) hh
          rcases b7 with ⟨h, -⟩ | ⟨h, -⟩ | h <;> omega
      · refine ⟨900, mm, ?_, fun _ _ => rfl, ⟨fun _ => by omega, fun _ => rfl⟩⟩
        unfold f_X15_kindAt
        rw [m_atR hB hz hmd (by omega), Option.bind_some, m_vR_z (by omega), if_neg (by decide)]
    refine ⟨0, p, tk, ts, tl, tv, tg, 1, q_up kn 400 (m_kd (if z ≤ p then 0 else 1)), q_up mf 400 (nI p), mm', q_up mr 400 0, q_up me 400 0, 400, ?_, ?_, Nat.le_refl _, hpz, h5, h6, fun i hi => m_T1_congr (hT i hi) (fun j hj => ⟨rfl, rfl, rfl⟩) ⟨rfl, m_up_n (by omega), m_up_n (by omega), hmm' i hi⟩, fun i hi => ?_, m_up_s, m_up_s⟩
    · rw [f_X11_split_L12, if_pos (show (400 : Int32) ≤ nI 400 from nI_le (Nat.le_refl _) (by decide))]
    · rw [f_X15_cut_L4, if_neg (show ¬ (400 : Int32) < nI 400 by decide), hbl, Option.bind_some, q401, Option.bind_some, Option.bind_some, Option.bind_some, hkd, Option.bind_some, Option.bind_some, if_neg (show ¬ ¬ nI 400 = (400 : Int32) from fun h => h rfl), Option.bind_some, m_up_s]
      by_cases h : z ≤ p
      · have hx9 := hx.mpr h
        subst hx9
        rw [if_pos rfl, Option.bind_some, m_up_s, if_neg (show ¬ (900 : Int32) < 900 by decide), if_pos h]; rfl
      · rw [if_neg (fun hh => h (hx.mp hh)), Option.bind_some, Option.bind_some, m_up_s, if_neg (show ¬ (901 : Int32) < 900 by decide), if_neg h]
        have : q_up (q_up kn 400 x) 400 901 = q_up kn 400 (m_kd 1) := by
          funext j
          rw [m_up_of, m_up_of, m_up_of]
          by_cases hj : j = 400
          · rw [if_pos hj, if_pos hj]; rfl
          · rw [if_neg hj, if_neg hj, if_neg hj]
        rw [this]
    · by_cases hi4 : i = 400
      · subst hi4; exact ⟨m_up_s, m_up_s⟩
      · rw [m_up_n hi4, m_up_n hi4]; exact hM i (by omega)
  | succ k ih =>
    intro n q fu fv tk ts tl tv kn mf mm mr me tg hn hfu hfv hq h5 h6 hT hM
    obtain ⟨fu, rfl⟩ : ∃ z, fu = z + 1 := ⟨fu - 1, by omega⟩
    obtain ⟨fv, rfl⟩ : ∃ z, fv = z + 1 := ⟨fv - 1, by omega⟩
    obtain ⟨p, hp⟩ : ∃ p, p = m_run (m_pB mt z) (z - q) q := ⟨_, rfl⟩
    have hpz : p ≤ z := by rw [hp]; have := (m_run_ge (P := m_pB mt z) (n := z - q) (e := q)).2; omega
    have q401 : q_ix (nI n) 401 = some n := q_ix_nI (by omega) (by decide)
    have hbl := m_blankR hB hz hmd (z - q) q 4096 (by omega) (by omega)
    rw [← hp] at hbl ⊢
    have hn4 : ¬ nI n = (400 : Int32) := fun h => by have := (nI_eq (b := 400) (by omega) (by decide)).mp h; omega
    have eR : f_X15_cut_L4 md mt (fv + 1) kn mf mm mr me (nI q) (nI n) = (f_X15_kindAt md mt mm (nI p) (nI n)).bind fun r10 => if r10.1 < (900 : Int32) then f_X15_cut_L4 md mt fv (q_up kn n r10.1) (q_up mf n (nI p)) r10.2 (q_up mr n 0) (q_up me n 0) (nI p + r10.2 n) (nI (n + 1)) else some (1, q_up kn n r10.1, q_up mf n (nI p), r10.2, q_up mr n 0, q_up me n 0) := by
      rw [f_X15_cut_L4, if_neg (show ¬ (400 : Int32) < nI n from m_nlt (a := 400) (b := n) (by omega) (by decide)), hbl, Option.bind_some, q401, Option.bind_some, Option.bind_some, Option.bind_some, nI_1]
      congr 1
      funext r10
      rw [Option.bind_some, if_pos hn4, Option.bind_some, m_up_s, Option.bind_some]
    have hM1 : ∀ i, i < n + 1 → q_up mr n 0 i = 0 ∧ q_up me n 0 i = 0 := fun i hi => by
      by_cases hin : i = n
      · subst hin; exact ⟨m_up_s, m_up_s⟩
      · rw [m_up_n hin, m_up_n hin]; exact hM i (by omega)
    by_cases hpe : z ≤ p
    · refine ⟨0, p, tk, ts, tl, tv, tg, 1, q_up kn n 900, q_up mf n (nI p), mm, q_up mr n 0, q_up me n 0, n, ?_, ?_, by omega, hpz, h5, h6, fun i hi => m_T1_congr (hT i hi) (fun j hj => ⟨rfl, rfl, rfl⟩) ⟨rfl, m_up_n (by omega), m_up_n (by omega), rfl⟩, fun i hi => hM1 i (by omega), m_up_s, ?_⟩
      · rw [f_X11_split_L12, if_neg (show ¬ (400 : Int32) ≤ nI n from nI_ge (b := 400) (by omega) (by decide)), h5, if_pos (nI_le hpe (by omega))]
      · have hkd : f_X15_kindAt md mt mm (nI p) (nI n) = some (900, mm) := by
          unfold f_X15_kindAt
          rw [m_atR hB hz hmd (by omega), Option.bind_some, m_vR_z hpe, if_neg (by decide)]
        rw [eR, hkd, Option.bind_some, if_neg (show ¬ (900 : Int32) < 900 by decide)]
      · rw [m_up_s, if_pos hpe]; rfl
    · rcases m_token hB hz h5 hmd (show p < z by omega) (show n < 401 by omega) mm with ⟨h1, x, h2⟩ | ⟨s, len, b1, b2, b3, b4, b5, b6, b7⟩
      · refine ⟨1, p, tk, ts, tl, tv, tg, 1, q_up kn n 901, q_up mf n (nI p), q_up mm n x, q_up mr n 0, q_up me n 0, n, ?_, ?_, by omega, hpz, h5, h6, fun i hi => m_T1_congr (hT i hi) (fun j hj => ⟨rfl, rfl, rfl⟩) ⟨rfl, m_up_n (by omega), m_up_n (by omega), m_up_n (by omega)⟩, fun i hi => hM1 i (by omega), m_up_s, ?_⟩
        · rw [f_X11_split_L12, if_neg (show ¬ (400 : Int32) ≤ nI n from nI_ge (b := 400) (by omega) (by decide)), h5, if_neg (nI_ge (by omega) (by omega)), h1, Option.bind_some, if_neg (fun hh => hh rfl)]
        · rw [eR, h2, Option.bind_some, if_neg (show ¬ (901 : Int32) < 900 by decide)]
        · rw [m_up_s, if_neg hpe]; rfl
      · have hs49 : s < 49 := by rcases b7 with ⟨h, -⟩ | ⟨h, -⟩ | h <;> omega
        have he49 : q_e49 s = some () := by unfold q_e49; rw [if_pos hs49]
        have hlt : m_kd s < 900 := by
          have : ∀ s, s < 49 → s ≠ 0 → s ≠ 1 → s ≠ 4 → m_kd s < 900 := by decide +kernel
          exact this s hs49 (by rcases b7 with ⟨h, -⟩ | ⟨h, -⟩ | h <;> omega) (by rcases b7 with ⟨h, -⟩ | ⟨h, -⟩ | h <;> omega) (by rcases b7 with ⟨h, -⟩ | ⟨h, -⟩ | h <;> omega)
        obtain ⟨v, a1, a2⟩ := m_addC hB hz h5 h6 (by omega) hT b1 b2 b3 b7
        obtain ⟨fl, p', tk', ts', tl', tv', tg', fr, kn', mf', mm', mr', me', n', z1, z2, z3⟩ := ih (n + 1) (p + len) fu fv (q_up tk 6 (nI (n + 1))) (q_up ts n (nI p)) (q_up tl n (nI len)) (q_up tv n v) (q_up kn n (m_kd s)) (q_up mf n (nI p)) (q_up mm n (nI len)) (q_up mr n 0) (q_up me n 0) (q_up tg n (some s)) (by omega) (by omega) (by omega) b3 ((m_up_n (by decide)).trans h5) m_up_s a2 hM1
        refine ⟨fl, p', tk', ts', tl', tv', tg', fr, kn', mf', mm', mr', me', n', ?_, ?_, z3⟩
        · have hbC := m_blankC hB hz (tk := q_up tk 6 (nI (n + 1))) ((m_up_n (by decide)).trans h5) (z - (p + len)) (p + len) 4096 (by omega) (by omega)
          rw [f_X11_split_L12, if_neg (show ¬ (400 : Int32) ≤ nI n from nI_ge (b := 400) (by omega) (by decide)), h5, if_neg (nI_ge (by omega) (by omega)), b4, Option.bind_some, if_pos (nI_ne0 (by omega) (by omega)), b5, Option.bind_some, he49, Option.bind_some, a1, Option.bind_some]
          dsimp only
          unfold f_X11_behindBlanks
          rw [nI_add, hbC, Option.bind_some, Option.bind_some, nI_1]
          exact z1
        · rw [eR, b6, Option.bind_some, if_pos hlt]
          dsimp only
          rw [m_up_s, nI_add]
          exact z2
theorem m_cut (hB : m_By tp mt) (hz : z ≤ 2000) (hmd : md 2 = nI z) (tk ts tl tv kn mf mm mr me : m_Rr) (tg : Nat → Option Nat) :
    ∃ n tk' ts' tl' tv' tg' kn' mf' mm' mr' me', f_X11_split tp tk ts tl tv tg (nI z) = some (tk', ts', tl', tv', tg') ∧ f_X15_cut md mt kn mf mm mr me = some (kn', mf', mm', mr', me') ∧ m_Tk mt z n tk' tg' ts' tl' tv' kn' mf' mm' mr' me' := by
  have h5 : q_up (q_up tk 5 (nI z)) 6 0 5 = nI z := (m_up_n (by decide)).trans m_up_s
  obtain ⟨fl, p, tk', ts', tl', tv', tg', fr, kn', mf', mm', mr', me', n, z1, z2, z3, z4, z5, z6, z7, z8, z9, y1⟩ := m_cutL hB hz hmd 400 0 0 4096 4096 (q_up (q_up tk 5 (nI z)) 6 0) ts tl tv kn mf mm mr me tg (by omega) (by omega) (by omega) (by omega) h5 m_up_s (fun i hi => by omega) (fun i hi => by omega)
  have hbC := m_blankC hB hz h5 z 0 4096 (by omega) (by omega)
  rw [Nat.sub_zero] at z1
  have hadd := m_addE (tp := tp) (tk := tk') (ts := ts') (tl := tl') (tv := tv') (tg := tg') (p := p) z6 z3 (show (if z ≤ p then 0 else 1) = 0 ∨ (if z ≤ p then 0 else 1) = 1 by by_cases h : z ≤ p <;> simp [h])
  refine ⟨n, q_up tk' 6 (nI (n + 1)), q_up ts' n (nI p), q_up tl' n 0, q_up tv' n 0, q_up tg' n (some (if z ≤ p then 0 else 1)), kn', mf', mm', mr', me', ?_, ?_, z3, fun i hi => m_T1_congr (z7 i hi) (fun j hj => ⟨m_up_n (by omega), m_up_n (by omega), m_up_n (by omega)⟩) ⟨m_up_n (by omega), rfl, rfl, rfl⟩, ⟨if z ≤ p then 0 else 1, p, by by_cases h : z ≤ p <;> simp [h], z4, m_up_s, m_up_s, z9, y1⟩, (m_up_n (by decide)).trans z5, m_up_s, z8⟩
  · unfold f_X11_split f_X11_behindBlanks
    rw [show (0 : Int32) = nI 0 from rfl, show q_up (q_up tk 5 (nI z)) 6 (nI 0) = q_up (q_up tk 5 (nI z)) 6 0 from rfl, hbC, Option.bind_some, Option.bind_some, z1, Option.bind_some, show nI 0 = (0 : Int32) from rfl]
    dsimp only
    by_cases h : z ≤ p
    · rw [if_pos h] at hadd
      have hle : tk' 5 ≤ nI p := by rw [z5]; exact nI_le h (by omega)
      by_cases hf : fl = 0
      · rw [if_pos hf, if_pos hle, hadd, if_pos h]; rfl
      · rw [if_neg hf, if_pos hle, hadd, if_pos h]; rfl
    · rw [if_neg h] at hadd
      have hle : ¬ tk' 5 ≤ nI p := by rw [z5]; exact nI_ge (by omega) (by omega)
      by_cases hf : fl = 0
      · rw [if_pos hf, if_neg hle, hadd, if_neg h]; rfl
      · rw [if_neg hf, if_neg hle, hadd, if_neg h]; rfl
  · unfold f_X15_cut
    rw [show (0 : Int32) = nI 0 from rfl, z2, Option.bind_some]
    by_cases hf : fr = 0
    · rw [if_pos hf]
    · rw [if_neg hf]
end
