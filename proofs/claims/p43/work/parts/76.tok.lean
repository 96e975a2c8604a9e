/-! MATH: a token is looked at, on both sides; names -/
/-- what is known of the tokens while they are read -/
def m_TF (tp mt : m_Rr) (z n : Nat) (tk : m_Rr) (tg : Nat → Option Nat) (ts tl tv kn mf mm : m_Rr) : Prop :=
  m_By tp mt ∧ z ≤ 2000 ∧ n ≤ 400 ∧ (∀ i, i < n → m_T1 mt z tg ts tl tv kn mf mm i) ∧ (∃ e p, (e = 0 ∨ e = 1) ∧ p ≤ z ∧ tg n = some e ∧ ts n = nI p ∧ mf n = nI p ∧ kn n = m_kd e) ∧ tk 5 = nI z ∧ tk 6 = nI (n + 1)
section
variable {tp mt tk ts tl tv kn mf mm : m_Rr} {z n : Nat} {tg : Nat → Option Nat}
theorem m_sg (hF : m_TF tp mt z n tk tg ts tl tv kn mf mm) {t : Nat} (ht : t ≤ n) : ∃ s, s < 49 ∧ tg t = some s ∧ kn t = m_kd s ∧ f_X11_sign tk tg (nI t) = some s ∧ (t < n → s = 2 ∨ s = 3 ∨ (5 ≤ s ∧ s < 49)) ∧ (t = n → s = 0 ∨ s = 1) := by
  obtain ⟨hB, hz, hn, hT, ⟨e, p, e1, e2, e3, e4, e5, e6⟩, h5, h6⟩ := hF
  have sgn : ∀ s, tg t = some s → f_X11_sign tk tg (nI t) = some s := fun s hs => by
    unfold f_X11_sign
    rw [if_neg (nI_pos (by omega)), h6, if_neg (nI_ge (by omega) (by omega)), if_neg (show ¬ (400 : Int32) < nI t from m_nlt (a := 400) (b := t) (by omega) (by decide)), q_ix_nI (by omega) (by decide), Option.bind_some, hs]; rfl
  by_cases h : t < n
  · obtain ⟨s, q, l, a1, a2, a3, a4, a5, a6, a7, a8, a9, b1, -⟩ := hT t h
    exact ⟨s, by omega, a1, b1, sgn s a1, fun _ => a2, fun h2 => by omega⟩
  · obtain rfl : t = n := by omega
    exact ⟨e, by omega, e3, e6, sgn e e3, fun h2 => absurd h2 h, fun _ => e1⟩
theorem m_tval (hF : m_TF tp mt z n tk tg ts tl tv kn mf mm) {t : Nat} (ht : t ≤ n) : f_X11_value tk tv (nI t) = some (tv t) := by
  obtain ⟨hB, hz, hn, hT, -, h5, h6⟩ := hF
  unfold f_X11_value
  rw [if_neg (nI_pos (by omega)), h6, if_neg (nI_ge (by omega) (by omega)), if_neg (show ¬ (400 : Int32) < nI t from m_nlt (a := 400) (b := t) (by omega) (by decide)), q_ix_nI (by omega) (by decide), Option.bind_some]
theorem m_tnum (hF : m_TF tp mt z n tk tg ts tl tv kn mf mm) {t : Nat} (ht : t < n) (hs : tg t = some 2) : f_X15_numberAt mt mf mm (nI t) = some (tv t) := by
  obtain ⟨hB, hz, hn, hT, -, h5, h6⟩ := hF
  obtain ⟨s, q, l, a1, a2, a3, a4, a5, a6, a7, a8, a9, b1, b2, b3⟩ := hT t ht
  obtain rfl : s = 2 := Option.some.inj (a1.symm.trans hs)
  have e := m_numR hB hz (mf := mf) (mm := mm) (k := t) (by omega) a7 a9 a3 l 0 4096 0 (by omega) (by omega)
  unfold f_X15_numberAt
  rw [show nI 0 = 0 from rfl] at e
  rw [e, (b2 rfl).2]; rfl
/-- two tokens are alike -/
theorem m_sameRL (hB : m_By tp mt) (hz : z ≤ 2000) {a b p q len : Nat} (ha : a < 401) (hb : b < 401) (h1 : mf a = nI p) (h2 : mf b = nI q) (h3 : mm a = nI len) (hp : p + len ≤ z) (hq : q + len ≤ z) : ∀ (k i fu : Nat), i + k = len → k < fu → f_X15_isSame_L13 mt mf mm (nI a) (nI b) fu (nI i) = some (if m_eqW (fun j => m_vR mt z (p + j)) (fun j => m_vR mt z (q + j)) k i = true then 0 else 1) := by
  have hv : ∀ j, j < z → mt j = m_vR mt z j := fun j hj => by
    rcases m_ch_le hB hz j with ⟨h3, h4, h5, h6⟩ | ⟨h3, -⟩
    · rw [h5]; unfold m_vR; rw [if_neg (by omega), ← h5]
    · omega
  intro k
  induction k with
  | zero =>
    intro i fu hi hfu
    obtain ⟨fu, rfl⟩ : ∃ z, fu = z + 1 := ⟨fu - 1, by omega⟩
    rw [f_X15_isSame_L13, q_ix_nI ha (by decide), Option.bind_some, h3, if_pos (nI_le (by omega) (by omega)), m_eqW, if_pos rfl]
  | succ k ih =>
    intro i fu hi hfu
    obtain ⟨fu, rfl⟩ : ∃ z, fu = z + 1 := ⟨fu - 1, by omega⟩
    rw [f_X15_isSame_L13, q_ix_nI ha (by decide), Option.bind_some, h3, if_neg (nI_ge (by omega) (by omega)), Option.bind_some, h1, nI_add, q_ix_nI (by omega) (by decide), Option.bind_some, q_ix_nI hb (by decide), Option.bind_some, h2, nI_add, q_ix_nI (by omega) (by decide), Option.bind_some, hv _ (by omega), hv _ (by omega), nI_1, m_eqW]
    by_cases h : m_vR mt z (p + i) = m_vR mt z (q + i)
    · rw [if_pos h, ih (i + 1) fu (by omega) (by omega), decide_eq_true h, Bool.true_and]
    · rw [if_neg h, decide_eq_false h, Bool.false_and, if_neg (by decide)]
theorem m_sameR (hF : m_TF tp mt z n tk tg ts tl tv kn mf mm) {a b : Nat} (ha : a < n) (hb : b < n) : f_X15_isSame mt mf mm (nI a) (nI b) = some (decide (m_tx mt z ts tl a = m_tx mt z ts tl b)) := by
  obtain ⟨hB, hz, hn, hT, -, h5, h6⟩ := hF
  obtain ⟨s, p, l, a1, a2, a3, a4, a5, a6, a7, a8, a9, -⟩ := hT a ha
  obtain ⟨s', q, l', b1, b2, b3, b4, b5, b6, b7, b8, b9, -⟩ := hT b hb
  unfold f_X15_isSame
  rw [m_tx_eq a6 a8 (by omega) (by omega), m_tx_eq b6 b8 (by omega) (by omega), q_ix_nI (by omega) (by decide), Option.bind_some, q_ix_nI (by omega) (by decide), Option.bind_some, a9, b9]
  by_cases hl : l = l'
  · subst hl
    have e := m_sameRL hB hz (a := a) (b := b) (by omega) (by omega) a7 b7 a9 a3 b3 l 0 4096 (by omega) (by omega)
    rw [show nI 0 = 0 from rfl] at e
    rw [if_pos rfl, e, Option.bind_some]
    by_cases h : m_eqW (fun j => m_vR mt z (p + j)) (fun j => m_vR mt z (q + j)) l 0 = true
    · have h2 : m_W (m_vR mt z) p l = m_W (m_vR mt z) q l := m_W_congr (fun i hi => m_eqW_iff.mp h i (by omega) (by omega))
      rw [if_pos h, if_pos rfl, decide_eq_true h2]
    · have h2 : ¬ m_W (m_vR mt z) p l = m_W (m_vR mt z) q l := fun h3 => h (m_eqW_iff.mpr (fun i _ hi => by
        have := (m_W_eq.mp h3).2 i (by omega)
        rw [m_W_get (by omega)] at this
        exact this.symm))
      rw [if_neg h, if_neg (by decide), decide_eq_false h2]
  · rw [if_neg (fun h => hl ((nI_eq (by omega) (by omega)).mp h)), decide_eq_false (fun h => hl (by
      have := congrArg List.length h
      rwa [m_W_len, m_W_len] at this))]
/-- names are alike just if their values are -/
theorem m_nameV (hF : m_TF tp mt z n tk tg ts tl tv kn mf mm) {a b : Nat} (ha : a < n) (hb : b < n) (h1 : tg a = some 3) (h2 : tg b = some 3) : tv a = tv b ↔ m_tx mt z ts tl a = m_tx mt z ts tl b := by
  obtain ⟨hB, hz, hn, hT, -, h5, h6⟩ := hF
  obtain ⟨s, p, l, a1, -, -, -, -, -, -, -, -, -, -, a3⟩ := hT a ha
  obtain ⟨s', q, l', b1, -, -, -, -, -, -, -, -, -, -, b3⟩ := hT b hb
  obtain rfl : s = 3 := Option.some.inj (a1.symm.trans h1)
  obtain rfl : s' = 3 := Option.some.inj (b1.symm.trans h2)
  obtain ⟨-, k, k1, k2, k3, k4, k5⟩ := a3 rfl
  obtain ⟨-, k', c1, c2, c3, c4, c5⟩ := b3 rfl
  constructor
  · intro h
    rw [k2, c2] at h
    obtain rfl : k = k' := (nI_eq (by omega) (by omega)).mp h
    rw [← k4, ← c4]
  · intro h
    have : k = k' := by
      rcases Nat.lt_trichotomy k k' with e | e | e
      · exact absurd (k4.trans h) (c5 k e k3)
      · exact e
      · exact absurd (c4.trans h.symm) (k5 k' e c3)
    rw [k2, c2, this]
/-- the tokens that tell hooks, of the first t -/
def m_hl (mr : m_Rr) (t : Nat) : List Nat := (List.range t).filter (fun k => decide (mr k = 1))
theorem m_hl_s {mr : m_Rr} {t : Nat} : m_hl mr (t + 1) = if mr t = 1 then m_hl mr t ++ [t] else m_hl mr t := by
  unfold m_hl
  rw [List.range_succ, List.filter_append]
  by_cases h : mr t = 1
  · rw [if_pos h]; simp [h]
  · rw [if_neg h]; simp [h]
theorem m_hl_mem {mr : m_Rr} {t k : Nat} : k ∈ m_hl mr t ↔ k < t ∧ mr k = 1 := by
  unfold m_hl
  rw [List.mem_filter, List.mem_range]; simp
theorem m_hl_congr {mr mr' : m_Rr} : ∀ {t : Nat}, (∀ k, k < t → mr' k = mr k) → m_hl mr' t = m_hl mr t := by
  intro t
  induction t with
  | zero => intro _; rfl
  | succ t ih => intro h; rw [m_hl_s, m_hl_s, h t (by omega), ih (fun k hk => h k (by omega))]
theorem m_hl_ext {mr : m_Rr} {t t' : Nat} (h : ∀ k, t ≤ k → k < t' → mr k ≠ 1) (htt : t ≤ t') : m_hl mr t' = m_hl mr t := by
  obtain ⟨d, rfl⟩ : ∃ d, t' = t + d := ⟨t' - t, by omega⟩
  clear htt
  induction d with
  | zero => rfl
  | succ d ih =>
    rw [show t + (d + 1) = (t + d) + 1 by omega, m_hl_s, if_neg (h (t + d) (by omega) (by omega)), ih (fun k h1 h2 => h k h1 (by omega))]
/-- the hooks that are told: their names as the class keeps them -/
def m_Hk (tg : Nat → Option Nat) (tv hn mr : m_Rr) (t H : Nat) : Prop := H ≤ 6 ∧ (m_hl mr t).length = H ∧ ∀ h k, (m_hl mr t)[h]? = some k → hn h = tv k ∧ tg k = some 3
/-- the first hook with a name; H if there is none -/
def m_ix (v : Int32) (hn : m_Rr) : Nat → Nat → Nat
  | 0, h => h
  | n + 1, h => if hn h = v then h else m_ix v hn n (h + 1)
theorem m_ix_le {v : Int32} {hn : m_Rr} : ∀ {n h : Nat}, h ≤ m_ix v hn n h ∧ m_ix v hn n h ≤ h + n := by
  intro n
  induction n with
  | zero => intro h; exact ⟨Nat.le_refl _, Nat.le_refl _⟩
  | succ n ih =>
    intro h
    rw [m_ix]
    have := @ih (h + 1)
    split <;> omega
theorem m_hookC {qn hn : m_Rr} {H : Nat} (hH : H ≤ 6) (h3 : qn 3 = nI H) (v : Int32) : f_X7_hookNamed qn hn v = some (if m_ix v hn H 0 = H then -1 else nI (m_ix v hn H 0)) := by
  have loop : ∀ (k h fu : Nat), h + k = H → k < fu → f_X7_hookNamed_L2 qn hn v fu (nI h) = some (if m_ix v hn k h = H then (0, 0) else (1, nI (m_ix v hn k h))) := by
    intro k
    induction k with
    | zero =>
      intro h fu hk hfu
      obtain ⟨fu, rfl⟩ : ∃ z, fu = z + 1 := ⟨fu - 1, by omega⟩
      rw [f_X7_hookNamed_L2, h3, if_pos (nI_le (by omega) (by omega)), m_ix, if_pos (by omega)]
    | succ k ih =>
      intro h fu hk hfu
      obtain ⟨fu, rfl⟩ : ∃ z, fu = z + 1 := ⟨fu - 1, by omega⟩
      rw [f_X7_hookNamed_L2, h3, if_neg (nI_ge (by omega) (by omega)), if_neg (show ¬ (6 : Int32) ≤ nI h from nI_ge (b := 6) (by omega) (by decide)), q_ix_nI (by omega) (by decide), Option.bind_some, nI_1, m_ix]
      by_cases e : hn h = v
      · rw [if_neg (fun z => z e), if_pos e, if_neg (by omega)]
      · rw [if_pos e, if_neg e]; exact ih (h + 1) fu (by omega) (by omega)
  unfold f_X7_hookNamed
  rw [show (0 : Int32) = nI 0 from rfl, loop H 0 4096 (by omega) (by omega), Option.bind_some]
  by_cases e : m_ix v hn H 0 = H
  · rw [if_pos e, if_pos e, if_pos rfl]
  · rw [if_neg e, if_neg e, if_neg (show ¬ (1 : Nat) = 0 by decide)]
/-- the reference finds the same hook -/
theorem m_toldR (hF : m_TF tp mt z n tk tg ts tl tv kn mf mm) {mr hn : m_Rr} {t H : Nat} (hK : m_Hk tg tv hn mr t H) (ht : t < n) (hs : tg t = some 3) : f_X15_told mt mf mm mr (nI t) 1 = some (if m_ix (tv t) hn H 0 = H then -1 else nI (m_ix (tv t) hn H 0)) := by
  obtain ⟨hH, hlen, hnm⟩ := hK
  have n400 : n ≤ 400 := hF.2.2.1
  have loop : ∀ (k i fu : Nat), i + k = t → k < fu → (∀ h, h < (m_hl mr i).length → hn h ≠ tv t) → f_X15_told_L4 mt mf mm mr (nI t) 1 fu (nI (m_hl mr i).length) (nI i) = some (if m_ix (tv t) hn (H - (m_hl mr i).length) (m_hl mr i).length = H then (0, 0) else (1, nI (m_ix (tv t) hn (H - (m_hl mr i).length) (m_hl mr i).length))) := by
    intro k
    induction k with
    | zero =>
      intro i fu hi hfu hno
      obtain ⟨fu, rfl⟩ : ∃ z, fu = z + 1 := ⟨fu - 1, by omega⟩
      obtain rfl : i = t := by omega
      rw [f_X15_told_L4, if_pos (nI_le (by omega) (by omega)), hlen, Nat.sub_self, m_ix, if_pos rfl]
    | succ k ih =>
      intro i fu hi hfu hno
      obtain ⟨fu, rfl⟩ : ∃ z, fu = z + 1 := ⟨fu - 1, by omega⟩
      rw [f_X15_told_L4, if_neg (nI_ge (by omega) (by omega)), q_ix_nI (by omega) (by decide), Option.bind_some, nI_1, nI_1]
      by_cases e : mr i = 1
      · have hs1 : m_hl mr (i + 1) = m_hl mr i ++ [i] := by rw [m_hl_s, if_pos e]
        have hpre : ∀ d, (m_hl mr (i + 1 + d))[(m_hl mr i).length]? = some i := fun d => by
          induction d with
          | zero => rw [Nat.add_zero, hs1, List.getElem?_append_right (Nat.le_refl _), Nat.sub_self]; rfl
          | succ d ihd =>
            rw [show i + 1 + (d + 1) = (i + 1 + d) + 1 by omega, m_hl_s]
            by_cases h2 : mr (i + 1 + d) = 1
            · rw [if_pos h2, List.getElem?_append_left (List.getElem?_eq_some_iff.mp ihd).1]; exact ihd
            · rw [if_neg h2]; exact ihd
        have hget := hpre (t - (i + 1))
        rw [show i + 1 + (t - (i + 1)) = t by omega] at hget
        obtain ⟨q1, q2⟩ := hnm _ _ hget
        have hlt := (List.getElem?_eq_some_iff.mp hget).1
        rw [if_pos e, m_sameR hF (by omega) ht, Option.bind_some]
        have hlen1 : (m_hl mr (i + 1)).length = (m_hl mr i).length + 1 := by rw [hs1]; simp
        by_cases hx : m_tx mt z ts tl i = m_tx mt z ts tl t
        · have hv : hn (m_hl mr i).length = tv t := q1.trans ((m_nameV hF (by omega) ht q2 hs).mpr hx)
          rw [decide_eq_true hx, if_neg (by decide)]
          have : m_ix (tv t) hn (H - (m_hl mr i).length) (m_hl mr i).length = (m_hl mr i).length := by
            rw [show H - (m_hl mr i).length = (H - (m_hl mr i).length - 1) + 1 by omega, m_ix, if_pos hv]
          rw [this, if_neg (by omega)]
        · have hv : ¬ hn (m_hl mr i).length = tv t := fun h => hx ((m_nameV hF (by omega) ht q2 hs).mp (q1.symm.trans h))
          rw [decide_eq_false hx, if_pos (by decide), ← hlen1, ih (i + 1) fu (by omega) (by omega) (fun h hh => by
            by_cases he : h = (m_hl mr i).length
            · rw [he]; exact hv
            · exact hno h (by omega))]
          have : m_ix (tv t) hn (H - (m_hl mr i).length) (m_hl mr i).length = m_ix (tv t) hn (H - (m_hl mr (i + 1)).length) (m_hl mr (i + 1)).length := by
            rw [hlen1, show H - (m_hl mr i).length = (H - ((m_hl mr i).length + 1)) + 1 by omega, m_ix, if_neg hv]
          rw [this]
      · have hs1 : m_hl mr (i + 1) = m_hl mr i := by rw [m_hl_s, if_neg e]
        rw [if_neg e]
        have := ih (i + 1) fu (by omega) (by omega) (by rw [hs1]; exact hno)
        rw [hs1] at this
        exact this
  have e := loop t 0 4096 (by omega) (by omega) (fun h hh => by
    have : (m_hl mr 0).length = 0 := rfl
    omega)
  have h0 : (m_hl mr 0).length = 0 := rfl
  rw [h0, Nat.sub_zero, show nI 0 = 0 from rfl] at e
  unfold f_X15_told
  rw [e, Option.bind_some]
  by_cases h : m_ix (tv t) hn H 0 = H
  · rw [if_pos h, if_pos h, if_pos rfl]
  · rw [if_neg h, if_neg h, if_neg (show ¬ (1 : Nat) = 0 by decide)]
end
