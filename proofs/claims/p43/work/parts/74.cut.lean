/-! MATH: the tape is cut into tokens, on both sides -/
/-- the number that some digits tell -/
def m_num (f : Nat → Int32) (p : Nat) : Nat → Nat → Int32 → Int32
  | 0, _, v => v
  | n + 1, i, v => m_num f p n (i + 1) (10 * v + f (p + i) - 48)
/-- the text of a token -/
def m_tx (mt : m_Rr) (z : Nat) (ts tl : m_Rr) (i : Nat) : List Int32 := m_W (m_vR mt z) (ts i).toNatClampNeg (tl i).toNatClampNeg
/-- the i-th token, on both sides -/
def m_T1 (mt : m_Rr) (z : Nat) (tg : Nat → Option Nat) (ts tl tv kn mf mm : m_Rr) (i : Nat) : Prop :=
  ∃ s p len, tg i = some s ∧ (s = 2 ∨ s = 3 ∨ (5 ≤ s ∧ s < 49)) ∧ p + len ≤ z ∧ 1 ≤ len ∧ len ≤ 10 ∧ ts i = nI p ∧ mf i = nI p ∧ tl i = nI len ∧ mm i = nI len ∧ kn i = m_kd s ∧
  (s = 2 → (∀ j, j < len → m_iD (m_vR mt z (p + j)) = true) ∧ tv i = m_num (m_vR mt z) p len 0 0) ∧ (s = 3 → (∀ j, j < len → m_pW mt z (p + j) = true) ∧ ∃ k, k ≤ i ∧ tv i = nI k ∧ tg k = some 3 ∧ m_tx mt z ts tl k = m_tx mt z ts tl i ∧ ∀ j, j < k → tg j = some 3 → m_tx mt z ts tl j ≠ m_tx mt z ts tl i)
theorem m_tx_eq {mt : m_Rr} {z : Nat} {ts tl : m_Rr} {i p len : Nat} (h1 : ts i = nI p) (h2 : tl i = nI len) (hp : p < 2 ^ 31) (hl : len < 2 ^ 31) : m_tx mt z ts tl i = m_W (m_vR mt z) p len := by
  unfold m_tx
  rw [h1, h2, nI_clamp hp, nI_clamp hl]
section
variable {tp mt tk md : m_Rr} {z : Nat}
theorem m_W_vv (hB : m_By tp mt) (hz : z ≤ 2000) {p len : Nat} (h : ∀ j, j < len → m_pW mt z (p + j) = true) : m_W (m_vC mt z) p len = m_W (m_vR mt z) p len := m_W_congr (fun i hi => by
  have := h i hi
  unfold m_pW at this
  exact ((m_vk hB hz (p + i)).2.2.2.2 (Bool.or_eq_true_iff.mp this)).1)
theorem m_sameL (hB : m_By tp mt) (hz : z ≤ 2000) (hk : tk 5 = nI z) {a b len : Nat} (ha : a + len < 2 ^ 30) (hb : b + len < 2 ^ 30) : ∀ (n i fu : Nat), i + n = len → n < fu → f_X11_isSame_L2 tp tk (nI a) (nI b) (nI len) fu (nI i) = some (if m_eqW (fun j => m_vC mt z (a + j)) (fun j => m_vC mt z (b + j)) n i = true then 0 else 1) := by
  intro n
  induction n with
  | zero =>
    intro i fu hi hfu
    obtain ⟨fu, rfl⟩ : ∃ z, fu = z + 1 := ⟨fu - 1, by omega⟩
    rw [f_X11_isSame_L2, if_pos (nI_le (by omega) (by omega)), m_eqW, if_pos rfl]
  | succ n ih =>
    intro i fu hi hfu
    obtain ⟨fu, rfl⟩ : ∃ z, fu = z + 1 := ⟨fu - 1, by omega⟩
    rw [f_X11_isSame_L2, if_neg (nI_ge (by omega) (by omega)), nI_add, nI_add, m_atC hB hz hk (by omega), Option.bind_some, m_atC hB hz hk (by omega), Option.bind_some, nI_1, m_eqW]
    by_cases h : m_vC mt z (a + i) = m_vC mt z (b + i)
    · rw [if_pos h, ih (i + 1) fu (by omega) (by omega), decide_eq_true h, Bool.true_and]
    · rw [if_neg h, decide_eq_false h, Bool.false_and, if_neg (by decide)]
theorem m_sameC (hB : m_By tp mt) (hz : z ≤ 2000) (hk : tk 5 = nI z) {a b len : Nat} (ha : a + len < 2 ^ 30) (hb : b + len < 2 ^ 30) (hl : len < 4096) : f_X11_isSame tp tk (nI a) (nI b) (nI len) = some (decide (m_W (m_vC mt z) a len = m_W (m_vC mt z) b len)) := by
  have e := m_sameL hB hz hk ha hb len 0 4096 (by omega) hl
  unfold f_X11_isSame
  rw [show (0 : Int32) = nI 0 from rfl, e, Option.bind_some]
  by_cases h : m_eqW (fun j => m_vC mt z (a + j)) (fun j => m_vC mt z (b + j)) len 0 = true
  · have h2 : m_W (m_vC mt z) a len = m_W (m_vC mt z) b len := m_W_congr (fun i hi => m_eqW_iff.mp h i (by omega) (by omega))
    rw [if_pos h, if_pos rfl, decide_eq_true h2]
  · have h2 : ¬ m_W (m_vC mt z) a len = m_W (m_vC mt z) b len := fun h3 => h (m_eqW_iff.mpr (fun i _ hi => by
      have := (m_W_eq.mp h3).2 i (by omega)
      rw [m_W_get (by omega)] at this
      exact this.symm))
    rw [if_neg h, if_neg (by decide), decide_eq_false h2]
theorem m_numC (hB : m_By tp mt) (hz : z ≤ 2000) (hk : tk 5 = nI z) {p len : Nat} (hp : p + len < 2 ^ 30) (hd : ∀ j, j < len → m_iD (m_vR mt z (p + j)) = true) : ∀ (n i fu : Nat) (v : Int32), i + n = len → n < fu → f_X11_numberAt_L4 tp tk (nI p) (nI len) fu v (nI i) = some (m_num (m_vR mt z) p n i v) := by
  intro n
  induction n with
  | zero =>
    intro i fu v hi hfu
    obtain ⟨fu, rfl⟩ : ∃ z, fu = z + 1 := ⟨fu - 1, by omega⟩
    rw [f_X11_numberAt_L4, if_pos (nI_le (by omega) (by omega)), m_num]
  | succ n ih =>
    intro i fu v hi hfu
    obtain ⟨fu, rfl⟩ : ∃ z, fu = z + 1 := ⟨fu - 1, by omega⟩
    rw [f_X11_numberAt_L4, if_neg (nI_ge (by omega) (by omega)), nI_add, m_atC hB hz hk (by omega), Option.bind_some, nI_1, ((m_vk hB hz (p + i)).2.2.2.2 (Or.inr (hd i (by omega)))).1, ih (i + 1) fu _ (by omega) (by omega), m_num, Int32.mul_comm v 10]
theorem m_numR (hB : m_By tp mt) (hz : z ≤ 2000) {mf mm : m_Rr} {k p len : Nat} (hk : k < 401) (h1 : mf k = nI p) (h2 : mm k = nI len) (hp : p + len ≤ z) : ∀ (n i fu : Nat) (v : Int32), i + n = len → n < fu → f_X15_numberAt_L4 mt mf mm (nI k) fu v (nI i) = some (m_num (m_vR mt z) p n i v) := by
  intro n
  induction n with
  | zero =>
    intro i fu v hi hfu
    obtain ⟨fu, rfl⟩ : ∃ z, fu = z + 1 := ⟨fu - 1, by omega⟩
    rw [f_X15_numberAt_L4, q_ix_nI hk (by decide), Option.bind_some, h2, if_pos (nI_le (by omega) (by omega)), m_num]
  | succ n ih =>
    intro i fu v hi hfu
    obtain ⟨fu, rfl⟩ : ∃ z, fu = z + 1 := ⟨fu - 1, by omega⟩
    have hv : mt (p + i) = m_vR mt z (p + i) := by
      rcases m_ch_le hB hz (p + i) with ⟨h3, h4, h5, h6⟩ | ⟨h3, -⟩
      · rw [h5]; unfold m_vR; rw [if_neg (by omega), ← h5]
      · omega
    rw [f_X15_numberAt_L4, q_ix_nI hk (by decide), Option.bind_some, h2, if_neg (nI_ge (by omega) (by omega)), Option.bind_some, h1, nI_add, q_ix_nI (by omega) (by decide), Option.bind_some, nI_1, hv, ih (i + 1) fu _ (by omega) (by omega), m_num]
/-- the first token with this text, of those before the n-th; or the n-th -/
theorem m_likeL (hB : m_By tp mt) (hz : z ≤ 2000) (hk : tk 5 = nI z) {tg : Nat → Option Nat} {ts tl : m_Rr} {n p len : Nat} (hn : n ≤ 400) (h6 : tk 6 = nI n) (hp : p + len ≤ z) (hl : len ≤ 10) (hw : ∀ j, j < len → m_pW mt z (p + j) = true)
    (hT : ∀ i, i < n → ∃ s q l, tg i = some s ∧ ts i = nI q ∧ tl i = nI l ∧ q + l ≤ z ∧ l ≤ 10 ∧ (s = 3 → ∀ j, j < l → m_pW mt z (q + j) = true)) : ∀ (k i fu : Nat), i + k = n → k < fu → (∀ j, j < i → tg j = some 3 → m_tx mt z ts tl j ≠ m_W (m_vR mt z) p len) →
    (∃ j, j < n ∧ f_X11_firstLike_L2 tp tk ts tl tg (nI p) (nI len) fu (nI i) = some (1, nI j) ∧ tg j = some 3 ∧ m_tx mt z ts tl j = m_W (m_vR mt z) p len ∧ ∀ u, u < j → tg u = some 3 → m_tx mt z ts tl u ≠ m_W (m_vR mt z) p len) ∨ (f_X11_firstLike_L2 tp tk ts tl tg (nI p) (nI len) fu (nI i) = some (0, 0) ∧ ∀ u, u < n → tg u = some 3 → m_tx mt z ts tl u ≠ m_W (m_vR mt z) p len) := by
  intro k
  induction k with
  | zero =>
    intro i fu hi hfu hno
    obtain ⟨fu, rfl⟩ : ∃ z, fu = z + 1 := ⟨fu - 1, by omega⟩
    obtain rfl : i = n := by omega
    refine Or.inr ⟨?_, hno⟩
    rw [f_X11_firstLike_L2, h6, if_pos (nI_le (by omega) (by omega))]
  | succ k ih =>
    intro i fu hi hfu hno
    obtain ⟨fu, rfl⟩ : ∃ z, fu = z + 1 := ⟨fu - 1, by omega⟩
    obtain ⟨s, q, l, t1, t2, t3, t4, t5, t6⟩ := hT i (by omega)
    have e0 : f_X11_firstLike_L2 tp tk ts tl tg (nI p) (nI len) (fu + 1) (nI i) = if s = 3 then (if ¬ (tl i) = nI len then f_X11_firstLike_L2 tp tk ts tl tg (nI p) (nI len) fu (nI (i + 1)) else (f_X11_isSame tp tk (ts i) (nI p) (nI len)).bind fun r => if (q_bz r) = 0 then f_X11_firstLike_L2 tp tk ts tl tg (nI p) (nI len) fu (nI (i + 1)) else some (1, nI i)) else f_X11_firstLike_L2 tp tk ts tl tg (nI p) (nI len) fu (nI (i + 1)) := by
      rw [f_X11_firstLike_L2, h6, if_neg (nI_ge (by omega) (by omega)), if_neg (show ¬ (400 : Int32) < nI i from m_nlt (a := 400) (b := i) (by omega) (by decide)), q_ix_nI (by omega) (by decide), Option.bind_some, t1, nI_1]
      show (if s = 3 then _ else _) = _
      by_cases hs : s = 3
      · rw [if_pos hs, if_pos hs]
        by_cases h : tl i = nI len
        · rw [Option.bind_some, if_neg (show ¬ ¬ tl i = nI len from fun z => z h), if_neg (show ¬ ¬ tl i = nI len from fun z => z h)]; rfl
        · rw [Option.bind_some, if_pos h, if_pos h]; rfl
      · rw [if_neg hs, if_neg hs]; rfl
    have next : (tg i = some 3 → m_tx mt z ts tl i ≠ m_W (m_vR mt z) p len) → _ := fun h => ih (i + 1) fu (by omega) (by omega) (fun j hj h3 => by
      by_cases hji : j = i
      · rw [hji] at h3 ⊢; exact h h3
      · exact hno j (by omega) h3)
    have htx := m_tx_eq (mt := mt) (z := z) t2 t3 (by omega) (by omega)
    rw [e0]
    by_cases hs : s = 3
    · rw [if_pos hs]
      subst hs
      by_cases hl2 : l = len
      · subst hl2
        rw [t3, if_neg (fun z => z rfl), t2, m_sameC hB hz hk (by omega) (by omega) (by omega), Option.bind_some, m_W_vv hB hz (t6 rfl), m_W_vv hB hz hw]
        by_cases he : m_W (m_vR mt z) q l = m_W (m_vR mt z) p l
        · rw [decide_eq_true he, if_neg (by decide)]
          exact Or.inl ⟨i, by omega, rfl, t1, by rw [htx]; exact he, hno⟩
        · rw [decide_eq_false he, if_pos (by decide)]
          exact next (fun _ h => he (by rw [← htx]; exact h))
      · rw [t3, if_pos (fun h => hl2 ((nI_eq (by omega) (by omega)).mp h))]
        refine next (fun _ h => hl2 ?_)
        rw [htx] at h
        have := congrArg List.length h
        rwa [m_W_len, m_W_len] at this
    · rw [if_neg hs]
      refine next (fun h => ?_)
      rw [t1] at h
      exact absurd (Option.some.inj h) hs
end
