/-! MATH: the reference's second pass goes along with the first; the state of reading -/
abbrev m_V : Type := m_Rr × m_Rr × m_Rr × m_Rr × m_Rr × m_Rr
abbrev m_PX : Type := m_Rr × m_Rr × m_Rr × (Nat → Option Nat)
abbrev m_PY : Type := m_Rr × m_Rr × m_Rr × m_Rr × m_Rr
/-- what a token tells: meant, the plan's numbers, does one other rope -/
def m_eo (mt kn mf mm mr : m_Rr) (V : m_V) (i : Nat) : Option (Int32 × m_V) := f_X15_errorOf mt kn mf mm mr V.1 V.2.1 V.2.2.1 V.2.2.2.1 V.2.2.2.2.1 V.2.2.2.2.2 (nI i)
/-- the first t tokens: the error and where it is, and what they told -/
def m_p2 (mt kn mf mm mr : m_Rr) (V0 : m_V) : Nat → Option (Int32 × Nat × m_V)
  | 0 => some (0, 0, V0)
  | t + 1 => (m_p2 mt kn mf mm mr V0 t).bind fun r => if r.1 = 0 then (m_eo mt kn mf mm mr r.2.2 t).bind fun q => if q.1 = 0 then some (0, 0, q.2) else some (q.1, t, q.2) else some r
theorem m_told_congr {mt mf mm mr mr' : m_Rr} {i : Nat} (hi : i < 2 ^ 20) (h : ∀ j, j ≤ i → mr' j = mr j) {v : Int32} : ∀ (fu k : Nat) (x : Int32), k ≤ i → f_X15_told_L4 mt mf mm mr' (nI i) v fu x (nI k) = f_X15_told_L4 mt mf mm mr (nI i) v fu x (nI k) := by
  intro fu
  induction fu with
  | zero => intro k x hk; rfl
  | succ fu ih =>
    intro k x hk
    rw [f_X15_told_L4, f_X15_told_L4]
    by_cases e : k = i
    · rw [e, if_pos (nI_le (Nat.le_refl _) (by omega)), if_pos (nI_le (Nat.le_refl _) (by omega))]
    · rw [if_neg (nI_ge (by omega) (by omega)), if_neg (nI_ge (by omega) (by omega)), nI_1]
      by_cases hk4 : k < 401
      · rw [q_ix_nI hk4 (by decide), Option.bind_some, Option.bind_some, h k hk, ih (k + 1) _ (by omega), ih (k + 1) _ (by omega)]
      · have : q_ix (nI k) 401 = none := by
          unfold q_ix
          rw [nI_clamp (by omega), if_neg (fun hh => by omega)]
        rw [this]; rfl
theorem m_eo_congr {mt kn mf mm mr mr' : m_Rr} {V : m_V} {i : Nat} (hi : i < 401) (h : ∀ j, j ≤ i → mr' j = mr j) : m_eo mt kn mf mm mr' V i = m_eo mt kn mf mm mr V i := by
  have ht : ∀ v, f_X15_told mt mf mm mr' (nI i) v = f_X15_told mt mf mm mr (nI i) v := fun v => by
    unfold f_X15_told
    rw [show (0 : Int32) = nI 0 from rfl, m_told_congr (by omega) h 4096 0 _ (by omega)]
  have hii := h i (Nat.le_refl _)
  have q : q_ix (nI i) 401 = some i := q_ix_nI hi (by decide)
  unfold m_eo f_X15_errorOf f_X15_newHook f_X15_isNew f_X15_ofStep f_X15_look f_X15_number
  simp only [q, Option.bind_some, hii, ht]
theorem m_p2_congr {mt kn mf mm mr mr' : m_Rr} {V0 : m_V} : ∀ {t : Nat}, t < 401 → (∀ j, j < t → mr' j = mr j) → m_p2 mt kn mf mm mr' V0 t = m_p2 mt kn mf mm mr V0 t := by
  intro t
  induction t with
  | zero => intro _ _; rfl
  | succ t ih =>
    intro ht h
    rw [m_p2, m_p2, ih (by omega) (fun j hj => h j (by omega))]
    congr 1
    funext r
    rw [m_eo_congr (by omega) (fun j hj => h j (by omega))]
theorem m_p2_err {mt kn mf mm mr : m_Rr} {V0 V : m_V} {t j : Nat} {e : Int32} (h : m_p2 mt kn mf mm mr V0 t = some (e, j, V)) (he : e ≠ 0) : m_p2 mt kn mf mm mr V0 (t + 1) = some (e, j, V) := by
  rw [m_p2, h, Option.bind_some, if_neg he]
theorem m_p2_ok {mt kn mf mm mr : m_Rr} {V0 V V' : m_V} {t j : Nat} (h : m_p2 mt kn mf mm mr V0 t = some (0, j, V)) (he : m_eo mt kn mf mm mr V t = some (0, V')) : m_p2 mt kn mf mm mr V0 (t + 1) = some (0, 0, V') := by
  rw [m_p2, h, Option.bind_some, if_pos rfl, he, Option.bind_some, if_pos rfl]
theorem m_p2_bad {mt kn mf mm mr : m_Rr} {V0 V V' : m_V} {t j : Nat} {e : Int32} (h : m_p2 mt kn mf mm mr V0 t = some (0, j, V)) (he : m_eo mt kn mf mm mr V t = some (e, V')) (h0 : e ≠ 0) : m_p2 mt kn mf mm mr V0 (t + 1) = some (e, t, V') := by
  rw [m_p2, h, Option.bind_some, if_pos rfl, he, Option.bind_some, if_neg h0]
/-- a token without a part in the pass -/
theorem m_eo_0 {mt kn mf mm mr : m_Rr} {V : m_V} {i : Nat} (hi : i < 401) (h : mr i = 0) : m_eo mt kn mf mm mr V i = some (0, V) := by
  unfold m_eo f_X15_errorOf
  rw [q_ix_nI hi (by decide), Option.bind_some, if_pos h]
/-- where a name in a sum or test stands for a hook: the code as it will be -/
def m_Pt (vpc pc pw ve : m_Rr) (op cs t : Nat) : Prop :=
  (∀ o, o < op → ∃ j x, pw o = nI j ∧ j < cs ∧ pc j = nI x ∧ x < t ∧ vpc j = ve x) ∧ (∀ o o', o < o' → o' < op → pw o ≠ pw o') ∧ (∀ j, j < cs → (∀ o, o < op → pw o ≠ nI j) → vpc j = pc j)
abbrev m_N (H : Nat) (vpc : m_Rr) : Nat → Nat → Prop := fun j g => g < H ∧ vpc j = nI g
theorem m_O_pc {H H' : Nat} {pc pc' : m_Rr} {d : Nat} {n n' : Int32} {a e t u : Nat} (h : m_O (m_N H pc) pc d n a e t u) (hn : n' = n) (hH : H ≤ H') (h1 : ∀ j, a ≤ j → j < e → pc' j = pc j) : m_O (m_N H' pc') pc' d n' a e t u := by
  subst hn
  have hlt := (m_O_e h).1
  have e0 : pc' a = pc a := h1 a (Nat.le_refl _) hlt
  unfold m_O m_N at h ⊢
  rw [e0]
  rcases h with ⟨x1, x2, x3, x4, x5⟩ | ⟨x1, x2, x3⟩ | ⟨x1, x2, ⟨g, y1, y2, y3, y4⟩, x3⟩ | ⟨x1, x2, x3, x4, h, g, y1, y2, y3, ⟨y4, y5⟩, ⟨y6, y7⟩⟩ | ⟨x1, x2, x3, x4⟩ | ⟨x1, x2, x3, x4⟩
  · exact Or.inl ⟨x1, x2, x3, by rw [h1 (a + 1) (by omega) (by omega)]; exact x4, x5⟩
  · exact Or.inr (Or.inl ⟨x1, x2, x3⟩)
  · exact Or.inr (Or.inr (Or.inl ⟨x1, x2, ⟨g, y1, y2, by omega, by rw [h1 (a + 1) (by omega) (by omega)]; exact y4⟩, x3⟩))
  · exact Or.inr (Or.inr (Or.inr (Or.inl ⟨x1, x2, x3, x4, h, g, y1, y2, y3, ⟨by omega, by rw [h1 (a + 1) (by omega) (by omega)]; exact y5⟩, ⟨by omega, by rw [h1 (a + 2) (by omega) (by omega)]; exact y7⟩⟩)))
  · exact Or.inr (Or.inr (Or.inr (Or.inr (Or.inl ⟨x1, x2, x3, x4⟩))))
  · exact Or.inr (Or.inr (Or.inr (Or.inr (Or.inr ⟨x1, x2, x3, x4⟩))))
theorem m_Cd_pc {H H' : Nat} {od od' : Nat → Option Nat} {nu nu' pc pc' : m_Rr} : ∀ {n i a t b u : Nat}, m_Cd (m_N H pc) od nu pc n i a t b u → H ≤ H' → (∀ j, i ≤ j → j < i + n → od' j = od j ∧ nu' j = nu j) → (∀ j, a ≤ j → j < b → pc' j = pc j) → m_Cd (m_N H' pc') od' nu' pc' n i a t b u := by
  intro n
  induction n with
  | zero => intro i a t b u h _ _ _; exact h
  | succ n ih =>
    intro i a t b u h hH h1 h2
    obtain ⟨d, e, v, x1, x2, x3⟩ := h
    have hb := (m_Cd_b x3).1
    have he := (m_O_e x2).1
    exact ⟨d, e, v, (h1 i (Nat.le_refl _) (by omega)).1.trans x1, m_O_pc x2 (h1 i (Nat.le_refl _) (by omega)).2 hH (fun j h3 h4 => h2 j h3 (by omega)), ih x3 hH (fun j h3 h4 => h1 j (by omega) (by omega)) (fun j h3 h4 => h2 j (by omega) h4)⟩
abbrev m_Z : Type := (Nat → Option Nat) × m_Rr × m_Rr × Prop
/-- orders and code from i0 and a0 on; what is before stays -/
def m_Ce (Z : m_Z) (H : Nat) (qd : Nat → Option Nat) (qu vpc : m_Rr) (c i0 a0 cs u : Nat) : Prop := m_Cd (m_N H vpc) qd qu vpc c i0 a0 0 cs u ∧ (∀ i, i < i0 → qd i = Z.1 i ∧ qu i = Z.2.1 i) ∧ (∀ j, j < a0 → vpc j = Z.2.2.1 j) ∧ Z.2.2.2
theorem m_Ce_pc {Z : m_Z} {H c i0 a0 cs u : Nat} {qd : Nat → Option Nat} {qu vpc v' : m_Rr} (h : m_Ce Z H qd qu vpc c i0 a0 cs u) (ha : a0 ≤ cs) (h1 : ∀ j, j < cs → v' j = vpc j) : m_Ce Z H qd qu v' c i0 a0 cs u :=
  ⟨m_Cd_pc h.1 (Nat.le_refl _) (fun j q1 q2 => ⟨rfl, rfl⟩) (fun j q1 q2 => h1 j q2), h.2.1, fun j hj => (h1 j (by omega)).trans (h.2.2.1 j hj), h.2.2.2⟩
/-- one more order of the class, where the words are there -/
theorem m_Ce_one {Z : m_Z} {H i0 a0 u : Nat} {qu : m_Rr} {qd : Nat → Option Nat} {vpc : m_Rr} {oc cs e v d : Nat} {w : Int32} (hi : i0 ≤ oc) (h : m_Ce Z H qd qu vpc (oc - i0) i0 a0 cs u) (hO : m_O (m_N H vpc) vpc d w cs e u v) : m_Ce Z H (q_up qd oc (some d)) (q_up qu oc w) vpc (oc + 1 - i0) i0 a0 e v := by
  refine ⟨?_, fun i hi' => ⟨(m_up_n (by omega)).trans (h.2.1 i hi').1, (m_up_n (by omega)).trans (h.2.1 i hi').2⟩, h.2.2⟩
  rw [show oc + 1 - i0 = (oc - i0) + 1 by omega]
  refine m_Cd_snoc (m_Cd_pc h.1 (Nat.le_refl _) (fun j q1 q2 => ⟨m_up_n (by omega), m_up_n (by omega)⟩) (fun j q1 q2 => rfl)) (d := d) ?_ ?_
  · rw [show i0 + (oc - i0) = oc by omega]; exact m_up_s
  · rw [show i0 + (oc - i0) = oc by omega, m_up_s]; exact hO
/-- the state of reading in a sum or a test, t tokens behind. X: plan numbers, order numbers, reader, orders; Y: model, roles, plan, code, open places -/
def m_PS (mt kn mf mm : m_Rr) (n : Nat) (tg : Nat → Option Nat) (tv hn : m_Rr) (V0 : m_V) (W : m_Rr × m_Rr × m_Rr × m_Rr × m_Rr) (Z : m_Z) (H k i0 a0 u t : Nat) (X : m_PX) (Y : m_PY) : Prop :=
  t ≤ n ∧ X.2.2.1 3 = nI t ∧ Y.1 9 = nI t ∧ (∀ i, t ≤ i → i ≤ n → Y.2.1 i = 0) ∧ H ≤ 6 ∧ X.1 3 = nI H ∧
  ∃ oc cs op, X.1 5 = nI oc ∧ oc + 2 + k ≤ t ∧ Y.2.2.1 14 = nI cs ∧ cs + 4 + 2 * k ≤ 2 * t ∧ Y.2.2.1 16 = nI op ∧ op + 2 + k ≤ t ∧ i0 ≤ oc ∧ a0 ≤ cs ∧
   ((X.2.2.1 4 ≠ 0 ∧ X.2.2.1 4 ≠ 1 ∧ ∃ j V, m_p2 mt kn mf mm Y.2.1 V0 t = some (X.2.2.1 4, j, V) ∧ X.2.2.1 5 = nI j ∧ j < t) ∨
    (X.2.2.1 4 = 0 ∧ ∃ ve vpc, m_p2 mt kn mf mm Y.2.1 V0 t = some (0, 0, (ve, W)) ∧ m_Hk tg tv hn Y.2.1 t H ∧ m_Pt vpc Y.2.2.2.1 Y.2.2.2.2 ve op cs t ∧ m_Ce Z H X.2.2.2 X.2.1 vpc (oc - i0) i0 a0 cs u))
def m_Bad (n : Nat) (X : m_PX) (Y : m_PY) : Prop := X.2.2.1 4 = 1 ∧ ∃ t, t ≤ n ∧ X.2.2.1 5 = nI t ∧ Y.1 9 = nI t
def m_Fr (X : m_PX) (Y : m_PY) (X' : m_PX) (Y' : m_PY) : Prop := (∀ j, j ≠ 5 → X'.1 j = X.1 j) ∧ (∀ j, j ≠ 9 → j ≠ 10 → Y'.1 j = Y.1 j) ∧ (∀ j, j ≠ 14 → j ≠ 16 → Y'.2.2.1 j = Y.2.2.1 j)
theorem m_Fr_r {X : m_PX} {Y : m_PY} : m_Fr X Y X Y := ⟨fun _ _ => rfl, fun _ _ _ => rfl, fun _ _ _ => rfl⟩
theorem m_Fr_t {X X1 X2 : m_PX} {Y Y1 Y2 : m_PY} (h1 : m_Fr X Y X1 Y1) (h2 : m_Fr X1 Y1 X2 Y2) : m_Fr X Y X2 Y2 :=
  ⟨fun j h => (h2.1 j h).trans (h1.1 j h), fun j h h' => (h2.2.1 j h h').trans (h1.2.1 j h h'), fun j h h' => (h2.2.2 j h h').trans (h1.2.2 j h h')⟩
/-- no token more, and fewer asked for behind -/
theorem m_PS_k {mt kn mf mm : m_Rr} {n : Nat} {tg : Nat → Option Nat} {tv hn : m_Rr} {V0 : m_V} {W : m_Rr × m_Rr × m_Rr × m_Rr × m_Rr} {Z : m_Z} {H k k' i0 a0 u t : Nat} {X : m_PX} {Y : m_PY} (h : m_PS mt kn mf mm n tg tv hn V0 W Z H k i0 a0 u t X Y) (hk : k' ≤ k) : m_PS mt kn mf mm n tg tv hn V0 W Z H k' i0 a0 u t X Y := by
  obtain ⟨h1, h2, h3, h4, h5, h6, oc, cs, op, a1, a2, a3, a4, a5, a6, a7⟩ := h
  exact ⟨h1, h2, h3, h4, h5, h6, oc, cs, op, a1, by omega, a3, by omega, a5, by omega, a7⟩
theorem m_PS_n1 {mt kn mf mm : m_Rr} {n : Nat} {tg : Nat → Option Nat} {tv hn : m_Rr} {V0 : m_V} {W : m_Rr × m_Rr × m_Rr × m_Rr × m_Rr} {Z : m_Z} {H k i0 a0 u t : Nat} {X : m_PX} {Y : m_PY} (h : m_PS mt kn mf mm n tg tv hn V0 W Z H k i0 a0 u t X Y) : X.2.2.1 4 ≠ 1 := by
  obtain ⟨h1, h2, h3, h4, h5, h6, oc, cs, op, a1, a2, a3, a4, a5, a6, a7, a8, h7⟩ := h
  rcases h7 with ⟨b1, b2, -⟩ | ⟨b1, -⟩
  · exact b2
  · rw [b1]; decide
/-- one token more, without a part in the pass -/
theorem m_adv {mt kn mf mm : m_Rr} {n : Nat} {tg : Nat → Option Nat} {tv hn : m_Rr} {V0 : m_V} {W : m_Rr × m_Rr × m_Rr × m_Rr × m_Rr} {Z : m_Z} {H k i0 a0 u t : Nat} {X : m_PX} {Y : m_PY} (hn4 : n ≤ 400) (h : m_PS mt kn mf mm n tg tv hn V0 W Z H k i0 a0 u t X Y) (ht : t < n) {md' : m_Rr} (hmd : md' 9 = nI (t + 1)) : m_PS mt kn mf mm n tg tv hn V0 W Z H (k + 1) i0 a0 u (t + 1) (X.1, X.2.1, q_up X.2.2.1 3 (nI (t + 1)), X.2.2.2) (md', Y.2) := by
  obtain ⟨h1, h2, h3, h4, h5, h6, oc, cs, op, a1, a2, a3, a4, a5, a6, a7, a8, h7⟩ := h
  have hr := h4 t (Nat.le_refl _) (by omega)
  refine ⟨by omega, by show q_up X.2.2.1 3 (nI (t + 1)) 3 = _; exact m_up_s, hmd, fun i hi => h4 i (by omega), h5, h6, oc, cs, op, a1, by omega, a3, by omega, a5, by omega, a7, a8, ?_⟩
  dsimp only
  rw [m_up_n (by decide), m_up_n (by decide)]
  rcases h7 with ⟨b1, b2, j, V, b3, b4, b5⟩ | ⟨b1, ve, vpc, b3, b4, b5, b6⟩
  · exact Or.inl ⟨b1, b2, j, V, m_p2_err b3 b1, b4, by omega⟩
  · refine Or.inr ⟨b1, ve, vpc, m_p2_ok b3 (m_eo_0 (by omega) hr), ⟨b4.1, ?_, ?_⟩, ⟨fun o ho => ?_, b5.2⟩, b6⟩
    · rw [m_hl_s, if_neg (by rw [hr]; decide)]; exact b4.2.1
    · rw [m_hl_s, if_neg (by rw [hr]; decide)]; exact b4.2.2
    · obtain ⟨j, x, x1, x2, x3, x4, x5⟩ := b5.1 o ho
      exact ⟨j, x, x1, x2, x3, by omega, x5⟩
