/-! MATH: sums over the bales -/
def m_sm (p : Nat → Prop) [DecidablePred p] (f : Nat → Int32) : Nat → Int32
  | 0 => 0
  | n + 1 => m_sm p f n + (if p n then f n else 0)
theorem m_sm_congr {p q : Nat → Prop} [DecidablePred p] [DecidablePred q] {f g : Nat → Int32} : ∀ {n : Nat}, (∀ i, i < n → (p i ↔ q i)) → (∀ i, i < n → p i → f i = g i) → m_sm p f n = m_sm q g n := by
  intro n
  induction n with
  | zero => intro _ _; rfl
  | succ n ih =>
    intro h1 h2
    rw [m_sm, m_sm, ih (fun i hi => h1 i (by omega)) (fun i hi => h2 i (by omega))]
    by_cases hp : p n
    · rw [if_pos hp, if_pos ((h1 n (by omega)).mp hp), h2 n (by omega) hp]
    · rw [if_neg hp, if_neg (fun h => hp ((h1 n (by omega)).mpr h))]
/-- one more bale -/
theorem m_sm_in {p q : Nat → Prop} [DecidablePred p] [DecidablePred q] {f g : Nat → Int32} {b : Nat} (hb1 : ¬ p b) (hb2 : q b) : ∀ {n : Nat}, b < n → (∀ i, i < n → i ≠ b → (p i ↔ q i)) → (∀ i, i < n → i ≠ b → p i → f i = g i) → m_sm q g n = m_sm p f n + g b := by
  intro n
  induction n with
  | zero => intro h; omega
  | succ n ih =>
    intro hb h1 h2
    rw [m_sm, m_sm]
    by_cases hbn : b = n
    · subst hbn
      rw [if_pos hb2, if_neg hb1, m_sm_congr (p := p) (q := q) (f := f) (g := g) (fun i hi => h1 i (by omega) (by omega)) (fun i hi => h2 i (by omega) (by omega)), Int32.add_zero]
    · rw [ih (by omega) (fun i hi => h1 i (by omega)) (fun i hi => h2 i (by omega))]
      by_cases hp : p n
      · rw [if_pos hp, if_pos ((h1 n (by omega) (by omega)).mp hp), h2 n (by omega) (by omega) hp, Int32.add_assoc, Int32.add_assoc, Int32.add_comm (g b)]
      · rw [if_neg hp, if_neg (fun h => hp ((h1 n (by omega) (by omega)).mpr h)), Int32.add_zero, Int32.add_zero]
theorem m_usedL {sw ss : Nat → Int32} {w : Int32} : ∀ (n i fu : Nat), i + n = 136 → n < fu → f_X14_used_L4 sw ss w fu (m_sm (fun i => sw i = w) ss i) (nI i) = some (m_sm (fun i => sw i = w) ss 136) := by
  intro n
  induction n with
  | zero =>
    intro i fu hi hfu
    obtain rfl : i = 136 := by omega
    obtain ⟨fu, rfl⟩ : ∃ z, fu = z + 1 := ⟨fu - 1, by omega⟩
    rw [f_X14_used_L4, if_pos (show (136 : Int32) ≤ nI 136 from nI_le (Nat.le_refl _) (by decide))]
  | succ n ih =>
    intro i fu hi hfu
    obtain ⟨fu, rfl⟩ : ∃ z, fu = z + 1 := ⟨fu - 1, by omega⟩
    have e := ih (i + 1) fu (by omega) (by omega)
    rw [m_sm] at e
    rw [f_X14_used_L4, if_neg (show ¬ (136 : Int32) ≤ nI i from nI_ge (b := 136) (by omega) (by decide)), q_ix_nI (by omega) (by decide), Option.bind_some, Option.bind_some, nI_1]
    by_cases h : sw i = w
    · rw [if_neg (fun h2 => h2 h)]; rw [if_pos h] at e; exact e
    · rw [if_pos h]; rw [if_neg h] at e; exact e
theorem m_used {sw ss : Nat → Int32} {w : Int32} : f_X14_used sw ss w = some (m_sm (fun i => sw i = w) ss 136) := by
  unfold f_X14_used
  have e := m_usedL (sw := sw) (ss := ss) (w := w) 136 0 4096 (by omega) (by omega)
  rw [m_sm, show nI 0 = 0 from rfl] at e
  rw [e]; rfl
theorem m_balesL {sw : Nat → Int32} {w : Int32} : ∀ (n i fu : Nat), i + n = 136 → n < fu → f_X14_bales_L4 sw w fu (m_sm (fun i => sw i = w) (fun _ => 1) i) (nI i) = some (m_sm (fun i => sw i = w) (fun _ => 1) 136) := by
  intro n
  induction n with
  | zero =>
    intro i fu hi hfu
    obtain rfl : i = 136 := by omega
    obtain ⟨fu, rfl⟩ : ∃ z, fu = z + 1 := ⟨fu - 1, by omega⟩
    rw [f_X14_bales_L4, if_pos (show (136 : Int32) ≤ nI 136 from nI_le (Nat.le_refl _) (by decide))]
  | succ n ih =>
    intro i fu hi hfu
    obtain ⟨fu, rfl⟩ : ∃ z, fu = z + 1 := ⟨fu - 1, by omega⟩
    have e := ih (i + 1) fu (by omega) (by omega)
    rw [m_sm] at e
    rw [f_X14_bales_L4, if_neg (show ¬ (136 : Int32) ≤ nI i from nI_ge (b := 136) (by omega) (by decide)), q_ix_nI (by omega) (by decide), Option.bind_some, nI_1]
    by_cases h : sw i = w
    · rw [if_neg (fun h2 => h2 h)]; rw [if_pos h] at e; exact e
    · rw [if_pos h]; rw [if_neg h] at e; exact e
theorem m_bales {sw : Nat → Int32} {w : Int32} : f_X14_bales sw w = some (m_sm (fun i => sw i = w) (fun _ => 1) 136) := by
  unfold f_X14_bales
  have e := m_balesL (sw := sw) (w := w) 136 0 4096 (by omega) (by omega)
  rw [m_sm, show nI 0 = 0 from rfl] at e
  rw [e]; rfl
theorem m_bales_ {sw : Nat → Int32} : f_X14_bales_ sw = some (m_sm (fun i => sw i = 1) (fun _ => 1) 136 + m_sm (fun i => sw i = 2) (fun _ => 1) 136) := by
  unfold f_X14_bales_
  rw [m_bales, Option.bind_some, m_bales]; rfl
/-- the bales that no hook reaches, on both sides -/
theorem m_useless {G : Nat → Prop} {rc ld sr sd : Nat → Int32} (hG : m_G G rc ld sr sd) {nh : Nat} {hk sh mp : Nat → Int32} (hH : m_H G nh hk sh) (hp : mp 0 = nI nh) {bn lo sw : Nat → Int32} (h1 : bn 7 = m_sm (fun i => sw i = 1) (fun _ => 1) 136) (h2 : lo 2 = m_sm (fun i => sw i = 2) (fun _ => 1) 136) (li nr nd md mq mi : Nat → Int32) :
    ∃ x l li' nr' nd' md' mq' mi', f_X2_uselessCount bn rc ld lo li nr nd hk = some (x, li', nr', nd') ∧ f_X14_useless md mp mq mi sh sw sr sd = some (x, md', mq', mi') ∧ m_Q l li' nr' nd' md' mq' mi' ∧ (∀ x ∈ l, G x) ∧ m_D l nd' ∧ (∀ j, j ≠ 2 → li' j = li j) ∧ (∀ j, j ≠ 16 → md' j = md j) ∧ (∀ j, j < nh → ∀ c, c < 128 → hk j = nI c → c ∈ l) := by
  obtain ⟨l, li', nr', nd', md', mq', mi', a1, a2, a3, a4⟩ := m_reach hG hH hp li nr nd md mq mi
  refine ⟨bn 7 + lo 2 - nI l.length, l, li', nr', nd', md', mq', mi', ?_, ?_, a3, a4⟩
  · unfold f_X2_uselessCount f_X2_baleCount f_X4_length
    rw [a1, Option.bind_some, Option.bind_some, Option.bind_some, ← a3.1]
  · unfold f_X14_useless
    rw [a2, Option.bind_some, m_bales_, Option.bind_some, h1, h2, ← a3.2.1]
