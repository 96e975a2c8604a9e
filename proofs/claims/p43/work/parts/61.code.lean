/-! MATH: sums and tests, carried out on both sides -/
/-- what an order of the class is in the words of the reference, from a to e; t, u: how high the stack is. N: the word at a place stands for a hook -/
def m_O (N : Nat → Nat → Prop) (pc : m_Rr) (d : Nat) (n : Int32) (a e t u : Nat) : Prop :=
  (u = t + 1 ∧ (d = 2 ∧ pc a = 32 ∧ pc (a + 1) = n ∧ e = a + 2)) ∨
  (u = t + 1 ∧ e = a + 1 ∧ ((d = 20 ∧ pc a = 16) ∨ (d = 21 ∧ pc a = 17) ∨ (d = 22 ∧ pc a = 18) ∨ (d = 23 ∧ pc a = 19) ∨ (d = 24 ∧ pc a = 20))) ∨
  (u = t + 1 ∧ e = a + 2 ∧ (∃ h, h < 6 ∧ n = nI h ∧ N (a + 1) h) ∧ ((d = 25 ∧ pc a = 5) ∨ (d = 26 ∧ pc a = 21) ∨ (d = 27 ∧ pc a = 22))) ∨
  (u = t + 1 ∧ e = a + 3 ∧ d = 28 ∧ pc a = 23 ∧ ∃ h g, h < 6 ∧ g < 6 ∧ n = nI (h * 6 + g) ∧ N (a + 1) h ∧ N (a + 2) g) ∨
  (u = t ∧ 1 ≤ t ∧ e = a + 1 ∧ ((d = 4 ∧ pc a = 33) ∨ (d = 29 ∧ pc a = 24))) ∨
  (t = u + 1 ∧ 1 ≤ u ∧ e = a + 1 ∧ ((d = 30 ∧ pc a = 25) ∨ (d = 31 ∧ pc a = 26) ∨ (d = 32 ∧ pc a = 27) ∨ (d = 33 ∧ pc a = 28) ∨ (d = 40 ∧ pc a = 34) ∨ (d = 41 ∧ pc a = 35) ∨ (d = 42 ∧ pc a = 36) ∨ (d = 43 ∧ pc a = 37) ∨ (d = 44 ∧ pc a = 38) ∨ (d = 45 ∧ pc a = 39) ∨ (d = 46 ∧ pc a = 42) ∨ (d = 47 ∧ pc a = 43) ∨ (d = 48 ∧ pc a = 44)))
/-- n orders from i on, and the words from a to b -/
def m_Cd (N : Nat → Nat → Prop) (od : Nat → Option Nat) (nu pc : m_Rr) : Nat → Nat → Nat → Nat → Nat → Nat → Prop
  | 0, _, a, t, b, u => a = b ∧ t = u
  | n + 1, i, a, t, b, u => ∃ d e v, od i = some d ∧ m_O N pc d (nu i) a e t v ∧ m_Cd N od nu pc n (i + 1) e v b u
theorem m_O_e {N : Nat → Nat → Prop} {pc : m_Rr} {d : Nat} {n : Int32} {a e t u : Nat} (h : m_O N pc d n a e t u) : a < e ∧ u ≤ t + 1 ∧ e ≤ a + 3 ∧ d < 49 := by
  unfold m_O at h
  omega
theorem m_Cd_b {N : Nat → Nat → Prop} {od : Nat → Option Nat} {nu pc : m_Rr} : ∀ {n i a t b u : Nat}, m_Cd N od nu pc n i a t b u → a + n ≤ b ∧ u ≤ t + n := by
  intro n
  induction n with
  | zero => intro i a t b u h; obtain ⟨rfl, rfl⟩ := h; omega
  | succ n ih =>
    intro i a t b u h
    obtain ⟨d, e, v, h1, h2, h3⟩ := h
    have := m_O_e h2
    have := ih h3
    omega
theorem m_Cd_snoc {N : Nat → Nat → Prop} {od : Nat → Option Nat} {nu pc : m_Rr} : ∀ {n i a t b u d e v : Nat}, m_Cd N od nu pc n i a t b u → od (i + n) = some d → m_O N pc d (nu (i + n)) b e u v → m_Cd N od nu pc (n + 1) i a t e v := by
  intro n
  induction n with
  | zero =>
    intro i a t b u d e v h h1 h2
    obtain ⟨rfl, rfl⟩ := h
    exact ⟨d, e, v, h1, h2, rfl, rfl⟩
  | succ n ih =>
    intro i a t b u d e v h h1 h2
    obtain ⟨d', e', v', x1, x2, x3⟩ := h
    exact ⟨d', e', v', x1, x2, ih x3 (by rw [show i + 1 + n = i + (n + 1) by omega]; exact h1) (by rw [show i + 1 + n = i + (n + 1) by omega]; exact h2)⟩
theorem m_Cd_app {N : Nat → Nat → Prop} {od : Nat → Option Nat} {nu pc : m_Rr} {k b u c v : Nat} : ∀ {n i a t : Nat}, m_Cd N od nu pc n i a t b u → m_Cd N od nu pc k (i + n) b u c v → m_Cd N od nu pc (n + k) i a t c v := by
  intro n
  induction n with
  | zero =>
    intro i a t h h2
    obtain ⟨rfl, rfl⟩ := h
    rw [Nat.zero_add]; exact h2
  | succ n ih =>
    intro i a t h h2
    obtain ⟨d', e', v', x1, x2, x3⟩ := h
    rw [show n + 1 + k = (n + k) + 1 by omega]
    exact ⟨d', e', v', x1, x2, ih x3 (by rw [show i + 1 + n = i + (n + 1) by omega]; exact h2)⟩
/-- what an order says is all of it -/
theorem m_O_congr {N N' : Nat → Nat → Prop} {pc pc' : m_Rr} {d : Nat} {n n' : Int32} {a e t u : Nat} (h : m_O N pc d n a e t u) (hn : n' = n) (h1 : ∀ j, a ≤ j → j < e → (∀ h, ¬ N j h) → pc' j = pc j) (h2 : ∀ j h, a ≤ j → j < e → N j h → N' j h) (h3 : ∀ h, ¬ N a h) (h4 : d = 2 → ∀ h, ¬ N (a + 1) h) : m_O N' pc' d n' a e t u := by
  subst hn
  have hlt := (m_O_e h).1
  have e0 : pc' a = pc a := h1 a (Nat.le_refl _) hlt h3
  unfold m_O at h ⊢
  rw [e0]
  rcases h with ⟨x1, x2, x3, x4, x5⟩ | ⟨x1, x2, x3⟩ | ⟨x1, x2, ⟨g, y1, y2, y3⟩, x3⟩ | ⟨x1, x2, x3, x4, h, g, y1, y2, y3, y4, y5⟩ | ⟨x1, x2, x3, x4⟩ | ⟨x1, x2, x3, x4⟩
  · exact Or.inl ⟨x1, x2, x3, by rw [h1 (a + 1) (by omega) (by omega) (h4 x2)]; exact x4, x5⟩
  · exact Or.inr (Or.inl ⟨x1, x2, x3⟩)
  · exact Or.inr (Or.inr (Or.inl ⟨x1, x2, ⟨g, y1, y2, h2 _ _ (by omega) (by omega) y3⟩, x3⟩))
  · exact Or.inr (Or.inr (Or.inr (Or.inl ⟨x1, x2, x3, x4, h, g, y1, y2, y3, h2 _ _ (by omega) (by omega) y4, h2 _ _ (by omega) (by omega) y5⟩)))
  · exact Or.inr (Or.inr (Or.inr (Or.inr (Or.inl ⟨x1, x2, x3, x4⟩))))
  · exact Or.inr (Or.inr (Or.inr (Or.inr (Or.inr ⟨x1, x2, x3, x4⟩))))
