/-! MATH: the readers of sums and tests go along, whatever their depth -/
theorem m_knot {tp mt tk ts tl tv kn mf mm hn : m_Rr} {z n : Nat} {tg : Nat → Option Nat} {V0 : m_V} {W : m_Rr × m_Rr × m_Rr × m_Rr × m_Rr} {Z : m_Z} {H : Nat} (hF : m_TF tp mt z n tk tg ts tl tv kn mf mm) : ∀ N dp, dp ≤ 8 → 10 ≤ dp + N → m_PP mt kn mf mm n tk tg tv hn V0 W Z H dp (k_C N).1 (k_P N).1 ∧ m_PP mt kn mf mm n tk tg tv hn V0 W Z H dp (k_C N).2.1 (k_P N).2.1 ∧ m_PP mt kn mf mm n tk tg tv hn V0 W Z H dp (k_C N).2.2.1 (k_P N).2.2.1 ∧ m_PP mt kn mf mm n tk tg tv hn V0 W Z H dp (k_C N).2.2.2 (k_P N).2.2.2 := by
  intro N
  induction N with
  | zero => intro dp h1 h2; omega
  | succ N ih =>
    intro dp h1 h2
    have v : m_PP mt kn mf mm n tk tg tv hn V0 W Z H dp (k_C (N + 1)).1 (k_P (N + 1)).1 := m_value hF (fun h => (ih (dp + 1) (by omega) (by omega)).1) (fun h => (ih (dp + 1) (by omega) (by omega)).2.1) h1
    have s : m_PP mt kn mf mm n tk tg tv hn V0 W Z H dp (k_C (N + 1)).2.1 (k_P (N + 1)).2.1 := m_sumP hF (m_product hF v)
    have g : m_PP mt kn mf mm n tk tg tv hn V0 W Z H dp (k_C (N + 1)).2.2.1 (k_P (N + 1)).2.2.1 := m_single hF s (fun h => (ih (dp + 1) (by omega) (by omega)).2.2.1) (fun h => (ih (dp + 1) (by omega) (by omega)).2.2.2) h1
    exact ⟨v, s, g, m_tstP hF (m_both hF g)⟩
