/-! MATH: steps, on both sides -/
abbrev m_CB : Type := m_Rr × m_Rr × m_Rr × m_Rr × m_Rr × m_Rr × m_Rr × m_Rr × m_Rr × m_Rr × m_Rr × m_Rr × m_Rr × m_Rr × m_Rr × m_Rr × m_Rr
abbrev m_SB : Type := m_Rr × m_Rr × m_Rr × m_Rr × m_Rr × m_Rr × m_Rr × m_Rr × m_Rr × m_Rr × m_Rr × m_Rr
/-- the relation, of all rows that steps touch -/
def m_RB (H m hf : Nat) (X : m_CB) (Y : m_SB) : Prop := ∃ h, m_R H m hf h X.1 X.2.1 X.2.2.1 X.2.2.2.1 X.2.2.2.2.1 X.2.2.2.2.2.1 X.2.2.2.2.2.2.1 X.2.2.2.2.2.2.2.1 X.2.2.2.2.2.2.2.2.1 X.2.2.2.2.2.2.2.2.2.2.2.2.1 X.2.2.2.2.2.2.2.2.2.2.2.2.2.1 Y.2.2.2.2.1 Y.2.2.2.2.2.1 Y.2.2.2.2.2.2.1 Y.2.2.2.2.2.2.2.1 Y.2.2.2.2.2.2.2.2.1 Y.2.2.2.2.2.2.2.2.2.1 Y.2.2.2.2.2.2.2.2.2.2.1 Y.2.2.2.2.2.2.2.2.2.2.2
def m_pf (pn nu : m_Rr) (od : Nat → Option Nat) (T1 : Nat → m_Rr) (K1 : Nat → Nat → Option Nat) (X : m_CB) (k : Nat) : Option (Bool × m_CB) := f_X3_perform pn nu X.1 X.2.1 X.2.2.1 X.2.2.2.1 X.2.2.2.2.1 X.2.2.2.2.2.1 X.2.2.2.2.2.2.1 X.2.2.2.2.2.2.2.1 X.2.2.2.2.2.2.2.2.1 X.2.2.2.2.2.2.2.2.2.1 X.2.2.2.2.2.2.2.2.2.2.1 X.2.2.2.2.2.2.2.2.2.2.2.1 X.2.2.2.2.2.2.2.2.2.2.2.2.1 X.2.2.2.2.2.2.2.2.2.2.2.2.2.1 X.2.2.2.2.2.2.2.2.2.2.2.2.2.2.1 X.2.2.2.2.2.2.2.2.2.2.2.2.2.2.2.1 X.2.2.2.2.2.2.2.2.2.2.2.2.2.2.2.2 od T1 K1 k
def m_ps (pn nu : m_Rr) (od : Nat → Option Nat) (T1 : Nat → m_Rr) (K1 : Nat → Nat → Option Nat) (X : m_CB) : Option (Bool × m_CB) := f_X3_passNext pn nu X.1 X.2.1 X.2.2.1 X.2.2.2.1 X.2.2.2.2.1 X.2.2.2.2.2.1 X.2.2.2.2.2.2.1 X.2.2.2.2.2.2.2.1 X.2.2.2.2.2.2.2.2.1 X.2.2.2.2.2.2.2.2.2.1 X.2.2.2.2.2.2.2.2.2.2.1 X.2.2.2.2.2.2.2.2.2.2.2.1 X.2.2.2.2.2.2.2.2.2.2.2.2.1 X.2.2.2.2.2.2.2.2.2.2.2.2.2.1 X.2.2.2.2.2.2.2.2.2.2.2.2.2.2.1 X.2.2.2.2.2.2.2.2.2.2.2.2.2.2.2.1 X.2.2.2.2.2.2.2.2.2.2.2.2.2.2.2.2 od T1 K1
def m_gC (pn nu : m_Rr) (od : Nat → Option Nat) (T1 : Nat → m_Rr) (K1 : Nat → Nat → Option Nat) (c : Int32) (fu : Nat) (X : m_CB) (x i : Int32) : Option (Int32 × m_CB) := f_X3_goOn_L4 pn nu od T1 K1 c fu X.1 X.2.1 X.2.2.1 X.2.2.2.1 X.2.2.2.2.1 X.2.2.2.2.2.1 X.2.2.2.2.2.2.1 X.2.2.2.2.2.2.2.1 X.2.2.2.2.2.2.2.2.1 X.2.2.2.2.2.2.2.2.2.1 X.2.2.2.2.2.2.2.2.2.2.1 X.2.2.2.2.2.2.2.2.2.2.2.1 X.2.2.2.2.2.2.2.2.2.2.2.2.1 X.2.2.2.2.2.2.2.2.2.2.2.2.2.1 X.2.2.2.2.2.2.2.2.2.2.2.2.2.2.1 X.2.2.2.2.2.2.2.2.2.2.2.2.2.2.2.1 X.2.2.2.2.2.2.2.2.2.2.2.2.2.2.2.2 x i
def m_is (mp pd po pq pr ps pt pc : m_Rr) (Y : m_SB) (k : Int32) : Option (Bool × m_SB) := f_X14_isDone Y.1 mp pd po pq pr ps pt pc Y.2.1 Y.2.2.1 Y.2.2.2.1 Y.2.2.2.2.1 Y.2.2.2.2.2.1 Y.2.2.2.2.2.2.1 Y.2.2.2.2.2.2.2.1 Y.2.2.2.2.2.2.2.2.1 Y.2.2.2.2.2.2.2.2.2.1 Y.2.2.2.2.2.2.2.2.2.2.1 Y.2.2.2.2.2.2.2.2.2.2.2 k
def m_go (mp pd po pq pr ps pt pe pc : m_Rr) (Y : m_SB) : Option (Bool × m_SB) := f_X14_goOn Y.1 mp pd po pq pr ps pt pe pc Y.2.1 Y.2.2.1 Y.2.2.2.1 Y.2.2.2.2.1 Y.2.2.2.2.2.1 Y.2.2.2.2.2.2.1 Y.2.2.2.2.2.2.2.1 Y.2.2.2.2.2.2.2.2.1 Y.2.2.2.2.2.2.2.2.2.1 Y.2.2.2.2.2.2.2.2.2.2.1 Y.2.2.2.2.2.2.2.2.2.2.2
def m_gR (mp pd po pq pr ps pt pe pc : m_Rr) (c : Int32) (fu : Nat) (Y : m_SB) (x i : Int32) : Option (Int32 × m_SB) := f_X14_goOn__L4 mp pd po pq pr ps pt pe pc c fu Y.1 Y.2.1 Y.2.2.1 Y.2.2.2.1 Y.2.2.2.2.1 Y.2.2.2.2.2.1 Y.2.2.2.2.2.2.1 Y.2.2.2.2.2.2.2.1 Y.2.2.2.2.2.2.2.2.1 Y.2.2.2.2.2.2.2.2.2.1 Y.2.2.2.2.2.2.2.2.2.2.1 Y.2.2.2.2.2.2.2.2.2.2.2 x i
/-- a step that is told, on both sides -/
def m_Sk (H oc : Nat) (od : Nat → Option Nat) (nu pc : m_Rr) (T1 : Nat → m_Rr) (K1 : Nat → Nat → Option Nat) (pd po pq pr ps pt pe : m_Rr) (k : Nat) : Prop :=
  (∃ x, x < H ∧ T1 k 1 = nI x ∧ po k = nI x) ∧
  ((K1 k 0 = some 9 ∧ pd k = 4 ∧ ∃ i0 n a b r, T1 k 4 = nI i0 ∧ T1 k 5 = nI (i0 + n) ∧ i0 + n ≤ oc ∧ ps k = nI a ∧ pt k = nI b ∧ b ≤ 796 ∧ m_Cd (fun j g => g < H ∧ pc j = nI g) od nu pc n i0 a 0 b 1 ∧ r ≤ 3 ∧ T1 k 3 = nI r ∧ pr k = nI r) ∨
   (K1 k 0 = some 10 ∧ pd k = 7 ∧ ∃ y, y < H ∧ T1 k 2 = nI y ∧ pq k = nI y ∧ T1 k 3 = pr k) ∨
   (K1 k 0 = some 11 ∧ pd k = 10 ∧ T1 k 3 = pr k) ∨
   (K1 k 0 = some 12 ∧ pd k = 11 ∧ ∃ y, y < H ∧ T1 k 2 = nI y ∧ pq k = nI y ∧ T1 k 3 = pr k) ∨
   (K1 k 0 = some 13 ∧ pd k = 14)) ∧
  (∃ i0 n a b, T1 k 6 = nI i0 ∧ T1 k 7 = nI (i0 + n) ∧ i0 + n ≤ oc ∧ pt k = nI a ∧ pe k = nI b ∧ b ≤ 796 ∧ ((n = 0 ∧ a = b) ∨ (0 < n ∧ m_Cd (fun j g => g < H ∧ pc j = nI g) od nu pc n i0 a 0 b 1)))
/-- all that is told, on both sides -/
def m_Pn (H m hf ns oc : Nat) (pn nu : m_Rr) (od : Nat → Option Nat) (T1 : Nat → m_Rr) (K1 : Nat → Nat → Option Nat) (mp pd po pq pr ps pt pe pc : m_Rr) : Prop :=
  m_Pl H m hf pn mp ∧ pn 4 = nI ns ∧ mp 4 = nI ns ∧ ns ≤ 20 ∧ pn 5 = nI oc ∧ oc ≤ 400 ∧ ∀ k, k < ns → m_Sk H oc od nu pc T1 K1 pd po pq pr ps pt pe k
/-- 1 to 9 -/
theorem m_clip (x : Int32) : ∃ s, 1 ≤ s ∧ s ≤ 9 ∧ q_min (q_max x 1) 9 = nI s ∧ q_max 1 (q_min 9 x) = nI s := by
  unfold q_min q_max
  by_cases h1 : x < 1
  · refine ⟨1, by omega, by omega, ?_, ?_⟩
    · rw [if_pos h1, if_neg (by decide)]; rfl
    · rw [if_pos (show x < 9 from Int32.lt_trans h1 (by decide)), if_neg (Int32.not_lt.mpr (Int32.le_of_lt h1))]; rfl
  · rw [if_neg h1]
    by_cases h9 : (9 : Int32) < x
    · refine ⟨9, by omega, by omega, ?_, ?_⟩
      · rw [if_pos h9]; rfl
      · rw [if_neg (Int32.not_lt.mpr (Int32.le_of_lt h9)), if_pos (by decide)]; rfl
    · have hx : ¬ x < 0 := fun h => h1 (Int32.lt_trans h (by decide))
      obtain ⟨j, j1, rfl⟩ := nI_of hx
      have a1 : 1 ≤ j := by
        rcases Nat.lt_or_ge j 1 with h | h
        · obtain rfl : j = 0 := by omega
          exact absurd (show nI 0 < 1 by decide) h1
        · exact h
      have a2 : j ≤ 9 := by
        rcases Nat.lt_or_ge 9 j with h | h
        · exact absurd (nI_lt (a := 9) h j1) h9
        · exact h
      refine ⟨j, a1, a2, by rw [if_neg h9], ?_⟩
      by_cases h2 : nI j < 9
      · rw [if_pos h2]
        by_cases h3 : (1 : Int32) < nI j
        · rw [if_pos h3]
        · rw [if_neg h3]
          have : j = 1 := by
            rcases Nat.lt_or_ge 1 j with h | h
            · exact absurd (nI_lt (a := 1) h j1) h3
            · omega
          rw [this]; rfl
      · rw [if_neg h2, if_pos (by decide)]
        have : j = 9 := by
          rcases Nat.lt_or_ge j 9 with h | h
          · exact absurd (nI_lt (b := 9) h (by decide)) h2
          · omega
        rw [this]; rfl

theorem m_perf {H m hf ns oc : Nat} {pn nu : m_Rr} {od : Nat → Option Nat} {T1 : Nat → m_Rr} {K1 : Nat → Nat → Option Nat} {mp pd po pq pr ps pt pe pc : m_Rr} (hP : m_Pn H m hf ns oc pn nu od T1 K1 mp pd po pq pr ps pt pe pc) {X : m_CB} {Y : m_SB} (hR : m_RB H m hf X Y) {k : Nat} (hk : k < ns) :
    ∃ ok X' Y', m_pf pn nu od T1 K1 X k = some (ok, X') ∧ m_is mp pd po pq pr ps pt pc Y (nI k) = some (ok, Y') ∧ m_RB H m hf X' Y' ∧ (∀ j, j ≠ 16 → Y'.1 j = Y.1 j) ∧ X'.1 10 = X.1 10 ∧ (X'.1 12 = X.1 12 ∨ X'.1 12 = X.1 12 + 1) := by
  obtain ⟨hPl, q1, q2, q3, q4, q5, q6⟩ := hP
  obtain ⟨⟨x, xH, x1, x2⟩, hkind, -⟩ := q6 k hk
  obtain ⟨h, hR⟩ := hR
  have t20 : q_t20 k = some () := by unfold q_t20; rw [if_pos (by omega)]
  have i20 : q_ix (nI k) 20 = some k := q_ix_nI (by omega) (by decide)
  have i21 : q_ix (nI k) 21 = some k := q_ix_nI (by omega) (by decide)
  rcases hkind with ⟨e1, e2, i0, n, a, b, r, f1, f2, f3, f4, f5, f6, f7, f8, f9, f10⟩ | ⟨e1, e2, y, yH, f1, f2, f3⟩ | ⟨e1, e2, f3⟩ | ⟨e1, e2, y, yH, f1, f2, f3⟩ | ⟨e1, e2⟩
  · obtain ⟨v, rk', sk', ms', g1, g2⟩ := m_eval hPl hR q4 q5 f3 f6 f7 X.2.2.2.2.2.2.2.2.2.2.2.2.2.2.2.1 X.2.2.2.2.2.2.2.2.2.2.2.2.2.2.2.2 Y.2.1
    obtain ⟨s, s1, s9, s2, s3⟩ := m_clip v
    obtain ⟨ok, h', bn', ly', pl', sz', ag', rc', ld', lo', lr', li', nr', nd', hk', rw', ro', md', mq', mi', st', sh', sw', sp', ss', sr', sa', sd', y1, y2, y3, y4, y5, y6, y7⟩ := m_make hPl hR X.2.2.2.2.2.2.2.2.2.1 X.2.2.2.2.2.2.2.2.2.2.1 X.2.2.2.2.2.2.2.2.2.2.2.1 X.2.2.2.2.2.2.2.2.2.2.2.2.2.2.1 Y.1 Y.2.2.1 Y.2.2.2.1 xH s1 s9 f8
    refine ⟨ok, (bn', ly', pl', sz', ag', rc', ld', lo', lr', li', nr', nd', hk', rw', ro', rk', sk'), (md', ms', mq', mi', st', sh', sw', sp', ss', sr', sa', sd'), ?_, ?_, ⟨h', y3⟩, y4, y6, y7⟩
    · unfold m_pf f_X3_perform
      rw [t20, Option.bind_some, e1]
      show ((f_X8_reckon pn nu X.1 X.2.2.2.1 X.2.2.2.2.1 X.2.2.2.2.2.2.2.1 X.2.2.2.2.2.2.2.2.2.2.2.2.1 X.2.2.2.2.2.2.2.2.2.2.2.2.2.2.2.1 X.2.2.2.2.2.2.2.2.2.2.2.2.2.2.2.2 od (T1 k 4) (T1 k 5)).bind _) = _
      rw [f1, f2, g1, Option.bind_some, s2, x1, f9, y1, Option.bind_some]
    · unfold m_is f_X14_isDone
      rw [i20, Option.bind_some, if_pos e2, Option.bind_some, i21, Option.bind_some, Option.bind_some, f4, f5, g2, Option.bind_some, Option.bind_some, s3, x2, f10, y2, Option.bind_some]
  · obtain ⟨ok, ld', sd', y1, y2, y3, -⟩ := m_tie hR xH yH (T1 k 3)
    refine ⟨ok, (X.1, X.2.1, X.2.2.1, X.2.2.2.1, X.2.2.2.2.1, X.2.2.2.2.2.1, ld', X.2.2.2.2.2.2.2.1, X.2.2.2.2.2.2.2.2.1, X.2.2.2.2.2.2.2.2.2.1, X.2.2.2.2.2.2.2.2.2.2.1, X.2.2.2.2.2.2.2.2.2.2.2.1, X.2.2.2.2.2.2.2.2.2.2.2.2.1, X.2.2.2.2.2.2.2.2.2.2.2.2.2.1, X.2.2.2.2.2.2.2.2.2.2.2.2.2.2.1, X.2.2.2.2.2.2.2.2.2.2.2.2.2.2.2.1, X.2.2.2.2.2.2.2.2.2.2.2.2.2.2.2.2), (Y.1, Y.2.1, Y.2.2.1, Y.2.2.2.1, Y.2.2.2.2.1, Y.2.2.2.2.2.1, Y.2.2.2.2.2.2.1, Y.2.2.2.2.2.2.2.1, Y.2.2.2.2.2.2.2.2.1, Y.2.2.2.2.2.2.2.2.2.1, Y.2.2.2.2.2.2.2.2.2.2.1, sd'), ?_, ?_, ⟨h, y3⟩, fun _ _ => rfl, rfl, Or.inl rfl⟩
    · unfold m_pf f_X3_perform
      rw [t20, Option.bind_some, e1]
      show ((f_X2_tieRope X.2.2.2.2.2.1 X.2.2.2.2.2.2.1 X.2.2.2.2.2.2.2.2.2.2.2.2.1 (T1 k 1) (T1 k 3) (T1 k 2)).bind _) = _
      rw [x1, f1, y1, Option.bind_some]
    · unfold m_is f_X14_isDone
      rw [i20, Option.bind_some, e2, if_neg (by decide), if_neg (by decide), if_neg (by decide), if_pos rfl, Option.bind_some, Option.bind_some, Option.bind_some, x2, f2, ← f3, y2, Option.bind_some]
  · obtain ⟨ok, ld', sd', y1, y2, y3⟩ := m_untie hR xH (T1 k 3)
    refine ⟨ok, (X.1, X.2.1, X.2.2.1, X.2.2.2.1, X.2.2.2.2.1, X.2.2.2.2.2.1, ld', X.2.2.2.2.2.2.2.1, X.2.2.2.2.2.2.2.2.1, X.2.2.2.2.2.2.2.2.2.1, X.2.2.2.2.2.2.2.2.2.2.1, X.2.2.2.2.2.2.2.2.2.2.2.1, X.2.2.2.2.2.2.2.2.2.2.2.2.1, X.2.2.2.2.2.2.2.2.2.2.2.2.2.1, X.2.2.2.2.2.2.2.2.2.2.2.2.2.2.1, X.2.2.2.2.2.2.2.2.2.2.2.2.2.2.2.1, X.2.2.2.2.2.2.2.2.2.2.2.2.2.2.2.2), (Y.1, Y.2.1, Y.2.2.1, Y.2.2.2.1, Y.2.2.2.2.1, Y.2.2.2.2.2.1, Y.2.2.2.2.2.2.1, Y.2.2.2.2.2.2.2.1, Y.2.2.2.2.2.2.2.2.1, Y.2.2.2.2.2.2.2.2.2.1, Y.2.2.2.2.2.2.2.2.2.2.1, sd'), ?_, ?_, ⟨h, y3⟩, fun _ _ => rfl, rfl, Or.inl rfl⟩
    · unfold m_pf f_X3_perform
      rw [t20, Option.bind_some, e1]
      show ((f_X2_untieRope X.2.2.2.2.2.1 X.2.2.2.2.2.2.1 X.2.2.2.2.2.2.2.2.2.2.2.2.1 (T1 k 1) (T1 k 3)).bind _) = _
      rw [x1, y1, Option.bind_some]
    · unfold m_is f_X14_isDone
      rw [i20, Option.bind_some, e2, if_neg (by decide), if_neg (by decide), if_neg (by decide), if_neg (by decide), if_neg (by decide), if_neg (by decide), if_pos rfl, Option.bind_some, Option.bind_some, x2, ← f3, y2, Option.bind_some]
  · obtain ⟨ok, hk', sh', y1, y2, y3, -⟩ := m_follow hR xH yH (T1 k 3)
    refine ⟨ok, (X.1, X.2.1, X.2.2.1, X.2.2.2.1, X.2.2.2.2.1, X.2.2.2.2.2.1, X.2.2.2.2.2.2.1, X.2.2.2.2.2.2.2.1, X.2.2.2.2.2.2.2.2.1, X.2.2.2.2.2.2.2.2.2.1, X.2.2.2.2.2.2.2.2.2.2.1, X.2.2.2.2.2.2.2.2.2.2.2.1, hk', X.2.2.2.2.2.2.2.2.2.2.2.2.2.1, X.2.2.2.2.2.2.2.2.2.2.2.2.2.2.1, X.2.2.2.2.2.2.2.2.2.2.2.2.2.2.2.1, X.2.2.2.2.2.2.2.2.2.2.2.2.2.2.2.2), (Y.1, Y.2.1, Y.2.2.1, Y.2.2.2.1, Y.2.2.2.2.1, sh', Y.2.2.2.2.2.2.1, Y.2.2.2.2.2.2.2.1, Y.2.2.2.2.2.2.2.2.1, Y.2.2.2.2.2.2.2.2.2.1, Y.2.2.2.2.2.2.2.2.2.2.1, Y.2.2.2.2.2.2.2.2.2.2.2), ?_, ?_, ⟨h, y3⟩, fun _ _ => rfl, rfl, Or.inl rfl⟩
    · unfold m_pf f_X3_perform
      rw [t20, Option.bind_some, e1]
      show ((f_X2_followRope X.2.2.2.2.2.1 X.2.2.2.2.2.2.1 X.2.2.2.2.2.2.2.2.2.2.2.2.1 (T1 k 1) (T1 k 2) (T1 k 3)).bind _) = _
      rw [x1, f1, y1, Option.bind_some]
    · unfold m_is f_X14_isDone
      rw [i20, Option.bind_some, e2, if_neg (by decide), if_neg (by decide), if_neg (by decide), if_neg (by decide), if_neg (by decide), if_neg (by decide), if_neg (by decide), if_pos rfl, Option.bind_some, Option.bind_some, Option.bind_some, x2, f2, ← f3, y2, Option.bind_some]
  · obtain ⟨ok, hk', sh', y1, y2, y3⟩ := m_drop hR xH
    refine ⟨ok, (X.1, X.2.1, X.2.2.1, X.2.2.2.1, X.2.2.2.2.1, X.2.2.2.2.2.1, X.2.2.2.2.2.2.1, X.2.2.2.2.2.2.2.1, X.2.2.2.2.2.2.2.2.1, X.2.2.2.2.2.2.2.2.2.1, X.2.2.2.2.2.2.2.2.2.2.1, X.2.2.2.2.2.2.2.2.2.2.2.1, hk', X.2.2.2.2.2.2.2.2.2.2.2.2.2.1, X.2.2.2.2.2.2.2.2.2.2.2.2.2.2.1, X.2.2.2.2.2.2.2.2.2.2.2.2.2.2.2.1, X.2.2.2.2.2.2.2.2.2.2.2.2.2.2.2.2), (Y.1, Y.2.1, Y.2.2.1, Y.2.2.2.1, Y.2.2.2.2.1, sh', Y.2.2.2.2.2.2.1, Y.2.2.2.2.2.2.2.1, Y.2.2.2.2.2.2.2.2.1, Y.2.2.2.2.2.2.2.2.2.1, Y.2.2.2.2.2.2.2.2.2.2.1, Y.2.2.2.2.2.2.2.2.2.2.2), ?_, ?_, ⟨h, y3⟩, fun _ _ => rfl, rfl, Or.inl rfl⟩
    · unfold m_pf f_X3_perform
      rw [t20, Option.bind_some, e1]
      show ((f_X2_dropBale X.2.2.2.2.2.2.2.2.2.2.2.2.1 (T1 k 1)).bind _) = _
      rw [x1, y1, Option.bind_some]
    · unfold m_is f_X14_isDone
      rw [i20, Option.bind_some, e2, if_neg (by decide), if_neg (by decide), if_neg (by decide), if_neg (by decide), if_neg (by decide), if_neg (by decide), if_neg (by decide), if_neg (by decide), Option.bind_some, x2, y2, Option.bind_some]
/-- the counters alone change -/
theorem m_R_cnt {H m hf : Nat} {h : List Nat} {bn ly pl sz ag rc ld lo lr hk rw st sh sw sp ss sr sa sd bn' st' : m_Rr} (hR : m_R H m hf h bn ly pl sz ag rc ld lo lr hk rw st sh sw sp ss sr sa sd) (b7 : bn' 7 = bn 7) (b8 : bn' 8 = bn 8) (b9 : bn' 9 = bn 9) (b12 : bn' 12 = bn 12) (b13 : bn' 13 = bn 13) (b14 : bn' 14 = bn 14) (s2 : st' 2 = st 2) (s3 : st' 3 = st 3) (s4 : st' 4 = st 4) (s5 : st' 5 = st 5) (h0 : bn' 10 = st' 0) (h1 : bn' 11 = st' 1) : m_R H m hf h bn' ly pl sz ag rc ld lo lr hk rw st' sh sw sp ss sr sa sd := by
  obtain ⟨x1, x2, x3, ⟨y1, y2, y3, y4, y5, y6⟩, x5, x6, ⟨c1, c2, c3, c4, c5, c6⟩⟩ := hR
  exact ⟨x1, x2, x3, ⟨y1, y2, y3, b7.trans y4, b8.trans y5, y6⟩, x5, x6, ⟨by rw [b9, s2]; exact c1, h0, h1, by rw [b12, s3]; exact c4, by rw [b13, s4]; exact c5, by rw [b14, s5]; exact c6⟩⟩

