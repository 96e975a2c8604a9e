/-! THE CLASS AND THE LAW'S BARN, two: the loops of a copying -/
theorem z_nodup_map {ν : Nat → Nat} : ∀ l : List Nat, l.Nodup → (∀ x ∈ l, ∀ y ∈ l, ν x = ν y → x = y) → (l.map ν).Nodup
  | [], _, _ => List.nodup_nil
  | a :: t, h, hi => by
    obtain ⟨h1, h2⟩ := List.nodup_cons.mp h
    refine List.nodup_cons.mpr ⟨fun hm => ?_, z_nodup_map t h2 (fun x hx y hy => hi x (List.mem_cons_of_mem _ hx) y (List.mem_cons_of_mem _ hy))⟩
    obtain ⟨b, b1, b2⟩ := List.mem_map.mp hm
    have := hi b (List.mem_cons_of_mem _ b1) a List.mem_cons_self b2
    rw [this] at b1
    exact h1 b1
section ZLOOPS
variable {m : Nat} {oly sz ss pn mp ol rc ld sr sd hk sh : m_Rr} {X0 X : m_XT} {Y0 Y : m_YT} {l h : List Nat} {ν : Nat → Nat} {σ : z_St} {os wl : List Nat} {rp : Nat → List (Option Nat)} {hkL : List (Option Nat)}
/-- what is said by a cell of a row, by hand and in the class -/
def z_cell (ν : Nat → Nat) (oly : m_Rr) (c : Int32) (o : Option (Option Nat)) : Prop := (c = -1 ∧ o = some none) ∨ ∃ b, b < 128 ∧ ¬ oly b = 0 ∧ c = nI b ∧ o = some (some (ν b))
/-- the bales' ropes, by hand and in the class -/
def z_Yr (ν : Nat → Nat) (oly rc ld : m_Rr) (rp : Nat → List (Option Nat)) : Prop := ∀ b, b < 128 → ¬ oly b = 0 → ∃ k, k ≤ 3 ∧ rc b = nI k ∧ (rp (ν b)).length = k ∧ ∀ r, r < k → z_cell ν oly (ld (b * 3 + r)) ((rp (ν b))[r]?)
theorem z_Yr_k {b k : Nat} (hr : z_Yr ν oly rc ld rp) (hb : b < 128) (h0 : ¬ oly b = 0) (hk3 : k ≤ 3) (hk : rc b = nI k) : (rp (ν b)).length = k ∧ ∀ r, r < k → z_cell ν oly (ld (b * 3 + r)) ((rp (ν b))[r]?) := by
  obtain ⟨k', k1, k2, k3, k4⟩ := hr b hb h0
  obtain rfl : k' = k := (nI_eq (by omega) (by omega)).mp (k2.symm.trans hk)
  exact ⟨k3, k4⟩
theorem z_drop_some {os : List (Option Nat)} {r : Nat} {o : Option Nat} (h : os[r]? = some o) : os.drop r = o :: os.drop (r + 1) := by
  obtain ⟨h1, h2⟩ := List.getElem?_eq_some_iff.mp h
  rw [List.drop_eq_getElem_cons h1, h2]
/-- a cell as z_takeT wants it -/
theorem z_cell_take {c : Int32} {o : Option (Option Nat)} (h : z_cell ν oly c o) : ∃ o', o = some o' ∧ ((c = -1 ∧ o' = none) ∨ ∃ b, b < 128 ∧ ¬ oly b = 0 ∧ c = nI b ∧ o' = some (ν b)) := by
  rcases h with ⟨h1, h2⟩ | ⟨b, h1, h2, h3, h4⟩
  · exact ⟨none, h2, Or.inl ⟨h1, rfl⟩⟩
  · exact ⟨some (ν b), h4, Or.inr ⟨b, h1, h2, h3, rfl⟩⟩
abbrev z_hyp (m : Nat) (ν : Nat → Nat) (oly sz ss pn mp ol : m_Rr) (os : List Nat) : Prop :=
  (∀ b c, b < 128 → c < 128 → ¬ oly b = 0 → ¬ oly c = 0 → ν b = ν c → b = c) ∧ m_TH m oly sz ss pn mp ol ∧ (∀ b, b < 128 → ss b = sz b) ∧ ∀ x, x ∈ os ↔ ∃ b, b < 128 ∧ oly b = 1 ∧ x = ν b
theorem z_takeH (hh : z_hyp m ν oly sz ss pn mp ol os) (hT : m_CT m oly sz ss X0 Y0 l h X Y) (hY : z_Ys ν oly sz l h X σ) {c : Int32} {o : Option Nat} (hc : (c = -1 ∧ o = none) ∨ ∃ b, b < 128 ∧ ¬ oly b = 0 ∧ c = nI b ∧ o = some (ν b)) :
    ∃ t h' X' Y', m_tC pn sz c X = some X' ∧ m_tR mp ss ol c Y = some Y' ∧ m_CT m oly sz ss X0 Y0 (l ++ t) h' X' Y' ∧ z_Ys ν oly sz (l ++ t) h' X' (z_tk m (pn 2) os σ o) := by
  obtain ⟨t, h', X', Y', a1, a2, a3, a4, -⟩ := z_takeT hh.1 hh.2.1 hh.2.2.1 hT hT.1.2.2.2.2.2.2.1 hY hh.2.2.2 hc
  exact ⟨t, h', X', Y', a1, a2, a3, a4⟩
theorem z_ropesT (hh : z_hyp m ν oly sz ss pn mp ol os) (hG : m_TG rc ld sr sd) (hr : z_Yr ν oly rc ld rp) {b k : Nat} (hb : b < 128) (hb0 : ¬ oly b = 0) (hk3 : k ≤ 3) (hk : rc b = nI k) : ∀ (n r : Nat) (l h : List Nat) (X : m_XT) (Y : m_YT) (σ : z_St) (fu fv : Nat), r + n = k → n < fu → n < fv → m_CT m oly sz ss X0 Y0 l h X Y → z_Ys ν oly sz l h X σ →
    ∃ t h' X' Y', m_L98 pn sz rc ld (nI b) fu X (nI r) = some X' ∧ m_L4 mp ss sr sd ol (nI b) fv Y (nI r) = some Y' ∧ m_CT m oly sz ss X0 Y0 (l ++ t) h' X' Y' ∧ z_Ys ν oly sz (l ++ t) h' X' (((rp (ν b)).drop r).foldl (z_tk m (pn 2) os) σ) := by
  obtain ⟨k', hk3', hk', hsk, hl⟩ := hG b hb
  obtain rfl : k = k' := (nI_eq (by omega) (by omega)).mp (hk.symm.trans hk')
  obtain ⟨hrl, hrc⟩ := z_Yr_k hr hb hb0 hk3 hk
  intro n
  induction n with
  | zero =>
    intro r l h X Y σ fu fv hrn hfu hfv hT hY
    obtain rfl : r = k := by omega
    obtain ⟨fu, rfl⟩ : ∃ z, fu = z + 1 := ⟨fu - 1, by omega⟩
    obtain ⟨fv, rfl⟩ : ∃ z, fv = z + 1 := ⟨fv - 1, by omega⟩
    refine ⟨[], h, X, Y, ?_, ?_, by simpa using hT, ?_⟩
    · rw [m_L98_s, m_ropes hb, Option.bind_some, hk, if_pos (nI_le (Nat.le_refl _) (by omega))]
    · rw [m_L4_s, q_ix_nI (by omega) (by decide), Option.bind_some, hsk, if_pos (nI_le (Nat.le_refl _) (by omega))]
    · rw [List.drop_eq_nil_of_le (by omega), List.foldl_nil, List.append_nil]
      exact hY
  | succ n ih =>
    intro r l h X Y σ fu fv hrn hfu hfv hT hY
    obtain ⟨fu, rfl⟩ : ∃ z, fu = z + 1 := ⟨fu - 1, by omega⟩
    obtain ⟨fv, rfl⟩ : ∃ z, fv = z + 1 := ⟨fv - 1, by omega⟩
    obtain ⟨hsd, -⟩ := hl r (by omega)
    obtain ⟨o, ho, hoc⟩ := z_cell_take (hrc r (by omega))
    obtain ⟨t, h', X', Y', a1, a2, a3, a4⟩ := z_takeH hh hT hY hoc
    obtain ⟨t2, h2, X2, Y2, b1, b2, b3, b4⟩ := ih (r + 1) _ _ X' Y' _ fu fv (by omega) (by omega) (by omega) a3 a4
    refine ⟨t ++ t2, h2, X2, Y2, ?_, ?_, by rw [← List.append_assoc]; exact b3, ?_⟩
    · rw [m_L98_s, m_ropes hb, Option.bind_some, hk, if_neg (nI_ge (by omega) (by omega)), m_lead hb (by omega) hk hk3, Option.bind_some, if_pos (by omega), a1, Option.bind_some, nI_1, b1]
    · rw [m_L4_s, q_ix_nI (by omega) (by decide), Option.bind_some, hsk, if_neg (nI_ge (by omega) (by omega)), show (3 : Int32) * nI b + nI r = nI (3 * b + r) from by rw [show (3 : Int32) = nI 3 from rfl, pk_mul, nI_add], q_ix_nI (by omega) (by decide), Option.bind_some, hsd, a2, Option.bind_some, nI_1, b2]
    · rw [z_drop_some ho, List.foldl_cons, ← List.append_assoc]
      exact b4
theorem z_ropesL (hh : z_hyp m ν oly sz ss pn mp ol os) (hG : m_TG rc ld sr sd) (hr : z_Yr ν oly rc ld rp) {b k : Nat} (hb : b < 128) (hb0 : ¬ oly b = 0) (hb1 : ¬ oly b = 1) (hk3 : k ≤ 3) (hk : rc b = nI k) : ∀ (n r : Nat) (l h : List Nat) (X : m_XT) (Y : m_YT) (σ : z_St) (fu fv : Nat), r + n = k → n < fu → n < fv → m_CT m oly sz ss X0 Y0 l h X Y → z_Ys ν oly sz l h X σ →
    ∃ t h' X' Y', m_L59 pn sz rc ld (nI b) fu X (nI r) = some X' ∧ m_L4 mp ss sr sd ol (nI b) fv Y (nI r) = some Y' ∧ m_CT m oly sz ss X0 Y0 (l ++ t) h' X' Y' ∧ z_Ys ν oly sz (l ++ t) h' X' (((rp (ν b)).drop r).foldl (z_tk m (pn 2) os) σ) := by
  obtain ⟨k', hk3', hk', hsk, hl⟩ := hG b hb
  obtain rfl : k = k' := (nI_eq (by omega) (by omega)).mp (hk.symm.trans hk')
  obtain ⟨hrl, hrc⟩ := z_Yr_k hr hb hb0 hk3 hk
  intro n
  induction n with
  | zero =>
    intro r l h X Y σ fu fv hrn hfu hfv hT hY
    obtain rfl : r = k := by omega
    obtain ⟨fu, rfl⟩ : ∃ z, fu = z + 1 := ⟨fu - 1, by omega⟩
    obtain ⟨fv, rfl⟩ : ∃ z, fv = z + 1 := ⟨fv - 1, by omega⟩
    refine ⟨[], h, X, Y, ?_, ?_, by simpa using hT, ?_⟩
    · rw [m_L59_s, m_ropes hb, Option.bind_some, hk, if_pos (nI_le (Nat.le_refl _) (by omega))]
    · rw [m_L4_s, q_ix_nI (by omega) (by decide), Option.bind_some, hsk, if_pos (nI_le (Nat.le_refl _) (by omega))]
    · rw [List.drop_eq_nil_of_le (by omega), List.foldl_nil, List.append_nil]
      exact hY
  | succ n ih =>
    intro r l h X Y σ fu fv hrn hfu hfv hT hY
    obtain ⟨fu, rfl⟩ : ∃ z, fu = z + 1 := ⟨fu - 1, by omega⟩
    obtain ⟨fv, rfl⟩ : ∃ z, fv = z + 1 := ⟨fv - 1, by omega⟩
    obtain ⟨hsd, -⟩ := hl r (by omega)
    obtain ⟨o, ho, hoc⟩ := z_cell_take (hrc r (by omega))
    obtain ⟨t, h', X', Y', a1, a2, a3, a4⟩ := z_takeH hh hT hY hoc
    obtain ⟨t2, h2, X2, Y2, b1, b2, b3, b4⟩ := ih (r + 1) _ _ X' Y' _ fu fv (by omega) (by omega) (by omega) a3 a4
    refine ⟨t ++ t2, h2, X2, Y2, ?_, ?_, by rw [← List.append_assoc]; exact b3, ?_⟩
    · rw [m_L59_s, m_ropes hb, Option.bind_some, hk, if_neg (nI_ge (by omega) (by omega)), m_lhas hb, Option.bind_some, m_CT_no hT hb hb1, if_neg (by decide), m_lead hb (by omega) hk hk3, Option.bind_some, if_pos (by omega), a1, Option.bind_some, nI_1, b1]
    · rw [m_L4_s, q_ix_nI (by omega) (by decide), Option.bind_some, hsk, if_neg (nI_ge (by omega) (by omega)), show (3 : Int32) * nI b + nI r = nI (3 * b + r) from by rw [show (3 : Int32) = nI 3 from rfl, pk_mul, nI_add], q_ix_nI (by omega) (by decide), Option.bind_some, hsd, a2, Option.bind_some, nI_1, b2]
    · rw [z_drop_some ho, List.foldl_cons, ← List.append_assoc]
      exact b4
/-- the hooks -/
theorem z_hooksT (hh : z_hyp m ν oly sz ss pn mp ol os) {G : Nat → Prop} {nh : Nat} (hK : m_H G nh hk sh) (hp : mp 0 = nI nh) (hkl : hkL.length = nh) (hkc : ∀ i, i < nh → z_cell ν oly (hk i) (hkL[i]?)) : ∀ (n i : Nat) (l h : List Nat) (X : m_XT) (Y : m_YT) (σ : z_St) (fu fv : Nat), i + n = nh → 6 - i < fu → n < fv → m_CT m oly sz ss X0 Y0 l h X Y → z_Ys ν oly sz l h X σ →
    ∃ t h' X' Y', m_L36 pn sz hk fu X (nI i) = some X' ∧ m_L35 mp sh ss ol fv Y (nI i) = some Y' ∧ m_CT m oly sz ss X0 Y0 (l ++ t) h' X' Y' ∧ z_Ys ν oly sz (l ++ t) h' X' ((hkL.drop i).foldl (z_tk m (pn 2) os) σ) := by
  have h6 := hK.1
  intro n
  induction n with
  | zero =>
    intro i l h X Y σ fu fv hi hfu hfv hT hY
    obtain rfl : i = nh := by omega
    obtain ⟨fv, rfl⟩ : ∃ z, fv = z + 1 := ⟨fv - 1, by omega⟩
    refine ⟨[], h, X, Y, m_hooksC (nh := i) (fun j h1 h2 => (hK.2 j h2).2 h1) (6 - i) i fu (by omega) hfu (Nat.le_refl _), ?_, by simpa using hT, ?_⟩
    · rw [m_L35_s, hp, if_pos (nI_le (Nat.le_refl _) (by omega))]
    · rw [List.drop_eq_nil_of_le (by omega), List.foldl_nil, List.append_nil]
      exact hY
  | succ n ih =>
    intro i l h X Y σ fu fv hi hfu hfv hT hY
    obtain ⟨fu, rfl⟩ : ∃ z, fu = z + 1 := ⟨fu - 1, by omega⟩
    obtain ⟨fv, rfl⟩ : ∃ z, fv = z + 1 := ⟨fv - 1, by omega⟩
    obtain ⟨hs, -⟩ := (hK.2 i (by omega)).1 (by omega)
    obtain ⟨o, ho, hoc⟩ := z_cell_take (hkc i (by omega))
    obtain ⟨t, h', X', Y', a1, a2, a3, a4⟩ := z_takeH hh hT hY hoc
    obtain ⟨t2, h2, X2, Y2, b1, b2, b3, b4⟩ := ih (i + 1) _ _ X' Y' _ fu fv (by omega) (by omega) (by omega) a3 a4
    refine ⟨t ++ t2, h2, X2, Y2, ?_, ?_, by rw [← List.append_assoc]; exact b3, ?_⟩
    · rw [m_L36_s, if_neg (show ¬ (6 : Int32) ≤ nI i from nI_ge (b := 6) (by omega) (by decide)), m_held (by omega), Option.bind_some, a1, Option.bind_some, nI_1, b1]
    · rw [m_L35_s, hp, if_neg (nI_ge (by omega) (by omega)), q_ix_nI (by omega) (by decide), Option.bind_some, ← hs, a2, Option.bind_some, nI_1, b2]
    · rw [z_drop_some ho, List.foldl_cons, ← List.append_assoc]
      exact b4
/-- those that were taken over, one behind the other -/
theorem z_queueT (hh : z_hyp m ν oly sz ss pn mp ol os) (hG : m_TG rc ld sr sd) (hr : z_Yr ν oly rc ld rp) : ∀ (n i : Nat) (l h : List Nat) (X : m_XT) (Y : m_YT) (σ : z_St) (fu fv N : Nat), i + n = 128 → n < fu → n < fv → i ≤ l.length → i + N = os.length + 1 → m_CT m oly sz ss X0 Y0 l h X Y → z_Ys ν oly sz l h X σ →
    ∃ t h' X' Y', m_L83 pn sz rc ld fu X (nI i) = some X' ∧ m_L88 mp ss sr sd ol fv Y (nI i) = some Y'.2 ∧ m_CT m oly sz ss X0 Y0 (l ++ t) h' X' Y' ∧ z_Ys ν oly sz (l ++ t) h' X' (z_cp3 rp m (pn 2) os N i σ) := by
  have hos : ∀ {l h : List Nat} {X : m_XT} {Y : m_YT}, m_CT m oly sz ss X0 Y0 l h X Y → l.length ≤ os.length := fun {l h X Y} hT => by
    have hQ := hT.1.1
    have hLy := hT.1.2.1
    have h1 := z_len (l.map ν) os (z_nodup_map l hQ.2.2.1 (fun x hx y hy e => hh.1 x y (hQ.2.2.2.1 x hx) (hQ.2.2.2.1 y hy) (by rw [hLy.1 x hx]; decide) (by rw [hLy.1 y hy]; decide) e)) (fun x hx => by
      obtain ⟨b, b1, rfl⟩ := List.mem_map.mp hx
      exact (hh.2.2.2 _).mpr ⟨b, hQ.2.2.2.1 b b1, hLy.1 b b1, rfl⟩)
    rwa [List.length_map] at h1
  intro n
  induction n with
  | zero =>
    intro i l h X Y σ fu fv N hin hfu hfv hil hN hT hY
    obtain rfl : i = 128 := by omega
    obtain ⟨fu, rfl⟩ : ∃ z, fu = z + 1 := ⟨fu - 1, by omega⟩
    obtain ⟨fv, rfl⟩ : ∃ z, fv = z + 1 := ⟨fv - 1, by omega⟩
    have hlen := m_Q_len hT.1.1
    have hle := hos hT
    obtain ⟨N, rfl⟩ : ∃ z, N = z + 1 := ⟨N - 1, by omega⟩
    refine ⟨[], h, X, Y, ?_, ?_, by simpa using hT, ?_⟩
    · rw [m_L83_s, if_pos (show (128 : Int32) ≤ nI 128 from nI_le (Nat.le_refl _) (by decide))]
    · rw [m_L88_s, hT.1.1.2.1, if_pos (nI_le hlen (by decide))]
    · rw [z_cp3, hY.2.1, List.getElem?_eq_none (by rw [List.length_map]; omega), List.append_nil]
      exact hY
  | succ n ih =>
    intro i l h X Y σ fu fv N hin hfu hfv hil hN hT hY
    obtain ⟨fu, rfl⟩ : ∃ z, fu = z + 1 := ⟨fu - 1, by omega⟩
    obtain ⟨fv, rfl⟩ : ∃ z, fv = z + 1 := ⟨fv - 1, by omega⟩
    have hQ := hT.1.1
    have hlen := m_Q_len hQ
    have hle := hos hT
    obtain ⟨N, rfl⟩ : ∃ z, N = z + 1 := ⟨N - 1, by omega⟩
    by_cases he : i = l.length
    · refine ⟨[], h, X, Y, ?_, ?_, by simpa using hT, ?_⟩
      · rw [m_L83_s, if_neg (show ¬ (128 : Int32) ≤ nI i from nI_ge (b := 128) (by omega) (by decide)), f_X4_length, Option.bind_some, hQ.1, if_pos (nI_le (by omega) (by omega))]
      · rw [m_L88_s, hQ.2.1, if_pos (nI_le (by omega) (by omega))]
      · rw [z_cp3, hY.2.1, List.getElem?_eq_none (by rw [List.length_map]; omega), List.append_nil]
        exact hY
    · have hlt : i < l.length := by omega
      obtain ⟨b, hb⟩ : ∃ b, l[i]? = some b := ⟨l[i], List.getElem?_eq_getElem hlt⟩
      have hbm := List.mem_of_getElem? hb
      have hb8 := hQ.2.2.2.1 b hbm
      have hb0 : ¬ oly b = 0 := by rw [hT.1.2.1.1 b hbm]; decide
      obtain ⟨k, hk3, hk, -⟩ := hG b hb8
      obtain ⟨t, h', X', Y', a1, a2, a3, a4⟩ := z_ropesT hh hG hr hb8 hb0 hk3 hk k 0 l h X Y σ 4096 4096 (by omega) (by omega) (by omega) hT hY
      rw [List.drop_zero] at a4
      obtain ⟨t2, h2, X2, Y2, b1, b2, b3, b4⟩ := ih (i + 1) _ _ X' Y' _ fu fv N (by omega) (by omega) (by omega) (by simp; omega) (by omega) a3 a4
      refine ⟨t ++ t2, h2, X2, Y2, ?_, ?_, by rw [← List.append_assoc]; exact b3, ?_⟩
      · rw [m_L83_s, if_neg (show ¬ (128 : Int32) ≤ nI i from nI_ge (b := 128) (by omega) (by decide)), f_X4_length, Option.bind_some, hQ.1, if_neg (nI_ge hlt (by omega)), m_lat hQ.1 hlen hlt, Option.bind_some, (hQ.2.2.2.2.1 i b hb).1, show (0 : Int32) = nI 0 from rfl, a1, Option.bind_some, nI_1, b1]
      · rw [m_L88_s, hQ.2.1, if_neg (nI_ge hlt (by omega)), q_ix_nI (by omega) (by decide), Option.bind_some, (hQ.2.2.2.2.1 i b hb).2, show (0 : Int32) = nI 0 from rfl, a2, Option.bind_some, nI_1, b2]
      · rw [← List.append_assoc]
        have e : z_cp3 rp m (pn 2) os (N + 1) i σ = z_cp3 rp m (pn 2) os N (i + 1) ((rp (ν b)).foldl (z_tk m (pn 2) os) σ) := by
          rw [z_cp3, hY.2.1, List.getElem?_map, hb]
          rfl
        rw [e]
        exact b4
/-- what is not of the old half keeps its numbers -/
theorem z_tk_f {up : Nat} {prom : Int32} {o : Option Nat} {y : Nat} (hy : y ∉ os) : (z_tk up prom os σ o).2.2.2.1 y = σ.2.2.2.1 y := by
  cases o with
  | none => rfl
  | some x =>
    by_cases hc : x ∈ os ∧ x ∉ σ.2.2.1
    · have hne : y ≠ x := fun e => hy (by rw [e]; exact hc.1)
      rcases z_tk_yes (up := up) (prom := prom) hc with ⟨-, -, e⟩ | e
      · rw [e]
        show q_u2 (q_u2 σ.2.2.2.1 x 2 _) x 3 1 y = _
        rw [q_u2_row _ _ _ _ _ hne, q_u2_row _ _ _ _ _ hne]
      · rw [e]
        show q_u2 (q_u2 σ.2.2.2.1 x 2 _) x 1 _ y = _
        rw [q_u2_row _ _ _ _ _ hne, q_u2_row _ _ _ _ _ hne]
    · rw [z_tk, if_neg hc]
theorem z_tks_f {up : Nat} {prom : Int32} {y : Nat} (hy : y ∉ os) : ∀ (l : List (Option Nat)) (σ : z_St), (l.foldl (z_tk up prom os) σ).2.2.2.1 y = σ.2.2.2.1 y
  | [], _ => rfl
  | o :: t, σ => by
    show (t.foldl (z_tk up prom os) (z_tk up prom os σ o)).2.2.2.1 y = _
    rw [z_tks_f hy t, z_tk_f hy]
theorem z_cw_no {up : Nat} {prom p : Int32} : ∀ (l : List Nat), (∀ x ∈ l, ¬ σ.2.2.2.1 x 2 = p) → l.foldl (z_cw rp up prom os p) σ = σ
  | [], _ => rfl
  | x :: t, h => by
    have e : z_cw rp up prom os p σ x = σ := by unfold z_cw; rw [if_neg (h x List.mem_cons_self)]
    show t.foldl (z_cw rp up prom os p) (z_cw rp up prom os p σ x) = σ
    rw [e]
    exact z_cw_no t (fun y hy => h y (List.mem_cons_of_mem _ hy))
theorem z_cw_one {up : Nat} {prom p : Int32} {x : Nat} (hn : wl.Nodup) (hx : x ∈ wl) (hp : σ.2.2.2.1 x 2 = p) (ho : ∀ y ∈ wl, y ∉ os) (hu : ∀ y ∈ wl, y ≠ x → ¬ σ.2.2.2.1 y 2 = p) : wl.foldl (z_cw rp up prom os p) σ = (rp x).foldl (z_tk up prom os) σ := by
  obtain ⟨A, C, rfl⟩ := List.append_of_mem hx
  obtain ⟨n1, n2, n3⟩ := List.nodup_append.mp hn
  obtain ⟨n4, n5⟩ := List.nodup_cons.mp n2
  rw [List.foldl_append, z_cw_no A (fun y hy => hu y (List.mem_append_left _ hy) (fun e => n3 y hy x List.mem_cons_self e))]
  show C.foldl (z_cw rp up prom os p) (z_cw rp up prom os p σ x) = _
  have e : z_cw rp up prom os p σ x = (rp x).foldl (z_tk up prom os) σ := by unfold z_cw; rw [if_pos hp]
  rw [e]
  refine z_cw_no C (fun y hy => ?_)
  have hym : y ∈ A ++ x :: C := List.mem_append_right _ (List.mem_cons_of_mem _ hy)
  rw [z_tks_f (ho y hym)]
  exact hu y hym (fun e => n4 (by rw [← e]; exact hy))
end ZLOOPS
