/-! MATH: words and symbols, on both sides -/
def m_SC (j : Nat) : List Int32 := q_str (100 + j)
def m_SR (k : Nat) : List Int32 := q_str (150 + k)
/-- the first text of n, from j on, that is w -/
def m_fnd (S : Nat → List Int32) (w : List Int32) : Nat → Nat → Option Nat
  | 0, _ => none
  | n + 1, j => if S j = w then some j else m_fnd S w n (j + 1)
theorem m_fnd_some {S : Nat → List Int32} {w : List Int32} : ∀ {n j k : Nat}, m_fnd S w n j = some k → S k = w ∧ j ≤ k ∧ k < j + n := by
  intro n
  induction n with
  | zero => intro j k h; cases h
  | succ n ih =>
    intro j k h
    rw [m_fnd] at h
    by_cases e : S j = w
    · rw [if_pos e] at h; cases h; exact ⟨e, by omega, by omega⟩
    · rw [if_neg e] at h
      obtain ⟨x, y, z⟩ := ih h
      exact ⟨x, by omega, by omega⟩
theorem m_fnd_none {S : Nat → List Int32} {w : List Int32} : ∀ {n j : Nat}, m_fnd S w n j = none → ∀ k, j ≤ k → k < j + n → S k ≠ w := by
  intro n
  induction n with
  | zero => intro j h k h1 h2; omega
  | succ n ih =>
    intro j h k h1 h2
    rw [m_fnd] at h
    by_cases e : S j = w
    · rw [if_pos e] at h; cases h
    · rw [if_neg e] at h
      by_cases hk : k = j
      · rw [hk]; exact e
      · exact ih h k (by omega) (by omega)
/-- len values from p on -/
def m_W (f : Nat → Int32) (p len : Nat) : List Int32 := (List.range len).map (fun i => f (p + i))
theorem m_W_len {f : Nat → Int32} {p len : Nat} : (m_W f p len).length = len := by unfold m_W; simp
theorem m_W_get {f : Nat → Int32} {p len i : Nat} (h : i < len) : (m_W f p len).getD i 0 = f (p + i) := by
  unfold m_W
  rw [List.getD_eq_getElem?_getD, List.getElem?_map, List.getElem?_range h]; rfl
theorem m_W_eq {f : Nat → Int32} {p len : Nat} {l : List Int32} : l = m_W f p len ↔ l.length = len ∧ ∀ i, i < len → f (p + i) = l.getD i 0 := by
  constructor
  · rintro rfl; exact ⟨m_W_len, fun i hi => (m_W_get hi).symm⟩
  · rintro ⟨h1, h2⟩
    refine List.ext_getElem? (fun i => ?_)
    by_cases hi : i < len
    · have e1 : l[i]? = some (l[i]'(by omega)) := List.getElem?_eq_getElem (by omega)
      have e2 : l.getD i 0 = l[i]'(by omega) := by rw [List.getD_eq_getElem?_getD, e1]; rfl
      rw [e1, ← e2, ← h2 i hi]
      unfold m_W
      rw [List.getElem?_map, List.getElem?_range hi]; rfl
    · rw [List.getElem?_eq_none (by omega), List.getElem?_eq_none (by rw [m_W_len]; omega)]
theorem m_W_congr {f g : Nat → Int32} {p q len : Nat} (h : ∀ i, i < len → f (p + i) = g (q + i)) : m_W f p len = m_W g q len := by
  rw [m_W_eq]
  exact ⟨m_W_len, fun i hi => by rw [m_W_get hi]; exact (h i hi).symm⟩
/-- n values alike, from i on -/
def m_eqW (f g : Nat → Int32) : Nat → Nat → Bool
  | 0, _ => true
  | n + 1, i => decide (f i = g i) && m_eqW f g n (i + 1)
theorem m_eqW_iff {f g : Nat → Int32} : ∀ {n i : Nat}, m_eqW f g n i = true ↔ ∀ j, i ≤ j → j < i + n → f j = g j := by
  intro n
  induction n with
  | zero => intro i; exact ⟨fun _ j h1 h2 => by omega, fun _ => rfl⟩
  | succ n ih =>
    intro i
    rw [m_eqW, Bool.and_eq_true, decide_eq_true_eq, ih]
    constructor
    · rintro ⟨h1, h2⟩ j h3 h4
      by_cases hj : j = i
      · rw [hj]; exact h1
      · exact h2 j (by omega) (by omega)
    · exact fun h => ⟨h i (Nat.le_refl _) (by omega), fun j h3 h4 => h j (by omega) (by omega)⟩
section
variable {tp mt tk md : m_Rr} {z : Nat}
theorem m_isWL (hB : m_By tp mt) (hz : z ≤ 2000) (hk : tk 5 = nI z) {v p : Nat} (hp : p + (q_str v).length < 2 ^ 30) : ∀ (n i fu : Nat), i + n = (q_str v).length → n < fu → f_X11_isWritten_L2 tp tk v (nI p) fu (nI i) = some (if m_eqW (fun j => m_vC mt z (p + j)) (fun j => (q_str v).getD j 0) n i = true then 0 else 1) := by
  intro n
  induction n with
  | zero =>
    intro i fu hi hfu
    obtain ⟨fu, rfl⟩ : ∃ z, fu = z + 1 := ⟨fu - 1, by omega⟩
    rw [f_X11_isWritten_L2, if_pos (nI_le (by omega) (by omega)), m_eqW, if_pos rfl]
  | succ n ih =>
    intro i fu hi hfu
    obtain ⟨fu, rfl⟩ : ∃ z, fu = z + 1 := ⟨fu - 1, by omega⟩
    rw [f_X11_isWritten_L2, if_neg (nI_ge (by omega) (by omega)), nI_add, m_atC hB hz hk (by omega), Option.bind_some, q_ix_nI (by omega) (by omega), Option.bind_some, nI_1, m_eqW]
    by_cases h : m_vC mt z (p + i) = (q_str v).getD i 0
    · rw [if_pos h, ih (i + 1) fu (by omega) (by omega), decide_eq_true h, Bool.true_and]
    · rw [if_neg h, decide_eq_false h, Bool.false_and, if_neg (by decide)]
theorem m_okstr : ∀ j, j < 49 → q_okstr (100 + j) = some () := by decide +kernel
theorem m_SC_len : ∀ j, j < 49 → (m_SC j).length ≤ 10 := by decide +kernel
theorem m_SR_len : ∀ j, j < 29 → (m_SR j).length ≤ 10 := by decide +kernel
theorem m_signL (hB : m_By tp mt) (hz : z ≤ 2000) (hk : tk 5 = nI z) {p len : Nat} (hp : p < 2 ^ 20) (hl : len < 2 ^ 20) : ∀ (n j fu : Nat), j + n = 49 → n < fu → f_X11_writtenSign_L7 tp tk (nI p) (nI len) (nI 49) fu (nI j) = some (match m_fnd m_SC (m_W (m_vC mt z) p len) n j with | none => (0, 0) | some k => (1, k)) := by
  intro n
  induction n with
  | zero =>
    intro j fu hj hfu
    obtain ⟨fu, rfl⟩ : ∃ z, fu = z + 1 := ⟨fu - 1, by omega⟩
    rw [f_X11_writtenSign_L7, if_pos (nI_le (by omega) (by omega))]; rfl
  | succ n ih =>
    intro j fu hj hfu
    obtain ⟨fu, rfl⟩ : ∃ z, fu = z + 1 := ⟨fu - 1, by omega⟩
    have e := ih (j + 1) fu (by omega) (by omega)
    have hlen := m_SC_len j (by omega)
    have hlen' : (q_str (100 + j)).length ≤ 10 := hlen
    rw [f_X11_writtenSign_L7, if_neg (nI_ge (by omega) (by omega)), q_ix_nI (by omega) (by decide), Option.bind_some, nI_1, m_fnd]
    by_cases h1 : (q_str (100 + j)).length = len
    · rw [if_neg (show ¬ ¬ nI (q_str (100 + j)).length = nI len from fun h => h (by rw [h1]))]
      unfold f_X11_isWritten
      have e2 := m_isWL hB hz hk (v := 100 + j) (p := p) (by omega) (q_str (100 + j)).length 0 4096 (by omega) (by omega)
      rw [show nI 0 = 0 from rfl] at e2
      rw [m_okstr j (by omega), Option.bind_some, e2, Option.bind_some]
      by_cases h2 : m_eqW (fun i => m_vC mt z (p + i)) (fun i => (q_str (100 + j)).getD i 0) (q_str (100 + j)).length 0 = true
      · have h3 : m_SC j = m_W (m_vC mt z) p len := m_W_eq.mpr ⟨h1, fun i hi => m_eqW_iff.mp h2 i (by omega) (by omega)⟩
        rw [if_pos h2, if_pos rfl, Option.bind_some, if_neg (by decide), if_pos h3]
      · have h3 : ¬ m_SC j = m_W (m_vC mt z) p len := fun h => h2 (m_eqW_iff.mpr (fun i _ hi => (m_W_eq.mp h).2 i (by omega)))
        rw [if_neg h2, if_neg (by decide), Option.bind_some, if_pos (by decide), if_neg h3]
        exact e
    · have h3 : ¬ m_SC j = m_W (m_vC mt z) p len := fun h => h1 (m_W_eq.mp h).1
      rw [if_pos (fun h => h1 ((nI_eq (by omega) (by omega)).mp h)), if_neg h3]
      exact e
theorem m_signC (hB : m_By tp mt) (hz : z ≤ 2000) (hk : tk 5 = nI z) {p len : Nat} (hp : p < 2 ^ 20) (hl : len < 2 ^ 20) : f_X11_writtenSign tp tk (nI p) (nI len) = some ((m_fnd m_SC (m_W (m_vC mt z) p len) 49 0).getD 1) ∧ q_e49 ((m_fnd m_SC (m_W (m_vC mt z) p len) 49 0).getD 1) = some () := by
  have e := m_signL hB hz hk hp hl 49 0 4096 (by omega) (by omega)
  unfold f_X11_writtenSign
  rw [show (0 : Int32) = nI 0 from rfl, e, Option.bind_some]
  cases h : m_fnd m_SC (m_W (m_vC mt z) p len) 49 0 with
  | none => exact ⟨rfl, rfl⟩
  | some k =>
    have := (m_fnd_some h).2.2
    have e2 : q_e49 k = some () := by unfold q_e49; rw [if_pos (by omega)]
    refine ⟨?_, e2⟩
    show (if (1 : Nat) = 0 then some 1 else (q_e49 k).bind fun _ => some k) = _
    rw [if_neg (by decide), e2]; rfl
theorem m_word18 {p len k : Nat} (hk : k < 29) (hlen : (q_str (150 + k)).length = len) (hp : p + len ≤ 2000) {f : Nat → Int32} (hf : ∀ i, i < len → mt (p + i) = f (p + i)) : ∀ (n i fu : Nat), i + n = len → n + 1 < fu → f_X15_word_L18 mt (nI p) (nI len) (nI k) fu true (nI i) = some (m_eqW (fun j => f (p + j)) (fun j => (q_str (150 + k)).getD j 0) n i) := by
  intro n
  induction n with
  | zero =>
    intro i fu hi hfu
    obtain ⟨fu, rfl⟩ : ∃ z, fu = z + 1 := ⟨fu - 1, by omega⟩
    rw [f_X15_word_L18, if_neg (by decide), if_pos (nI_le (by omega) (by omega)), m_eqW]
  | succ n ih =>
    intro i fu hi hfu
    obtain ⟨fu, rfl⟩ : ∃ z, fu = z + 1 := ⟨fu - 1, by omega⟩
    rw [f_X15_word_L18, if_neg (by decide), if_neg (nI_ge (by omega) (by omega)), q_ix_nI hk (by decide), Option.bind_some, q_ix_nI (show i < (q_str (150 + k)).length by omega) (by omega), Option.bind_some, nI_add, q_ix_nI (by omega) (by decide), Option.bind_some, nI_1, hf i (by omega), m_eqW]
    by_cases h : (q_str (150 + k)).getD i 0 = f (p + i)
    · rw [if_neg (fun hh => hh h), ih (i + 1) fu (by omega) (by omega), decide_eq_true h.symm, Bool.true_and]
    · rw [if_pos h, decide_eq_false (fun hh => h hh.symm), Bool.false_and]
      obtain ⟨fu, rfl⟩ : ∃ z, fu = z + 1 := ⟨fu - 1, by omega⟩
      rw [f_X15_word_L18, if_pos (by decide)]
theorem m_wordL {p len : Nat} (hl : len < 2 ^ 20) (hp : p + len ≤ 2000) {f : Nat → Int32} (hf : ∀ i, i < len → mt (p + i) = f (p + i)) : ∀ (n k fu : Nat), k + n = 29 → n < fu → f_X15_word_L2 mt (nI p) (nI len) fu (nI k) = some (match m_fnd m_SR (m_W f p len) n k with | none => (0, 0) | some j => (1, nI j)) := by
  intro n
  induction n with
  | zero =>
    intro k fu hk hfu
    obtain ⟨fu, rfl⟩ : ∃ z, fu = z + 1 := ⟨fu - 1, by omega⟩
    rw [f_X15_word_L2, if_pos (nI_le (by omega) (by omega))]; rfl
  | succ n ih =>
    intro k fu hk hfu
    obtain ⟨fu, rfl⟩ : ∃ z, fu = z + 1 := ⟨fu - 1, by omega⟩
    have e := ih (k + 1) fu (by omega) (by omega)
    have hlen' : (q_str (150 + k)).length ≤ 10 := m_SR_len k (by omega)
    rw [f_X15_word_L2, if_neg (nI_ge (by omega) (by omega)), q_ix_nI (by omega) (by decide), Option.bind_some, nI_1, m_fnd]
    by_cases h1 : (q_str (150 + k)).length = len
    · have e2 := m_word18 (mt := mt) (k := k) (by omega) h1 hp hf len 0 4096 (by omega) (by omega)
      rw [show nI 0 = 0 from rfl] at e2
      rw [if_neg (show ¬ ¬ nI (q_str (150 + k)).length = nI len from fun h => h (by rw [h1])), e2, Option.bind_some]
      by_cases h2 : m_eqW (fun j => f (p + j)) (fun j => (q_str (150 + k)).getD j 0) len 0 = true
      · have h3 : m_SR k = m_W f p len := m_W_eq.mpr ⟨h1, fun i hi => m_eqW_iff.mp h2 i (by omega) (by omega)⟩
        rw [h2, if_neg (by decide), if_pos h3]
      · have h3 : ¬ m_SR k = m_W f p len := fun h => h2 (m_eqW_iff.mpr (fun i _ hi => (m_W_eq.mp h).2 i (by omega)))
        rw [Bool.eq_false_iff.mpr h2, if_pos (by decide), if_neg h3]
        exact e
    · have h3 : ¬ m_SR k = m_W f p len := fun h => h1 (m_W_eq.mp h).1
      rw [if_pos (fun h => h1 ((nI_eq (by omega) (by omega)).mp h)), show (4096 : Nat) = 4095 + 1 from rfl, f_X15_word_L18, if_pos (by decide), Option.bind_some, if_pos (by decide), if_neg h3]
      exact e
theorem m_wordR {p len : Nat} (hl : len < 2 ^ 20) (hp : p + len ≤ 2000) {f : Nat → Int32} (hf : ∀ i, i < len → mt (p + i) = f (p + i)) : f_X15_word mt (nI p) (nI len) = some (match m_fnd m_SR (m_W f p len) 29 0 with | none => 40 | some j => nI j) := by
  have e := m_wordL hl hp hf 29 0 4096 (by omega) (by omega)
  unfold f_X15_word
  rw [show (0 : Int32) = nI 0 from rfl, e, Option.bind_some]
  cases m_fnd m_SR (m_W f p len) 29 0 with
  | none => rfl
  | some k => rfl
end
/-- what a kind of the class is called by the reference -/
def m_kdL : List Int32 := [900, 901, 41, 40, 999, 0, 1, 2, 3, 4, 7, 10, 11, 14, 6, 8, 9, 12, 13, 15, 16, 17, 18, 19, 20, 5, 21, 22, 23, 24, 25, 26, 27, 28, 90, 91, 141, 143, 109, 94, 93, 95, 92, 97, 110, 112, 111, 300, 301]
def m_kd (s : Nat) : Int32 := m_kdL.getD s 0
theorem m_kd_inj : ∀ s, s < 49 → ∀ t, t < 49 → m_kd s = m_kd t → s = t := by decide +kernel
theorem m_A1 : ∀ k, k < 29 → nI k = m_kd (if (m_fnd m_SC (m_SR k) 49 0).getD 1 = 1 then 3 else (m_fnd m_SC (m_SR k) 49 0).getD 1) ∧ 5 ≤ (m_fnd m_SC (m_SR k) 49 0).getD 1 ∧ (m_fnd m_SC (m_SR k) 49 0).getD 1 < 34 := by decide +kernel
theorem m_A2 : ∀ j, j < 49 → m_iL ((m_SC j).getD 0 0) = true → ∃ k, k < 29 ∧ m_SR k = m_SC j := by decide +kernel
/-- a word: both sides call it alike -/
theorem m_wordS {w : List Int32} (hw : m_iL (w.getD 0 0) = true) : ∃ s, s = (if (m_fnd m_SC w 49 0).getD 1 = 1 then 3 else (m_fnd m_SC w 49 0).getD 1) ∧ (match m_fnd m_SR w 29 0 with | none => (40 : Int32) | some j => nI j) = m_kd s ∧ (s = 3 ∨ 5 ≤ s ∧ s < 34) := by
  refine ⟨_, rfl, ?_⟩
  cases h : m_fnd m_SR w 29 0 with
  | some k =>
    obtain ⟨h1, -, h2⟩ := m_fnd_some h
    rw [← h1]
    obtain ⟨a1, a2, a3⟩ := m_A1 k (by omega)
    refine ⟨a1, Or.inr ?_⟩
    rw [if_neg (by omega)]
    exact ⟨a2, a3⟩
  | none =>
    have h1 := m_fnd_none h
    cases h2 : m_fnd m_SC w 49 0 with
    | none => exact ⟨rfl, Or.inl rfl⟩
    | some j =>
      obtain ⟨h3, -, h4⟩ := m_fnd_some h2
      obtain ⟨k, k1, k2⟩ := m_A2 j (by omega) (by rw [h3]; exact hw)
      exact absurd (k2.trans h3) (h1 k (by omega) (by omega))
def m_sy (x : Int32) : Int32 := if x ≤ 0 then 901 else if (128 : Int32) ≤ x then 901 else if q_sidx (q_str 180) 0 ((x.toUInt32 % 65536).toInt32) < 0 then 901 else 50 + x
theorem m_C1 : ∀ y, y < 256 → m_iL (nI y) = false → m_iD (nI y) = false → m_sy (nI y) = m_kd ((m_fnd m_SC [m_c y] 49 0).getD 1) ∧ ((m_fnd m_SC [m_c y] 49 0).getD 1 = 1 ∨ (34 ≤ (m_fnd m_SC [m_c y] 49 0).getD 1 ∧ (m_fnd m_SC [m_c y] 49 0).getD 1 < 49)) := by decide +kernel
theorem m_C2 : ∀ j, j < 49 → (m_SC j).length = 2 → m_iL ((m_SC j).getD 0 0) = true ∨ (j = 47 ∧ m_SC j = [60, 61]) ∨ (j = 48 ∧ m_SC j = [62, 61]) := by decide +kernel
theorem m_C3 : ∀ y, y < 256 → decide (m_c y = 60) = decide (nI y = 60) ∧ decide (m_c y = 62) = decide (nI y = 62) ∧ decide (m_c y = 61) = decide (nI y = 61) := by decide +kernel
theorem m_two {c1 c2 : Int32} (hc : m_iL c1 = false) : m_fnd m_SC [c1, c2] 49 0 = if c1 = 60 ∧ c2 = 61 then some 47 else if c1 = 62 ∧ c2 = 61 then some 48 else none := by
  by_cases h1 : c1 = 60 ∧ c2 = 61
  · obtain ⟨rfl, rfl⟩ := h1
    rw [if_pos ⟨rfl, rfl⟩]; decide +kernel
  · rw [if_neg h1]
    by_cases h2 : c1 = 62 ∧ c2 = 61
    · obtain ⟨rfl, rfl⟩ := h2
      rw [if_pos ⟨rfl, rfl⟩]; decide +kernel
    · rw [if_neg h2]
      cases h : m_fnd m_SC [c1, c2] 49 0 with
      | none => rfl
      | some j =>
        exfalso
        obtain ⟨h3, -, h4⟩ := m_fnd_some h
        rcases m_C2 j (by omega) (by rw [h3]; rfl) with e | ⟨-, e⟩ | ⟨-, e⟩
        · rw [h3] at e
          have e' : m_iL c1 = true := e
          rw [hc] at e'; exact absurd e' (by decide)
        · rw [h3] at e
          cases e
          exact h1 ⟨rfl, rfl⟩
        · rw [h3] at e
          cases e
          exact h2 ⟨rfl, rfl⟩

section
variable {tp mt tk md : m_Rr} {z : Nat}
/-- a token begins at p: what the class and the reference make of it -/
theorem m_token (hB : m_By tp mt) (hz : z ≤ 2000) (hk : tk 5 = nI z) (hmd : md 2 = nI z) {p i : Nat} (hp : p < z) (hi : i < 401) (mm : m_Rr) :
    (f_X11_tokenLength tp tk (nI p) = some 0 ∧ ∃ x, f_X15_kindAt md mt mm (nI p) (nI i) = some (901, q_up mm i x)) ∨
    ∃ s len, 1 ≤ len ∧ len ≤ 10 ∧ p + len ≤ z ∧ f_X11_tokenLength tp tk (nI p) = some (nI len) ∧ f_X11_tokenSign tp tk (nI p) (nI len) = some s ∧ f_X15_kindAt md mt mm (nI p) (nI i) = some (m_kd s, q_up mm i (nI len)) ∧ ((s = 2 ∧ len ≤ 6 ∧ ∀ j, j < len → m_iD (m_vR mt z (p + j)) = true) ∨ ((s = 3 ∨ (5 ≤ s ∧ s < 34)) ∧ ∀ j, j < len → m_pW mt z (p + j) = true) ∨ (34 ≤ s ∧ s < 49)) := by
  obtain ⟨v1, v2, v3, v4, v5⟩ := m_vk hB hz p
  obtain ⟨y, y1, y2, y3, y4, y5⟩ : ∃ y, y < 256 ∧ m_ch mt z p = y ∧ m_vR mt z p = nI y ∧ m_vC mt z p = m_c y ∧ mt p = nI y := by
    rcases m_ch_le hB hz p with ⟨h1, h2, h3, h4⟩ | ⟨h1, h2⟩
    · exact ⟨m_ch mt z p, h2, rfl, if_neg (by omega), if_neg (by omega), h3⟩
    · omega
  have hnr : ¬ nI y = -1 := m_nI_m1 (by omega)
  have hat : f_X11_at tp tk (nI p) = some (m_vC mt z p) := m_atC hB hz hk (by omega)
  have hby : f_X15_byteOf md mt (nI p) = some (nI y) := by rw [m_atR hB hz hmd (by omega), y3]
  have q401 : q_ix (nI i) 401 = some i := q_ix_nI hi (by decide)
  cases hL : m_iL (m_vR mt z p) with
  | true =>
    have hLy : m_iL (nI y) = true := by rw [← y3]; exact hL
    obtain ⟨e, he⟩ : ∃ e, e = m_run (m_pW mt z) (z - p) p := ⟨_, rfl⟩
    have hstep : m_run (m_pW mt z) (z - p) p = m_run (m_pW mt z) (z - (p + 1)) (p + 1) := by
      rw [show z - p = (z - (p + 1)) + 1 by omega, m_run, if_pos (by unfold m_pW; rw [hL]; rfl)]
    have hge := (m_run_ge (P := m_pW mt z) (n := z - (p + 1)) (e := p + 1))
    rw [← hstep, ← he] at hge
    have hin : ∀ j, j < e - p → m_pW mt z (p + j) = true := fun j hj => m_run_in (n := z - p) (e := p) (by omega) (by rw [← he]; omega)
    have eC : f_X11_tokenLength tp tk (nI p) = some (if (10 : Int32) < nI (e - p) then 0 else nI (e - p)) := by
      unfold f_X11_tokenLength f_X11_wordLength f_X11_lengthWithin
      rw [hat, Option.bind_some, m_isLC, Option.bind_some, v1, hL, if_neg (show ¬ q_bz true = 0 by decide), m_wordC hB hz hk (z - p) p 4096 (by omega) (by omega), ← he, Option.bind_some, Option.bind_some, m_subI (by omega)]
      by_cases h : (10 : Int32) < nI (e - p)
      · rw [if_pos h, if_pos h]; rfl
      · rw [if_neg h, if_neg h]; rfl
    have eR : f_X15_kindAt md mt mm (nI p) (nI i) = if nI (e - p) ≤ (10 : Int32) then (f_X15_word mt (nI p) (nI (e - p))).bind fun r => some (r, q_up mm i (nI (e - p))) else some (901, q_up mm i (nI (e - p))) := by
      unfold f_X15_kindAt
      have eL := m_runR hB hz hmd (v := nI y) (z - (p + 1)) (p + 1) 4096 (by omega) (by omega)
      rw [hLy, if_pos rfl, ← hstep, ← he] at eL
      rw [hby, Option.bind_some, if_pos hnr, m_isLR, Option.bind_some, hLy, if_pos (show ¬ q_bz true = 0 by decide), nI_1, eL, Option.bind_some, q401, Option.bind_some, Option.bind_some, if_neg (show ¬ q_bz true = 0 by decide), m_subI (by omega), Option.bind_some, if_neg (show ¬ q_bz true = 0 by decide)]
    by_cases h10 : e - p ≤ 10
    · refine Or.inr ?_
      have hf : ∀ j, j < e - p → mt (p + j) = m_vC mt z (p + j) := fun j hj => by
        have := hin j hj
        unfold m_pW at this
        obtain ⟨-, -, -, -, w5⟩ := m_vk hB hz (p + j)
        obtain ⟨w6, w7⟩ := w5 (Bool.or_eq_true_iff.mp this)
        rcases m_ch_le hB hz (p + j) with ⟨h1, h2, h3, h4⟩ | ⟨h1, h2⟩
        · rw [w6, h3]; unfold m_vR; rw [if_neg (by omega)]
        · omega
      have hw0 : m_iL ((m_W (m_vC mt z) p (e - p)).getD 0 0) = true := by
        rw [m_W_get (by omega), Nat.add_zero, v1]; exact hL
      obtain ⟨s, hs, s1, s2⟩ := m_wordS hw0
      obtain ⟨g1, g2⟩ := m_signC hB hz hk (p := p) (len := e - p) (by omega) (by omega)
      refine ⟨s, e - p, by omega, h10, by omega, ?_, ?_, ?_, Or.inr (Or.inl ⟨s2, hin⟩)⟩
      · rw [eC, if_neg (show ¬ (10 : Int32) < nI (e - p) from m_nlt (a := 10) (by omega) (by decide))]
      · unfold f_X11_tokenSign
        have hD : m_iD (m_vC mt z p) = false := by
          rw [v2, y3]
          have : ∀ y, y < 256 → m_iL (nI y) = true → m_iD (nI y) = false := by decide +kernel
          exact this y y1 hLy
        rw [hat, Option.bind_some, m_isDC, Option.bind_some, hD, if_pos (show q_bz false = 0 from rfl), g1, Option.bind_some, g2, Option.bind_some, hs]
        by_cases h : (m_fnd m_SC (m_W (m_vC mt z) p (e - p)) 49 0).getD 1 = 1
        · rw [if_pos h, if_pos h]
        · rw [if_neg h, if_neg h]
      · rw [eR, if_pos (show nI (e - p) ≤ (10 : Int32) from nI_le (b := 10) h10 (by decide)), m_wordR (by omega) (by omega) hf, s1]; rfl
    · refine Or.inl ⟨?_, nI (e - p), ?_⟩
      · rw [eC, if_pos (show (10 : Int32) < nI (e - p) from nI_lt (a := 10) (by omega) (by omega))]
      · rw [eR, if_neg (show ¬ nI (e - p) ≤ (10 : Int32) from nI_ge (a := 10) (by omega) (by omega))]
  | false =>
    have hLy : m_iL (nI y) = false := by rw [← y3]; exact hL
    cases hD : m_iD (m_vR mt z p) with
    | true =>
      have hDy : m_iD (nI y) = true := by rw [← y3]; exact hD
      obtain ⟨e, he⟩ : ∃ e, e = m_run (m_pD mt z) (z - p) p := ⟨_, rfl⟩
      have hstep : m_run (m_pD mt z) (z - p) p = m_run (m_pD mt z) (z - (p + 1)) (p + 1) := by
        rw [show z - p = (z - (p + 1)) + 1 by omega, m_run, if_pos (by unfold m_pD; rw [hD])]
      have hge := (m_run_ge (P := m_pD mt z) (n := z - (p + 1)) (e := p + 1))
      rw [← hstep, ← he] at hge
      have hin : ∀ j, j < e - p → m_iD (m_vR mt z (p + j)) = true := fun j hj => m_run_in (P := m_pD mt z) (n := z - p) (e := p) (by omega) (by rw [← he]; omega)
      have eC : f_X11_tokenLength tp tk (nI p) = some (if (6 : Int32) < nI (e - p) then 0 else nI (e - p)) := by
        unfold f_X11_tokenLength f_X11_digitCount f_X11_lengthWithin
        rw [hat, Option.bind_some, m_isLC, Option.bind_some, v1, hL, if_pos (show q_bz false = 0 from rfl), Option.bind_some, m_isDC, Option.bind_some, v2, hD, if_neg (show ¬ q_bz true = 0 by decide), m_digitC hB hz hk (z - p) p 4096 (by omega) (by omega), ← he, Option.bind_some, Option.bind_some, m_subI (by omega)]
        by_cases h : (6 : Int32) < nI (e - p)
        · rw [if_pos h, if_pos h]; rfl
        · rw [if_neg h, if_neg h]; rfl
      have eR : f_X15_kindAt md mt mm (nI p) (nI i) = if nI (e - p) ≤ (6 : Int32) then some (41, q_up mm i (nI (e - p))) else some (901, q_up mm i (nI (e - p))) := by
        unfold f_X15_kindAt
        have eL := m_runR hB hz hmd (v := nI y) (z - (p + 1)) (p + 1) 4096 (by omega) (by omega)
        rw [hLy, if_neg (show ¬ false = true by decide), ← hstep, ← he] at eL
        rw [hby, Option.bind_some, if_pos hnr, m_isLR, Option.bind_some, hLy, if_neg (show ¬ ¬ q_bz false = 0 from fun h => h rfl), m_isDR, Option.bind_some, hDy, if_neg (show ¬ q_bz true = 0 by decide), nI_1, eL, Option.bind_some, q401, Option.bind_some, Option.bind_some, if_pos (show q_bz false = 0 from rfl), m_subI (by omega), Option.bind_some, if_pos (show q_bz false = 0 from rfl)]
      by_cases h6 : e - p ≤ 6
      · refine Or.inr ⟨2, e - p, by omega, by omega, by omega, ?_, ?_, ?_, Or.inl ⟨rfl, h6, hin⟩⟩
        · rw [eC, if_neg (show ¬ (6 : Int32) < nI (e - p) from m_nlt (a := 6) (by omega) (by decide))]
        · unfold f_X11_tokenSign
          rw [hat, Option.bind_some, m_isDC, Option.bind_some, v2, hD, if_neg (show ¬ q_bz true = 0 by decide)]
        · rw [eR, if_pos (show nI (e - p) ≤ (6 : Int32) from nI_le (b := 6) h6 (by decide))]; rfl
      · refine Or.inl ⟨?_, nI (e - p), ?_⟩
        · rw [eC, if_pos (show (6 : Int32) < nI (e - p) from nI_lt (a := 6) (by omega) (by omega))]
        · rw [eR, if_neg (show ¬ nI (e - p) ≤ (6 : Int32) from nI_ge (a := 6) (by omega) (by omega))]
    | false =>
      have hDy : m_iD (nI y) = false := by rw [← y3]; exact hD
      have hDC : m_iD (m_vC mt z p) = false := v2.trans hD
      have hLC : m_iL (m_vC mt z p) = false := v1.trans hL
      obtain ⟨g1, g2⟩ := m_signC hB hz hk (p := p) (len := 2) (by omega) (by omega)
      obtain ⟨k1, k2⟩ := m_signC hB hz hk (p := p) (len := 1) (by omega) (by omega)
      have hW2 : m_W (m_vC mt z) p 2 = [m_vC mt z p, m_vC mt z (p + 1)] := rfl
      have hW1 : m_W (m_vC mt z) p 1 = [m_c y] := by rw [← y4]; rfl
      rw [hW2, m_two hLC] at g1 g2
      rw [hW1] at k1 k2
      obtain ⟨c60, c62, -⟩ := m_C3 y y1
      have c60 := decide_eq_decide.mp c60
      have c62 := decide_eq_decide.mp c62
      have hby1 : f_X15_byteOf md mt (nI p + 1) = some (m_vR mt z (p + 1)) := by rw [nI_1]; exact m_atR hB hz hmd (by omega)
      have h61 : m_vC mt z (p + 1) = 61 ↔ m_vR mt z (p + 1) = 61 := by
        unfold m_vC m_vR
        rcases m_ch_le hB hz (p + 1) with ⟨h1, h2, h3, h4⟩ | ⟨h1, h2⟩
        · rw [if_neg (by omega), if_neg (by omega)]
          exact decide_eq_decide.mp (m_C3 _ h2).2.2
        · rw [if_pos h2, if_pos h2]; decide
      have eC : f_X11_tokenLength tp tk (nI p) = if (m_c y = 60 ∧ m_vC mt z (p + 1) = 61) ∨ (m_c y = 62 ∧ m_vC mt z (p + 1) = 61) then some 2 else if (m_fnd m_SC [m_c y] 49 0).getD 1 = 1 then some 0 else some 1 := by
        unfold f_X11_tokenLength
        rw [hat, Option.bind_some, m_isLC, Option.bind_some, hLC, if_pos (show q_bz false = 0 from rfl), Option.bind_some, m_isDC, Option.bind_some, hDC, if_pos (show q_bz false = 0 from rfl), show (2 : Int32) = nI 2 from rfl, g1, Option.bind_some, g2, Option.bind_some, show (1 : Int32) = nI 1 from rfl, k1, Option.bind_some, k2, Option.bind_some, y4]
        by_cases h1 : m_c y = 60 ∧ m_vC mt z (p + 1) = 61
        · rw [if_pos h1, if_pos (Or.inl h1), if_neg (by decide)]
        · rw [if_neg h1]
          by_cases h2 : m_c y = 62 ∧ m_vC mt z (p + 1) = 61
          · rw [if_pos h2, if_pos (Or.inr h2), if_neg (by decide)]
          · rw [if_neg h2, if_pos (show (none : Option Nat).getD 1 = 1 from rfl), if_neg (show ¬ ((m_c y = 60 ∧ m_vC mt z (p + 1) = 61) ∨ (m_c y = 62 ∧ m_vC mt z (p + 1) = 61)) from fun h => h.elim h1 h2)]
      have sy : ∀ x : Int32, (if nI y ≤ 0 then some ((901 : Int32), q_up mm i x) else if (128 : Int32) ≤ nI y then some ((901 : Int32), q_up mm i x) else if (q_sidx (q_str 180) 0 (((nI y).toUInt32 % 65536).toInt32)) < 0 then some ((901 : Int32), q_up mm i x) else some ((50 : Int32) + nI y, q_up mm i x)) = some (m_sy (nI y), q_up mm i x) := fun x => by
        unfold m_sy
        by_cases h1 : nI y ≤ 0
        · rw [if_pos h1, if_pos h1]
        · rw [if_neg h1, if_neg h1]
          by_cases h2 : (128 : Int32) ≤ nI y
          · rw [if_pos h2, if_pos h2]
          · rw [if_neg h2, if_neg h2]
            by_cases h3 : (q_sidx (q_str 180) 0 (((nI y).toUInt32 % 65536).toInt32)) < 0
            · rw [if_pos h3, if_pos h3]
            · rw [if_neg h3, if_neg h3]
      have eR : f_X15_kindAt md mt mm (nI p) (nI i) = if nI y = 60 ∧ m_vR mt z (p + 1) = 61 then some (300, q_up mm i 2) else if nI y = 62 ∧ m_vR mt z (p + 1) = 61 then some (301, q_up mm i 2) else some (m_sy (nI y), q_up mm i 1) := by
        unfold f_X15_kindAt
        rw [hby, Option.bind_some, if_pos hnr, m_isLR, Option.bind_some, hLy, if_neg (show ¬ ¬ q_bz false = 0 from fun h => h rfl), m_isDR, Option.bind_some, hDy, if_pos (show q_bz false = 0 from rfl)]
        by_cases h60 : nI y = 60
        · rw [if_pos h60, hby1, Option.bind_some]
          by_cases h61' : m_vR mt z (p + 1) = 61
          · rw [if_neg (show ¬ ¬ m_vR mt z (p + 1) = 61 from fun h => h h61'), if_neg (show ¬ (1 : Int32) = 0 by decide), q401, Option.bind_some, if_neg (show ¬ (1 : Int32) = 0 by decide), if_neg (show ¬ ¬ nI y = 60 from fun h => h h60), if_pos ⟨h60, h61'⟩]
          · rw [if_pos h61', if_pos rfl, q401, Option.bind_some, if_pos rfl, sy, if_neg (show ¬ (nI y = 60 ∧ m_vR mt z (p + 1) = 61) from fun h => h61' h.2), if_neg (show ¬ (nI y = 62 ∧ m_vR mt z (p + 1) = 61) from fun h => h61' h.2)]
        · rw [if_neg h60, if_neg (show ¬ (nI y = 60 ∧ m_vR mt z (p + 1) = 61) from fun h => h60 h.1)]
          by_cases h62 : nI y = 62
          · rw [if_neg (show ¬ ¬ nI y = 62 from fun h => h h62), hby1, Option.bind_some]
            by_cases h61' : m_vR mt z (p + 1) = 61
            · rw [if_neg (show ¬ ¬ m_vR mt z (p + 1) = 61 from fun h => h h61'), if_neg (show ¬ (1 : Int32) = 0 by decide), q401, Option.bind_some, if_neg (show ¬ (1 : Int32) = 0 by decide), if_pos h60, if_pos ⟨h62, h61'⟩]
            · rw [if_pos h61', if_pos rfl, q401, Option.bind_some, if_pos rfl, sy, if_neg (show ¬ (nI y = 62 ∧ m_vR mt z (p + 1) = 61) from fun h => h61' h.2)]
          · rw [if_pos h62, if_pos rfl, q401, Option.bind_some, if_pos rfl, sy, if_neg (show ¬ (nI y = 62 ∧ m_vR mt z (p + 1) = 61) from fun h => h62 h.1)]
      obtain ⟨t1, t2⟩ := m_C1 y y1 hLy hDy
      by_cases h1 : m_c y = 60 ∧ m_vC mt z (p + 1) = 61
      · have g1' := g1
        have g2' := g2
        rw [y4, if_pos h1] at g1' g2'
        refine Or.inr ⟨47, 2, by omega, by omega, ?_, ?_, ?_, ?_, Or.inr (Or.inr (by omega))⟩
        · rcases m_ch_le hB hz (p + 1) with ⟨h3, -⟩ | ⟨-, h3⟩
          · omega
          · have := h61.mp h1.2
            unfold m_vR at this
            rw [if_pos h3] at this
            exact absurd this (by decide)
        · rw [eC, if_pos (Or.inl h1)]; rfl
        · unfold f_X11_tokenSign
          rw [hat, Option.bind_some, m_isDC, Option.bind_some, hDC, if_pos (show q_bz false = 0 from rfl), g1', Option.bind_some, g2', Option.bind_some]; rfl
        · rw [eR, if_pos ⟨c60.mp h1.1, h61.mp h1.2⟩]; rfl
      · by_cases h2 : m_c y = 62 ∧ m_vC mt z (p + 1) = 61
        · have g1' := g1
          have g2' := g2
          rw [y4, if_neg h1, if_pos h2] at g1' g2'
          refine Or.inr ⟨48, 2, by omega, by omega, ?_, ?_, ?_, ?_, Or.inr (Or.inr (by omega))⟩
          · rcases m_ch_le hB hz (p + 1) with ⟨h3, -⟩ | ⟨-, h3⟩
            · omega
            · have := h61.mp h2.2
              unfold m_vR at this
              rw [if_pos h3] at this
              exact absurd this (by decide)
          · rw [eC, if_pos (Or.inr h2)]; rfl
          · unfold f_X11_tokenSign
            rw [hat, Option.bind_some, m_isDC, Option.bind_some, hDC, if_pos (show q_bz false = 0 from rfl), g1', Option.bind_some, g2', Option.bind_some]; rfl
          · rw [eR, if_neg (fun h => h1 ⟨c60.mpr h.1, h61.mpr h.2⟩), if_pos ⟨c62.mp h2.1, h61.mp h2.2⟩]; rfl
        · have eC' := eC
          rw [if_neg (fun h => h.elim h1 h2)] at eC'
          have eR' := eR
          rw [if_neg (fun h => h1 ⟨c60.mpr h.1, h61.mpr h.2⟩), if_neg (fun h => h2 ⟨c62.mpr h.1, h61.mpr h.2⟩), t1] at eR'
          by_cases h3 : (m_fnd m_SC [m_c y] 49 0).getD 1 = 1
          · refine Or.inl ⟨by rw [eC', if_pos h3], 1, by rw [eR', h3]; rfl⟩
          · refine Or.inr ⟨(m_fnd m_SC [m_c y] 49 0).getD 1, 1, by omega, by omega, by omega, by rw [eC', if_neg h3]; rfl, ?_, by rw [eR']; rfl, Or.inr (Or.inr (t2.resolve_left h3))⟩
            unfold f_X11_tokenSign
            rw [hat, Option.bind_some, m_isDC, Option.bind_some, hDC, if_pos (show q_bz false = 0 from rfl), k1, Option.bind_some, k2, Option.bind_some, if_neg h3]
end
