/-! MATH: lists of bales, weighed -/
def m_tw (w : Nat → Nat) : List Nat → Nat
  | [] => 0
  | b :: t => w b + m_tw w t
theorem m_tw_app {w : Nat → Nat} {b : List Nat} : ∀ {a : List Nat}, m_tw w (a ++ b) = m_tw w a + m_tw w b := by
  intro a
  induction a with
  | nil => show m_tw w b = 0 + m_tw w b; omega
  | cons x t ih => show w x + m_tw w (t ++ b) = w x + m_tw w t + m_tw w b; rw [ih]; omega
theorem m_tw_erase {w : Nat → Nat} {a : Nat} : ∀ {k : List Nat}, a ∈ k → m_tw w k = w a + m_tw w (k.erase a) := by
  intro k
  induction k with
  | nil => intro h; cases h
  | cons x t ih =>
    intro h
    by_cases hx : x = a
    · subst hx; rw [List.erase_cons_head]; rfl
    · have ht : a ∈ t := (List.mem_cons.mp h).resolve_left (fun e => hx e.symm)
      rw [List.erase_cons_tail (by simpa using hx)]
      show w x + m_tw w t = w a + (w x + m_tw w (t.erase a))
      rw [ih ht]; omega
theorem m_sub {w : Nat → Nat} : ∀ {l k : List Nat}, l.Nodup → (∀ x ∈ l, x ∈ k) → m_tw w l ≤ m_tw w k := by
  intro l
  induction l with
  | nil => intro k _ _; exact Nat.zero_le _
  | cons a t ih =>
    intro k hn hs
    have hn2 := List.nodup_cons.mp hn
    rw [m_tw_erase (hs a List.mem_cons_self)]
    have := ih (k := k.erase a) hn2.2 (fun x hx => by
      have hne : x ≠ a := fun e => hn2.1 (by rw [← e]; exact hx)
      exact (List.mem_erase_of_ne hne).mpr (hs x (List.mem_cons_of_mem _ hx)))
    show w a + m_tw w t ≤ _
    omega
theorem m_tw_1 {l : List Nat} : m_tw (fun _ => 1) l = l.length := by
  induction l with
  | nil => rfl
  | cons a t ih => show 1 + m_tw (fun _ => 1) t = t.length + 1; rw [ih]; omega
theorem m_sub_len {l k : List Nat} (h1 : l.Nodup) (h2 : ∀ x ∈ l, x ∈ k) : l.length ≤ k.length := by
  have := m_sub (w := fun _ => 1) h1 h2
  rwa [m_tw_1, m_tw_1] at this
theorem m_tw_len {w : Nat → Nat} {l : List Nat} (h : ∀ x ∈ l, 1 ≤ w x) : l.length ≤ m_tw w l := by
  induction l with
  | nil => exact Nat.le_refl _
  | cons a t ih =>
    have h1 := h a List.mem_cons_self
    have h2 := ih (fun x hx => h x (List.mem_cons_of_mem _ hx))
    show t.length + 1 ≤ w a + m_tw w t
    omega
theorem m_tw_congr {u v : Nat → Nat} {l : List Nat} (h : ∀ x ∈ l, u x = v x) : m_tw u l = m_tw v l := by
  induction l with
  | nil => rfl
  | cons a t ih =>
    show u a + m_tw u t = v a + m_tw v t
    rw [h a List.mem_cons_self, ih (fun x hx => h x (List.mem_cons_of_mem _ hx))]
theorem m_tw_add {u v : Nat → Nat} {l : List Nat} : m_tw (fun x => u x + v x) l = m_tw u l + m_tw v l := by
  induction l with
  | nil => rfl
  | cons a t ih =>
    show u a + v a + m_tw (fun x => u x + v x) t = u a + m_tw u t + (v a + m_tw v t)
    rw [ih]; omega
theorem m_tw_0 {l : List Nat} {w : Nat → Nat} (h : ∀ x ∈ l, w x = 0) : m_tw w l = 0 := by
  induction l with
  | nil => rfl
  | cons a t ih =>
    show w a + m_tw w t = 0
    rw [h a List.mem_cons_self, ih (fun x hx => h x (List.mem_cons_of_mem _ hx))]
theorem m_tw_one {a : Nat} : ∀ {k : List Nat}, k.Nodup → a ∈ k → m_tw (fun x => if x = a then 1 else 0) k = 1 := by
  intro k
  induction k with
  | nil => intro _ h; cases h
  | cons x t ih =>
    intro hn h
    have hn2 := List.nodup_cons.mp hn
    show (if x = a then 1 else 0) + m_tw _ t = 1
    by_cases hx : x = a
    · subst hx
      rw [if_pos rfl, m_tw_0 (fun y hy => if_neg (fun e => hn2.1 (by rw [← e]; exact hy)))]
    · rw [if_neg hx, ih hn2.2 ((List.mem_cons.mp h).resolve_left (fun e => hx e.symm))]
theorem m_tw_in {k : List Nat} (hk : k.Nodup) : ∀ {l : List Nat}, l.Nodup → (∀ x ∈ l, x ∈ k) → m_tw (fun x => if x ∈ l then 1 else 0) k = l.length := by
  intro l
  induction l with
  | nil => intro _ _; exact m_tw_0 (fun x _ => by simp)
  | cons a t ih =>
    intro hn hs
    have hn2 := List.nodup_cons.mp hn
    rw [m_tw_congr (v := fun x => (if x ∈ t then 1 else 0) + (if x = a then 1 else 0)) (fun x hx => by
      by_cases h1 : x = a
      · subst h1; simp [hn2.1]
      · simp [h1]), m_tw_add, ih hn2.2 (fun x hx => hs x (List.mem_cons_of_mem _ hx)), m_tw_one hk (hs a List.mem_cons_self)]
    rfl
/-- how many of k are not in l -/
def m_cn (l k : List Nat) : Nat := m_tw (fun x => if x ∈ l then 0 else 1) k
theorem m_cn_len {l k : List Nat} (hk : k.Nodup) (hl : l.Nodup) (hs : ∀ x ∈ l, x ∈ k) : m_cn l k = k.length - l.length := by
  have h1 := m_tw_in hk hl hs
  have h2 := m_tw_add (u := fun x => if x ∈ l then 1 else 0) (v := fun x => if x ∈ l then 0 else 1) (l := k)
  rw [m_tw_congr (v := fun _ => 1) (fun x _ => by by_cases h : x ∈ l <;> simp [h]), m_tw_1] at h2
  unfold m_cn
  omega
theorem m_tot_tw {sz : Nat → Int32} {w : Nat → Nat} {l : List Nat} (h : ∀ b ∈ l, sz b = nI (w b)) : m_tot sz l = nI (m_tw w l) := by
  induction l with
  | nil => rfl
  | cons a t ih =>
    show sz a + m_tot sz t = nI (w a + m_tw w t)
    rw [h a List.mem_cons_self, ih (fun x hx => h x (List.mem_cons_of_mem _ hx)), nI_add]
theorem m_sm_list {f : Nat → Int32} {n : Nat} : ∀ {l : List Nat}, l.Nodup → (∀ x ∈ l, x < n) → m_sm (fun i => i ∈ l) f n = m_tot f l := by
  intro l
  induction l with
  | nil => intro _ _; exact m_sm_none (fun i _ h => by cases h)
  | cons a t ih =>
    intro hn hs
    have hn2 := List.nodup_cons.mp hn
    rw [m_sm_in (p := fun i => i ∈ t) (f := f) hn2.1 List.mem_cons_self (hs a List.mem_cons_self) (fun i _ hi => by simp [hi]) (fun _ _ _ _ => rfl), ih hn2.2 (fun x hx => hs x (List.mem_cons_of_mem _ hx))]
    show m_tot f t + f a = f a + m_tot f t
    rw [Int32.add_comm]
theorem m_sm_half {sw f : Nat → Int32} {h : List Nat} (hn : h.Nodup) (hm : ∀ b, b ∈ h ↔ b < 128 ∧ sw b = 1) (hz : ∀ b, 128 ≤ b → b < 136 → sw b = 0) : m_sm (fun i => sw i = 1) f 136 = m_tot f h := by
  rw [← m_sm_list (n := 136) hn (fun x hx => by have := ((hm x).mp hx).1; omega)]
  refine m_sm_congr (fun i hi => ?_) (fun _ _ _ => rfl)
  rw [hm]
  constructor
  · intro e
    refine ⟨?_, e⟩
    rcases Nat.lt_or_ge i 128 with h1 | h1
    · exact h1
    · rw [hz i h1 hi] at e; exact absurd e (by decide)
  · exact fun e => e.2
theorem m_tot_1 {l : List Nat} : m_tot (fun _ => 1) l = nI l.length := by
  have e := m_tot_tw (sz := fun _ => 1) (w := fun _ => 1) (l := l) (fun _ _ => rfl)
  rw [m_tw_1] at e
  exact e
/-- the size of a bale as a number -/
def m_w (sz : Nat → Int32) (b : Nat) : Nat := (sz b).toNatClampNeg
theorem m_w_nI {sz : Nat → Int32} {b s : Nat} (h : sz b = nI s) (hs : s < 2147483648) : m_w sz b = s := by unfold m_w; rw [h, nI_clamp hs]
/-- those of k that are not in l are gone -/
def m_ze (l k : List Nat) (ly : Nat → Int32) : Nat → Int32 := fun b => if b ∈ k ∧ b ∉ l then 0 else ly b
theorem m_ze_0 {l : List Nat} {ly : Nat → Int32} : m_ze l [] ly = ly := by funext b; unfold m_ze; rw [if_neg (fun h => by cases h.1)]
theorem m_ze_in {l k : List Nat} {b : Nat} {ly : Nat → Int32} (h : b ∈ l) : m_ze l (k ++ [b]) ly = m_ze l k ly := by
  funext c
  unfold m_ze
  by_cases hc : c = b
  · subst hc; rw [if_neg (fun hh => hh.2 h), if_neg (fun hh => hh.2 h)]
  · have : (c ∈ k ++ [b]) ↔ c ∈ k := by simp [hc]
    simp only [this]
theorem m_ze_out {l k : List Nat} {b : Nat} {ly : Nat → Int32} (h : b ∉ l) : m_ze l (k ++ [b]) ly = q_up (m_ze l k ly) b 0 := by
  funext c
  rw [m_up_of]
  unfold m_ze
  by_cases hc : c = b
  · subst hc; rw [if_pos ⟨by simp, h⟩, if_pos rfl]
  · have : (c ∈ k ++ [b]) ↔ c ∈ k := by simp [hc]
    simp only [this, if_neg hc]
theorem m_remove {ly : Nat → Int32} {b : Nat} (h : b < 128) : f_X1_remove ly (nI b) = some (q_up ly b 0) := by
  unfold f_X1_remove
  rw [if_neg (nI_pos (by omega)), if_neg (show ¬ (128 : Int32) ≤ nI b from nI_ge h (by decide)), q_ix_nI h (by decide)]; rfl
theorem m_loseL {nd ro ly : Nat → Int32} {l k : List Nat} (hQ : ∀ b, b < 128 → (b ∈ l ↔ nd b ≠ -1)) (hro : ∀ i b, k[i]? = some b → ro i = nI b) (hlt : ∀ x ∈ k, x < 128) (h64 : k.length ≤ 64) : ∀ (n i fu : Nat), i + n = k.length → n < fu → f_X2_loseRest_L4 nd ro (nI k.length) fu (m_ze l (k.take i) ly) (nI (m_cn l (k.take i))) (nI i) = some (nI (m_cn l k), m_ze l k ly) := by
  intro n
  induction n with
  | zero =>
    intro i fu hi hfu
    obtain ⟨fu, rfl⟩ : ∃ z, fu = z + 1 := ⟨fu - 1, by omega⟩
    obtain rfl : i = k.length := by omega
    rw [f_X2_loseRest_L4, if_pos (nI_le (Nat.le_refl _) (by omega)), List.take_length]
  | succ n ih =>
    intro i fu hi hfu
    obtain ⟨fu, rfl⟩ : ∃ z, fu = z + 1 := ⟨fu - 1, by omega⟩
    have hlt2 : i < k.length := by omega
    obtain ⟨b, hb⟩ : ∃ b, k[i]? = some b := ⟨k[i], List.getElem?_eq_getElem hlt2⟩
    have hb8 := hlt b (List.mem_of_getElem? hb)
    have e := ih (i + 1) fu (by omega) (by omega)
    have htk : k.take (i + 1) = k.take i ++ [b] := by rw [List.take_succ, hb]; rfl
    rw [htk] at e
    rw [f_X2_loseRest_L4, if_neg (nI_ge (by omega) (by omega)), if_neg (nI_ge (by omega) (by omega)), q_ix_nI (by omega) (by decide), Option.bind_some, hro i b hb, m_lhas hb8, Option.bind_some, Option.bind_some, hro i b hb, m_remove hb8, Option.bind_some, nI_1, nI_1]
    by_cases hbl : b ∈ l
    · have h1 := (hQ b hb8).mp hbl
      rw [if_pos (by simp only [h1, not_false_eq_true, decide_true]; decide)]
      rw [m_ze_in hbl] at e
      unfold m_cn at e
      rw [m_tw_app] at e
      simp only [m_tw, hbl, if_true, Nat.add_zero] at e
      exact e
    · have h1 : nd b = -1 := Classical.not_not.mp (fun h => hbl ((hQ b hb8).mpr h))
      rw [if_neg (by simp only [h1, not_true_eq_false, decide_false]; decide)]
      rw [m_ze_out hbl] at e
      unfold m_cn at e
      rw [m_tw_app] at e
      simp only [m_tw, hbl, if_false, Nat.add_zero] at e
      exact e
theorem m_lose {nd ro ly bn : Nat → Int32} {l k : List Nat} (hQ : ∀ b, b < 128 → (b ∈ l ↔ nd b ≠ -1)) (hro : ∀ i b, k[i]? = some b → ro i = nI b) (hlt : ∀ x ∈ k, x < 128) (h64 : k.length ≤ 64) : f_X2_loseRest bn ly nd ro (nI k.length) = some (nI (m_cn l k), q_up bn 14 (bn 14 + nI (m_cn l k)), m_ze l k ly) := by
  unfold f_X2_loseRest
  have e := m_loseL (ly := ly) hQ hro hlt h64 k.length 0 4096 (by omega) (by omega)
  rw [List.take_zero, m_ze_0, show m_cn l [] = 0 from rfl, show nI 0 = 0 from rfl] at e
  rw [e]; rfl
/-- the reference: the bales of the old half are gone, to begin with -/
theorem m_L16 {ol sw : Nat → Int32} : ∀ (n i fu : Nat), i + n = 136 → n < fu → f_X14_copyAll_L16 ol fu (fun b => if b < i ∧ ol b = 1 then 0 else sw b) (nI i) = some (fun b => if b < 136 ∧ ol b = 1 then 0 else sw b) := by
  intro n
  induction n with
  | zero =>
    intro i fu hi hfu
    obtain ⟨fu, rfl⟩ : ∃ z, fu = z + 1 := ⟨fu - 1, by omega⟩
    obtain rfl : i = 136 := by omega
    rw [f_X14_copyAll_L16, if_pos (show (136 : Int32) ≤ nI 136 from nI_le (Nat.le_refl _) (by decide))]
  | succ n ih =>
    intro i fu hi hfu
    obtain ⟨fu, rfl⟩ : ∃ z, fu = z + 1 := ⟨fu - 1, by omega⟩
    have e := ih (i + 1) fu (by omega) (by omega)
    rw [f_X14_copyAll_L16, if_neg (show ¬ (136 : Int32) ≤ nI i from nI_ge (b := 136) (by omega) (by decide)), q_ix_nI (by omega) (by decide), Option.bind_some, Option.bind_some, nI_1, ← e]
    by_cases ho : ol i = 1
    · rw [if_neg (fun h => h ho)]
      congr 1
      funext b
      rw [m_up_of]
      by_cases hb : b = i
      · subst hb; rw [if_pos rfl, if_pos ⟨by omega, ho⟩]
      · rw [if_neg hb]
        by_cases h1 : b < i ∧ ol b = 1
        · rw [if_pos h1, if_pos ⟨by omega, h1.2⟩]
        · rw [if_neg h1, if_neg (fun h => h1 ⟨by omega, h.2⟩)]
    · rw [if_pos ho]
      congr 1
      funext b
      by_cases h1 : b < i ∧ ol b = 1
      · rw [if_pos h1, if_pos ⟨by omega, h1.2⟩]
      · rw [if_neg h1, if_neg (fun h => h1 ⟨by
          have : b ≠ i := fun e => ho (by rw [← e]; exact h.2)
          omega, h.2⟩)]
