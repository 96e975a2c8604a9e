/-! MATH: a bale is taken over: both sides in step -/
def m_tot (sz : Nat → Int32) : List Nat → Int32
  | [] => 0
  | b :: t => sz b + m_tot sz t
theorem m_tot_a {sz : Nat → Int32} {b : Nat} : ∀ {l : List Nat}, m_tot sz (l ++ [b]) = m_tot sz l + sz b := by
  intro l
  induction l with
  | nil => show sz b + 0 = 0 + sz b; rw [Int32.add_zero, Int32.zero_add]
  | cons a t ih => show sz a + m_tot sz (t ++ [b]) = sz a + m_tot sz t + sz b; rw [ih, Int32.add_assoc]
theorem m_Lf_off {m b : Nat} {x y : Int32} {lr sw sp ss : Nat → Int32} (h : m_Lf m lr sw sp ss) (hw : ¬ sw b = 2) (hx : ¬ x = 2) : m_Lf m lr (q_up sw b x) (q_up sp b y) ss := by
  obtain ⟨h64, h1, h2⟩ := h
  refine ⟨h64, fun c hc hcw => ?_, fun q hq => ?_⟩
  · by_cases hcb : c = b
    · subst hcb; rw [m_up_s] at hcw; exact absurd hcw hx
    · rw [m_up_n hcb] at hcw
      rw [m_up_n hcb]
      exact h1 c hc hcw
  · rcases h2 q hq with e | ⟨c, a1, a2, a3, p, s, a4⟩
    · exact Or.inl e
    · have hcb : c ≠ b := fun e => hw (by rw [← e]; exact a2)
      exact Or.inr ⟨c, a1, by rw [m_up_n hcb]; exact a2, a3, p, s, by rw [m_up_n hcb]; exact a4⟩
/-- the row of a half: bales in their order, one behind the other -/
def m_Rw (sz pl rw : Nat → Int32) (h : List Nat) : Prop := ∀ i b, h[i]? = some b → rw i = nI b ∧ pl b = m_tot sz (h.take i)
theorem m_Rw_a {sz pl rw : Nat → Int32} {h : List Nat} {b : Nat} (hR : m_Rw sz pl rw h) (hb : b ∉ h) : m_Rw sz (q_up pl b (m_tot sz h)) (q_up rw h.length (nI b)) (h ++ [b]) := by
  intro i c hi
  by_cases hil : i < h.length
  · rw [List.getElem?_append_left hil] at hi
    have hcb : c ≠ b := fun e => hb (by rw [← e]; exact List.mem_of_getElem? hi)
    rw [m_up_n (by omega), m_up_n hcb, List.take_append_of_le_length (by omega)]
    exact hR i c hi
  · have h9 := (List.getElem?_eq_some_iff.mp hi).1
    simp at h9
    obtain rfl : i = h.length := by omega
    rw [List.getElem?_append_right (Nat.le_refl _), Nat.sub_self] at hi
    cases hi
    rw [m_up_s, m_up_s, List.take_append_of_le_length (Nat.le_refl _), List.take_length]
    exact ⟨rfl, rfl⟩
/-- where the bales lie in the middle of a copying: oly before it, l the bales that were come to -/
def m_Ly (oly : Nat → Int32) (l : List Nat) (ly sw : Nat → Int32) : Prop :=
  (∀ b ∈ l, oly b = 1) ∧ ∀ b, b < 128 → (b ∉ l → ly b = oly b) ∧ (b ∈ l → ly b = 1 ∨ ly b = 2) ∧ (¬ oly b = 1 → sw b = oly b) ∧ (oly b = 1 → b ∉ l → sw b = 0) ∧ (b ∈ l → sw b = ly b)
theorem m_Ly_c {oly ly sw : Nat → Int32} {l : List Nat} {b : Nat} (h : m_Ly oly l ly sw) (hb : b < 128) (hbl : b ∉ l) (ho : oly b = 1) {x : Int32} (hx : x = 1 ∨ x = 2) {ly' : Nat → Int32} (hly : ly' = q_up ly b x) : m_Ly oly (l ++ [b]) ly' (q_up sw b x) := by
  subst hly
  refine ⟨fun c hc => ?_, fun c hc => ?_⟩
  · rcases List.mem_append.mp hc with hc | hc
    · exact h.1 c hc
    · rw [List.mem_singleton.mp hc]; exact ho
  · obtain ⟨h1, h2, h3, h4, h5⟩ := h.2 c hc
    by_cases hcb : c = b
    · subst hcb
      rw [m_up_s, m_up_s]
      have hm : c ∈ l ++ [c] := by simp
      exact ⟨fun h => absurd hm h, fun _ => hx, fun h => absurd ho h, fun _ h => absurd hm h, fun _ => rfl⟩
    · rw [m_up_n hcb, m_up_n hcb]
      have hm : c ∈ l ++ [b] ↔ c ∈ l := by simp [hcb]
      rw [hm]
      exact ⟨h1, h2, h3, h4, h5⟩
theorem m_up_same {f : Nat → Int32} {b : Nat} {x : Int32} (h : f b = x) : q_up f b x = f := by
  funext i
  rw [m_up_of]
  by_cases e : i = b
  · rw [if_pos e, e, h]
  · rw [if_neg e]
