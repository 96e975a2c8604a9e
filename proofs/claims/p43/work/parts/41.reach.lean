/-! MATH: what is reached, on both sides -/
theorem m_pig : ∀ (n : Nat) (l : List Nat), l.Nodup → (∀ x ∈ l, x < n) → l.length ≤ n
  | 0, l, _, h => by
    cases l with
    | nil => exact Nat.le_refl _
    | cons a t => exact absurd (h a List.mem_cons_self) (Nat.not_lt_zero _)
  | n + 1, l, hd, h => by
    have h1 := m_pig n (l.filter (fun x => decide (x ≠ n))) (hd.filter _) (fun x hx => by
      have h2 := List.mem_filter.mp hx
      have h3 := h x h2.1
      have h4 : x ≠ n := by simpa using h2.2
      omega)
    have h2 : l.length ≤ (l.filter (fun x => decide (x ≠ n))).length + 1 := by
      clear h1 h
      induction l with
      | nil => exact Nat.zero_le _
      | cons a t ih =>
        have hd2 := List.nodup_cons.mp hd
        by_cases ha : a = n
        · subst ha
          have hf : t.filter (fun x => decide (x ≠ a)) = t := List.filter_eq_self.mpr (fun x hx => by
            have : x ≠ a := fun e => hd2.1 (by rw [← e]; exact hx)
            simpa using this)
          rw [List.filter_cons_of_neg (by simp), hf]
          simp
        · have := ih hd2.2
          simp [ha]
          simpa using this
    omega
/-- the bales of a list are those that are in a line, and in a queue -/
def m_Q (l : List Nat) (li nr nd md mq mi : Nat → Int32) : Prop :=
  li 2 = nI l.length ∧ md 16 = nI l.length ∧ l.Nodup ∧ (∀ x ∈ l, x < 128) ∧ (∀ i x, l[i]? = some x → nr i = nI x ∧ mq i = nI x) ∧ (∀ b, b < 128 → (b ∈ l ↔ nd b ≠ -1)) ∧ (∀ b, b < 136 → (b ∈ l ↔ mi b ≠ 0))
theorem m_Q_len {l : List Nat} {li nr nd md mq mi : Nat → Int32} (h : m_Q l li nr nd md mq mi) : l.length ≤ 128 := m_pig 128 l h.2.2.1 h.2.2.2.1
/-- one more, on both sides; x: by how many ropes -/
theorem m_Q_add {l : List Nat} {li nr nd md mq mi : Nat → Int32} {b : Nat} {x : Int32} (h : m_Q l li nr nd md mq mi) (hb : b < 128) (hx : x ≠ -1) :
    ∃ l' li' nr' nd' md' mq' mi', f_X4_add li nr nd (nI b) x = some (decide (b ∉ l), li', nr', nd') ∧ f_X14_comeTo md mq mi (nI b) = some (md', mq', mi') ∧ m_Q l' li' nr' nd' md' mq' mi' ∧ l' = (if b ∈ l then l else l ++ [b]) ∧ (∀ j, j ≠ 2 → li' j = li j) ∧ (∀ j, j ≠ 16 → md' j = md j) ∧ (∀ c, c < 128 → c ≠ b → nd' c = nd c) ∧ (b ∉ l → nd' b = x) ∧ (b ∈ l → nd' = nd) := by
  obtain ⟨h1, h2, h3, h4, h5, h6, h7⟩ := id h
  have hlen := m_Q_len h
  by_cases hm : b ∈ l
  · have e1 : ¬ nd b = -1 := (h6 b hb).mp hm
    have e2 : ¬ mi b = 0 := (h7 b (by omega)).mp hm
    refine ⟨l, li, nr, nd, md, mq, mi, ?_, ?_, h, by rw [if_pos hm], fun _ _ => rfl, fun _ _ => rfl, fun _ _ _ => rfl, fun h => absurd hm h, fun _ => rfl⟩
    · unfold f_X4_add
      rw [if_neg (nI_pos (by omega)), if_neg (show ¬ (128 : Int32) ≤ nI b from nI_ge hb (by decide)), h1, if_neg (show ¬ nI l.length < 0 from nI_pos (by omega))]
      by_cases hl8 : l.length < 128
      · rw [if_pos (show nI l.length < (128 : Int32) from nI_lt hl8 (by decide)), q_ix_nI hb (by decide), Option.bind_some, if_neg e1]
        simp [hm]
      · have hl9 : l.length = 128 := by omega
        rw [hl9, if_neg (show ¬ nI 128 < (128 : Int32) by decide)]
        simp [hm]
    · unfold f_X14_comeTo
      rw [if_neg (m_nI_m1 (by omega)), q_ix_nI (by omega) (by decide), Option.bind_some, if_neg e2]
  · have e1 : nd b = -1 := Classical.not_not.mp (fun e => hm ((h6 b hb).mpr e))
    have e2 : mi b = 0 := Classical.not_not.mp (fun e => hm ((h7 b (by omega)).mpr e))
    have hnd : (l ++ [b]).Nodup := List.nodup_append.mpr ⟨h3, by simp, fun x hx y hy e => by
      rw [List.mem_singleton.mp hy] at e; rw [e] at hx; exact hm hx⟩
    have hlt : ∀ x ∈ l ++ [b], x < 128 := fun x hx => by
      rcases List.mem_append.mp hx with hx | hx
      · exact h4 x hx
      · rw [List.mem_singleton.mp hx]; exact hb
    have hlen2 : l.length < 128 := by
      have := m_pig 128 _ hnd hlt
      simp at this
      omega
    refine ⟨l ++ [b], q_up li 2 (nI (l.length + 1)), q_up nr l.length (nI b), q_up nd b x, q_up md 16 (nI (l.length + 1)), q_up mq l.length (nI b), q_up mi b 1, ?_, ?_, ⟨?_, ?_, hnd, hlt, ?_, ?_, ?_⟩, by rw [if_neg hm], fun j hj => m_up_n hj, fun j hj => m_up_n hj, fun c _ hc => m_up_n hc, fun _ => m_up_s, fun h => absurd h hm⟩
    · rw [m_ladd hb h1 hlen2, if_pos e1]
      simp [hm]
    · rw [m_come (by omega) h2 (by omega), if_pos e2]
    · rw [m_up_s]; simp
    · rw [m_up_s]; simp
    · intro i y hi
      by_cases hil : i < l.length
      · rw [List.getElem?_append_left hil] at hi
        rw [m_up_n (by omega), m_up_n (by omega)]
        exact h5 i y hi
      · have h9 := (List.getElem?_eq_some_iff.mp hi).1
        simp at h9
        obtain rfl : i = l.length := by omega
        rw [List.getElem?_append_right (Nat.le_refl _), Nat.sub_self] at hi
        cases hi
        rw [m_up_s, m_up_s]
        exact ⟨rfl, rfl⟩
    · intro c hc
      rw [m_up_of]
      by_cases hcb : c = b
      · subst hcb; simp [hx]
      · rw [if_neg hcb, ← h6 c hc]; simp [hcb]
    · intro c hc
      rw [m_up_of]
      by_cases hcb : c = b
      · subst hcb; simp
      · rw [if_neg hcb, ← h7 c hc]; simp [hcb]
