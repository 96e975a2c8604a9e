/-! MATH: from bale to bale by ropes, on both sides -/
/-- the bales of G, and where their ropes lead -/
def m_G (G : Nat → Prop) (rc ld sr sd : Nat → Int32) : Prop := ∀ b, G b → b < 128 ∧ ∃ k, k ≤ 3 ∧ rc b = nI k ∧ sr b = nI k ∧ ∀ r, r < k → sd (3 * b + r) = ld (b * 3 + r) ∧ (ld (b * 3 + r) = -1 ∨ ∃ c, G c ∧ ld (b * 3 + r) = nI c)
def m_D (l : List Nat) (nd : Nat → Int32) : Prop := ∀ (i x : Nat), l[i]? = some x → ∃ d, d ≤ i ∧ nd x = nI d
theorem m_ropesTo {nd : Nat → Int32} {b : Nat} (h : b < 128) : f_X4_ropesTo nd (nI b) = some (nd b) := by
  unfold f_X4_ropesTo
  rw [if_neg (nI_pos (by omega)), if_neg (show ¬ (128 : Int32) ≤ nI b from nI_ge h (by decide)), q_ix_nI h (by decide)]; rfl
theorem m_reach_in {G : Nat → Prop} {rc ld sr sd : Nat → Int32} (hG : m_G G rc ld sr sd) {b i k : Nat} (hb : G b) (hk : rc b = nI k) (hk3 : k ≤ 3) : ∀ (n r : Nat) (l : List Nat) (li nr nd md mq mi : Nat → Int32) (fu fv : Nat), r + n = k → n < fu → n < fv → m_Q l li nr nd md mq mi → (∀ x ∈ l, G x) → m_D l nd → l[i]? = some b →
    ∃ t li' nr' nd' md' mq' mi', f_X2_followLine_L17 rc ld (nI b) fu li nr nd (nI r) = some (li', nr', nd') ∧ f_X14_reach_L27 sr sd (nI i) fv md mq mi (nI r) = some (md', mq', mi') ∧ m_Q (l ++ t) li' nr' nd' md' mq' mi' ∧ (∀ x ∈ l ++ t, G x) ∧ m_D (l ++ t) nd' ∧ (∀ j, j ≠ 2 → li' j = li j) ∧ (∀ j, j ≠ 16 → md' j = md j) ∧ (∀ x, x ∈ l → nd' x = nd x) := by
  obtain ⟨hb8, k', hk3', hk', hsk, hl⟩ := hG b hb
  obtain rfl : k = k' := (nI_eq (by omega) (by omega)).mp (hk.symm.trans hk')
  intro n
  induction n with
  | zero =>
    intro r l li nr nd md mq mi fu fv hrn hfu hfv hQ hGl hD hi
    obtain rfl : r = k := by omega
    obtain ⟨fu, rfl⟩ : ∃ z, fu = z + 1 := ⟨fu - 1, by omega⟩
    obtain ⟨fv, rfl⟩ : ∃ z, fv = z + 1 := ⟨fv - 1, by omega⟩
    have hil := (List.getElem?_eq_some_iff.mp hi).1
    have hlen := m_Q_len hQ
    refine ⟨[], li, nr, nd, md, mq, mi, ?_, ?_, by simpa using hQ, by simpa using hGl, by simpa using hD, fun _ _ => rfl, fun _ _ => rfl, fun _ _ => rfl⟩
    · rw [f_X2_followLine_L17, m_ropes hb8, Option.bind_some, hk, if_pos (nI_le (Nat.le_refl _) (by omega))]
    · rw [f_X14_reach_L27, q_ix_nI (by omega) (by decide), Option.bind_some, (hQ.2.2.2.2.1 i b hi).2, q_ix_nI (by omega) (by decide), Option.bind_some, hsk, if_pos (nI_le (Nat.le_refl _) (by omega))]
  | succ n ih =>
    intro r l li nr nd md mq mi fu fv hrn hfu hfv hQ hGl hD hi
    obtain ⟨fu, rfl⟩ : ∃ z, fu = z + 1 := ⟨fu - 1, by omega⟩
    obtain ⟨fv, rfl⟩ : ∃ z, fv = z + 1 := ⟨fv - 1, by omega⟩
    have hil := (List.getElem?_eq_some_iff.mp hi).1
    have hlen := m_Q_len hQ
    obtain ⟨hsd, hld⟩ := hl r (by omega)
    obtain ⟨d, hd, hnd⟩ := hD i b hi
    have e1 : f_X2_followLine_L17 rc ld (nI b) (fu + 1) li nr nd (nI r) = (f_X4_add li nr nd (ld (b * 3 + r)) (nI (d + 1))).bind fun r5 => f_X2_followLine_L17 rc ld (nI b) fu r5.2.1 r5.2.2.1 r5.2.2.2 (nI (r + 1)) := by
      rw [f_X2_followLine_L17, m_ropes hb8, Option.bind_some, hk, if_neg (nI_ge (by omega) (by omega)), m_lead hb8 (by omega) hk hk3, Option.bind_some, if_pos (by omega), m_ropesTo hb8, Option.bind_some, hnd, nI_1, nI_1]
    have e2 : f_X14_reach_L27 sr sd (nI i) (fv + 1) md mq mi (nI r) = (f_X14_comeTo md mq mi (ld (b * 3 + r))).bind fun r9 => f_X14_reach_L27 sr sd (nI i) fv r9.1 r9.2.1 r9.2.2 (nI (r + 1)) := by
      rw [f_X14_reach_L27, q_ix_nI (by omega) (by decide), Option.bind_some, (hQ.2.2.2.2.1 i b hi).2, q_ix_nI (by omega) (by decide), Option.bind_some, hsk, if_neg (nI_ge (by omega) (by omega)), Option.bind_some, (hQ.2.2.2.2.1 i b hi).2, show (3 : Int32) * nI b + nI r = nI (3 * b + r) from by rw [show (3 : Int32) = nI 3 from rfl, pk_mul, nI_add], q_ix_nI (by omega) (by decide), Option.bind_some, hsd, nI_1]
    rw [e1, e2]
    rcases hld with hm | ⟨c, hc, hm⟩
    · rw [hm, m_ladd1, m_come1, Option.bind_some, Option.bind_some]
      exact ih (r + 1) l li nr nd md mq mi fu fv (by omega) (by omega) (by omega) hQ hGl hD hi
    · obtain ⟨l', li', nr', nd', md', mq', mi', a1, a2, a3, a4, a5, a6, a7, a8, a9⟩ := m_Q_add (x := nI (d + 1)) hQ (hG c hc).1 (m_nI_m1 (by omega))
      rw [hm, a1, a2, Option.bind_some, Option.bind_some]
      by_cases hcl : c ∈ l
      · rw [if_pos hcl] at a4
        subst a4
        have hnd9 := a9 hcl
        obtain ⟨t, x1, x2, x3, x4, x5, x6, y1, y2, y3, y4, y5, y6, y7, y8⟩ := ih (r + 1) l' li' nr' nd' md' mq' mi' fu fv (by omega) (by omega) (by omega) a3 hGl (by rw [hnd9]; exact hD) hi
        exact ⟨t, x1, x2, x3, x4, x5, x6, y1, y2, y3, y4, y5, fun j hj => (y6 j hj).trans (a5 j hj), fun j hj => (y7 j hj).trans (a6 j hj), fun x hx => by rw [y8 x hx, hnd9]⟩
      · rw [if_neg hcl] at a4
        subst a4
        have hi2 : (l ++ [c])[i]? = some b := by rw [List.getElem?_append_left hil]; exact hi
        have hG2 : ∀ x ∈ l ++ [c], G x := fun x hx => by
          rcases List.mem_append.mp hx with hx | hx
          · exact hGl x hx
          · rw [List.mem_singleton.mp hx]; exact hc
        have hD2 : m_D (l ++ [c]) nd' := by
          intro j x hj
          by_cases hjl : j < l.length
          · rw [List.getElem?_append_left hjl] at hj
            obtain ⟨d2, h3, h4⟩ := hD j x hj
            have hxm : x ∈ l := List.mem_of_getElem? hj
            exact ⟨d2, h3, by rw [a7 x (hG x (hGl x hxm)).1 (fun e => hcl (by rw [← e]; exact hxm))]; exact h4⟩
          · have h9 := (List.getElem?_eq_some_iff.mp hj).1
            simp at h9
            obtain rfl : j = l.length := by omega
            rw [List.getElem?_append_right (Nat.le_refl _), Nat.sub_self] at hj
            cases hj
            exact ⟨d + 1, by omega, a8 hcl⟩
        obtain ⟨t, x1, x2, x3, x4, x5, x6, y1, y2, y3, y4, y5, y6, y7, y8⟩ := ih (r + 1) (l ++ [c]) li' nr' nd' md' mq' mi' fu fv (by omega) (by omega) (by omega) a3 hG2 hD2 hi2
        refine ⟨[c] ++ t, x1, x2, x3, x4, x5, x6, y1, y2, ?_, ?_, ?_, fun j hj => (y6 j hj).trans (a5 j hj), fun j hj => (y7 j hj).trans (a6 j hj), fun x hx => by rw [y8 x (List.mem_append.mpr (Or.inl hx))]; exact a7 x (hG x (hGl x hx)).1 (fun e => hcl (by rw [← e]; exact hx))⟩
        · rw [← List.append_assoc]; exact y3
        · rw [← List.append_assoc]; exact y4
        · rw [← List.append_assoc]; exact y5
theorem m_reach_out {G : Nat → Prop} {rc ld sr sd : Nat → Int32} (hG : m_G G rc ld sr sd) : ∀ (n i : Nat) (l : List Nat) (li nr nd md mq mi : Nat → Int32) (fu fv : Nat), i + n = 128 → n < fu → n < fv → i ≤ l.length → m_Q l li nr nd md mq mi → (∀ x ∈ l, G x) → m_D l nd →
    ∃ t li' nr' nd' md' mq' mi', f_X2_followLine_L2 rc ld fu li nr nd (nI i) = some (li', nr', nd') ∧ f_X14_reach_L20 sr sd fv md mq mi (nI i) = some (md', mq', mi') ∧ m_Q (l ++ t) li' nr' nd' md' mq' mi' ∧ (∀ x ∈ l ++ t, G x) ∧ m_D (l ++ t) nd' ∧ (∀ j, j ≠ 2 → li' j = li j) ∧ (∀ j, j ≠ 16 → md' j = md j) ∧ (∀ x, x ∈ l → nd' x = nd x) := by
  intro n
  induction n with
  | zero =>
    intro i l li nr nd md mq mi fu fv hin hfu hfv hil hQ hGl hD
    obtain rfl : i = 128 := by omega
    obtain ⟨fu, rfl⟩ : ∃ z, fu = z + 1 := ⟨fu - 1, by omega⟩
    obtain ⟨fv, rfl⟩ : ∃ z, fv = z + 1 := ⟨fv - 1, by omega⟩
    have hlen := m_Q_len hQ
    refine ⟨[], li, nr, nd, md, mq, mi, ?_, ?_, by simpa using hQ, by simpa using hGl, by simpa using hD, fun _ _ => rfl, fun _ _ => rfl, fun _ _ => rfl⟩
    · rw [f_X2_followLine_L2, if_pos (show (128 : Int32) ≤ nI 128 from nI_le (Nat.le_refl _) (by decide))]
    · rw [f_X14_reach_L20, hQ.2.1, if_pos (nI_le hlen (by decide))]
  | succ n ih =>
    intro i l li nr nd md mq mi fu fv hin hfu hfv hil hQ hGl hD
    obtain ⟨fu, rfl⟩ : ∃ z, fu = z + 1 := ⟨fu - 1, by omega⟩
    obtain ⟨fv, rfl⟩ : ∃ z, fv = z + 1 := ⟨fv - 1, by omega⟩
    have hlen := m_Q_len hQ
    by_cases he : i = l.length
    · refine ⟨[], li, nr, nd, md, mq, mi, ?_, ?_, by simpa using hQ, by simpa using hGl, by simpa using hD, fun _ _ => rfl, fun _ _ => rfl, fun _ _ => rfl⟩
      · rw [f_X2_followLine_L2, if_neg (show ¬ (128 : Int32) ≤ nI i from nI_ge (b := 128) (by omega) (by decide)), f_X4_length, Option.bind_some, hQ.1, if_pos (nI_le (by omega) (by omega))]
      · rw [f_X14_reach_L20, hQ.2.1, if_pos (nI_le (by omega) (by omega))]
    · have hlt : i < l.length := by omega
      obtain ⟨b, hb⟩ : ∃ b, l[i]? = some b := ⟨l[i], List.getElem?_eq_getElem hlt⟩
      have hGb := hGl b (List.mem_of_getElem? hb)
      obtain ⟨hb8, k, hk3, hk, hsk, -⟩ := hG b hGb
      obtain ⟨t, li', nr', nd', md', mq', mi', y1, y2, y3, y4, y5, y6, y7, y8⟩ := m_reach_in hG hGb hk hk3 k 0 l li nr nd md mq mi 4096 4096 (by omega) (by omega) (by omega) hQ hGl hD hb
      obtain ⟨t2, x1, x2, x3, x4, x5, x6, z1, z2, z3, z4, z5, z6, z7, z8⟩ := ih (i + 1) (l ++ t) li' nr' nd' md' mq' mi' fu fv (by omega) (by omega) (by omega) (by simp; omega) y3 y4 y5
      refine ⟨t ++ t2, x1, x2, x3, x4, x5, x6, ?_, ?_, ?_, ?_, ?_, fun j hj => (z6 j hj).trans (y6 j hj), fun j hj => (z7 j hj).trans (y7 j hj), fun x hx => by rw [z8 x (List.mem_append.mpr (Or.inl hx)), y8 x hx]⟩
      · rw [f_X2_followLine_L2, if_neg (show ¬ (128 : Int32) ≤ nI i from nI_ge (b := 128) (by omega) (by decide)), f_X4_length, Option.bind_some, hQ.1, if_neg (nI_ge hlt (by omega)), m_lat hQ.1 hlen hlt, Option.bind_some, (hQ.2.2.2.2.1 i b hb).1, show (0 : Int32) = nI 0 from rfl, y1, Option.bind_some, nI_1]
        exact z1
      · rw [f_X14_reach_L20, hQ.2.1, if_neg (nI_ge hlt (by omega)), show (0 : Int32) = nI 0 from rfl, y2, Option.bind_some, nI_1]
        exact z2
      · rw [← List.append_assoc]; exact z3
      · rw [← List.append_assoc]; exact z4
      · rw [← List.append_assoc]; exact z5
