/-! MATH: findReached and reach -/
/-- what hangs on the hooks, on both sides: n of them -/
def m_H (G : Nat → Prop) (n : Nat) (hk sh : Nat → Int32) : Prop := n ≤ 6 ∧ ∀ i, i < 6 → (i < n → hk i = sh i ∧ (hk i = -1 ∨ ∃ c, G c ∧ hk i = nI c)) ∧ (n ≤ i → hk i = -1)
theorem m_hooks_c {G : Nat → Prop} {nh : Nat} {hk sh : Nat → Int32} (hH : m_H G nh hk sh) (li nr nd : Nat → Int32) : ∀ (n i fu : Nat), i + n = 6 → n < fu → nh ≤ i → f_X2_findReached_L5 hk fu li nr nd (nI i) = some (li, nr, nd) := by
  intro n
  induction n with
  | zero =>
    intro i fu hi hfu hn
    obtain rfl : i = 6 := by omega
    obtain ⟨fu, rfl⟩ : ∃ z, fu = z + 1 := ⟨fu - 1, by omega⟩
    rw [f_X2_findReached_L5, if_pos (show (6 : Int32) ≤ nI 6 from nI_le (Nat.le_refl _) (by decide))]
  | succ n ih =>
    intro i fu hi hfu hn
    obtain ⟨fu, rfl⟩ : ∃ z, fu = z + 1 := ⟨fu - 1, by omega⟩
    rw [f_X2_findReached_L5, if_neg (show ¬ (6 : Int32) ≤ nI i from nI_ge (b := 6) (by omega) (by decide)), m_held (by omega), Option.bind_some, (hH.2 i (by omega)).2 hn, m_ladd1, Option.bind_some, nI_1]
    exact ih (i + 1) fu (by omega) (by omega) (by omega)
theorem m_hooks {G : Nat → Prop} (hG8 : ∀ b, G b → b < 128) {nh : Nat} {hk sh mp : Nat → Int32} (hH : m_H G nh hk sh) (hp : mp 0 = nI nh) : ∀ (n i : Nat) (l : List Nat) (li nr nd md mq mi : Nat → Int32) (fu fv : Nat), i + n = nh → 6 - i < fu → n < fv → m_Q l li nr nd md mq mi → (∀ x ∈ l, G x) → (∀ x ∈ l, nd x = nI 0) →
    ∃ t li' nr' nd' md' mq' mi', f_X2_findReached_L5 hk fu li nr nd (nI i) = some (li', nr', nd') ∧ f_X14_reach_L4 mp sh fv md mq mi (nI i) = some (md', mq', mi') ∧ m_Q (l ++ t) li' nr' nd' md' mq' mi' ∧ (∀ x ∈ l ++ t, G x) ∧ (∀ x ∈ l ++ t, nd' x = nI 0) ∧ (∀ j, j ≠ 2 → li' j = li j) ∧ (∀ j, j ≠ 16 → md' j = md j) ∧ (∀ j, i ≤ j → j < nh → ∀ c, c < 128 → hk j = nI c → c ∈ l ++ t) := by
  intro n
  induction n with
  | zero =>
    intro i l li nr nd md mq mi fu fv hi hfu hfv hQ hGl hD
    obtain rfl : i = nh := by omega
    have h6 := hH.1
    obtain ⟨fv, rfl⟩ : ∃ z, fv = z + 1 := ⟨fv - 1, by omega⟩
    refine ⟨[], li, nr, nd, md, mq, mi, m_hooks_c hH li nr nd (6 - i) i fu (by omega) hfu (Nat.le_refl _), ?_, by simpa using hQ, by simpa using hGl, by simpa using hD, fun _ _ => rfl, fun _ _ => rfl, fun j h1 h2 => by omega⟩
    rw [f_X14_reach_L4, hp, if_pos (nI_le (Nat.le_refl _) (by omega))]
  | succ n ih =>
    intro i l li nr nd md mq mi fu fv hi hfu hfv hQ hGl hD
    have h6 := hH.1
    obtain ⟨fu, rfl⟩ : ∃ z, fu = z + 1 := ⟨fu - 1, by omega⟩
    obtain ⟨fv, rfl⟩ : ∃ z, fv = z + 1 := ⟨fv - 1, by omega⟩
    obtain ⟨hs, hc⟩ := (hH.2 i (by omega)).1 (by omega)
    have e1 : f_X2_findReached_L5 hk (fu + 1) li nr nd (nI i) = (f_X4_add li nr nd (hk i) (nI 0)).bind fun r3 => f_X2_findReached_L5 hk fu r3.2.1 r3.2.2.1 r3.2.2.2 (nI (i + 1)) := by
      rw [f_X2_findReached_L5, if_neg (show ¬ (6 : Int32) ≤ nI i from nI_ge (b := 6) (by omega) (by decide)), m_held (by omega), Option.bind_some, nI_1]; rfl
    have e2 : f_X14_reach_L4 mp sh (fv + 1) md mq mi (nI i) = (f_X14_comeTo md mq mi (hk i)).bind fun r3 => f_X14_reach_L4 mp sh fv r3.1 r3.2.1 r3.2.2 (nI (i + 1)) := by
      rw [f_X14_reach_L4, hp, if_neg (nI_ge (by omega) (by omega)), q_ix_nI (by omega) (by decide), Option.bind_some, hs, nI_1]
    rw [e1, e2]
    rcases hc with hm | ⟨c, hc, hm⟩
    · rw [hm, m_ladd1, m_come1, Option.bind_some, Option.bind_some]
      obtain ⟨t, x1, x2, x3, x4, x5, x6, y1, y2, y3, y4, y5, y6, y7, y8⟩ := ih (i + 1) l li nr nd md mq mi fu fv (by omega) (by omega) (by omega) hQ hGl hD
      refine ⟨t, x1, x2, x3, x4, x5, x6, y1, y2, y3, y4, y5, y6, y7, fun j h1 h2 c hc e => ?_⟩
      by_cases hj : j = i
      · subst hj; exact absurd (e.symm.trans hm) (m_nI_m1 (by omega))
      · exact y8 j (by omega) h2 c hc e
    · obtain ⟨l', li', nr', nd', md', mq', mi', a1, a2, a3, a4, a5, a6, a7, a8, a9⟩ := m_Q_add (x := nI 0) hQ (hG8 c hc) (m_nI_m1 (by omega))
      rw [hm, a1, a2, Option.bind_some, Option.bind_some]
      by_cases hcl : c ∈ l
      · rw [if_pos hcl] at a4
        subst a4
        have hnd9 := a9 hcl
        obtain ⟨t, x1, x2, x3, x4, x5, x6, y1, y2, y3, y4, y5, y6, y7, y8⟩ := ih (i + 1) l' li' nr' nd' md' mq' mi' fu fv (by omega) (by omega) (by omega) a3 hGl (by rw [hnd9]; exact hD)
        refine ⟨t, x1, x2, x3, x4, x5, x6, y1, y2, y3, y4, y5, fun j hj => (y6 j hj).trans (a5 j hj), fun j hj => (y7 j hj).trans (a6 j hj), fun j h1 h2 c' hc' e => ?_⟩
        by_cases hj : j = i
        · subst hj
          obtain rfl : c' = c := (nI_eq (by omega) (by have := hG8 c hc; omega)).mp (e.symm.trans hm)
          exact List.mem_append.mpr (Or.inl hcl)
        · exact y8 j (by omega) h2 c' hc' e
      · rw [if_neg hcl] at a4
        subst a4
        have hG2 : ∀ x ∈ l ++ [c], G x := fun x hx => by
          rcases List.mem_append.mp hx with hx | hx
          · exact hGl x hx
          · rw [List.mem_singleton.mp hx]; exact hc
        have hD2 : ∀ x ∈ l ++ [c], nd' x = nI 0 := fun x hx => by
          rcases List.mem_append.mp hx with hx | hx
          · rw [a7 x (hG8 x (hGl x hx)) (fun e => hcl (by rw [← e]; exact hx))]; exact hD x hx
          · rw [List.mem_singleton.mp hx]; exact a8 hcl
        obtain ⟨t, x1, x2, x3, x4, x5, x6, y1, y2, y3, y4, y5, y6, y7, y8⟩ := ih (i + 1) (l ++ [c]) li' nr' nd' md' mq' mi' fu fv (by omega) (by omega) (by omega) a3 hG2 hD2
        refine ⟨[c] ++ t, x1, x2, x3, x4, x5, x6, y1, y2, ?_, ?_, ?_, fun j hj => (y6 j hj).trans (a5 j hj), fun j hj => (y7 j hj).trans (a6 j hj), fun j h1 h2 c' hc' e => ?_⟩
        · rw [← List.append_assoc]; exact y3
        · rw [← List.append_assoc]; exact y4
        · rw [← List.append_assoc]; exact y5
        · rw [← List.append_assoc]
          by_cases hj : j = i
          · subst hj
            obtain rfl : c' = c := (nI_eq (by omega) (by have := hG8 c hc; omega)).mp (e.symm.trans hm)
            exact List.mem_append.mpr (Or.inl (by simp))
          · exact y8 j (by omega) h2 c' hc' e
theorem m_Q_0 {li nr nd md mq mi : Nat → Int32} : m_Q [] (q_up li 2 0) nr (q_fil 128 (-1) nd) (q_up md 16 0) mq (q_fil 136 0 mi) := by
  refine ⟨m_up_s, m_up_s, List.nodup_nil, by simp, by simp, fun b hb => ?_, fun b hb => ?_⟩
  · rw [q_fil_lt hb]; simp
  · rw [q_fil_lt hb]; simp
theorem m_reach {G : Nat → Prop} {rc ld sr sd : Nat → Int32} (hG : m_G G rc ld sr sd) {nh : Nat} {hk sh mp : Nat → Int32} (hH : m_H G nh hk sh) (hp : mp 0 = nI nh) (li nr nd md mq mi : Nat → Int32) :
    ∃ l li' nr' nd' md' mq' mi', f_X2_findReached rc ld li nr nd hk = some (li', nr', nd') ∧ f_X14_reach md mp mq mi sh sr sd = some (md', mq', mi') ∧ m_Q l li' nr' nd' md' mq' mi' ∧ (∀ x ∈ l, G x) ∧ m_D l nd' ∧ (∀ j, j ≠ 2 → li' j = li j) ∧ (∀ j, j ≠ 16 → md' j = md j) ∧ (∀ j, j < nh → ∀ c, c < 128 → hk j = nI c → c ∈ l) := by
  have h6 := hH.1
  obtain ⟨l, li1, nr1, nd1, md1, mq1, mi1, a1, a2, a3, a4, a5, a6, a7, a8⟩ := m_hooks (fun b hb => (hG b hb).1) hH hp nh 0 [] _ nr _ _ mq _ 4096 4096 (by omega) (by omega) (by omega) (m_Q_0 (li := li) (nr := nr) (nd := nd) (md := md) (mq := mq) (mi := mi)) (by simp) (by simp)
  rw [List.nil_append] at a3 a4 a5 a8
  have hD1 : m_D l nd1 := fun i x hx => ⟨0, by omega, a5 x (List.mem_of_getElem? hx)⟩
  obtain ⟨t, li2, nr2, nd2, md2, mq2, mi2, b1, b2, b3, b4, b5, b6, b7, -⟩ := m_reach_out hG 128 0 l li1 nr1 nd1 md1 mq1 mi1 4096 4096 (by omega) (by omega) (by omega) (by omega) a3 a4 hD1
  refine ⟨l ++ t, li2, nr2, nd2, md2, mq2, mi2, ?_, ?_, b3, b4, b5, fun j hj => (b6 j hj).trans ((a6 j hj).trans (m_up_n hj)), fun j hj => (b7 j hj).trans ((a7 j hj).trans (m_up_n hj)), fun j h1 c hc e => List.mem_append.mpr (Or.inl (a8 j (by omega) h1 c hc e))⟩
  · unfold f_X2_findReached f_X4_clear
    rw [Option.bind_some, show (0 : Int32) = nI 0 from rfl, show (q_up li 2 (nI 0)) = q_up li 2 0 from rfl, a1, Option.bind_some]
    unfold f_X2_followLine
    rw [show (0 : Int32) = nI 0 from rfl, b1]; rfl
  · unfold f_X14_reach f_X14_forget
    have e0 := m_forgetL (mi := mi) 136 0 4096 (by omega) (by omega)
    rw [q_fil_0] at e0
    rw [show (0 : Int32) = nI 0 from rfl, e0, Option.bind_some, Option.bind_some, show (q_up md 16 (nI 0)) = q_up md 16 0 from rfl, show (nI 0) = nI 0 from rfl, a2, Option.bind_some, b2]; rfl
