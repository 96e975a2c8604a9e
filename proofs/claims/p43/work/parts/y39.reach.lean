/-! WHAT IS REACHED, by hand and in the class -/
section ZREACH
variable {ly rc ld hk : m_Rr} {ν : Nat → Nat} {rp : Nat → List (Option Nat)} {hkL : List (Option Nat)}
theorem z_add_map {l : List Nat} {c : Nat} (hν : ∀ b c, b < 128 → c < 128 → ¬ ly b = 0 → ¬ ly c = 0 → ν b = ν c → b = c) (hl : ∀ x ∈ l, x < 128 ∧ ¬ ly x = 0) (hc : c < 128) (hc0 : ¬ ly c = 0) : z_add (l.map ν) (some (ν c)) = (if c ∈ l then l else l ++ [c]).map ν := by
  show (if ν c ∈ l.map ν then l.map ν else l.map ν ++ [ν c]) = _
  by_cases hcl : c ∈ l
  · rw [if_pos (List.mem_map_of_mem hcl), if_pos hcl]
  · have : ν c ∉ l.map ν := fun hm => by
      obtain ⟨b, b1, b2⟩ := List.mem_map.mp hm
      have := hν b c (hl b b1).1 hc (hl b b1).2 hc0 b2
      rw [this] at b1
      exact hcl b1
    rw [if_neg this, if_neg hcl, List.map_append]
    rfl
/-- one more is come to, or not: the class's line and the list by hand -/
theorem z_ladd (hν : ∀ b c, b < 128 → c < 128 → ¬ ly b = 0 → ¬ ly c = 0 → ν b = ν c → b = c) {l : List Nat} {li nr nd md mq mi : m_Rr} {e : Nat} {v : Int32} {o : Option Nat} (hQ : m_Q l li nr nd md mq mi) (hG : ∀ x ∈ l, x < 128 ∧ ¬ ly x = 0) (hD : ∀ (i x : Nat), l[i]? = some x → ∃ d, d ≤ i ∧ nd x = nI d) (he : e ≤ l.length) (hv : z_cell ν ly v (some o)) :
    ∃ ok l' li' nr' nd' md' mq' mi', f_X4_add li nr nd v (nI e) = some (ok, li', nr', nd') ∧ m_Q l' li' nr' nd' md' mq' mi' ∧ (∀ x ∈ l', x < 128 ∧ ¬ ly x = 0) ∧ m_D l' nd' ∧ (∃ t, l' = l ++ t) ∧ l'.map ν = z_add (l.map ν) o := by
  rcases hv with ⟨rfl, e2⟩ | ⟨c, hc, hc0, rfl, e2⟩
  · obtain rfl : o = none := Option.some.inj e2
    exact ⟨false, l, li, nr, nd, md, mq, mi, m_ladd1, hQ, hG, hD, ⟨[], by simp⟩, rfl⟩
  · obtain rfl : o = some (ν c) := Option.some.inj e2
    have hlen := m_Q_len hQ
    obtain ⟨l', li', nr', nd', md', mq', mi', a1, a2, a3, a4, a5, a6, a7, a8, a9⟩ := m_Q_add (x := nI e) hQ hc (m_nI_m1 (by omega))
    refine ⟨_, l', li', nr', nd', md', mq', mi', a1, a3, ?_, ?_, ?_, by rw [z_add_map hν hG hc hc0, a4]⟩
    · intro x hx
      rw [a4] at hx
      by_cases hcl : c ∈ l
      · rw [if_pos hcl] at hx; exact hG x hx
      · rw [if_neg hcl] at hx
        rcases List.mem_append.mp hx with hx | hx
        · exact hG x hx
        · rw [List.mem_singleton.mp hx]; exact ⟨hc, hc0⟩
    · intro j x hj
      by_cases hcl : c ∈ l
      · rw [a4, if_pos hcl] at hj
        rw [a9 hcl]
        exact hD j x hj
      · rw [a4, if_neg hcl] at hj
        by_cases hjl : j < l.length
        · rw [List.getElem?_append_left hjl] at hj
          obtain ⟨d2, h3, h4⟩ := hD j x hj
          have hxm : x ∈ l := List.mem_of_getElem? hj
          exact ⟨d2, h3, by rw [a7 x (hG x hxm).1 (fun e => hcl (by rw [← e]; exact hxm))]; exact h4⟩
        · have h9 := (List.getElem?_eq_some_iff.mp hj).1
          simp at h9
          obtain rfl : j = l.length := by omega
          rw [List.getElem?_append_right (Nat.le_refl _), Nat.sub_self] at hj
          cases hj
          exact ⟨e, he, a8 hcl⟩
    · by_cases hcl : c ∈ l
      · exact ⟨[], by rw [a4, if_pos hcl, List.append_nil]⟩
      · exact ⟨[c], by rw [a4, if_neg hcl]⟩
theorem z_reach_in (hν : ∀ b c, b < 128 → c < 128 → ¬ ly b = 0 → ¬ ly c = 0 → ν b = ν c → b = c) (hr : z_Yr ν ly rc ld rp) {b i k : Nat} (hb : b < 128) (h0 : ¬ ly b = 0) (hkk : rc b = nI k) (hk3 : k ≤ 3) : ∀ (n r : Nat) (l : List Nat) (li nr nd md mq mi : m_Rr) (fu : Nat), r + n = k → n < fu → m_Q l li nr nd md mq mi → (∀ x ∈ l, x < 128 ∧ ¬ ly x = 0) → m_D l nd → l[i]? = some b →
    ∃ l' li' nr' nd' md' mq' mi', f_X2_followLine_L17 rc ld (nI b) fu li nr nd (nI r) = some (li', nr', nd') ∧ m_Q l' li' nr' nd' md' mq' mi' ∧ (∀ x ∈ l', x < 128 ∧ ¬ ly x = 0) ∧ m_D l' nd' ∧ (∃ t, l' = l ++ t) ∧ l'.map ν = z_adds (l.map ν) ((rp (ν b)).drop r) := by
  obtain ⟨hrl, hrc⟩ := z_Yr_k hr hb h0 hk3 hkk
  intro n
  induction n with
  | zero =>
    intro r l li nr nd md mq mi fu hrn hfu hQ hG hD hi
    obtain rfl : r = k := by omega
    obtain ⟨fu, rfl⟩ : ∃ z, fu = z + 1 := ⟨fu - 1, by omega⟩
    refine ⟨l, li, nr, nd, md, mq, mi, ?_, hQ, hG, hD, ⟨[], by simp⟩, by rw [List.drop_eq_nil_of_le (by omega)]; rfl⟩
    rw [f_X2_followLine_L17, m_ropes hb, Option.bind_some, hkk, if_pos (nI_le (Nat.le_refl _) (by omega))]
  | succ n ih =>
    intro r l li nr nd md mq mi fu hrn hfu hQ hG hD hi
    obtain ⟨fu, rfl⟩ : ∃ z, fu = z + 1 := ⟨fu - 1, by omega⟩
    have hil := (List.getElem?_eq_some_iff.mp hi).1
    have hlen := m_Q_len hQ
    obtain ⟨d, hd, hnd⟩ := hD i b hi
    have hcell := hrc r (by omega)
    obtain ⟨o, ho⟩ : ∃ o, (rp (ν b))[r]? = some o := ⟨_, List.getElem?_eq_getElem (by omega)⟩
    rw [ho] at hcell
    have e1 : f_X2_followLine_L17 rc ld (nI b) (fu + 1) li nr nd (nI r) = (f_X4_add li nr nd (ld (b * 3 + r)) (nI (d + 1))).bind fun r5 => f_X2_followLine_L17 rc ld (nI b) fu r5.2.1 r5.2.2.1 r5.2.2.2 (nI (r + 1)) := by
      rw [f_X2_followLine_L17, m_ropes hb, Option.bind_some, hkk, if_neg (nI_ge (by omega) (by omega)), m_lead hb (by omega) hkk hk3, Option.bind_some, if_pos (by omega), m_ropesTo hb, Option.bind_some, hnd, nI_1, nI_1]
    obtain ⟨ok, l', li', nr', nd', md', mq', mi', a1, a2, a3, a4, ⟨t, a5⟩, a6⟩ := z_ladd hν (e := d + 1) hQ hG hD (by omega) hcell
    have hi2 : l'[i]? = some b := by rw [a5, List.getElem?_append_left hil]; exact hi
    obtain ⟨l2, x1, x2, x3, x4, x5, x6, y1, y2, y3, y4, ⟨t2, y5⟩, y6⟩ := ih (r + 1) l' li' nr' nd' md' mq' mi' fu (by omega) (by omega) a2 a3 a4 hi2
    refine ⟨l2, x1, x2, x3, x4, x5, x6, ?_, y2, y3, y4, ⟨t ++ t2, by rw [y5, a5, List.append_assoc]⟩, ?_⟩
    · rw [e1, a1, Option.bind_some]
      exact y1
    · rw [y6, a6, z_drop_some ho]
      rfl
theorem z_reach_out (hν : ∀ b c, b < 128 → c < 128 → ¬ ly b = 0 → ¬ ly c = 0 → ν b = ν c → b = c) (hr : z_Yr ν ly rc ld rp) {B : Nat} (hB : ∀ l : List Nat, l.Nodup → (∀ x ∈ l, x < 128 ∧ ¬ ly x = 0) → l.length ≤ B) : ∀ (n i : Nat) (l : List Nat) (li nr nd md mq mi : m_Rr) (fu N : Nat), i + n = 128 → n < fu → i ≤ l.length → i + N = B + 1 → m_Q l li nr nd md mq mi → (∀ x ∈ l, x < 128 ∧ ¬ ly x = 0) → m_D l nd →
    ∃ l' li' nr' nd' md' mq' mi', f_X2_followLine_L2 rc ld fu li nr nd (nI i) = some (li', nr', nd') ∧ m_Q l' li' nr' nd' md' mq' mi' ∧ (∀ x ∈ l', x < 128 ∧ ¬ ly x = 0) ∧ m_D l' nd' ∧ (∃ t, l' = l ++ t) ∧ l'.map ν = z_bfs rp N i (l.map ν) := by
  intro n
  induction n with
  | zero =>
    intro i l li nr nd md mq mi fu N hin hfu hil hN hQ hG hD
    obtain rfl : i = 128 := by omega
    obtain ⟨fu, rfl⟩ : ∃ z, fu = z + 1 := ⟨fu - 1, by omega⟩
    have hlen := m_Q_len hQ
    have hlB := hB l hQ.2.2.1 hG
    obtain ⟨N, rfl⟩ : ∃ z, N = z + 1 := ⟨N - 1, by omega⟩
    refine ⟨l, li, nr, nd, md, mq, mi, ?_, hQ, hG, hD, ⟨[], by simp⟩, ?_⟩
    · rw [f_X2_followLine_L2, if_pos (show (128 : Int32) ≤ nI 128 from nI_le (Nat.le_refl _) (by decide))]
    · rw [z_bfs, List.getElem?_eq_none (by rw [List.length_map]; omega)]
  | succ n ih =>
    intro i l li nr nd md mq mi fu N hin hfu hil hN hQ hG hD
    obtain ⟨fu, rfl⟩ : ∃ z, fu = z + 1 := ⟨fu - 1, by omega⟩
    have hlen := m_Q_len hQ
    have hlB := hB l hQ.2.2.1 hG
    obtain ⟨N, rfl⟩ : ∃ z, N = z + 1 := ⟨N - 1, by omega⟩
    by_cases he : i = l.length
    · refine ⟨l, li, nr, nd, md, mq, mi, ?_, hQ, hG, hD, ⟨[], by simp⟩, ?_⟩
      · rw [f_X2_followLine_L2, if_neg (show ¬ (128 : Int32) ≤ nI i from nI_ge (b := 128) (by omega) (by decide)), f_X4_length, Option.bind_some, hQ.1, if_pos (nI_le (by omega) (by omega))]
      · rw [z_bfs, List.getElem?_eq_none (by rw [List.length_map]; omega)]
    · have hlt : i < l.length := by omega
      obtain ⟨b, hb⟩ : ∃ b, l[i]? = some b := ⟨l[i], List.getElem?_eq_getElem hlt⟩
      obtain ⟨hb8, hb0⟩ := hG b (List.mem_of_getElem? hb)
      obtain ⟨k, k1, k2, k3, k4⟩ := hr b hb8 hb0
      obtain ⟨l1, li', nr', nd', md', mq', mi', y1, y2, y3, y4, ⟨t, y5⟩, y6⟩ := z_reach_in hν hr hb8 hb0 k2 k1 k 0 l li nr nd md mq mi 4096 (by omega) (by omega) hQ hG hD hb
      obtain ⟨l2, x1, x2, x3, x4, x5, x6, z1, z2, z3, z4, ⟨t2, z5⟩, z6⟩ := ih (i + 1) l1 li' nr' nd' md' mq' mi' fu N (by omega) (by omega) (by rw [y5]; simp; omega) (by omega) y2 y3 y4
      refine ⟨l2, x1, x2, x3, x4, x5, x6, ?_, z2, z3, z4, ⟨t ++ t2, by rw [z5, y5, List.append_assoc]⟩, ?_⟩
      · rw [f_X2_followLine_L2, if_neg (show ¬ (128 : Int32) ≤ nI i from nI_ge (b := 128) (by omega) (by decide)), f_X4_length, Option.bind_some, hQ.1, if_neg (nI_ge hlt (by omega)), m_lat hQ.1 hlen hlt, Option.bind_some, (hQ.2.2.2.2.1 i b hb).1, show (0 : Int32) = nI 0 from rfl, y1, Option.bind_some, nI_1]
        exact z1
      · rw [z6, y6, List.drop_zero, z_bfs, List.getElem?_map, hb]
        rfl
theorem z_reach_hk (hν : ∀ b c, b < 128 → c < 128 → ¬ ly b = 0 → ¬ ly c = 0 → ν b = ν c → b = c) {G : Nat → Prop} {nh : Nat} {sh : m_Rr} (hH : m_H G nh hk sh) (hkl : hkL.length = nh) (hkc : ∀ i, i < nh → z_cell ν ly (hk i) (hkL[i]?)) : ∀ (n i : Nat) (l : List Nat) (li nr nd md mq mi : m_Rr) (fu : Nat), i + n = nh → 6 - i < fu → m_Q l li nr nd md mq mi → (∀ x ∈ l, x < 128 ∧ ¬ ly x = 0) → m_D l nd →
    ∃ l' li' nr' nd' md' mq' mi', f_X2_findReached_L5 hk fu li nr nd (nI i) = some (li', nr', nd') ∧ m_Q l' li' nr' nd' md' mq' mi' ∧ (∀ x ∈ l', x < 128 ∧ ¬ ly x = 0) ∧ m_D l' nd' ∧ l'.map ν = z_adds (l.map ν) (hkL.drop i) := by
  have h6 := hH.1
  intro n
  induction n with
  | zero =>
    intro i l li nr nd md mq mi fu hi hfu hQ hG hD
    obtain rfl : i = nh := by omega
    exact ⟨l, li, nr, nd, md, mq, mi, m_hooks_c hH li nr nd (6 - i) i fu (by omega) hfu (Nat.le_refl _), hQ, hG, hD, by rw [List.drop_eq_nil_of_le (by omega)]; rfl⟩
  | succ n ih =>
    intro i l li nr nd md mq mi fu hi hfu hQ hG hD
    obtain ⟨fu, rfl⟩ : ∃ z, fu = z + 1 := ⟨fu - 1, by omega⟩
    have hcell := hkc i (by omega)
    obtain ⟨o, ho⟩ : ∃ o, hkL[i]? = some o := ⟨_, List.getElem?_eq_getElem (by omega)⟩
    rw [ho] at hcell
    have e1 : f_X2_findReached_L5 hk (fu + 1) li nr nd (nI i) = (f_X4_add li nr nd (hk i) (nI 0)).bind fun r3 => f_X2_findReached_L5 hk fu r3.2.1 r3.2.2.1 r3.2.2.2 (nI (i + 1)) := by
      rw [f_X2_findReached_L5, if_neg (show ¬ (6 : Int32) ≤ nI i from nI_ge (b := 6) (by omega) (by decide)), m_held (by omega), Option.bind_some, nI_1]; rfl
    obtain ⟨ok, l', li', nr', nd', md', mq', mi', a1, a2, a3, a4, -, a6⟩ := z_ladd hν (e := 0) hQ hG hD (Nat.zero_le _) hcell
    obtain ⟨l2, x1, x2, x3, x4, x5, x6, y1, y2, y3, y4, y6⟩ := ih (i + 1) l' li' nr' nd' md' mq' mi' fu (by omega) (by omega) a2 a3 a4
    refine ⟨l2, x1, x2, x3, x4, x5, x6, ?_, y2, y3, y4, ?_⟩
    · rw [e1, a1, Option.bind_some]
      exact y1
    · rw [y6, a6, z_drop_some ho]
      rfl
/-- all that is reached: the class's line is the row by hand -/
theorem z_reachL (hν : ∀ b c, b < 128 → c < 128 → ¬ ly b = 0 → ¬ ly c = 0 → ν b = ν c → b = c) (hr : z_Yr ν ly rc ld rp) {G : Nat → Prop} {nh : Nat} {sh : m_Rr} (hH : m_H G nh hk sh) (hkl : hkL.length = nh) (hkc : ∀ i, i < nh → z_cell ν ly (hk i) (hkL[i]?)) {B : Nat} (hB : ∀ l : List Nat, l.Nodup → (∀ x ∈ l, x < 128 ∧ ¬ ly x = 0) → l.length ≤ B) (li nr nd : m_Rr) :
    ∃ l li' nr' nd' md' mq' mi', f_X2_findReached rc ld li nr nd hk = some (li', nr', nd') ∧ m_Q l li' nr' nd' md' mq' mi' ∧ (∀ x ∈ l, x < 128 ∧ ¬ ly x = 0) ∧ m_D l nd' ∧ l.map ν = z_bfs rp (B + 1) 0 (z_adds [] hkL) := by
  have h6 := hH.1
  obtain ⟨l, li1, nr1, nd1, md1, mq1, mi1, a1, a3, a4, a5, a6⟩ := z_reach_hk hν hH hkl hkc nh 0 [] _ nr _ _ (fun _ => 0) _ 4096 (by omega) (by omega) (m_Q_0 (li := li) (nr := nr) (nd := nd) (md := fun _ => 0) (mq := fun _ => 0) (mi := fun _ => 0)) (by simp) (fun i x hx => by simp at hx)
  obtain ⟨l2, li2, nr2, nd2, md2, mq2, mi2, b1, b3, b4, b5, -, b6⟩ := z_reach_out hν hr hB 128 0 l li1 nr1 nd1 md1 mq1 mi1 4096 (B + 1) (by omega) (by omega) (by omega) (by omega) a3 a4 a5
  refine ⟨l2, li2, nr2, nd2, md2, mq2, mi2, ?_, b3, b4, b5, ?_⟩
  · unfold f_X2_findReached f_X4_clear
    rw [Option.bind_some, show (0 : Int32) = nI 0 from rfl, show (q_up li 2 (nI 0)) = q_up li 2 0 from rfl, a1, Option.bind_some]
    unfold f_X2_followLine
    rw [show (0 : Int32) = nI 0 from rfl, b1]; rfl
  · rw [b6, a6, List.drop_zero]
    rfl
end ZREACH
