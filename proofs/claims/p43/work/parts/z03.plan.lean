/-! WHAT IS TOLD, in the reference's words too: so that the lemmas of the two sides can be used -/
def lc_wd (d : Nat) : Int32 := match d with
  | 20 => 16 | 21 => 17 | 22 => 18 | 23 => 19 | 24 => 20 | 25 => 5 | 26 => 21 | 27 => 22 | 28 => 23
  | 29 => 24 | 30 => 25 | 31 => 26 | 32 => 27 | 33 => 28 | 40 => 34 | 41 => 35 | 42 => 36 | 43 => 37 | 44 => 38 | 45 => 39 | 46 => 42 | 47 => 43 | 48 => 44
  | _ => 32
def lc_enc (q : Nat × Int32) : List Int32 := if q.1 = 2 ∨ q.1 = 25 ∨ q.1 = 26 ∨ q.1 = 27 then [lc_wd q.1, q.2] else if q.1 = 28 then [23, nI (q.2.toNatClampNeg / 6), nI (q.2.toNatClampNeg % 6)] else [lc_wd q.1]
def lc_code : List (Nat × Int32) → List Int32
  | [] => []
  | q :: t => lc_enc q ++ lc_code t
/-- an order stands well, from a stack of t to one of u -/
def lc_W1 (H : Nat) (q : Nat × Int32) (t u : Nat) : Prop :=
  (q.1 = 2 ∧ u = t + 1) ∨ ((q.1 = 20 ∨ q.1 = 21 ∨ q.1 = 22 ∨ q.1 = 23 ∨ q.1 = 24) ∧ u = t + 1) ∨ ((q.1 = 25 ∨ q.1 = 26 ∨ q.1 = 27) ∧ u = t + 1 ∧ ∃ h, h < H ∧ q.2 = nI h) ∨
  (q.1 = 28 ∧ u = t + 1 ∧ ∃ h g, h < H ∧ g < H ∧ q.2 = nI (h * 6 + g)) ∨ (q.1 = 29 ∧ u = t ∧ 1 ≤ t) ∨
  ((q.1 = 30 ∨ q.1 = 31 ∨ q.1 = 32 ∨ q.1 = 33 ∨ q.1 = 40 ∨ q.1 = 41 ∨ q.1 = 42 ∨ q.1 = 43 ∨ q.1 = 44 ∨ q.1 = 45 ∨ q.1 = 46 ∨ q.1 = 47 ∨ q.1 = 48) ∧ t = u + 1 ∧ 1 ≤ u)
def lc_Wf (H : Nat) : List (Nat × Int32) → Nat → Nat → Prop
  | [], t, u => t = u
  | q :: r, t, u => ∃ v, lc_W1 H q t v ∧ lc_Wf H r v u
section LCP
variable {H : Nat} {od : Nat → Option Nat} {nu pc : m_Rr}
theorem lc_O (h6 : H ≤ 6) {q : Nat × Int32} {a t u : Nat} (hw : lc_W1 H q t u) (hp : ∀ j x, (lc_enc q)[j]? = some x → pc (a + j) = x) : m_O (fun j g => g < H ∧ pc j = nI g) pc q.1 q.2 a (a + (lc_enc q).length) t u := by
  obtain ⟨d, n⟩ := q
  unfold m_O
  rcases hw with ⟨e, hu⟩ | ⟨e, hu⟩ | ⟨e, hu, h, hh, hn⟩ | ⟨e, hu, h, g, hh, hg, hn⟩ | ⟨e, hu, ht⟩ | ⟨e, ht, hu⟩
  · have e : d = 2 := e
    subst e
    exact Or.inl ⟨hu, rfl, hp 0 _ rfl, hp 1 _ rfl, rfl⟩
  · have e : d = 20 ∨ d = 21 ∨ d = 22 ∨ d = 23 ∨ d = 24 := e
    refine Or.inr (Or.inl ⟨hu, ?_, ?_⟩)
    · rcases e with rfl | rfl | rfl | rfl | rfl <;> rfl
    · rcases e with rfl | rfl | rfl | rfl | rfl
      · exact Or.inl ⟨rfl, hp 0 _ rfl⟩
      · exact Or.inr (Or.inl ⟨rfl, hp 0 _ rfl⟩)
      · exact Or.inr (Or.inr (Or.inl ⟨rfl, hp 0 _ rfl⟩))
      · exact Or.inr (Or.inr (Or.inr (Or.inl ⟨rfl, hp 0 _ rfl⟩)))
      · exact Or.inr (Or.inr (Or.inr (Or.inr ⟨rfl, hp 0 _ rfl⟩)))
  · have e : d = 25 ∨ d = 26 ∨ d = 27 := e
    have hn : n = nI h := hn
    refine Or.inr (Or.inr (Or.inl ⟨hu, ?_, ⟨h, by omega, hn, hh, ?_⟩, ?_⟩))
    · rcases e with rfl | rfl | rfl <;> rfl
    · rcases e with rfl | rfl | rfl <;> exact (hp 1 _ rfl).trans hn
    · rcases e with rfl | rfl | rfl
      · exact Or.inl ⟨rfl, hp 0 _ rfl⟩
      · exact Or.inr (Or.inl ⟨rfl, hp 0 _ rfl⟩)
      · exact Or.inr (Or.inr ⟨rfl, hp 0 _ rfl⟩)
  · have e : d = 28 := e
    replace hn : n = nI (h * 6 + g) := hn
    subst e
    have hc : n.toNatClampNeg = h * 6 + g := by rw [hn]; exact nI_clamp (by omega)
    refine Or.inr (Or.inr (Or.inr (Or.inl ⟨hu, rfl, rfl, hp 0 _ rfl, h, g, by omega, by omega, hn, ⟨hh, ?_⟩, hg, ?_⟩)))
    · rw [hp 1 _ rfl]
      show nI (n.toNatClampNeg / 6) = nI h
      rw [hc, show (h * 6 + g) / 6 = h by omega]
    · rw [hp 2 _ rfl]
      show nI (n.toNatClampNeg % 6) = nI g
      rw [hc, show (h * 6 + g) % 6 = g by omega]
  · have e : d = 29 := e
    subst e
    exact Or.inr (Or.inr (Or.inr (Or.inr (Or.inl ⟨hu, ht, rfl, Or.inr ⟨rfl, hp 0 _ rfl⟩⟩))))
  · have e : d = 30 ∨ d = 31 ∨ d = 32 ∨ d = 33 ∨ d = 40 ∨ d = 41 ∨ d = 42 ∨ d = 43 ∨ d = 44 ∨ d = 45 ∨ d = 46 ∨ d = 47 ∨ d = 48 := e
    refine Or.inr (Or.inr (Or.inr (Or.inr (Or.inr ⟨ht, hu, ?_, ?_⟩))))
    · rcases e with rfl | rfl | rfl | rfl | rfl | rfl | rfl | rfl | rfl | rfl | rfl | rfl | rfl <;> rfl
    · rcases e with rfl | rfl | rfl | rfl | rfl | rfl | rfl | rfl | rfl | rfl | rfl | rfl | rfl <;> (have hx := hp 0 _ rfl; simp [show pc a = _ from hx, lc_wd])
theorem lc_Cd (h6 : H ≤ 6) : ∀ (os : List (Nat × Int32)) (i a t u : Nat), lc_Wf H os t u → (∀ (j : Nat) (q : Nat × Int32), os[j]? = some q → od (i + j) = some q.1 ∧ nu (i + j) = q.2) → (∀ (j : Nat) (x : Int32), (lc_code os)[j]? = some x → pc (a + j) = x) → m_Cd (fun j g => g < H ∧ pc j = nI g) od nu pc os.length i a t (a + (lc_code os).length) u
  | [], i, a, t, u, hw, _, _ => ⟨rfl, hw⟩
  | q :: r, i, a, t, u, hw, ho, hp => by
    obtain ⟨v, h1, h2⟩ := hw
    obtain ⟨o1, o2⟩ := ho 0 q rfl
    have o2 : nu i = q.2 := o2
    refine ⟨q.1, a + (lc_enc q).length, v, o1, ?_, ?_⟩
    · rw [o2]
      refine lc_O h6 h1 (fun j x hj => hp j x ?_)
      show (lc_enc q ++ lc_code r)[j]? = some x
      rw [List.getElem?_append_left (List.getElem?_eq_some_iff.mp hj).1]; exact hj
    · have h3 := lc_Cd h6 r (i + 1) (a + (lc_enc q).length) v u h2 (fun j z hj => by
        rw [show i + 1 + j = i + (j + 1) by omega]; exact ho (j + 1) z hj) (fun j x hj => by
        rw [show a + (lc_enc q).length + j = a + ((lc_enc q).length + j) by omega]
        refine hp _ x ?_
        show (lc_enc q ++ lc_code r)[_]? = some x
        rw [List.getElem?_append_right (by omega), Nat.add_sub_cancel_left]; exact hj)
      have e : a + (lc_enc q).length + (lc_code r).length = a + (lc_code (q :: r)).length := by
        show _ = a + (lc_enc q ++ lc_code r).length
        rw [List.length_append]; omega
      rw [e] at h3
      exact h3
theorem lc_sumW {w : Nat → Int32} {a2 : Nat} (h2 : w 2 = nI a2) (l2 : a2 < H) : lc_Wf H (z_sumO w) 0 1 ∧ (lc_code (z_sumO w)).length ≤ 9 := by
  unfold z_sumO
  by_cases h4 : w 4 = 0
  · rw [if_pos h4]; exact ⟨⟨1, Or.inl ⟨rfl, rfl⟩, rfl⟩, by show 2 ≤ 9; decide⟩
  · rw [if_neg h4]
    by_cases h41 : w 4 = 1
    · rw [if_pos h41]
      refine ⟨⟨1, Or.inr (Or.inl ⟨Or.inl rfl, rfl⟩), 2, Or.inr (Or.inl ⟨Or.inl rfl, rfl⟩), 3, Or.inl ⟨rfl, rfl⟩, 2, ?_, 3, Or.inl ⟨rfl, rfl⟩, 2, ?_, 1, ?_, rfl⟩, by show 9 ≤ 9; decide⟩
      all_goals exact Or.inr (Or.inr (Or.inr (Or.inr (Or.inr ⟨by decide, rfl, by decide⟩))))
    · rw [if_neg h41]
      exact ⟨⟨1, Or.inr (Or.inr (Or.inl ⟨Or.inr (Or.inl rfl), rfl, a2, l2, h2⟩)), 2, Or.inl ⟨rfl, rfl⟩, 1, Or.inr (Or.inr (Or.inr (Or.inr (Or.inr ⟨by decide, rfl, by decide⟩)))), rfl⟩, by show 5 ≤ 9; decide⟩
theorem lc_tstW {w : Nat → Int32} {a a1 a8 : Nat} (ha : a ≤ 6) (h1 : w 1 = nI a1) (l1 : a1 < H) (h8 : w 8 = nI a8) (l8 : a8 < H) : (a = 0 ∨ lc_Wf H (z_tstO a w) 0 1) ∧ (lc_code (z_tstO a w)).length ≤ 12 := by
  have two : ∀ {q : Nat × Int32} {t u : Nat}, (q.1 = 30 ∨ q.1 = 31 ∨ q.1 = 32 ∨ q.1 = 33 ∨ q.1 = 40 ∨ q.1 = 41 ∨ q.1 = 42 ∨ q.1 = 43 ∨ q.1 = 44 ∨ q.1 = 45 ∨ q.1 = 46 ∨ q.1 = 47 ∨ q.1 = 48) → t = u + 1 → 1 ≤ u → lc_W1 H q t u := fun e1 e2 e3 => Or.inr (Or.inr (Or.inr (Or.inr (Or.inr ⟨e1, e2, e3⟩))))
  have hc : a = 0 ∨ a = 1 ∨ a = 2 ∨ a = 3 ∨ a = 4 ∨ a = 5 ∨ a = 6 := by omega
  rcases hc with rfl | rfl | rfl | rfl | rfl | rfl | rfl
  · exact ⟨Or.inl rfl, by show 0 ≤ 12; decide⟩
  · exact ⟨Or.inr ⟨1, Or.inr (Or.inl ⟨by decide, rfl⟩), 2, Or.inl ⟨rfl, rfl⟩, 1, two (by decide) rfl (by decide), rfl⟩, by show 4 ≤ 12; decide⟩
  · exact ⟨Or.inr ⟨1, Or.inr (Or.inr (Or.inl ⟨Or.inr (Or.inr rfl), rfl, a8, l8, h8⟩)), rfl⟩, by show 2 ≤ 12; decide⟩
  · refine ⟨Or.inr ⟨1, Or.inr (Or.inr (Or.inr (Or.inl ⟨rfl, rfl, a8, a1, l8, l1, ?_⟩))), 1, Or.inr (Or.inr (Or.inr (Or.inr (Or.inl ⟨rfl, rfl, by decide⟩)))), rfl⟩, by show 4 ≤ 12; decide⟩
    show w 8 * 6 + w 1 = _
    rw [h8, h1, show (6 : Int32) = nI 6 from rfl, pk_mul, nI_add]
  · exact ⟨Or.inr ⟨1, Or.inr (Or.inl ⟨by decide, rfl⟩), 2, Or.inr (Or.inl ⟨by decide, rfl⟩), 3, Or.inl ⟨rfl, rfl⟩, 2, two (by decide) rfl (by decide), 3, Or.inl ⟨rfl, rfl⟩, 2, two (by decide) rfl (by decide), 1, two (by decide) rfl (by decide), 2, Or.inl ⟨rfl, rfl⟩, 1, two (by decide) rfl (by decide), rfl⟩, by show 12 ≤ 12; decide⟩
  · exact ⟨Or.inr ⟨1, Or.inr (Or.inl ⟨by decide, rfl⟩), 2, Or.inr (Or.inr (Or.inl ⟨Or.inl rfl, rfl, a8, l8, h8⟩)), 1, two (by decide) rfl (by decide), 2, Or.inr (Or.inl ⟨by decide, rfl⟩), 3, Or.inl ⟨rfl, rfl⟩, 2, two (by decide) rfl (by decide), 1, two (by decide) rfl (by decide), rfl⟩, by show 9 ≤ 12; decide⟩
  · exact ⟨Or.inr ⟨1, Or.inr (Or.inl ⟨by decide, rfl⟩), 2, Or.inl ⟨rfl, rfl⟩, 1, two (by decide) rfl (by decide), 2, Or.inr (Or.inr (Or.inl ⟨Or.inr (Or.inl rfl), rfl, a8, l8, h8⟩)), 3, Or.inl ⟨rfl, rfl⟩, 2, two (by decide) rfl (by decide), 1, two (by decide) rfl (by decide), rfl⟩, by show 10 ≤ 12; decide⟩
def lc_L (W : Nat → Nat → Int32) (k : Nat) : List Int32 := lc_code (z_sumO (W k)) ++ lc_code (z_tstO (m_w (W k) 6) (W k))
def lc_pc (W : Nat → Nat → Int32) (j : Nat) : Int32 := ((lc_L W (j / 32))[j % 32]?).getD 0
theorem lc_pc_at {W : Nat → Nat → Int32} {k j : Nat} {x : Int32} (hj : j < 32) (hx : (lc_L W k)[j]? = some x) : lc_pc W (32 * k + j) = x := by
  unfold lc_pc
  rw [show (32 * k + j) / 32 = k by omega, show (32 * k + j) % 32 = j by omega, hx]; rfl
def lc_kd (a : Nat) : Int32 := match a with
  | 0 => 4 | 1 => 7 | 2 => 10 | 3 => 11 | _ => 14
theorem lc_Pn {m hf ns oc : Nat} {pn mp : m_Rr} {T1 : Nat → m_Rr} {K1 : Nat → Nat → Option Nat} {W : Nat → Nat → Int32} (h6 : H ≤ 6) (hP : m_Pl H m hf pn mp) (q4 : pn 4 = nI ns) (hns : ns ≤ 12) (q5 : pn 5 = nI oc) (hoc : oc ≤ 400) (hT : ∀ k, k < ns → z_Tld H oc od nu T1 K1 k (W k)) : ∃ mp' pd po pq pr ps pt pe pc, m_Pn H m hf ns oc pn nu od T1 K1 mp' pd po pq pr ps pt pe pc := by
  refine ⟨fun j => if j = 4 then nI ns else mp j, fun k => lc_kd (m_w (W k) 0), fun k => W k 1, fun k => W k 2, fun k => W k 3, fun k => nI (32 * k), fun k => nI (32 * k + (lc_code (z_sumO (W k))).length), fun k => nI (32 * k + (lc_L W k).length), lc_pc W, ?_, q4, rfl, by omega, q5, hoc, fun k hk => ?_⟩
  · obtain ⟨p0, p1, p2, p3, p4, p5, p6⟩ := hP
    exact ⟨p0, p1, p2, p3, p4, p5, p6⟩
  · obtain ⟨a0, a1, a2, a3, a6, a8, ⟨w0, l0⟩, ⟨w1, l1⟩, ⟨w2, l2⟩, ⟨w3, l3⟩, ⟨w6, l6⟩, ⟨w8, l8⟩, t0, t1, t3, t2, tS, i9, f1, f2, f3, f4⟩ := hT k hk
    have e0 : m_w (W k) 0 = a0 := m_w_nI w0 (by omega)
    have e6 : m_w (W k) 6 = a6 := m_w_nI w6 (by omega)
    obtain ⟨s1, s2⟩ := lc_sumW (H := H) w2 l2
    obtain ⟨u1, u2⟩ := lc_tstW (H := H) (a := a6) l6 w1 l1 w8 l8
    have hL : (lc_L W k).length = (lc_code (z_sumO (W k))).length + (lc_code (z_tstO a6 (W k))).length := by unfold lc_L; rw [List.length_append, e6]
    have pS : ∀ (j : Nat) (x : Int32), (lc_code (z_sumO (W k)))[j]? = some x → lc_pc W (32 * k + j) = x := fun j x hj => by
      have hjl := (List.getElem?_eq_some_iff.mp hj).1
      exact lc_pc_at (by omega) (by unfold lc_L; rw [List.getElem?_append_left hjl]; exact hj)
    have pT : ∀ (j : Nat) (x : Int32), (lc_code (z_tstO a6 (W k)))[j]? = some x → lc_pc W (32 * k + (lc_code (z_sumO (W k))).length + j) = x := fun j x hj => by
      have hjl := (List.getElem?_eq_some_iff.mp hj).1
      rw [show 32 * k + (lc_code (z_sumO (W k))).length + j = 32 * k + ((lc_code (z_sumO (W k))).length + j) by omega]
      exact lc_pc_at (by omega) (by unfold lc_L; rw [List.getElem?_append_right (by omega), Nat.add_sub_cancel_left, e6]; exact hj)
    refine ⟨⟨a1, l1, t1.trans w1, w1⟩, ?_, ?_⟩
    · have hc : a0 = 0 ∨ a0 = 1 ∨ a0 = 2 ∨ a0 = 3 ∨ a0 = 4 := by omega
      rcases hc with rfl | rfl | rfl | rfl | rfl
      · obtain ⟨i0, g1, g2, g3, g4⟩ := tS rfl
        exact Or.inl ⟨t0, by show lc_kd (m_w (W k) 0) = 4; rw [e0]; rfl, i0, _, 32 * k, 32 * k + (lc_code (z_sumO (W k))).length, a3, g1, g2, g3, rfl, rfl, by omega, lc_Cd h6 _ i0 (32 * k) 0 1 s1 g4 pS, l3, (t3 (by decide)).trans w3, w3⟩
      · exact Or.inr (Or.inl ⟨t0, by show lc_kd (m_w (W k) 0) = 7; rw [e0]; rfl, a2, l2, (t2 (Or.inl rfl)).trans w2, w2, t3 (by decide)⟩)
      · exact Or.inr (Or.inr (Or.inl ⟨t0, by show lc_kd (m_w (W k) 0) = 10; rw [e0]; rfl, t3 (by decide)⟩))
      · exact Or.inr (Or.inr (Or.inr (Or.inl ⟨t0, by show lc_kd (m_w (W k) 0) = 11; rw [e0]; rfl, a2, l2, (t2 (Or.inr rfl)).trans w2, w2, t3 (by decide)⟩)))
      · exact Or.inr (Or.inr (Or.inr (Or.inr ⟨t0, by show lc_kd (m_w (W k) 0) = 14; rw [e0]; rfl⟩)))
    · refine ⟨i9, (z_tstO a6 (W k)).length, 32 * k + (lc_code (z_sumO (W k))).length, 32 * k + (lc_L W k).length, f1, f2, f3, rfl, rfl, by omega, ?_⟩
      rcases u1 with rfl | u1
      · exact Or.inl ⟨rfl, by rw [hL]; show _ = 32 * k + (_ + 0); omega⟩
      · have hpos : 0 < (z_tstO a6 (W k)).length := by
          cases hz : z_tstO a6 (W k) with
          | nil => rw [hz] at u1; cases (show (0 : Nat) = 1 from u1)
          | cons x r => exact Nat.succ_pos _
        refine Or.inr ⟨hpos, ?_⟩
        rw [hL, show 32 * k + ((lc_code (z_sumO (W k))).length + (lc_code (z_tstO a6 (W k))).length) = 32 * k + (lc_code (z_sumO (W k))).length + (lc_code (z_tstO a6 (W k))).length by omega]
        exact lc_Cd h6 _ i9 _ 0 1 u1 f4 pT
end LCP
