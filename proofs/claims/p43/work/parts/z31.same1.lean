/-! isSame: hooks, ropes, the mean -/
abbrev la_Q1 : q_Po := fun o _ => ∃ x, o = .inl (some (.int x)) ∧ x = (1 : Int32)
/-- what hook i holds by hand, and in the class -/
def la_Hk (ν : Nat → Nat) (c : Nat) (h : q_H) (i : Nat) : Prop := (q_I h 470 i = -1 ∧ q_R h c i = none) ∨ ∃ b, b < 128 ∧ ¬ q_I h 459 b = 0 ∧ q_I h 470 i = nI b ∧ q_R h c i = some (ν b)
/-- a bale by hand is the class's -/
def la_Bl (ν : Nat → Nat) (h : q_H) (b : Nat) : Prop := (400 ≤ ν b ∧ q_sh h (ν b) = (0, 11, 0)) ∧ (q_I h (ν b) 0 = q_I h 461 b ∧ q_I h (ν b) 1 = q_I h 462 b ∧ q_I h (ν b) 2 = q_I h 460 b ∧ q_I h (ν b) 3 = q_bz (decide (q_I h 459 b = 2))) ∧
  ∃ a k, q_R h (ν b) 4 = some a ∧ (400 ≤ a ∧ q_sh h a = (3, 6, k)) ∧ k ≤ 3 ∧ q_I h 463 b = nI k ∧ ∀ r, r < k → (q_I h 464 (b * 3 + r) = -1 ∧ q_R h a r = none) ∨ (¬ q_I h 464 (b * 3 + r) = -1 ∧ ∃ y, q_R h a r = some y)
section LASAME1
variable {g : q_G} {d H m hf ns oc G s k n b c : Nat} {Q : Nat → Nat → Nat} {pn nu : m_Rr} {od : Nat → Option Nat} {T1 : Nat → m_Rr} {K1 : Nat → Nat → Option Nat} {h h1 h' : q_H} {ν : Nat → Nat} {mc ms : Nat} {h0 : q_H}
theorem la_D_same (hD : la_D H m hf ns Q pn nu od T1 K1 G h s) : ∃ ν c, (q_R h s 2 = some c ∧ 400 ≤ c ∧ q_sh h c = (3, 6, H)) ∧ (∀ x y, x < 128 → y < 128 → ¬ q_I h 459 x = 0 → ¬ q_I h 459 y = 0 → ν x = ν y → x = y) ∧ (∀ i, i < H → la_Hk ν c h i) ∧ ∀ b, b < 128 → ¬ q_I h 459 b = 0 → la_Bl ν h b := by
  obtain ⟨⟨cc, pl, rows, ⟨hL, Y, ν, hl, ll, hkL, hR, hB⟩, hN⟩, hA⟩ := hD
  obtain ⟨o1, o2, o3, c, o4, o5, o6⟩ := z_OK_s hB.1
  obtain ⟨v1, v2, ⟨v3, v4⟩, v5, v6, ⟨v7, v8⟩, v9⟩ := id hB.2.1
  have v7 : hkL.length = H := v7
  rw [v7] at o5
  have hw := hB.1.2.1
  refine ⟨ν, c, ⟨o4, z_4 o6.1.1, o5⟩, v1, fun i hi => ?_, fun b hb h0 => ?_⟩
  · rcases v8 i hi with ⟨e1, e2⟩ | ⟨b, b1, b2, b3, b4⟩
    · exact Or.inl ⟨e1, o6.2.2.2 i none e2⟩
    · exact Or.inr ⟨b, b1, b2, b3, o6.2.2.2 i (some (ν b)) b4⟩
  · have hm : ν b ∈ hl ++ ll := z_B_mem hR hB hb h0
    obtain ⟨⟨⟨w1, w2⟩, w3⟩, ⟨w4, ⟨w5, w6⟩, w7, w8⟩, -⟩ := hw (ν b) hm
    obtain ⟨f0, f1, f2, f3⟩ := v5 b hb h0
    obtain ⟨k, k1, k2, k3, k4⟩ := v6 b hb h0
    have kl : z_rl h (ν b) = k := by rw [← k3]; unfold z_rp; rw [List.length_map, List.length_range]
    refine ⟨⟨z_4 w1, w3⟩, ⟨f0, f1, f2, ?_⟩, z_ra h (ν b), k, w4, ⟨z_4 w5, by rw [← kl]; exact w7⟩, k1, k2, fun r hr => ?_⟩
    · rw [f3]
      show (if q_I h 459 b = 2 then (1 : Int32) else 0) = _
      by_cases e : q_I h 459 b = 2
      · rw [if_pos e, decide_eq_true e]; rfl
      · rw [if_neg e, decide_eq_false e]; rfl
    · have e : (z_rp h (ν b))[r]? = some (q_R h (z_ra h (ν b)) r) := by
        unfold z_rp
        rw [List.getElem?_map, List.getElem?_range (by omega)]; rfl
      have k5 := k4 r hr
      rw [e] at k5
      rcases k5 with ⟨e1, e2⟩ | ⟨y, y1, y2, y3, y4⟩
      · exact Or.inl ⟨e1, Option.some.inj e2⟩
      · exact Or.inr ⟨fun hh => m_nI_m1 (show y < 2147483648 by omega) (y3.symm.trans hh), ν y, Option.some.inj y4⟩
theorem lk_ropeLeads (hd : 8 ≤ d) (hS : lc_S H m hf G h) {i r k : Nat} (hi : i < H) (hb : q_I h 470 i = nI b) (b8 : b < 128) (hk3 : k ≤ 3) (hk : q_I h 463 b = nI k) (hr : r < k) : q_Ct g m_X12_ropeLeads d 3 18 [] [.ref 400, .int (nI i), .int (nI r)] h (fun o h' => ∃ y, o = .inl (some (.int y)) ∧ y = q_bz (decide (¬ q_I h 464 (b * 3 + r) = -1)) ∧ h' = h) := by
  obtain ⟨mp, p0, p1, p2, p3, p4, p5, p6⟩ := hS.2.2.1
  obtain ⟨hL, st, sh, sw, sp, ss, sr, sa, sd, hR⟩ := hS.2.2.2.1
  obtain ⟨i6, i1, -⟩ := m_hkv hR hi
  obtain ⟨k', k1, k2, k3, -⟩ := m_kc hR b8
  obtain rfl : k' = k := (nI_eq (by omega) (by omega)).mp (k2.symm.trans hk)
  have e1 := m_hasRope (r := r) b8 (by omega) hk hk3
  rw [decide_eq_true hr] at e1
  have e2 : f_X1_lead (q_I h 463) (q_I h 464) (nI b) (nI r) = some (q_I h 464 (b * 3 + r)) := by
    rcases m_hasB (ld := q_I h 464) b8 i6 (i1.symm.trans hb) k1 k2 k3 (nI r) with ⟨c1, -⟩ | ⟨r', hr', er, c1, -, c3, -⟩
    · rw [e1] at c1
      exact absurd (Option.some.inj c1) (by decide)
    · obtain rfl : r = r' := (nI_eq (by omega) (by omega)).mp er
      exact c3
  refine lk_of (lq_ropeLeads (r0 := .inl (decide (¬ q_I h 464 (b * 3 + r) = -1))) hd hS.1.1 hS.1.2 ?_)
  unfold f_X12_ropeLeads
  rw [lc_hd hS.2.1.1.2 p5 hi hb b8, Option.bind_some]
  show (f_X1_hasRope _ (nI b) (nI r)).bind _ = _
  rw [e1, Option.bind_some, if_pos (show ¬ q_bz true = 0 by decide), e2, Option.bind_some]
  by_cases e : q_I h 464 (b * 3 + r) = -1
  · rw [if_pos e, decide_eq_false (fun hh => hh e)]
  · rw [if_neg e, decide_eq_true e]
/-- ropes of what a hook holds -/
theorem la_s174 {mv : List Nat} {x i : Nat} (hd : 20 ≤ d) (hd2 : d < 2048) (hS : lc_S H m hf G h) (hi : i < H) (hb : q_I h 470 i = nI b) (b8 : b < 128) (hBl : la_Bl ν h b) : ∀ (z r k n : Nat), r + z = 3 → k + z * 3 ≤ mc → n + z * 18 ≤ ms →
    (∀ k2 n2, k2 ≤ k + z * 3 → n2 ≤ n + z * 18 → q_K g m_X14_isSame [] d mc ms h0 mv la_Q1 k2 n2 (88, [some (.ref s), some (.ref 400), some (.ref x), some (.int (nI (i + 1))), none, none], [], h)) →
    q_K g m_X14_isSame [] d mc ms h0 mv la_Q1 k n (174, [some (.ref s), some (.ref 400), some (.ref x), some (.int (nI i)), some (.ref (ν b)), some (.int (nI r))], [], h) := by
  obtain ⟨hb1, -, a, kk, a1, a2, a3, a4, a5⟩ := hBl
  have h16 : q_s16 kk := by show kk < 65536; omega
  intro z
  induction z with
  | zero =>
    intro r k n hr hk hn hK
    refine w_X14_isSame_174 (by omega) ⟨hb1, a, a1, kk, a2, fun _ => ?_, fun hq => absurd (nI_le (by omega) (by omega)) hq⟩
    rw [nI_1]
    exact hK k n (by omega) (by omega)
  | succ z ih =>
    intro r k n hr hk hn hK
    rcases Nat.lt_or_ge r kk with hlt | hge
    · have hrl := lk_ropeLeads (g := g) (d := d - 1) (by omega) hS hi hb b8 a3 a4 hlt
      have nx : ∀ k2 n2, k2 ≤ k + 3 → n2 ≤ n + 18 → q_K g m_X14_isSame [] d mc ms h0 mv la_Q1 k2 n2 (174, [some (.ref s), some (.ref 400), some (.ref x), some (.int (nI i)), some (.ref (ν b)), some (.int (nI r + 1))], [], h) := fun k2 n2 c1 c2 => by
        rw [nI_1]
        exact ih (r + 1) k2 n2 (by omega) (by omega) (by omega) (fun k3 n3 c3 c4 => hK k3 n3 (by omega) (by omega))
      refine w_X14_isSame_174 (by omega) ⟨hb1, a, a1, kk, a2, fun hq => absurd hq (nI_ge hlt (by omega)), fun _ => ⟨la_O hS, la_c1 (by omega) hd2 hrl (by omega) (by omega) ⟨hb1, a, a1, r, kk, rfl, ⟨a2.1, a2.2, hlt, h16⟩, ?_⟩⟩⟩
      rcases a5 r hlt with ⟨e1, e2⟩ | ⟨e1, y, e2⟩
      · rw [decide_eq_false (fun hh => hh e1)]
        exact ⟨fun b10 hb10 => (by rw [e2] at hb10; cases hb10), fun _ => ⟨fun _ => nx _ _ (by omega) (by omega), fun hq => absurd rfl hq⟩⟩
      · rw [decide_eq_true e1]
        exact ⟨fun b10 _ => ⟨fun _ => nx _ _ (by omega) (by omega), fun hq => absurd rfl hq⟩, fun hn => (by rw [e2] at hn; cases hn)⟩
    · refine w_X14_isSame_174 (by omega) ⟨hb1, a, a1, kk, a2, fun _ => ?_, fun hq => absurd (nI_le hge (by omega)) hq⟩
      rw [nI_1]
      exact hK k n (by omega) (by omega)
end LASAME1
