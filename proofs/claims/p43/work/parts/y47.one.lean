/-! A STEP THAT IS NEXT, on both sides -/
section ZNEXT
variable {h h' : q_H} {s v c : Nat} {H m hf ns oc : Nat} {pn nu mp : m_Rr} {od : Nat → Option Nat} {T1 : Nat → m_Rr} {K1 : Nat → Nat → Option Nat} {X : m_CB} {y : Int32}
/-- what counts the steps -/
def z_Nx (g : Nat) (X X' : m_CB) (ok : Bool) : Prop := X'.1 10 = nI (g + 1) ∧ (X'.1 12 = X.1 12 ∨ X'.1 12 = X.1 12 + 1) ∧ (X'.1 11 = X.1 11 ∨ ok = false ∧ X'.1 11 = X.1 11 + 1)
theorem z_done_8 {hl ll : List Nat} {hkL : List (Option Nat)} {σ : z_St} {up i1 i2 L : Nat} {o1 o2 : Option Nat} (hO : z_OK h s hl ll hkL m) (e : z_doneR h h' s v c hl ll hkL up i1 i2 L o1 o2 y σ) : q_I h' s 8 = q_I h s 8 := by
  have hs := z_OK_s hO
  rcases e with ⟨-, e⟩ | ⟨-, e⟩ | ⟨-, e⟩ | ⟨-, e⟩ | ⟨-, e⟩
  · rcases e with ⟨-, -, e⟩ | ⟨-, h1, mC, ⟨-, -, e⟩ | ⟨-, -, e⟩⟩
    · rw [(e.1.2 s hs.2.2.1).2.2.2.1]
    · rw [(e.1.2 s (Nat.lt_of_lt_of_le hs.2.2.1 mC.1.1)).2.2.2.1]
      exact mC.2.2.2.2.1.2.2.2.2 8 (by decide) (by decide) (by decide) (by decide)
    · rw [e]
      exact mC.2.2.2.2.1.2.2.2.2 8 (by decide) (by decide) (by decide) (by decide)
  · unfold z_tie at e
    split at e
    · obtain rfl : h' = _ := congrArg Prod.snd e
      rfl
    · obtain rfl : h' = _ := congrArg Prod.snd e
      rfl
  · unfold z_untie at e
    split at e
    · obtain rfl : h' = _ := congrArg Prod.snd e
      rfl
    · obtain rfl : h' = _ := congrArg Prod.snd e
      rfl
  · unfold z_follow at e
    split at e
    · split at e
      · obtain rfl : h' = _ := congrArg Prod.snd e
        rfl
      · obtain rfl : h' = _ := congrArg Prod.snd e
        rfl
    · obtain rfl : h' = _ := congrArg Prod.snd e
      rfl
  · unfold z_drop at e
    obtain rfl : h' = _ := congrArg Prod.snd e
    rfl
theorem z_next {g : Nat} {hL : List Nat} {Y : m_SB} {ν : Nat → Nat} {hl ll : List Nat} {hkL : List (Option Nat)} {i1 i2 i8 L : Nat} {o1 o2 o8 : Option Nat} (hP : m_Pl H m hf pn mp) (q1 : pn 4 = nI ns) (hns : 0 < ns) (h20 : ns ≤ 20) (hoc : pn 5 = nI oc) (hoc4 : oc ≤ 400) (hT : z_Tld H oc od nu T1 K1 (g % ns) (q_I h v)) (hg : X.1 10 = nI g) (hg2 : g < 2 ^ 30)
    (hR : m_R H m hf hL X.1 X.2.1 X.2.2.1 X.2.2.2.1 X.2.2.2.2.1 X.2.2.2.2.2.1 X.2.2.2.2.2.2.1 X.2.2.2.2.2.2.2.1 X.2.2.2.2.2.2.2.2.1 X.2.2.2.2.2.2.2.2.2.2.2.2.1 X.2.2.2.2.2.2.2.2.2.2.2.2.2.1 Y.2.2.2.2.1 Y.2.2.2.2.2.1 Y.2.2.2.2.2.2.1 Y.2.2.2.2.2.2.2.1 Y.2.2.2.2.2.2.2.2.1 Y.2.2.2.2.2.2.2.2.2.1 Y.2.2.2.2.2.2.2.2.2.2.1 Y.2.2.2.2.2.2.2.2.2.2.2)
    (hB : z_B h s ν H m hf hL pn X.1 X.2.1 X.2.2.1 X.2.2.2.1 X.2.2.2.2.1 X.2.2.2.2.2.1 X.2.2.2.2.2.2.1 X.2.2.2.2.2.2.2.2.2.2.2.2.1 hl ll hkL)
    (hc : q_R h s 2 = some c) (h1 : q_I h v 1 = nI i1) (ho1 : hkL[i1]? = some o1) (h2 : q_I h v 2 = nI i2) (ho2 : hkL[i2]? = some o2) (h3 : q_I h v 3 = nI L) (hL3 : L ≤ 3) (h8 : q_I h v 8 = nI i8) (ho8 : hkL[i8]? = some o8) :
    (z_dueV (q_I h) s v (z_sum (fun x => q_I h x 0) hl) (nI hl.length + nI ll.length) o8 o1 = false → ∃ X', m_ps pn nu od T1 K1 X = some (false, X') ∧ z_RB H m hf pn (z_aft h s 0) s X' ∧ z_Nx g X X' false) ∧
    (z_dueV (q_I h) s v (z_sum (fun x => q_I h x 0) hl) (nI hl.length + nI ll.length) o8 o1 = true → ∀ y h', z_doneR h h' s v c hl ll hkL m i1 i2 L o1 o2 y (z_copy (z_rp h) m (q_I h s 5) hl ll hkL (q_I h) (q_I h s 11)) → ∃ ok X', m_ps pn nu od T1 K1 X = some (ok, X') ∧ y = (if ok = true then 1 else 0) ∧ z_RB H m hf pn (z_aft h' s (if y = 0 then 1 else 0)) s X' ∧ z_Nx g X X' ok) := by
  have hRB : z_RB H m hf pn h s X := ⟨hL, Y, ν, hl, ll, hkL, hR, hB⟩
  have h6H : H ≤ 6 := hR.2.2.2.2.2.1.1
  have hkn : g % ns < ns := Nat.mod_lt _ hns
  have ht20 : q_t20 (g % ns) = some () := by unfold q_t20; rw [if_pos (by omega)]
  have hlen : hkL.length = H := hB.2.1.2.2.2.2.2.1.1
  obtain ⟨a0, a1, a2, a3, a6, a8, ⟨w0, l0⟩, ⟨w1, l1⟩, ⟨w2, l2⟩, ⟨w3, l3⟩, ⟨w6, l6⟩, ⟨w8, l8⟩, t0, t1, t3, t2, tS, i0, f1, f2, f3, f4⟩ := id hT
  obtain rfl : a1 = i1 := (nI_eq (by omega) (by have := (List.getElem?_eq_some_iff.mp ho1).1; omega)).mp (w1.symm.trans h1)
  obtain rfl : a8 = i8 := (nI_eq (by omega) (by have := (List.getElem?_eq_some_iff.mp ho8).1; omega)).mp (w8.symm.trans h8)
  have ok1 : ∀ (Z : m_CB), z_RB H m hf pn h s Z → Z.1 = X.1 → ∀ (y : Int32) (h' : q_H), (∃ ok X', m_pf pn nu od T1 K1 Z (g % ns) = some (ok, X') ∧ z_RB H m hf pn h' s X' ∧ y = (if ok = true then 1 else 0) ∧ X'.1 10 = Z.1 10 ∧ (X'.1 12 = Z.1 12 ∨ X'.1 12 = Z.1 12 + 1)) → q_I h' s 8 = q_I h s 8 →
      ∃ ok X', ((m_pf pn nu od T1 K1 Z (g % ns)).bind fun r => some (r.1, m_fC r.1 r.2)) = some (ok, X') ∧ y = (if ok = true then 1 else 0) ∧ z_RB H m hf pn (z_aft h' s (if y = 0 then 1 else 0)) s X' ∧ z_Nx g X X' ok := by
    intro Z hZ eZ y h' hD h88
    obtain ⟨ok, X', y1, y2, y3, y4, y5⟩ := hD
    have e11 : X'.1 11 = X.1 11 := by
      obtain ⟨-, -, -, -, -, -, -, ⟨-, -, -, -, -, b6, -⟩⟩ := id y2
      obtain ⟨-, -, -, -, -, -, -, ⟨-, -, -, -, -, d6, -⟩⟩ := id hZ
      rw [← b6, h88, d6, eZ]
    refine ⟨ok, m_fC ok X', by rw [y1]; rfl, y3, ?_, ?_⟩
    · cases ok with
      | true =>
        have y3 : y = 1 := y3
        subst y3
        have := z_RB_aft (r := 0) (bn' := q_up X'.1 10 (X'.1 10 + 1)) y2 m_up_s ((m_up_n (by decide)).trans (Int32.add_zero _).symm) (fun j hj _ => m_up_n hj)
        exact this
      | false =>
        have y3 : y = 0 := y3
        subst y3
        have := z_RB_aft (r := 1) (bn' := q_up (q_up X'.1 11 (X'.1 11 + 1)) 10 (q_up X'.1 11 (X'.1 11 + 1) 10 + 1)) y2 (by rw [m_up_s, m_up_n (by decide)]) (by rw [m_up_n (by decide), m_up_s]; rfl) (fun j h1 h2 => (m_up_n h1).trans (m_up_n h2))
        exact this
    · have e10 : X'.1 10 + 1 = nI (g + 1) := by rw [y4, eZ, hg, nI_1]
      rw [eZ] at y5
      cases ok with
      | true =>
        refine ⟨(show q_up X'.1 10 (X'.1 10 + 1) 10 = _ by rw [m_up_s]; exact e10), ?_, Or.inl ?_⟩
        · show q_up X'.1 10 (X'.1 10 + 1) 12 = _ ∨ q_up X'.1 10 (X'.1 10 + 1) 12 = _
          rw [m_up_n (by decide)]; exact y5
        · show q_up X'.1 10 (X'.1 10 + 1) 11 = _
          rw [m_up_n (by decide)]; exact e11
      | false =>
        refine ⟨?_, ?_, Or.inr ⟨rfl, ?_⟩⟩
        · show q_up (q_up X'.1 11 (X'.1 11 + 1)) 10 (q_up X'.1 11 (X'.1 11 + 1) 10 + 1) 10 = _
          rw [m_up_s, m_up_n (by decide)]; exact e10
        · show q_up (q_up X'.1 11 (X'.1 11 + 1)) 10 (q_up X'.1 11 (X'.1 11 + 1) 10 + 1) 12 = _ ∨ q_up (q_up X'.1 11 (X'.1 11 + 1)) 10 (q_up X'.1 11 (X'.1 11 + 1) 10 + 1) 12 = _
          rw [m_up_n (by decide), m_up_n (by decide)]; exact y5
        · show q_up (q_up X'.1 11 (X'.1 11 + 1)) 10 (q_up X'.1 11 (X'.1 11 + 1) 10 + 1) 11 = _
          rw [m_up_n (by decide), m_up_s, e11]
  have hht : f_X10_hasTest T1 (g % ns) = some (decide (0 < (z_tstO a6 (q_I h v)).length)) := by
    unfold f_X10_hasTest
    rw [ht20, Option.bind_some, f1, f2]
    have := z_tstO_len (a := a6) (w := q_I h v)
    have := f3
    by_cases e : 0 < (z_tstO a6 (q_I h v)).length
    · rw [if_neg (nI_ge (by omega) (by omega))]; simp [e]
    · rw [if_pos (nI_le (by omega) (by omega))]; simp [e]
  rw [z_eC q1 hns h20 hg hg2, hht, Option.bind_some]
  by_cases h60 : a6 = 0
  · subst h60
    have hdue : z_dueV (q_I h) s v (z_sum (fun x => q_I h x 0) hl) (nI hl.length + nI ll.length) o8 o1 = true := by
      unfold z_dueV
      rw [w6, if_pos (by decide)]
    refine ⟨fun e => (by rw [hdue] at e; cases e), fun _ y h' hD => ?_⟩
    rw [if_pos (show q_bz (decide (0 < (z_tstO 0 (q_I h v)).length)) = 0 from rfl)]
    exact ok1 X hRB rfl y h' (z_perf hP hoc hoc4 (by omega) hT hR hB hc h1 ho1 h2 ho2 h3 hL3 rfl hD) (z_done_8 hB.1 hD)
  · have hpos : 0 < (z_tstO a6 (q_I h v)).length := by
      have hc : a6 = 1 ∨ a6 = 2 ∨ a6 = 3 ∨ a6 = 4 ∨ a6 = 5 ∨ a6 = 6 := by omega
      rcases hc with rfl | rfl | rfl | rfl | rfl | rfl <;> exact Nat.succ_pos _
    obtain ⟨rk', sk', g1⟩ := z_reckon (nu := nu) (od := od) (rk := X.2.2.2.2.2.2.2.2.2.2.2.2.2.2.2.1) (sk := X.2.2.2.2.2.2.2.2.2.2.2.2.2.2.2.2) hoc hoc4 f3 f4 z_tstO_len (z_tst_run (v := v) hP hR hB w6 l6 h60 w1 l1 ho1 w8 l8 ho8)
    rw [if_neg (by rw [decide_eq_true hpos]; decide), f1, f2, g1, Option.bind_some]
    refine ⟨fun hdue => ?_, fun hdue y h' hD => ?_⟩
    · rw [hdue, if_pos (show ¬ (if false = true then (1 : Int32) else 0) = 1 by decide)]
      refine ⟨_, rfl, ?_, ?_⟩
      · exact z_RB_aft (r := 0) (X := (X.1, X.2.1, X.2.2.1, X.2.2.2.1, X.2.2.2.2.1, X.2.2.2.2.2.1, X.2.2.2.2.2.2.1, X.2.2.2.2.2.2.2.1, X.2.2.2.2.2.2.2.2.1, X.2.2.2.2.2.2.2.2.2.1, X.2.2.2.2.2.2.2.2.2.2.1, X.2.2.2.2.2.2.2.2.2.2.2.1, X.2.2.2.2.2.2.2.2.2.2.2.2.1, X.2.2.2.2.2.2.2.2.2.2.2.2.2.1, X.2.2.2.2.2.2.2.2.2.2.2.2.2.2.1, rk', sk')) ⟨hL, Y, ν, hl, ll, hkL, hR, hB⟩ m_up_s ((m_up_n (by decide)).trans (Int32.add_zero _).symm) (fun j hj _ => m_up_n hj)
      · refine ⟨?_, Or.inl ?_, Or.inl ?_⟩
        · show q_up X.1 10 (X.1 10 + 1) 10 = _
          rw [m_up_s, hg, nI_1]
        · show q_up X.1 10 (X.1 10 + 1) 12 = X.1 12
          exact m_up_n (by decide)
        · show q_up X.1 10 (X.1 10 + 1) 11 = X.1 11
          exact m_up_n (by decide)
    · rw [hdue, if_neg (show ¬ ¬ (if true = true then (1 : Int32) else 0) = 1 by decide)]
      exact ok1 (X.1, X.2.1, X.2.2.1, X.2.2.2.1, X.2.2.2.2.1, X.2.2.2.2.2.1, X.2.2.2.2.2.2.1, X.2.2.2.2.2.2.2.1, X.2.2.2.2.2.2.2.2.1, X.2.2.2.2.2.2.2.2.2.1, X.2.2.2.2.2.2.2.2.2.2.1, X.2.2.2.2.2.2.2.2.2.2.2.1, X.2.2.2.2.2.2.2.2.2.2.2.2.1, X.2.2.2.2.2.2.2.2.2.2.2.2.2.1, X.2.2.2.2.2.2.2.2.2.2.2.2.2.2.1, rk', sk') ⟨hL, Y, ν, hl, ll, hkL, hR, hB⟩ rfl y h' (z_perf (X := (X.1, X.2.1, X.2.2.1, X.2.2.2.1, X.2.2.2.2.1, X.2.2.2.2.2.1, X.2.2.2.2.2.2.1, X.2.2.2.2.2.2.2.1, X.2.2.2.2.2.2.2.2.1, X.2.2.2.2.2.2.2.2.2.1, X.2.2.2.2.2.2.2.2.2.2.1, X.2.2.2.2.2.2.2.2.2.2.2.1, X.2.2.2.2.2.2.2.2.2.2.2.2.1, X.2.2.2.2.2.2.2.2.2.2.2.2.2.1, X.2.2.2.2.2.2.2.2.2.2.2.2.2.2.1, rk', sk')) hP hoc hoc4 (by omega) hT hR hB hc h1 ho1 h2 ho2 h3 hL3 rfl hD) (z_done_8 hB.1 hD)
end ZNEXT
