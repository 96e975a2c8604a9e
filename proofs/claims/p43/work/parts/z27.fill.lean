/-! THE LAW'S LOOP: every third time, what hooks hold is noted, and both copy -/
/-- three rows of the law at B; all below is at rest -/
def la_W3 (H m hf ns : Nat) (Q : Nat → Nat → Nat) (pn nu : m_Rr) (od : Nat → Option Nat) (T1 : Nat → m_Rr) (K1 : Nat → Nat → Option Nat) (G : Nat) (hk ly sz ag : m_Rr) (B s : Nat) (h : q_H) : Prop :=
  la_D H m hf ns Q pn nu od T1 K1 G (la_tr B h) s ∧ (492 ≤ B ∧ B + 3 ≤ q_nx h) ∧ (q_sh h B = (1, 0, H) ∧ q_sh h (B + 1) = (1, 0, H) ∧ q_sh h (B + 2) = (1, 2, H)) ∧ (q_I h 470 = hk ∧ q_I h 459 = ly ∧ q_I h 461 = sz ∧ q_I h 462 = ag)
/-- noted up to t -/
def la_Fl (H : Nat) (hk ly sz ag : m_Rr) (B t : Nat) (h : q_H) : Prop := (∀ i, i < t → (hk i = -1 ∧ q_I h B i = 0) ∨ ∃ x, x < 128 ∧ ¬ ly x = 0 ∧ hk i = nI x ∧ q_I h B i = sz x ∧ q_I h (B + 1) i = ag x ∧ q_I h (B + 2) i = q_bz (decide (ly x = 2))) ∧ ∀ i, t ≤ i → i < H → q_I h B i = 0
abbrev la_l385 (s : Nat) (v4 v5 : Int32) (v15 v16 v17 : Nat) (v23 : Int32) : List (Option Value) := [some (.ref 52), none, some (.ref s), some (.ref 400), some (.int v4), some (.int v5), none, none, none, none, none, none, none, none, none, some (.ref v15), some (.ref v16), some (.ref v17), none, none, none, none, none, some (.int v23)]
/-- once copied: what was noted fits -/
def la_A5 (H B : Nat) (h : q_H) : Prop := (492 ≤ B ∧ B + 3 ≤ q_nx h) ∧ (q_sh h B = (1, 0, H) ∧ q_sh h (B + 1) = (1, 0, H) ∧ q_sh h (B + 2) = (1, 2, H)) ∧ ∀ i, i < H → (q_I h 470 i = -1 ∧ q_I h B i = 0) ∨ ∃ x z, x < 128 ∧ q_I h 470 i = nI x ∧ q_I h B i = nI z ∧ 0 < z ∧ z ≤ 9 ∧ q_I h 461 x = nI z ∧
  ((q_I h (B + 2) i = 1 ∧ q_I h 459 x = 2 ∧ q_I h 462 x = q_I h (B + 1) i) ∨ (q_I h (B + 2) i = 0 ∧ ((q_I h 459 x = 2 ∧ q_I h 462 x = q_I h (B + 1) i) ∨ (q_I h 459 x = 1 ∧ q_I h 462 x = q_I h (B + 1) i + 1))))
section LAFILL
variable {xt : List ExceptionTableEntry} {g : q_G} {mc ms : Nat} {mv : List Nat} {Qp : q_Po} {H m hf ns oc G s k n B a j t : Nat} {Q : Nat → Nat → Nat} {pn nu : m_Rr} {od : Nat → Option Nat} {T1 : Nat → m_Rr} {K1 : Nat → Nat → Option Nat} {h h' : q_H} {hk ly sz ag : m_Rr} {v5 x : Int32}
theorem lw_sc (ha : 492 ≤ a) : la_scB a = false := by
  cases hb : la_scB a with
  | false => rfl
  | true =>
    have := la_ks_sc.mpr hb
    simp only [List.mem_cons, List.not_mem_nil, or_false] at this
    omega
theorem la_W3_lk (e : la_lk h h') (hW : la_W3 H m hf ns Q pn nu od T1 K1 G hk ly sz ag B s h) : la_W3 H m hf ns Q pn nu od T1 K1 G hk ly sz ag B s h' := by
  obtain ⟨w1, ⟨w2, w3⟩, ⟨w4, w5, w6⟩, w7, w8, w9, w10⟩ := hW
  obtain ⟨e1, e2, e3, e4, e5, e6⟩ := id e
  exact ⟨la_tr_lk e w1, ⟨w2, by rw [e1]; exact w3⟩, ⟨by rw [e2]; exact w4, by rw [e2]; exact w5, by rw [e2]; exact w6⟩, (e6 470 rfl).trans w7, (e6 459 rfl).trans w8, (e6 461 rfl).trans w9, (e6 462 rfl).trans w10⟩
theorem la_W3_pI (ha : B ≤ a) (hW : la_W3 H m hf ns Q pn nu od T1 K1 G hk ly sz ag B s h) : la_W3 H m hf ns Q pn nu od T1 K1 G hk ly sz ag B s (q_pI h a j x) := by
  obtain ⟨w1, ⟨w2, w3⟩, ⟨w4, w5, w6⟩, w7, w8, w9, w10⟩ := hW
  have r : ∀ b, b < 492 → q_I (q_pI h a j x) b = q_I h b := fun b hb => q_u2_row _ _ _ _ _ (by omega)
  exact ⟨la_tr_pI ha w1, ⟨w2, w3⟩, ⟨w4, w5, w6⟩, (r 470 (by decide)).trans w7, (r 459 (by decide)).trans w8, (r 461 (by decide)).trans w9, (r 462 (by decide)).trans w10⟩
theorem la_W3_D (hW : la_W3 H m hf ns Q pn nu od T1 K1 G hk ly sz ag B s h) : la_D H m hf ns Q pn nu od T1 K1 G h s := la_tr_D (by have := hW.2.1.2; omega) hW.1
theorem lw_pI {i : Nat} {h : q_H} {a j b : Nat} {x : Int32} : q_I (q_pI h a j x) b i = if b = a ∧ i = j then x else q_I h b i := q_u2_of _ _ _ _ _ _
theorem lw_bz {b : Bool} : vp_nar .boolean (q_bz b) = q_bz b := by cases b <;> rfl
/-- three rows are made -/
theorem la_W3_0 (hD : la_D H m hf ns Q pn nu od T1 K1 G h s) : la_W3 H m hf ns Q pn nu od T1 K1 G (q_I h 470) (q_I h 459) (q_I h 461) (q_I h 462) (q_nx h) s (q_new (q_new (q_new h (1, 0, H)) (1, 0, H)) (1, 2, H)) ∧ la_Fl H (q_I h 470) (q_I h 459) (q_I h 461) (q_I h 462) (q_nx h) 0 (q_new (q_new (q_new h (1, 0, H)) (1, 0, H)) (1, 2, H)) := by
  have hC := hD.1.1.1
  have hN := hC.1
  have e1 := z_ext_trans (z_ext_trans (z_ext_new h (1, 0, H)) (z_ext_new (q_new h (1, 0, H)) (1, 0, H))) (z_ext_new (q_new (q_new h (1, 0, H)) (1, 0, H)) (1, 2, H))
  have r : ∀ b, b < 492 → q_I (q_new (q_new (q_new h (1, 0, H)) (1, 0, H)) (1, 2, H)) b = q_I h b := fun b hb => (e1.2 b (by omega)).2.1
  have n2 : q_nx h ≠ q_nx h + 1 := by omega
  have n3 : q_nx h ≠ q_nx h + 2 := by omega
  have n4 : q_nx h + 1 ≠ q_nx h + 2 := by omega
  refine ⟨⟨la_tr_of hD e1, ⟨hN, Nat.le_refl _⟩, ⟨?_, ?_, ?_⟩, r 470 (by decide), r 459 (by decide), r 461 (by decide), r 462 (by decide)⟩, fun i hi => absurd hi (Nat.not_lt_zero _), fun i _ _ => ?_⟩
  · show q_ur (q_ur (q_ur (q_sh h) (q_nx h) (1, 0, H)) (q_nx h + 1) (1, 0, H)) (q_nx h + 2) (1, 2, H) (q_nx h) = _
    rw [q_ur_n _ _ _ n3, q_ur_n _ _ _ n2, q_ur_s]
  · show q_ur (q_ur (q_ur (q_sh h) (q_nx h) (1, 0, H)) (q_nx h + 1) (1, 0, H)) (q_nx h + 2) (1, 2, H) (q_nx h + 1) = _
    rw [q_ur_n _ _ _ n4, q_ur_s]
  · show q_ur (q_ur (q_ur (q_sh h) (q_nx h) (1, 0, H)) (q_nx h + 1) (1, 0, H)) (q_nx h + 2) (1, 2, H) (q_nx h + 2) = _
    rw [q_ur_s]
  · show q_ur (q_ur (q_ur (q_I h) (q_nx h) (fun _ => 0)) (q_nx h + 1) (fun _ => 0)) (q_nx h + 2) (fun _ => 0) (q_nx h) i = _
    rw [q_ur_n _ _ _ n3, q_ur_n _ _ _ n2, q_ur_s]
/-- hooks are noted -/
theorem la_302 (hT : la_St H m hf ns oc Q pn nu od T1 K1) : ∀ (z t k n : Nat) (h : q_H), t + z = H → la_W3 H m hf ns Q pn nu od T1 K1 G hk ly sz ag B s h → la_Fl H hk ly sz ag B t h → k + z * 7 ≤ mc → n + z * 42 ≤ ms →
    (∀ h' k2 n2, la_W3 H m hf ns Q pn nu od T1 K1 G hk ly sz ag B s h' → la_Fl H hk ly sz ag B H h' → k2 ≤ k + z * 7 → n2 ≤ n + z * 42 → la_K xt g mc ms mv Qp k2 n2 (302, la_l302 s (nI H) v5 B (B + 1) (B + 2) (nI H), [], h')) → la_K xt g mc ms mv Qp k n (302, la_l302 s (nI H) v5 B (B + 1) (B + 2) (nI t), [], h) := by
  have H6 := hT.1.2
  intro z
  induction z with
  | zero =>
    intro t k n h ht hW hF hk0 hn hK
    obtain rfl : t = H := by omega
    exact hK h k n hW hF (by omega) (by omega)
  | succ z ih =>
    intro t k n h ht hW hF hk0 hn hK
    have htH : t < H := by omega
    have hD := la_W3_D hW
    have hS := la_D_S hT hD
    obtain ⟨hL, st, sh, sw, sp, ss, sr, sa, sd, hR⟩ := hS.2.2.2.1
    obtain ⟨b1, b2⟩ := hW.2.1
    obtain ⟨w4, w5, w6⟩ := hW.2.2.1
    obtain ⟨w7, w8, w9, w10⟩ := hW.2.2.2
    have nx : ∀ h' k2 n2, la_W3 H m hf ns Q pn nu od T1 K1 G hk ly sz ag B s h' → la_Fl H hk ly sz ag B (t + 1) h' → k2 ≤ k + 7 → n2 ≤ n + 42 → la_K xt g mc ms mv Qp k2 n2 (302, la_l302 s (nI H) v5 B (B + 1) (B + 2) (nI t + 1), [], h') := fun h' k2 n2 a1 a2 a3 a4 => by
      rw [nI_1]
      exact ih (t + 1) k2 n2 h' (by omega) a1 a2 (by omega) (by omega) (fun h2 k3 n3 c1 c2 c3 c4 => hK h2 k3 n3 c1 c2 (by omega) (by omega))
    have hho := lk_holds (g := g) (d := 1000) (by decide) hS htH
    rw [w7] at hho
    refine w_L_lw_302 (by decide) ⟨fun hq => absurd hq (nI_ge htH (by omega)), fun _ => ⟨la_O hS, lw_c hho (by omega) (by omega) ?_⟩⟩
    have hh := lc_hook hR htH
    rw [w7, w8] at hh
    rcases hh with h0 | ⟨b, b8, b0, hb⟩
    · rw [h0]
      refine ⟨fun hq => absurd rfl hq, fun _ => nx h _ _ hW ⟨fun i hi => ?_, fun i h1 h2 => hF.2 i (by omega) h2⟩ (by omega) (by omega)⟩
      rcases Nat.lt_or_ge i t with hl | hl
      · exact hF.1 i hl
      · obtain rfl : i = t := by omega
        exact Or.inl ⟨h0, hF.2 i (Nat.le_refl _) htH⟩
    · rw [decide_eq_true (show ¬ hk t = -1 by rw [hb]; exact m_nI_m1 (by omega))]
      refine ⟨fun _ => ?_, fun hq => absurd hq (by decide)⟩
      have h16 : q_s16 H := by show H < 65536; omega
      have hW1 : la_W3 H m hf ns Q pn nu od T1 K1 G hk ly sz ag B s (q_pI h B t (sz b)) := la_W3_pI (Nat.le_refl _) hW
      have hS1 := la_D_S hT (la_W3_D hW1)
      have hW2 : la_W3 H m hf ns Q pn nu od T1 K1 G hk ly sz ag B s (q_pI (q_pI h B t (sz b)) (B + 1) t (ag b)) := la_W3_pI (by omega) hW1
      have hS2 := la_D_S hT (la_W3_D hW2)
      have hsz := lk_sizeOf (g := g) (d := 1000) (by decide) hS htH (by rw [w7]; exact hb) b8
      rw [w9] at hsz
      have hag := lk_ageOf (g := g) (d := 1000) (by decide) hS1 htH (by rw [hW1.2.2.2.1]; exact hb) b8
      rw [hW1.2.2.2.2.2.2] at hag
      have hly := lk_isInLoft (g := g) (d := 1000) (by decide) hS2 htH (by rw [hW2.2.2.2.1]; exact hb) b8
      rw [hW2.2.2.2.2.1] at hly
      refine ⟨la_O hS, lw_c hsz (by omega) (by omega) ⟨t, H, rfl, ⟨by omega, w4, htH, h16⟩, ⟨la_O hS1, lw_c hag (by omega) (by omega) ⟨t, H, rfl, ⟨by omega, w5, htH, h16⟩, ⟨la_O hS2, lw_c hly (by omega) (by omega) ⟨t, H, rfl, ⟨by omega, w6, htH, h16⟩, ?_⟩⟩⟩⟩⟩⟩
      rw [lw_bz]
      refine nx _ _ _ (la_W3_pI (by omega) hW2) ⟨fun i hi => ?_, fun i h1 h2 => ?_⟩ (by omega) (by omega)
      · have q1 : ∀ i, q_I (q_pI (q_pI (q_pI h B t (sz b)) (B + 1) t (ag b)) (B + 2) t (q_bz (decide (ly b = 2)))) B i = if i = t then sz b else q_I h B i := fun i => by
          rw [lw_pI, if_neg (by omega), lw_pI, if_neg (by omega), lw_pI]
          by_cases e : i = t
          · rw [if_pos ⟨rfl, e⟩, if_pos e]
          · rw [if_neg (fun hh => e hh.2), if_neg e]
        have q2 : ∀ i, q_I (q_pI (q_pI (q_pI h B t (sz b)) (B + 1) t (ag b)) (B + 2) t (q_bz (decide (ly b = 2)))) (B + 1) i = if i = t then ag b else q_I h (B + 1) i := fun i => by
          rw [lw_pI, if_neg (by omega), lw_pI]
          by_cases e : i = t
          · rw [if_pos ⟨rfl, e⟩, if_pos e]
          · rw [if_neg (fun hh => e hh.2), if_neg e, lw_pI, if_neg (by omega)]
        have q3 : ∀ i, q_I (q_pI (q_pI (q_pI h B t (sz b)) (B + 1) t (ag b)) (B + 2) t (q_bz (decide (ly b = 2)))) (B + 2) i = if i = t then q_bz (decide (ly b = 2)) else q_I h (B + 2) i := fun i => by
          rw [lw_pI]
          by_cases e : i = t
          · rw [if_pos ⟨rfl, e⟩, if_pos e]
          · rw [if_neg (fun hh => e hh.2), if_neg e, lw_pI, if_neg (by omega), lw_pI, if_neg (by omega)]
        rw [q1, q2, q3]
        rcases Nat.lt_or_ge i t with hl | hl
        · rw [if_neg (by omega), if_neg (by omega), if_neg (by omega)]
          exact hF.1 i hl
        · obtain rfl : i = t := by omega
          rw [if_pos rfl, if_pos rfl, if_pos rfl]
          exact Or.inr ⟨b, b8, b0, hb, rfl, rfl, rfl⟩
      · rw [lw_pI, if_neg (by omega), lw_pI, if_neg (by omega), lw_pI, if_neg (by omega)]
        exact hF.2 i (by omega) h2
end LAFILL
