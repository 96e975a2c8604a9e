/-! what a gap is -/
theorem z_gs_good {e : Nat → Bool} {up w : Nat} (hw : 0 < w) (hup : up < 65536) (hw2 : w < 65536) : ∀ n p b best, p + n = up + 1 → b ≤ p → (∀ q, b ≤ q → q < p → q < up ∧ e q = true) →
    (best = -1 ∨ ∃ c, best = nI c ∧ c + w ≤ up ∧ ∀ q, c ≤ q → q < c + w → e q = true) →
    (z_gs e up (nI w) n p b best = -1 ∨ ∃ c, z_gs e up (nI w) n p b best = nI c ∧ c + w ≤ up ∧ ∀ q, c ≤ q → q < c + w → e q = true) := by
  intro n
  induction n with
  | zero => intro p b best _ _ _ h; exact h
  | succ n ih =>
    intro p b best hp hb hq hbest
    unfold z_gs
    by_cases hc : (decide (p < up) && e p) = true
    · rw [if_pos hc]
      simp only [Bool.and_eq_true, decide_eq_true_eq] at hc
      refine ih (p + 1) b best (by omega) (by omega) (fun q h1 h2 => ?_) hbest
      by_cases hqp : q = p
      · subst hqp; exact hc
      · exact hq q h1 (by omega)
    · rw [if_neg hc]
      refine ih (p + 1) (p + 1) _ (by omega) (Nat.le_refl _) (fun q h1 h2 => absurd h2 (by omega)) ?_
      unfold z_nb
      have hw0 : ¬ nI w = 0 := fun h => by
        have := (nI_eq (b := 0) (by omega) (by omega)).mp h
        omega
      rw [if_neg hw0]
      by_cases h0 : 0 ≤ best
      · rw [if_pos h0]; exact hbest
      · rw [if_neg h0]
        rw [pk_sub hb]
        by_cases hx : nI (p - b) < nI w
        · rw [if_pos hx]; exact hbest
        · rw [if_neg hx]
          have hpb : w ≤ p - b := by
            rcases Nat.lt_or_ge (p - b) w with h | h
            · exact absurd (nI_lt h (by omega)) hx
            · exact h
          exact Or.inr ⟨b, rfl, by omega, fun q h1 h2 => (hq q h1 (by omega)).2⟩
theorem z_gap_good {e : Nat → Bool} {up w : Nat} (hw : 0 < w) (hup : up < 65536) (hw2 : w < 65536) : z_gap e up (nI w) = -1 ∨ ∃ c, z_gap e up (nI w) = nI c ∧ c + w ≤ up ∧ ∀ q, c ≤ q → q < c + w → e q = true := by
  unfold z_gap
  rw [if_neg (show ¬ nI w ≤ 0 from nI_ge (b := w) (a := 0) hw (by omega))]
  exact z_gs_good hw hup hw2 (up + 1) 0 0 (-1) (by omega) (Nat.le_refl _) (fun q _ h => absurd h (Nat.not_lt_zero _)) (Or.inl rfl)
/-- the state of a copying: half, loft, taken, the bales' numbers, how many were promoted -/
abbrev z_St : Type := List Nat × List Nat × List Nat × (Nat → Nat → Int32) × Int32
def z_gf (ll : List Nat) (f : Nat → Nat → Int32) (up : Nat) (w : Int32) : Int32 := z_gap (z_emp (fun x => (f x 2).toNatClampNeg) (fun x => (f x 0).toNatClampNeg) ll) up w
/-- one is taken over, if it is of the old half and was not taken yet -/
def z_tk (up : Nat) (prom : Int32) (ol : List Nat) (σ : z_St) : Option Nat → z_St
  | none => σ
  | some x => if x ∈ ol ∧ x ∉ σ.2.2.1 then
      (if ¬ (if σ.2.2.2.1 x 1 < prom then -1 else z_gf σ.2.1 σ.2.2.2.1 up (σ.2.2.2.1 x 0)) < 0 then
        (σ.1, σ.2.1 ++ [x], σ.2.2.1 ++ [x], q_u2 (q_u2 σ.2.2.2.1 x 2 (z_gf σ.2.1 σ.2.2.2.1 up (σ.2.2.2.1 x 0))) x 3 1, σ.2.2.2.2 + 1)
      else (σ.1 ++ [x], σ.2.1, σ.2.2.1 ++ [x], q_u2 (q_u2 σ.2.2.2.1 x 2 (z_sum (fun y => σ.2.2.2.1 y 0) σ.1)) x 1 (σ.2.2.2.1 x 1 + 1), σ.2.2.2.2))
    else σ
/-- s and the bales of U may have changed: s in its numbers and, by rows that are new, in its rows of bales; a bale in its numbers -/
def z_ch (s : Nat) (U : Nat → Prop) (h h' : q_H) : Prop := q_nx h ≤ q_nx h' ∧ ∀ a, a < q_nx h → q_sh h' a = q_sh h a ∧ (q_E h' a = q_E h a ∧ z_sp h h') ∧ q_L h' a = q_L h a ∧ (a ≠ s → q_R h' a = q_R h a) ∧ (a ≠ s → ¬ U a → q_I h' a = q_I h a) ∧ (a = s → ∀ k, q_R h' s k = q_R h s k ∨ ∃ b, q_R h' s k = some b ∧ q_nx h ≤ b)
theorem z_ch_refl (s : Nat) (U : Nat → Prop) (h : q_H) : z_ch s U h h := ⟨Nat.le_refl _, fun _ _ => ⟨rfl, ⟨rfl, z_sp_rfl⟩, rfl, fun _ => rfl, fun _ _ => rfl, fun _ _ => Or.inl rfl⟩⟩
theorem z_ch_trans {s : Nat} {U : Nat → Prop} {h1 h2 h3 : q_H} (a : z_ch s U h1 h2) (b : z_ch s U h2 h3) : z_ch s U h1 h3 := by
  refine ⟨Nat.le_trans a.1 b.1, fun x hx => ?_⟩
  obtain ⟨a1, a2, a3, a4, a5, a6⟩ := a.2 x hx
  obtain ⟨b1, b2, b3, b4, b5, b6⟩ := b.2 x (Nat.lt_of_lt_of_le hx a.1)
  refine ⟨b1.trans a1, ⟨b2.1.trans a2.1, z_sp_trans a.1 a2.2 b2.2⟩, b3.trans a3, fun h => (b4 h).trans (a4 h), fun h u => (b5 h u).trans (a5 h u), fun h k => ?_⟩
  rcases b6 h k with e | ⟨c, e, hc⟩
  · rw [e]; exact a6 h k
  · exact Or.inr ⟨c, e, Nat.le_trans a.1 hc⟩
theorem z_ch_ext {s : Nat} {U : Nat → Prop} {h h' : q_H} (e : z_ext h h') : z_ch s U h h' := ⟨e.1, fun x hx => ⟨(e.2 x hx).1, (e.2 x hx).2.2.2.1, (e.2 x hx).2.2.2.2, fun _ => (e.2 x hx).2.2.1, fun _ _ => (e.2 x hx).2.1, fun hs k => Or.inl (by subst hs; rw [(e.2 _ hx).2.2.1])⟩⟩
theorem z_ch_pIb {s : Nat} {U : Nat → Prop} {h : q_H} {x j : Nat} {v : Int32} (hx : U x) : z_ch s U h (q_pI h x j v) :=
  ⟨Nat.le_refl _, fun a _ => ⟨rfl, ⟨rfl, z_sp_pI z_sp_rfl⟩, rfl, fun _ => rfl, fun _ u => q_u2_row _ _ _ _ _ (fun e => u (by rw [e]; exact hx)), fun _ _ => Or.inl rfl⟩⟩
theorem z_ch_pIs {s : Nat} {U : Nat → Prop} {h : q_H} {j : Nat} {v : Int32} : z_ch s U h (q_pI h s j v) :=
  ⟨Nat.le_refl _, fun a _ => ⟨rfl, ⟨rfl, z_sp_pI z_sp_rfl⟩, rfl, fun _ => rfl, fun h _ => q_u2_row _ _ _ _ _ h, fun _ _ => Or.inl rfl⟩⟩
theorem z_ch_pRs {s : Nat} {U : Nat → Prop} {h h1 : q_H} {j b : Nat} (c : z_ch s U h h1) (hb : q_nx h ≤ b) : z_ch s U h (q_pR h1 s j (some b)) :=
  ⟨c.1, fun a ha => by
    obtain ⟨a1, a2, a3, a4, a5, a6⟩ := c.2 a ha
    refine ⟨a1, ⟨a2.1, z_sp_pR a2.2 (fun b2 e => Or.inr (by rw [← Option.some.inj e]; exact hb))⟩, a3, fun h => (q_u2_row _ _ _ _ _ h).trans (a4 h), a5, fun h k => ?_⟩
    by_cases hk : k = j
    · subst hk; exact Or.inr ⟨b, z_R_s _ _ _ _, hb⟩
    · rw [z_R_j _ _ _ _ _ hk]; exact a6 h k⟩
