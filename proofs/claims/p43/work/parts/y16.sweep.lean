/-! CONTRACTS of the law's barn, seven: a sweep of the loft -/
/-- rows that stand apart: each bale has its own row of ropes, which is none of the barn's; the hooks' row is none of the other two -/
def z_Sp (h : q_H) (s : Nat) (U : Nat → Prop) : Prop := (∀ x y, U x → U y → z_ra h x = z_ra h y → x = y) ∧ (∀ x, U x → ∀ k, k < 3 → q_R h s k ≠ some (z_ra h x)) ∧ ∀ k, k < 2 → q_R h s k ≠ q_R h s 2
/-- what is left of a rope by a sweep -/
def z_g0 (I : Nat → Nat → Int32) (lf : List Nat) : Option Nat → Option Nat
  | none => none
  | some y => if I y 3 = 0 ∨ y ∈ lf then some y else none
theorem z_g0_some {I : Nat → Nat → Int32} {lf : List Nat} {o : Option Nat} {y : Nat} (e : z_g0 I lf o = some y) : o = some y := by
  cases o with
  | none => cases e
  | some z =>
    by_cases hc : I z 3 = 0 ∨ z ∈ lf
    · rw [show z_g0 I lf (some z) = some z from if_pos hc] at e
      exact e
    · rw [show z_g0 I lf (some z) = none from if_neg hc] at e
      cases e
theorem z_g0_2 {I : Nat → Nat → Int32} {lf : List Nat} {o : Option Nat} : z_g0 I lf (z_g0 I lf o) = z_g0 I lf o := by
  cases o with
  | none => rfl
  | some z =>
    by_cases h : I z 3 = 0 ∨ z ∈ lf
    · have : z_g0 I lf (some z) = some z := if_pos h
      rw [this, this]
    · have : z_g0 I lf (some z) = none := if_neg h
      rw [this]; rfl
section ZSWEEP
variable {g : q_G} {d : Nat} {h : q_H} {s : Nat} {hl ll : List Nat} {hk : List (Option Nat)} {U : Nat → Prop} {B : Nat}
/-- in the middle of a sweep's second half: the ropes of P were looked at -/
def z_Si (h h1 : q_H) (s : Nat) (U : Nat → Prop) (hl lf : List Nat) (hk : List (Option Nat)) (t c : Nat) (P : Nat → Nat → Prop) : Prop :=
  (q_nx h ≤ q_nx h1 ∧ ∀ a, a < q_nx h → q_sh h1 a = q_sh h a ∧ (q_E h1 a = q_E h a ∧ z_sp h h1) ∧ q_L h1 a = q_L h a ∧ q_I h1 a = q_I h a) ∧
  (∀ a j, P a j → q_R h1 a j = z_g0 (q_I h) lf (q_R h a j)) ∧ (∀ a j, a < q_nx h → a ≠ s → ¬ P a j → q_R h1 a j = q_R h a j) ∧
  (z_Sim h1 s hl lf hk ∧ z_Ar h1 t lf ∧ z_Ar h1 c (hl ++ lf)) ∧ (∀ k, 2 ≤ k → q_R h1 s k = q_R h s k) ∧
  (∀ x, U x → z_ra h x ≠ t ∧ z_ra h x ≠ c ∧ ∀ k, k < 3 → q_R h1 s k ≠ some (z_ra h x)) ∧ ∀ k, k < 2 → q_R h1 s k = q_R h s k ∨ ∃ b, q_R h1 s k = some b ∧ q_nx h ≤ b
/-- what a sweep leaves -/
def z_Sw (h h' : q_H) (s : Nat) (U : Nat → Prop) (hl lf : List Nat) (hk : List (Option Nat)) (y : Int32) : Prop :=
  (q_nx h ≤ q_nx h' ∧ ∀ a, a < q_nx h → q_sh h' a = q_sh h a ∧ (q_E h' a = q_E h a ∧ z_sp h h') ∧ q_L h' a = q_L h a ∧ (a ≠ s → q_I h' a = q_I h a)) ∧
  z_Sim h' s hl lf hk ∧ (q_I h' s 12 = q_I h s 12 + y ∧ ∀ k, k ≠ 12 → q_I h' s k = q_I h s k) ∧ (∀ k, 2 ≤ k → q_R h' s k = q_R h s k) ∧ (∀ k, k < 2 → q_R h' s k = q_R h s k ∨ ∃ b, q_R h' s k = some b ∧ q_nx h ≤ b) ∧
  (∀ x, x ∈ hl ++ lf → z_rp h' x = (z_rp h x).map (z_g0 (q_I h) lf)) ∧ z_Wf h' U ∧ (∀ x, U x → z_ra h' x = z_ra h x) ∧ ∀ a, a < q_nx h → a ≠ s → (∀ x, x ∈ hl ++ lf → a ≠ z_ra h x) → q_R h' a = q_R h a
theorem z_Si_Wf {h1 : q_H} {lf : List Nat} {t c : Nat} {P : Nat → Nat → Prop} (hW : z_Wf h U) (hu : ¬ U s) (hs : q_sh h s = (0, 12, 0)) (hPr : ∀ a j, P a j → ∃ x, U x ∧ a = z_ra h x) (hS : z_Si h h1 s U hl lf hk t c P) :
    z_Wf h1 U ∧ (∀ x, U x → z_ra h1 x = z_ra h x ∧ z_rl h1 x = z_rl h x) ∧ ∀ x j y, U x → q_R h1 (z_ra h x) j = some y → q_R h (z_ra h x) j = some y := by
  obtain ⟨⟨n1, n2⟩, p1, p2, -⟩ := hS
  have hrs : ∀ x y, U x → U y → x ≠ z_ra h y := fun x y hx hy e => by
    have e1 := (hW x hx).1.2
    rw [e, (hW y hy).2.1.2.2.1] at e1
    cases e1
  have hra : ∀ x, U x → z_ra h1 x = z_ra h x ∧ z_rl h1 x = z_rl h x ∧ q_R h1 x 4 = q_R h x 4 := fun x hx => by
    obtain ⟨b, ⟨r1, r2, r3, r4⟩, r5⟩ := hW x hx
    have e1 : q_R h1 x 4 = q_R h x 4 := p2 x 4 b.1.2 (fun e => hu (by rw [← e]; exact hx)) (fun hp => by
      obtain ⟨y, hy, e⟩ := hPr x 4 hp
      exact hrs x y hx hy e)
    have e2 : z_ra h1 x = z_ra h x := by unfold z_ra; rw [e1]
    exact ⟨e2, by unfold z_rl; rw [e2, (n2 _ r2.2).1], e1⟩
  have hrd : ∀ x j y, U x → q_R h1 (z_ra h x) j = some y → q_R h (z_ra h x) j = some y := fun x j y hx hy => by
    obtain ⟨b, ⟨r1, r2, r3, r4⟩, r5⟩ := hW x hx
    by_cases hp : P (z_ra h x) j
    · rw [p1 _ _ hp] at hy; exact z_g0_some hy
    · rw [p2 _ _ r2.2 (z_ne_s hs r3) hp] at hy; exact hy
  refine ⟨fun x hx => ?_, fun x hx => ⟨(hra x hx).1, (hra x hx).2.1⟩, hrd⟩
  obtain ⟨b, ⟨r1, r2, r3, r4⟩, r5⟩ := hW x hx
  obtain ⟨e1, e2, e3⟩ := hra x hx
  refine ⟨⟨⟨b.1.1, Nat.lt_of_lt_of_le b.1.2 n1⟩, (n2 x b.1.2).1.trans b.2⟩, ?_, ?_⟩
  · rw [e1, e2, e3]
    exact ⟨r1, ⟨r2.1, Nat.lt_of_lt_of_le r2.2 n1⟩, (n2 _ r2.2).1.trans r3, r4⟩
  · rw [e1, e2]
    exact fun i y hi hy => r5 i y hi (hrd x i y hx hy)
end ZSWEEP
theorem z_Ar_pR {h : q_H} {a a0 j : Nat} {v : Option Nat} {l : List Nat} (hn : a ≠ a0) (ha : z_Ar h a l) : z_Ar (q_pR h a0 j v) a l :=
  ⟨ha.1, ha.2.1, ha.2.2.1, fun i x hx => by rw [z_R_a _ _ _ _ _ hn]; exact ha.2.2.2 i x hx⟩
theorem z_Ao_pR {h : q_H} {a a0 j : Nat} {v : Option Nat} {l : List (Option Nat)} (hn : a ≠ a0) (ha : z_Ao h a l) : z_Ao (q_pR h a0 j v) a l :=
  ⟨ha.1, ha.2.1, ha.2.2.1, fun i x hx => by rw [z_R_a _ _ _ _ _ hn]; exact ha.2.2.2 i x hx⟩
theorem z_Sim_pR {h : q_H} {s a0 j : Nat} {v : Option Nat} {hl ll : List Nat} {hk : List (Option Nat)} (hS : z_Sim h s hl ll hk) (hn : s ≠ a0) (h3 : ∀ k, k < 3 → q_R h s k ≠ some a0) : z_Sim (q_pR h a0 j v) s hl ll hk := by
  obtain ⟨s1, s2, ⟨a, a1, a2⟩, ⟨b, b1, b2⟩, c, c1, c2⟩ := hS
  have e : q_R (q_pR h a0 j v) s = q_R h s := z_R_a _ _ _ _ _ hn
  exact ⟨s1, s2, ⟨a, by rw [e]; exact a1, z_Ar_pR (fun e => h3 0 (by decide) (by rw [← e]; exact a1)) a2⟩, ⟨b, by rw [e]; exact b1, z_Ar_pR (fun e => h3 1 (by decide) (by rw [← e]; exact b1)) b2⟩, c, by rw [e]; exact c1, z_Ao_pR (fun e => h3 2 (by decide) (by rw [← e]; exact c1)) c2⟩
section ZSWEEP2
variable {g : q_G} {d : Nat} {h h1 : q_H} {s : Nat} {hl ll lf : List Nat} {hk : List (Option Nat)} {U : Nat → Prop} {B t c : Nat} {P : Nat → Nat → Prop}
theorem z_Si_gg {a0 j0 : Nat} (ha : a0 < q_nx h) (hn : a0 ≠ s) (hS : z_Si h h1 s U hl lf hk t c P) : z_g0 (q_I h) lf (q_R h1 a0 j0) = z_g0 (q_I h) lf (q_R h a0 j0) := by
  obtain ⟨-, p1, p2, -⟩ := hS
  by_cases hp : P a0 j0
  · rw [p1 _ _ hp, z_g0_2]
  · rw [p2 _ _ ha hn hp]
theorem z_Si_cg {P' : Nat → Nat → Prop} (hP : ∀ a j, P a j ↔ P' a j) (hS : z_Si h h1 s U hl lf hk t c P) : z_Si h h1 s U hl lf hk t c P' := by
  obtain ⟨n, p1, p2, r⟩ := hS
  exact ⟨n, fun a j hp => p1 a j ((hP a j).mpr hp), fun a j ha hs hp => p2 a j ha hs (fun h => hp ((hP a j).mp h)), r⟩
theorem z_Si_no {a0 j0 : Nat} (ha : a0 < q_nx h) (hn : a0 ≠ s) (hv : z_g0 (q_I h) lf (q_R h1 a0 j0) = q_R h1 a0 j0) (hS : z_Si h h1 s U hl lf hk t c P) : z_Si h h1 s U hl lf hk t c (fun a j => P a j ∨ (a = a0 ∧ j = j0)) := by
  have hg := z_Si_gg (j0 := j0) ha hn hS
  obtain ⟨n, p1, p2, r⟩ := hS
  refine ⟨n, fun a j hp => ?_, fun a j ha hs hp => p2 a j ha hs (fun h => hp (Or.inl h)), r⟩
  rcases hp with hp | ⟨rfl, rfl⟩
  · exact p1 a j hp
  · exact hv.symm.trans hg
theorem z_sp_pR1 {h h1 : q_H} {a j : Nat} {x : Option Nat} (e : z_sp h h1) (hx : ∀ b, x = some b → q_R h1 a j = some b) : z_sp h (q_pR h1 a j x) := fun a2 j2 b h2 => by
  have h3 : q_u2 (q_R h1) a j x a2 j2 = some b := h2
  rw [q_u2_of] at h3
  split at h3
  · next hc =>
    rw [hc.1, hc.2]
    exact e _ _ b (hx b h3)
  · exact e a2 j2 b h3
theorem z_Si_pR {x j0 : Nat} {v : Option Nat} (hx : U x) (ha : z_ra h x < q_nx h) (hn : z_ra h x ≠ s) (hv : v = z_g0 (q_I h) lf (q_R h1 (z_ra h x) j0)) (hS : z_Si h h1 s U hl lf hk t c P) : z_Si h (q_pR h1 (z_ra h x) j0 v) s U hl lf hk t c (fun a j => P a j ∨ (a = z_ra h x ∧ j = j0)) := by
  have hg := z_Si_gg (j0 := j0) ha hn hS
  obtain ⟨n, p1, p2, ⟨r1, r2, r3⟩, r4, r5, r6⟩ := hS
  obtain ⟨x1, x2, x3⟩ := r5 x hx
  have e : q_R (q_pR h1 (z_ra h x) j0 v) s = q_R h1 s := z_R_a _ _ _ _ _ hn.symm
  refine ⟨⟨n.1, fun a ha => ⟨(n.2 a ha).1, ⟨(n.2 a ha).2.1.1, z_sp_pR1 (n.2 a ha).2.1.2 (fun b e => z_g0_some (hv ▸ e))⟩, (n.2 a ha).2.2⟩⟩, fun a j hp => ?_, fun a j ha hs hp => ?_, ⟨z_Sim_pR r1 hn.symm x3, z_Ar_pR x1.symm r2, z_Ar_pR x2.symm r3⟩, fun k hk => by rw [e]; exact r4 k hk, fun y hy => ?_, fun k hk => by rw [e]; exact r6 k hk⟩
  · by_cases hc : a = z_ra h x ∧ j = j0
    · obtain ⟨rfl, rfl⟩ := hc
      rw [z_R_s, hv, hg]
    · have hp1 : P a j := hp.resolve_right hc
      by_cases hax : a = z_ra h x
      · subst hax
        rw [z_R_j _ _ _ _ _ (fun e => hc ⟨rfl, e⟩)]
        exact p1 _ j hp1
      · rw [z_R_a _ _ _ _ _ hax]
        exact p1 a j hp1
  · have hp1 : ¬ P a j := fun h => hp (Or.inl h)
    have hc : ¬ (a = z_ra h x ∧ j = j0) := fun h => hp (Or.inr h)
    by_cases hax : a = z_ra h x
    · subst hax
      rw [z_R_j _ _ _ _ _ (fun e => hc ⟨rfl, e⟩)]
      exact p2 _ j ha hs hp1
    · rw [z_R_a _ _ _ _ _ hax]
      exact p2 a j ha hs hp1
  · rw [e]; exact r5 y hy
theorem z_bfs_U {rp : Nat → List (Option Nat)} (hrp : ∀ x, U x → ∀ y, some y ∈ rp x → U y) : ∀ n k (l : List Nat), l.Nodup → (∀ x ∈ l, U x) → (z_bfs rp n k l).Nodup ∧ ∀ x ∈ z_bfs rp n k l, U x := by
  intro n
  induction n with
  | zero => intro k l h1 h2; exact ⟨h1, h2⟩
  | succ n ih =>
    intro k l h1 h2
    unfold z_bfs
    cases hx : l[k]? with
    | none => exact ⟨h1, h2⟩
    | some x =>
      obtain ⟨a1, a2⟩ := z_adds_U h1 h2 (hrp x (h2 x (List.mem_of_getElem? hx)))
      exact ih (k + 1) _ a1 a2
theorem z_rp_U (hW : z_Wf h U) : ∀ x, U x → ∀ y, some y ∈ z_rp h x → U y := by
  intro x hx y hy
  unfold z_rp at hy
  obtain ⟨j, hj, hjx⟩ := List.mem_map.mp hy
  exact (hW x hx).2.2 j y (List.mem_range.mp hj) hjx
set_option maxHeartbeats 2000000 in
theorem z_sweep_L49 {y : Int32} {kk nn MC MS : Nat} {Q : q_Po} (hd : 3 ≤ d) (hd2 : d < 2048) (hW : z_Wf h U) (hu : ¬ U s) (hs : q_sh h s = (0, 12, 0)) (hA : ∀ x ∈ hl ++ lf, U x) (hk1 : kk ≤ MC) (hn1 : nn ≤ MS) (hA16 : (hl ++ lf).length < 65536)
    (hQ : ∀ h4, z_Si h h4 s U hl lf hk t c (fun a j => ∃ x ∈ hl ++ lf, a = z_ra h x ∧ j < z_rl h x) → Q (.inl (some (.int y))) (q_pI h4 s 12 (q_I h4 s 12 + y))) :
    ∀ n i (h4 : q_H), i + n = (hl ++ lf).length → z_Si h h4 s U hl lf hk t c (fun a j => ∃ x ∈ (hl ++ lf).take i, a = z_ra h x ∧ j < z_rl h x) →
      q_K g m_X14_sweep [] d MC MS h [] Q kk nn (49, [some (.ref s), none, some (.ref t), some (.int y), some (.ref c), some (.int (nI (hl ++ lf).length)), some (.int (nI i)), none, none], [], h4) := by
  intro n
  induction n with
  | zero =>
    intro i h4 hi hS4
    obtain rfl : i = (hl ++ lf).length := by omega
    rw [List.take_length] at hS4
    have hs4 : 400 ≤ s ∧ q_sh h4 s = (0, 12, 0) := ⟨z_4 hS4.2.2.2.1.1.1.1, hS4.2.2.2.1.1.2.1⟩
    exact w_X14_sweep_49 (by omega) ⟨fun _ => ⟨hs4, hs4, rfl, ⟨hk1, hn1⟩, hQ h4 hS4⟩, fun hn => absurd (Int32.le_refl _) hn⟩
  | succ n ih =>
    intro i h4 hi hS4
    have hil : i < (hl ++ lf).length := by omega
    have hc4 := hS4.2.2.2.1.2.2
    have hy : (hl ++ lf)[i]? = some (hl ++ lf)[i] := List.getElem?_eq_getElem hil
    have hUx := hA _ (List.getElem_mem hil)
    revert hy hUx
    generalize (hl ++ lf)[i] = x
    intro hy hUx
    obtain ⟨xb, ⟨r1, r2, r3, r4⟩, r5⟩ := hW x hUx
    have hrs : z_ra h x ≠ s := z_ne_s hs r3
    refine w_X14_sweep_49 (by omega) ⟨fun hle => absurd hle (nI_ge hil (by omega)), fun _ => ⟨i, (hl ++ lf).length, rfl, ⟨z_4 hc4.1.1, hc4.2.1, hil, hA16⟩, x, hc4.2.2.2 i x hy, ?_⟩⟩
    have key : ∀ m j (h5 : q_H), j + m = z_rl h x → z_Si h h5 s U hl lf hk t c (fun a q => (∃ x ∈ (hl ++ lf).take i, a = z_ra h x ∧ q < z_rl h x) ∨ (a = z_ra h x ∧ q < j)) →
        q_K g m_X14_sweep [] d MC MS h [] Q kk nn (58, [some (.ref s), none, some (.ref t), some (.int y), some (.ref c), some (.int (nI (hl ++ lf).length)), some (.int (nI i)), some (.ref x), some (.int (nI j))], [], h5) := by
      intro m
      induction m with
      | zero =>
        intro j h5 hj hS5
        obtain rfl : j = z_rl h x := by omega
        obtain ⟨hW5, hr5, -⟩ := z_Si_Wf hW hu hs (fun a j hp => by
          rcases hp with ⟨z, hz, e, -⟩ | ⟨e, -⟩
          · exact ⟨z, hA z (List.mem_of_mem_take hz), e⟩
          · exact ⟨x, hUx, e⟩) hS5
        obtain ⟨xb5, ⟨q1, q2, q3, q4⟩, -⟩ := hW5 x hUx
        obtain ⟨e1, e2⟩ := hr5 x hUx
        rw [e1] at q1 q2 q3
        rw [e2] at q3
        refine w_X14_sweep_58 (by omega) ⟨⟨z_4 xb5.1.1, xb5.2⟩, z_ra h x, q1, z_rl h x, ⟨z_4 q2.1, q3⟩, fun _ => ?_, fun hn => absurd (Int32.le_refl _) hn⟩
        rw [nI_1]
        refine ih (i + 1) h5 (by omega) (z_Si_cg (fun a q => ?_) hS5)
        rw [List.take_succ, hy]
        constructor
        · rintro (⟨z, hz, e, hq⟩ | ⟨e, hq⟩)
          · exact ⟨z, List.mem_append_left _ hz, e, hq⟩
          · exact ⟨x, List.mem_append_right _ List.mem_cons_self, e, hq⟩
        · rintro ⟨z, hz, e, hq⟩
          rcases List.mem_append.mp hz with hz | hz
          · exact Or.inl ⟨z, hz, e, hq⟩
          · obtain rfl := List.mem_singleton.mp hz
            exact Or.inr ⟨e, hq⟩
      | succ m ihm =>
        intro j h5 hj hS5
        have hjl : j < z_rl h x := by omega
        obtain ⟨hW5, hr5, hrd⟩ := z_Si_Wf hW hu hs (fun a j hp => by
          rcases hp with ⟨z, hz, e, -⟩ | ⟨e, -⟩
          · exact ⟨z, hA z (List.mem_of_mem_take hz), e⟩
          · exact ⟨x, hUx, e⟩) hS5
        obtain ⟨xb5, ⟨q1, q2, q3, q4⟩, q5⟩ := hW5 x hUx
        obtain ⟨e1, e2⟩ := hr5 x hUx
        rw [e1] at q1 q2 q3 q5
        rw [e2] at q3 q5
        have hxB : 400 ≤ x ∧ q_sh h5 x = (0, 11, 0) := ⟨z_4 xb5.1.1, xb5.2⟩
        have hra : 400 ≤ z_ra h x ∧ q_sh h5 (z_ra h x) = (3, 6, z_rl h x) := ⟨z_4 q2.1, q3⟩
        have hrj : 400 ≤ z_ra h x ∧ q_sh h5 (z_ra h x) = (3, 6, z_rl h x) ∧ j < z_rl h x ∧ q_s16 (z_rl h x) := ⟨z_4 q2.1, q3, hjl, by show z_rl h x < 65536; omega⟩
        have hcg : ∀ a q, ((∃ x ∈ (hl ++ lf).take i, a = z_ra h x ∧ q < z_rl h x) ∨ (a = z_ra h x ∧ q < j)) ∨ (a = z_ra h x ∧ q = j) ↔ (∃ x ∈ (hl ++ lf).take i, a = z_ra h x ∧ q < z_rl h x) ∨ (a = z_ra h x ∧ q < j + 1) := by
          intro a q
          constructor
          · rintro ((h1 | ⟨e, h1⟩) | ⟨e, h1⟩)
            · exact Or.inl h1
            · exact Or.inr ⟨e, by omega⟩
            · exact Or.inr ⟨e, by omega⟩
          · rintro (h1 | ⟨e, h1⟩)
            · exact Or.inl (Or.inl h1)
            · rcases Nat.lt_or_ge q j with h2 | h2
              · exact Or.inl (Or.inr ⟨e, h2⟩)
              · exact Or.inr ⟨e, by omega⟩
        have go : z_g0 (q_I h) lf (q_R h5 (z_ra h x) j) = q_R h5 (z_ra h x) j → q_K g m_X14_sweep [] d MC MS h [] Q kk nn (58, [some (.ref s), none, some (.ref t), some (.int y), some (.ref c), some (.int (nI (hl ++ lf).length)), some (.int (nI i)), some (.ref x), some (.int (nI j + 1))], [], h5) := fun hv => by
          rw [nI_1]
          exact ihm (j + 1) h5 (by omega) (z_Si_cg hcg (z_Si_no r2.2 hrs hv hS5))
        refine w_X14_sweep_58 (by omega) ⟨hxB, z_ra h x, q1, z_rl h x, hra, fun hle => absurd hle (nI_ge hjl (by omega)), fun _ => ⟨hxB, z_ra h x, q1, j, z_rl h x, rfl, hrj, fun z hz => ⟨hxB, z_ra h x, q1, j, z_rl h x, rfl, hrj, z, hz, ?_, fun h0 => ?_, fun h0 => ⟨hxB, z_ra h x, q1, j, z_rl h x, rfl, hrj, z, hz, ?_⟩⟩, fun hn => ?_⟩⟩
        · obtain ⟨zb, -, -⟩ := hW5 z (q5 j z hjl hz)
          exact ⟨z_4 zb.1.1, zb.2⟩
        · refine go ?_
          have hzU := q5 j z hjl hz
          rw [(hS5.1.2 z (hW z hzU).1.1.2).2.2.2] at h0
          rw [hz]
          exact if_pos (Or.inl h0)
        · have hzU := q5 j z hjl hz
          rw [(hS5.1.2 z (hW z hzU).1.1.2).2.2.2] at h0
          have hUlf : ∀ q ∈ lf, 400 ≤ q := fun q hq => z_4 (hW q (hA q (List.mem_append_right _ hq))).1.1.1
          refine q_cI_of (fun v h' => v = (if z ∈ lf then 1 else 0) ∧ h' = h5) (z_isIn (d := d - 1) (by omega) (by omega) hS5.2.2.2.1.2.1 hUlf (z_4 (hW z hzU).1.1.1)) (by omega) (q_lcle (by omega) (by omega)) (by omega) (by omega) trivial (fun v h6 hp => ?_)
          obtain ⟨p1, p2⟩ := hp
          subst p2
          by_cases hzl : z ∈ lf
          · rw [if_pos hzl] at p1
            subst p1
            refine ⟨fun _ => go ?_, fun h0 => absurd h0 (by decide)⟩
            rw [hz]
            exact if_pos (Or.inr hzl)
          · rw [if_neg hzl] at p1
            subst p1
            refine ⟨fun h0 => absurd rfl h0, fun _ => ⟨hxB, z_ra h x, q1, j, z_rl h x, rfl, hrj, ?_⟩⟩
            rw [nI_1]
            refine ihm (j + 1) _ (by omega) (z_Si_cg hcg (z_Si_pR hUx r2.2 hrs ?_ hS5))
            rw [hz]
            exact (if_neg (fun h => h.elim h0 hzl)).symm
        · refine go ?_
          rw [hn]; rfl
    exact key (z_rl h x) 0 h4 (by omega) (z_Si_cg (fun a q => ⟨Or.inl, fun h => h.elim id (fun h => absurd h.2 (Nat.not_lt_zero _))⟩) hS4)
set_option maxHeartbeats 2000000 in
theorem z_sweepC (hd : 3 ≤ d) (hd2 : d < 2048) (hS : z_Sim h s hl ll hk) (hW : z_Wf h U) (hu : ¬ U s) (hsp : z_Sp h s U) (hhk : ∀ x, some x ∈ hk → U x) (hU : ∀ x ∈ hl ++ ll, U x) (hnd : (hl ++ ll).Nodup) (hB : ∀ l : List Nat, l.Nodup → (∀ x ∈ l, U x) → l.length ≤ B) (hBs : q_s16 B)
    (hlf : lf = ll.filter (fun x => decide (x ∈ z_bfs (z_rp h) (B + 1) 0 (z_adds [] hk)))) :
    q_Ct g m_X14_sweep d (3 * B + 2) (3 * (B * B)) [] [.ref s] h (fun o h' => ∃ y, o = .inl (some (.int y)) ∧ y = nI ll.length - nI lf.length ∧ z_Sw h h' s U hl lf hk y) := by
  obtain ⟨⟨s1, s2⟩, s3, ⟨a, a1, a2⟩, ⟨b, b1, b2⟩, c0, c1, c2⟩ := id hS
  have hAB : (hl ++ ll).length ≤ B := hB _ hnd hU
  rw [List.length_append] at hAB
  obtain ⟨n1, n2⟩ := z_adds_U (l := []) (os := hk) (U := U) (by simp) (by simp) hhk
  obtain ⟨-, hrsU⟩ := z_bfs_U (z_rp_U hW) (B + 1) 0 _ n1 n2
  have hreach := z_reachedC (g := g) (d := d - 1) (by omega) (by omega) hS hW hhk hB hBs
  revert hrsU hreach hlf
  generalize z_bfs (z_rp h) (B + 1) 0 (z_adds [] hk) = rs
  intro hlf hrsU hreach
  have hfl : ∀ l : List Nat, (l.filter (fun x => decide (x ∈ rs))).length ≤ l.length := fun l => List.length_filter_le _ _
  have hlfl : lf.length ≤ ll.length := by rw [hlf]; exact hfl ll
  have hlfm : ∀ x ∈ lf, x ∈ ll := fun x hx => by rw [hlf] at hx; exact (List.mem_filter.mp hx).1
  have hA : ∀ x ∈ hl ++ lf, U x := fun x hx => hU x (by
    rcases List.mem_append.mp hx with hx | hx
    · exact List.mem_append_left _ hx
    · exact List.mem_append_right _ (hlfm x hx))
  have hB16 : B < 65536 := hBs
  have hBB1 : lf.length * B ≤ B * B := Nat.mul_le_mul_right _ (by omega)
  have hBB2 : lf.length * (hl.length + lf.length) ≤ B * B := Nat.mul_le_mul (by omega) (by omega)
  refine q_CtK ok_X14_sweep (by omega) (Nat.le_of_ble_eq_true rfl) ?_ _ rfl rfl
  refine w_X14_sweep_0 (by omega) ⟨⟨z_4 s1, s3⟩, ?_⟩
  refine q_cR_of (fun r h1 => z_ext h h1 ∧ z_Ar h1 r rs) hreach (by omega) (q_lcle (by omega) (by omega)) (by omega) (by omega) trivial (fun r h1 hp => ?_)
  obtain ⟨e1, hr⟩ := hp
  have key14 : ∀ n i (h2 : q_H) (t : Nat), i + n = ll.length → z_ext h1 h2 → q_nx h1 ≤ t → z_Ar h2 t ((ll.take i).filter (fun x => decide (x ∈ rs))) →
      q_K g m_X14_sweep [] d (3 * B + 2) (3 * (B * B)) h [] (fun o h' => ∃ y, o = .inl (some (.int y)) ∧ y = nI ll.length - nI lf.length ∧ z_Sw h h' s U hl lf hk y) (B + 2 + ((ll.take i).filter (fun x => decide (x ∈ rs))).length) (B * B + ((ll.take i).filter (fun x => decide (x ∈ rs))).length * B) (14, [some (.ref s), some (.ref r), some (.ref t), some (.ref b), some (.int (nI ll.length)), some (.int (nI i)), none, none, none], [], h2) := by
    intro n
    induction n with
    | zero =>
      intro i h2 t hi he ht4 ht
      obtain rfl : i = ll.length := by omega
      rw [List.take_length, ← hlf] at ht ⊢
      have e2 := z_ext_trans e1 he
      have hS2 := z_Sim_ext e2 hS
      have hb2 := z_Ar_ext e2 b2
      have hs2 : 400 ≤ s ∧ q_sh h2 s = (0, 12, 0) := ⟨z_4 s1, hS2.2.1⟩
      have es := e2.2 s s2
      have hS3 := z_Sim_pRs1 hS2 ht
      refine w_X14_sweep_14 (by omega) ⟨fun _ => ⟨hs2, b, by rw [es.2.2.1]; exact b1, ll.length, ⟨z_4 hb2.1.1, hb2.2.1⟩, lf.length, ⟨z_4 ht.1.1, ht.2.1⟩, hs2, hs2, ?_⟩, fun hn => absurd (Int32.le_refl _) hn⟩
      refine q_cR_of (fun c h3 => z_ext (q_pR h2 s 1 (some t)) h3 ∧ z_Ar h3 c (hl ++ lf) ∧ (q_R (q_pR h2 s 1 (some t)) s 0 = some c ∨ q_nx (q_pR h2 s 1 (some t)) ≤ c)) (z_all (d := d - 1) (by omega) (by omega) hS3 (fun x hx => (show z_Bal h2 x from z_Bal_ext e2 (hW x (hA x hx)).1)) (by show hl.length + lf.length < 65536; omega)) (by omega) (q_lcle (by omega) (by omega)) (by omega) (by omega) trivial (fun c h3 hp => ?_)
      obtain ⟨e3, hc, hcq⟩ := hp
      refine ⟨(hl ++ lf).length, ⟨z_4 hc.1.1, hc.2.1⟩, ?_⟩
      have hnx2 : q_nx h ≤ q_nx h2 := e2.1
      have hR2 : ∀ k, k ≠ 1 → q_R h3 s k = q_R h s k := fun k hk => by
        rw [(e3.2 s (Nat.lt_of_lt_of_le s2 hnx2)).2.2.1, z_R_j _ _ _ _ _ hk, es.2.2.1]
      have hR21 : q_R h3 s 1 = some t := by
        rw [(e3.2 s (Nat.lt_of_lt_of_le s2 hnx2)).2.2.1, z_R_s]
      have hts : q_nx h ≤ t := Nat.le_trans e1.1 ht4
      have hS0 : z_Si h h3 s U hl lf hk t c (fun a j => ∃ x ∈ (hl ++ lf).take 0, a = z_ra h x ∧ j < z_rl h x) := by
        refine ⟨⟨Nat.le_trans hnx2 e3.1, fun a ha => ?_⟩, fun a j hp => ?_, fun a j ha hs _ => ?_, ⟨z_Sim_ext e3 hS3, z_Ar_ext e3 (z_Ar_pRs hS2.2.1 ht), hc⟩, fun k hk => hR2 k (by omega), fun x hx => ⟨?_, ?_, fun k hk => ?_⟩, fun k hk => ?_⟩
        · obtain ⟨x1, x2, x3, x4, x5⟩ := e2.2 a ha
          obtain ⟨y1, y2, y3, y4, y5⟩ := e3.2 a (Nat.lt_of_lt_of_le ha hnx2)
          exact ⟨y1.trans x1, ⟨y4.1.trans x4.1, z_sp_trans (h2 := q_pR h2 s 1 (some t)) hnx2 (z_sp_pR x4.2 (fun b e => Or.inr (Option.some.inj e ▸ hts))) y4.2⟩, y5.trans x5, y2.trans x2⟩
        · obtain ⟨x, hx, -⟩ := hp
          simp at hx
        · rw [(e3.2 a (Nat.lt_of_lt_of_le ha hnx2)).2.2.1, z_R_a _ _ _ _ _ hs, (e2.2 a ha).2.2.1]
        · have := (hW x hx).2.1.2.1.2
          omega
        · intro e
          rcases hcq with hq | hq
          · rw [z_R_j _ _ _ _ _ (by decide), es.2.2.1, ← e] at hq
            exact hsp.2.1 x hx 0 (by decide) hq
          · have h9 := (hW x hx).2.1.2.1.2
            have h8 : q_nx h2 ≤ c := hq
            omega
        · by_cases hk1 : k = 1
          · subst hk1
            rw [hR21]
            intro e
            have h9 := (hW x hx).2.1.2.1.2
            have h8 : t = z_ra h x := Option.some.inj e
            omega
          · rw [hR2 k hk1]
            exact hsp.2.1 x hx k hk
        · by_cases hk1 : k = 1
          · subst hk1
            exact Or.inr ⟨t, hR21, hts⟩
          · exact Or.inl (hR2 k hk1)
      refine z_sweep_L49 hd hd2 hW hu s3 hA (by omega) (by omega) (by rw [List.length_append]; omega) (fun h4 hS4 => ?_) (hl ++ lf).length 0 h3 (by omega) hS0
      refine ⟨_, rfl, rfl, ?_⟩
      obtain ⟨hW4, hr4, -⟩ := z_Si_Wf hW hu s3 (fun a j hp => by
        obtain ⟨x, hx, e, -⟩ := hp
        exact ⟨x, hA x hx, e⟩) hS4
      obtain ⟨⟨m1, m2⟩, p1, p2, ⟨q1, q2, q3⟩, q4, q5, q6⟩ := hS4
      refine ⟨⟨m1, fun a ha => ⟨(m2 a ha).1, (m2 a ha).2.1, (m2 a ha).2.2.1, fun hs => (z_I_a _ _ _ _ _ hs).trans (m2 a ha).2.2.2⟩⟩, q1, ⟨?_, fun k hk => ?_⟩, q4, q6, fun x hx => ?_, hW4, fun x hx => (hr4 x hx).1, fun a ha hs hx => ?_⟩
      · rw [z_I_s, (m2 s s2).2.2.2]
      · rw [z_I_j _ _ _ _ _ hk, (m2 s s2).2.2.2]
      · obtain ⟨e5, e6⟩ := hr4 x (hA x hx)
        show (List.range (z_rl h4 x)).map (q_R h4 (z_ra h4 x)) = ((List.range (z_rl h x)).map (q_R h (z_ra h x))).map (z_g0 (q_I h) lf)
        rw [e5, e6, List.map_map]
        refine List.map_congr_left (fun j hj => ?_)
        exact p1 _ _ ⟨x, hx, rfl, List.mem_range.mp hj⟩
      · funext j
        exact p2 a j ha hs (fun ⟨x, h1, h2, _⟩ => hx x h1 h2)
    | succ n ih =>
      intro i h2 t hi he ht4 ht
      have hil : i < ll.length := by omega
      have e2 := z_ext_trans e1 he
      have hb2 := z_Ar_ext e2 b2
      have hy : ll[i]? = some ll[i] := List.getElem?_eq_getElem hil
      have hUx := hU _ (List.mem_append_right hl (List.getElem_mem hil))
      have htake : ∀ x, ll[i]? = some x → (ll.take (i + 1)).filter (fun x => decide (x ∈ rs)) = (ll.take i).filter (fun x => decide (x ∈ rs)) ++ (if x ∈ rs then [x] else []) := fun x hx => by
        rw [List.take_succ, hx, List.filter_append]
        by_cases hxr : x ∈ rs
        · simp [hxr]
        · simp [hxr]
      revert hy hUx
      generalize ll[i] = x
      intro hy hUx
      have htk := htake x hy
      have hflt := hfl (ll.take i)
      have htl : (ll.take i).length ≤ ll.length := List.length_take_le' _ _
      have hrsB : ∀ q ∈ rs, 400 ≤ q := fun q hq => z_4 (hW q (hrsU q hq)).1.1.1
      have hmul : ((ll.take i).filter (fun x => decide (x ∈ rs))).length * B ≤ B * B := Nat.mul_le_mul_right _ (by omega)
      refine w_X14_sweep_14 (by omega) ⟨fun hle => absurd hle (nI_ge hil (by omega)), fun _ => ⟨i, ll.length, rfl, ⟨z_4 hb2.1.1, hb2.2.1, hil, hb2.2.2.1⟩, x, hb2.2.2.2 i x hy, ?_⟩⟩
      refine q_cI_of (fun v h' => v = (if x ∈ rs then 1 else 0) ∧ h' = h2) (z_isIn (d := d - 1) (by omega) (by omega) (z_Ar_ext he hr) hrsB (z_4 (hW x hUx).1.1.1)) (by omega) (q_lcle (by omega) (by omega)) (by omega) (by omega) trivial (fun v h3 hp => ?_)
      obtain ⟨p1, p2⟩ := hp
      subst p2
      rw [Nat.add_zero, Nat.add_zero]
      by_cases hxr : x ∈ rs
      · rw [if_pos hxr] at p1 htk
        subst p1
        refine ⟨fun h0 => absurd h0 (by decide), fun _ => ?_⟩
        refine q_cR_of (fun y h' => y = q_nx h3 ∧ q_nx h' = q_nx h3 + 1 ∧ z_ext h3 h' ∧ z_Ar h' y ((ll.take i).filter (fun x => decide (x ∈ rs)) ++ [x])) (z_with (d := d - 1) (by omega) (by omega) ht (fun q hq => z_Bal_ext e2 (hW q (hU q (List.mem_append_right _ (List.mem_of_mem_take (List.mem_filter.mp hq).1)))).1) (z_Bal_ext e2 (hW x hUx).1) (by
          have hli9 : (ll.take i).length = i := by rw [List.length_take]; omega
          show _ < 65536; omega)) (by omega) (q_lcle (by omega) (by omega)) (by omega) (by
          have h8 : (((ll.take i).filter (fun x => decide (x ∈ rs))).length + 1) * B ≤ B * B := Nat.mul_le_mul_right _ (by
            have : (ll.take i).length = i := by rw [List.length_take]; omega
            omega)
          rw [Nat.succ_mul] at h8
          omega) trivial (fun y h4 hp => ?_)
        obtain ⟨q1, q2, q3, q4⟩ := hp
        rw [nI_1]
        have := ih (i + 1) h4 y (by omega) (z_ext_trans he q3) (by rw [q1]; exact he.1) (by rw [htk]; exact q4)
        rw [htk, List.length_append] at this
        have hli : (ll.take i).length = i := by rw [List.length_take]; omega
        refine k_Jwd (by show _ ≤ B + 2 + (((ll.take i).filter (fun x => decide (x ∈ rs))).length + 1); omega) (by
          show _ ≤ B * B + (((ll.take i).filter (fun x => decide (x ∈ rs))).length + 1) * B
          rw [Nat.succ_mul]
          omega) this
      · rw [if_neg hxr] at p1 htk
        subst p1
        refine ⟨fun _ => ?_, fun h0 => absurd rfl h0⟩
        rw [nI_1]
        have := ih (i + 1) h3 t (by omega) he ht4 (by rw [htk, List.append_nil]; exact ht)
        rw [htk, List.append_nil] at this
        exact this
  have e2 := z_ext_new h1 (3, 6, 0)
  have e12 := z_ext_trans e1 e2
  have hS2 := z_Sim_ext e12 hS
  have hb2 := z_Ar_ext e12 b2
  refine ⟨0, rfl, by decide, ⟨by omega, by omega⟩, ⟨z_4 s1, hS2.2.1⟩, b, by rw [(e12.2 s s2).2.2.1]; exact b1, ll.length, ⟨z_4 hb2.1.1, hb2.2.1⟩, ?_⟩
  have := key14 ll.length 0 (q_new h1 (3, 6, 0)) (q_nx h1) (by omega) e2 (Nat.le_refl _) ⟨⟨Nat.le_trans (Nat.le_trans s1 (Nat.le_of_lt s2)) e1.1, Nat.lt_succ_self _⟩, z_sh_new _ _, (by show (0 : Nat) < 65536; decide), fun i x hx => by simp at hx⟩
  refine k_Jwd (by show _ ≤ B + 2 + 0; omega) (by show _ ≤ B * B + 0 * B; omega) this
end ZSWEEP2
