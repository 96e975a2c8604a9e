/-! WHAT THE LAW'S BARN LEAVES ALONE -/
/-- all but bales, their rows and the barn itself stay as they are -/
def z_fr (h h' : q_H) : Prop := q_nx h ≤ q_nx h' ∧ ∀ a, a < q_nx h → q_sh h' a = q_sh h a ∧ (q_E h' a = q_E h a ∧ z_sp h h') ∧ q_L h' a = q_L h a ∧ (q_sh h a ≠ (0, 12, 0) → q_sh h a ≠ (0, 11, 0) → q_I h' a = q_I h a) ∧ (q_sh h a ≠ (0, 12, 0) → ((q_sh h a).1 = 3 → (q_sh h a).2.1 ≠ 6) → q_R h' a = q_R h a) ∧ (q_sh h a = (0, 12, 0) → ∀ k, 3 ≤ k → q_R h' a k = q_R h a k)
section ZFR
variable {h h1 h' : q_H} {s c m : Nat} {hl ll : List Nat} {hkL hk : List (Option Nat)}
theorem z_fr_rfl : z_fr h h := ⟨Nat.le_refl _, fun _ _ => ⟨rfl, ⟨rfl, z_sp_rfl⟩, rfl, fun _ _ => rfl, fun _ _ => rfl, fun _ _ _ => rfl⟩⟩
theorem z_fr_trans (e1 : z_fr h h1) (e2 : z_fr h1 h') : z_fr h h' := by
  refine ⟨Nat.le_trans e1.1 e2.1, fun a ha => ?_⟩
  obtain ⟨a1, a2, a3, a4, a5, a6⟩ := e1.2 a ha
  obtain ⟨b1, b2, b3, b4, b5, b6⟩ := e2.2 a (Nat.lt_of_lt_of_le ha e1.1)
  rw [a1] at b1 b4 b5 b6
  exact ⟨b1, ⟨b2.1.trans a2.1, z_sp_trans e1.1 a2.2 b2.2⟩, b3.trans a3, fun x y => (b4 x y).trans (a4 x y), fun x y => (b5 x y).trans (a5 x y), fun x k hk => (b6 x k hk).trans (a6 x k hk)⟩
theorem z_fr_ext (e : z_ext h h') : z_fr h h' := ⟨e.1, fun a ha => by
  obtain ⟨a1, a2, a3, a4, a5⟩ := e.2 a ha
  exact ⟨a1, a4, a5, fun _ _ => a2, fun _ _ => a3, fun _ k _ => congrFun a3 k⟩⟩
theorem z_fr_I {j : Nat} {x : Int32} (hs : q_sh h s = (0, 12, 0)) : z_fr h (q_pI h s j x) := ⟨Nat.le_refl _, fun a _ => ⟨rfl, ⟨rfl, z_sp_pI z_sp_rfl⟩, rfl, fun h1 _ => by
  have hne : a ≠ s := fun e => h1 (by rw [e]; exact hs)
  show q_u2 (q_I h) s j x a = _
  exact q_u2_row _ _ _ _ _ hne, fun _ _ => rfl, fun _ _ _ => rfl⟩⟩
theorem z_fr_R {b j n : Nat} {x : Option Nat} (hb : q_sh h b = (3, 6, n)) (hx : ∀ b, x = some b → 492 ≤ b) : z_fr h (q_pR h b j x) := ⟨Nat.le_refl _, fun a _ => ⟨rfl, ⟨rfl, z_sp_pR z_sp_rfl (fun b e => Or.inl (hx b e))⟩, rfl, fun _ _ => rfl, fun _ h2 => by
  have hne : a ≠ b := fun e => h2 (by rw [e, hb]) (by rw [e, hb])
  show q_u2 (q_R h) b j x a = _
  exact q_u2_row _ _ _ _ _ hne, fun h1 k _ => by
  have hne : a ≠ b := fun e => by rw [e, hb] at h1; cases h1
  show q_u2 (q_R h) b j x a k = _
  rw [q_u2_row _ _ _ _ _ hne]⟩⟩
theorem z_fr_Cp {σ : z_St} (hO : z_OK h s hl ll hkL m) (hC : z_Cp h h' s hk (fun x => x ∈ hl ++ ll) hl σ) : z_fr h h' := by
  obtain ⟨⟨c1, c2⟩, -, -, -, -, c6⟩ := hC
  refine ⟨c1, fun a ha => ?_⟩
  obtain ⟨d1, d2, d3, d4, d5, d6⟩ := c2 a ha
  have hs : q_sh h s = (0, 12, 0) := hO.1.2.1
  refine ⟨d1, d2, d3, fun x y => d5 (fun e => x (by rw [e]; exact hs)) (fun e => y (hO.2.1 a e).1.2), fun x _ => d4 (fun e => x (by rw [e]; exact hs)), fun x k hk => ?_⟩
  by_cases e : a = s
  · rw [e]; exact c6 k (by omega)
  · rw [d4 e]
theorem z_fr_Mk {i L : Nat} {size u : Int32} (hs : q_sh h s = (0, 12, 0)) {nc : Nat} (hc : q_sh h c = (3, 6, nc)) (hM : z_Mk h h' s c hl ll hkL i size u L) : z_fr h h' := by
  obtain ⟨⟨k1, k2⟩, -, ⟨k4, -⟩, -⟩ := hM
  refine ⟨by omega, fun a ha => ?_⟩
  obtain ⟨d1, d2, d3, d4, d5⟩ := k2 a ha
  refine ⟨d1, d2, d3, fun _ _ => d4, fun x y => d5 (fun e => x (by rw [e]; exact hs)) (fun e => y (by rw [e, hc]) (by rw [e, hc])), fun x k hk => ?_⟩
  by_cases e : a = s
  · rw [e]; exact k4 k (by omega)
  · rw [d5 e (fun e => by rw [e, hc] at x; cases x)]
theorem z_OK_s (hO : z_OK h s hl ll hkL m) : q_sh h s = (0, 12, 0) ∧ 492 ≤ s ∧ s < q_nx h ∧ ∃ c, q_R h s 2 = some c ∧ q_sh h c = (3, 6, hkL.length) ∧ z_Ao h c hkL := by
  obtain ⟨⟨s1, s2⟩, s3, -, -, ⟨c, c1, c2⟩⟩ := hO.1
  exact ⟨s3, s1, s2, c, c1, c2.2.1, c2⟩
theorem z_fr_mkR {σ : z_St} {up i L : Nat} {size y : Int32} (hO : z_OK h s hl ll hkL m) (hc : q_R h s 2 = some c) (hM : z_mkR h h' s c hl ll hkL up i size L y σ) : z_fr h h' := by
  obtain ⟨o1, o2, o3, c', o4, o5, o6⟩ := z_OK_s hO
  obtain rfl : c' = c := Option.some.inj (o4.symm.trans hc)
  rcases hM with ⟨-, -, m3⟩ | ⟨-, h1, mC, ⟨-, -, m7⟩ | ⟨-, -, m7⟩⟩
  · exact z_fr_Mk o1 o5 m3
  · have f := z_fr_Cp hO mC
    exact z_fr_trans f (z_fr_Mk (by rw [(f.2 s o3).1]; exact o1) (by rw [(f.2 c' o6.1.2).1]; exact o5) m7)
  · rw [m7]; exact z_fr_Cp hO mC
theorem z_fr_tie {i t : Nat} {r y : Int32} (hO : z_OK h s hl ll hkL m) (e : (y, h') = z_tie h hkL i t r) : z_fr h h' := by
  unfold z_tie at e
  split at e
  · next x j z hro ht =>
    obtain ⟨-, hU, -, -⟩ := z_ro_some hO.2.1 hO.2.2.2.1 hro
    obtain rfl : h' = _ := congrArg Prod.snd e
    exact z_fr_R (hO.2.1 x hU).2.1.2.2.1 (fun b e => by
      cases e
      exact (hO.2.1 _ (hO.2.2.2.1 _ (List.mem_of_getElem? ht))).1.1.1)
  · obtain rfl : h' = _ := congrArg Prod.snd e
    exact z_fr_rfl
theorem z_fr_untie {i : Nat} {r y : Int32} (hO : z_OK h s hl ll hkL m) (e : (y, h') = z_untie h hkL i r) : z_fr h h' := by
  unfold z_untie at e
  split at e
  · next x j hro =>
    obtain ⟨-, hU, -, -⟩ := z_ro_some hO.2.1 hO.2.2.2.1 hro
    obtain rfl : h' = _ := congrArg Prod.snd e
    exact z_fr_R (hO.2.1 x hU).2.1.2.2.1 (fun b e => by cases e)
  · obtain rfl : h' = _ := congrArg Prod.snd e
    exact z_fr_rfl
theorem z_fr_hook {i : Nat} {o : Option Nat} (hO : z_OK h s hl ll hkL m) (ho : ∀ b, o = some b → 492 ≤ b) : z_fr h (q_pR h (z_ha h s) i o) := by
  obtain ⟨o1, o2, o3, c, o4, o5, o6⟩ := z_OK_s hO
  have e : z_ha h s = c := by unfold z_ha; rw [o4]; rfl
  rw [e]; exact z_fr_R o5 ho
theorem z_fr_follow {i t : Nat} {r y : Int32} (hO : z_OK h s hl ll hkL m) (e : (y, h') = z_follow h s hkL i t r) : z_fr h h' := by
  unfold z_follow at e
  split at e
  · next x j hro =>
    split at e
    · next z hz =>
      obtain rfl : h' = _ := congrArg Prod.snd e
      obtain ⟨-, hU, -, hj⟩ := z_ro_some hO.2.1 hO.2.2.2.1 hro
      exact z_fr_hook hO (fun b e => by
        cases e
        exact (hO.2.1 _ ((hO.2.1 x hU).2.2 j _ hj hz)).1.1.1)
    · obtain rfl : h' = _ := congrArg Prod.snd e
      exact z_fr_rfl
  · obtain rfl : h' = _ := congrArg Prod.snd e
    exact z_fr_rfl
theorem z_fr_drop {i : Nat} {o : Option Nat} {y : Int32} (hO : z_OK h s hl ll hkL m) (e : (y, h') = z_drop h s o i) : z_fr h h' := by
  unfold z_drop at e
  obtain rfl : h' = _ := congrArg Prod.snd e
  exact z_fr_hook hO (fun b e => by cases e)
theorem z_fr_done {v up i1 i2 L : Nat} {o1 o2 : Option Nat} {y : Int32} {σ : z_St} (hO : z_OK h s hl ll hkL m) (hc : q_R h s 2 = some c) (e : z_doneR h h' s v c hl ll hkL up i1 i2 L o1 o2 y σ) : z_fr h h' := by
  rcases e with ⟨-, e⟩ | ⟨-, e⟩ | ⟨-, e⟩ | ⟨-, e⟩ | ⟨-, e⟩
  · exact z_fr_mkR hO hc e
  · exact z_fr_tie hO e
  · exact z_fr_untie hO e
  · exact z_fr_follow hO e
  · exact z_fr_drop hO e
theorem z_fr_Sw {lf : List Nat} {y : Int32} (hO : z_OK h s hl ll hkL m) (hS : z_Sw h h' s (fun x => x ∈ hl ++ ll) hl lf hkL y) (hlf : ∀ x ∈ lf, x ∈ ll) : z_fr h h' := by
  obtain ⟨⟨k1, k2⟩, -, -, k4, -, -, -, -, k9⟩ := hS
  obtain ⟨o1, o2, o3, -⟩ := z_OK_s hO
  refine ⟨k1, fun a ha => ?_⟩
  obtain ⟨d1, d2, d3, d4⟩ := k2 a ha
  refine ⟨d1, d2, d3, fun x _ => d4 (fun e => x (by rw [e]; exact o1)), fun x y => k9 a ha (fun e => x (by rw [e]; exact o1)) (fun b hb e => ?_), fun x k hk => ?_⟩
  · have hbU : b ∈ hl ++ ll := by
      rcases List.mem_append.mp hb with hb | hb
      · exact List.mem_append_left _ hb
      · exact List.mem_append_right _ (hlf b hb)
    have h3 := (hO.2.1 b hbU).2.1.2.2.1
    rw [← e] at h3
    exact y (by rw [h3]) (by rw [h3])
  · by_cases e : a = s
    · rw [e]; exact k4 k (by omega)
    · rw [k9 a ha e (fun b hb e2 => ?_)]
      have hbU : b ∈ hl ++ ll := by
        rcases List.mem_append.mp hb with hb | hb
        · exact List.mem_append_left _ hb
        · exact List.mem_append_right _ (hlf b hb)
      have h3 := (hO.2.1 b hbU).2.1.2.2.1
      rw [← e2, x] at h3
      cases h3
/-- the told rows of the law's barn -/
def z_Rows (h : q_H) (s ns : Nat) (W : Nat → Nat → Int32) : Prop := ∃ b, q_R h s 6 = some b ∧ (492 ≤ b ∧ b < q_nx h) ∧ q_sh h b = (3, 7, ns) ∧ ∀ k, k < ns → ∃ v, q_R h b k = some v ∧ z_Own h v ∧ ∀ j, j < 9 → q_I h v j = W k j
theorem z_Rows_fr {ns : Nat} {W : Nat → Nat → Int32} (hs : q_sh h s = (0, 12, 0)) (hs2 : s < q_nx h) (hS : z_Rows h s ns W) (e : z_fr h h') : z_Rows h' s ns W := by
  obtain ⟨b, b1, ⟨b2, b3⟩, b4, b5⟩ := hS
  obtain ⟨d1, -, -, d4, d5, d6⟩ := e.2 b b3
  refine ⟨b, ((e.2 s hs2).2.2.2.2.2 hs 6 (by decide)).trans b1, ⟨b2, Nat.lt_of_lt_of_le b3 e.1⟩, d1.trans b4, fun k hk => ?_⟩
  obtain ⟨v, v1, ⟨⟨v2, v3⟩, v4⟩, v5⟩ := b5 k hk
  obtain ⟨f1, -, -, f4, f5, f6⟩ := e.2 v v3
  refine ⟨v, ?_, ⟨⟨v2, Nat.lt_of_lt_of_le v3 e.1⟩, f1.trans v4⟩, fun j hj => ?_⟩
  · rw [d5 (by rw [b4]; exact fun e => by cases e) (by rw [b4]; exact fun _ => (show ¬ (7 : Nat) = 6 by decide))]; exact v1
  · rw [f4 (by rw [v4]; decide) (by rw [v4]; decide)]; exact v5 j hj
end ZFR
