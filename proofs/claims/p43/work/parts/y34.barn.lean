/-! THE LAW'S BARN IN ITS HEAP AND THE CLASS'S ROWS -/
/-- both barns at rest -/
def z_B (h : q_H) (s : Nat) (ν : Nat → Nat) (H m hf : Nat) (hL : List Nat) (pn bn ly pl sz ag rc ld hk : m_Rr) (hl ll : List Nat) (hkL : List (Option Nat)) : Prop :=
  z_OK h s hl ll hkL m ∧ z_YR ν H hL bn ly pl sz ag rc ld hk hl ll hkL (q_I h) (z_rp h) (q_I h s 11) ∧
  (q_I h s 3 = nI hf ∧ q_I h s 5 = pn 2 ∧ q_I h s 7 = bn 10 ∧ q_I h s 8 = bn 11 ∧ q_I h s 9 = bn 9 ∧ q_I h s 10 = bn 12 ∧ q_I h s 12 = bn 14)
section ZBARN
variable {h h' : q_H} {s : Nat} {ν : Nat → Nat} {H m hf : Nat} {hL : List Nat} {pn bn ly pl sz ag rc ld hk : m_Rr} {hl ll : List Nat} {hkL : List (Option Nat)} {f f' : Nat → Nat → Int32} {rp rp' : Nat → List (Option Nat)} {q : Int32}
/-- a bale of the class lies in one of the law's rows -/
theorem z_YR_mem (hY : z_YR ν H hL bn ly pl sz ag rc ld hk hl ll hkL f rp q) (hv : m_Rv ly sz) (hm : ∀ b, b ∈ hL ↔ b < 128 ∧ ly b = 1) {b : Nat} (hb : b < 128) (h0 : ¬ ly b = 0) : ν b ∈ hl ++ ll := by
  obtain ⟨v1, v2, ⟨v3, v4⟩, -⟩ := hY
  rcases (hv b hb).1 with e | e | e
  · exact absurd e h0
  · exact List.mem_append_left _ (by rw [v2]; exact List.mem_map_of_mem ((hm b).mpr ⟨hb, e⟩))
  · exact List.mem_append_right _ ((v4 _).mpr ⟨b, hb, e, rfl⟩)
/-- .. and what lies there is a bale of the class -/
theorem z_YR_of (hY : z_YR ν H hL bn ly pl sz ag rc ld hk hl ll hkL f rp q) (hm : ∀ b, b ∈ hL ↔ b < 128 ∧ ly b = 1) {x : Nat} (hx : x ∈ hl ++ ll) : ∃ b, b < 128 ∧ ¬ ly b = 0 ∧ x = ν b := by
  obtain ⟨v1, v2, ⟨v3, v4⟩, -⟩ := hY
  rcases List.mem_append.mp hx with hx | hx
  · rw [v2] at hx
    obtain ⟨b, b1, b2⟩ := List.mem_map.mp hx
    obtain ⟨b3, b4⟩ := (hm b).mp b1
    exact ⟨b, b3, by rw [b4]; decide, b2.symm⟩
  · obtain ⟨b, b1, b2, b3⟩ := (v4 x).mp hx
    exact ⟨b, b1, by rw [b2]; decide, b3⟩
/-- what a bale that stays leads to stays -/
theorem z_YR_cl (hY : z_YR ν H hL bn ly pl sz ag rc ld hk hl ll hkL f rp q) (hv : m_Rv ly sz) (hm : ∀ b, b ∈ hL ↔ b < 128 ∧ ly b = 1) : (∀ x ∈ hl ++ ll, ∀ y, some y ∈ rp x → y ∈ hl ++ ll) ∧ ∀ x, some x ∈ hkL → x ∈ hl ++ ll := by
  obtain ⟨v1, v2, v34, v5, v6, ⟨v7, v8⟩, v9⟩ := id hY
  refine ⟨fun x hx y hy => ?_, fun x hx => ?_⟩
  · obtain ⟨b, b1, b2, rfl⟩ := z_YR_of hY hm hx
    obtain ⟨k, k1, k2, k3, k4⟩ := v6 b b1 b2
    obtain ⟨r, hr, hry⟩ := List.getElem_of_mem hy
    rcases k4 r (by rw [← k3]; exact hr) with ⟨-, e⟩ | ⟨c, c1, c2, c3, e⟩
    · rw [List.getElem?_eq_getElem hr, hry] at e
      cases e
    · rw [List.getElem?_eq_getElem hr, hry] at e
      have e2 : y = ν c := Option.some.inj (Option.some.inj e)
      rw [e2]
      exact z_YR_mem hY hv hm c1 c2
  · obtain ⟨i, hi, hix⟩ := List.getElem_of_mem hx
    rcases v8 i (by rw [← v7]; exact hi) with ⟨-, e⟩ | ⟨c, c1, c2, c3, e⟩
    · rw [List.getElem?_eq_getElem hi, hix] at e
      cases e
    · rw [List.getElem?_eq_getElem hi, hix] at e
      have e2 : x = ν c := Option.some.inj (Option.some.inj e)
      rw [e2]
      exact z_YR_mem hY hv hm c1 c2
/-- the numbers and the ropes may be said otherwise -/
theorem z_YR_cg (hY : z_YR ν H hL bn ly pl sz ag rc ld hk hl ll hkL f rp q) (hf : ∀ b, b < 128 → ¬ ly b = 0 → ∀ j, j < 4 → f' (ν b) j = f (ν b) j) (hrp : ∀ b, b < 128 → ¬ ly b = 0 → rp' (ν b) = rp (ν b)) : z_YR ν H hL bn ly pl sz ag rc ld hk hl ll hkL f' rp' q := by
  obtain ⟨v1, v2, v34, v5, v6, v78, v9⟩ := hY
  refine ⟨v1, v2, v34, fun b hb h0 => ?_, fun b hb h0 => ?_, v78, v9⟩
  · rw [hf b hb h0 0 (by decide), hf b hb h0 1 (by decide), hf b hb h0 2 (by decide), hf b hb h0 3 (by decide)]
    exact v5 b hb h0
  · rw [hrp b hb h0]
    exact v6 b hb h0
set_option maxHeartbeats 1000000 in
/-- a copying: the law's and the class's -/
theorem z_B_copy {mp lo lr rw st sh sw sp ss sr sa sd : m_Rr} {σ : z_St} (hP : m_Pl H m hf pn mp) (hR : m_R H m hf hL bn ly pl sz ag rc ld lo lr hk rw st sh sw sp ss sr sa sd) (hB : z_B h s ν H m hf hL pn bn ly pl sz ag rc ld hk hl ll hkL)
    (hσ : σ = z_copy (z_rp h) m (q_I h s 5) hl ll hkL (q_I h) (q_I h s 11)) (hC : z_Cp h h' s hkL (fun x => x ∈ hl ++ ll) hl σ) (li nr nd ro md mq mi : m_Rr) :
    ∃ x hL' bn' ly' pl' ag' lo' lr' li' nr' nd' rw' md' mq' mi' st' sw' sp' sa', f_X2_copyHalf pn bn ly pl sz ag rc ld lo lr li nr nd hk rw ro = some (x, bn', ly', pl', ag', lo', lr', li', nr', nd', rw', rw) ∧ f_X14_copyAll md mp mq mi st sh sw sp ss sr sa sd = some (x, md', mq', mi', st', sw', sp', sa') ∧ m_R H m hf hL' bn' ly' pl' sz ag' rc ld lo' lr' hk rw' st' sh sw' sp' ss sr sa' sd ∧ (∀ j, j ≠ 16 → md' j = md j) ∧ bn' 10 = bn 10 ∧ bn' 12 = bn 12 + 1 ∧
      z_B h' s ν H m hf hL' pn bn' ly' pl' sz ag' rc ld hk σ.1 σ.2.1 hkL ∧ x = nI hl.length - nI σ.2.2.1.length := by
  obtain ⟨b1, b2, b3, b4, b5, b6, b7, b8, b9⟩ := hB
  rw [b4] at hσ
  obtain ⟨x, hL', bn', ly', pl', ag', lo', lr', li', nr', nd', rw', md', mq', mi', st', sw', sp', sa', r1, r2, r3, r4, r5, r6, r7, r8, r9, r10, r11⟩ := z_copyL hP hR b2 hσ li nr nd ro md mq mi
  refine ⟨x, hL', bn', ly', pl', ag', lo', lr', li', nr', nd', rw', md', mq', mi', st', sw', sp', sa', r1, r2, r3, r4, r5, r6, ?_, r8⟩
  have hcl := z_YR_cl r7 r3.2.2.1 r3.2.2.2.1.2.1
  have hO := z_OK_copy b1 (by rw [b4]; exact hσ) hC hcl
  obtain ⟨c1, c2, c3, c4, ⟨c5, c6, c7, c8, c9⟩, c10⟩ := hC
  have hlive : ∀ b, b < 128 → ¬ ly' b = 0 → ν b ∈ hl ++ ll := fun b hb h0 => by
    have hx := z_YR_mem r7 r3.2.2.1 r3.2.2.2.1.2.1 hb h0
    obtain ⟨hI, -⟩ := z_Iv_copy (rp := z_rp h) (prom := pn 2) (hk := hkL) (z_OK_Iv b1 (q := q_I h s 11)) b1.2.2.2.2.2.1.2
    rw [← hσ] at hI
    rcases List.mem_append.mp hx with hx | hx
    · exact hI.2.2.2.1 _ (hI.2.2.1.1 _ (hI.1.1 _ hx))
    · exact (hI.2.1.1 _ hx).1
  have hYR : z_YR ν H hL' bn' ly' pl' sz ag' rc ld hk σ.1 σ.2.1 hkL (q_I h') (z_rp h') (q_I h' s 11) := by
    rw [c5]
    exact z_YR_cg r7 (fun b hb h0 j hj => c4 _ (hlive b hb h0) j hj) (fun b hb h0 => (z_rp_ch b1.1.2.1 b1.2.2.1 c1 b1.2.1 (hlive b hb h0)).2.2.2)
  refine ⟨hO, hYR, ?_, ?_, ?_, ?_, ?_, ?_, ?_⟩
  · rw [c9 3 (by decide) (by decide) (by decide) (by decide)]; exact b3
  · rw [c9 5 (by decide) (by decide) (by decide) (by decide)]; exact b4
  · rw [c9 7 (by decide) (by decide) (by decide) (by decide), r5]; exact b5
  · rw [c9 8 (by decide) (by decide) (by decide) (by decide), r10]; exact b6
  · rw [c6, r9, b7]
  · rw [c7, r6, b8]
  · rw [c8, r11, b9, r8]
end ZBARN
