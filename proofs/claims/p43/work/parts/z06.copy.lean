/-! A COPYING OF THE CLASS, by numbers of bales alone -/
def lc_o (v : Int32) : Option Nat := if v = -1 then none else some v.toNatClampNeg
def lc_hk (H : Nat) (hk : m_Rr) : List (Option Nat) := (List.range H).map (fun i => lc_o (hk i))
def lc_rp (rc ld : m_Rr) (b : Nat) : List (Option Nat) := (List.range (m_w rc b)).map (fun r => lc_o (ld (b * 3 + r)))
def lc_ll (ly : m_Rr) : List Nat := (List.range 128).filter (fun b => decide (ly b = 2))
def lc_f (ly pl sz ag : m_Rr) (b j : Nat) : Int32 := if j = 0 then sz b else if j = 1 then ag b else if j = 2 then pl b else if ly b = 2 then 1 else 0
/-- how many bales -/
def lc_nb (hL : List Nat) (ly : m_Rr) : Nat := hL.length + (lc_ll ly).length
section LCCOPY
variable {H m hf : Nat} {hL : List Nat} {pn mp bn ly pl sz ag rc ld lo lr hk rw st sh sw sp ss sr sa sd : m_Rr}
theorem lc_o_nI {c : Nat} (hc : c < 2147483648) : lc_o (nI c) = some c := by
  unfold lc_o
  rw [if_neg (m_nI_m1 hc), nI_clamp hc]
theorem lc_o_m1 : lc_o (-1) = none := if_pos rfl
theorem lc_ll_mem {b : Nat} : b ∈ lc_ll ly ↔ b < 128 ∧ ly b = 2 := by
  unfold lc_ll
  rw [List.mem_filter, List.mem_range, decide_eq_true_eq]
theorem lc_ll_nd : (lc_ll ly).Nodup := List.nodup_range.filter _
theorem lc_YR (hR : m_R H m hf hL bn ly pl sz ag rc ld lo lr hk rw st sh sw sp ss sr sa sd) : z_YR (fun b => b) H hL bn ly pl sz ag rc ld hk hL (lc_ll ly) (lc_hk H hk) (lc_f ly pl sz ag) (lc_rp rc ld) (bn 13) := by
  obtain ⟨⟨hE, hZ⟩, ⟨hg1, hg2⟩, hv, hRh, ⟨hLf, hlo1, hlo2⟩, hK, hB⟩ := hR
  refine ⟨fun b c _ _ _ _ e => e, (List.map_id' hL).symm, ⟨lc_ll_nd, fun x => ?_⟩, fun b hb h0 => ⟨rfl, rfl, rfl, rfl⟩, fun b hb h0 => ?_, ⟨by unfold lc_hk; rw [List.length_map, List.length_range], fun i hi => ?_⟩, rfl⟩
  · rw [lc_ll_mem]
    constructor
    · exact fun h => ⟨x, h.1, h.2, rfl⟩
    · rintro ⟨b, h1, h2, rfl⟩; exact ⟨h1, h2⟩
  · obtain ⟨k, k1, k2, k3⟩ := hg1 b hb
    have hw : m_w rc b = k := m_w_nI k2 (by omega)
    refine ⟨k, k1, k2, by unfold lc_rp; rw [List.length_map, List.length_range, hw], fun r hr => ?_⟩
    have e : (lc_rp rc ld b)[r]? = some (lc_o (ld (b * 3 + r))) := by
      unfold lc_rp
      rw [List.getElem?_map, List.getElem?_range (by rw [hw]; exact hr)]; rfl
    rw [e]
    rcases (k3 r hr).2 with h | ⟨c, c1, c2, c3⟩
    · exact Or.inl ⟨h, by rw [h, lc_o_m1]⟩
    · exact Or.inr ⟨c, c1, c3 h0, c2, by rw [c2, lc_o_nI (by omega)]⟩
  · have h6 := hK.1
    have e : (lc_hk H hk)[i]? = some (lc_o (hk i)) := by
      unfold lc_hk
      rw [List.getElem?_map, List.getElem?_range hi]; rfl
    rw [e]
    rcases ((hK.2 i (by omega)).1 hi).2 with h | ⟨c, ⟨c1, c2⟩, c3⟩
    · exact Or.inl ⟨h, by rw [h, lc_o_m1]⟩
    · exact Or.inr ⟨c, c1, c2, c3, by rw [c3, lc_o_nI (by omega)]⟩
theorem lc_lo2 (hR : m_R H m hf hL bn ly pl sz ag rc ld lo lr hk rw st sh sw sp ss sr sa sd) : lo 2 = nI (lc_ll ly).length := by
  obtain ⟨⟨hE, hZ⟩, -, -, -, ⟨-, -, hlo2⟩, -⟩ := hR
  rw [hlo2]
  refine z_card (ν := fun b => b) lc_ll_nd (fun x => ?_) (fun b c _ _ _ _ e => e)
  rw [lc_ll_mem]
  constructor
  · exact fun h => ⟨x, by omega, (hE x h.1).1.trans h.2, rfl⟩
  · rintro ⟨b, h1, h2, h9⟩
    have h9 : x = b := h9
    rw [h9]
    rcases Nat.lt_or_ge b 128 with h3 | h3
    · exact ⟨h3, (hE b h3).1.symm.trans h2⟩
    · rw [hZ b h3 h1] at h2; exact absurd h2 (by decide)
theorem lc_b7 (hR : m_R H m hf hL bn ly pl sz ag rc ld lo lr hk rw st sh sw sp ss sr sa sd) : bn 7 = nI hL.length := hR.2.2.2.1.2.2.2.1
/-- a bale lies in the half or in the loft -/
theorem lc_mem (hR : m_R H m hf hL bn ly pl sz ag rc ld lo lr hk rw st sh sw sp ss sr sa sd) {b : Nat} : b ∈ hL ++ lc_ll ly ↔ b < 128 ∧ ¬ ly b = 0 := by
  obtain ⟨-, -, hv, ⟨hnd, hmem, -⟩, -⟩ := hR
  rw [List.mem_append, lc_ll_mem, hmem]
  constructor
  · rintro (h | h)
    · exact ⟨h.1, by rw [h.2]; decide⟩
    · exact ⟨h.1, by rw [h.2]; decide⟩
  · intro h
    rcases (hv b h.1).1 with e | e | e
    · exact absurd e h.2
    · exact Or.inl ⟨h.1, e⟩
    · exact Or.inr ⟨h.1, e⟩
theorem lc_nd (hR : m_R H m hf hL bn ly pl sz ag rc ld lo lr hk rw st sh sw sp ss sr sa sd) : (hL ++ lc_ll ly).Nodup := by
  obtain ⟨-, -, hv, ⟨hnd, hmem, -⟩, -⟩ := hR
  refine List.nodup_append.mpr ⟨hnd, lc_ll_nd, fun x hx y hy e => ?_⟩
  have h1 := ((hmem x).mp hx).2
  have h2 := (lc_ll_mem.mp hy).2
  rw [e, h2] at h1
  exact absurd h1 (by decide)
theorem lc_nb_le (hR : m_R H m hf hL bn ly pl sz ag rc ld lo lr hk rw st sh sw sp ss sr sa sd) {l : List Nat} (hl : l.Nodup) (h : ∀ x ∈ l, x < 128 ∧ ¬ ly x = 0) : l.length ≤ lc_nb hL ly := by
  have := z_len l (hL ++ lc_ll ly) hl (fun x hx => (lc_mem hR).mpr (h x hx))
  rwa [List.length_append] at this
theorem lc_nb_128 (hR : m_R H m hf hL bn ly pl sz ag rc ld lo lr hk rw st sh sw sp ss sr sa sd) : lc_nb hL ly ≤ 128 := by
  have := m_pig 128 (hL ++ lc_ll ly) (lc_nd hR) (fun x hx => ((lc_mem hR).mp hx).1)
  rwa [List.length_append] at this
/-- what a copying does: x are gone -/
def lc_Cq (hL hL' : List Nat) (bn bn' ly ly' ag ag' sz : m_Rr) (x : Int32) : Prop :=
  (bn' 10 = bn 10 ∧ bn' 12 = bn 12 + 1 ∧ bn' 9 = 1 - bn 9 ∧ bn' 11 = bn 11 ∧ bn' 14 = bn 14 + x) ∧
  (∃ gn, x = nI gn ∧ gn ≤ hL.length ∧ lc_nb hL' ly' + gn = lc_nb hL ly) ∧
  ((lc_ll ly).length ≤ (lc_ll ly').length ∧ bn' 13 = bn 13 + nI ((lc_ll ly').length - (lc_ll ly).length)) ∧
  (∀ b, b < 128 → ¬ ly' b = 0 → (ly b = 2 ∧ ly' b = 2 ∧ ag' b = ag b) ∨ (ly b = 1 ∧ ((ly' b = 2 ∧ ag' b = ag b) ∨ (ly' b = 1 ∧ ag' b = ag b + 1)))) ∧
  m_tw (m_w sz) hL' ≤ m_tw (m_w sz) hL
theorem lc_copy (hP : m_Pl H m hf pn mp) (hR : m_R H m hf hL bn ly pl sz ag rc ld lo lr hk rw st sh sw sp ss sr sa sd) (li nr nd ro md mq mi : m_Rr) :
    ∃ x hL' bn' ly' pl' ag' lo' lr' li' nr' nd' rw' md' mq' mi' st' sw' sp' sa', f_X2_copyHalf pn bn ly pl sz ag rc ld lo lr li nr nd hk rw ro = some (x, bn', ly', pl', ag', lo', lr', li', nr', nd', rw', rw) ∧ f_X14_copyAll md mp mq mi st sh sw sp ss sr sa sd = some (x, md', mq', mi', st', sw', sp', sa') ∧ m_R H m hf hL' bn' ly' pl' sz ag' rc ld lo' lr' hk rw' st' sh sw' sp' ss sr sa' sd ∧ lc_Cq hL hL' bn bn' ly ly' ag ag' sz x ∧
      ∃ tk : List Nat, tk.Nodup ∧ (∀ x ∈ tk, x ∈ hL) ∧ x = nI (hL.length - tk.length) ∧ tk.length ≤ hL.length ∧ lc_nb hL' ly' = tk.length + (lc_ll ly).length ∧ ∀ C : Nat → Prop, (∀ x, some x ∈ lc_hk H hk → C x) → (∀ y ∈ lc_ll ly, ∀ x, some x ∈ lc_rp rc ld y → C x) → (∀ y, C y → ∀ x, some x ∈ lc_rp rc ld y → C x) → ∀ x ∈ tk, C x := by
  obtain ⟨σ, hσ⟩ : ∃ σ, σ = z_copy (lc_rp rc ld) m (pn 2) hL (lc_ll ly) (lc_hk H hk) (lc_f ly pl sz ag) (bn 13) := ⟨_, rfl⟩
  have hYR := lc_YR hR
  obtain ⟨x, hL', bn', ly', pl', ag', lo', lr', li', nr', nd', rw', md', mq', mi', st', sw', sp', sa', r1, r2, r3, r4, r5, r6, r7, r8, r9, r10, r11⟩ := z_copyL hP hR hYR hσ li nr nd ro md mq mi
  have hP1 : lc_P (lc_ll ly) (lc_f ly pl sz ag) (bn 13) σ := by rw [hσ]; exact lc_P_copy
  have hI0 : z_Iv (fun x => x ∈ hL ++ lc_ll ly) m hL ([], lc_ll ly, [], lc_f ly pl sz ag, bn 13) := by
    obtain ⟨⟨hE, hZ⟩, -, hv, ⟨hnd, hmem, -⟩, ⟨hLf, -, -⟩, -⟩ := id hR
    have hm64 := hLf.1
    refine ⟨⟨fun x hx => (by cases hx), List.nodup_nil⟩, ⟨fun x hx => ⟨List.mem_append_right _ hx, Or.inr (fun ho => ?_)⟩, lc_ll_nd⟩, ⟨fun x hx => (by cases hx), List.nodup_nil⟩, fun x hx => List.mem_append_left _ hx, fun x hx => ?_, fun x hx => ?_⟩
    · have h1 := ((hmem x).mp ho).2
      rw [(lc_ll_mem.mp hx).2] at h1
      exact absurd h1 (by decide)
    · obtain ⟨x1, x2⟩ := lc_ll_mem.mp hx
      obtain ⟨p, z, y1, y2, y3, y4, y5⟩ := hLf.2.1 x (by omega) ((hE x x1).1.trans x2)
      exact ⟨p, z, (hE x x1).2.1.symm.trans y1, (hE x x1).2.2.1.symm.trans y2, by omega⟩
    · obtain ⟨x1, x2⟩ := (lc_mem hR).mp hx
      obtain ⟨z, z1, z2, z3⟩ := (hv x x1).2 x2
      exact ⟨z, by omega, by omega, z3⟩
  have hm64 : m < 65536 := by have := hR.2.2.2.2.1.1.1; omega
  obtain ⟨hI, hw⟩ := z_Iv_copy (rp := lc_rp rc ld) (prom := pn 2) (hk := lc_hk H hk) hI0 hm64
  rw [← hσ] at hI hw
  obtain ⟨⟨i1a, i1b⟩, ⟨i2a, i2b⟩, ⟨i3a, i3b⟩, i4, i5, i6⟩ := hI
  obtain ⟨⟨c1, c2, c3⟩, c4⟩ := hP1
  obtain ⟨v1, v2, ⟨v3, v4⟩, v5, v6, v78, v9⟩ := r7
  have v2 : σ.1 = hL' := v2.trans (List.map_id' hL')
  have hmem := hR.2.2.2.1.2.1
  have hmem' := r3.2.2.2.1.2.1
  have hll' : σ.2.1.length = (lc_ll ly').length := by
    refine Nat.le_antisymm (z_len _ _ v3 (fun x hx => ?_)) (z_len _ _ lc_ll_nd (fun x hx => ?_))
    · obtain ⟨b, b1, b2, b3⟩ := (v4 x).mp hx
      have b3 : x = b := b3
      subst b3
      exact lc_ll_mem.mpr ⟨b1, b2⟩
    · obtain ⟨b1, b2⟩ := lc_ll_mem.mp hx
      exact (v4 x).mpr ⟨x, b1, b2, rfl⟩
  have htl : σ.2.2.1.length ≤ hL.length := z_len _ _ i3b i3a
  have hlL := lc_nb_128 hR
  have h7 : hL.length ≤ 128 := by unfold lc_nb at hlL; omega
  have hx : x = nI (hL.length - σ.2.2.1.length) := by rw [r8, m_subI htl]
  have hnb : lc_nb hL' ly' = σ.2.2.1.length + (lc_ll ly).length := by unfold lc_nb; rw [← v2, ← hll']; exact c1
  have hsub : ∀ b ∈ hL', b ∈ hL := fun b hb => i3a b (i1a b (by rw [v2]; exact hb))
  refine ⟨x, hL', bn', ly', pl', ag', lo', lr', li', nr', nd', rw', md', mq', mi', st', sw', sp', sa', r1, r2, r3, ⟨⟨r5, r6, r9, r10, r11⟩, ⟨hL.length - σ.2.2.1.length, hx, Nat.sub_le _ _, ?_⟩, ⟨?_, ?_⟩, fun b hb h0 => ?_, m_sub r3.2.2.2.1.1 hsub⟩, σ.2.2.1, i3b, i3a, hx, htl, hnb, fun C h1 h2 h3 => ?_⟩
  · rw [hnb]; unfold lc_nb; omega
  · rw [← hll']; exact c2
  · rw [← hll']; exact v9.symm.trans c3
  · have e1 : σ.2.2.2.1 b 1 = ag' b := (v5 b hb h0).2.1
    have ec : ∀ e2 : b ∈ σ.2.2.1, b < 128 ∧ ly b = 1 := fun e2 => (hmem b).mp (i3a b e2)
    rcases (r3.2.2.1 b hb).1 with e | e | e
    · exact absurd e h0
    · have hb1 : b ∈ σ.1 := by rw [v2]; exact (hmem' b).mpr ⟨hb, e⟩
      have hbt := i1a b hb1
      refine Or.inr ⟨(ec hbt).2, Or.inr ⟨e, ?_⟩⟩
      rcases (c4 b).2 hbt with ⟨d1, d2⟩ | ⟨d1, d2⟩
      · rw [← e1, d2]; rfl
      · exact absurd d1 (hw b hb1)
    · have hb2 : b ∈ σ.2.1 := (v4 b).mpr ⟨b, hb, e, rfl⟩
      obtain ⟨u1, u2⟩ := i2a b hb2
      rcases Classical.em (b ∈ σ.2.2.1) with hbt | hbt
      · refine Or.inr ⟨(ec hbt).2, Or.inl ⟨e, ?_⟩⟩
        rcases (c4 b).2 hbt with ⟨d1, d2⟩ | ⟨d1, d2⟩
        · exact absurd hb2 (hw b d1)
        · rw [← e1, d2]; rfl
      · have hbo : b ∉ hL := u2.resolve_left hbt
        refine Or.inl ⟨?_, e, ?_⟩
        · rcases List.mem_append.mp u1 with h | h
          · exact absurd h hbo
          · exact (lc_ll_mem.mp h).2
        · rw [← e1, (c4 b).1 hbt]; rfl
  · rw [hσ]; exact lc_copy_C h1 h2 h3
end LCCOPY
