/-! WHAT IS REACHED in the class, by a list; useless bales; a sweep -/
def lc_rch (H : Nat) (rc ld hk : m_Rr) : List Nat := z_bfs (lc_rp rc ld) 129 0 (z_adds [] (lc_hk H hk))
section LCREACH
variable {H m hf : Nat} {hL : List Nat} {pn mp bn ly pl sz ag rc ld lo lr hk rw st sh sw sp ss sr sa sd : m_Rr}
theorem lc_cl (hR : m_R H m hf hL bn ly pl sz ag rc ld lo lr hk rw st sh sw sp ss sr sa sd) : (∀ x, (x < 128 ∧ ¬ ly x = 0) → ∀ y, some y ∈ lc_rp rc ld x → (y < 128 ∧ ¬ ly y = 0)) ∧ ∀ x, some x ∈ lc_hk H hk → (x < 128 ∧ ¬ ly x = 0) := by
  obtain ⟨c1, c2⟩ := z_YR_cl (lc_YR hR) hR.2.2.1 hR.2.2.2.1.2.1
  exact ⟨fun x hx y hy => (lc_mem hR).mp (c1 x ((lc_mem hR).mpr hx) y hy), fun x hx => (lc_mem hR).mp (c2 x hx)⟩
theorem lc_rch_of (hR : m_R H m hf hL bn ly pl sz ag rc ld lo lr hk rw st sh sw sp ss sr sa sd) : (lc_rch H rc ld hk).Nodup ∧ (∀ x ∈ lc_rch H rc ld hk, x < 128 ∧ ¬ ly x = 0) ∧ (∀ x, some x ∈ lc_hk H hk → x ∈ lc_rch H rc ld hk) ∧ (∀ x ∈ lc_rch H rc ld hk, ∀ y, some y ∈ lc_rp rc ld x → y ∈ lc_rch H rc ld hk) := by
  obtain ⟨c1, c2⟩ := lc_cl hR
  obtain ⟨a1, a2⟩ := z_adds_U (U := fun x => x < 128 ∧ ¬ ly x = 0) (os := lc_hk H hk) (l := []) List.nodup_nil (fun x hx => (by cases hx)) c2
  obtain ⟨b1, b2⟩ := z_bfs_U (U := fun x => x < 128 ∧ ¬ ly x = 0) c1 129 0 _ a1 a2
  obtain ⟨d1, d2⟩ := lc_bfs_cl (U := fun x => x < 128 ∧ ¬ ly x = 0) (B := 128) c1 (fun l h1 h2 => m_pig 128 l h1 (fun x hx => (h2 x hx).1)) 129 0 (z_adds [] (lc_hk H hk)) rfl (Nat.zero_le _) a1 a2 (fun j x hj => absurd hj (Nat.not_lt_zero _))
  exact ⟨b1, b2, fun x hx => d1 x ((lc_adds_sub _ _).2 x hx), d2⟩
/-- what holds of hooks and is handed on by ropes holds of all that is reached -/
theorem lc_rch_ind {C : Nat → Prop} (h1 : ∀ x, some x ∈ lc_hk H hk → C x) (h2 : ∀ y, C y → ∀ x, some x ∈ lc_rp rc ld y → C x) : ∀ x ∈ lc_rch H rc ld hk, C x := by
  obtain ⟨a1, a2⟩ := z_adds_U (U := C) (os := lc_hk H hk) (l := []) List.nodup_nil (fun x hx => (by cases hx)) h1
  exact (z_bfs_U (U := C) h2 129 0 _ a1 a2).2
theorem lc_find (hR : m_R H m hf hL bn ly pl sz ag rc ld lo lr hk rw st sh sw sp ss sr sa sd) (li nr nd : m_Rr) : ∃ li' nr' nd' md' mq' mi', f_X2_findReached rc ld li nr nd hk = some (li', nr', nd') ∧ m_Q (lc_rch H rc ld hk) li' nr' nd' md' mq' mi' := by
  obtain ⟨v1, v2, v34, v5, v6, ⟨v7, v8⟩, v9⟩ := lc_YR hR
  obtain ⟨l, li', nr', nd', md', mq', mi', e1, e2, e3, e4, e5⟩ := z_reachL (B := 128) v1 v6 hR.2.2.2.2.2.1 v7 v8 (fun l h1 h2 => m_pig 128 l h1 (fun x hx => (h2 x hx).1)) li nr nd
  have e5 : l = lc_rch H rc ld hk := (List.map_id' l).symm.trans e5
  rw [e5] at e2
  exact ⟨li', nr', nd', md', mq', mi', e1, e2⟩
theorem lc_useless (hR : m_R H m hf hL bn ly pl sz ag rc ld lo lr hk rw st sh sw sp ss sr sa sd) (li nr nd : m_Rr) : ∃ u li' nr' nd', f_X2_uselessCount bn rc ld lo li nr nd hk = some (nI u, li', nr', nd') ∧ u + (lc_rch H rc ld hk).length = lc_nb hL ly := by
  obtain ⟨li', nr', nd', md', mq', mi', e1, e2⟩ := lc_find hR li nr nd
  obtain ⟨r1, r2, -, -⟩ := lc_rch_of hR
  have hle := lc_nb_le hR r1 r2
  refine ⟨lc_nb hL ly - (lc_rch H rc ld hk).length, li', nr', nd', ?_, by omega⟩
  unfold f_X2_uselessCount f_X2_baleCount f_X4_length
  rw [e1, Option.bind_some, Option.bind_some, Option.bind_some, lc_b7 hR, lc_lo2 hR, nI_add]
  dsimp only
  rw [e2.1]
  show some (nI (lc_nb hL ly) - _, _) = _
  rw [m_subI hle]
theorem lc_sweep (hP : m_Pl H m hf pn mp) (hR : m_R H m hf hL bn ly pl sz ag rc ld lo lr hk rw st sh sw sp ss sr sa sd) (li nr nd md mq mi : m_Rr) :
    ∃ x bn' ly' ld' lo' lr' li' nr' nd' md' mq' mi' st' sw' sd', f_X2_sweep pn bn ly pl sz rc ld lo lr li nr nd hk = some (x, bn', ly', ld', lo', lr', li', nr', nd') ∧ f_X14_sweep md mp mq mi st sh sw sr sd = some (x, md', mq', mi', st', sw', sd') ∧ m_R H m hf hL bn' ly' pl sz ag rc ld' lo' lr' hk rw st' sh sw' sp ss sr sa sd' ∧ (∃ sn, sn ≤ 128 ∧ x = nI sn) ∧ (∀ j, j ≠ 14 → bn' j = bn j) ∧ (∀ b, b < 128 → ¬ ly' b = 0 → ly' b = ly b) ∧ ∀ b ∈ lc_ll ly', b ∈ lc_rch H rc ld' hk := by
  obtain ⟨x, bn', ly', ld', lo', lr', li', nr', nd', md', mq', mi', st', sw', sd', r1, r2, r3, r4, r5, r6, l, q1, q2, q3, q4, q5, q6⟩ := z_sweepM hP hR li nr nd md mq mi
  obtain ⟨li2, nr2, nd2, md2, mq2, mi2, e1, e2⟩ := lc_find hR li nr nd
  have e3 := Option.some.inj (q1.symm.trans e1)
  obtain ⟨rfl, rfl, rfl⟩ : li' = li2 ∧ nr' = nr2 ∧ nd' = nd2 := by
    obtain ⟨g1, g2⟩ := Prod.mk.inj e3
    obtain ⟨g2, g3⟩ := Prod.mk.inj g2
    exact ⟨g1, g2, g3⟩
  have hl : ∀ b, b < 128 → (b ∈ l ↔ b ∈ lc_rch H rc ld hk) := fun b hb => (q2.2.2.2.2.2.1 b hb).trans (e2.2.2.2.2.2.1 b hb).symm
  obtain ⟨c1, c2, c3, c4⟩ := lc_rch_of hR
  obtain ⟨d1, d2, d3, d4⟩ := lc_rch_of r3
  have hlive : ∀ b, b < 128 → b ∈ lc_rch H rc ld hk → ly' b = ly b := fun b hb hm => by
    rw [q3 b hb, if_neg (fun h => h.2 ((hl b hb).mpr hm))]
  have hkeep : ∀ b, b < 128 → ¬ ly' b = 0 → ly' b = ly b := fun b hb h0 => by
    rw [q3 b hb] at h0 ⊢
    by_cases c : ly b = 2 ∧ b ∉ l
    · rw [if_pos c] at h0; exact absurd rfl h0
    · rw [if_neg c]
  have hsub : ∀ b ∈ lc_rch H rc ld hk, b ∈ lc_rch H rc ld hk ∧ b ∈ lc_rch H rc ld' hk := by
    refine lc_rch_ind (fun b hb => ⟨c3 b hb, d3 b hb⟩) (fun y hy b hb => ?_)
    have hbr := c4 y hy.1 b hb
    refine ⟨hbr, d4 y hy.2 b ?_⟩
    obtain ⟨hb8, hb0⟩ := c2 b hbr
    have hlb := hlive b hb8 hbr
    unfold lc_rp at hb ⊢
    obtain ⟨r, hr, er⟩ := List.mem_map.mp hb
    refine List.mem_map.mpr ⟨r, hr, ?_⟩
    rw [← er]
    have hld : ld (y * 3 + r) = nI b := by
      unfold lc_o at er
      by_cases em : ld (y * 3 + r) = -1
      · rw [if_pos em] at er; cases er
      · rw [if_neg em] at er
        obtain ⟨k, k1, k2, k3⟩ := hR.2.1.1 y (c2 y hy.1).1
        have hrk : r < k := by rw [← m_w_nI k2 (by omega)]; exact List.mem_range.mp hr
        rcases (k3 r hrk).2 with h | ⟨c, g1, g2, g3⟩
        · exact absurd h em
        · rw [g2, nI_clamp (by omega)] at er
          rw [g2, Option.some.inj er]
    have : ld' (y * 3 + r) = ld (y * 3 + r) := by
      rw [q4]
      refine m_un_n (fun h => ?_)
      rcases h.2.2 with h | ⟨c, g1, g2, g3⟩
      · rw [hld] at h; exact absurd h (m_nI_m1 (by omega))
      · rw [hld] at g2
        obtain rfl := (nI_eq (by omega) (by omega)).mp g2
        rw [hlb] at g3; exact hb0 g3
    rw [this]
  have hll : ∀ b ∈ lc_ll ly', b ∈ lc_ll ly ∧ b ∈ lc_rch H rc ld hk := fun b hb => by
    obtain ⟨b1, b2⟩ := lc_ll_mem.mp hb
    have h0 : ¬ ly' b = 0 := by rw [b2]; decide
    have e := hkeep b b1 h0
    refine ⟨lc_ll_mem.mpr ⟨b1, e.symm.trans b2⟩, ?_⟩
    rcases Classical.em (b ∈ l) with hm | hm
    · exact (hl b b1).mp hm
    · rw [q3 b b1, if_pos ⟨e.symm.trans b2, hm⟩] at h0; exact absurd rfl h0
  refine ⟨x, bn', ly', ld', lo', lr', li', nr', nd', md', mq', mi', st', sw', sd', r1, r2, r3, ⟨(lc_ll ly).length - (lc_ll ly').length, ?_, ?_⟩, fun j hj => by rw [q5, m_up_n hj], hkeep, fun b hb => (hsub b (hll b hb).2).2⟩
  · have := lc_nb_128 hR
    unfold lc_nb at this
    omega
  · have h1 := lc_lo2 hR
    have h2 := lc_lo2 r3
    have h3 := hR.2.2.2.2.1.2.2
    have h4 := r3.2.2.2.2.1.2.2
    have hle : (lc_ll ly').length ≤ (lc_ll ly).length := z_len _ _ lc_ll_nd (fun b hb => (hll b hb).1)
    rw [← h4, ← h3, h1, h2] at q6
    have e : x = nI (lc_ll ly).length - nI (lc_ll ly').length := by rw [← q6, Int32.add_sub_cancel]
    rw [e, m_subI hle]
/-- a copying behind a sweep: just the useless ones are gone, and none is left -/
theorem lc_all (hR : m_R H m hf hL bn ly pl sz ag rc ld lo lr hk rw st sh sw sp ss sr sa sd) (hll : ∀ b ∈ lc_ll ly, b ∈ lc_rch H rc ld hk) {tk : List Nat} (tn : tk.Nodup) (ts : ∀ x ∈ tk, x ∈ hL) (ht : ∀ C : Nat → Prop, (∀ x, some x ∈ lc_hk H hk → C x) → (∀ y ∈ lc_ll ly, ∀ x, some x ∈ lc_rp rc ld y → C x) → (∀ y, C y → ∀ x, some x ∈ lc_rp rc ld y → C x) → ∀ x ∈ tk, C x) : tk.length + (lc_ll ly).length ≤ (lc_rch H rc ld hk).length := by
  obtain ⟨c1, c2, c3, c4⟩ := lc_rch_of hR
  have h1 := ht (fun x => x ∈ lc_rch H rc ld hk) c3 (fun y hy x hx => c4 y (hll y hy) x hx) c4
  have hmem := hR.2.2.2.1.2.1
  have h2 : (tk ++ lc_ll ly).Nodup := List.nodup_append.mpr ⟨tn, lc_ll_nd, fun x hx y hy e => by
    have a1 := ((hmem x).mp (ts x hx)).2
    have a2 := (lc_ll_mem.mp hy).2
    rw [e, a2] at a1
    exact absurd a1 (by decide)⟩
  have h3 := z_len (tk ++ lc_ll ly) (lc_rch H rc ld hk) h2 (fun x hx => (List.mem_append.mp hx).elim (h1 x) (hll x))
  rwa [List.length_append] at h3
end LCREACH
