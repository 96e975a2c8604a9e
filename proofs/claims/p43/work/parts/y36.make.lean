/-! MAKING, on both sides -/
section ZMAKE2
variable {h h' : q_H} {s c : Nat} {ν : Nat → Nat} {H m hf : Nat} {hL : List Nat} {pn mp bn ly pl sz ag rc ld lo lr hk rw st sh sw sp ss sr sa sd : m_Rr} {hl ll : List Nat} {hkL : List (Option Nat)}
theorem z_B_sum (hR : m_R H m hf hL bn ly pl sz ag rc ld lo lr hk rw st sh sw sp ss sr sa sd) (hB : z_B h s ν H m hf hL pn bn ly pl sz ag rc ld hk hl ll hkL) : z_sum (fun x => q_I h x 0) hl = bn 8 := by
  obtain ⟨b1, ⟨v1, v2, v34, v5, -⟩, -⟩ := hB
  have hRh := hR.2.2.2.1
  rw [v2, z_sum_tot (sz := sz) hL (fun b hb => (v5 b ((hRh.2.1 b).mp hb).1 (by rw [((hRh.2.1 b).mp hb).2]; decide)).1)]
  exact hRh.2.2.2.2.1.symm
set_option maxHeartbeats 2000000 in
theorem z_B_make {σ : z_St} {y : Int32} (hP : m_Pl H m hf pn mp) (hR : m_R H m hf hL bn ly pl sz ag rc ld lo lr hk rw st sh sw sp ss sr sa sd) (hB : z_B h s ν H m hf hL pn bn ly pl sz ag rc ld hk hl ll hkL) (hc : q_R h s 2 = some c) {i z k : Nat} (hi : i < H) (hs1 : 1 ≤ z) (hs9 : z ≤ 9) (hk3 : k ≤ 3)
    (hσ : σ = z_copy (z_rp h) m (q_I h s 5) hl ll hkL (q_I h) (q_I h s 11)) (hM : z_mkR h h' s c hl ll hkL m i (nI z) k y σ) (li nr nd ro md mq mi : m_Rr) :
    ∃ ok ν' hL' bn' ly' pl' sz' ag' rc' ld' lo' lr' li' nr' nd' hk' rw' ro' md' mq' mi' st' sh' sw' sp' ss' sr' sa' sd' hl' ll' hkL', f_X2_makeBale pn bn ly pl sz ag rc ld lo lr li nr nd hk rw ro (nI i) (nI z) (nI k) = some (ok, bn', ly', pl', sz', ag', rc', ld', lo', lr', li', nr', nd', hk', rw', ro') ∧ f_X14_make md mp mq mi st sh sw sp ss sr sa sd (nI i) (nI z) (nI k) = some (ok, md', mq', mi', st', sh', sw', sp', ss', sr', sa', sd') ∧ m_R H m hf hL' bn' ly' pl' sz' ag' rc' ld' lo' lr' hk' rw' st' sh' sw' sp' ss' sr' sa' sd' ∧ (∀ j, j ≠ 16 → md' j = md j) ∧ (ok = true → ∃ c, c < 128 ∧ hk' i = nI c ∧ sh' i = nI c) ∧ bn' 10 = bn 10 ∧ (bn' 12 = bn 12 ∨ bn' 12 = bn 12 + 1) ∧
      z_B h' s ν' H m hf hL' pn bn' ly' pl' sz' ag' rc' ld' hk' hl' ll' hkL' ∧ y = (if ok = true then 1 else 0) := by
  obtain ⟨p0, p1, p2, p3, p4, p5, p6⟩ := id hP
  obtain ⟨u1, u2, u3, u4⟩ := m_usedH hR
  have h6 := hR.2.2.2.2.2.1.1
  have hsum := z_B_sum hR hB
  have hpl3 : q_I h s 3 = nI hf := hB.2.2.1
  have hfree : f_X2_freePlaces pn bn = some (nI (hf - m_tw (m_w sz) hL)) := by
    unfold f_X2_freePlaces
    rw [p0, u2, m_subI u3]
  have hfree2 : mp 1 - bn 8 = nI (hf - m_tw (m_w sz) hL) := by rw [p1, u2, m_subI u3]
  rcases hM with ⟨m1, m2, m3⟩ | ⟨m1, h1, mC, m4⟩
  · rw [hsum, u2, hpl3, nI_add] at m1
    have fit : m_tw (m_w sz) hL + z ≤ hf := by
      rcases Nat.lt_or_ge hf (m_tw (m_w sz) hL + z) with h | h
      · exact absurd m1 (nI_ge h (by omega))
      · exact h
    obtain ⟨v, v8, a1, a2, a3, a4, a5, a6, a7⟩ := z_B_new hR hB hi hs1 hs9 hk3 fit hc m3
    have hle := nI_le (show z ≤ hf - m_tw (m_w sz) hL by omega) (by omega)
    refine ⟨true, _, _, _, _, _, _, _, _, _, _, _, li, nr, nd, _, _, ro, md, mq, mi, _, _, _, _, _, _, _, _, _, _, _, ?_, ?_, a6, fun _ _ => rfl, fun _ => ⟨v, v8, m_up_s, m_up_s⟩, by rw [m_up_n (by decide), m_up_n (by decide)], Or.inl (by rw [m_up_n (by decide), m_up_n (by decide)]), a7, m2⟩
    · unfold f_X2_makeBale
      rw [hfree, Option.bind_some, if_pos hle, Option.bind_some, if_pos hle, a1, Option.bind_some, if_pos (m_nI_m1 (by omega)), a2, Option.bind_some, a3, Option.bind_some]
    · unfold f_X14_make
      rw [u1, Option.bind_some, hfree2, if_pos hle, Option.bind_some, hfree2, if_pos hle, a4, Option.bind_some, q_ix_nI (show v < 136 by omega) (by decide), Option.bind_some, Option.bind_some, Option.bind_some, Option.bind_some, Option.bind_some, a5, Option.bind_some, q_ix_nI (show i < 6 by omega) (by decide), Option.bind_some]
  · rw [hsum, u2, hpl3, nI_add] at m1
    have hgt0 : hf < m_tw (m_w sz) hL + z := by
      rcases Nat.lt_or_ge hf (m_tw (m_w sz) hL + z) with h | h
      · exact h
      · exact absurd (nI_le h (by omega)) m1
    obtain ⟨x, hL1, bn1, ly1, pl1, ag1, lo1, lr1, li1, nr1, nd1, rw1, md1, mq1, mi1, st1, sw1, sp1, sa1, c1, c2, c3, c4, c5, c6, c7, c8⟩ := z_B_copy hP hR hB hσ mC li nr nd ro md mq mi
    have hgt := nI_ge (show hf - m_tw (m_w sz) hL < z by omega) (by omega)
    obtain ⟨y1, y2, y3, y4⟩ := m_usedH c3
    have hsum1 := z_B_sum c3 c7
    have hc1 : q_R h1 s 2 = some c := (mC.2.2.2.2.2 2 (by decide)).trans hc
    have gfree : f_X2_freePlaces pn bn1 = some (nI (hf - m_tw (m_w sz) hL1)) := by
      unfold f_X2_freePlaces
      rw [p0, y2, m_subI y3]
    have gfree2 : mp 1 - bn1 8 = nI (hf - m_tw (m_w sz) hL1) := by rw [p1, y2, m_subI y3]
    rcases m4 with ⟨m5, m6, m7⟩ | ⟨m5, m6, m7⟩
    · rw [hsum1, y2, hpl3, nI_add] at m5
      have fit2 : m_tw (m_w sz) hL1 + z ≤ hf := by
        rcases Nat.lt_or_ge hf (m_tw (m_w sz) hL1 + z) with h | h
        · exact absurd m5 (nI_ge h (by omega))
        · exact h
      obtain ⟨v, v8, a1, a2, a3, a4, a5, a6, a7⟩ := z_B_new c3 c7 hi hs1 hs9 hk3 fit2 hc1 m7
      have hle := nI_le (show z ≤ hf - m_tw (m_w sz) hL1 by omega) (by omega)
      refine ⟨true, _, _, _, _, _, _, _, _, _, _, _, li1, nr1, nd1, _, _, rw, md1, mq1, mi1, _, _, _, _, _, _, _, _, _, _, _, ?_, ?_, a6, c4, fun _ => ⟨v, v8, m_up_s, m_up_s⟩, by rw [m_up_n (by decide), m_up_n (by decide)]; exact c5, Or.inr (by rw [m_up_n (by decide), m_up_n (by decide)]; exact c6), a7, m6⟩
      · unfold f_X2_makeBale
        rw [hfree, Option.bind_some, if_neg hgt, c1, Option.bind_some, gfree, Option.bind_some, if_pos hle, a1, Option.bind_some, if_pos (m_nI_m1 (by omega)), a2, Option.bind_some, a3, Option.bind_some]
      · unfold f_X14_make
        rw [u1, Option.bind_some, hfree2, if_neg hgt, c2, Option.bind_some, y1, Option.bind_some, gfree2, if_pos hle, a4, Option.bind_some, q_ix_nI (show v < 136 by omega) (by decide), Option.bind_some, Option.bind_some, Option.bind_some, Option.bind_some, Option.bind_some, a5, Option.bind_some, q_ix_nI (show i < 6 by omega) (by decide), Option.bind_some]
    · rw [hsum1, y2, hpl3, nI_add] at m5
      have hgt20 : hf < m_tw (m_w sz) hL1 + z := by
        rcases Nat.lt_or_ge hf (m_tw (m_w sz) hL1 + z) with h | h
        · exact h
        · exact absurd (nI_le h (by omega)) m5
      have hgt2 := nI_ge (show hf - m_tw (m_w sz) hL1 < z by omega) (by omega)
      subst m7
      refine ⟨false, ν, hL1, bn1, ly1, pl1, sz, ag1, rc, ld, lo1, lr1, li1, nr1, nd1, hk, rw1, rw, md1, mq1, mi1, st1, sh, sw1, sp1, ss, sr, sa1, sd, _, _, _, ?_, ?_, c3, c4, fun h => absurd h (by decide), c5, Or.inr c6, c7, m6⟩
      · unfold f_X2_makeBale
        rw [hfree, Option.bind_some, if_neg hgt, c1, Option.bind_some, gfree, Option.bind_some, if_neg hgt2]
      · unfold f_X14_make
        rw [u1, Option.bind_some, hfree2, if_neg hgt, c2, Option.bind_some, y1, Option.bind_some, gfree2, if_neg hgt2]
end ZMAKE2
