/-! MATH: an empty barn, on both sides -/
section
theorem m_sm_0 {p : Nat → Prop} [DecidablePred p] {f : Nat → Int32} : ∀ {n : Nat}, (∀ i, i < n → ¬ p i) → m_sm p f n = 0 := by
  intro n
  induction n with
  | zero => intro _; rfl
  | succ n ih => intro h; rw [m_sm, ih (fun i hi => h i (by omega)), if_neg (h n (by omega))]; rfl
theorem m_beg20 : ∀ (g k fu : Nat) (sh : m_Rr), k + g = 6 → g < fu → (∀ j, j < k → sh j = -1) → ∃ sh', f_X14_begin_L20 fu sh (nI k) = some sh' ∧ ∀ j, j < 6 → sh' j = -1 := by
  intro g
  induction g with
  | zero =>
    intro k fu sh hk hfu h
    obtain ⟨fu, rfl⟩ : ∃ q, fu = q + 1 := ⟨fu - 1, by omega⟩
    obtain rfl : k = 6 := by omega
    rw [f_X14_begin_L20, if_pos (by decide)]
    exact ⟨sh, rfl, h⟩
  | succ g ih =>
    intro k fu sh hk hfu h
    obtain ⟨fu, rfl⟩ : ∃ q, fu = q + 1 := ⟨fu - 1, by omega⟩
    rw [f_X14_begin_L20, if_neg (show ¬ (6 : Int32) ≤ nI k from nI_ge (b := 6) (by omega) (by decide)), q_ix_nI (show k < 6 by omega) (by decide), Option.bind_some, nI_1]
    refine ih (k + 1) fu _ (by omega) (by omega) (fun j hj => ?_)
    by_cases e : j = k
    · rw [e, m_up_s]
    · rw [m_up_n e]; exact h j (by omega)
theorem m_beg32 : ∀ (g k fu : Nat) (sw : m_Rr), k + g = 136 → g < fu → (∀ j, j < k → sw j = 0) → ∃ sw', f_X14_begin_L32 fu sw (nI k) = some sw' ∧ ∀ j, j < 136 → sw' j = 0 := by
  intro g
  induction g with
  | zero =>
    intro k fu sw hk hfu h
    obtain ⟨fu, rfl⟩ : ∃ q, fu = q + 1 := ⟨fu - 1, by omega⟩
    obtain rfl : k = 136 := by omega
    rw [f_X14_begin_L32, if_pos (by decide)]
    exact ⟨sw, rfl, h⟩
  | succ g ih =>
    intro k fu sw hk hfu h
    obtain ⟨fu, rfl⟩ : ∃ q, fu = q + 1 := ⟨fu - 1, by omega⟩
    rw [f_X14_begin_L32, if_neg (show ¬ (136 : Int32) ≤ nI k from nI_ge (b := 136) (by omega) (by decide)), q_ix_nI (show k < 136 by omega) (by decide), Option.bind_some, nI_1]
    refine ih (k + 1) fu _ (by omega) (by omega) (fun j hj => ?_)
    by_cases e : j = k
    · rw [e, m_up_s]
    · rw [m_up_n e]; exact h j (by omega)
/-- rows of an empty barn -/
theorem m_R_0 {H m hf : Nat} {bn ly pl sz ag rc ld lo lr hk rw st sh sw sp ss sr sa sd : m_Rr} (hH : H ≤ 6) (hm : m ≤ 64) (hh : hf ≤ 64) (h1 : ∀ b, b < 128 → ly b = 0) (h2 : ∀ b, b < 136 → sw b = 0) (h3 : ∀ b, b < 128 → sp b = pl b ∧ ss b = sz b ∧ sa b = ag b ∧ sr b = rc b) (h4 : m_Rg ly rc ld sd) (h5 : bn 7 = 0) (h6 : bn 8 = 0) (h7 : m_Rb bn st) (h8 : lo 1 = nI m) (h9 : lo 2 = 0) (h10 : ∀ q, q < 64 → lr q = -1) (h11 : ∀ i, i < 6 → hk i = -1) (h12 : ∀ i, i < 6 → sh i = -1) : m_R H m hf [] bn ly pl sz ag rc ld lo lr hk rw st sh sw sp ss sr sa sd := by
  refine ⟨⟨fun b hb => ⟨(h2 b (by omega)).trans (h1 b hb).symm, h3 b hb⟩, fun b hb hb' => h2 b hb'⟩, h4, fun b hb => ⟨Or.inl (h1 b hb), fun h => absurd (h1 b hb) h⟩, ⟨List.nodup_nil, fun b => ⟨fun h => absurd h List.not_mem_nil, fun h => ?_⟩, fun i b h => by simp at h, h5, h6, Nat.zero_le _, hh⟩, ⟨⟨hm, fun b hb h => ?_, fun q hq => Or.inl (h10 q (by omega))⟩, h8, ?_⟩, ⟨hH, fun i hi => ⟨fun _ => ⟨(h11 i hi).trans (h12 i hi).symm, Or.inl (h11 i hi)⟩, fun _ => h11 i hi⟩⟩, h7⟩
  · have := h1 b h.1
    rw [h.2] at this
    exact absurd this (by decide)
  · have := h2 b hb
    rw [h] at this
    exact absurd this (by decide)
  · rw [h9, m_sm_0 (fun i hi h => ?_)]
    have := h2 i hi
    rw [h] at this
    exact absurd this (by decide)
theorem m_begin {H m hf H0 m0 hf0 : Nat} {h0 : List Nat} {pn mp bn ly pl sz ag rc ld lo lr hk rw st sh sw sp ss sr sa sd : m_Rr} (hP : m_Pl H m hf pn mp) (hH : H ≤ 6) (hm : m ≤ 64) (hh : hf ≤ 64) (hR : m_R H0 m0 hf0 h0 bn ly pl sz ag rc ld lo lr hk rw st sh sw sp ss sr sa sd) :
    ∃ bn' ly' lo' lr' hk' st' sh' sw', f_X2_begin pn bn ly lo lr hk = some (bn', ly', lo', lr', hk') ∧ f_X14_begin st sh sw = some (st', sh', sw') ∧ m_R H m hf [] bn' ly' pl sz ag rc ld lo' lr' hk' rw st' sh' sw' sp ss sr sa sd ∧ m_Cn 0 bn' := by
  obtain ⟨sh', s1, s2⟩ := m_beg20 6 0 4096 sh (by omega) (by omega) (fun j hj => absurd hj (by omega))
  obtain ⟨sw', s3, s4⟩ := m_beg32 136 0 4096 sw (by omega) (by omega) (fun j hj => absurd hj (by omega))
  obtain ⟨p0, p1, p2, p3, p4, p5, p6⟩ := hP
  obtain ⟨⟨re1, -⟩, ⟨rg1, rg2⟩, -⟩ := hR
  have e1 : f_X14_begin st sh sw = some (q_up (q_up (q_up (q_up (q_up (q_up st 0 0) 1 0) 2 0) 3 0) 4 0) 5 0, sh', sw') := by
    unfold f_X14_begin
    rw [show f_X14_begin_L20 4096 sh 0 = some sh' from s1, show f_X14_begin_L32 4096 sw 0 = some sw' from s3]; rfl
  have mx : q_min (q_max (pn 1) 0) 64 = nI m := by
    rw [p2]
    unfold q_max q_min
    rw [if_neg (nI_pos (by omega)), if_neg (show ¬ (64 : Int32) < nI m from m_nlt (a := 64) (b := m) hm (by decide))]
  have fil : ∀ {n : Nat} {x : Int32} {f : m_Rr} {j : Nat}, j < n → q_fil n x f j = x := fun h => q_fil_lt h
  refine ⟨_, _, _, _, _, _, _, _, rfl, e1, m_R_0 hH hm hh (fun b hb => fil hb) s4 (fun b hb => (re1 b hb).2) ⟨fun b hb => ?_, rg2⟩ ?_ ?_ ?_ ?_ ?_ (fun q hq => fil hq) (fun i hi => fil hi) s2, 0, 0, ?_, ?_, Nat.le_refl _, Nat.le_refl _⟩
  · obtain ⟨k, k1, k2, k3⟩ := rg1 b hb
    refine ⟨k, k1, k2, fun r hr => ⟨(k3 r hr).1, ?_⟩⟩
    rcases (k3 r hr).2 with e | ⟨c, c1, c2, c3⟩
    · exact Or.inl e
    · exact Or.inr ⟨c, c1, c2, fun h => absurd (fil hb) h⟩
  · rfl
  · rfl
  · exact ⟨rfl, rfl, rfl, rfl, rfl, rfl⟩
  · show q_up (q_up lo 1 (q_min (q_max (pn 1) 0) 64)) 2 0 1 = _
    exact (m_up_n (by decide)).trans (m_up_s.trans mx)
  · show q_up (q_up lo 1 (q_min (q_max (pn 1) 0) 64)) 2 0 2 = _
    exact m_up_s
  · rfl
  · rfl
end
