/-! MATH: ropes to bales that are gone, on both sides; the sweep -/
/-- a rope leads to none, or to one that is gone -/
def m_gx (sw : m_Rr) (v : Int32) : Prop := v = -1 ∨ ∃ c, c < 128 ∧ v = nI c ∧ sw c = 0
/-- the first n ropes, of those of which K speaks, are looked at -/
noncomputable def m_un (K : Nat → Prop) (sw ld : m_Rr) (n : Nat) : m_Rr := fun j => @ite _ (j < n ∧ K j ∧ m_gx sw (ld j)) (Classical.propDecidable _) (-1) (ld j)
theorem m_un_y {K : Nat → Prop} {sw ld : m_Rr} {n j : Nat} (h : j < n ∧ K j ∧ m_gx sw (ld j)) : m_un K sw ld n j = -1 := by unfold m_un; exact if_pos h
theorem m_un_n {K : Nat → Prop} {sw ld : m_Rr} {n j : Nat} (h : ¬ (j < n ∧ K j ∧ m_gx sw (ld j))) : m_un K sw ld n j = ld j := by unfold m_un; exact if_neg h
theorem m_un_0 {K : Nat → Prop} {sw ld : m_Rr} : m_un K sw ld 0 = ld := by funext j; exact m_un_n (fun h => by omega)
theorem m_un_skip {K : Nat → Prop} {sw ld : m_Rr} {n : Nat} (h : ¬ (K n ∧ m_gx sw (ld n))) : m_un K sw ld (n + 1) = m_un K sw ld n := by
  funext j
  by_cases e : j < n ∧ K j ∧ m_gx sw (ld j)
  · rw [m_un_y e, m_un_y ⟨by omega, e.2⟩]
  · rw [m_un_n e]
    refine m_un_n (fun x => e ⟨?_, x.2⟩)
    have : j ≠ n := fun y => h (by rw [← y]; exact x.2)
    omega
theorem m_un_set {K : Nat → Prop} {sw ld : m_Rr} {n : Nat} (h : K n ∧ m_gx sw (ld n)) : q_up (m_un K sw ld n) n (-1) = m_un K sw ld (n + 1) := by
  funext j
  rw [m_up_of]
  by_cases hj : j = n
  · subst hj; rw [if_pos rfl, m_un_y ⟨by omega, h⟩]
  · rw [if_neg hj]
    by_cases e : j < n ∧ K j ∧ m_gx sw (ld j)
    · rw [m_un_y e, m_un_y ⟨by omega, e.2⟩]
    · rw [m_un_n e, m_un_n (fun x => e ⟨by omega, x.2⟩)]
theorem m_un_cell {K : Nat → Prop} {sw ld : m_Rr} {n : Nat} : m_un K sw ld n n = ld n := m_un_n (fun h => by omega)
/-- the ropes that a bale has -/
def m_Kr (rc : m_Rr) (j : Nat) : Prop := ∃ b r k, j = b * 3 + r ∧ r < k ∧ k ≤ 3 ∧ rc b = nI k
theorem m_Kr_iff {rc : m_Rr} {b r k : Nat} (hr : r < 3) (hk : rc b = nI k) (hk3 : k ≤ 3) : m_Kr rc (b * 3 + r) ↔ r < k := by
  constructor
  · rintro ⟨b', r', k', e, h1, h2, h3⟩
    have : b' = b ∧ r' = r := by omega
    obtain ⟨rfl, rfl⟩ := this
    obtain rfl : k = k' := (nI_eq (by omega) (by omega)).mp (hk.symm.trans h3)
    exact h1
  · exact fun h => ⟨b, r, k, rfl, h, hk3, hk⟩
theorem m_unC_in {ly rc ld : m_Rr} {b k : Nat} (hb : b < 128) (hk : rc b = nI k) (hk3 : k ≤ 3) (hl : ∀ r, r < k → ld (b * 3 + r) = -1 ∨ ∃ c, c < 128 ∧ ld (b * 3 + r) = nI c) : ∀ (n r fu : Nat), r + n = k → n < fu → f_X1_untieFromGone_L7 ly rc (nI b) fu (m_un (m_Kr rc) ly ld (b * 3 + r)) (nI r) = some (m_un (m_Kr rc) ly ld (b * 3 + k)) := by
  intro n
  induction n with
  | zero =>
    intro r fu hr hfu
    obtain ⟨fu, rfl⟩ : ∃ z, fu = z + 1 := ⟨fu - 1, by omega⟩
    obtain rfl : r = k := by omega
    rw [f_X1_untieFromGone_L7, m_ropes hb, Option.bind_some, hk, if_pos (nI_le (Nat.le_refl _) (by omega))]
  | succ n ih =>
    intro r fu hr hfu
    obtain ⟨fu, rfl⟩ : ∃ z, fu = z + 1 := ⟨fu - 1, by omega⟩
    have e := ih (r + 1) fu (by omega) (by omega)
    have hK := (m_Kr_iff (rc := rc) (show r < 3 by omega) hk hk3).mpr (show r < k by omega)
    rw [f_X1_untieFromGone_L7, m_ropes hb, Option.bind_some, hk, if_neg (nI_ge (by omega) (by omega)), m_lead hb (by omega) hk hk3, Option.bind_some, if_pos (by omega), m_un_cell, m_setLead hb (by omega) hk hk3, Option.bind_some, if_pos (show r < k by omega), nI_1]
    rcases hl r (by omega) with hm | ⟨c, hc, hm⟩
    · rw [hm, m_isGone1, Option.bind_some, if_neg (by decide), m_un_set ⟨hK, Or.inl hm⟩]
      exact e
    · rw [hm, m_isGone hc, Option.bind_some]
      by_cases hg : ly c = 0
      · rw [if_neg (by rw [m_bz]; simp [hg]), m_un_set ⟨hK, Or.inr ⟨c, hc, hm, hg⟩⟩]
        exact e
      · rw [if_pos (by rw [m_bz]; simp [hg])]
        have h2 : ¬ (m_Kr rc (b * 3 + r) ∧ m_gx ly (ld (b * 3 + r))) := by
          rintro ⟨-, h3 | ⟨c', x1, x2, x3⟩⟩
          · exact m_nI_m1 (by omega) (hm.symm.trans h3)
          · obtain rfl : c' = c := (nI_eq (by omega) (by omega)).mp (x2.symm.trans hm)
            exact hg x3
        have h3 := m_un_skip h2
        rw [show b * 3 + (r + 1) = b * 3 + r + 1 by omega, h3] at e
        exact e
theorem m_un_to {rc ly ld : m_Rr} {b k : Nat} (hk : rc b = nI k) (hk3 : k ≤ 3) : m_un (m_Kr rc) ly ld (b * 3 + k) = m_un (m_Kr rc) ly ld ((b + 1) * 3) := by
  have h : ∀ r, k ≤ r → r < 3 → m_un (m_Kr rc) ly ld (b * 3 + r + 1) = m_un (m_Kr rc) ly ld (b * 3 + r) := fun r h1 h2 => m_un_skip (fun x => by
    have := (m_Kr_iff h2 hk hk3).mp x.1
    omega)
  have h0 := h 0
  have h1 := h 1
  have h2 := h 2
  rw [show (b + 1) * 3 = b * 3 + 2 + 1 by omega]
  have : k = 0 ∨ k = 1 ∨ k = 2 ∨ k = 3 := by omega
  rcases this with rfl | rfl | rfl | rfl
  · rw [h2 (by omega) (by omega), h1 (by omega) (by omega), h0 (by omega) (by omega)]
  · rw [h2 (by omega) (by omega), h1 (by omega) (by omega)]
  · rw [h2 (by omega) (by omega)]
  · rfl
theorem m_unC {ly rc ld : m_Rr} (hg : ∀ b, b < 128 → ∃ k, k ≤ 3 ∧ rc b = nI k ∧ ∀ r, r < k → ld (b * 3 + r) = -1 ∨ ∃ c, c < 128 ∧ ld (b * 3 + r) = nI c) : ∀ (n b fu : Nat), b + n = 128 → n < fu → f_X1_untieFromGone_L2 ly rc fu (m_un (m_Kr rc) ly ld (b * 3)) (nI b) = some (m_un (m_Kr rc) ly ld 384) := by
  intro n
  induction n with
  | zero =>
    intro b fu hb hfu
    obtain ⟨fu, rfl⟩ : ∃ z, fu = z + 1 := ⟨fu - 1, by omega⟩
    obtain rfl : b = 128 := by omega
    rw [f_X1_untieFromGone_L2, if_pos (show (128 : Int32) ≤ nI 128 from nI_le (Nat.le_refl _) (by decide))]
  | succ n ih =>
    intro b fu hb hfu
    obtain ⟨fu, rfl⟩ : ∃ z, fu = z + 1 := ⟨fu - 1, by omega⟩
    obtain ⟨k, k1, k2, k3⟩ := hg b (by omega)
    have e := m_unC_in (ly := ly) (show b < 128 by omega) k2 k1 k3 k 0 4096 (by omega) (by omega)
    rw [Nat.add_zero, show nI 0 = 0 from rfl] at e
    rw [f_X1_untieFromGone_L2, if_neg (show ¬ (128 : Int32) ≤ nI b from nI_ge (b := 128) (by omega) (by decide)), e, Option.bind_some, nI_1, m_un_to k2 k1]
    exact ih (b + 1) fu (by omega) (by omega)
theorem m_unR {sw sd : m_Rr} (hg : ∀ k, k < 408 → sd k = -1 ∨ ∃ c, c < 128 ∧ sd k = nI c) : ∀ (n i fu : Nat), i + n = 408 → n < fu → f_X14_sweep_L32 sw fu (m_un (fun _ => True) sw sd i) (nI i) = some (m_un (fun _ => True) sw sd 408) := by
  intro n
  induction n with
  | zero =>
    intro i fu hi hfu
    obtain ⟨fu, rfl⟩ : ∃ z, fu = z + 1 := ⟨fu - 1, by omega⟩
    obtain rfl : i = 408 := by omega
    rw [f_X14_sweep_L32, if_pos (show (408 : Int32) ≤ nI 408 from nI_le (Nat.le_refl _) (by decide))]
  | succ n ih =>
    intro i fu hi hfu
    obtain ⟨fu, rfl⟩ : ∃ z, fu = z + 1 := ⟨fu - 1, by omega⟩
    have e := ih (i + 1) fu (by omega) (by omega)
    rw [f_X14_sweep_L32, if_neg (show ¬ (408 : Int32) ≤ nI i from nI_ge (b := 408) (by omega) (by decide)), q_ix_nI (by omega) (by decide), Option.bind_some, m_un_cell, Option.bind_some, m_un_cell, nI_1]
    rcases hg i (by omega) with hm | ⟨c, hc, hm⟩
    · rw [if_pos hm]
      rw [← m_un_set ⟨trivial, Or.inl hm⟩, m_up_same (by rw [m_un_cell]; exact hm)] at e
      exact e
    · rw [hm, if_neg (m_nI_m1 (by omega)), q_ix_nI (by omega) (by decide), Option.bind_some]
      by_cases hg : sw c = 0
      · rw [if_neg (fun h => h hg), Option.bind_some, m_un_set ⟨trivial, Or.inr ⟨c, hc, hm, hg⟩⟩]
        exact e
      · rw [if_pos hg]
        rw [m_un_skip (fun x => by
          rcases x.2 with h3 | ⟨c', x1, x2, x3⟩
          · exact m_nI_m1 (by omega) (hm.symm.trans h3)
          · obtain rfl : c' = c := (nI_eq (by omega) (by omega)).mp (x2.symm.trans hm)
            exact hg x3)] at e
        exact e
theorem m_sweep {H m hf : Nat} {h : List Nat} {pn mp bn ly pl sz ag rc ld lo lr hk rw st sh sw sp ss sr sa sd : m_Rr} (hP : m_Pl H m hf pn mp) (hR : m_R H m hf h bn ly pl sz ag rc ld lo lr hk rw st sh sw sp ss sr sa sd) (li nr nd md mq mi : m_Rr) :
    ∃ x bn' ly' ld' lo' lr' li' nr' nd' md' mq' mi' st' sw' sd', f_X2_sweep pn bn ly pl sz rc ld lo lr li nr nd hk = some (x, bn', ly', ld', lo', lr', li', nr', nd') ∧ f_X14_sweep md mp mq mi st sh sw sr sd = some (x, md', mq', mi', st', sw', sd') ∧ m_R H m hf h bn' ly' pl sz ag rc ld' lo' lr' hk rw st' sh sw' sp ss sr sa sd' ∧ (∀ j, j ≠ 16 → md' j = md j) ∧ bn' 10 = bn 10 ∧ bn' 12 = bn 12 := by
  obtain ⟨p0, p1, p2, p3, p4, p5, p6⟩ := hP
  obtain ⟨⟨hE, hZ⟩, ⟨hg1, hg2⟩, hv, ⟨hnd, hmem, hrw, hb7, hb8, htw, h64⟩, ⟨hLf, hlo1, hlo2⟩, hK, hB⟩ := id hR
  obtain ⟨c1, c2, c3, c4, c5, c6⟩ := id hB
  have hG : m_G (fun c => c < 128 ∧ ly c ≠ 0) rc ld sr sd := fun b hb => by
    obtain ⟨k, k1, k2, k3⟩ := hg1 b hb.1
    exact ⟨hb.1, k, k1, k2, by rw [(hE b hb.1).2.2.2.2]; exact k2, fun r hr => ⟨(k3 r hr).1, (k3 r hr).2.imp id (fun ⟨c, x, y, z⟩ => ⟨c, ⟨x, z hb.2⟩, y⟩)⟩⟩
  obtain ⟨l, li', nr', nd', md', mq', mi', a1, a2, a3, a4, a5, a6, a7, a8⟩ := m_reach hG hK p6 li nr nd md mq mi
  obtain ⟨hq1, hq2, hq3, hq4, hq5, hq6, hq7⟩ := id a3
  have hx8 : ∀ b, sw b = 2 → b < 136 → b < 128 := fun b hb h1 => by
    rcases Nat.lt_or_ge b 128 with h2 | h2
    · exact h2
    · rw [hZ b h2 h1] at hb; exact absurd hb (by decide)
  /- beyond 136 nothing is looked at: a row that is 0 there -/
  obtain ⟨sv, hsv⟩ : ∃ f : m_Rr, f = q_cp sw (fun _ => 0) 136 := ⟨_, rfl⟩
  have hsv1 : ∀ b, b < 136 → sv b = sw b := fun b hb => by rw [hsv, q_cp_lt hb]
  have hsv8 : ∀ b, sv b = 2 → b < 128 := fun b hb => by
    rcases Nat.lt_or_ge b 136 with h2 | h2
    · exact hx8 b (by rw [← hsv1 b h2]; exact hb) h2
    · rw [hsv, q_cp_ge h2] at hb; exact absurd hb (by decide)
  have hsx0 : m_sx l sv sp 0 = sv := by funext b; exact m_sx_n (fun ⟨_, _, q, x, _⟩ => by omega)
  have hLf0 : m_Lf m lr sv sp ss := ⟨hLf.1, fun b hb hw => hLf.2.1 b hb (by rw [← hsv1 b hb]; exact hw), fun q hq => (hLf.2.2 q hq).imp id (fun ⟨b, x1, x2, x3⟩ => ⟨b, x1, by rw [hsv1 b (by omega)]; exact x2, x3⟩)⟩
  obtain ⟨ly', lo', lr', x, b1, b2, b3, b4, b5, b6⟩ := m_sweepC (pn := pn) (pl := pl) (sz := sz) (nd := nd') (sw := sv) (sp := sp) (ss := ss) (l := l) p2 (fun b hb => ⟨(hE b hb).2.1, (hE b hb).2.2.1⟩) hq6 hsv8 m 0 4096 ly lo lr 0 (by omega) (by have := hLf.1; omega) (by rw [hsx0]; exact hLf0) (fun b hb => by rw [hsx0, hsv1 b (by omega)]; exact (hE b hb).1.symm) hlo1 (by rw [hsx0, hlo2]; exact m_sm_congr (fun i hi => by rw [hsv1 i hi]) (fun _ _ _ => rfl))
  obtain ⟨y, d1, d2⟩ := m_sweepR (mi := mi') (sw := sw) 136 0 4096 0 (by omega) (by omega) (by rw [m_sr_0, Int32.zero_add])
  obtain ⟨sw', hsw'⟩ : ∃ f : m_Rr, f = m_sr mi' sw 136 := ⟨_, rfl⟩
  have hfin : ∀ b, b < 136 → m_sx l sv sp m b = sw' b := fun b hb => by
    rw [hsw']
    unfold m_sr
    by_cases e : sw b = 2 ∧ mi' b = 0
    · rw [if_pos ⟨hb, e⟩]
      obtain ⟨p, s, x1, x2, x3, x4, x5⟩ := hLf.2.1 b hb e.1
      exact m_sx_y ⟨by rw [hsv1 b hb]; exact e.1, fun hbl => (hq7 b hb).mp hbl e.2, p, by omega, x1⟩
    · rw [if_neg (fun h => e h.2), m_sx_n (fun ⟨x1, x2, x3⟩ => e ⟨by rw [← hsv1 b hb]; exact x1, Classical.not_not.mp (fun h => x2 ((hq7 b hb).mpr h))⟩), hsv1 b hb]
  have hly : ∀ b, b < 128 → ly' b = sw' b := fun b hb => (b3 b hb).trans (hfin b (by omega))
  have hxy : x = y := by
    have e1 : lo' 2 = m_sm (fun b => sw' b = 2) (fun _ => 1) 136 := by rw [b5]; exact m_sm_congr (fun i hi => by rw [hfin i hi]) (fun _ _ _ => rfl)
    have e2 : y + m_sm (fun b => sw' b = 2) (fun _ => 1) 136 = m_sm (fun b => sw b = 2) (fun _ => 1) 136 := by rw [hsw']; exact d2
    rw [e1, Int32.zero_add, hlo2, ← e2] at b6
    have e3 := congrArg (fun z => z - m_sm (fun b => sw' b = 2) (fun _ => 1) 136) b6
    simp only [Int32.add_sub_cancel] at e3
    exact e3
  have hval : ∀ b, b < 136 → sw' b = 0 ∧ sw b = 2 ∧ mi' b = 0 ∨ sw' b = sw b ∧ ¬ (sw b = 2 ∧ mi' b = 0) := fun b hb => by
    rw [hsw']
    unfold m_sr
    by_cases e : sw b = 2 ∧ mi' b = 0
    · exact Or.inl ⟨if_pos ⟨hb, e⟩, e⟩
    · exact Or.inr ⟨if_neg (fun h => e h.2), e⟩
  have hwas : ∀ b, b < 128 → ly' b ≠ 0 → ly b ≠ 0 ∧ ly' b = ly b := fun b hb hz => by
    rw [hly b hb] at hz ⊢
    rcases hval b (by omega) with e | e
    · exact absurd e.1 hz
    · rw [e.1] at hz ⊢
      rw [(hE b hb).1] at hz ⊢
      exact ⟨hz, rfl⟩
  have hone : ∀ b, b < 128 → (ly' b = 1 ↔ ly b = 1) := fun b hb => by
    rw [hly b hb, ← (hE b hb).1]
    rcases hval b (by omega) with e | e
    · rw [e.1, e.2.1]; exact ⟨fun h => absurd h (by decide), fun h => absurd h (by decide)⟩
    · rw [e.1]
  have hgxe : ∀ v, m_gx ly' v ↔ m_gx sw' v := fun v => by
    constructor
    · exact fun h => h.imp id (fun ⟨c, x, y, z⟩ => ⟨c, x, y, by rw [← hly c x]; exact z⟩)
    · exact fun h => h.imp id (fun ⟨c, x, y, z⟩ => ⟨c, x, y, by rw [hly c x]; exact z⟩)
  have eC := m_unC (ly := ly') (rc := rc) (ld := ld) (fun b hb => by
    obtain ⟨k, k1, k2, k3⟩ := hg1 b hb
    exact ⟨k, k1, k2, fun r hr => (k3 r hr).2.imp id (fun ⟨c, x, y, z⟩ => ⟨c, x, y⟩)⟩) 128 0 4096 (by omega) (by omega)
  rw [Nat.zero_mul, m_un_0, show nI 0 = 0 from rfl] at eC
  have eR := m_unR (sw := sw') hg2 408 0 4096 (by omega) (by omega)
  rw [m_un_0, show nI 0 = 0 from rfl] at eR
  refine ⟨x, q_up bn 14 (bn 14 + x), ly', m_un (m_Kr rc) ly' ld 384, lo', lr', li', nr', nd', md', mq', mi', q_up st 5 (st 5 + x), sw', m_un (fun _ => True) sw' sd 408, ?_, ?_, ⟨⟨fun b hb => ⟨(hly b hb).symm, (hE b hb).2⟩, fun b h1 h2 => ?_⟩, ⟨fun b hb => ?_, fun k hk => ?_⟩, fun b hb => ⟨?_, fun hz => (hv b hb).2 (hwas b hb hz).1⟩, ⟨hnd, fun b => ?_, hrw, ?_, ?_, htw, h64⟩, ⟨?_, b4, ?_⟩, ⟨hK.1, fun i hi => ⟨fun hin => ⟨((hK.2 i hi).1 hin).1, ?_⟩, (hK.2 i hi).2⟩⟩, ⟨?_, ?_, ?_, ?_, ?_, ?_⟩⟩, a7, m_up_n (by decide), m_up_n (by decide)⟩
  · unfold f_X2_sweep
    rw [a1, Option.bind_some]
    rw [show nI 0 = 0 from rfl] at b1
    rw [b1, Option.bind_some]
    unfold f_X1_untieFromGone
    rw [eC]; rfl
  · unfold f_X14_sweep
    rw [a2, Option.bind_some]
    rw [m_sr_0, show nI 0 = 0 from rfl, ← hsw'] at d1
    rw [d1, Option.bind_some, eR, Option.bind_some, hxy]
  · rcases hval b h2 with e | e
    · exact e.1
    · rw [e.1]; exact hZ b h1 h2
  · obtain ⟨k, k1, k2, k3⟩ := hg1 b hb
    refine ⟨k, k1, k2, fun r hr => ?_⟩
    obtain ⟨z1, z2⟩ := k3 r hr
    have hKr := (m_Kr_iff (rc := rc) (show r < 3 by omega) k2 k1).mpr hr
    by_cases e : m_gx ly' (ld (b * 3 + r))
    · have u1 : m_un (m_Kr rc) ly' ld 384 (b * 3 + r) = -1 := m_un_y ⟨by omega, hKr, e⟩
      have u2 : m_un (fun _ => True) sw' sd 408 (3 * b + r) = -1 := m_un_y ⟨by omega, trivial, by rw [z1]; exact (hgxe _).mp e⟩
      rw [u1, u2]
      exact ⟨rfl, Or.inl rfl⟩
    · have u1 : m_un (m_Kr rc) ly' ld 384 (b * 3 + r) = ld (b * 3 + r) := m_un_n (fun h => e h.2.2)
      have u2 : m_un (fun _ => True) sw' sd 408 (3 * b + r) = sd (3 * b + r) := m_un_n (fun h => e (by have := h.2.2; rw [z1] at this; exact (hgxe _).mpr this))
      rw [u1, u2]
      refine ⟨z1, z2.imp id (fun ⟨c, x1, x2, x3⟩ => ⟨c, x1, x2, fun _ hc0 => e (Or.inr ⟨c, x1, x2, hc0⟩)⟩)⟩
  · by_cases e : m_gx sw' (sd k)
    · exact Or.inl (m_un_y ⟨hk, trivial, e⟩)
    · rw [m_un_n (fun h => e h.2.2)]; exact hg2 k hk
  · rw [hly b hb]
    rcases hval b (by omega) with e | e
    · exact Or.inl e.1
    · rw [e.1, (hE b hb).1]; exact (hv b hb).1
  · rw [hmem]
    constructor
    · exact fun z => ⟨z.1, (hone b z.1).mpr z.2⟩
    · exact fun z => ⟨z.1, (hone b z.1).mp z.2⟩
  · rw [m_up_n (by decide)]; exact hb7
  · rw [m_up_n (by decide)]; exact hb8
  · exact ⟨b2.1, fun b hb hw => b2.2.1 b hb (by rw [hfin b hb]; exact hw), fun q hq => (b2.2.2 q hq).imp id (fun ⟨b, x1, x2, x3⟩ => ⟨b, x1, by rw [← hfin b (by omega)]; exact x2, x3⟩)⟩
  · rw [b5]; exact m_sm_congr (fun i hi => by rw [hfin i hi]) (fun _ _ _ => rfl)
  · refine ((hK.2 i hi).1 hin).2.imp id (fun ⟨c, ⟨x1, x2⟩, x3⟩ => ⟨c, ⟨x1, ?_⟩, x3⟩)
    have hcl := a8 i hin c x1 x3
    rw [hly c x1]
    rcases hval c (by omega) with e | e
    · exact absurd e.2.2 ((hq7 c (by omega)).mp hcl)
    · rw [e.1, (hE c x1).1]; exact x2
  · rw [m_up_n (by decide), m_up_n (by decide)]; exact c1
  · rw [m_up_n (by decide), m_up_n (by decide)]; exact c2
  · rw [m_up_n (by decide), m_up_n (by decide)]; exact c3
  · rw [m_up_n (by decide), m_up_n (by decide)]; exact c4
  · rw [m_up_n (by decide), m_up_n (by decide)]; exact c5
  · rw [m_up_s, m_up_s, c6]
