/-! ROPES AND HOOKS, on both sides -/
section ZROPES
variable {h h' : q_H} {s c : Nat} {ν : Nat → Nat} {H m hf : Nat} {hL : List Nat} {pn mp bn ly pl sz ag rc ld lo lr hk rw st sh sw sp ss sr sa sd : m_Rr} {hl ll : List Nat} {hkL : List (Option Nat)}
theorem z_rp_get {h : q_H} {x i : Nat} : (z_rp h x)[i]? = if i < z_rl h x then some (q_R h (z_ra h x) i) else none := by
  unfold z_rp
  rw [List.getElem?_map]
  by_cases hi : i < z_rl h x
  · rw [if_pos hi, List.getElem?_range hi]; rfl
  · rw [if_neg hi, List.getElem?_eq_none (by rw [List.length_range]; omega)]; rfl
set_option maxHeartbeats 1000000 in
/-- a rope leads elsewhere -/
theorem z_OK_rope {x j : Nat} {o : Option Nat} (hO : z_OK h s hl ll hkL m) (hx : x ∈ hl ++ ll) (hj : j < z_rl h x) (ho : ∀ y, o = some y → y ∈ hl ++ ll) :
    z_OK (q_pR h (z_ra h x) j o) s hl ll hkL m ∧ (∀ y ∈ hl ++ ll, z_rp (q_pR h (z_ra h x) j o) y = if y = x then (z_rp h x).set j o else z_rp h y) := by
  obtain ⟨o1, o2, o3, o4, o5, o6, o7, o8, o9a, o9b, o9c⟩ := id hO
  obtain ⟨⟨s1, s2⟩, s3, -⟩ := id o1
  obtain ⟨xb, ⟨r1, r2, r3, r4⟩, r5⟩ := o2 x hx
  have has : s ≠ z_ra h x := (z_ne_s s3 r3).symm
  have hb0 : ∀ y ∈ hl ++ ll, y ≠ z_ra h x := fun y hy e => by
    have e1 := (o2 y hy).1.2
    rw [e, r3] at e1
    cases e1
  have hR0 : ∀ y ∈ hl ++ ll, q_R (q_pR h (z_ra h x) j o) y = q_R h y := fun y hy => z_R_a _ _ _ _ _ (hb0 y hy)
  have hra : ∀ y ∈ hl ++ ll, z_ra (q_pR h (z_ra h x) j o) y = z_ra h y := fun y hy => by
    show (q_R (q_pR h (z_ra h x) j o) y 4).getD 0 = (q_R h y 4).getD 0
    rw [hR0 y hy]
  have hrl : ∀ y ∈ hl ++ ll, z_rl (q_pR h (z_ra h x) j o) y = z_rl h y := fun y hy => by unfold z_rl; rw [hra y hy]; rfl
  have hRr : ∀ y ∈ hl ++ ll, y ≠ x → q_R (q_pR h (z_ra h x) j o) (z_ra h y) = q_R h (z_ra h y) := fun y hy hne => z_R_a _ _ _ _ _ (fun e => hne (o9a y x hy hx e))
  have hRs : ∀ k, q_R (q_pR h (z_ra h x) j o) s k = q_R h s k := fun k => by rw [z_R_a _ _ _ _ _ has]
  refine ⟨⟨z_Sim_pR o1 has (fun k hk => o9b x hx k hk), fun y hy => ?_, o3, o4, o5, o6, o7, o8, fun y z hy hz e => ?_, fun y hy k hk3 e => ?_, fun k hk2 e => ?_⟩, fun y hy => ?_⟩
  · obtain ⟨yb, ⟨q1, q2, q3, q4⟩, q5⟩ := o2 y hy
    refine ⟨yb, ?_, ?_⟩
    · rw [hra y hy, hrl y hy, hR0 y hy]
      exact ⟨q1, q2, q3, q4⟩
    · rw [hra y hy, hrl y hy]
      intro i z hi hz
      by_cases hyx : y = x
      · subst hyx
        by_cases hij : i = j
        · subst hij
          rw [z_R_s] at hz
          exact ho z hz
        · rw [z_R_j _ _ _ _ _ hij] at hz
          exact q5 i z hi hz
      · rw [hRr y hy hyx] at hz
        exact q5 i z hi hz
  · rw [hra y hy, hra z hz] at e
    exact o9a y z hy hz e
  · rw [hra y hy, hRs] at e
    exact o9b y hy k hk3 e
  · rw [hRs, hRs] at e
    exact o9c k hk2 e
  · refine List.ext_getElem? (fun i => ?_)
    rw [z_rp_get, hrl y hy, hra y hy]
    by_cases hyx : y = x
    · subst hyx
      rw [if_pos rfl]
      by_cases hij : i = j
      · subst hij
        rw [if_pos hj, z_R_s, List.getElem?_set_self (by rw [z_rp_len]; exact hj)]
      · rw [z_R_j _ _ _ _ _ hij, List.getElem?_set_ne (fun e => hij e.symm), z_rp_get]
    · rw [if_neg hyx, hRr y hy hyx, z_rp_get]
set_option maxHeartbeats 1000000 in
/-- a hook holds another -/
theorem z_OK_hook {i : Nat} {o : Option Nat} (hO : z_OK h s hl ll hkL m) (hc : q_R h s 2 = some c) (hi : i < hkL.length) (ho : ∀ y, o = some y → y ∈ hl ++ ll) :
    z_OK (q_pR h c i o) s hl ll (hkL.set i o) m ∧ (∀ y ∈ hl ++ ll, z_rp (q_pR h c i o) y = z_rp h y) ∧ s ≠ c := by
  obtain ⟨o1, o2, o3, o4, o5, o6, o7, o8, o9a, o9b, o9c⟩ := id hO
  obtain ⟨⟨s1, s2⟩, s3, ⟨a, a1, a2⟩, ⟨b, b1, b2⟩, c', c1, c2⟩ := id o1
  obtain rfl : c' = c := Option.some.inj (c1.symm.trans hc)
  have hcs : s ≠ c' := (z_ne_s s3 c2.2.1).symm
  have hb0 : ∀ y ∈ hl ++ ll, y ≠ c' := fun y hy e => by
    have e1 := (o2 y hy).1.2
    rw [e, c2.2.1] at e1
    cases e1
  have hR0 : ∀ y ∈ hl ++ ll, q_R (q_pR h c' i o) y = q_R h y := fun y hy => z_R_a _ _ _ _ _ (hb0 y hy)
  have hra : ∀ y ∈ hl ++ ll, z_ra (q_pR h c' i o) y = z_ra h y := fun y hy => by unfold z_ra; rw [hR0 y hy]
  have hrl : ∀ y ∈ hl ++ ll, z_rl (q_pR h c' i o) y = z_rl h y := fun y hy => by unfold z_rl; rw [hra y hy]; rfl
  have hRr : ∀ y ∈ hl ++ ll, q_R (q_pR h c' i o) (z_ra h y) = q_R h (z_ra h y) := fun y hy => z_R_a _ _ _ _ _ (fun e => o9b y hy 2 (by decide) (by rw [e]; exact c1))
  have hRs : ∀ k, q_R (q_pR h c' i o) s k = q_R h s k := fun k => by rw [z_R_a _ _ _ _ _ hcs]
  have hac : a ≠ c' := fun e => o9c 0 (by decide) (by rw [a1, c1, e])
  have hbc : b ≠ c' := fun e => o9c 1 (by decide) (by rw [b1, c1, e])
  refine ⟨⟨⟨⟨s1, s2⟩, s3, ⟨a, (hRs 0).trans a1, z_Ar_pR hac a2⟩, ⟨b, (hRs 1).trans b1, z_Ar_pR hbc b2⟩, c', (hRs 2).trans c1, z_Ao_set c2 hi⟩, fun y hy => ?_, o3, fun x hx => ?_, o5, o6, o7, o8, fun y z hy hz e => ?_, fun y hy k hk3 e => ?_, fun k hk2 e => ?_⟩, fun y hy => ?_, hcs⟩
  · obtain ⟨yb, ⟨q1, q2, q3, q4⟩, q5⟩ := o2 y hy
    refine ⟨yb, ?_, ?_⟩
    · rw [hra y hy, hrl y hy, hR0 y hy]
      exact ⟨q1, q2, q3, q4⟩
    · rw [hra y hy, hrl y hy, hRr y hy]
      exact q5
  · rcases List.mem_or_eq_of_mem_set hx with hx | hx
    · exact o4 x hx
    · exact ho x hx.symm
  · rw [hra y hy, hra z hz] at e
    exact o9a y z hy hz e
  · rw [hra y hy, hRs] at e
    exact o9b y hy k hk3 e
  · rw [hRs, hRs] at e
    exact o9c k hk2 e
  · unfold z_rp
    rw [hrl y hy, hra y hy, hRr y hy]
theorem z_B_mem (hR : m_R H m hf hL bn ly pl sz ag rc ld lo lr hk rw st sh sw sp ss sr sa sd) (hB : z_B h s ν H m hf hL pn bn ly pl sz ag rc ld hk hl ll hkL) {b : Nat} (hb : b < 128) (h0 : ¬ ly b = 0) : ν b ∈ hl ++ ll := z_YR_mem hB.2.1 hR.2.2.1 hR.2.2.2.1.2.1 hb h0
theorem z_cell_mem (hR : m_R H m hf hL bn ly pl sz ag rc ld lo lr hk rw st sh sw sp ss sr sa sd) (hB : z_B h s ν H m hf hL pn bn ly pl sz ag rc ld hk hl ll hkL) {v : Int32} {o : Option Nat} (hv : z_cell ν ly v (some o)) : ∀ y, o = some y → y ∈ hl ++ ll := by
  intro y e
  rcases hv with ⟨-, e2⟩ | ⟨b, b1, b2, b3, b4⟩
  · rw [e] at e2
    cases e2
  · rw [e] at b4
    rw [Option.some.inj (Option.some.inj b4)]
    exact z_B_mem hR hB b1 b2
set_option maxHeartbeats 1000000 in
theorem z_B_lead (hR : m_R H m hf hL bn ly pl sz ag rc ld lo lr hk rw st sh sw sp ss sr sa sd) (hB : z_B h s ν H m hf hL pn bn ly pl sz ag rc ld hk hl ll hkL) {b r k : Nat} {v : Int32} {o : Option Nat} (hb : b < 128) (h0 : ¬ ly b = 0) (hk3 : k ≤ 3) (hkk : rc b = nI k) (hr : r < k) (hv : z_cell ν ly v (some o)) :
    z_B (q_pR h (z_ra h (ν b)) r o) s ν H m hf hL pn bn ly pl sz ag rc (q_up ld (b * 3 + r) v) hk hl ll hkL := by
  obtain ⟨b1, ⟨v1, v2, v34, v5, v6, v78, v9⟩, b3⟩ := id hB
  have hmem := z_B_mem hR hB hb h0
  obtain ⟨hlen, hcl⟩ := z_Yr_k v6 hb h0 hk3 hkk
  rw [z_rp_len] at hlen
  obtain ⟨hOK, hrp⟩ := z_OK_rope b1 hmem (by rw [hlen]; exact hr) (z_cell_mem hR hB hv)
  have has : s ≠ z_ra h (ν b) := (z_ne_s b1.1.2.1 (b1.2.1 _ hmem).2.1.2.2.1).symm
  refine ⟨hOK, ⟨v1, v2, v34, v5, fun c hc hc0 => ?_, v78, v9⟩, b3⟩
  obtain ⟨k', k1, k2, k3, k4⟩ := v6 c hc hc0
  rw [hrp _ (z_B_mem hR hB hc hc0)]
  by_cases hcb : c = b
  · subst hcb
    obtain rfl : k' = k := (nI_eq (by omega) (by omega)).mp (k2.symm.trans hkk)
    rw [if_pos rfl]
    refine ⟨k', k1, k2, by rw [List.length_set]; exact k3, fun r' hr' => ?_⟩
    by_cases hrr : r' = r
    · subst hrr
      rw [m_up_s, List.getElem?_set_self (by rw [k3]; exact hr)]
      exact hv
    · rw [m_up_n (by omega), List.getElem?_set_ne (fun e => hrr e.symm)]
      exact k4 r' hr'
  · rw [if_neg (fun e => hcb (v1 c b hc hb hc0 h0 e))]
    refine ⟨k', k1, k2, k3, fun r' hr' => ?_⟩
    rw [m_up_n (by omega)]
    exact k4 r' hr'
set_option maxHeartbeats 1000000 in
theorem z_B_hook (hR : m_R H m hf hL bn ly pl sz ag rc ld lo lr hk rw st sh sw sp ss sr sa sd) (hB : z_B h s ν H m hf hL pn bn ly pl sz ag rc ld hk hl ll hkL) (hc : q_R h s 2 = some c) {i : Nat} {v : Int32} {o : Option Nat} (hi : i < H) (hv : z_cell ν ly v (some o)) :
    z_B (q_pR h c i o) s ν H m hf hL pn bn ly pl sz ag rc ld (q_up hk i v) hl ll (hkL.set i o) := by
  obtain ⟨b1, ⟨v1, v2, v34, v5, v6, ⟨v7, v8⟩, v9⟩, b3⟩ := id hB
  obtain ⟨hOK, hrp, hcs⟩ := z_OK_hook b1 hc (by rw [v7]; exact hi) (z_cell_mem hR hB hv)
  refine ⟨hOK, ⟨v1, v2, v34, v5, fun b hb h0 => ?_, ⟨by rw [List.length_set]; exact v7, fun j hj => ?_⟩, v9⟩, b3⟩
  · rw [hrp _ (z_B_mem hR hB hb h0)]
    exact v6 b hb h0
  · by_cases hji : j = i
    · subst hji
      rw [m_up_s, List.getElem?_set_self (by rw [v7]; exact hj)]
      exact hv
    · rw [m_up_n hji, List.getElem?_set_ne (fun e => hji e.symm)]
      exact v8 j hj
/-- a rope by hand is one of the class's -/
theorem z_ro_cls (hR : m_R H m hf hL bn ly pl sz ag rc ld lo lr hk rw st sh sw sp ss sr sa sd) (hB : z_B h s ν H m hf hL pn bn ly pl sz ag rc ld hk hl ll hkL) {i : Nat} (hi : i < H) (r : Int32) :
    (hk i = -1 ∧ hkL[i]? = some none ∧ z_ro h hkL i r = none) ∨ ∃ b k, b < 128 ∧ ¬ ly b = 0 ∧ hk i = nI b ∧ hkL[i]? = some (some (ν b)) ∧ k ≤ 3 ∧ rc b = nI k ∧ sr b = nI k ∧
      ((f_X1_hasRope rc (nI b) r = some false ∧ f_X14_hasRope sh sr (nI i) r = some false ∧ f_X1_lead rc ld (nI b) r = some (-1) ∧ z_ro h hkL i r = none) ∨
       ∃ j, j < k ∧ r = nI j ∧ f_X1_hasRope rc (nI b) r = some true ∧ f_X14_hasRope sh sr (nI i) r = some true ∧ f_X1_lead rc ld (nI b) r = some (ld (b * 3 + j)) ∧ (∀ v, f_X1_setLead rc ld (nI b) r v = some (q_up ld (b * 3 + j) v)) ∧ z_ro h hkL i r = some (ν b, j) ∧ z_cell ν ly (ld (b * 3 + j)) (some (q_R h (z_ra h (ν b)) j))) := by
  obtain ⟨b1, ⟨v1, v2, v34, v5, v6, ⟨v7, v8⟩, v9⟩, b3⟩ := id hB
  obtain ⟨i6, i1, i2⟩ := m_hkv hR hi
  rcases v8 i hi with ⟨e1, e2⟩ | ⟨b, hb, h0, e1, e2⟩
  · refine Or.inl ⟨e1, e2, ?_⟩
    unfold z_ro
    rw [e2]
  · obtain ⟨k, k1, k2, k3, k4⟩ := m_kc hR hb
    obtain ⟨hlen, hcl⟩ := z_Yr_k v6 hb h0 k1 k2
    rw [z_rp_len] at hlen
    have hro : z_ro h hkL i r = if ¬ r < 0 ∧ ¬ nI (z_rl h (ν b)) ≤ r then some (ν b, r.toNatClampNeg) else none := by
      unfold z_ro
      rw [e2]
    rw [hlen] at hro
    refine Or.inr ⟨b, k, hb, h0, e1, e2, k1, k2, k3, ?_⟩
    rcases m_hasB (ld := ld) hb i6 (i1.symm.trans e1) k1 k2 k3 r with ⟨a1, a2, a3, a4⟩ | ⟨j, hj, rfl, a1, a2, a3, a4⟩
    · refine Or.inl ⟨a1, a2, a3, hro.trans (if_neg (fun hc => ?_))⟩
      obtain ⟨j, hj, rfl⟩ := nI_of hc.1
      have hjk : j < k := by
        rcases Nat.lt_or_ge j k with h1 | h1
        · exact h1
        · exact absurd (nI_le h1 hj) hc.2
      rw [m_hasRope hb hj k2 k1] at a1
      have := Option.some.inj a1
      rw [decide_eq_true hjk] at this
      cases this
    · refine Or.inr ⟨j, hj, rfl, a1, a2, a3, a4, ?_, ?_⟩
      · rw [hro, if_pos ⟨nI_pos (by omega), nI_ge hj (by omega)⟩, nI_clamp (by omega)]
      · have := hcl j hj
        rw [z_rp_get, if_pos (by rw [hlen]; exact hj)] at this
        exact this
end ZROPES
