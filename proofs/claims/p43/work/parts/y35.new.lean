/-! A BALE IS MADE, on both sides -/
section ZNEW
variable {h h' : q_H} {s c : Nat} {ν : Nat → Nat} {H m hf : Nat} {hL : List Nat} {pn bn ly pl sz ag rc ld hk : m_Rr} {hl ll : List Nat} {hkL : List (Option Nat)}
theorem z_OK_lt (hO : z_OK h s hl ll hkL m) {x : Nat} (hx : x ∈ hl ++ ll) : x < q_nx h ∧ z_ra h x < q_nx h := ⟨(hO.2.1 x hx).1.1.2, (hO.2.1 x hx).2.1.2.1.2⟩
set_option maxHeartbeats 1000000 in
theorem z_OK_make {i L z : Nat} {size u : Int32} (hO : z_OK h s hl ll hkL m) (hc : q_R h s 2 = some c) (hM : z_Mk h h' s c hl ll hkL i size u L) (hz : size = nI z) (hz0 : 0 < z) (hz1 : z < 65536) (hL3 : L ≤ 3) :
    z_OK h' s (hl ++ [q_nx h]) ll (hkL.set i (some (q_nx h))) m ∧ (∀ x ∈ hl ++ ll, z_rp h' x = z_rp h x ∧ z_ra h' x = z_ra h x) ∧ z_ra h' (q_nx h) = q_nx h + 1 ∧ z_rl h' (q_nx h) = L := by
  obtain ⟨o1, o2, o3, o4, o5, o6, o7, o8, o9a, o9b, o9c⟩ := id hO
  obtain ⟨⟨k1, k2⟩, k3, ⟨k4, bb, k5, k6⟩, k7, ⟨k8, k9, k10, k11⟩, k12, k13, k14⟩ := hM
  obtain ⟨⟨s1, s2⟩, s3, ⟨a, a1, a2⟩, ⟨b, b1, b2⟩, c', c1, c2⟩ := id o1
  obtain rfl : c' = c := Option.some.inj (c1.symm.trans hc)
  have h492 : 492 ≤ q_nx h := Nat.le_trans s1 (Nat.le_of_lt s2)
  have hold : ∀ x ∈ hl ++ ll, x ≠ s ∧ x ≠ c' ∧ z_ra h x ≠ s ∧ z_ra h x ≠ c' := fun x hx => by
    obtain ⟨⟨xb1, xb2⟩, ⟨r1, r2, r3, r4⟩, -⟩ := o2 x hx
    refine ⟨fun e => o3 (by rw [← e]; exact hx), fun e => ?_, z_ne_s s3 r3, fun e => o9b x hx 2 (by decide) (by rw [e]; exact c1)⟩
    rw [e, c2.2.1] at xb2
    cases xb2
  have hRx : ∀ x ∈ hl ++ ll, q_R h' x = q_R h x ∧ q_R h' (z_ra h x) = q_R h (z_ra h x) ∧ q_sh h' (z_ra h x) = q_sh h (z_ra h x) ∧ q_sh h' x = q_sh h x := fun x hx => by
    obtain ⟨l1, l2⟩ := z_OK_lt hO hx
    obtain ⟨e1, e2, e3, e4⟩ := hold x hx
    exact ⟨(k2 x l1).2.2.2.2 e1 e2, (k2 _ l2).2.2.2.2 e3 e4, (k2 _ l2).1, (k2 x l1).1⟩
  have hra : ∀ x ∈ hl ++ ll, z_ra h' x = z_ra h x ∧ z_rl h' x = z_rl h x ∧ z_rp h' x = z_rp h x := fun x hx => by
    obtain ⟨e1, e2, e3, e4⟩ := hRx x hx
    have f1 : z_ra h' x = z_ra h x := by unfold z_ra; rw [e1]
    have f2 : z_rl h' x = z_rl h x := by unfold z_rl; rw [f1, e3]
    exact ⟨f1, f2, by unfold z_rp; rw [f2, f1, e2]⟩
  have hraN : z_ra h' (q_nx h) = q_nx h + 1 := by unfold z_ra; rw [k12]; rfl
  have hrlN : z_rl h' (q_nx h) = L := by unfold z_rl; rw [hraN, k13]
  have hmem : ∀ x, x ∈ (hl ++ [q_nx h]) ++ ll ↔ x ∈ hl ++ ll ∨ x = q_nx h := fun x => by
    simp only [List.mem_append, List.mem_singleton]
    constructor
    · rintro ((h | h) | h)
      · exact Or.inl (Or.inl h)
      · exact Or.inr h
      · exact Or.inl (Or.inr h)
    · rintro ((h | h) | h)
      · exact Or.inl (Or.inl h)
      · exact Or.inr h
      · exact Or.inl (Or.inr h)
  have hnew : q_nx h ∉ hl ++ ll := fun hm => Nat.lt_irrefl _ (z_OK_lt hO hm).1
  obtain ⟨n1, n2, n3⟩ := List.nodup_append.mp o5
  refine ⟨⟨k3, fun x hx => ?_, fun hm => ?_, fun x hx => ?_, ?_, ⟨?_, o6.2⟩, fun x hx => ?_, fun x hx => ?_, fun x y hx hy e => ?_, fun x hx k hk3 e => ?_, fun k hk2 e => ?_⟩, fun x hx => ⟨(hra x hx).2.2, (hra x hx).1⟩, hraN, hrlN⟩
  · rcases (hmem x).mp hx with hx | rfl
    · obtain ⟨xb, ⟨r1, r2, r3, r4⟩, r5⟩ := o2 x hx
      obtain ⟨e1, e2, e3, e4⟩ := hRx x hx
      obtain ⟨f1, f2, -⟩ := hra x hx
      refine ⟨⟨⟨xb.1.1, by have := xb.1.2; omega⟩, e4.trans xb.2⟩, ?_, ?_⟩
      · rw [f1, f2, e1, e3]
        exact ⟨r1, ⟨r2.1, by have := r2.2; omega⟩, r3, r4⟩
      · rw [f1, f2, e2]
        exact fun j y hj hy => (hmem y).mpr (Or.inl (r5 j y hj hy))
    · refine ⟨⟨⟨h492, by omega⟩, k7⟩, ?_, ?_⟩
      · rw [hraN, hrlN]
        exact ⟨k12, ⟨by omega, by omega⟩, k13, hL3⟩
      · rw [hraN, hrlN]
        intro j y _ hy
        rw [k14] at hy
        cases hy
  · rcases (hmem s).mp hm with hm | hm
    · exact o3 hm
    · omega
  · rcases List.mem_or_eq_of_mem_set hx with hx | hx
    · exact (hmem x).mpr (Or.inl (o4 x hx))
    · exact (hmem x).mpr (Or.inr (Option.some.inj hx))
  · rw [List.append_assoc]
    refine List.nodup_append.mpr ⟨n1, List.nodup_cons.mpr ⟨fun hm => hnew (List.mem_append_right _ hm), n2⟩, fun x hx y hy e => ?_⟩
    rcases List.mem_cons.mp hy with hy | hy
    · rw [e, hy] at hx
      exact hnew (List.mem_append_left _ hx)
    · exact n3 x hx y hy e
  · rw [(k2 s s2).2.2.2.1]; exact o6.1
  · rw [(k2 x (z_OK_lt hO (List.mem_append_right _ hx)).1).2.2.2.1]
    exact o7 x hx
  · rcases (hmem x).mp hx with hx | rfl
    · rw [(k2 x (z_OK_lt hO hx).1).2.2.2.1]
      exact o8 x hx
    · exact ⟨z, hz0, hz1, k8.trans hz⟩
  · rcases (hmem x).mp hx with hx | rfl
    · rcases (hmem y).mp hy with hy | rfl
      · rw [(hra x hx).1, (hra y hy).1] at e
        exact o9a x y hx hy e
      · rw [(hra x hx).1, hraN] at e
        have := (z_OK_lt hO hx).2
        omega
    · rcases (hmem y).mp hy with hy | rfl
      · rw [(hra y hy).1, hraN] at e
        have := (z_OK_lt hO hy).2
        omega
      · rfl
  · have hk0 : ∀ k, k < 3 → k ≠ 0 → ∃ r, q_R h s k = some r ∧ r < q_nx h := fun k hk3 hk0 => by
      by_cases e1 : k = 1
      · subst e1; exact ⟨b, b1, b2.1.2⟩
      · obtain rfl : k = 2 := by omega
        exact ⟨c', c1, c2.1.2⟩
    by_cases h0 : k = 0
    · subst h0
      rw [k5] at e
      have e2 : bb = z_ra h' x := Option.some.inj e
      rcases (hmem x).mp hx with hx | rfl
      · rw [(hra x hx).1] at e2
        have := (z_OK_lt hO hx).2
        omega
      · rw [hraN] at e2
        omega
    · rw [k4 k h0] at e
      obtain ⟨r, r1, r2⟩ := hk0 k hk3 h0
      rcases (hmem x).mp hx with hx | rfl
      · rw [(hra x hx).1] at e
        exact o9b x hx k hk3 e
      · rw [hraN, r1] at e
        have : r = q_nx h + 1 := Option.some.inj e
        omega
  · rw [k4 2 (by decide)] at e
    by_cases h0 : k = 0
    · subst h0
      rw [k5, c1] at e
      have e2 : bb = c' := Option.some.inj e
      have := c2.1.2
      omega
    · rw [k4 k h0] at e
      exact o9c k hk2 e
theorem z_add_free {x1 x2 x3 : Int32} {v v0 : Nat} {r : m_Rr × m_Rr × m_Rr × m_Rr × m_Rr × m_Rr} (h8 : v0 < 128) (h0 : ly v0 = 0) (hl : ∀ u, u < v0 → ¬ ly u = 0) (a : f_X1_add ly pl sz ag rc ld x1 x2 x3 = some (nI v, r)) (hv : v < 128) : v = v0 := by
  have e : f_X1_add_L2 ly 4096 0 = some (1, nI v0) := m_addL h8 h0 hl v0 0 4096 (by omega) (by omega)
  unfold f_X1_add at a
  rw [e, Option.bind_some] at a
  dsimp only at a
  rw [if_neg (show ¬ (1 : Nat) = 0 by decide), q_ix_nI h8 (by decide), Option.bind_some, Option.bind_some, Option.bind_some, Option.bind_some, Option.bind_some, m_add37 h8, Option.bind_some] at a
  have := congrArg Prod.fst (Option.some.inj a)
  exact ((nI_eq (by omega) (by omega)).mp this).symm
set_option maxHeartbeats 2000000 in
theorem z_B_new {lo lr rw st sh sw sp ss sr sa sd : m_Rr} (hR : m_R H m hf hL bn ly pl sz ag rc ld lo lr hk rw st sh sw sp ss sr sa sd) (hB : z_B h s ν H m hf hL pn bn ly pl sz ag rc ld hk hl ll hkL) {i z k : Nat} (hi : i < H) (hs1 : 1 ≤ z) (hs9 : z ≤ 9) (hk3 : k ≤ 3) (hfit : m_tw (m_w sz) hL + z ≤ hf)
    (hc : q_R h s 2 = some c) (hM : z_Mk h h' s c hl ll hkL i (nI z) (z_sum (fun x => q_I h x 0) hl) k) :
    ∃ v, v < 128 ∧ f_X1_add ly pl sz ag rc ld (bn 8) (nI z) (nI k) = some (nI v, q_up ly v 1, q_up pl v (bn 8), q_up sz v (nI z), q_up ag v 0, q_up rc v (nI k), m_3 ld (v * 3)) ∧ f_X2_hold hk (nI i) (nI v) = some (q_up hk i (nI v)) ∧ f_X2_layInRow bn rw (nI v) (nI z) = some (q_up (q_up bn 7 (nI (hL.length + 1))) 8 (bn 8 + nI z), q_up rw hL.length (nI v)) ∧ f_X14_make_L29 sw 4096 0 = some (nI v) ∧ f_X14_make_L63 (nI v) 4096 sd 0 = some (m_3 sd (3 * v)) ∧
      m_R H m hf (hL ++ [v]) (q_up (q_up bn 7 (nI (hL.length + 1))) 8 (bn 8 + nI z)) (q_up ly v 1) (q_up pl v (bn 8)) (q_up sz v (nI z)) (q_up ag v 0) (q_up rc v (nI k)) (m_3 ld (v * 3)) lo lr (q_up hk i (nI v)) (q_up rw hL.length (nI v)) st (q_up sh i (nI v)) (q_up sw v 1) (q_up sp v (bn 8)) (q_up ss v (nI z)) (q_up sr v (nI k)) (q_up sa v 0) (m_3 sd (3 * v)) ∧
      z_B h' s (fun b => if b = v then q_nx h else ν b) H m hf (hL ++ [v]) pn (q_up (q_up bn 7 (nI (hL.length + 1))) 8 (bn 8 + nI z)) (q_up ly v 1) (q_up pl v (bn 8)) (q_up sz v (nI z)) (q_up ag v 0) (q_up rc v (nI k)) (m_3 ld (v * 3)) (q_up hk i (nI v)) (hl ++ [q_nx h]) ll (hkL.set i (some (q_nx h))) := by
  obtain ⟨v, v8, a1, a2, a3, a4, a5, a6⟩ := m_new hR hi hs1 hs9 hk3 hfit
  refine ⟨v, v8, a1, a2, a3, a4, a5, a6, ?_⟩
  obtain ⟨⟨hE, hZ⟩, ⟨hg1, hg2⟩, hv, hRh, ⟨hLf, hlo1, hlo2⟩, hK, hBb⟩ := id hR
  obtain ⟨v0, v08, v00, v0l⟩ := m_free hv hRh (fun b hb => (hE b hb).1) hLf (by have := hRh.2.2.2.2.2.2; omega)
  obtain rfl : v = v0 := z_add_free v08 v00 v0l a1 v8
  obtain ⟨b1, ⟨v1, v2, ⟨v3, v4⟩, v5, v6, ⟨v7, v8'⟩, v9⟩, b3, b4, b5, b6, b7, b8, b9⟩ := id hB
  obtain ⟨hOK, hrp, hraN, hrlN⟩ := z_OK_make b1 hc hM rfl (by omega) (by omega) hk3
  obtain ⟨⟨k1, k2⟩, k3, ⟨k4, bb, k5, k6⟩, k7, ⟨k8, k9, k10, k11⟩, k12, k13, k14⟩ := id hM
  have hmem := hRh.2.1
  have hYR := hB.2.1
  have hvl : v ∉ hL := fun hm => by
    have := ((hmem v).mp hm).2
    rw [v00] at this
    exact absurd this (by decide)
  have hlv : ∀ b, b < 128 → ¬ ly b = 0 → ν b ∈ hl ++ ll ∧ b ≠ v := fun b hb h0 => ⟨z_YR_mem hYR hv hmem hb h0, fun e => h0 (by rw [e]; exact v00)⟩
  have hlt : ∀ b, b < 128 → ¬ ly b = 0 → ν b < q_nx h := fun b hb h0 => (z_OK_lt b1 (hlv b hb h0).1).1
  have hly' : ∀ b, ¬ q_up ly v 1 b = 0 → ¬ b = v → ¬ ly b = 0 := fun b h0 hbv => by rwa [m_up_n hbv] at h0
  have hνn : ∀ b, b ≠ v → (if b = v then q_nx h else ν b) = ν b := fun b hb => if_neg hb
  have hνv : (if v = v then q_nx h else ν v) = q_nx h := if_pos rfl
  have hsum : z_sum (fun x => q_I h x 0) hl = bn 8 := by
    rw [v2, z_sum_tot (sz := sz) hL (fun b hb => (v5 b ((hmem b).mp hb).1 (by rw [((hmem b).mp hb).2]; decide)).1)]
    exact hRh.2.2.2.2.1.symm
  have hcell : ∀ {x : Int32} {o : Option (Option Nat)}, z_cell ν ly x o → z_cell (fun b => if b = v then q_nx h else ν b) (q_up ly v 1) x o := fun {x o} hx => by
    rcases hx with hx | ⟨b, c1, c2, c3, c4⟩
    · exact Or.inl hx
    · have hbv := (hlv b c1 c2).2
      exact Or.inr ⟨b, c1, by rw [m_up_n hbv]; exact c2, c3, by rw [c4, ← hνn b hbv]⟩
  have s2 := b1.1.1.2
  refine ⟨hOK, ⟨fun b c hb hc h0 h0' e => ?_, ?_, ⟨v3, fun x => ?_⟩, fun b hb h0 => ?_, fun b hb h0 => ?_, ⟨by rw [List.length_set]; exact v7, fun j hj => ?_⟩, ?_⟩, ?_, ?_, ?_, ?_, ?_, ?_, ?_⟩
  · dsimp only at e
    by_cases hbv : b = v
    · by_cases hcv : c = v
      · rw [hbv, hcv]
      · rw [hbv, hνv, hνn c hcv] at e
        have := hlt c hc (hly' c h0' hcv)
        omega
    · by_cases hcv : c = v
      · rw [hcv, hνv, hνn b hbv] at e
        have := hlt b hb (hly' b h0 hbv)
        omega
      · rw [hνn b hbv, hνn c hcv] at e
        exact v1 b c hb hc (hly' b h0 hbv) (hly' c h0' hcv) e
  · rw [List.map_append, v2]
    refine congr (congrArg _ (List.map_congr_left (fun b hb => ?_))) ?_
    · exact (hνn b (fun e => hvl (by rw [← e]; exact hb))).symm
    · show [q_nx h] = [if v = v then q_nx h else ν v]
      rw [hνv]
  · rw [v4]
    constructor
    · rintro ⟨b, e1, e2, e3⟩
      have hbv := (hlv b e1 (by rw [e2]; decide)).2
      exact ⟨b, e1, by rw [m_up_n hbv]; exact e2, by rw [e3]; exact (hνn b hbv).symm⟩
    · rintro ⟨b, e1, e2, e3⟩
      by_cases hbv : b = v
      · rw [hbv, m_up_s] at e2
        exact absurd e2 (by decide)
      · rw [m_up_n hbv] at e2
        exact ⟨b, e1, e2, by rw [e3]; exact hνn b hbv⟩
  · dsimp only
    by_cases hbv : b = v
    · rw [hbv, hνv, m_up_s, m_up_s, m_up_s, m_up_s, if_neg (by decide)]
      exact ⟨k8, k9, k10.trans hsum, k11⟩
    · have h0' := hly' b h0 hbv
      rw [hνn b hbv, m_up_n hbv, m_up_n hbv, m_up_n hbv, m_up_n hbv, (k2 _ (hlt b hb h0')).2.2.2.1]
      exact v5 b hb h0'
  · dsimp only
    by_cases hbv : b = v
    · rw [hbv, hνv]
      refine ⟨k, hk3, m_up_s, by rw [z_rp_len, hrlN], fun r hr => Or.inl ⟨m_3_i (by omega), ?_⟩⟩
      unfold z_rp
      rw [List.getElem?_map, List.getElem?_range (by rw [hrlN]; exact hr), hraN]
      exact congrArg some (k14 r)
    · have h0' := hly' b h0 hbv
      obtain ⟨k', e1, e2, e3, e4⟩ := v6 b hb h0'
      rw [hνn b hbv, (hrp _ (hlv b hb h0').1).1]
      refine ⟨k', e1, by rw [m_up_n hbv]; exact e2, e3, fun r hr => ?_⟩
      rw [m_3_o (by omega)]
      exact hcell (e4 r hr)
  · by_cases hji : j = i
    · subst hji
      rw [m_up_s, List.getElem?_set_self (by rw [v7]; exact hj)]
      exact Or.inr ⟨v, v8, by rw [m_up_s]; decide, rfl, (congrArg (fun x => some (some x)) hνv).symm⟩
    · rw [m_up_n hji, List.getElem?_set_ne (fun e => hji e.symm)]
      exact hcell (v8' j hj)
  · rw [(k2 s s2).2.2.2.1, m_up_n (by decide), m_up_n (by decide)]; exact v9
  · rw [(k2 s s2).2.2.2.1]; exact b3
  · rw [(k2 s s2).2.2.2.1]; exact b4
  · rw [(k2 s s2).2.2.2.1, m_up_n (by decide), m_up_n (by decide)]; exact b5
  · rw [(k2 s s2).2.2.2.1, m_up_n (by decide), m_up_n (by decide)]; exact b6
  · rw [(k2 s s2).2.2.2.1, m_up_n (by decide), m_up_n (by decide)]; exact b7
  · rw [(k2 s s2).2.2.2.1, m_up_n (by decide), m_up_n (by decide)]; exact b8
  · rw [(k2 s s2).2.2.2.1, m_up_n (by decide), m_up_n (by decide)]; exact b9
end ZNEW
