/-! THE LAW'S BARN copies, sweeps, counts: with what the class does then -/
section LASIM
variable {g : q_G} {d d2 mc ms H m hf ns oc G : Nat} {Q : Nat → Nat → Nat} {pn nu : m_Rr} {od : Nat → Option Nat} {T1 : Nat → m_Rr} {K1 : Nat → Nat → Option Nat} {h : q_H} {s k n : Nat} {C : Nat → Nat → Int32 → q_H → Prop}
variable {bn ly pl sz ag rc ld lo lr li0 nr0 nd0 hk rw ro0 rk0 sk0 : m_Rr}
theorem la_simCopy (hd : 20 ≤ d2) (hd2 : d2 < 2048) (hdd : d2 + 1 ≤ d) (hl : 59 + 64 * d2 ≤ q_lc d) (hT : la_St H m hf ns oc Q pn nu od T1 K1) (hX : z_RB H m hf pn h s (bn, ly, pl, sz, ag, rc, ld, lo, lr, li0, nr0, nd0, hk, rw, ro0, rk0, sk0)) (hN : z_Cn h s G) (li nr nd ro : m_Rr) (hk1 : k + 101 ≤ mc) (hn1 : n + 12288 ≤ ms)
    (hC : ∀ k' n' y h' bn' ly' pl' ag' lo' lr' li' nr' nd' rw', k' ≤ k + 101 → n' ≤ n + 12288 → f_X2_copyHalf pn bn ly pl sz ag rc ld lo lr li nr nd hk rw ro = some (y, bn', ly', pl', ag', lo', lr', li', nr', nd', rw', rw) → z_fr h h' → z_Cn h' s (G + 1) → (∀ li2 nr2 nd2 ro2 rk2 sk2, z_RB H m hf pn h' s (bn', ly', pl', sz, ag', rc, ld, lo', lr', li2, nr2, nd2, hk, rw', ro2, rk2, sk2)) → C k' n' y h') :
    q_cI g m_X14_copyAll [] d mc ms [.ref s] h k n True C := by
  obtain ⟨hL, Y, ν, hl0, ll, hkL, hR, hB⟩ := hX
  have hR : m_R H m hf hL bn ly pl sz ag rc ld lo lr hk rw _ _ _ _ _ _ _ _ := hR
  have hB : z_B h s ν H m hf hL pn bn ly pl sz ag rc ld hk hl0 ll hkL := hB
  obtain ⟨⟨H0, H6⟩, ⟨hf32, hm64⟩, ⟨mp, hP⟩, -⟩ := hT
  obtain ⟨n1, n2⟩ := z_RB_len hR hB
  obtain ⟨o1, o2, o3, o4, o5, o6, o7, o8, o9⟩ := id hB.1
  obtain ⟨m1, m2, m3⟩ := List.nodup_append.mp o5
  have hr1 : 3 * 128 * hl0.length ≤ 3 * 128 * 32 := Nat.mul_le_mul_left _ (by omega)
  have hcp := z_copyC (g := g) (d := d2) (B := 128) (by omega) hd2 o1 o2 o3 o4 ⟨fun x hx => List.mem_append_left _ hx, m1⟩ ⟨fun x hx => ⟨List.mem_append_right _ hx, fun hm => m3 x hm x hx rfl⟩, m2⟩ o6.1 o6.2 (by omega) (fun l h1 h2 => Nat.le_trans (z_OK_B hB.1 l h1 h2) n2) (by decide) o7 o8
  refine q_cI_of (fun y h' => y = nI hl0.length - nI (z_copy (z_rp h) m (q_I h s 5) hl0 ll hkL (q_I h) (q_I h s 11)).2.2.1.length ∧ z_Cp h h' s hkL (fun x => x ∈ hl0 ++ ll) hl0 (z_copy (z_rp h) m (q_I h s 5) hl0 ll hkL (q_I h) (q_I h s 11))) hcp hdd hl (by omega) (by omega) trivial (fun y h2 hp => ?_)
  obtain ⟨e1, e2⟩ := hp
  obtain ⟨x, hL', bn', ly', pl', ag', lo', lr', li', nr', nd', rw', md', mq', mi', st', sw', sp', sa', r1, r2, r3, r4, r5, r6, r7, r8⟩ := z_B_copy hP hR hB rfl e2 li nr nd ro (fun _ => 0) (fun _ => 0) (fun _ => 0)
  rw [e1, ← r8]
  exact hC _ _ x h2 bn' ly' pl' ag' lo' lr' li' nr' nd' rw' (by omega) (by omega) r1 (z_fr_Cp hB.1 e2) (z_Cn_Cp hN e2) (fun li2 nr2 nd2 ro2 rk2 sk2 => ⟨hL', (md', md', mq', mi', st', _, sw', sp', _, _, sa', _), ν, _, _, hkL, r3, r7⟩)
theorem la_simSweep (hd : 20 ≤ d2) (hd2 : d2 < 2048) (hdd : d2 + 1 ≤ d) (hl : 59 + 64 * d2 ≤ q_lc d) (hT : la_St H m hf ns oc Q pn nu od T1 K1) (hX : z_RB H m hf pn h s (bn, ly, pl, sz, ag, rc, ld, lo, lr, li0, nr0, nd0, hk, rw, ro0, rk0, sk0)) (hN : z_Cn h s G) (li nr nd : m_Rr) (hk1 : k + 386 ≤ mc) (hn1 : n + 49152 ≤ ms)
    (hC : ∀ k' n' y h' bn' ly' ld' lo' lr' li' nr' nd', k' ≤ k + 386 → n' ≤ n + 49152 → f_X2_sweep pn bn ly pl sz rc ld lo lr li nr nd hk = some (y, bn', ly', ld', lo', lr', li', nr', nd') → z_fr h h' → z_Cn h' s (G + 1) → (∀ li2 nr2 nd2 ro2 rk2 sk2, z_RB H m hf pn h' s (bn', ly', pl, sz, ag, rc, ld', lo', lr', li2, nr2, nd2, hk, rw, ro2, rk2, sk2)) → C k' n' y h') :
    q_cI g m_X14_sweep [] d mc ms [.ref s] h k n True C := by
  obtain ⟨hL, Y, ν, hl0, ll, hkL, hR, hB⟩ := hX
  have hR : m_R H m hf hL bn ly pl sz ag rc ld lo lr hk rw _ _ _ _ _ _ _ _ := hR
  have hB : z_B h s ν H m hf hL pn bn ly pl sz ag rc ld hk hl0 ll hkL := hB
  obtain ⟨⟨H0, H6⟩, ⟨hf32, hm64⟩, ⟨mp, hP⟩, -⟩ := hT
  obtain ⟨n1, n2⟩ := z_RB_len hR hB
  obtain ⟨o1, o2, o3, o4, o5, o6, o7, o8, o9⟩ := id hB.1
  have hcp := z_sweepC (g := g) (d := d2) (B := 128) (lf := ll.filter (fun x => decide (x ∈ z_bfs (z_rp h) (128 + 1) 0 (z_adds [] hkL)))) (by omega) hd2 o1 o2 o3 o9 o4 (fun x hx => hx) o5 (fun l h1 h2 => Nat.le_trans (z_OK_B hB.1 l h1 h2) n2) (by decide) rfl
  refine q_cI_of _ hcp hdd hl (by omega) (by omega) trivial (fun y h2 hp => ?_)
  obtain ⟨e1, e2⟩ := hp
  obtain ⟨x, bn', ly', ld', lo', lr', li', nr', nd', md', mq', mi', st', sw', sd', r1, r2, r3, r4, r5, r6, r7, r8⟩ := z_B_sweep hP hR hB rfl (fun l h1 h2 => m_pig 128 l h1 (fun x hx => (h2 x hx).1)) e1 e2 li nr nd (fun _ => 0) (fun _ => 0) (fun _ => 0)
  subst r8
  have hN' : z_Cn h2 s (G + 1) := by
    obtain ⟨g0, p, q, a1, a2, a3, a4, a5, a6⟩ := hN
    have e := e2.2.2.1.2
    exact ⟨g0, p, q, (e 7 (by decide)).trans a1, (e 10 (by decide)).trans a2, (e 8 (by decide)).trans a3, a4, (e 9 (by decide)).trans a5, by omega⟩
  exact hC _ _ x h2 bn' ly' ld' lo' lr' li' nr' nd' (by omega) (by omega) r1 (z_fr_Sw hB.1 e2 (fun x hx => (List.mem_filter.mp hx).1)) hN' (fun li2 nr2 nd2 ro2 rk2 sk2 => ⟨hL, (md', md', mq', mi', st', _, sw', _, _, _, _, sd'), ν, _, _, hkL, r3, r7⟩)
/-- useless bales, by hand and in the class -/
theorem la_uslL {hL : List Nat} {ν : Nat → Nat} {hl0 ll : List Nat} {hkL : List (Option Nat)} {st sh sw sp ss sr sa sd : m_Rr} (hR : m_R H m hf hL bn ly pl sz ag rc ld lo lr hk rw st sh sw sp ss sr sa sd) (hB : z_B h s ν H m hf hL pn bn ly pl sz ag rc ld hk hl0 ll hkL) : nI hl0.length + nI ll.length - nI (z_bfs (z_rp h) (128 + 1) 0 (z_adds [] hkL)).length = nI (lc_nb hL ly - (lc_rch H rc ld hk).length) := by
  obtain ⟨v1, v2, ⟨v3, v4⟩, v5, v6, ⟨v7, v8⟩, v9⟩ := id hB.2.1
  obtain ⟨l, li', nr', nd', md', mq', mi', e1, e2, e3, e4, e5⟩ := z_reachL (B := 128) v1 v6 hR.2.2.2.2.2.1 v7 v8 (fun l h1 h2 => m_pig 128 l h1 (fun x hx => (h2 x hx).1)) (fun _ => 0) (fun _ => 0) (fun _ => 0)
  obtain ⟨li2, nr2, nd2, md2, mq2, mi2, g1, g2⟩ := lc_find hR (fun _ => 0) (fun _ => 0) (fun _ => 0)
  have e6 := Option.some.inj (e1.symm.trans g1)
  obtain ⟨rfl, -⟩ := Prod.mk.inj e6
  have l1 := m_Q_len e2
  have l2 := m_Q_len g2
  have hlen : l.length = (lc_rch H rc ld hk).length := (nI_eq (by omega) (by omega)).mp (e2.1.symm.trans g2.1)
  have hh : hl0.length = hL.length := by rw [v2, List.length_map]
  have hw := lc_nb_128 hR
  have hlo : ll.length = (lc_ll ly).length := by
    have h1 := z_B_loft hR hB
    have h2 := lc_lo2 hR
    have h3 := (z_RB_len hR hB).2
    rw [List.length_append] at h3
    unfold lc_nb at hw
    exact (nI_eq (by omega) (by omega)).mp (h1.symm.trans h2)
  obtain ⟨r1, r2, -, -⟩ := lc_rch_of hR
  have hle := lc_nb_le hR r1 r2
  rw [← e5, List.length_map, hlen, hh, hlo, nI_add]
  show nI (lc_nb hL ly) - _ = _
  rw [m_subI hle]
theorem la_simUseless (hd : 20 ≤ d2) (hd2 : d2 < 2048) (hdd : d2 + 1 ≤ d) (hl : 59 + 64 * d2 ≤ q_lc d) (hX : z_RB H m hf pn h s (bn, ly, pl, sz, ag, rc, ld, lo, lr, li0, nr0, nd0, hk, rw, ro0, rk0, sk0)) (hN : z_Cn h s G) (hk1 : k + 129 ≤ mc) (hn1 : n + 16384 ≤ ms)
    (hC : ∀ k' n' y h', k' ≤ k + 129 → n' ≤ n + 16384 → (∃ hL st sh sw sp ss sr sa sd, m_R H m hf hL bn ly pl sz ag rc ld lo lr hk rw st sh sw sp ss sr sa sd ∧ y = nI (lc_nb hL ly - (lc_rch H rc ld hk).length)) → z_ext h h' → C k' n' y h') :
    q_cI g m_X14_useless [] d mc ms [.ref s] h k n True C := by
  obtain ⟨hL, Y, ν, hl0, ll, hkL, hR, hB⟩ := hX
  have hR : m_R H m hf hL bn ly pl sz ag rc ld lo lr hk rw _ _ _ _ _ _ _ _ := hR
  have hB : z_B h s ν H m hf hL pn bn ly pl sz ag rc ld hk hl0 ll hkL := hB
  obtain ⟨n1, n2⟩ := z_RB_len hR hB
  obtain ⟨o1, o2, o3, o4, o5, o6, o7, o8, o9⟩ := id hB.1
  have hcp := z_uselessC (g := g) (d := d2) (B := 128) (by omega) hd2 o1 o2 o4 (fun l h1 h2 => Nat.le_trans (z_OK_B hB.1 l h1 h2) n2) (by decide)
  refine q_cI_of _ hcp hdd hl (by omega) (by omega) trivial (fun y h2 hp => ?_)
  exact hC _ _ y h2 (by omega) (by omega) ⟨hL, _, _, _, _, _, _, _, _, hR, hp.1.trans (la_uslL hR hB)⟩ hp.2
/-- the law's heap has grown -/
theorem la_RB_ext {h' : q_H} {X : m_CB} (e : z_ext h h') (hX : z_RB H m hf pn h s X) : z_RB H m hf pn h' s X := by
  obtain ⟨hL, Y, ν, hl0, ll, hkL, hR, hB⟩ := hX
  obtain ⟨b1, b2, b3⟩ := hB
  obtain ⟨o1, o2, o3, o4, o5, o6, o7, o8, o9a, o9b, o9c⟩ := id b1
  have s2 := o1.1.2
  obtain ⟨e1, e2, e3, -, -⟩ := e.2 s s2
  have ex : ∀ x ∈ hl0 ++ ll, q_I h' x = q_I h x := fun x hx => (e.2 x (o2 x hx).1.1.2).2.1
  have era : ∀ x ∈ hl0 ++ ll, z_ra h' x = z_ra h x := fun x hx => z_ra_ext e (o2 x hx).1.1.2
  refine ⟨hL, Y, ν, hl0, ll, hkL, hR, ⟨z_Sim_ext e o1, z_Wf_ext e o2, o3, o4, o5, ⟨by rw [e2]; exact o6.1, o6.2⟩, fun x hx => ?_, fun x hx => ?_, fun x y hx hy => ?_, fun x hx k hk => ?_, fun k hk => ?_⟩, ?_, ?_⟩
  · rw [ex x (List.mem_append_right _ hx)]; exact o7 x hx
  · rw [ex x hx]; exact o8 x hx
  · rw [era x hx, era y hy]; exact o9a x y hx hy
  · rw [era x hx, e3]; exact o9b x hx k hk
  · rw [e3]; exact o9c k hk
  · rw [e2]
    exact z_YR_cg b2 (fun b hb h0 j _ => by rw [ex _ (z_YR_mem b2 hR.2.2.1 hR.2.2.2.1.2.1 hb h0)]) (fun b hb h0 => z_rp_ext e o2 (z_YR_mem b2 hR.2.2.1 hR.2.2.2.1.2.1 hb h0))
  · rw [e2]; exact b3
end LASIM
