/-! isSame: what is counted by hand is what the class answers -/
/-- all bales in one row b -/
def la_E (h : q_H) (b : Nat) : Prop := ∃ (l0 : List Nat) (U N u1 : Nat), z_Ar h b l0 ∧ (∀ x ∈ l0, z_Bal h x) ∧ z_sum (fun x => q_I h x 0) l0 = nI U ∧ l0.length = N ∧ (q_I h 457 8 = nI u1 ∧ u1 ≤ 64 ∧ U = u1 + lc_ul (q_I h 459) (q_I h 461)) ∧ q_I h 457 7 + q_I h 465 2 = nI N ∧ N ≤ 128
theorem lw_sumN {f : Nat → Int32} {w : Nat → Nat} : ∀ l : List Nat, (∀ x ∈ l, f x = nI (w x)) → z_sum f l = nI (m_tw w l)
  | [], _ => rfl
  | x :: t, h => by
    show f x + z_sum f t = nI (w x + m_tw w t)
    rw [h x List.mem_cons_self, lw_sumN t (fun y hy => h y (List.mem_cons_of_mem _ hy)), nI_add]
theorem lw_sumC {f f' : Nat → Int32} : ∀ l : List Nat, (∀ x ∈ l, f x = f' x) → z_sum f l = z_sum f' l
  | [], _ => rfl
  | x :: t, h => by
    show f x + z_sum f t = f' x + z_sum f' t
    rw [h x List.mem_cons_self, lw_sumC t (fun y hy => h y (List.mem_cons_of_mem _ hy))]
theorem lw_twmap {w v : Nat → Nat} {ν : Nat → Nat} : ∀ l : List Nat, (∀ b ∈ l, w (ν b) = v b) → m_tw w (l.map ν) = m_tw v l
  | [], _ => rfl
  | x :: t, h => by
    show w (ν x) + m_tw w (t.map ν) = v x + m_tw v t
    rw [h x List.mem_cons_self, lw_twmap t (fun y hy => h y (List.mem_cons_of_mem _ hy))]
section LASAME0
variable {g : q_G} {d H m hf ns oc G s k n b : Nat} {Q : Nat → Nat → Nat} {pn nu : m_Rr} {od : Nat → Option Nat} {T1 : Nat → m_Rr} {K1 : Nat → Nat → Option Nat} {h h1 h' : q_H}
theorem lw_loftS {s : Nat} {ν : Nat → Nat} {hL : List Nat} {pn bn ly pl sz ag rc ld lo lr hk rw st sh sw sp ss sr sa sd : m_Rr} {hl ll : List Nat} {hkL : List (Option Nat)} (hR : m_R H m hf hL bn ly pl sz ag rc ld lo lr hk rw st sh sw sp ss sr sa sd) (hB : z_B h s ν H m hf hL pn bn ly pl sz ag rc ld hk hl ll hkL) : z_sum (fun x => q_I h x 0) ll = nI (lc_ul ly sz) ∧ ll.length = (lc_ll ly).length := by
  obtain ⟨b1, ⟨v1, v2, ⟨v3, v4⟩, v5, -⟩, -⟩ := id hB
  have hz : ∀ c ∈ lc_ll ly, ∃ z, z ≤ 9 ∧ sz c = nI z ∧ q_I h (ν c) 0 = nI z := fun c hc => by
    obtain ⟨c8, c2⟩ := lc_ll_mem.mp hc
    obtain ⟨z, z1, z2, z3⟩ := (hR.2.2.1 c c8).2 (by rw [c2]; decide)
    exact ⟨z, z2, z3, (v5 c c8 (by rw [c2]; decide)).1.trans z3⟩
  have hm : ∀ x, x ∈ ll ↔ x ∈ (lc_ll ly).map ν := fun x => by
    rw [v4, List.mem_map]
    constructor
    · rintro ⟨c, c1, c2, c3⟩
      exact ⟨c, lc_ll_mem.mpr ⟨c1, c2⟩, c3.symm⟩
    · rintro ⟨c, c1, c2⟩
      exact ⟨c, (lc_ll_mem.mp c1).1, (lc_ll_mem.mp c1).2, c2.symm⟩
  have hnd : ((lc_ll ly).map ν).Nodup := z_nodup_map _ lc_ll_nd (fun x hx y hy e => by
    obtain ⟨x1, x2⟩ := lc_ll_mem.mp hx
    obtain ⟨y1, y2⟩ := lc_ll_mem.mp hy
    exact v1 x y x1 y1 (by rw [x2]; decide) (by rw [y2]; decide) e)
  refine ⟨?_, ?_⟩
  · rw [lw_sumN (w := m_w (fun x => q_I h x 0)) ll (fun x hx => ?_)]
    · have e1 : m_tw (m_w (fun x => q_I h x 0)) ll = m_tw (m_w (fun x => q_I h x 0)) ((lc_ll ly).map ν) := Nat.le_antisymm (m_sub v3 (fun x hx => (hm x).mp hx)) (m_sub hnd (fun x hx => (hm x).mpr hx))
      rw [e1, lw_twmap (v := m_w sz) (lc_ll ly) (fun c hc => ?_)]
      · rfl
      · obtain ⟨z, z1, z2, z3⟩ := hz c hc
        rw [m_w_nI (sz := fun x => q_I h x 0) (s := z) z3 (by omega), m_w_nI z2 (by omega)]
    · obtain ⟨c, c1, c2⟩ := List.mem_map.mp ((hm x).mp hx)
      obtain ⟨z, z1, z2, z3⟩ := hz c c1
      rw [← c2]
      show q_I h (ν c) 0 = nI (m_w (fun x => q_I h x 0) (ν c))
      rw [m_w_nI (sz := fun x => q_I h x 0) (s := z) z3 (by omega)]
      exact z3
  · have l1 := m_sub_len v3 (fun x hx => (hm x).mp hx)
    have l2 := m_sub_len hnd (fun x hx => (hm x).mpr hx)
    rw [List.length_map] at l1 l2
    omega
/-- the law's numbers are the class's -/
theorem la_D_num (hD : la_D H m hf ns Q pn nu od T1 K1 G h s) : (q_I h s 3 = nI hf ∧ q_I h s 7 = q_I h 457 10 ∧ q_I h s 8 = q_I h 457 11 ∧ q_I h s 9 = q_I h 457 9) ∧ q_I h s 10 = q_I h 457 12 ∧ q_I h s 11 = q_I h 457 13 ∧ q_I h s 12 = q_I h 457 14 := by
  obtain ⟨⟨c, pl, rows, ⟨hL, Y, ν, hl, ll, hkL, hR, hB⟩, hN⟩, hA⟩ := hD
  obtain ⟨b1, b2, b3, b4, b5, b6, b7, b8, b9⟩ := hB
  exact ⟨⟨b3, b5, b6, b7⟩, b8, b2.2.2.2.2.2.2, b9⟩
theorem la_D_hook (hD : la_D H m hf ns Q pn nu od T1 K1 G h s) : ∃ c, q_R h s 2 = some c ∧ 400 ≤ c ∧ q_sh h c = (3, 6, H) := by
  obtain ⟨⟨c, pl, rows, ⟨hL, Y, ν, hl, ll, hkL, hR, hB⟩, hN⟩, hA⟩ := hD
  obtain ⟨o1, o2, o3, c, o4, o5, o6⟩ := z_OK_s hB.1
  rw [hB.2.1.2.2.2.2.2.1.1] at o5
  exact ⟨c, o4, z_4 o6.1.1, o5⟩
theorem la_D_rows (hD : la_D H m hf ns Q pn nu od T1 K1 G h s) : ∃ c, q_R h s 6 = some c ∧ 400 ≤ c ∧ q_sh h c = (3, 7, ns) := by
  obtain ⟨b, b1, ⟨b2, b3⟩, b4, -⟩ := hD.1.2.2.1
  exact ⟨b, b1, z_4 b2, b4⟩
theorem la_D_half (hD : la_D H m hf ns Q pn nu od T1 K1 G h s) : ∃ a l, q_R h s 0 = some a ∧ z_Ar h a l ∧ (∀ x ∈ l, z_Bal h x) ∧ z_sum (fun x => q_I h x 0) l = q_I h 457 8 := by
  obtain ⟨⟨c, pl, rows, ⟨hL, Y, ν, hl, ll, hkL, hR, hB⟩, hN⟩, hA⟩ := hD
  obtain ⟨⟨-, -, ⟨a, a1, a2⟩, -⟩, w, -⟩ := id hB.1
  exact ⟨a, hl, a1, a2, fun x hx => (w x (List.mem_append_left _ hx)).1, z_B_sum hR hB⟩
theorem la_D_loft (hD : la_D H m hf ns Q pn nu od T1 K1 G h s) : ∃ a l, q_R h s 1 = some a ∧ z_Ar h a l ∧ (∀ x ∈ l, z_Bal h x) ∧ z_sum (fun x => q_I h x 0) l = nI (lc_ul (q_I h 459) (q_I h 461)) ∧ q_I h 465 2 = nI l.length := by
  obtain ⟨⟨c, pl, rows, ⟨hL, Y, ν, hl, ll, hkL, hR, hB⟩, hN⟩, hA⟩ := hD
  obtain ⟨⟨-, -, -, ⟨a, a1, a2⟩, -⟩, w, -⟩ := id hB.1
  obtain ⟨e1, e2⟩ := lw_loftS hR hB
  have hR : la_m H m hf hL h _ _ _ _ _ _ _ _ := hR
  exact ⟨a, ll, a1, a2, fun x hx => (w x (List.mem_append_right _ hx)).1, e1, by rw [e2]; exact lc_lo2 hR⟩
theorem la_D_gap {mc ms : Nat} (hd : 3 ≤ d) (hd2 : d < 2048) (hD : la_D H m hf ns Q pn nu od T1 K1 G h s) : ∃ y0, f_X12_longestGap (q_I h 465) (q_I h 466) = some y0 ∧ ∀ {C : Nat → Nat → Int32 → q_H → Prop}, k + 1 ≤ mc → n + 64 ≤ ms → (∀ k' n' h', k' ≤ k + 1 → n' ≤ n + 64 → z_ext h h' → C k' n' y0 h') → q_cI g m_X14_gap [] d mc ms [.ref s, .int 0] h k n True C := by
  obtain ⟨⟨c, pl, rows, ⟨hL, Y, ν, hl, ll, hkL, hR, hB⟩, hN⟩, hA⟩ := hD
  obtain ⟨o1, o2, o3, o4, o5, o6, o7, o8, o9⟩ := id hB.1
  obtain ⟨v1, v2, ⟨v3, v4⟩, v5, -⟩ := id hB.2.1
  obtain ⟨⟨hE, hZ⟩, -, -, -, ⟨hLf, hlo, -⟩, -⟩ := id hR
  have h64 := hLf.1
  have hemp := z_emp_lr (f := q_I h) (ν := ν) (ll := ll) (ly := q_I h 459) (pl := q_I h 460) (sz := q_I h 461) hLf (fun b hb => (hE b hb).2.2.1) (fun b hb => (hE b hb).2.1) (fun b hb => by rw [(hE b hb).1]) v4 (fun b hb h2 => by
    have hb0 : ¬ q_I h 459 b = 0 := by rw [h2]; decide
    exact ⟨(v5 b hb hb0).1, (v5 b hb hb0).2.2.1⟩)
  have e0 := z_widest hemp h64 hlo
  refine ⟨_, ?_, fun {C} hk hn hC => q_cI_of (fun y h' => y = z_gap (z_emp (fun x => (q_I h x 2).toNatClampNeg) (fun x => (q_I h x 0).toNatClampNeg) ll) m 0 ∧ z_ext h h') (z_gapC (g := g) (d := d - 1) (up := m) (want := 0) (pl := fun x => (q_I h x 2).toNatClampNeg) (sz := fun x => (q_I h x 0).toNatClampNeg) (by omega) (by omega) o1 (fun x hx => (o2 x (List.mem_append_right _ hx)).1) o6.1 o6.2 (fun x hx => ?_) (by decide)) (by omega) (q_lcle (by omega) hd2) (by omega) (by omega) trivial (fun y h' hp => by rw [hp.1]; exact hC _ _ h' (by omega) (by omega) hp.2)⟩
  · unfold f_X12_longestGap
    have e1 : f_X5_widestGap (q_I h 465) (q_I h 466) = _ := e0
    rw [e1]; rfl
  · obtain ⟨p, z, p1, p2, p3⟩ := o7 x hx
    have m64 : m ≤ 64 := h64
    refine ⟨?_, ?_, ?_⟩
    · rw [p1, nI_clamp (by omega)]
    · rw [p2, nI_clamp (by omega)]
    · rw [p1, p2, nI_clamp (by omega), nI_clamp (by omega)]
      exact p3
theorem la_E_lk (e : la_lk h h') (hE : la_E h b) : la_E h' b := by
  obtain ⟨l0, U, N, u1, ⟨⟨a1, a2⟩, a3, a4, a5⟩, b1, c1, c2, ⟨d1, d2, d3⟩, e1, e2⟩ := hE
  obtain ⟨f1, f2, f3, -, -, f6⟩ := e
  have hs : z_sum (fun x => q_I h' x 0) l0 = z_sum (fun x => q_I h x 0) l0 := lw_sumC l0 (fun x hx => by rw [f6 x (lw_sc (b1 x hx).1.1)])
  refine ⟨l0, U, N, u1, ⟨⟨a1, by rw [f1]; exact a2⟩, by rw [f2]; exact a3, a4, fun i x hx => by rw [f3]; exact a5 i x hx⟩, fun x hx => ?_, hs.trans c1, c2, ⟨by rw [f6 457 rfl]; exact d1, d2, by rw [f6 459 rfl, f6 461 rfl]; exact d3⟩, by rw [f6 457 rfl, f6 465 rfl]; exact e1, e2⟩
  obtain ⟨⟨g1, g2⟩, g3⟩ := b1 x hx
  exact ⟨⟨g1, by rw [f1]; exact g2⟩, by rw [f2]; exact g3⟩
theorem la_E_ext (hC : z_Cls h) (e : z_ext h h') (hE : la_E h b) : la_E h' b := by
  obtain ⟨l0, U, N, u1, a, b1, c1, c2, ⟨d1, d2, d3⟩, e1, e2⟩ := hE
  have hi : ∀ a, a < 492 → q_I h' a = q_I h a := fun a ha => (z_I_fr hC (z_fr_ext e) ha).1
  have hs : z_sum (fun x => q_I h' x 0) l0 = z_sum (fun x => q_I h x 0) l0 := lw_sumC l0 (fun x hx => by rw [(e.2 x (b1 x hx).1.2).2.1])
  refine ⟨l0, U, N, u1, z_Ar_ext e a, fun x hx => ?_, hs.trans c1, c2, ⟨by rw [hi 457 (by decide)]; exact d1, d2, by rw [hi 459 (by decide), hi 461 (by decide)]; exact d3⟩, by rw [hi 457 (by decide), hi 465 (by decide)]; exact e1, e2⟩
  obtain ⟨⟨g1, g2⟩, g3⟩ := b1 x hx
  exact ⟨⟨g1, Nat.lt_of_lt_of_le g2 e.1⟩, by rw [(e.2 x g2).1]; exact g3⟩
theorem la_D_all {mc ms : Nat} {C : Nat → Nat → Nat → q_H → Prop} (hd : 3 ≤ d) (hd2 : d < 2048) (hD : la_D H m hf ns Q pn nu od T1 K1 G h s) (hk : k + 128 ≤ mc) (hn : n + 16384 ≤ ms) (hC : ∀ k' n' b h', k' ≤ k + 128 → n' ≤ n + 16384 → z_ext h h' → la_E h' b → C k' n' b h') : q_cR g m_X14_all [] d mc ms [.ref s] h k n True C := by
  obtain ⟨⟨⟨c, -⟩, pl, rows, ⟨hL, Y, ν, hl, ll, hkL, hR, hB⟩, hN⟩, hA⟩ := id hD
  obtain ⟨o1, o2, o3, o4, o5, o6, o7, o8, o9⟩ := id hB.1
  obtain ⟨n1, n2⟩ := z_RB_len hR hB
  rw [List.length_append] at n2
  have hl1 : ll.length * (hl.length + ll.length) ≤ 128 * 128 := Nat.mul_le_mul (by omega) (by omega)
  generalize hw : ll.length * (hl.length + ll.length) = w at hl1
  obtain ⟨e1, e2⟩ := lw_loftS hR hB
  have e3 := z_B_sum hR hB
  have hR : la_m H m hf hL h _ _ _ _ _ _ _ _ := hR
  obtain ⟨u1, u2, u3⟩ := lc_u1 hR
  have hnb := lc_nbI hR
  have hh : hl.length = hL.length := by rw [hB.2.1.2.1, List.length_map]
  have hf64 := (m_usedH hR).2.2.2
  have hct := z_all (g := g) (d := d - 1) (by omega) (by omega) o1 (fun x hx => (o2 x hx).1) (show hl.length + ll.length < 65536 by omega)
  rw [hw] at hct
  refine q_cR_of _ hct (by omega) (q_lcle (by omega) hd2) (by omega) (by omega) trivial (fun b h' hp => ?_)
  obtain ⟨q2, q3, -⟩ := hp
  have hi : ∀ a, a < 492 → q_I h' a = q_I h a := fun a ha => (z_I_fr c (z_fr_ext q2) ha).1
  have hs : z_sum (fun x => q_I h' x 0) (hl ++ ll) = z_sum (fun x => q_I h x 0) (hl ++ ll) := lw_sumC _ (fun x hx => by rw [(q2.2 x (o2 x hx).1.1.2).2.1])
  refine hC _ _ b h' (by omega) (by omega) q2 ⟨hl ++ ll, m_tw (m_w (q_I h 461)) hL + lc_ul (q_I h 459) (q_I h 461), (hl ++ ll).length, m_tw (m_w (q_I h 461)) hL, q3, fun x hx => ?_, ?_, rfl, ⟨by rw [hi 457 (by decide)]; exact u1, by omega, by rw [hi 459 (by decide), hi 461 (by decide)]⟩, ?_, ?_⟩
  · obtain ⟨⟨g1, g2⟩, g3⟩ := (o2 x hx).1
    exact ⟨⟨g1, Nat.lt_of_lt_of_le g2 q2.1⟩, by rw [(q2.2 x g2).1]; exact g3⟩
  · rw [hs, z_sum_app, e1, e3]
    show q_I h 457 8 + _ = _
    rw [u1, nI_add]
  · rw [hi 457 (by decide), hi 465 (by decide), List.length_append, hh, e2]; exact hnb
  · rw [List.length_append]; omega
end LASAME0
