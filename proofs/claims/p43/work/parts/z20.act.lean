/-! ACT answers 1, and all is at rest again -/
section LAACT
variable {g : q_G} {d mc ms H m hf ns oc G G' : Nat} {Q : Nat → Nat → Nat} {pn nu : m_Rr} {od : Nat → Option Nat} {T1 : Nat → m_Rr} {K1 : Nat → Nat → Option Nat} {h h0 h' : q_H} {s k n : Nat}
theorem la_D_mono (hG : G ≤ G') (hD : la_D H m hf ns Q pn nu od T1 K1 G h s) : la_D H m hf ns Q pn nu od T1 K1 G' h s := by
  obtain ⟨⟨e1, e2, e3, e4, e5⟩, hA⟩ := hD
  exact ⟨⟨e1, e2, e3, e4, z_Cn_mono e5 hG⟩, hA⟩
/-- a number that is chosen -/
theorem la_bel {v : Int32} {w d2 : Nat} {C : Nat → Nat → Int32 → q_H → Prop} (hd : 1 ≤ d2) (hd2 : d2 < 2048) (hdd : d2 + 1 ≤ d) (hl : 59 + 64 * d2 ≤ q_lc d) (h0 : 0 < w) (hw : w < 2147483648) (hk : k + 0 ≤ mc) (hn : n + 0 ≤ ms) (hc : ∀ r, r < w → C (k + 0) (n + 0) (nI r) h) : q_cI g m_L_below [] d mc ms [.int v, .int (nI w)] h k n True C := by
  refine q_cI_of (fun y h' => y = (v &&& 2147483647) - (v &&& 2147483647) / nI w * nI w ∧ h' = h) (z_below hd (by omega) (nI_ne0 h0 hw)) hdd hl hk hn trivial (fun y h' hp => ?_)
  obtain ⟨e1, e2⟩ := hp
  obtain ⟨b1, b2⟩ := be_bl (v := v) (w := w) h0 (by omega)
  rw [e1, e2, b1]
  exact hc _ b2
theorem la_1p (r : Nat) : (1 : Int32) + nI r = nI (1 + r) := nI_add 1 r
set_option maxHeartbeats 1000000 in
theorem la_act (hd : 40 ≤ d) (hd2 : d < 2048) (hT : la_St H m hf ns oc Q pn nu od T1 K1) (hD : la_D H m hf ns Q pn nu od T1 K1 G h s) (hG : G < 2 ^ 27) {x : Int32} :
    q_CtH g m_L_act la_hh d 1000 125000 [471, 472] [.ref 400, .ref s, .int x] h (la_Qa H m hf ns Q pn nu od T1 K1 (G + 18) s) := by
  have hD17 := la_D_mono (G' := G + 17) (by omega) hD
  have hD18 := la_D_mono (G' := G + 18) (by omega) hD
  obtain ⟨⟨⟨c1, c2⟩, pl, rows, hRB, hN⟩, hA⟩ := id hD
  obtain ⟨⟨H0, H6⟩, ⟨hf32, hm64⟩, -⟩ := id hT
  obtain ⟨hL, Y, ν, hl, ll, hkL, hR, hB⟩ := id hRB
  obtain ⟨o1, o2, o3, c, o4, o5, o6⟩ := z_OK_s hB.1
  have hlen : hkL.length = H := hB.2.1.2.2.2.2.2.1.1
  rw [hlen] at o5
  have hSim : 400 ≤ s ∧ q_sh h s = (0, 12, 0) := ⟨z_4 o2, o1⟩
  have hrow : 400 ≤ c ∧ q_sh h c = (3, 6, H) := ⟨z_4 o6.1.1, o5⟩
  have d1 : 1 ≤ d - 1 := by omega
  have dd : d - 1 < 2048 := by omega
  have ddd : d - 1 + 1 ≤ d := by omega
  have hlc : 59 + 64 * (d - 1) ≤ q_lc d := q_lcle (by omega) hd2
  have hlcd : q_lc d = 64 * d := by
    unfold q_lc
    rw [q_beqN (show d ≠ 2048 by omega), cond_false]
  refine q_CtH_of (by decide +kernel) hlcd (Nat.le_of_ble_eq_true rfl) ?_ _ rfl rfl
  refine w_L_act_0 (by omega) ⟨hSim, c, o4, H, hrow, ?_⟩
  refine la_bel d1 dd ddd hlc H0 (by omega) (by omega) (by omega) (fun i hi => ⟨hSim, c, o4, H, hrow, ?_⟩)
  refine la_bel d1 dd ddd hlc H0 (by omega) (by omega) (by omega) (fun t ht => ?_)
  refine la_bel (w := 3) d1 dd ddd hlc (by decide) (by decide) (by omega) (by omega) (fun r hr => ?_)
  refine la_bel (w := 13) d1 dd ddd hlc (by decide) (by decide) (by omega) (by omega) (fun e he => ?_)
  have mk : ∀ k n, k = 0 + 0 + 0 + 0 + 0 → n = 0 + 0 + 0 + 0 + 0 → q_cI g m_L_below [] d 1000 125000 [.int (x >>> ((6 : Int32) &&& 31)), .int (9 : Int32)] h k n True (fun k80 n81 x82 h79 => (q_cI g m_L_below [] d 1000 125000 [.int (x >>> ((7 : Int32) &&& 31)), .int (4 : Int32)] h79 k80 n81 True (fun k84 n85 x86 h83 => ((400 ≤ s ∧ q_sh h83 s = (0, 12, 0)) ∧ q_cI g m_X14_make [] d 1000 125000 [.ref s, .int (nI i), .int ((1 : Int32) + x82), .int x86] h83 k84 n85 True (fun k88 n89 x90 h87 => q_K g m_L_act (tableOf la_hh) d 1000 125000 h [471, 472] (la_Qa H m hf ns Q pn nu od T1 K1 (G + 18) s) k88 n89 (52, [none, some (.ref s), none, some (.int (nI i)), none, none, some (.int x90), none, none], [.int x86, .int ((1 : Int32) + x82), .int (nI i), .ref 400], h87)))))) := fun k n ek en => by
    refine la_bel (w := 9) d1 dd ddd hlc (by decide) (by decide) (by omega) (by omega) (fun z hz => ?_)
    refine la_bel (w := 4) d1 dd ddd hlc (by decide) (by decide) (by omega) (by omega) (fun r2 hr2 => ⟨hSim, ?_⟩)
    rw [la_1p]
    exact la_aMake (by omega) hd2 hT hD17 (by omega) hi (by omega) (by omega) (by omega) (by omega) (by omega)
  have wk : ∀ k n v6, k = 0 + 0 + 0 + 0 + 0 → n = 0 + 0 + 0 + 0 + 0 → ((ns = 0 ∧ v6 = 0) ∨ (0 < ns ∧ v6 = 1)) → q_cI g m_L_below [] d 1000 125000 [.int (x >>> ((5 : Int32) &&& 31)), .int (9 : Int32)] h k n True (fun k94 n95 x96 h93 => q_K g m_L_act (tableOf la_hh) d 1000 125000 h [471, 472] (la_Qa H m hf ns Q pn nu od T1 K1 (G + 18) s) k94 n95 (211, [none, some (.ref s), none, none, none, none, some (.int v6), some (.int ((1 : Int32) + x96)), none], [.int ((1 : Int32) + x96), .ref 400], h93)) := fun k n v6 ek en hv => by
    refine la_bel (w := 9) d1 dd ddd hlc (by decide) (by decide) (by omega) (by omega) (fun z hz => ?_)
    rw [la_1p]
    exact la_aWork (by omega) hd2 hT hD (by omega) (by omega) (by omega) hv (by omega) (by omega)
  refine ⟨⟨fun _ => mk _ _ rfl rfl, fun _ => mk _ _ rfl rfl, fun _ => mk _ _ rfl rfl, fun _ => ⟨hSim, la_aTie (by omega) hd2 hT hD18 hi ht (by omega) (by omega)⟩, fun _ => ⟨hSim, la_aTie (by omega) hd2 hT hD18 hi ht (by omega) (by omega)⟩, fun _ => ⟨hSim, la_aTie (by omega) hd2 hT hD18 hi ht (by omega) (by omega)⟩, fun _ => ⟨hSim, la_aFollow (by omega) hd2 hT hD18 hi ht (by omega) (by omega)⟩, fun _ => ⟨hSim, la_aFollow (by omega) hd2 hT hD18 hi ht (by omega) (by omega)⟩, fun _ => ?_, fun _ => ?_, trivial⟩, fun _ => ?_⟩
  · obtain ⟨c', z1, z2, z3⟩ := la_aDrop (g := g) (mc := 1000) (ms := 125000) (h0 := h) (k := 0 + 0 + 0 + 0 + 0) (n := 0 + 0 + 0 + 0 + 0) (by omega) hd2 hT hD18 hi (by omega) (by omega)
    exact ⟨hSim, c', z1, i, H, rfl, z2, fun b hb => ⟨hSim, c', z1, i, H, rfl, z2, z3 1 (Or.inl ⟨b, hb, rfl⟩)⟩, fun hb => ⟨hSim, c', z1, i, H, rfl, z2, z3 0 (Or.inr ⟨hb, rfl⟩)⟩⟩
  · refine la_bel (w := 2) d1 dd ddd hlc (by decide) (by decide) (by omega) (by omega) (fun z hz => ⟨fun _ => ?_, fun _ => ?_⟩)
    · exact la_aSweep (by omega) hd2 hT hD17 (by omega) (by omega)
    · exact la_aCopy (by omega) hd2 hT hD17 (by omega) (by omega) (by omega)
  · obtain ⟨b, b1, ⟨b2, b3⟩, b4, -⟩ := rows
    have hns : ns ≤ 12 := hT.2.2.2.1.2
    refine ⟨hSim, b, b1, ns, ⟨z_4 b2, b4⟩, fun hc => wk _ _ 0 rfl rfl (Or.inl ⟨?_, rfl⟩), fun hc => wk _ _ 1 rfl rfl (Or.inr ⟨?_, rfl⟩)⟩
    · rcases Nat.eq_zero_or_pos ns with e | e
      · exact e
      · exact absurd hc (nI_ge (b := ns) (a := 0) e (by omega))
    · rcases Nat.eq_zero_or_pos ns with e | e
      · rw [e] at hc; exact absurd (show nI 0 ≤ 0 by decide) hc
      · exact e
end LAACT
