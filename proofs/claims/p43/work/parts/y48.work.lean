/-! CONTRACTS of the law's barn, eleven: work, and what the class does then -/
section ZWORK
variable {g0 : q_G} {d : Nat} {h : q_H} {s : Nat} {H m hf ns oc : Nat} {pn nu mp : m_Rr} {od : Nat → Option Nat} {T1 : Nat → m_Rr} {K1 : Nat → Nat → Option Nat} {X : m_CB} {W : Nat → Nat → Int32}
theorem z_RB_len {hL : List Nat} {ν : Nat → Nat} {hl ll : List Nat} {hkL : List (Option Nat)} {bn ly pl sz ag rc ld lo lr hk rw st sh sw sp ss sr sa sd : m_Rr} (hR : m_R H m hf hL bn ly pl sz ag rc ld lo lr hk rw st sh sw sp ss sr sa sd) (hB : z_B h s ν H m hf hL pn bn ly pl sz ag rc ld hk hl ll hkL) : hl.length ≤ hf ∧ (hl ++ ll).length ≤ 128 := by
  have e2 := hB.2.1.2.1
  refine ⟨?_, ?_⟩
  · rw [e2, List.length_map]
    have h1 := (m_R_len hR.2.2.1 hR.2.2.2.1).2.1
    have h2 := hR.2.2.2.1.2.2.2.2.2.1
    omega
  · have h1 := z_len (hl ++ ll) ((List.range 128).map ν) hB.1.2.2.2.2.1 (fun x hx => by
      obtain ⟨b, b1, -, rfl⟩ := z_YR_of hB.2.1 hR.2.2.2.1.2.1 hx
      exact List.mem_map_of_mem (List.mem_range.mpr b1))
    rw [List.length_map, List.length_range] at h1
    exact h1
theorem z_Tld_congr {k : Nat} {w w' : Nat → Int32} (hT : z_Tld H oc od nu T1 K1 k w) (hw : ∀ j, j < 9 → w' j = w j) : z_Tld H oc od nu T1 K1 k w' := by
  obtain ⟨a0, a1, a2, a3, a6, a8, h0, h1, h2, h3, h6, h8, t0, t1, t3, t2, tS, tT⟩ := hT
  have eS : z_sumO w' = z_sumO w := by unfold z_sumO; rw [hw 4 (by decide), hw 5 (by decide), hw 2 (by decide)]
  have eT : z_tstO a6 w' = z_tstO a6 w := by
    unfold z_tstO
    split <;> first | rfl | (simp only [hw 7 (by decide), hw 8 (by decide), hw 1 (by decide)])
  refine ⟨a0, a1, a2, a3, a6, a8, ?_, ?_, ?_, ?_, ?_, ?_, t0, ?_, ?_, ?_, ?_, ?_⟩
  · rw [hw 0 (by decide)]; exact h0
  · rw [hw 1 (by decide)]; exact h1
  · rw [hw 2 (by decide)]; exact h2
  · rw [hw 3 (by decide)]; exact h3
  · rw [hw 6 (by decide)]; exact h6
  · rw [hw 8 (by decide)]; exact h8
  · rw [hw 1 (by decide)]; exact t1
  · rw [hw 3 (by decide)]; exact t3
  · rw [hw 2 (by decide)]; exact t2
  · rw [eS]; exact tS
  · rw [eT]; exact tT
/-- the law's counters: steps, copyings, refusals, and which half works -/
def z_Cn (h : q_H) (s G : Nat) : Prop := ∃ g p q, q_I h s 7 = nI g ∧ q_I h s 10 = nI p ∧ q_I h s 8 = nI q ∧ q ≤ g ∧ q_I h s 9 = nI (p % 2) ∧ g + p ≤ G
theorem z_Cn_mono {G G' : Nat} (hG : z_Cn h s G) (h1 : G ≤ G') : z_Cn h s G' := by
  obtain ⟨g, p, q, a1, a2, a3, a4, a5, a6⟩ := hG
  exact ⟨g, p, q, a1, a2, a3, a4, a5, by omega⟩
theorem z_flip {p : Nat} : (1 : Int32) - nI (p % 2) = nI ((p + 1) % 2) := by
  have : p % 2 = 0 ∨ p % 2 = 1 := by omega
  rcases this with e | e
  · rw [e, show (p + 1) % 2 = 1 by omega]; rfl
  · rw [e, show (p + 1) % 2 = 0 by omega]; rfl
theorem z_Cn_Cp {G : Nat} {h' : q_H} {U : Nat → Prop} {ol : List Nat} {hk : List (Option Nat)} {σ : z_St} (hG : z_Cn h s G) (hC : z_Cp h h' s hk U ol σ) : z_Cn h' s (G + 1) := by
  obtain ⟨g, p, q, a1, a2, a3, a4, a5, a6⟩ := hG
  obtain ⟨-, -, -, -, ⟨-, c9, c10, -, cr⟩, -⟩ := hC
  exact ⟨g, p + 1, q, (cr 7 (by decide) (by decide) (by decide) (by decide)).trans a1, by rw [c10, a2, nI_1], (cr 8 (by decide) (by decide) (by decide) (by decide)).trans a3, a4, by rw [c9, a5, z_flip], by omega⟩
theorem z_Cn_s {G : Nat} {h' : q_H} (hG : z_Cn h s G) (e : q_I h' s = q_I h s) : z_Cn h' s G := by
  unfold z_Cn
  rw [e]
  exact hG
theorem z_Cn_mkR {G c i L up : Nat} {h' : q_H} {hl ll : List Nat} {hk : List (Option Nat)} {size y : Int32} {σ : z_St} (hO : z_OK h s hl ll hk m) (hG : z_Cn h s G) (e : z_mkR h h' s c hl ll hk up i size L y σ) : z_Cn h' s (G + 1) := by
  have hs := z_OK_s hO
  rcases e with ⟨-, -, e⟩ | ⟨-, h1, mC, ⟨-, -, e⟩ | ⟨-, -, e⟩⟩
  · exact z_Cn_mono (z_Cn_s hG (e.1.2 s hs.2.2.1).2.2.2.1) (Nat.le_succ _)
  · exact z_Cn_s (z_Cn_Cp hG mC) (e.1.2 s (Nat.lt_of_lt_of_le hs.2.2.1 mC.1.1)).2.2.2.1
  · rw [e]; exact z_Cn_Cp hG mC
theorem z_I_tie {h' : q_H} {hk : List (Option Nat)} {i t : Nat} {r y : Int32} (e : (y, h') = z_tie h hk i t r) : q_I h' = q_I h := by
  unfold z_tie at e
  split at e
  · obtain rfl : h' = _ := congrArg Prod.snd e
    rfl
  · obtain rfl : h' = _ := congrArg Prod.snd e
    rfl
theorem z_I_untie {h' : q_H} {hk : List (Option Nat)} {i : Nat} {r y : Int32} (e : (y, h') = z_untie h hk i r) : q_I h' = q_I h := by
  unfold z_untie at e
  split at e
  · obtain rfl : h' = _ := congrArg Prod.snd e
    rfl
  · obtain rfl : h' = _ := congrArg Prod.snd e
    rfl
theorem z_I_follow {h' : q_H} {hk : List (Option Nat)} {i t : Nat} {r y : Int32} (e : (y, h') = z_follow h s hk i t r) : q_I h' = q_I h := by
  unfold z_follow at e
  split at e
  · split at e
    · obtain rfl : h' = _ := congrArg Prod.snd e
      rfl
    · obtain rfl : h' = _ := congrArg Prod.snd e
      rfl
  · obtain rfl : h' = _ := congrArg Prod.snd e
    rfl
theorem z_I_drop {h' : q_H} {o : Option Nat} {i : Nat} {y : Int32} (e : (y, h') = z_drop h s o i) : q_I h' = q_I h := by
  unfold z_drop at e
  obtain rfl : h' = _ := congrArg Prod.snd e
  rfl
theorem z_Cn_done {G v c i1 i2 L up : Nat} {h' : q_H} {hl ll : List Nat} {hk : List (Option Nat)} {o1 o2 : Option Nat} {y : Int32} {σ : z_St} (hO : z_OK h s hl ll hk m) (hG : z_Cn h s G) (e : z_doneR h h' s v c hl ll hk up i1 i2 L o1 o2 y σ) : z_Cn h' s (G + 1) := by
  rcases e with ⟨-, e⟩ | ⟨-, e⟩ | ⟨-, e⟩ | ⟨-, e⟩ | ⟨-, e⟩
  · exact z_Cn_mkR hO hG e
  · exact z_Cn_mono (z_Cn_s hG (congrFun (z_I_tie e) s)) (Nat.le_succ _)
  · exact z_Cn_mono (z_Cn_s hG (congrFun (z_I_untie e) s)) (Nat.le_succ _)
  · exact z_Cn_mono (z_Cn_s hG (congrFun (z_I_follow e) s)) (Nat.le_succ _)
  · exact z_Cn_mono (z_Cn_s hG (congrFun (z_I_drop e) s)) (Nat.le_succ _)
theorem z_Cn_aft {G r : Nat} (hG : z_Cn h s G) (hr : r ≤ 1) : z_Cn (z_aft h s (nI r)) s (G + 1) := by
  obtain ⟨g, p, q, a1, a2, a3, a4, a5, a6⟩ := hG
  have eS : ∀ j, j ≠ 7 → j ≠ 8 → q_I (z_aft h s (nI r)) s j = q_I h s j := fun j h7 h8 => (q_u2_j _ _ _ _ _ _ h7).trans (q_u2_j _ _ _ _ _ _ h8)
  have e7 : q_I (z_aft h s (nI r)) s 7 = q_I h s 7 + 1 := (q_u2_s _ _ _ _).trans (congrArg (· + 1) (q_u2_j _ _ _ _ _ _ (by decide)))
  have e8 : q_I (z_aft h s (nI r)) s 8 = q_I h s 8 + nI r := (q_u2_j _ _ _ _ _ _ (by decide)).trans (q_u2_s _ _ _ _)
  exact ⟨g + 1, p, q + r, by rw [e7, a1, nI_1], (eS 10 (by decide) (by decide)).trans a2, by rw [e8, a3, nI_add], by omega, (eS 9 (by decide) (by decide)).trans a5, by omega⟩
set_option maxHeartbeats 1000000 in
theorem z_workC (hd : 7 ≤ d) (hd2 : d < 2048) (hP : m_Pl H m hf pn mp) (q1 : pn 4 = nI ns) (hns : 0 < ns) (h20 : ns ≤ 20) (hoc : pn 5 = nI oc) (hoc4 : oc ≤ 400) (hT : ∀ k, k < ns → z_Tld H oc od nu T1 K1 k (W k)) (hf32 : hf ≤ 32) (hm64 : m ≤ 64) {N g : Nat} (hN : N < 1000) (hS : z_Rows h s ns W) (hX : z_RB H m hf pn h s X) (hg : X.1 10 = nI g) (hg2 : g + N < 2 ^ 30) {G : Nat} (hG0 : z_Cn h s G) :
    q_Ct g0 m_X14_work d (N * 101) (N * 12425) [] [.ref s, .int (nI N)] h (fun o h' => ∃ y, o = .inl (some (.int y)) ∧ ∃ X', m_gC pn nu od T1 K1 (nI N) 4096 X 0 0 = some (y, X') ∧ z_RB H m hf pn h' s X' ∧ z_fr h h' ∧ X'.1 10 = nI (g + N) ∧ z_Cn h' s (G + 2 * N)) := by
  generalize hGC : m_gC pn nu od T1 K1 (nI N) 4096 X 0 0 = GC
  have key : ∀ (n i g1 : Nat) (h1 : q_H) (X1 : m_CB) (x : Int32) (fu kk nn : Nat), i + n = N → n < fu → z_Rows h1 s ns W → z_RB H m hf pn h1 s X1 → X1.1 10 = nI g1 → g1 + n = g + N → kk + n * 101 ≤ N * 101 → nn + n * 12425 ≤ N * 12425 → z_fr h h1 → z_Cn h1 s (G + 2 * i) → GC = m_gC pn nu od T1 K1 (nI N) fu X1 x (nI i) →
      q_K g0 m_X14_work [] d (N * 101) (N * 12425) h [] (fun o h' => ∃ y, o = .inl (some (.int y)) ∧ ∃ X', GC = some (y, X') ∧ z_RB H m hf pn h' s X' ∧ z_fr h h' ∧ X'.1 10 = nI (g + N) ∧ z_Cn h' s (G + 2 * N)) kk nn (4, [some (.ref s), some (.int (nI N)), some (.int x), some (.int (nI i)), none, none, none], [], h1) := by
    intro n
    induction n with
    | zero =>
      intro i g1 h1 X1 x fu kk nn hi hfu hS1 hX1 hg1 hg3 hkk hnn hf0 hcn hE
      obtain ⟨fu, rfl⟩ : ∃ z, fu = z + 1 := ⟨fu - 1, by omega⟩
      rw [m_gC_s, if_pos (nI_le (by omega) (by omega))] at hE
      refine w_X14_work_4 (by omega) ⟨fun _ => ⟨rfl, ⟨by omega, by omega⟩, x, rfl, X1, hE, hX1, hf0, by rw [hg1]; congr 1, by rw [show N = i by omega]; exact hcn⟩, fun hn => absurd (nI_le (by omega) (by omega)) hn⟩
    | succ n ih =>
      intro i g1 h1 X1 x fu kk nn hi hfu hS1 hX1 hg1 hg3 hkk hnn hf0 hcn hE
      obtain ⟨fu, rfl⟩ : ∃ z, fu = z + 1 := ⟨fu - 1, by omega⟩
      obtain ⟨hL, Y, ν, hl, ll, hkL, hR, hB⟩ := id hX1
      have hkn : g1 % ns < ns := Nat.mod_lt _ hns
      obtain ⟨b, b1, ⟨b2, b3⟩, b4, b5⟩ := id hS1
      obtain ⟨v, v1, v2, v3⟩ := b5 (g1 % ns) hkn
      have hTk : z_Tld H oc od nu T1 K1 (g1 % ns) (q_I h1 v) := z_Tld_congr (hT _ hkn) v3
      obtain ⟨a0, a1, a2, a3, a6, a8, ⟨w0, l0⟩, ⟨w1, l1⟩, ⟨w2, l2⟩, ⟨w3, l3⟩, ⟨w6, l6⟩, ⟨w8, l8⟩, -⟩ := id hTk
      have hlen : hkL.length = H := hB.2.1.2.2.2.2.2.1.1
      obtain ⟨n1, n2⟩ := z_RB_len hR hB
      obtain ⟨o1, o2, o3, c, o4, o5, o6⟩ := z_OK_s hB.1
      have gg1 : hkL[a1]? = some hkL[a1] := List.getElem?_eq_getElem (by omega)
      have gg2 : hkL[a2]? = some hkL[a2] := List.getElem?_eq_getElem (by omega)
      have gg8 : hkL[a8]? = some hkL[a8] := List.getElem?_eq_getElem (by omega)
      have hBal : ∀ {j : Nat} {o : Option Nat}, hkL[j]? = some o → ∀ y, o = some y → z_Bal h1 y := fun hj y e => (hB.1.2.1 y (hB.1.2.2.2.1 y (by rw [← e]; exact List.mem_of_getElem? hj))).1
      obtain ⟨nx0, nx1⟩ := z_next hP q1 hns h20 hoc hoc4 hTk hg1 (by omega) hR hB o4 w1 gg1 w2 gg2 w3 l3 w8 gg8
      have e7 : q_I h1 s 7 = nI g1 := (hB.2.2.2.2.1).trans hg1
      have hr1 : 3 * 128 * hl.length ≤ 3 * 128 * 32 := Nat.mul_le_mul_left _ (by omega)
      refine z_workIt (mc2 := 5 + 3 * hl.length) (ms2 := 3 * 128 * hl.length + (6 + a3 + 128)) (due := z_dueV (q_I h1) s v (z_sum (fun x => q_I h1 x 0) hl) (nI hl.length + nI ll.length) hkL[a8] hkL[a1]) (R := fun y h' => z_doneR h1 h' s v c hl ll hkL m a1 a2 a3 hkL[a1] hkL[a2] y (z_copy (z_rp h1) m (q_I h1 s 5) hl ll hkL (q_I h1) (q_I h1 s 11))) (i := g1 % ns) (N := ns) (by omega) hd2 ⟨z_4 o2, o1⟩ b1 ⟨z_4 b2, b4⟩ (show ns < 65536 by omega) (by rw [e7]; exact pk_rem (by omega) hns (by omega)) hkn v1 (nI_ge (by omega) (by omega)) ?_ (fun _ => ?_) (fun y h' hD => ?_) (by omega) (by omega) (fun hdue => ?_) (fun hdue y h' hD => ?_)
      · exact z_dueC (by omega) (by omega) hB.1.1 (fun x hx => (hB.1.2.1 x (List.mem_append_left _ hx)).1) v2 w8 gg8 (hBal gg8) w1 gg1 (hBal gg1)
      · exact z_doneC (B := 128) (d := d - 1) (by omega) (by omega) hB.1 o4 v2 w1 gg1 w2 gg2 w3 (show a3 < 65536 by omega) n2 (by omega) (by decide) rfl
      · have f := z_fr_done hB.1 o4 hD
        exact ⟨z_doneR_01 hD, z_4 o2, (f.2 s o3).1.trans o1⟩
      · obtain ⟨X', p1, p2, p3⟩ := nx0 hdue
        have f : z_fr h1 (z_aft h1 s 0) := z_fr_trans (z_fr_I o1) (z_fr_I o1)
        rw [nI_1, Int32.add_zero]
        have a1 : kk + n * 101 ≤ N * 101 := by omega
        have a2 : nn + n * 12425 ≤ N * 12425 := Nat.le_trans (Nat.add_le_add_left (Nat.mul_le_mul_right _ (Nat.le_succ n)) nn) hnn
        refine ih (i + 1) (g1 + 1) (z_aft h1 s 0) X' x fu kk nn (by omega) (by omega) (z_Rows_fr o1 o3 hS1 f) p2 p3.1 (by omega) a1 a2 (z_fr_trans hf0 f) (z_Cn_mono (z_Cn_aft (r := 0) hcn (by omega)) (by omega)) ?_
        rw [hE, m_gC_s, if_neg (nI_ge (by omega) (by omega)), p1, Option.bind_some, if_pos (show q_bz false = 0 from rfl), nI_1]
      · obtain ⟨ok, X', p1, py, p2, p3⟩ := nx1 hdue y h' hD
        have f0 := z_fr_done hB.1 o4 hD
        have o1' : q_sh h' s = (0, 12, 0) := (f0.2 s o3).1.trans o1
        have f : z_fr h1 (z_aft h' s (if y = 0 then 1 else 0)) := z_fr_trans f0 (z_fr_trans (z_fr_I o1') (z_fr_I o1'))
        rw [nI_1]
        refine ih (i + 1) (g1 + 1) (z_aft h' s (if y = 0 then 1 else 0)) X' (x + y) fu _ _ (by omega) (by omega) (z_Rows_fr o1 o3 hS1 f) p2 p3.1 (by omega) (by omega) (by omega) (z_fr_trans hf0 f) (by
          have hcd := z_Cn_done hB.1 hcn hD
          by_cases hy : y = 0
          · rw [if_pos hy]; exact z_Cn_mono (z_Cn_aft (r := 1) hcd (by omega)) (by omega)
          · rw [if_neg hy]; exact z_Cn_mono (z_Cn_aft (r := 0) hcd (by omega)) (by omega)) ?_
        rw [hE, m_gC_s, if_neg (nI_ge (by omega) (by omega)), p1, Option.bind_some]
        cases ok with
        | false =>
          have py : y = 0 := py
          rw [py, Int32.add_zero, if_pos (show q_bz false = 0 from rfl), nI_1]
        | true =>
          have py : y = 1 := py
          rw [py, if_neg (show ¬ q_bz true = 0 by decide), nI_1]
  refine q_CtK ok_X14_work (by omega) (Nat.le_of_ble_eq_true rfl) ?_ _ rfl rfl
  exact w_X14_work_0 (by omega) (key N 0 g h X 0 4096 0 0 (by omega) (by omega) hS hX hg (by omega) (by omega) (by omega) z_fr_rfl hG0 (by rw [show nI 0 = (0 : Int32) from rfl]; exact hGC.symm))
end ZWORK
