/-! THE LAW'S LOOP: hooks, two and three of them -/
/-- what is looked at while nothing is done -/
def la_Vw (H m hf G : Nat) (hk ly : m_Rr) (rp : Nat → List (Option Nat)) (nb : Nat) (h : q_H) : Prop := lc_S H m hf G h ∧ (∃ hL st sh sw sp ss sr sa sd, la_m H m hf hL h st sh sw sp ss sr sa sd ∧ lc_nb hL (q_I h 459) = nb) ∧ q_I h 470 = hk ∧ q_I h 459 = ly ∧ lc_rp (q_I h 463) (q_I h 464) = rp
abbrev la_l71 (s : Nat) (v4 v5 v6 : Int32) (v7 : Int64) (v9 : Int32) : List (Option Value) := [some (.ref 52), none, some (.ref s), some (.ref 400), some (.int v4), some (.int v5), some (.int v6), some (.long v7), none, some (.int v9), none, none, none, none, none, none, none, none, none, none, none, none, none, none]
abbrev la_l81 (s : Nat) (v4 v5 v6 : Int32) (v7 : Int64) (v9 v10 : Int32) : List (Option Value) := [some (.ref 52), none, some (.ref s), some (.ref 400), some (.int v4), some (.int v5), some (.int v6), some (.long v7), none, some (.int v9), some (.int v10), none, none, none, none, none, none, none, none, none, none, none, none, none]
abbrev la_l124 (s : Nat) (v4 v5 v6 : Int32) (v7 : Int64) (v9 v10 v11 v12 : Int32) : List (Option Value) := [some (.ref 52), none, some (.ref s), some (.ref 400), some (.int v4), some (.int v5), some (.int v6), some (.long v7), none, some (.int v9), some (.int v10), some (.int v11), some (.int v12), none, none, none, none, none, none, none, none, none, none, none]
section LAFAR
variable {xt : List ExceptionTableEntry} {g : q_G} {mc ms : Nat} {mv : List Nat} {Q : q_Po} {H m hf G nb s k n i j b c : Nat} {hk ly : m_Rr} {rp : Nat → List (Option Nat)} {h h' : q_H} {v5 v6 v11 : Int32} {v7 : Int64}
theorem la_Vw_lk (e : la_lk h h') (hV : la_Vw H m hf G hk ly rp nb h) : la_Vw H m hf G hk ly rp nb h' := by
  obtain ⟨hS, ⟨hL, st, sh, sw, sp, ss, sr, sa, sd, hR, hb⟩, e1, e2, e3⟩ := hV
  have r := e.2.2.2.2.2
  exact ⟨lc_S_lk e hS, ⟨hL, st, sh, sw, sp, ss, sr, sa, sd, la_m_lk e hR, by rw [r 459 rfl]; exact hb⟩, (r 470 rfl).trans e1, (r 459 rfl).trans e2, by rw [r 463 rfl, r 464 rfl]; exact e3⟩
theorem lw_c {M2 : q_M} {mc2 ms2 : Nat} {As : List Value} {C : Nat → Nat → Int32 → q_H → Prop} {v : Int32} (hC : q_Ct g M2 1000 mc2 ms2 [] As h (fun o h' => ∃ x, o = .inl (some (.int x)) ∧ x = v ∧ h' = h)) (hk : k + mc2 ≤ mc) (hn : n + ms2 ≤ ms) (hc : C (k + mc2) (n + ms2) v h) : q_cI g M2 [] 2048 mc ms As h k n True C :=
  la_c hC (by decide) (show 59 + 64 * 1000 ≤ q_lc 2048 by decide) hk hn hc
theorem lw_p {M2 : q_M} {mv2 : List Nat} {mc2 ms2 : Nat} {As : List Value} {V : Prop} {C : Nat → Nat → Int32 → q_H → Prop} {P : Int32 → Prop} (hC : q_Ct g M2 1000 mc2 ms2 mv2 As h (fun o h' => ∃ x, o = .inl (some (.int x)) ∧ P x ∧ la_lk h h')) (hk : k + mc2 ≤ mc) (hn : n + ms2 ≤ ms) (hV : V) (hc : ∀ y h', P y → la_lk h h' → C (k + mc2) (n + ms2) y h') : q_cI g M2 mv2 2048 mc ms As h k n V C :=
  q_cI_of _ hC (by decide) (show 59 + 64 * 1000 ≤ q_lc 2048 by decide) hk hn hV (fun x h' hp => hc x h' hp.1 hp.2)
theorem lc_Far_of {v : Int32} {t x : Nat} (hF : lc_Far rp nb b t v) (hp : lc_pth rp x b t) : ∃ d, v = nI d ∧ d < nb ∧ lc_pth rp d b t ∧ d ≤ x := by
  rcases hF with ⟨-, h1⟩ | ⟨d, h1, h2, h3, h4⟩
  · exact absurd hp (h1 x)
  · exact ⟨d, h1, h2, h3, h4 x hp⟩
theorem lc_Far_pos {v : Int32} {t : Nat} (hF : lc_Far rp nb b t v) (hp : ¬ v < 0) : ∃ d, v = nI d ∧ d < nb ∧ lc_pth rp d b t := by
  rcases hF with ⟨h0, -⟩ | ⟨d, h1, h2, h3, h4⟩
  · rw [h0] at hp; exact absurd (by decide) hp
  · exact ⟨d, h1, h2, h3⟩
theorem lw_hold (hV : la_Vw H m hf G hk ly rp nb h) (hi : i < H) : (hk i = -1 ∨ ∃ b, b < 128 ∧ ¬ ly b = 0 ∧ hk i = nI b) := by
  obtain ⟨hS, ⟨hL, st, sh, sw, sp, ss, sr, sa, sd, hR, hb⟩, e1, e2, e3⟩ := hV
  rw [← e1, ← e2]
  exact lc_hook hR hi
theorem lw_far (hV : la_Vw H m hf G hk ly rp nb h) (hi : i < H) (hj : j < H) (hb : hk i = nI b) (b8 : b < 128) (b0 : ¬ ly b = 0) (hc : hk j = nI c) (c8 : c < 128) {C : Nat → Nat → Int32 → q_H → Prop} (hk : k + 6 ≤ mc) (hn : n + 36 ≤ ms) (hC : ∀ y h', lc_Far rp nb b c y → la_lk h h' → C (k + 6) (n + 36) y h') : q_cI g m_X12_ropesBetween [] 2048 mc ms [.ref 400, .int (nI i), .int (nI j)] h k n True C := by
  obtain ⟨hS, ⟨hL, st, sh, sw, sp, ss, sr, sa, sd, hR, hnb⟩, e1, e2, e3⟩ := hV
  have hCt := lk_between (g := g) (d := 1000) (by decide) hS hR hi hj (by rw [e1]; exact hb) b8 (by rw [e2]; exact b0) (by rw [e1]; exact hc) c8
  rw [e3, hnb] at hCt
  exact lw_p hCt hk hn trivial hC
theorem lw_same (hV : la_Vw H m hf G hk ly rp nb h) (hi : i < H) (hj : j < H) {C : Nat → Nat → Int32 → q_H → Prop} (hk0 : k + 2 ≤ mc) (hn : n + 12 ≤ ms) (hC : C (k + 2) (n + 12) (q_bz (decide (¬ hk i = -1 ∧ hk i = hk j))) h) : q_cI g m_X12_holdSame [] 2048 mc ms [.ref 400, .int (nI i), .int (nI j)] h k n True C := by
  obtain ⟨hS, -, e1, e2, e3⟩ := hV
  have hCt := lk_same (g := g) (d := 1000) (by decide) hS hi hj
  rw [e1] at hCt
  exact lw_c hCt hk0 hn hC
theorem lw_holds (hV : la_Vw H m hf G hk ly rp nb h) (hi : i < H) {C : Nat → Nat → Int32 → q_H → Prop} (hk0 : k + 1 ≤ mc) (hn : n + 6 ≤ ms) (hC : C (k + 1) (n + 6) (q_bz (decide (¬ hk i = -1))) h) : q_cI g m_X12_holdsBale [] 2048 mc ms [.ref 400, .int (nI i)] h k n True C := by
  obtain ⟨hS, -, e1, e2, e3⟩ := hV
  have hCt := lk_holds (g := g) (d := 1000) (by decide) hS hi
  rw [e1] at hCt
  exact lw_c hCt hk0 hn hC
theorem lw_bales (hV : la_Vw H m hf G hk ly rp nb h) {C : Nat → Nat → Int32 → q_H → Prop} (hk0 : k + 0 ≤ mc) (hn : n + 0 ≤ ms) (hC : C (k + 0) (n + 0) (nI nb) h) : q_cI g m_X12_bales [] 2048 mc ms [.ref 400] h k n True C := by
  obtain ⟨hS, ⟨hL, st, sh, sw, sp, ss, sr, sa, sd, hR, hnb⟩, e1, e2, e3⟩ := hV
  have hCt := lk_bales (g := g) (d := 1000) (by decide) hS
  rw [lc_nbI hR, hnb] at hCt
  exact lw_c hCt hk0 hn hC
theorem lw_128 (hV : la_Vw H m hf G hk ly rp nb h) : nb ≤ 128 := by
  obtain ⟨hS, ⟨hL, st, sh, sw, sp, ss, sr, sa, sd, hR, hnb⟩, e1, e2, e3⟩ := hV
  rw [← hnb]; exact lc_nb_128 hR
theorem la_OV (hV : la_Vw H m hf G hk ly rp nb h) : 400 ≤ 400 ∧ q_sh h 400 = (0, 10, 0) := la_O hV.1
theorem lw_m1 {x : Nat} (hx : x < 2147483648) : (-1 : Int32) ≤ nI x := Int32.le_of_lt (Int32.lt_of_lt_of_le (show (-1 : Int32) < 0 by decide) (Int32.not_lt.mp (nI_pos hx)))
theorem lw_nm1 {x : Nat} (hx : x < 2147483648) : ¬ nI x ≤ (-1 : Int32) := Int32.not_le.mpr (Int32.lt_of_lt_of_le (show (-1 : Int32) < 0 by decide) (Int32.not_lt.mp (nI_pos hx)))
/-- by a third one it is no shorter -/
theorem la_124 (H6 : H ≤ 6) (hi : i < H) (hj : j < H) (hb : hk i = nI b) (b8 : b < 128) (b0 : ¬ ly b = 0) (hc : hk j = nI c) (c8 : c < 128) (c0 : ¬ ly c = 0) (hF : lc_Far rp nb b c v11) : ∀ (z t k n : Nat) (h : q_H), t + z = H → la_Vw H m hf G hk ly rp nb h → k + z * 25 ≤ mc → n + z * 150 ≤ ms →
    (∀ h' k2 n2, la_lk h h' → k2 ≤ k + z * 25 → n2 ≤ n + z * 150 → la_K xt g mc ms mv Q k2 n2 (81, la_l81 s (nI H) v5 v6 v7 (nI i) (nI (j + 1)), [], h')) → la_K xt g mc ms mv Q k n (124, la_l124 s (nI H) v5 v6 v7 (nI i) (nI j) v11 (nI t), [], h) := by
  intro z
  induction z with
  | zero =>
    intro t k n h ht hV hk0 hn hK
    obtain rfl : t = H := by omega
    refine w_L_lw_124 (by decide) ⟨fun _ => ?_, fun hq => absurd (nI_le (Nat.le_refl _) (by omega)) hq⟩
    rw [nI_1]
    exact hK h k n la_lk_r (by omega) (by omega)
  | succ z ih =>
    intro t k n h ht hV hk0 hn hK
    have htH : t < H := by omega
    have nx : ∀ h' k2 n2, la_lk h h' → k2 ≤ k + 25 → n2 ≤ n + 150 → la_K xt g mc ms mv Q k2 n2 (124, la_l124 s (nI H) v5 v6 v7 (nI i) (nI j) v11 (nI t + 1), [], h') := fun h' k2 n2 e a1 a2 => by
      rw [nI_1]
      exact ih (t + 1) k2 n2 h' (by omega) (la_Vw_lk e hV) (by omega) (by omega) (fun h2 k3 n3 e2 a3 a4 => hK h2 k3 n3 (la_lk_t e e2) (by omega) (by omega))
    refine w_L_lw_124 (by decide) ⟨fun hq => absurd hq (nI_ge htH (by omega)), fun _ => ⟨la_OV hV, lw_holds hV htH (by omega) (by omega) ?_⟩⟩
    rcases lw_hold hV htH with ht0 | ⟨e, e8, e0, he⟩
    · rw [ht0]
      exact ⟨fun _ => nx h _ _ la_lk_r (by omega) (by omega), fun hq => absurd rfl hq⟩
    · rw [decide_eq_true (show ¬ hk t = -1 by rw [he]; exact m_nI_m1 (by omega))]
      refine ⟨fun hq => absurd hq (by decide), fun _ => ⟨fun _ => nx h _ _ la_lk_r (by omega) (by omega), fun hpos => ?_⟩⟩
      obtain ⟨d1, f1, f2, f3⟩ := lc_Far_pos hF hpos
      have hnb := lw_128 hV
      refine ⟨la_OV hV, lw_far hV hj htH hc c8 c0 he e8 (by omega) (by omega) (fun x8 h5 F8 e5 => ⟨fun _ => nx h5 _ _ e5 (by omega) (by omega), fun hp8 => ?_⟩)⟩
      obtain ⟨d2, p1, p2, p3⟩ := lc_Far_pos F8 hp8
      have hV5 := la_Vw_lk e5 hV
      refine ⟨la_OV hV5, lw_far hV5 hi htH hb b8 b0 he e8 (by omega) (by omega) (fun x12 h9 F12 e9 => ⟨fun hq => ?_, fun _ => ?_⟩)⟩
      · obtain ⟨d3, r1, r2, r3, r4⟩ := lc_Far_of F12 (lc_pth_app f3 p3)
        rw [r1] at hq
        exact absurd hq (nI_pos (by omega))
      · have hV9 := la_Vw_lk e9 hV5
        refine ⟨la_OV hV9, lw_far hV9 hi htH hb b8 b0 he e8 (by omega) (by omega) (fun x16 h13 F16 e13 => ?_)⟩
        have hV13 := la_Vw_lk e13 hV9
        refine ⟨la_OV hV13, lw_far hV13 hj htH hc c8 c0 he e8 (by omega) (by omega) (fun x20 h17 F20 e17 => ⟨fun _ => nx h17 _ _ (la_lk_t (la_lk_t e5 e9) (la_lk_t e13 e17)) (by omega) (by omega), fun hq => absurd ?_ hq⟩)⟩
        obtain ⟨d5, s1, s2, s3, s4⟩ := lc_Far_of F20 p3
        obtain ⟨d4, r1, r2, r3, r4⟩ := lc_Far_of F16 (lc_pth_app f3 s3)
        rw [r1, f1, s1, nI_add]
        exact nI_le r4 (by omega)
/-- two hooks -/
theorem la_81 (H6 : H ≤ 6) (hi : i < H) (hb : hk i = nI b) (b8 : b < 128) (b0 : ¬ ly b = 0) : ∀ (z j k n : Nat) (h : q_H), j + z = H → la_Vw H m hf G hk ly rp nb h → k + z * 165 ≤ mc → n + z * 990 ≤ ms →
    (∀ h' k2 n2, la_lk h h' → k2 ≤ k + z * 165 → n2 ≤ n + z * 990 → la_K xt g mc ms mv Q k2 n2 (71, la_l71 s (nI H) v5 v6 v7 (nI (i + 1)), [], h')) → la_K xt g mc ms mv Q k n (81, la_l81 s (nI H) v5 v6 v7 (nI i) (nI j), [], h) := by
  intro z
  induction z with
  | zero =>
    intro j k n h hj hV hk0 hn hK
    obtain rfl : j = H := by omega
    refine w_L_lw_81 (by decide) ⟨fun _ => ?_, fun hq => absurd (nI_le (Nat.le_refl _) (by omega)) hq⟩
    rw [nI_1]
    exact hK h k n la_lk_r (by omega) (by omega)
  | succ z ih =>
    intro j k n h hj hV hk0 hn hK
    have hjH : j < H := by omega
    have nx : ∀ h' k2 n2, la_lk h h' → k2 ≤ k + 165 → n2 ≤ n + 990 → la_K xt g mc ms mv Q k2 n2 (81, la_l81 s (nI H) v5 v6 v7 (nI i) (nI (j + 1)), [], h') := fun h' k2 n2 e a1 a2 =>
      ih (j + 1) k2 n2 h' (by omega) (la_Vw_lk e hV) (by omega) (by omega) (fun h2 k3 n3 e2 a3 a4 => hK h2 k3 n3 (la_lk_t e e2) (by omega) (by omega))
    refine w_L_lw_81 (by decide) ⟨fun hq => absurd hq (nI_ge hjH (by omega)), fun _ => ⟨la_OV hV, lw_holds hV hjH (by omega) (by omega) ?_⟩⟩
    rcases lw_hold hV hjH with ht0 | ⟨c, c8, c0, hc⟩
    · rw [ht0]
      refine ⟨fun hq => absurd rfl hq, fun _ => ?_⟩
      rw [nI_1]
      exact nx h _ _ la_lk_r (by omega) (by omega)
    · rw [decide_eq_true (show ¬ hk j = -1 by rw [hc]; exact m_nI_m1 (by omega))]
      refine ⟨fun _ => ⟨la_OV hV, lw_far hV hi hjH hb b8 b0 hc c8 (by omega) (by omega) (fun x8 h5 F8 e5 => ?_)⟩, fun hq => absurd hq (by decide)⟩
      have hV5 := la_Vw_lk e5 hV
      have hO5 := la_OV hV5
      have hnb := lw_128 hV5
      have hbn : ¬ hk i = -1 := by rw [hb]; exact m_nI_m1 (by omega)
      have hcn : ¬ hk j = -1 := by rw [hc]; exact m_nI_m1 (by omega)
      have hS1 : decide (¬ hk i = -1 ∧ hk i = hk j) = decide (b = c) := decide_eq_decide.mpr ⟨fun hh => (nI_eq (by omega) (by omega)).mp (by rw [← hb, ← hc]; exact hh.2), fun hh => ⟨hbn, by rw [hb, hc, hh]⟩⟩
      have hS2 : decide (¬ hk j = -1 ∧ hk j = hk i) = decide (b = c) := decide_eq_decide.mpr ⟨fun hh => ((nI_eq (by omega) (by omega)).mp (by rw [← hb, ← hc]; exact hh.2)).symm, fun hh => ⟨hcn, by rw [hb, hc, hh]⟩⟩
      have hx0 : x8 = 0 ↔ b = c := by
        constructor
        · intro hx
          obtain ⟨d1, f1, f2, f3⟩ := lc_Far_pos F8 (by rw [hx]; decide)
          have : d1 = 0 := (q_nI0 (by omega)).mp (f1.symm.trans hx)
          rw [this] at f3
          exact f3
        · intro hx
          obtain ⟨d1, f1, f2, f3, f4⟩ := lc_Far_of F8 (x := 0) hx
          rw [f1, show d1 = 0 by omega]; rfl
      have fin : ∀ k2 n2, k2 ≤ k + 15 → n2 ≤ n + 90 → la_K xt g mc ms mv Q k2 n2 (124, la_l124 s (nI H) v5 v6 v7 (nI i) (nI j) x8 0, [], h5) := fun k2 n2 a1 a2 =>
        la_124 H6 hi hjH hb b8 b0 hc c8 c0 F8 H 0 k2 n2 h5 (by omega) hV5 (by omega) (by omega) (fun h2 k3 n3 e2 a3 a4 => nx h2 k3 n3 (la_lk_t e5 e2) (by omega) (by omega))
      have hle : ¬ nI nb ≤ x8 ∧ (-1 : Int32) ≤ x8 := by
        rcases F8 with ⟨f1, -⟩ | ⟨d1, f1, f2, -⟩
        · rw [f1]; exact ⟨lw_nm1 (by omega), by decide⟩
        · rw [f1]; exact ⟨nI_ge f2 (by omega), lw_m1 (by omega)⟩
      have sm1 : ∀ {k2 n2 : Nat} {C : Nat → Nat → Int32 → q_H → Prop}, k2 + 2 ≤ mc → n2 + 12 ≤ ms → C (k2 + 2) (n2 + 12) (q_bz (decide (b = c))) h5 → q_cI g m_X12_holdSame [] 2048 mc ms [.ref 400, .int (nI i), .int (nI j)] h5 k2 n2 True C := fun a1 a2 a3 => lw_same hV5 hi hjH a1 a2 (by rw [hS1]; exact a3)
      have sm2 : ∀ {k2 n2 : Nat} {C : Nat → Nat → Int32 → q_H → Prop}, k2 + 2 ≤ mc → n2 + 12 ≤ ms → C (k2 + 2) (n2 + 12) (q_bz (decide (b = c))) h5 → q_cI g m_X12_holdSame [] 2048 mc ms [.ref 400, .int (nI j), .int (nI i)] h5 k2 n2 True C := fun a1 a2 a3 => lw_same hV5 hjH hi a1 a2 (by rw [hS2]; exact a3)
      refine ⟨hO5, sm1 (by omega) (by omega) ⟨hO5, sm2 (by omega) (by omega) ⟨fun hq => absurd rfl hq, fun _ => ⟨fun hx => ⟨hO5, sm1 (by omega) (by omega) ⟨fun hq => absurd ?_ hq, fun _ => ⟨hO5, lw_bales hV5 (by omega) (by omega) ⟨fun hq => absurd hq hle.1, fun _ => ⟨fun _ => fin _ _ (by omega) (by omega), fun hq => absurd hle.2 hq⟩⟩⟩⟩⟩, fun hx => ⟨hO5, sm1 (by omega) (by omega) ⟨fun hq => absurd ?_ hq, fun _ => ⟨hO5, lw_bales hV5 (by omega) (by omega) ⟨fun hq => absurd hq hle.1, fun _ => ⟨fun _ => fin _ _ (by omega) (by omega), fun hq => absurd hle.2 hq⟩⟩⟩⟩⟩⟩⟩⟩⟩
      · rw [decide_eq_false (fun hh => hx (hx0.mpr hh))]; rfl
      · rw [decide_eq_true (hx0.mp hx)]; rfl
/-- hooks -/
theorem la_71 (H6 : H ≤ 6) : ∀ (z i k n : Nat) (h : q_H), i + z = H → la_Vw H m hf G hk ly rp nb h → k + z * 991 ≤ mc → n + z * 5946 ≤ ms →
    (∀ h' k2 n2, la_lk h h' → k2 ≤ k + z * 991 → n2 ≤ n + z * 5946 → la_K xt g mc ms mv Q k2 n2 (71, la_l71 s (nI H) v5 v6 v7 (nI H), [], h')) → la_K xt g mc ms mv Q k n (71, la_l71 s (nI H) v5 v6 v7 (nI i), [], h) := by
  intro z
  induction z with
  | zero =>
    intro i k n h hi hV hk0 hn hK
    obtain rfl : i = H := by omega
    exact hK h k n la_lk_r (by omega) (by omega)
  | succ z ih =>
    intro i k n h hi hV hk0 hn hK
    have hiH : i < H := by omega
    have nx : ∀ h' k2 n2, la_lk h h' → k2 ≤ k + 991 → n2 ≤ n + 5946 → la_K xt g mc ms mv Q k2 n2 (71, la_l71 s (nI H) v5 v6 v7 (nI (i + 1)), [], h') := fun h' k2 n2 e a1 a2 =>
      ih (i + 1) k2 n2 h' (by omega) (la_Vw_lk e hV) (by omega) (by omega) (fun h2 k3 n3 e2 a3 a4 => hK h2 k3 n3 (la_lk_t e e2) (by omega) (by omega))
    refine w_L_lw_71 (by decide) ⟨fun hq => absurd hq (nI_ge hiH (by omega)), fun _ => ⟨la_OV hV, lw_holds hV hiH (by omega) (by omega) ?_⟩⟩
    rcases lw_hold hV hiH with ht0 | ⟨b, b8, b0, hb⟩
    · rw [ht0]
      refine ⟨fun hq => absurd rfl hq, fun _ => ?_⟩
      rw [nI_1]
      exact nx h _ _ la_lk_r (by omega) (by omega)
    · rw [decide_eq_true (show ¬ hk i = -1 by rw [hb]; exact m_nI_m1 (by omega))]
      exact ⟨fun _ => la_81 H6 hiH hb b8 b0 H 0 _ _ h (by omega) hV (by omega) (by omega) (fun h2 k3 n3 e2 a3 a4 => nx h2 k3 n3 e2 (by omega) (by omega)), fun hq => absurd hq (by decide)⟩
end LAFAR
