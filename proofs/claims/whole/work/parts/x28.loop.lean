/-! THE LAW'S LOOP (printed by wip/gen/gen28.py) -/
def q_tgL : List Nat := [25, 100, 135, 142, 149, 156, 163, 170, 177, 184, 191, 198, 205, 212, 219, 226, 233, 240, 247, 254, 292, 327, 362, 397, 432, 470, 518, 566, 611, 666, 721, 776, 811, 818, 825, 860, 867, 902, 909, 930]
theorem q_RL_mono {G G' : Nat} {I : Nat → m_Rr} {E : Nat → Nat → Option Nat} (h : q_RL G I E) (hG : G ≤ G') : q_RL G' I E := by
  obtain ⟨H, m, hf, ns, oc, h', h1, h2, h3, h4⟩ := h
  exact ⟨H, m, hf, ns, oc, h', h1, h2, m_Cn_mono h3 hG, h4⟩
set_option maxHeartbeats 4000000 in
theorem q_LK_kind {xt : List ExceptionTableEntry} {g : q_G} {k n i G j t : Nat} {I : Nat → Nat → Int32} {E : Nat → Nat → Option Nat} {L : Nat → Nat → Int64} (hi : i + 6 ≤ g.2.length) (hL : g.2.length ≤ 3072) (hRL : q_RL G I E) (hG : G < 2 ^ 29) (hk : k + 103 ≤ 601024) (hn : n + 13760 ≤ 7293033)
    (hcont : ∀ I' E' L', q_RL (G + 100) I' E' → q_LK xt g (k + 103) (n + 13760) (938, q_ll i, [], q_hp (q_XL L') I' E')) (hj : q_nth q_tgL j = some t) : q_LK xt g k n (t, q_ll i, [], q_hp (q_XL L) I E) := by
  match j, hj with
  | 0, hj => cases hj; exact lawk_0 hi hL hRL hG hk hn hcont
  | 1, hj => cases hj; exact lawk_1 hi hL hRL hG hk hn hcont
  | 2, hj => cases hj; exact lawk_2 hi hL hRL hG hk hn hcont
  | 3, hj => cases hj; exact lawk_3 hi hL hRL hG hk hn hcont
  | 4, hj => cases hj; exact lawk_4 hi hL hRL hG hk hn hcont
  | 5, hj => cases hj; exact lawk_5 hi hL hRL hG hk hn hcont
  | 6, hj => cases hj; exact lawk_6 hi hL hRL hG hk hn hcont
  | 7, hj => cases hj; exact lawk_7 hi hL hRL hG hk hn hcont
  | 8, hj => cases hj; exact lawk_8 hi hL hRL hG hk hn hcont
  | 9, hj => cases hj; exact lawk_9 hi hL hRL hG hk hn hcont
  | 10, hj => cases hj; exact lawk_10 hi hL hRL hG hk hn hcont
  | 11, hj => cases hj; exact lawk_11 hi hL hRL hG hk hn hcont
  | 12, hj => cases hj; exact lawk_12 hi hL hRL hG hk hn hcont
  | 13, hj => cases hj; exact lawk_13 hi hL hRL hG hk hn hcont
  | 14, hj => cases hj; exact lawk_14 hi hL hRL hG hk hn hcont
  | 15, hj => cases hj; exact lawk_15 hi hL hRL hG hk hn hcont
  | 16, hj => cases hj; exact lawk_16 hi hL hRL hG hk hn hcont
  | 17, hj => cases hj; exact lawk_17 hi hL hRL hG hk hn hcont
  | 18, hj => cases hj; exact lawk_18 hi hL hRL hG hk hn hcont
  | 19, hj => cases hj; exact lawk_19 hi hL hRL hG hk hn hcont
  | 20, hj => cases hj; exact lawk_20 hi hL hRL hG hk hn hcont
  | 21, hj => cases hj; exact lawk_21 hi hL hRL hG hk hn hcont
  | 22, hj => cases hj; exact lawk_22 hi hL hRL hG hk hn hcont
  | 23, hj => cases hj; exact lawk_23 hi hL hRL hG hk hn hcont
  | 24, hj => cases hj; exact lawk_24 hi hL hRL hG hk hn hcont
  | 25, hj => cases hj; exact lawk_25 hi hL hRL hG hk hn hcont
  | 26, hj => cases hj; exact lawk_26 hi hL hRL hG hk hn hcont
  | 27, hj => cases hj; exact lawk_27 hi hL hRL hG hk hn hcont
  | 28, hj => cases hj; exact lawk_28 hi hL hRL hG hk hn hcont
  | 29, hj => cases hj; exact lawk_29 hi hL hRL hG hk hn hcont
  | 30, hj => cases hj; exact lawk_30 hi hL hRL hG hk hn hcont
  | 31, hj => cases hj; exact lawk_31 hi hL hRL hG hk hn hcont
  | 32, hj => cases hj; exact lawk_32 hi hL hRL hG hk hn hcont
  | 33, hj => cases hj; exact lawk_33 hi hL hRL hG hk hn hcont
  | 34, hj => cases hj; exact lawk_34 hi hL hRL hG hk hn hcont
  | 35, hj => cases hj; exact lawk_35 hi hL hRL hG hk hn hcont
  | 36, hj => cases hj; exact lawk_36 hi hL hRL hG hk hn hcont
  | 37, hj => cases hj; exact lawk_37 hi hL hRL hG hk hn hcont
  | 38, hj => cases hj; exact lawk_38 hi hL hRL hG hk hn hcont
  | 39, hj => cases hj; exact lawk_39 hi hL hRL hG hk hn hcont
  | z + 40, hj => exact absurd hj (by simp [q_nth, q_tgL])
theorem q_subI {a b c : Nat} (ha : a ≤ 3072) (hc : c ≤ 4000) (hb : b ≤ 6) : (nI a - nI b < nI c) ↔ a < c + b := by
  rw [Int32.lt_iff_toInt_lt, pk_sub_toInt (by omega) (by omega), nI_toInt (by omega)]
  omega
set_option maxHeartbeats 4000000 in
set_option maxRecDepth 100000 in
theorem q_swL : q_swok m_L_law.2.2.2.2.1 40 1640 0 39 #[176, 280, 336, 349, 362, 375, 388, 401, 414, 427, 440, 453, 466, 479, 492, 505, 518, 531, 544, 557, 620, 676, 732, 788, 844, 907, 982, 1057, 1125, 1205, 1285, 1365, 1421, 1434, 1447, 1503, 1516, 1572, 1585, 1626] 938 q_tgL = true := by decide +kernel
set_option maxHeartbeats 4000000 in
set_option maxRecDepth 100000 in
theorem q_LK_loop {xt : List ExceptionTableEntry} {g : q_G} (hL : g.2.length ≤ 3072) : ∀ (c t : Nat), g.2.length < 6 * (t + c) + 6 → t + c ≤ 512 → ∀ (I : Nat → Nat → Int32) (E : Nat → Nat → Option Nat) (L : Nat → Nat → Int64), q_RL (100 * t) I E → q_LK xt g (129 + 103 * t) (17300 + 13760 * t) (13, q_ll (6 * t), [], q_hp (q_XL L) I E) := by
  have hend : ∀ (t : Nat) (I : Nat → Nat → Int32) (E : Nat → Nat → Option Nat) (L : Nat → Nat → Int64), t ≤ 512 → q_LK xt g (129 + 103 * t) (17300 + 13760 * t) (940, q_ll (6 * t), [], q_hp (q_XL L) I E) := by
    intro t I E L ht
    refine k_go 1 (c' := (941, q_ll (6 * t), [.int 1], q_hp (q_XL L) I E)) okB_L_law rfl ?_
    exact k_o_iret okB_L_law rfl rfl rfl (by omega) (by omega) rfl
  intro c
  induction c with
  | zero =>
    intro t h1 h2 I E L hRL
    refine k_go 2 (c' := (15, q_ll (6 * t), [.ref 52, .int (nI (6 * t))], q_hp (q_XL L) I E)) okB_L_law rfl ?_
    refine k_o_xlen52 okB_L_law rfl ?_
    refine k_if 3 (P := nI g.2.length - 6 < nI (6 * t)) (a := (940, q_ll (6 * t), [], q_hp (q_XL L) I E)) (b := (19, q_ll (6 * t), [], q_hp (q_XL L) I E)) okB_L_law rfl (fun _ => hend t I E L (by omega)) (fun h => absurd ((q_subI hL (by omega) (Nat.le_refl _)).mpr (by omega)) h)
  | succ c ih =>
    intro t h1 h2 I E L hRL
    refine k_go 2 (c' := (15, q_ll (6 * t), [.ref 52, .int (nI (6 * t))], q_hp (q_XL L) I E)) okB_L_law rfl ?_
    refine k_o_xlen52 okB_L_law rfl ?_
    refine k_if 3 (P := nI g.2.length - 6 < nI (6 * t)) (a := (940, q_ll (6 * t), [], q_hp (q_XL L) I E)) (b := (19, q_ll (6 * t), [], q_hp (q_XL L) I E)) okB_L_law rfl (fun _ => hend t I E L (by omega)) (fun h => ?_)
    have hi : 6 * t + 6 ≤ g.2.length := Nat.not_lt.mp (fun z => h ((q_subI hL (by omega) (Nat.le_refl _)).mpr z))
    have hnext : ∀ I' E' L', q_RL (100 * t + 100) I' E' → q_LK xt g (129 + 103 * t + 103) (17300 + 13760 * t + 13760) (938, q_ll (6 * t), [], q_hp (q_XL L') I' E') := by
      intro I' E' L' hR'
      have h9 := ih (t + 1) (by omega) (by omega) I' E' L' (by rw [show 100 * (t + 1) = 100 * t + 100 by omega]; exact hR')
      rw [show 129 + 103 * (t + 1) = 129 + 103 * t + 103 by omega, show 17300 + 13760 * (t + 1) = 17300 + 13760 * t + 13760 by omega, show 6 * (t + 1) = 6 * t + 6 by omega] at h9
      refine k_go 2 (c' := (13, [some (.ref 52), some (.ref 400), some (.ref 492), some (.ref 528), some (.int (nI (6 * t) + 6)), none, none, none, none], [], q_hp (q_XL L') I' E')) okB_L_law rfl ?_
      rw [show nI (6 * t) + 6 = nI (6 * t + 6) from nI_add _ 6]
      exact h9
    refine k_go 2 (c' := (21, q_ll (6 * t), [.int (nI (6 * t)), .ref 52], q_hp (q_XL L) I E)) okB_L_law rfl ?_
    refine k_o_xscr (j := 6 * t) okB_L_law rfl rfl (by omega) (by omega) ?_
    refine k_go 2 (c' := (24, q_ll (6 * t), [.int (g.2.getD (6 * t) 0 &&& 63)], q_hp (q_XL L) I E)) okB_L_law rfl ?_
    refine k_o_sw q_tgL okB_L_law rfl q_swL (fun j t9 hj _ => ?_) (fun _ => ?_)
    · exact q_LK_kind hi hL hRL (by omega) (by omega) (by omega) hnext hj
    · exact k_Jwd (by omega) (by omega) (hnext I E L (q_RL_mono hRL (by omega)))
