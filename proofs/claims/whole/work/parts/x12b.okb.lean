/-! THE LAW'S INSTRUCTIONS ARE IN ORDER, in pieces -/
theorem q_okL_cut {own nm : String} {b : ByteArray} {tab : List q_En} : ∀ (n i : Nat) (l : List q_En), q_okL own nm b tab i (l.take n) = true → q_okL own nm b tab (i + n) (l.drop n) = true → q_okL own nm b tab i l = true
  | 0, i, l, _, h => h
  | n + 1, i, [], _, _ => rfl
  | n + 1, i, e :: t, h1, h2 => by
    rw [List.take_succ_cons] at h1
    rw [List.drop_succ_cons] at h2
    simp only [q_okL, Bool.and_eq_true] at h1 ⊢
    refine ⟨h1.1, q_okL_cut n (i + 1) t h1.2 ?_⟩
    rw [show i + 1 + n = i + (n + 1) by omega]
    exact h2
def q_okc (k : Nat) : Bool := q_okL yL_law.cls yL_law.name cL_law m_L_law.2.2.2.2.1 (40 * k) ((m_L_law.2.2.2.2.1.drop (40 * k)).take 40)
set_option maxRecDepth 100000 in
theorem q_okc_0 : q_okc 0 = true := by decide +kernel
set_option maxRecDepth 100000 in
theorem q_okc_1 : q_okc 1 = true := by decide +kernel
set_option maxRecDepth 100000 in
theorem q_okc_2 : q_okc 2 = true := by decide +kernel
set_option maxRecDepth 100000 in
theorem q_okc_3 : q_okc 3 = true := by decide +kernel
set_option maxRecDepth 100000 in
theorem q_okc_4 : q_okc 4 = true := by decide +kernel
set_option maxRecDepth 100000 in
theorem q_okc_5 : q_okc 5 = true := by decide +kernel
set_option maxRecDepth 100000 in
theorem q_okc_6 : q_okc 6 = true := by decide +kernel
set_option maxRecDepth 100000 in
theorem q_okc_7 : q_okc 7 = true := by decide +kernel
set_option maxRecDepth 100000 in
theorem q_okc_8 : q_okc 8 = true := by decide +kernel
set_option maxRecDepth 100000 in
theorem q_okc_9 : q_okc 9 = true := by decide +kernel
set_option maxRecDepth 100000 in
theorem q_okc_10 : q_okc 10 = true := by decide +kernel
set_option maxRecDepth 100000 in
theorem q_okc_11 : q_okc 11 = true := by decide +kernel
set_option maxRecDepth 100000 in
theorem q_okc_12 : q_okc 12 = true := by decide +kernel
set_option maxRecDepth 100000 in
theorem q_okc_13 : q_okc 13 = true := by decide +kernel
set_option maxRecDepth 100000 in
theorem q_okc_14 : q_okc 14 = true := by decide +kernel
set_option maxRecDepth 100000 in
theorem q_okc_15 : q_okc 15 = true := by decide +kernel
set_option maxRecDepth 100000 in
theorem q_okc_16 : q_okc 16 = true := by decide +kernel
set_option maxRecDepth 100000 in
theorem q_okc_17 : q_okc 17 = true := by decide +kernel
set_option maxRecDepth 100000 in
theorem q_okc_18 : q_okc 18 = true := by decide +kernel
set_option maxRecDepth 100000 in
theorem q_okc_19 : q_okc 19 = true := by decide +kernel
set_option maxRecDepth 100000 in
theorem q_okc_20 : q_okc 20 = true := by decide +kernel
set_option maxRecDepth 100000 in
theorem q_okc_21 : q_okc 21 = true := by decide +kernel
set_option maxRecDepth 100000 in
theorem q_okc_22 : q_okc 22 = true := by decide +kernel
set_option maxRecDepth 100000 in
theorem q_okc_23 : q_okc 23 = true := by decide +kernel
theorem q_okc_all : ∀ k, k < 24 → q_okc k = true
  | 0, _ => q_okc_0
  | 1, _ => q_okc_1
  | 2, _ => q_okc_2
  | 3, _ => q_okc_3
  | 4, _ => q_okc_4
  | 5, _ => q_okc_5
  | 6, _ => q_okc_6
  | 7, _ => q_okc_7
  | 8, _ => q_okc_8
  | 9, _ => q_okc_9
  | 10, _ => q_okc_10
  | 11, _ => q_okc_11
  | 12, _ => q_okc_12
  | 13, _ => q_okc_13
  | 14, _ => q_okc_14
  | 15, _ => q_okc_15
  | 16, _ => q_okc_16
  | 17, _ => q_okc_17
  | 18, _ => q_okc_18
  | 19, _ => q_okc_19
  | 20, _ => q_okc_20
  | 21, _ => q_okc_21
  | 22, _ => q_okc_22
  | 23, _ => q_okc_23
  | k + 24, h => absurd h (by omega)
theorem q_okL_up {own nm : String} {b : ByteArray} {tab : List q_En} (N : Nat) (l : List q_En) : ∀ K : Nat, (∀ k, k < K → q_okL own nm b tab (N * k) ((l.drop (N * k)).take N) = true) → q_okL own nm b tab (N * K) (l.drop (N * K)) = true → q_okL own nm b tab 0 l = true
  | 0, _, h => by
    rw [Nat.mul_zero, List.drop_zero] at h
    exact h
  | K + 1, h1, h2 => by
    refine q_okL_up N l K (fun k hk => h1 k (by omega)) (q_okL_cut N _ _ (h1 K (by omega)) ?_)
    rw [List.drop_drop, show N * K + N = N * (K + 1) by rw [Nat.mul_succ]]
    exact h2
set_option maxRecDepth 100000 in
theorem q_okc_end : q_okL yL_law.cls yL_law.name cL_law m_L_law.2.2.2.2.1 (40 * 24) (m_L_law.2.2.2.2.1.drop (40 * 24)) = true := by decide +kernel
theorem okB_L_law : q_okB m_L_law = true := q_okL_up 40 m_L_law.2.2.2.2.1 24 q_okc_all q_okc_end
