/-! EVERY WORD of the text that is told stands well -/
section ZGOOD
def zc_al (w : List Int32) : Bool := match w with
  | [] => false
  | a :: t => if m_iL a = true then t.all (fun x => m_iL x || m_iD x) && decide (t.length < 10) else m_iD a && (t.all m_iD && decide (t.length < 6))
theorem zc_A {w : List Int32} {c : Int32} (h : zc_al w = true) (hc : (m_iL c || m_iD c) = false) : zt_ch w c = true := by
  cases w with
  | nil => cases h
  | cons a t =>
    have hD : m_iD c = false := (Bool.or_eq_false_iff.mp hc).2
    have n32 : ∀ x : Int32, m_iL x = false → m_iD x = false → a = x → False := fun x h1 h2 e => by
      subst e
      unfold zc_al at h
      dsimp only at h
      rw [if_neg (by rw [h1]; decide), h2] at h
      cases h
    have e1 : decide (a = 32) = false := decide_eq_false (n32 32 (by decide) (by decide))
    have e2 : decide (a = 10) = false := decide_eq_false (n32 10 (by decide) (by decide))
    unfold zc_al at h
    unfold zt_ch
    dsimp only at h ⊢
    rw [e1, e2]
    by_cases hL : m_iL a = true
    · rw [if_pos hL] at h ⊢
      rw [Bool.and_eq_true] at h
      rw [h.1, h.2, hc]; rfl
    · rw [if_neg hL] at h ⊢
      rw [Bool.and_eq_true, Bool.and_eq_true] at h
      rw [if_pos h.1, h.2.1, h.2.2, hD]; rfl
theorem zc_1 {a x : Int32} (hL : m_iL a = false) (hD : m_iD a = false) (h1 : decide (a = 32) = false) (h2 : decide (a = 10) = false) (h3 : decide ((m_fnd m_SC [a] 49 0).getD 1 = 1) = false) (hx : x ≠ 61) : zt_ch [a] x = true := by
  have e := m_two (c1 := a) (c2 := x) hL
  rw [if_neg (fun h => hx h.2), if_neg (fun h => hx h.2)] at e
  unfold zt_ch
  dsimp only
  rw [h1, h2, if_neg (by rw [hL]; decide), if_neg (by rw [hD]; decide), e, h3]; rfl
theorem zc_S {s : Nat} {x : Int32} (hs : s = 36 ∨ s = 37 ∨ s = 38 ∨ s = 40 ∨ s = 41 ∨ s = 42 ∨ s = 43 ∨ s = 44 ∨ s = 45 ∨ s = 46) (hx : x ≠ 61) : zt_ch (zx_k s) x = true := by
  rcases hs with rfl | rfl | rfl | rfl | rfl | rfl | rfl | rfl | rfl | rfl
  · exact zc_1 (a := 91) (by decide) (by decide) (by decide) (by decide) (by decide +kernel) hx
  · exact zc_1 (a := 93) (by decide) (by decide) (by decide) (by decide) (by decide +kernel) hx
  · exact zc_1 (a := 59) (by decide) (by decide) (by decide) (by decide) (by decide +kernel) hx
  · exact zc_1 (a := 43) (by decide) (by decide) (by decide) (by decide) (by decide +kernel) hx
  · exact zc_1 (a := 45) (by decide) (by decide) (by decide) (by decide) (by decide +kernel) hx
  · exact zc_1 (a := 42) (by decide) (by decide) (by decide) (by decide) (by decide +kernel) hx
  · exact zc_1 (a := 47) (by decide) (by decide) (by decide) (by decide) (by decide +kernel) hx
  · exact zc_1 (a := 60) (by decide) (by decide) (by decide) (by decide) (by decide +kernel) hx
  · exact zc_1 (a := 62) (by decide) (by decide) (by decide) (by decide) (by decide +kernel) hx
  · exact zc_1 (a := 61) (by decide) (by decide) (by decide) (by decide) (by decide +kernel) hx
theorem zc_2 {x : Int32} : zt_ch (zx_k 47) x = true := by
  show zt_ch [60, 61] x = true
  have h3 : decide ((m_fnd m_SC [60, 61] 49 0).getD 1 = 1) = false := by decide +kernel
  unfold zt_ch
  dsimp only
  rw [if_neg (by decide), if_neg (by decide), h3]; rfl
theorem zc_k : ∀ s, s < 34 → 5 ≤ s → zc_al (zx_k s) = true := by decide +kernel
theorem zc_h : ∀ i, i < 10 → zc_al (zx_h i) = true := by decide +kernel
theorem zc_d : ∀ n, n < 100 → zc_al (zs_dec n) = true := by decide +kernel
theorem zf_d : ∀ n, n < 100 → zt_f (zs_dec n) 61 ≠ 61 := by decide +kernel
theorem zf_dn {n : Nat} (h : n < 100) {N : List zx_I} {c : Int32} : zt_f (zt_fl (([], zs_dec n) :: N)) c ≠ 61 := by
  have e : ∀ {l m : List Int32}, zt_f l 61 ≠ 61 → zt_f (l ++ m) c = zt_f l 61 := fun {l m} hl => by
    cases l with
    | nil => exact absurd rfl hl
    | cons a l => rfl
  show zt_f (zs_dec n ++ zt_fl N) c ≠ 61
  rw [e (zf_d n h)]
  exact zf_d n h
variable {b : List Int32} {w : List Int32} {N : List zx_I} {c x : Int32} {s i n : Nat}
theorem zg_A (x : Int32) (hw : zc_al w = true) (hx : zt_f (zt_fl N) c = x) (hn : (m_iL x || m_iD x) = false) (hb : b.all zt_bl = true) (h : zt_g N c = true) : zt_g ((b, w) :: N) c = true := by
  rw [zt_g]
  dsimp only
  rw [hb, hx, zc_A hw hn, h]; rfl
theorem zg_S (hs : s = 36 ∨ s = 37 ∨ s = 38 ∨ s = 40 ∨ s = 41 ∨ s = 42 ∨ s = 43 ∨ s = 44 ∨ s = 45 ∨ s = 46) (hn : zt_f (zt_fl N) c ≠ 61) (hb : b.all zt_bl = true) (h : zt_g N c = true) : zt_g ((b, zx_k s) :: N) c = true := by
  rw [zt_g]
  dsimp only
  rw [hb, zc_S hs hn, h]; rfl
theorem zg_Sx (x : Int32) (hs : s = 36 ∨ s = 37 ∨ s = 38 ∨ s = 40 ∨ s = 41 ∨ s = 42 ∨ s = 43 ∨ s = 44 ∨ s = 45 ∨ s = 46) (hx : zt_f (zt_fl N) c = x) (hn : x ≠ 61) (hb : b.all zt_bl = true) (h : zt_g N c = true) : zt_g ((b, zx_k s) :: N) c = true := zg_S hs (by rw [hx]; exact hn) hb h
theorem zg_2 (hb : b.all zt_bl = true) (h : zt_g N c = true) : zt_g ((b, zx_k 47) :: N) c = true := by
  rw [zt_g]
  dsimp only
  rw [hb, zc_2, h]; rfl
variable {q : Nat → Nat}
theorem zg_sum (hq : zp_Ln 6 q) (hc : (m_iL c || m_iD c) = false) : zt_g (zx_sum q) c = true := by
  have c4 : q 4 = 0 ∨ q 4 = 1 ∨ q 4 = 2 := by have := hq.2.2.2.2.1; omega
  have h5 := hq.2.2.2.2.2.1
  have h2 := hq.2.2.1
  unfold zx_sum
  rcases c4 with e | e | e
  · rw [e]; exact zg_A c (zc_d _ (by omega)) rfl hc rfl rfl
  · rw [e]
    exact zg_A 45 (zc_k 20 (by decide) (by decide)) rfl (by decide) rfl (zg_Sx 115 (by decide) rfl (by decide) rfl (zg_A 47 (zc_k 20 (by decide) (by decide)) rfl (by decide) rfl (zg_S (by decide) (zf_dn (by decide)) rfl (zg_A 42 (zc_d 7 (by decide)) rfl (by decide) rfl (zg_S (by decide) (zf_dn (by decide)) rfl (zg_A c (zc_d 7 (by decide)) rfl hc rfl rfl))))))
  · rw [e]
    exact zg_A 32 (zc_k 26 (by decide) (by decide)) rfl (by decide) rfl (zg_A 32 (zc_k 18 (by decide) (by decide)) rfl (by decide) rfl (zg_A 43 (zc_h _ (by omega)) rfl (by decide) rfl (zg_S (by decide) (zf_dn (by omega)) rfl (zg_A c (zc_d _ (by omega)) rfl hc rfl rfl))))
theorem zg_tst (hq : zp_Ln 6 q) (hc : (m_iL c || m_iD c) = false) : zt_g (zx_tst q) c = true := by
  have c6 : q 6 = 0 ∨ q 6 = 1 ∨ q 6 = 2 ∨ q 6 = 3 ∨ q 6 = 4 ∨ q 6 = 5 ∨ q 6 = 6 := by have := hq.2.2.2.2.2.2.1; omega
  have h1 := hq.2.1
  have h7 := hq.2.2.2.2.2.2.2.1
  have h8 := hq.2.2.2.2.2.2.2.2
  have k : ∀ {s : Nat}, s < 34 → 5 ≤ s → zc_al (zx_k s) = true := fun {s} a b => zc_k s a b
  have w19 := k (s := 19) (by decide) (by decide)
  have w20 := k (s := 20) (by decide) (by decide)
  unfold zx_tst
  rcases c6 with e | e | e | e | e | e | e
  · rw [e]; rfl
  · rw [e]
    exact zg_A 32 w19 rfl (by decide) rfl (zg_A 62 (k (by decide) (by decide)) rfl (by decide) rfl (zg_S (by decide) (zf_dn (by omega)) rfl (zg_A c (zc_d _ (by omega)) rfl hc rfl rfl)))
  · rw [e]
    exact zg_A 32 w19 rfl (by decide) rfl (zg_A 32 (k (by decide) (by decide)) rfl (by decide) rfl (zg_A c (zc_h _ (by omega)) rfl hc rfl rfl))
  · rw [e]
    exact zg_A 32 w19 rfl (by decide) rfl (zg_A 32 (k (by decide) (by decide)) rfl (by decide) rfl (zg_A 32 (k (by decide) (by decide)) rfl (by decide) rfl (zg_A 32 (zc_h _ (by omega)) rfl (by decide) rfl (zg_A c (zc_h _ (by omega)) rfl hc rfl rfl))))
  · rw [e]
    exact zg_A 32 w19 rfl (by decide) rfl (zg_A 45 w20 rfl (by decide) rfl (zg_Sx 115 (by decide) rfl (by decide) rfl (zg_A 47 w20 rfl (by decide) rfl (zg_S (by decide) (zf_dn (by decide)) rfl (zg_A 42 (zc_d 3 (by decide)) rfl (by decide) rfl (zg_S (by decide) (zf_dn (by decide)) rfl (zg_A 61 (zc_d 3 (by decide)) rfl (by decide) rfl (zg_S (by decide) (zf_dn (by omega)) rfl (zg_A c (zc_d _ (by omega)) rfl hc rfl rfl)))))))))
  · rw [e]
    exact zg_A 32 w19 rfl (by decide) rfl (zg_A 60 (k (by decide) (by decide)) rfl (by decide) rfl (zg_Sx 115 (by decide) rfl (by decide) rfl (zg_A 32 (k (by decide) (by decide)) rfl (by decide) rfl (zg_A 32 (k (by decide) (by decide)) rfl (by decide) rfl (zg_A 32 (zc_h _ (by omega)) rfl (by decide) rfl (zg_A 32 (k (by decide) (by decide)) rfl (by decide) rfl (zg_A 60 (k (by decide) (by decide)) rfl (by decide) rfl (zg_S (by decide) (zf_dn (by omega)) rfl (zg_A c (zc_d _ (by omega)) rfl hc rfl rfl)))))))))
  · rw [e]
    exact zg_A 32 w19 rfl (by decide) rfl (zg_Sx 98 (by decide) rfl (by decide) rfl (zg_A 60 (k (by decide) (by decide)) rfl (by decide) rfl (zg_S (by decide) (zf_dn (by omega)) rfl (zg_A 93 (zc_d _ (by omega)) rfl (by decide) rfl (zg_Sx 32 (by decide) rfl (by decide) rfl (zg_A 32 (k (by decide) (by decide)) rfl (by decide) rfl (zg_A 32 (k (by decide) (by decide)) rfl (by decide) rfl (zg_A 32 (k (by decide) (by decide)) rfl (by decide) rfl (zg_A 60 (zc_h _ (by omega)) rfl (by decide) rfl (zg_2 rfl (zg_A c (zc_d 1 (by decide)) rfl hc rfl rfl)))))))))))
theorem zg_body (hq : zp_Ln 6 q) (hb : b.all zt_bl = true) (hc : (m_iL c || m_iD c) = false) : zt_g (zx_body b q) c = true := by
  obtain ⟨h0, h1, h2, h3, -⟩ := id hq
  have c0 : q 0 = 0 ∨ q 0 = 1 ∨ q 0 = 2 ∨ q 0 = 3 ∨ q 0 = 4 := by omega
  have k : ∀ {s : Nat}, s < 34 → 5 ≤ s → zc_al (zx_k s) = true := fun {s} a b => zc_k s a b
  unfold zx_body
  rcases c0 with e | e | e | e | e
  · rw [e]
    have hs : zt_g (zx_sum q ++ [([32], zx_k 14), ([32], zs_dec (q 3))]) c = true := by
      have e1 : zt_f (zt_fl [([32], zx_k 14), ([32], zs_dec (q 3))]) c = 32 := rfl
      rw [zt_g_app, e1, zg_sum hq (by decide), zg_A 32 (k (by decide) (by decide)) rfl (by decide) rfl (zg_A c (zc_d _ (by omega)) rfl hc rfl rfl)]; rfl
    have e2 : zt_f (zt_fl (zx_sum q ++ [([32], zx_k 14), ([32], zs_dec (q 3))])) c = 32 := by
      have c4 : q 4 = 0 ∨ q 4 = 1 ∨ q 4 = 2 := by have := hq.2.2.2.2.1; omega
      unfold zx_sum
      rcases c4 with e | e | e <;> (rw [e]; rfl)
    exact zg_A 32 (k (by decide) (by decide)) rfl (by decide) hb (zg_A 32 (zc_h _ (by omega)) rfl (by decide) rfl (zg_A 32 (k (by decide) (by decide)) e2 (by decide) rfl hs))
  · rw [e]
    exact zg_A 32 (k (by decide) (by decide)) rfl (by decide) hb (zg_A 32 (zc_h _ (by omega)) rfl (by decide) rfl (zg_A 32 (k (by decide) (by decide)) rfl (by decide) rfl (zg_A 32 (zc_d _ (by omega)) rfl (by decide) rfl (zg_A 32 (k (by decide) (by decide)) rfl (by decide) rfl (zg_A c (zc_h _ (by omega)) rfl hc rfl rfl)))))
  · rw [e]
    exact zg_A 32 (k (by decide) (by decide)) rfl (by decide) hb (zg_A 32 (zc_h _ (by omega)) rfl (by decide) rfl (zg_A 32 (k (by decide) (by decide)) rfl (by decide) rfl (zg_A c (zc_d _ (by omega)) rfl hc rfl rfl)))
  · rw [e]
    exact zg_A 32 (k (by decide) (by decide)) rfl (by decide) hb (zg_A 32 (zc_h _ (by omega)) rfl (by decide) rfl (zg_A 32 (k (by decide) (by decide)) rfl (by decide) rfl (zg_A 32 (zc_h _ (by omega)) rfl (by decide) rfl (zg_A 32 (k (by decide) (by decide)) rfl (by decide) rfl (zg_A c (zc_d _ (by omega)) rfl hc rfl rfl)))))
  · rw [e]
    exact zg_A 32 (k (by decide) (by decide)) rfl (by decide) hb (zg_A c (zc_h _ (by omega)) rfl hc rfl rfl)
theorem zg_line (hq : zp_Ln 6 q) (hb : b.all zt_bl = true) (hc : c ≠ 61) : zt_g (zx_line b q) c = true := by
  have e0 : zt_g [([], zx_k 38)] c = true := zg_Sx c (by decide) rfl hc rfl rfl
  have e1 : zt_f (zt_fl [([], zx_k 38)]) c = 59 := rfl
  have e2 : (m_iL (zt_f (zt_fl (zx_tst q ++ [([], zx_k 38)])) c) || m_iD (zt_f (zt_fl (zx_tst q ++ [([], zx_k 38)])) c)) = false := by
    have e3 : zt_f (zt_fl (zx_tst q ++ [([], zx_k 38)])) c = 32 ∨ zt_f (zt_fl (zx_tst q ++ [([], zx_k 38)])) c = 59 := by
      have c6 : q 6 = 0 ∨ q 6 = 1 ∨ q 6 = 2 ∨ q 6 = 3 ∨ q 6 = 4 ∨ q 6 = 5 ∨ q 6 = 6 := by have := hq.2.2.2.2.2.2.1; omega
      unfold zx_tst
      rcases c6 with e | e | e | e | e | e | e
      · rw [e]; exact Or.inr rfl
      all_goals (rw [e]; exact Or.inl rfl)
    rcases e3 with e | e <;> (rw [e]; decide)
  unfold zx_line
  rw [zt_g_app, zg_body hq hb e2, zt_g_app, e1, zg_tst hq (by decide), e0]; rfl
theorem zg_lines {Q : Nat → Nat → Nat} (hc : c ≠ 61) : ∀ (n k : Nat) (b : List Int32), (∀ j, j < k + n → zp_Ln 6 (Q j)) → b.all zt_bl = true → zt_g (zx_lines b Q k n) c = true := by
  intro n
  induction n with
  | zero => intro k b _ _; rfl
  | succ n ih =>
    intro k b h hb
    show zt_g (zx_line b (Q k) ++ zx_lines [10] Q (k + 1) n) c = true
    have e1 : zt_f (zt_fl (zx_lines [10] Q (k + 1) n)) c ≠ 61 := by
      cases n with
      | zero => exact hc
      | succ n => show (10 : Int32) ≠ 61; decide
    rw [zt_g_app, zg_line (h k (by omega)) hb e1, ih (k + 1) [10] (fun j hj => h j (by omega)) rfl]; rfl
theorem zg_hooks (hc : c ≠ 61) : ∀ (n k : Nat) (b : List Int32), k + n ≤ 6 → b.all zt_bl = true → zt_g (zx_hooks b k n) c = true := by
  intro n
  induction n with
  | zero => intro k b _ _; rfl
  | succ n ih =>
    intro k b h hb
    have e1 : zt_f (zt_fl (zx_hooks [] (k + 1) n)) c ≠ 61 := by
      cases n with
      | zero => exact hc
      | succ n => show (104 : Int32) ≠ 61; decide
    exact zg_A 32 (zc_k 8 (by decide) (by decide)) rfl (by decide) hb (zg_A 59 (zc_h _ (by omega)) rfl (by decide) rfl (zg_S (by decide) e1 rfl (ih (k + 1) [] (by omega) rfl)))
theorem zg_all {hf pr m H ns : Nat} {Q : Nat → Nat → Nat} (h1 : hf < 100) (h2 : pr < 100) (h3 : m < 100) (hH : 0 < H) (hH6 : H ≤ 6) (hQ : ∀ j, j < ns → zp_Ln 6 (Q j)) (hc : c ≠ 61) : zt_g (zx_all hf pr m H Q ns) c = true := by
  have e1 : zt_f (zt_fl (zx_lines [] Q 0 ns)) c ≠ 61 := by
    cases ns with
    | zero => exact hc
    | succ n =>
      have c0 : Q 0 0 = 0 ∨ Q 0 0 = 1 ∨ Q 0 0 = 2 ∨ Q 0 0 = 3 ∨ Q 0 0 = 4 := by have := (hQ 0 (by omega)).1; omega
      show zt_f (zt_fl (zx_line [] (Q 0) ++ zx_lines [10] Q 1 n)) c ≠ 61
      unfold zx_line zx_body
      rcases c0 with e | e | e | e | e
      · rw [e]; show (109 : Int32) ≠ 61; decide
      · rw [e]; show (116 : Int32) ≠ 61; decide
      · rw [e]; show (117 : Int32) ≠ 61; decide
      · rw [e]; show (102 : Int32) ≠ 61; decide
      · rw [e]; show (100 : Int32) ≠ 61; decide
  have e2 : zt_f (zt_fl (zx_hooks [10] 0 H ++ zx_lines [] Q 0 ns)) c = 10 := by
    cases H with
    | zero => omega
    | succ n => rfl
  have e3 : zt_g (zx_head hf pr m) 10 = true :=
    zg_A 32 (zc_k 5 (by decide) (by decide)) rfl (by decide) rfl (zg_A 59 (zc_d _ h1) rfl (by decide) rfl (zg_Sx 32 (by decide) rfl (by decide) rfl (zg_A 32 (zc_k 7 (by decide) (by decide)) rfl (by decide) rfl (zg_A 59 (zc_d _ h2) rfl (by decide) rfl (zg_Sx 108 (by decide) rfl (by decide) rfl (zg_A 32 (zc_k 6 (by decide) (by decide)) rfl (by decide) rfl (zg_A 59 (zc_d _ h3) rfl (by decide) rfl (zg_Sx 10 (by decide) rfl (by decide) rfl rfl))))))))
  unfold zx_all
  rw [zt_g_app, e2, e3, zt_g_app, zg_hooks e1 H 0 [10] (by omega) rfl, zg_lines hc ns 0 [] (fun j hj => hQ j (by omega)) rfl]; rfl
end ZGOOD
