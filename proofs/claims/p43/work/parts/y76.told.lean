/-! TEXTS MADE, five: a text put together from pieces; a step told -/
/-- a builder at work: what it has cost so far is counted from k0, n0 -/
def tx_W (h0 h : q_H) (b : Nat) (l : List Int32) (m k n k0 n0 : Nat) : Prop := ∃ L, tx_B h0 h b L l ∧ L ≤ 2 * l.length + 18 ∧ l.length ≤ m ∧ k ≤ k0 + L ∧ n ≤ n0 + 2 * L
theorem tx_nf14 : q_nf 14 ≤ 16 := by decide +kernel
theorem tx_nf13 : q_nf 13 ≤ 16 := by decide +kernel
section TXTE
variable {g : q_G} {d mc ms : Nat} {h h1 h0 : q_H} {a b k n k0 n0 m m2 x : Nat} {l l2 : List Int32}
theorem tx_W_ext (hW : tx_W h0 h b l m k n k0 n0) : z_ext h0 h := by
  obtain ⟨L, hB, -⟩ := hW
  exact hB.1
theorem tx_W_sh (hW : tx_W h0 h b l m k n k0 n0) : 400 ≤ b ∧ q_sh h b = (0, 14, 0) := by
  obtain ⟨L, ⟨b0, b1, ⟨b2, b3⟩, b4, -⟩, -⟩ := hW
  exact ⟨by omega, b4⟩
theorem tx_S_or (hS : tx_S h a l) : (400 ≤ a ∧ q_sh h a = (0, 13, 0)) ∨ (q_isStr a = true ∧ a < 300) := by
  rcases hS with ⟨hS, -⟩ | ⟨⟨a1, -⟩, a3, -⟩
  · exact Or.inr hS
  · exact Or.inl ⟨by omega, a3⟩
theorem tx_SC (ha : q_isStr a = true) (h3 : a < 300) : tx_S h a (q_str a) := Or.inl ⟨⟨ha, h3⟩, rfl⟩
theorem tx_cNew (hd : 3 ≤ d) (hd2 : d < 2048) (h4 : 400 ≤ q_nx h) (hk : k + 2 ≤ mc) (hn : n + 36 ≤ ms) {C : Nat → Nat → q_H → Prop} (hC : ∀ k' n' h', tx_W h h' (q_nx h) [] 0 k' n' k n → C k' n' h') :
    (k + 1 ≤ mc ∧ n + q_nf 14 ≤ ms) ∧ q_cV g m_J4_init_da8c8 [] d mc ms [.ref (q_nx h)] (q_new h (0, 14, 0)) (k + 1) (n + q_nf 14) True C := by
  have h14 := tx_nf14
  refine ⟨⟨by omega, by omega⟩, ?_⟩
  exact q_cV_of _ (tx_init (d := d - 1) (by omega) (by omega) h4) (by omega) (q_lcle (by omega) (by omega)) (by omega) (by omega) trivial (fun h' hp => hC _ _ _ ⟨16, hp, by decide, Nat.le_refl _, by omega, by omega⟩)
theorem tx_cSE (hd : 6 ≤ d) (hd2 : d < 2048) (hW : tx_W h0 h b l m k n k0 n0) (hS : tx_S h a l2) (hl2 : tx_as l2) (hm2 : l2.length ≤ m2) (hmm : m + m2 ≤ 3000) (hmc : k0 + (2 * (m + m2) + 18) ≤ mc) (hms : n0 + (4 * (m + m2) + 36) ≤ ms)
    {C : Nat → Nat → Nat → q_H → Prop} (hC : ∀ k' n' h', tx_W h0 h' b (l ++ l2) (m + m2) k' n' k0 n0 → tx_E h h' → C k' n' b h') : q_cR g m_J4_append_15ec4 [] d mc ms [.ref b, .ref a] h k n True C := by
  obtain ⟨L, hB, hL, hm, hk, hn⟩ := hW
  have hgL := tx_g_L L (l.length + l2.length)
  have hg2 := tx_g_2 (L := L) (N := l.length + l2.length) (by omega)
  refine q_cR_of _ (tx_app (d := d - 1) (by omega) (by omega) hB hS hl2 hL (by omega)) (by omega) (q_lcle (by omega) (by omega)) (by omega) (by omega) trivial (fun x h' hp => ?_)
  obtain ⟨rfl, hp, hE⟩ := hp
  exact hC _ _ _ ⟨_, hp, by rw [List.length_append]; exact hg2, by rw [List.length_append]; omega, by omega, by omega⟩ hE
theorem tx_cIE (hd : 6 ≤ d) (hd2 : d < 2048) (hW : tx_W h0 h b l m k n k0 n0) (hx : x < 100) (hmm : m + 2 ≤ 3000) (hmc : k0 + (2 * (m + 2) + 18) ≤ mc) (hms : n0 + (4 * (m + 2) + 36) ≤ ms)
    {C : Nat → Nat → Nat → q_H → Prop} (hC : ∀ k' n' h', tx_W h0 h' b (l ++ zs_dec x) (m + 2) k' n' k0 n0 → tx_E h h' → C k' n' b h') : q_cR g m_J4_append_bf812 [] d mc ms [.ref b, .int (nI x)] h k n True C := by
  obtain ⟨L, hB, hL, hm, hk, hn⟩ := hW
  have hD := (tx_lenD x).2
  have hgL := tx_g_L L (l.length + (zs_dec x).length)
  have hg2 := tx_g_2 (L := L) (N := l.length + (zs_dec x).length) (by omega)
  refine q_cR_of _ (tx_appI (d := d - 1) (by omega) (by omega) hB hx hL (by omega)) (by omega) (q_lcle (by omega) (by omega)) (by omega) (by omega) trivial (fun y h' hp => ?_)
  obtain ⟨rfl, hp, hE⟩ := hp
  exact hC _ _ _ ⟨_, hp, by rw [List.length_append]; exact hg2, by rw [List.length_append]; omega, by omega, by omega⟩ hE
theorem tx_cS (hd : 6 ≤ d) (hd2 : d < 2048) (hW : tx_W h0 h b l m k n k0 n0) (hS : tx_S h a l2) (hl2 : tx_as l2) (hm2 : l2.length ≤ m2) (hmm : m + m2 ≤ 3000) (hmc : k0 + (2 * (m + m2) + 18) ≤ mc) (hms : n0 + (4 * (m + m2) + 36) ≤ ms)
    {C : Nat → Nat → Nat → q_H → Prop} (hC : ∀ k' n' h', tx_W h0 h' b (l ++ l2) (m + m2) k' n' k0 n0 → C k' n' b h') : q_cR g m_J4_append_15ec4 [] d mc ms [.ref b, .ref a] h k n True C :=
  tx_cSE hd hd2 hW hS hl2 hm2 hmm hmc hms (fun k' n' h' W _ => hC k' n' h' W)
theorem tx_cI (hd : 6 ≤ d) (hd2 : d < 2048) (hW : tx_W h0 h b l m k n k0 n0) (hx : x < 100) (hmm : m + 2 ≤ 3000) (hmc : k0 + (2 * (m + 2) + 18) ≤ mc) (hms : n0 + (4 * (m + 2) + 36) ≤ ms)
    {C : Nat → Nat → Nat → q_H → Prop} (hC : ∀ k' n' h', tx_W h0 h' b (l ++ zs_dec x) (m + 2) k' n' k0 n0 → C k' n' b h') : q_cR g m_J4_append_bf812 [] d mc ms [.ref b, .int (nI x)] h k n True C :=
  tx_cIE hd hd2 hW hx hmm hmc hms (fun k' n' h' W _ => hC k' n' h' W)
theorem tx_cT (hd : 7 ≤ d) (hd2 : d < 2048) (hW : tx_W h0 h b l m k n k0 n0) (hm3 : m ≤ 3000) (hmc : k0 + (2 * m + 20) ≤ mc) (hms : n0 + (5 * m + 60) ≤ ms)
    {C : Nat → Nat → Nat → q_H → Prop} (hC : ∀ k' n' x h', k' ≤ k0 + (2 * m + 20) → n' ≤ n0 + (5 * m + 60) → z_ext h0 h' → tx_S h' x l → q_nx h0 ≤ x → C k' n' x h') : q_cR g m_J4_toString_0e30d [] d mc ms [.ref b] h k n True C := by
  obtain ⟨L, hB, hL, hm, hk, hn⟩ := hW
  have h13 := tx_nf13
  refine q_cR_of _ (tx_toS (d := d - 1) (by omega) (by omega) hB (by omega)) (by omega) (q_lcle (by omega) (by omega)) (by omega) (by omega) trivial (fun x h' hp => ?_)
  exact hC _ _ _ _ (by omega) (by omega) (z_ext_trans hB.1 hp.2.1) hp.2.2 (by rw [hp.1]; exact hB.1.1)
end TXTE
/-- what the teller has before it: the step's nine numbers in row w -/
def to_I (h0 h : q_H) (q : Nat → Nat) (w : Nat) : Prop := 400 ≤ q_nx h0 ∧ z_ext h0 h ∧ (400 ≤ w ∧ w < q_nx h) ∧ q_sh h w = (1, 0, 9) ∧ ∀ j, j < 9 → q_I h w j = nI (q j)
/-- the tests' texts, as far as they are made -/
def to_R (h0 h : q_H) (q : Nat → Nat) (s i : Nat) : Prop := (q_nx h0 ≤ s ∧ s < q_nx h) ∧ q_sh h s = (3, 8, 7) ∧ ∀ j, j < i → ∃ t, q_R h s j = some t ∧ tx_S h t (zs_test q j)
def to_Q (h0 : q_H) (q : Nat → Nat) : q_Po := fun o h' => ∃ x, o = .inl (some (.ref x)) ∧ z_ext h0 h' ∧ tx_S h' x (zs_told q)
def to_sum (q : Nat → Nat) : List Int32 := match q 4 with
  | 0 => q_str 257 ++ zs_dec (q 5)
  | 1 => q_str 258
  | _ => q_str 259 ++ ((q_str 256 ++ zs_dec (q 2)) ++ (q_str 260 ++ zs_dec (q 5)))
section TOLD
variable {g : q_G} {d mc ms : Nat} {h h' h1 h0 : q_H} {a b k n w s i v1 v2 v4 v5 : Nat} {l : List Int32} {q : Nat → Nat}
theorem to_s0 (e : q 4 = 0) : to_sum q = q_str 257 ++ zs_dec (q 5) := by
  unfold to_sum
  rw [e]
  rfl
theorem to_s1 (e : q 4 = 1) : to_sum q = q_str 258 := by
  unfold to_sum
  rw [e]
  rfl
theorem to_s2 (e : q 4 = 2) : to_sum q = q_str 259 ++ ((q_str 256 ++ zs_dec (q 2)) ++ (q_str 260 ++ zs_dec (q 5))) := by
  unfold to_sum
  rw [e]
  rfl
theorem to_d0 (e : q 0 = 0) : zs_does q = q_str 261 ++ ((q_str 256 ++ zs_dec (q 1)) ++ (q_str 262 ++ (to_sum q ++ (q_str 263 ++ zs_dec (q 3))))) := by
  unfold zs_does
  rw [e]
  rfl
theorem to_d1 (e : q 0 = 1) : zs_does q = q_str 264 ++ ((q_str 256 ++ zs_dec (q 1)) ++ (q_str 265 ++ (zs_dec (q 3) ++ (q_str 266 ++ (q_str 256 ++ zs_dec (q 2)))))) := by
  unfold zs_does
  rw [e]
  rfl
theorem to_d2 (e : q 0 = 2) : zs_does q = q_str 267 ++ ((q_str 256 ++ zs_dec (q 1)) ++ (q_str 265 ++ zs_dec (q 3))) := by
  unfold zs_does
  rw [e]
  rfl
theorem to_d3 (e : q 0 = 3) : zs_does q = q_str 268 ++ ((q_str 256 ++ zs_dec (q 1)) ++ (q_str 269 ++ ((q_str 256 ++ zs_dec (q 2)) ++ (q_str 265 ++ zs_dec (q 3))))) := by
  unfold zs_does
  rw [e]
  rfl
theorem to_d4 (e : q 0 = 4) : zs_does q = q_str 270 ++ (q_str 256 ++ zs_dec (q 1)) := by
  unfold zs_does
  rw [e]
  rfl
theorem to_sl (hq : zp_Ln 6 q) : (to_sum q).length ≤ 13 ∧ tx_as (to_sum q) := by
  obtain ⟨c0, c1, c2, c3, c4, c5, c6, c7, c8⟩ := hq
  have e2 := tx_lenD (q 2)
  have e5 := tx_lenD (q 5)
  rcases (show q 4 = 0 ∨ q 4 = 1 ∨ q 4 = 2 by omega) with e | e | e
  · rw [to_s0 e]
    refine ⟨?_, tx_asA (tx_asC (by decide)) (tx_asD (by omega))⟩
    simp only [List.length_append, zl_257, List.length_nil]
    omega
  · rw [to_s1 e]
    exact ⟨Nat.le_of_ble_eq_true rfl, tx_asC (by decide)⟩
  · rw [to_s2 e]
    refine ⟨?_, tx_asA (tx_asC (by decide)) (tx_asA (tx_asA (tx_asC (by decide)) (tx_asD (by omega))) (tx_asA (tx_asC (by decide)) (tx_asD (by omega))))⟩
    simp only [List.length_append, zl_259, zl_256, zl_260, List.length_cons, List.length_nil]
    omega
theorem to_dl (hq : zp_Ln 6 q) : (zs_does q).length ≤ 36 ∧ tx_as (zs_does q) := by
  obtain ⟨sl, sa⟩ := to_sl hq
  obtain ⟨c0, c1, c2, c3, c4, c5, c6, c7, c8⟩ := hq
  have e1 := tx_lenD (q 1)
  have e2 := tx_lenD (q 2)
  have e3 := tx_lenD (q 3)
  rcases (show q 0 = 0 ∨ q 0 = 1 ∨ q 0 = 2 ∨ q 0 = 3 ∨ q 0 = 4 by omega) with e | e | e | e | e
  · rw [to_d0 e]
    refine ⟨?_, tx_asA (tx_asC (by decide)) (tx_asA (tx_asA (tx_asC (by decide)) (tx_asD (by omega))) (tx_asA (tx_asC (by decide)) (tx_asA sa (tx_asA (tx_asC (by decide)) (tx_asD (by omega))))))⟩
    simp only [List.length_append, zl_261, zl_256, zl_262, zl_263, List.length_cons, List.length_nil]
    omega
  · rw [to_d1 e]
    refine ⟨?_, tx_asA (tx_asC (by decide)) (tx_asA (tx_asA (tx_asC (by decide)) (tx_asD (by omega))) (tx_asA (tx_asC (by decide)) (tx_asA (tx_asD (by omega)) (tx_asA (tx_asC (by decide)) (tx_asA (tx_asC (by decide)) (tx_asD (by omega)))))))⟩
    simp only [List.length_append, zl_264, zl_256, zl_265, zl_266, List.length_cons, List.length_nil]
    omega
  · rw [to_d2 e]
    refine ⟨?_, tx_asA (tx_asC (by decide)) (tx_asA (tx_asA (tx_asC (by decide)) (tx_asD (by omega))) (tx_asA (tx_asC (by decide)) (tx_asD (by omega))))⟩
    simp only [List.length_append, zl_267, zl_256, zl_265, List.length_cons, List.length_nil]
    omega
  · rw [to_d3 e]
    refine ⟨?_, tx_asA (tx_asC (by decide)) (tx_asA (tx_asA (tx_asC (by decide)) (tx_asD (by omega))) (tx_asA (tx_asC (by decide)) (tx_asA (tx_asA (tx_asC (by decide)) (tx_asD (by omega))) (tx_asA (tx_asC (by decide)) (tx_asD (by omega))))))⟩
    simp only [List.length_append, zl_268, zl_256, zl_269, zl_265, List.length_cons, List.length_nil]
    omega
  · rw [to_d4 e]
    refine ⟨?_, tx_asA (tx_asC (by decide)) (tx_asA (tx_asC (by decide)) (tx_asD (by omega)))⟩
    simp only [List.length_append, zl_270, zl_256, List.length_cons, List.length_nil]
    omega
theorem to_hl (i : Nat) : (q_str 256 ++ zs_dec i).length ≤ 4 := by
  have e := tx_lenD i
  simp only [List.length_append, zl_256, List.length_cons, List.length_nil]
  omega
theorem to_ha (hi : i < 100) : tx_as (q_str 256 ++ zs_dec i) := tx_asA (tx_asC (by decide)) (tx_asD hi)
theorem to_tl (hq : zp_Ln 6 q) (hi : i < 7) : (zs_test q i).length ≤ 35 ∧ tx_as (zs_test q i) := by
  obtain ⟨c0, c1, c2, c3, c4, c5, c6, c7, c8⟩ := hq
  have e1 := tx_lenD (q 1)
  have e7 := tx_lenD (q 7)
  have e8 := tx_lenD (q 8)
  have e3 := tx_lenD (q 7 % 3)
  have hm : q 7 % 3 < 100 := by omega
  rcases (show i = 0 ∨ i = 1 ∨ i = 2 ∨ i = 3 ∨ i = 4 ∨ i = 5 ∨ i = 6 by omega) with rfl | rfl | rfl | rfl | rfl | rfl | rfl
  · exact ⟨Nat.le_of_ble_eq_true rfl, tx_asC (a := 257) (by decide)⟩
  · refine ⟨?_, (tx_asA (tx_asC (by decide)) (tx_asD (by omega)) : tx_as (q_str 271 ++ zs_dec (q 7)))⟩
    show (q_str 271 ++ zs_dec (q 7)).length ≤ 35
    simp only [List.length_append, zl_271, List.length_cons, List.length_nil]
    omega
  · refine ⟨?_, (tx_asA (tx_asC (by decide)) (to_ha (by omega)) : tx_as (q_str 272 ++ (q_str 256 ++ zs_dec (q 8))))⟩
    show (q_str 272 ++ (q_str 256 ++ zs_dec (q 8))).length ≤ 35
    simp only [List.length_append, zl_272, zl_256, List.length_cons, List.length_nil]
    omega
  · refine ⟨?_, (tx_asA (tx_asC (by decide)) (tx_asA (to_ha (by omega)) (to_ha (by omega))) : tx_as (q_str 273 ++ ((q_str 256 ++ zs_dec (q 8)) ++ (q_str 256 ++ zs_dec (q 1)))))⟩
    show (q_str 273 ++ ((q_str 256 ++ zs_dec (q 8)) ++ (q_str 256 ++ zs_dec (q 1)))).length ≤ 35
    simp only [List.length_append, zl_273, zl_256, List.length_cons, List.length_nil]
    omega
  · refine ⟨?_, (tx_asA (tx_asC (by decide)) (tx_asD hm) : tx_as (q_str 274 ++ zs_dec (q 7 % 3)))⟩
    show (q_str 274 ++ zs_dec (q 7 % 3)).length ≤ 35
    simp only [List.length_append, zl_274, List.length_cons, List.length_nil]
    omega
  · refine ⟨?_, (tx_asA (tx_asC (by decide)) (tx_asA (to_ha (by omega)) (tx_asA (tx_asC (by decide)) (tx_asD (by omega)))) : tx_as (q_str 275 ++ ((q_str 256 ++ zs_dec (q 8)) ++ (q_str 276 ++ zs_dec (q 7)))))⟩
    show (q_str 275 ++ ((q_str 256 ++ zs_dec (q 8)) ++ (q_str 276 ++ zs_dec (q 7)))).length ≤ 35
    simp only [List.length_append, zl_275, zl_276, zl_256, List.length_cons, List.length_nil]
    omega
  · refine ⟨?_, (tx_asA (tx_asC (by decide)) (tx_asA (tx_asD (by omega)) (tx_asA (tx_asC (by decide)) (tx_asA (to_ha (by omega)) (tx_asC (by decide))))) : tx_as (q_str 277 ++ (zs_dec (q 7) ++ (q_str 278 ++ ((q_str 256 ++ zs_dec (q 8)) ++ q_str 279)))))⟩
    show (q_str 277 ++ (zs_dec (q 7) ++ (q_str 278 ++ ((q_str 256 ++ zs_dec (q 8)) ++ q_str 279)))).length ≤ 35
    simp only [List.length_append, zl_277, zl_278, zl_279, zl_256, List.length_cons, List.length_nil]
    omega
theorem to_I_ext (e : z_ext h h') (hI : to_I h0 h q w) : to_I h0 h' q w := by
  obtain ⟨i0, i1, ⟨i2, i3⟩, i4, i5⟩ := hI
  obtain ⟨e1, e2, -⟩ := e.2 w i3
  exact ⟨i0, z_ext_trans i1 e, ⟨i2, Nat.lt_of_lt_of_le i3 e.1⟩, e1.trans i4, fun j hj => by rw [e2]; exact i5 j hj⟩
theorem to_R_ext (e : z_ext h h') (hR : to_R h0 h q s i) : to_R h0 h' q s i := by
  obtain ⟨⟨r1, r2⟩, r3, r4⟩ := hR
  obtain ⟨e1, -, e3, -⟩ := e.2 s r2
  exact ⟨⟨r1, Nat.lt_of_lt_of_le r2 e.1⟩, e1.trans r3, fun j hj => by
    obtain ⟨t, t1, t2⟩ := r4 j hj
    exact ⟨t, by rw [e3]; exact t1, tx_S_ext e t2⟩⟩
theorem to_ac (hI : to_I h0 h q w) (hi : i < 9) : 400 ≤ w ∧ q_sh h w = (1, 0, 9) ∧ i < 9 ∧ q_s16 9 := ⟨by have := hI.2.2.1.1; omega, hI.2.2.2.1, hi, by decide⟩
theorem to_ar {j : Nat} (hI : 400 ≤ q_nx h0) (hR : to_R h0 h q s i) (hj : j < 7) : 400 ≤ s ∧ q_sh h s = (3, 8, 7) ∧ j < 7 ∧ q_s16 7 := ⟨by have := hR.1.1; omega, hR.2.1, hj, by decide⟩
/-- a test's text put into its row -/
theorem tx_S_pR {j : Nat} {o : Option Nat} (hs : q_sh h s = (3, 8, 7)) (hS : tx_S h a l) : tx_S (q_pR h s j o) a l := by
  rcases hS with hS | ⟨⟨a1, a2⟩, a3, a4, v, v1, ⟨v2, v3⟩, v4, v5, v6⟩
  · exact Or.inl hS
  · have hne : a ≠ s := fun e => by rw [e, hs] at a3; cases a3
    exact Or.inr ⟨⟨a1, a2⟩, a3, a4, v, by rw [z_R_a _ _ _ _ _ hne]; exact v1, ⟨v2, v3⟩, v4, v5, v6⟩
theorem to_put {t : Nat} (htn : t < 300 ∨ q_nx h0 ≤ t) (hI : to_I h0 h q w) (hR : to_R h0 h q s i) (ht : tx_S h t (zs_test q i)) : to_I h0 (q_pR h s i (some t)) q w ∧ to_R h0 (q_pR h s i (some t)) q s (i + 1) := by
  obtain ⟨i0, i1, i2, i4, i5⟩ := hI
  obtain ⟨⟨r1, r2⟩, r3, r4⟩ := hR
  have he : z_ext h0 (q_pR h s i (some t)) := by
    rcases htn with t3 | t1
    · exact z_ext_pRc i1 r1 (by omega)
    · exact z_ext_pR i1 r1 (fun b e => by cases e; exact Or.inr t1)
  refine ⟨⟨i0, he, i2, i4, i5⟩, ⟨r1, r2⟩, r3, fun j hj => ?_⟩
  by_cases hj2 : j = i
  · subst hj2
    exact ⟨t, z_R_s _ _ _ _, tx_S_pR r3 ht⟩
  · obtain ⟨t2, t3, t4⟩ := r4 j (by omega)
    exact ⟨t2, by rw [z_R_j _ _ _ _ _ hj2]; exact t3, tx_S_pR r3 t4⟩
/-- " h" and a hook's number -/
theorem to_hkf {x : Int32} (hd : 7 ≤ d) (hd2 : d < 2048) (hI : to_I h0 h q w) (hx : x = nI i) (hi : i < 9) (hqi : q i < 100) (hk : k + 28 ≤ mc) (hn : n + 80 ≤ ms) {C : Nat → Nat → Nat → q_H → Prop}
    (hC : ∀ k' n' x h', k' ≤ k + 28 → n' ≤ n + 80 → z_ext h h' → tx_S h' x (q_str 256 ++ zs_dec (q i)) → C k' n' x h') :
    ((k + 1 ≤ mc ∧ n + q_nf 14 ≤ ms) ∧ (q_cV g m_J4_init_da8c8 [] d mc ms [.ref (q_nx h)] (q_new h (0, 14, 0)) (k + 1) (n + q_nf 14) True (fun k2 n3 h1 => ((400 ≤ (q_nx h) ∧ q_sh h1 (q_nx h) = (0, 14, 0)) ∧ q_cR g m_J4_append_15ec4 [] d mc ms [.ref (q_nx h), .ref 256] h1 k2 n3 True (fun k5 n6 b7 h4 => (∃ j8 L9, x = nI j8 ∧ (400 ≤ w ∧ q_sh h4 w = (1, 0, L9) ∧ j8 < L9 ∧ q_s16 L9) ∧ ((400 ≤ b7 ∧ q_sh h4 b7 = (0, 14, 0)) ∧ q_cR g m_J4_append_bf812 [] d mc ms [.ref b7, .int (q_I h4 w j8)] h4 k5 n6 True (fun k11 n12 b13 h10 => ((400 ≤ b13 ∧ q_sh h10 b13 = (0, 14, 0)) ∧ q_cR g m_J4_toString_0e30d [] d mc ms [.ref b13] h10 k11 n12 True C))))))))) := by
  have hnx : 400 ≤ q_nx h := Nat.le_trans hI.1 hI.2.1.1
  refine tx_cNew (by omega) hd2 hnx (by omega) (by omega) (fun k1 n1 h1 W1 => ⟨tx_W_sh W1, ?_⟩)
  refine tx_cS (m2 := 2) (by omega) hd2 W1 (tx_SC rfl (by decide)) (tx_asC (by decide)) (Nat.le_of_ble_eq_true rfl) (by omega) (by omega) (by omega) (fun k2 n2 h2 W2 => ?_)
  have I2 := to_I_ext (tx_W_ext W2) hI
  refine ⟨i, 9, hx, to_ac I2 hi, tx_W_sh W2, ?_⟩
  rw [I2.2.2.2.2 i hi]
  refine tx_cI (by omega) hd2 W2 hqi (by omega) (by omega) (by omega) (fun k3 n3 h3 W3 => ⟨tx_W_sh W3, ?_⟩)
  refine tx_cT (by omega) hd2 W3 (by omega) (by omega) (by omega) (fun k4 n4 x h4 hk4 hn4 he hS _ => hC _ _ _ _ (by omega) (by omega) he ?_)
  rw [List.nil_append] at hS
  exact hS
end TOLD
