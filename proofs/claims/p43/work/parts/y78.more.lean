/-! THE LAW'S BARN AS IT IS MADE, one: what stays, more, cell, below, the constructor -/
/-- h' has all that h has (whatever references are written) -/
def tx_X (h h' : q_H) : Prop := q_nx h ≤ q_nx h' ∧ ∀ a, a < q_nx h → q_sh h' a = q_sh h a ∧ q_I h' a = q_I h a ∧ q_R h' a = q_R h a ∧ q_E h' a = q_E h a ∧ q_L h' a = q_L h a
def be_A (h : q_H) (a n : Nat) : Prop := (400 ≤ a ∧ a < q_nx h) ∧ q_sh h a = (3, 6, n)
/-- the barn by hand, empty -/
def be_F (h : q_H) (s H hf up pr : Nat) : Prop := (400 ≤ s ∧ s < q_nx h) ∧ q_sh h s = (0, 12, 0) ∧ (q_I h s 3 = nI hf ∧ q_I h s 4 = nI up ∧ q_I h s 5 = nI pr ∧ ∀ j, 7 ≤ j → q_I h s j = 0) ∧
  ∃ a b c, (q_R h s 0 = some a ∧ be_A h a 0) ∧ (q_R h s 1 = some b ∧ be_A h b 0) ∧ (q_R h s 2 = some c ∧ be_A h c H ∧ ∀ j, q_R h c j = none) ∧ a ≠ b ∧ a ≠ c ∧ b ≠ c
/-- the steps' numbers, row by row, in row r -/
def be_r (h : q_H) (r ns : Nat) (Q : Nat → Nat → Nat) : Prop := (400 ≤ r ∧ r < q_nx h) ∧ q_sh h r = (3, 7, ns) ∧ ∀ k, k < ns → ∃ v, q_R h r k = some v ∧ (400 ≤ v ∧ v < q_nx h) ∧ q_sh h v = (1, 0, 9) ∧ ∀ j, j < 9 → q_I h v j = nI (Q k j)
def be_G (h : q_H) (s ns : Nat) (Q : Nat → Nat → Nat) : Prop := ∃ r, q_R h s 6 = some r ∧ be_r h r ns Q
section BARN1
variable {g : q_G} {d mc ms : Nat} {h h' h1 h2 h3 h0 : q_H} {a b c k n w s i r ns L m k0 n0 H hf up pr : Nat} {l : List Int32} {Q : Nat → Nat → Nat}
theorem tx_X_rfl : tx_X h h := ⟨Nat.le_refl _, fun _ _ => ⟨rfl, rfl, rfl, rfl, rfl⟩⟩
theorem tx_X_ext (e : z_ext h h') : tx_X h h' := ⟨e.1, fun a ha => by
  obtain ⟨e1, e2, e3, e4, e5⟩ := e.2 a ha
  exact ⟨e1, e2, e3, e4.1, e5⟩⟩
theorem tx_X_trans (a : tx_X h1 h2) (b : tx_X h2 h3) : tx_X h1 h3 := by
  refine ⟨Nat.le_trans a.1 b.1, fun x hx => ?_⟩
  obtain ⟨a1, a2, a3, a4, a5⟩ := a.2 x hx
  obtain ⟨b1, b2, b3, b4, b5⟩ := b.2 x (Nat.lt_of_lt_of_le hx a.1)
  exact ⟨b1.trans a1, b2.trans a2, b3.trans a3, b4.trans a4, b5.trans a5⟩
theorem tx_X_pI {j : Nat} {x : Int32} (e : tx_X h h1) (ha : q_nx h ≤ a) : tx_X h (q_pI h1 a j x) := by
  refine ⟨e.1, fun b hb => ?_⟩
  obtain ⟨e1, e2, e3, e4, e5⟩ := e.2 b hb
  exact ⟨e1, (z_I_a _ _ _ _ _ (by omega)).trans e2, e3, e4, e5⟩
theorem tx_X_pR {j : Nat} {x : Option Nat} (e : tx_X h h1) (ha : q_nx h ≤ a) : tx_X h (q_pR h1 a j x) := by
  refine ⟨e.1, fun b hb => ?_⟩
  obtain ⟨e1, e2, e3, e4, e5⟩ := e.2 b hb
  exact ⟨e1, e2, (z_R_a _ _ _ _ _ (by omega)).trans e3, e4, e5⟩
theorem tx_E_X (e : tx_X h h') : tx_E h h' := ⟨e.1, fun a ha => by
  obtain ⟨e1, e2, e3, e4, e5⟩ := e.2 a ha
  exact ⟨e1, e4, e5, fun _ => ⟨e3, fun _ => e2⟩⟩⟩
theorem z_ext_X (h4 : q_nx h0 ≤ 400) (e0 : z_ext h0 h) (e : tx_X h h') : z_ext h0 h' := by
  refine ⟨Nat.le_trans e0.1 e.1, fun a ha => ?_⟩
  obtain ⟨a1, a2, a3, a4, a5⟩ := e0.2 a ha
  obtain ⟨b1, b2, b3, b4, b5⟩ := e.2 a (Nat.lt_of_lt_of_le ha e0.1)
  exact ⟨b1.trans a1, b2.trans a2, b3.trans a3, ⟨b4.trans a4.1, fun _ _ b _ => by
    rcases Nat.lt_or_ge b 400 with hb | hb
    · exact Or.inr (Or.inl (Or.inl hb))
    · exact Or.inr (Or.inr (Nat.le_trans h4 hb))⟩, b5.trans a5⟩
theorem tx_B_X (h4 : q_nx h0 ≤ 400) (e : tx_X h h') (hB : tx_B h0 h b L l) : tx_B h0 h' b L l := by
  obtain ⟨b0, b1, ⟨b2, b3⟩, b4, b5, b6, v, ⟨v1, v2⟩, v3, v4, v5, v6, v7⟩ := hB
  obtain ⟨e1, e2, e3, -, -⟩ := e.2 b b3
  obtain ⟨f1, f2, f3, -, -⟩ := e.2 v v2
  exact ⟨z_ext_X h4 b0 e, b1, ⟨b2, Nat.lt_of_lt_of_le b3 e.1⟩, e1.trans b4, by rw [e2]; exact b5, by rw [e2]; exact b6, v, ⟨v1, Nat.lt_of_lt_of_le v2 e.1⟩, by rw [e3]; exact v3, f1.trans v4, v5, fun j hj => by rw [f2]; exact v6 j hj, fun j hj => by rw [f2]; exact v7 j hj⟩
/-- other calls have been, that cost c1, c2 -/
theorem tx_W_X {k' n' c1 c2 : Nat} (h4 : q_nx h0 ≤ 400) (e : tx_X h h') (hk : k' ≤ k + c1) (hn : n' ≤ n + c2) (hW : tx_W h0 h b l m k n k0 n0) : tx_W h0 h' b l m k' n' (k0 + c1) (n0 + c2) := by
  obtain ⟨L, hB, w1, w2, w3, w4⟩ := hW
  exact ⟨L, tx_B_X h4 e hB, w1, w2, by omega, by omega⟩
/-- the steps' row is another -/
theorem tx_W_pR {o : Option Nat} (h4 : q_nx h0 ≤ 400) (hs4 : 400 ≤ s) (hs : q_sh h s = (0, 12, 0)) (hW : tx_W h0 h b l m k n k0 n0) : tx_W h0 (q_pR h s 6 o) b l m k n k0 n0 := by
  obtain ⟨L, ⟨b0, b1, ⟨b2, b3⟩, b4, b5, b6, v, ⟨v1, v2⟩, v3, v4, v5, v6, v7⟩, w1, w2, w3, w4⟩ := hW
  have hbs : b ≠ s := fun e => by rw [e, hs] at b4; cases b4
  refine ⟨L, ⟨⟨b0.1, fun a ha => ?_⟩, b1, ⟨b2, b3⟩, b4, b5, b6, v, ⟨v1, v2⟩, by rw [z_R_a _ _ _ _ _ hbs]; exact v3, v4, v5, v6, v7⟩, w1, w2, w3, w4⟩
  obtain ⟨a1, a2, a3, a4, a5⟩ := b0.2 a ha
  exact ⟨a1, a2, (z_R_a _ _ _ _ _ (by omega)).trans a3, ⟨a4.1, fun _ _ b _ => by
    rcases Nat.lt_or_ge b 400 with hb | hb
    · exact Or.inr (Or.inl (Or.inl hb))
    · exact Or.inr (Or.inr (Nat.le_trans h4 hb))⟩, a5⟩
theorem be_A_E (e : tx_E h h') (hA : be_A h a n) : be_A h' a n ∧ q_R h' a = q_R h a := by
  obtain ⟨⟨a1, a2⟩, a3⟩ := hA
  obtain ⟨e1, -, -, e4⟩ := e.2 a a2
  exact ⟨⟨⟨a1, Nat.lt_of_lt_of_le a2 e.1⟩, e1.trans a3⟩, (e4 (by rw [a3]; intro e; cases e)).1⟩
theorem tx_ns {s : q_Sh} (h : s.1 = 0 ∨ s.1 = 3 ∨ s.2.1 = 0) : ∀ L, s ≠ (1, 1, L) := fun L e => by
  rw [e] at h
  rcases h with h | h | h <;> cases h
theorem be_F_E (e : tx_E h h') (hF : be_F h s H hf up pr) : be_F h' s H hf up pr := by
  obtain ⟨⟨s1, s2⟩, s3, ⟨i3, i4, i5, i7⟩, a, b, c, ⟨a1, a2⟩, ⟨b1, b2⟩, ⟨c1, c2, c3⟩, n1, n2, n3⟩ := hF
  obtain ⟨e1, -, -, e4⟩ := e.2 s s2
  obtain ⟨e5, e6⟩ := e4 (by rw [s3]; decide)
  have e6 := e6 (tx_ns (Or.inl (by rw [s3])))
  refine ⟨⟨s1, Nat.lt_of_lt_of_le s2 e.1⟩, e1.trans s3, ⟨by rw [e6]; exact i3, by rw [e6]; exact i4, by rw [e6]; exact i5, fun j hj => by rw [e6]; exact i7 j hj⟩, a, b, c, ⟨by rw [e5]; exact a1, (be_A_E e a2).1⟩, ⟨by rw [e5]; exact b1, (be_A_E e b2).1⟩, ⟨by rw [e5]; exact c1, (be_A_E e c2).1, fun j => by rw [(be_A_E e c2).2]; exact c3 j⟩, n1, n2, n3⟩
theorem be_r_E (e : tx_E h h') (hr : be_r h r ns Q) : be_r h' r ns Q := by
  obtain ⟨⟨r1, r2⟩, r3, r4⟩ := hr
  obtain ⟨e1, -, -, e4⟩ := e.2 r r2
  obtain ⟨e5, -⟩ := e4 (by rw [r3]; intro e; cases e)
  refine ⟨⟨r1, Nat.lt_of_lt_of_le r2 e.1⟩, e1.trans r3, fun k hk => ?_⟩
  obtain ⟨v, v1, ⟨v2, v3⟩, v4, v5⟩ := r4 k hk
  obtain ⟨f1, -, -, f4⟩ := e.2 v v3
  have f6 := (f4 (by rw [v4]; decide)).2 (tx_ns (Or.inr (Or.inr (by rw [v4]))))
  exact ⟨v, by rw [e5]; exact v1, ⟨v2, Nat.lt_of_lt_of_le v3 e.1⟩, f1.trans v4, fun j hj => by rw [f6]; exact v5 j hj⟩
theorem be_G_E (e : tx_E h h') (hs2 : s < q_nx h) (hs : q_sh h s = (0, 12, 0)) (hG : be_G h s ns Q) : be_G h' s ns Q := by
  obtain ⟨r, r1, r2⟩ := hG
  obtain ⟨-, -, -, e4⟩ := e.2 s hs2
  exact ⟨r, by rw [(e4 (by rw [hs]; decide)).1]; exact r1, be_r_E e r2⟩
theorem be_F_pR {o : Option Nat} (hF : be_F h s H hf up pr) : be_F (q_pR h s 6 o) s H hf up pr := by
  obtain ⟨s12, s3, i, a, b, c, ⟨a1, a2⟩, ⟨b1, b2⟩, ⟨c1, c2, c3⟩, n1, n2, n3⟩ := hF
  have hcs : c ≠ s := fun e => by rw [e] at c2; have := c2.2; rw [s3] at this; cases this
  exact ⟨s12, s3, i, a, b, c, ⟨by rw [z_R_j _ _ _ _ _ (by decide)]; exact a1, a2⟩, ⟨by rw [z_R_j _ _ _ _ _ (by decide)]; exact b1, b2⟩, ⟨by rw [z_R_j _ _ _ _ _ (by decide)]; exact c1, c2, fun j => by rw [z_R_a _ _ _ _ _ hcs]; exact c3 j⟩, n1, n2, n3⟩
theorem be_G_pR (hs : q_sh h s = (0, 12, 0)) (hr : be_r h r ns Q) : be_G (q_pR h s 6 (some r)) s ns Q := by
  obtain ⟨r12, r3, r4⟩ := hr
  have hrs : r ≠ s := fun e => by rw [e, hs] at r3; cases r3
  refine ⟨r, z_R_s _ _ _ _, r12, r3, fun k hk => ?_⟩
  obtain ⟨v, v1, v2⟩ := r4 k hk
  exact ⟨v, by rw [z_R_a _ _ _ _ _ hrs]; exact v1, v2⟩
/-- one row more -/
theorem tx_more (hd : 1 ≤ d) (hd2 : d < 2048) (hr : be_r h r ns Q) (hns : ns < 1000) (hw : (400 ≤ w ∧ w < q_nx h) ∧ q_sh h w = (1, 0, 9) ∧ ∀ j, j < 9 → q_I h w j = nI (Q ns j)) :
    q_Ct g m_L_more d 1 (ns + 1) [] [.ref r, .ref w] h (fun o h' => ∃ x, o = .inl (some (.ref x)) ∧ tx_X h h' ∧ be_r h' x (ns + 1) Q) := by
  obtain ⟨⟨r1, r2⟩, r3, r4⟩ := id hr
  obtain ⟨⟨w1, w2⟩, w3, w4⟩ := hw
  have hN : 400 ≤ q_nx h := by omega
  refine q_CtK ok_L_more (by omega) (Nat.le_of_ble_eq_true rfl) ?_ _ rfl rfl
  have key : ∀ n i (h1 : q_H), i + n = ns → tx_X h h1 → q_nx h < q_nx h1 → q_sh h1 (q_nx h) = (3, 7, ns + 1) → (∀ k, k < i → q_R h1 (q_nx h) k = q_R h r k) →
      q_K g m_L_more [] d 1 (ns + 1) h [] (fun o h' => ∃ x, o = .inl (some (.ref x)) ∧ tx_X h h' ∧ be_r h' x (ns + 1) Q) (0 + 1) (0 + (ns + 1)) (8, [some (.ref r), some (.ref w), some (.ref (q_nx h)), some (.int (nI i))], [], h1) := by
    intro n
    induction n with
    | zero =>
      intro i h1 hi e hn hs hR
      obtain rfl : i = ns := by omega
      obtain ⟨e1, e2, e3, -, -⟩ := e.2 r r2
      obtain ⟨f1, f2, f3, -, -⟩ := e.2 w w2
      refine w_L_more_8 hd ⟨i, ⟨r1, e1.trans r3⟩, fun _ => ⟨i, ⟨r1, e1.trans r3⟩, i, i + 1, rfl, ⟨hN, hs, Nat.lt_succ_self _, by show i + 1 < 65536; omega⟩, ⟨9, w1, f1.trans w3⟩, ⟨by omega, by omega⟩, _, rfl, tx_X_pR e (Nat.le_refl _), ⟨hN, hn⟩, hs, fun k hk => ?_⟩, fun hc => absurd (Int32.le_refl _) hc⟩
      by_cases hki : k = i
      · subst hki
        exact ⟨w, z_R_s _ _ _ _, ⟨w1, Nat.lt_of_lt_of_le w2 e.1⟩, f1.trans w3, fun j hj => by
          show q_I h1 w j = _
          rw [f2]; exact w4 j hj⟩
      · obtain ⟨v, v1, ⟨v2, v3⟩, v4, v5⟩ := r4 k (by omega)
        obtain ⟨g1, g2, -⟩ := e.2 v v3
        refine ⟨v, ?_, ⟨v2, Nat.lt_of_lt_of_le v3 e.1⟩, g1.trans v4, fun j hj => by
          show q_I h1 v j = _
          rw [g2]; exact v5 j hj⟩
        rw [z_R_j _ _ _ _ _ hki, hR k (by omega)]
        exact v1
    | succ n ih =>
      intro i h1 hi e hn hs hR
      have hil : i < ns := by omega
      obtain ⟨e1, e2, e3, -, -⟩ := e.2 r r2
      obtain ⟨v, v1, ⟨v2, v3⟩, v4, v5⟩ := r4 i hil
      obtain ⟨g1, g2, -⟩ := e.2 v v3
      refine w_L_more_8 hd ⟨ns, ⟨r1, e1.trans r3⟩, fun hle => absurd hle (nI_ge hil (by omega)), fun _ => ⟨i, ns, rfl, ⟨r1, e1.trans r3, hil, by show ns < 65536; omega⟩, v, by rw [e3]; exact v1, i, ns + 1, rfl, ⟨hN, hs, by omega, by show ns + 1 < 65536; omega⟩, ⟨9, v2, g1.trans v4⟩, ?_⟩⟩
      rw [nI_1]
      refine ih (i + 1) _ (by omega) (tx_X_pR e (Nat.le_refl _)) hn hs (fun k hk => ?_)
      by_cases hki : k = i
      · subst hki
        rw [z_R_s, v1]
      · rw [z_R_j _ _ _ _ _ hki]; exact hR k (by omega)
  refine w_L_more_0 hd ⟨ns, ⟨r1, r3⟩, ns + 1, nI_1 ns, by show ns + 1 < 65536; omega, ⟨by omega, by omega⟩, ?_⟩
  exact key ns 0 _ (by omega) (tx_X_ext (z_ext_new _ _)) (Nat.lt_succ_self _) (z_sh_new _ _) (fun k hk => absurd hk (Nat.not_lt_zero _))
/-- numbers below -/
theorem tx_and (v : Int32) : ∃ k, k < 2 ^ 31 ∧ v &&& 2147483647 = nI k := by
  refine ⟨(v.toBitVec &&& 2147483647#32).toNat, ?_, ?_⟩
  · rw [BitVec.toNat_and]
    exact Nat.lt_of_le_of_lt Nat.and_le_right (by decide)
  · apply Int32.toBitVec_inj.mp
    show _ = BitVec.ofNat 32 _
    rw [BitVec.ofNat_toNat, BitVec.setWidth_eq]
    rfl
theorem tx_below {v : Int32} {M : Nat} (hd : 1 ≤ d) (hd2 : d < 2048) (h0 : 0 < M) (hM : M < 2 ^ 31) : q_Ct g m_L_below d 0 0 [] [.int v, .int (nI M)] h (fun o h' => ∃ y, o = .inl (some (.int y)) ∧ (∃ r, r < M ∧ y = nI r) ∧ h' = h) := by
  refine q_Ct_mono (z_below hd (by omega) (v := v) (m := nI M) (nI_ne0 h0 hM)) (fun o h' hq => ?_)
  obtain ⟨y, e1, e2, e3⟩ := hq
  obtain ⟨k, hk, ek⟩ := tx_and v
  refine ⟨y, e1, ⟨k % M, Nat.mod_lt _ h0, ?_⟩, e3⟩
  rw [e2, ek, pk_rem hk h0 hM]
theorem tx_cell {j : Nat} (hd : 1 ≤ d) (hd2 : d < 2048) (hg : g.2.length < 2147483648) (hj : j < 2 ^ 31) : q_Ct g m_L_cell d 0 0 [] [.ref 52, .int (nI j)] h (fun o h' => ∃ x, o = .inl (some (.int x)) ∧ h' = h) := by
  refine q_CtK ok_L_cell (by omega) (Nat.le_of_ble_eq_true rfl) ?_ _ rfl rfl
  refine w_L_cell_0 hd ⟨rfl, fun _ => ⟨rfl, ⟨Nat.le_refl _, Nat.le_refl _⟩, _, rfl, rfl⟩, fun hn => ⟨j, rfl, rfl, ⟨?_, hg⟩, rfl, ⟨Nat.le_refl _, Nat.le_refl _⟩, _, rfl, rfl⟩⟩
  rcases Nat.lt_or_ge j g.2.length with h | h
  · exact h
  · exact absurd (nI_le h hj) hn
end BARN1
