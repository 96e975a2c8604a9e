/-! THE LAW'S BARN AS IT IS MADE, three: barn walked -/
def be_Q (hb : q_H) (b : Nat) : q_Po := fun o h' => ∃ s H hf up pr ns Q, o = .inl (some (.ref s)) ∧ ((0 < H ∧ H ≤ 6) ∧ (8 ≤ hf ∧ hf ≤ 32) ∧ up ≤ 29 ∧ pr ≤ 3) ∧ ns ≤ 12 ∧ (∀ k, k < ns → zp_Ln H (Q k)) ∧ be_F h' s H hf up pr ∧ be_G h' s ns Q ∧ ∃ L, tx_B hb h' b L (zs_all hf pr up H Q ns) ∧ L ≤ 2 * (zs_all hf pr up H Q ns).length + 18
/-- the barn by hand and the text, as far as they are made -/
def be_J (hb h : q_H) (b s H hf up pr j : Nat) (Q : Nat → Nat → Nat) (l : List Int32) (m k n c1 c2 : Nat) : Prop := q_nx hb = 400 ∧ ((0 < H ∧ H ≤ 6) ∧ (8 ≤ hf ∧ hf ≤ 32) ∧ up ≤ 29 ∧ pr ≤ 3) ∧ be_F h s H hf up pr ∧ be_G h s j Q ∧ tx_W hb h b l m k n c1 c2
/-- a step's numbers, from the one that cells give -/
def be_q (X : Int32) (q0 H : Nat) : Nat → Nat
  | 0 => q0
  | 1 => tx_bl (X >>> ((3 : Int32) &&& 31)) H
  | 2 => tx_bl (X >>> ((5 : Int32) &&& 31)) H
  | 3 => tx_bl (X >>> ((4 : Int32) &&& 31)) 4
  | 4 => tx_bl (X >>> ((6 : Int32) &&& 31)) 3
  | 5 => 1 + tx_bl (X >>> ((7 : Int32) &&& 31)) 5
  | 6 => if tx_bl (X >>> ((2 : Int32) &&& 31)) 3 = 0 then tx_bl (X >>> ((8 : Int32) &&& 31)) 7 else 0
  | 7 => tx_bl (X >>> ((6 : Int32) &&& 31)) 12
  | _ => tx_bl (X >>> ((7 : Int32) &&& 31)) H
/-- a row of nine, filled up to i -/
def be_O (h h' : q_H) (q : Nat → Nat) (i : Nat) : Prop := tx_X h h' ∧ q_nx h' = q_nx h + 1 ∧ q_sh h' (q_nx h) = (1, 0, 9) ∧ ∀ t, t < i → q_I h' (q_nx h) t = nI (q t)
section BARN3
variable {g : q_G} {d mc ms : Nat} {h h' h1 hb : q_H} {a b c k n w s i j r ns L m m2 c1 c2 H hf up pr q0 : Nat} {l l2 : List Int32} {Q : Nat → Nat → Nat} {q : Nat → Nat} {X : Int32}
theorem be_Jb (hJ : be_J hb h b s H hf up pr j Q l m k n c1 c2) : 400 ≤ b ∧ q_sh h b = (0, 14, 0) := tx_W_sh hJ.2.2.2.2
theorem be_Js (hJ : be_J hb h b s H hf up pr j Q l m k n c1 c2) : 400 ≤ s ∧ q_sh h s = (0, 12, 0) := ⟨hJ.2.2.1.1.1, hJ.2.2.1.2.1⟩
theorem be_J3 (hJ : be_J hb h b s H hf up pr j Q l m k n c1 c2) : q_I h s 3 = nI hf := hJ.2.2.1.2.2.1.1
theorem be_J4 (hJ : be_J hb h b s H hf up pr j Q l m k n c1 c2) : q_I h s 4 = nI up := hJ.2.2.1.2.2.1.2.1
theorem be_J5 (hJ : be_J hb h b s H hf up pr j Q l m k n c1 c2) : q_I h s 5 = nI pr := hJ.2.2.1.2.2.1.2.2.1
theorem be_Fc (hF : be_F h s H hf up pr) : ∃ c, q_R h s 2 = some c ∧ 400 ≤ c ∧ q_sh h c = (3, 6, H) := by
  obtain ⟨-, -, -, -, -, c, -, -, ⟨c1, ⟨⟨c2, -⟩, c3⟩, -⟩, -⟩ := hF
  exact ⟨c, c1, c2, c3⟩
theorem be_Jk (hJ : be_J hb h b s H hf up pr j Q l m k n c1 c2) : k ≤ c1 + (2 * m + 18) ∧ n ≤ c2 + (4 * m + 36) := by
  obtain ⟨L, -, w1, w2, w3, w4⟩ := hJ.2.2.2.2
  exact ⟨by omega, by omega⟩
theorem be_JE (hJ : be_J hb h b s H hf up pr j Q l m k n c1 c2) (e : tx_E h h') {l' : List Int32} {m' k' n' c1' c2' : Nat} (hW : tx_W hb h' b l' m' k' n' c1' c2') : be_J hb h' b s H hf up pr j Q l' m' k' n' c1' c2' := by
  obtain ⟨j1, j2, j3, j4, -⟩ := hJ
  exact ⟨j1, j2, be_F_E e j3, be_G_E e j3.1.2 j3.2.1 j4, hW⟩
theorem be_aS (hd : 6 ≤ d) (hd2 : d < 2048) (hJ : be_J hb h b s H hf up pr j Q l m k n c1 c2) (hS : tx_S h a l2) (hl2 : tx_as l2) (hm2 : l2.length ≤ m2) (hmm : m + m2 ≤ 3000) (hmc : c1 + (2 * (m + m2) + 18) ≤ mc) (hms : c2 + (4 * (m + m2) + 36) ≤ ms)
    {C : Nat → Nat → Nat → q_H → Prop} (hC : ∀ k' n' h', be_J hb h' b s H hf up pr j Q (l ++ l2) (m + m2) k' n' c1 c2 → C k' n' b h') : q_cR g m_J4_append_15ec4 [] d mc ms [.ref b, .ref a] h k n True C :=
  tx_cSE hd hd2 hJ.2.2.2.2 hS hl2 hm2 hmm hmc hms (fun k' n' h' W e => hC k' n' h' (be_JE hJ e W))
theorem be_aI {x : Nat} (hd : 6 ≤ d) (hd2 : d < 2048) (hJ : be_J hb h b s H hf up pr j Q l m k n c1 c2) (hx : x < 100) (hmm : m + 2 ≤ 3000) (hmc : c1 + (2 * (m + 2) + 18) ≤ mc) (hms : c2 + (4 * (m + 2) + 36) ≤ ms)
    {C : Nat → Nat → Nat → q_H → Prop} (hC : ∀ k' n' h', be_J hb h' b s H hf up pr j Q (l ++ zs_dec x) (m + 2) k' n' c1 c2 → C k' n' b h') : q_cR g m_J4_append_bf812 [] d mc ms [.ref b, .int (nI x)] h k n True C :=
  tx_cIE hd hd2 hJ.2.2.2.2 hx hmm hmc hms (fun k' n' h' W e => hC k' n' h' (be_JE hJ e W))
theorem be_Oc (hO : be_O h h' q i) (h4 : 400 ≤ q_nx h) {t : Nat} (ht : t < 9) : 400 ≤ q_nx h ∧ q_sh h' (q_nx h) = (1, 0, 9) ∧ t < 9 ∧ q_s16 9 := ⟨h4, hO.2.2.1, ht, by decide⟩
theorem be_Op {x : Int32} (hO : be_O h h' q i) (hx : x = nI (q i)) : be_O h (q_pI h' (q_nx h) i x) q (i + 1) := by
  obtain ⟨o1, o2, o3, o4⟩ := hO
  refine ⟨tx_X_pI o1 (Nat.le_refl _), o2, o3, fun t ht => ?_⟩
  by_cases hti : t = i
  · subst hti
    rw [z_I_s, hx]
  · rw [z_I_j _ _ _ _ _ hti]; exact o4 t (by omega)
theorem be_Ln (h0 : 0 < H) (hH : H ≤ 6) (hq : q0 ≤ 4) : zp_Ln H (be_q X q0 H) := by
  have b := fun (v : Int32) (M : Nat) (h1 : 0 < M) (h2 : M < 100) => (be_bl (v := v) (w := M) h1 (by omega)).2
  have b6 : be_q X q0 H 6 ≤ 6 := by
    show (if tx_bl (X >>> ((2 : Int32) &&& 31)) 3 = 0 then tx_bl (X >>> ((8 : Int32) &&& 31)) 7 else 0) ≤ 6
    split
    · have := b (X >>> ((8 : Int32) &&& 31)) 7 (by decide) (by decide)
      omega
    · exact Nat.zero_le _
  have b3 := b (X >>> ((4 : Int32) &&& 31)) 4 (by decide) (by decide)
  have b4 := b (X >>> ((6 : Int32) &&& 31)) 3 (by decide) (by decide)
  have b5 := b (X >>> ((7 : Int32) &&& 31)) 5 (by decide) (by decide)
  have b7 := b (X >>> ((6 : Int32) &&& 31)) 12 (by decide) (by decide)
  exact ⟨hq, b _ H h0 (by omega), b _ H h0 (by omega), Nat.le_of_lt_succ b3, Nat.le_of_lt_succ b4, (by omega : 1 + tx_bl (X >>> ((7 : Int32) &&& 31)) 5 ≤ 5), b6, Nat.le_of_lt_succ b7, b _ H h0 (by omega)⟩
/-- how the walk goes on behind a step -/
def be_nx (g : q_G) (d : Nat) (hb h0 : q_H) (b s H hf up pr ns j : Nat) : Prop := ∀ (h : q_H) (k n : Nat) (Q : Nat → Nat → Nat), (∀ t, t < j → zp_Ln H (Q t)) →
  be_J hb h b s H hf up pr j Q (zs_head hf pr up ++ (zs_hooks 0 H ++ zs_lines Q 0 j)) (84 + 73 * j) k n (5 + 810 * j) (40 + 2200 * j) →
  q_K g m_L_barn [] d 12000 31000 h0 [] (be_Q hb b) k n (86, [some (.ref 52), some (.ref b), some (.ref s), some (.int (nI ns)), some (.int (nI j)), none, none, none], [], h)
set_option maxRecDepth 100000 in
theorem be_200 {h0 : q_H} (hd : 9 ≤ d) (hd2 : d < 2048) (hj : j < 12) (hQ : ∀ t, t < j → zp_Ln H (Q t)) (hq : zp_Ln H q) (hJ : be_J hb h b s H hf up pr j Q (zs_head hf pr up ++ (zs_hooks 0 H ++ zs_lines Q 0 j)) (84 + 73 * j) k n (5 + 810 * j) (40 + 2200 * j)) (hO : be_O h h' q 9)
    (hn : be_nx g d hb h0 b s H hf up pr ns (j + 1)) :
    q_K g m_L_barn [] d 12000 31000 h0 [] (be_Q hb b) (k + 1) (n + 9) (200, [some (.ref 52), some (.ref b), some (.ref s), some (.int (nI ns)), some (.int (nI j)), none, none, none], [.ref (q_nx h)], h') := by
  obtain ⟨j1, j2, jF, jG, jW⟩ := id hJ
  obtain ⟨jk, jn⟩ := be_Jk hJ
  obtain ⟨o1, o2, o3, o4⟩ := hO
  have hnx : 400 ≤ q_nx h := by have := tx_W_ext jW; have := this.1; omega
  have F1 := be_F_E (tx_E_X o1) jF
  obtain ⟨r, r1, r2⟩ := be_G_E (tx_E_X o1) jF.1.2 jF.2.1 jG
  have hr : be_r h' r j (fun t => if t = j then q else Q t) := by
    obtain ⟨r3, r4, r5⟩ := r2
    refine ⟨r3, r4, fun k hk => ?_⟩
    obtain ⟨v, v1, v2, v3, v4⟩ := r5 k hk
    exact ⟨v, v1, v2, v3, fun t ht => by
      show _ = nI ((if k = j then q else Q k) t)
      rw [if_neg (by omega)]; exact v4 t ht⟩
  refine w_L_barn_200 (by omega) ⟨⟨F1.1.1, F1.2.1⟩, r, r1, ?_⟩
  refine q_cR_of _ (tx_more (d := d - 1) (by omega) (by omega) hr (by omega) ⟨⟨hnx, by omega⟩, o3, fun t ht => by
    show _ = nI ((if j = j then q else Q j) t)
    rw [if_pos rfl]; exact o4 t ht⟩) (by omega) (q_lcle (by omega) (by omega)) (by omega) (by omega) trivial (fun x h2 hp => ?_)
  obtain ⟨p1, p2⟩ := hp
  have F2 := be_F_E (tx_E_X p1) F1
  obtain ⟨w1, w2, -⟩ := p1.2 (q_nx h) (by omega)
  have hL6 : zp_Ln 6 q := zp_Ln6 j2.1.2 hq
  refine ⟨⟨F2.1.1, F2.2.1⟩, ?_⟩
  refine q_cR_of (fun y h6 => z_ext (q_pR h2 s 6 (some x)) h6 ∧ tx_S h6 y (zs_told q)) (to_told (d := d - 1) (q := q) (w := q_nx h) (h := q_pR h2 s 6 (some x)) (by omega) (by omega) hL6 (by have := p1.1; show 400 ≤ q_nx h2; omega) ⟨hnx, by have := p1.1; show q_nx h < q_nx h2; omega⟩ (w1.trans o3) (fun t ht => by
    show q_I h2 (q_nx h) t = _
    rw [w2]; exact o4 t ht)) (by omega) (q_lcle (by omega) (by omega)) (by omega) (by omega) trivial (fun y h6 hp => ?_)
  obtain ⟨e6, hS⟩ := hp
  have W2 := tx_W_X (k' := k) (n' := n) (c1 := 0) (c2 := 0) (by omega) (tx_X_trans o1 p1) (by omega) (by omega) jW
  have W3 := tx_W_pR (o := some x) (by omega) F2.1.1 F2.2.1 W2
  have W6 := tx_W_X (k' := k + 1 + 1 + 800) (n' := n + 9 + (j + 1) + 2100) (c1 := 810) (c2 := 2200) (by omega) (tx_X_ext e6) (by omega) (by omega) W3
  have F3 : be_F (q_pR h2 s 6 (some x)) s H hf up pr := be_F_pR F2
  have G3 : be_G (q_pR h2 s 6 (some x)) s (j + 1) (fun t => if t = j then q else Q t) := be_G_pR F2.2.1 p2
  have J6 : be_J hb h6 b s H hf up pr (j + 1) (fun t => if t = j then q else Q t) (zs_head hf pr up ++ (zs_hooks 0 H ++ zs_lines Q 0 j)) (84 + 73 * j) (k + 1 + 1 + 800) (n + 9 + (j + 1) + 2100) (5 + 810 * j + 0 + 810) (40 + 2200 * j + 0 + 2200) :=
    be_JE ⟨j1, j2, F3, G3, W3⟩ (tx_E_ext e6) W6
  obtain ⟨dl, da⟩ := to_dl hL6
  obtain ⟨tl, ta⟩ := to_tl hL6 (i := q 6) (by have := hL6.2.2.2.2.2.2.1; omega)
  refine ⟨be_Jb J6, ?_⟩
  refine be_aS (m2 := 71) (by omega) hd2 J6 hS (tx_asA da ta) (by show (zs_does q ++ zs_test q (q 6)).length ≤ 71; rw [List.length_append]; omega) (by omega) (by omega) (by omega) (fun k7 n7 h7 J7 => ⟨be_Jb J7, ?_⟩)
  refine be_aS (m2 := 2) (by omega) hd2 J7 (tx_SC (a := 253) rfl (by decide)) (tx_asC (by decide)) (Nat.le_of_ble_eq_true rfl) (by omega) (by omega) (by omega) (fun k8 n8 h8 J8 => ?_)
  rw [nI_1]
  have eL : zs_head hf pr up ++ (zs_hooks 0 H ++ zs_lines Q 0 j) ++ zs_told q ++ q_str 253 = zs_head hf pr up ++ (zs_hooks 0 H ++ zs_lines (fun t => if t = j then q else Q t) 0 (j + 1)) := by
    rw [zs_lines_s, zs_lines_c (Q := Q) (Q' := fun t => if t = j then q else Q t) j 0 (fun t _ ht => by
      show (if t = j then q else Q t) = Q t
      rw [if_neg (by omega)])]
    show _ = zs_head hf pr up ++ (zs_hooks 0 H ++ (zs_lines Q 0 j ++ (zs_told (if 0 + j = j then q else Q (0 + j)) ++ q_str 253)))
    rw [if_pos (Nat.zero_add j)]
    simp only [List.append_assoc]
  rw [eL, show 84 + 73 * j + 71 + 2 = 84 + 73 * (j + 1) by omega, show 5 + 810 * j + 0 + 810 = 5 + 810 * (j + 1) by omega, show 40 + 2200 * j + 0 + 2200 = 40 + 2200 * (j + 1) by omega] at J8
  exact hn _ _ _ _ (fun t ht => by
    show zp_Ln H (if t = j then q else Q t)
    by_cases htj : t = j
    · rw [if_pos htj]; exact hq
    · rw [if_neg htj]; exact hQ t (by omega)) J8
theorem be_181 {h0 : q_H} (hd : 9 ≤ d) (hd2 : d < 2048) (hj : j < 12) (hQ : ∀ t, t < j → zp_Ln H (Q t)) (hq : zp_Ln H (be_q X q0 H)) (hJ : be_J hb h b s H hf up pr j Q (zs_head hf pr up ++ (zs_hooks 0 H ++ zs_lines Q 0 j)) (84 + 73 * j) k n (5 + 810 * j) (40 + 2200 * j)) (hO : be_O h h' (be_q X q0 H) 6)
    (hn : be_nx g d hb h0 b s H hf up pr ns (j + 1)) {x6 : Int32} (hx6 : x6 = nI (be_q X q0 H 6)) :
    q_K g m_L_barn [] d 12000 31000 h0 [] (be_Q hb b) (k + 1) (n + 9) (181, [some (.ref 52), some (.ref b), some (.ref s), some (.int (nI ns)), some (.int (nI j)), some (.int X), none, none], [.int x6, .int (6 : Int32), .ref (q_nx h), .ref (q_nx h)], h') := by
  obtain ⟨j1, j2, jF, jG, jW⟩ := id hJ
  obtain ⟨jk, jn⟩ := be_Jk hJ
  have hnx : 400 ≤ q_nx h := by have := tx_W_ext jW; have := this.1; omega
  have O7 := be_Op hO hx6
  refine w_L_barn_181 (by omega) ⟨6, 9, rfl, be_Oc hO hnx (by decide), ?_⟩
  refine be_bC (w := 12) (by omega) hd2 rfl (by decide) (by decide) (by omega) (by omega) (fun _ => ?_)
  have O8 := be_Op O7 (rfl : nI (tx_bl (X >>> ((6 : Int32) &&& 31)) 12) = nI (be_q X q0 H 7))
  have F8 := be_F_E (tx_E_X O8.1) jF
  obtain ⟨c, c1, c2, c3⟩ := be_Fc F8
  refine ⟨7, 9, rfl, be_Oc O7 hnx (by decide), ⟨F8.1.1, F8.2.1⟩, c, c1, H, ⟨c2, c3⟩, ?_⟩
  refine be_bC (w := H) (by omega) hd2 rfl j2.1.1 (by omega) (by omega) (by omega) (fun _ => ?_)
  have O9 := be_Op O8 (rfl : nI (tx_bl (X >>> ((7 : Int32) &&& 31)) H) = nI (be_q X q0 H 8))
  exact ⟨8, 9, rfl, be_Oc O8 hnx (by decide), be_200 hd hd2 hj hQ hq hJ O9 hn⟩
theorem be_140 {h0 : q_H} (hd : 9 ≤ d) (hd2 : d < 2048) (hj : j < 12) (hQ : ∀ t, t < j → zp_Ln H (Q t)) (hq : zp_Ln H (be_q X q0 H)) (hJ : be_J hb h b s H hf up pr j Q (zs_head hf pr up ++ (zs_hooks 0 H ++ zs_lines Q 0 j)) (84 + 73 * j) k n (5 + 810 * j) (40 + 2200 * j)) (hO : be_O h h' (be_q X q0 H) 3)
    (hn : be_nx g d hb h0 b s H hf up pr ns (j + 1)) :
    q_K g m_L_barn [] d 12000 31000 h0 [] (be_Q hb b) (k + 1) (n + 9) (140, [some (.ref 52), some (.ref b), some (.ref s), some (.int (nI ns)), some (.int (nI j)), some (.int X), none, none], [.ref (q_nx h)], h') := by
  obtain ⟨j1, j2, jF, jG, jW⟩ := id hJ
  obtain ⟨jk, jn⟩ := be_Jk hJ
  have hnx : 400 ≤ q_nx h := by have := tx_W_ext jW; have := this.1; omega
  refine w_L_barn_140 (by omega) ?_
  refine be_bC (w := 4) (by omega) hd2 rfl (by decide) (by decide) (by omega) (by omega) (fun _ => ?_)
  have O4 := be_Op hO (rfl : nI (tx_bl (X >>> ((4 : Int32) &&& 31)) 4) = nI (be_q X q0 H 3))
  refine ⟨3, 9, rfl, be_Oc hO hnx (by decide), ?_⟩
  refine be_bC (w := 3) (by omega) hd2 rfl (by decide) (by decide) (by omega) (by omega) (fun _ => ?_)
  have O5 := be_Op O4 (rfl : nI (tx_bl (X >>> ((6 : Int32) &&& 31)) 3) = nI (be_q X q0 H 4))
  refine ⟨4, 9, rfl, be_Oc O4 hnx (by decide), ?_⟩
  refine be_bC (w := 5) (by omega) hd2 rfl (by decide) (by decide) (by omega) (by omega) (fun _ => ?_)
  have O6 := be_Op O5 (nI_add 1 (tx_bl (X >>> ((7 : Int32) &&& 31)) 5) : (1 : Int32) + nI (tx_bl (X >>> ((7 : Int32) &&& 31)) 5) = nI (be_q X q0 H 5))
  refine ⟨5, 9, rfl, be_Oc O5 hnx (by decide), ?_⟩
  refine be_bC (w := 3) (by omega) hd2 rfl (by decide) (by decide) (by omega) (by omega) (fun h3 => ⟨fun hle => ?_, fun hgt => ?_⟩)
  · have z : tx_bl (X >>> ((2 : Int32) &&& 31)) 3 = 0 := by
      have := (nI_leI (b := 0) (by omega) (by decide)).mp hle
      omega
    refine be_bC (w := 7) (by omega) hd2 rfl (by decide) (by decide) (by omega) (by omega) (fun _ => ?_)
    refine be_181 hd hd2 hj hQ hq hJ O6 hn ?_
    show _ = nI (if tx_bl (X >>> ((2 : Int32) &&& 31)) 3 = 0 then tx_bl (X >>> ((8 : Int32) &&& 31)) 7 else 0)
    rw [if_pos z]
  · have z : ¬ tx_bl (X >>> ((2 : Int32) &&& 31)) 3 = 0 := fun z => hgt (by rw [z]; decide)
    refine be_181 hd hd2 hj hQ hq hJ O6 hn ?_
    show _ = nI (if tx_bl (X >>> ((2 : Int32) &&& 31)) 3 = 0 then tx_bl (X >>> ((8 : Int32) &&& 31)) 7 else 0)
    rw [if_neg z]
    rfl
theorem be_113 {h0 : q_H} {x : Int32} (hd : 9 ≤ d) (hd2 : d < 2048) (hj : j < 12) (hx : x = nI q0) (hq0 : q0 ≤ 4) (hQ : ∀ t, t < j → zp_Ln H (Q t)) (hJ : be_J hb h b s H hf up pr j Q (zs_head hf pr up ++ (zs_hooks 0 H ++ zs_lines Q 0 j)) (84 + 73 * j) k n (5 + 810 * j) (40 + 2200 * j))
    (hn : be_nx g d hb h0 b s H hf up pr ns (j + 1)) :
    q_K g m_L_barn [] d 12000 31000 h0 [] (be_Q hb b) k n (113, [some (.ref 52), some (.ref b), some (.ref s), some (.int (nI ns)), some (.int (nI j)), some (.int X), none, none], [.int x], h) := by
  obtain ⟨j1, j2, jF, jG, jW⟩ := id hJ
  obtain ⟨jk, jn⟩ := be_Jk hJ
  have hnx : 400 ≤ q_nx h := by have := tx_W_ext jW; have := this.1; omega
  have O0 : be_O h (q_new h (1, 0, 9)) (be_q X q0 H) 0 := ⟨tx_X_ext (z_ext_new _ _), rfl, z_sh_new _ _, fun t ht => absurd ht (Nat.not_lt_zero _)⟩
  have O1 := be_Op O0 (hx : x = nI (be_q X q0 H 0))
  have F1 := be_F_E (tx_E_X O1.1) jF
  obtain ⟨c, c1, c2, c3⟩ := be_Fc F1
  refine w_L_barn_113 (by omega) ⟨9, rfl, by decide, ⟨by omega, by omega⟩, 0, 9, rfl, be_Oc O0 hnx (by decide), ⟨F1.1.1, F1.2.1⟩, c, c1, H, ⟨c2, c3⟩, ?_⟩
  refine be_bC (w := H) (by omega) hd2 rfl j2.1.1 (by omega) (by omega) (by omega) (fun _ => ?_)
  have O2 := be_Op O1 (rfl : nI (tx_bl (X >>> ((3 : Int32) &&& 31)) H) = nI (be_q X q0 H 1))
  have F2 := be_F_E (tx_E_X O2.1) jF
  obtain ⟨c', c1', c2', c3'⟩ := be_Fc F2
  refine ⟨1, 9, rfl, be_Oc O1 hnx (by decide), ⟨F2.1.1, F2.2.1⟩, c', c1', H, ⟨c2', c3'⟩, ?_⟩
  refine be_bC (w := H) (by omega) hd2 rfl j2.1.1 (by omega) (by omega) (by omega) (fun _ => ?_)
  have O3 := be_Op O2 (rfl : nI (tx_bl (X >>> ((5 : Int32) &&& 31)) H) = nI (be_q X q0 H 2))
  exact ⟨2, 9, rfl, be_Oc O2 hnx (by decide), be_140 hd hd2 hj hQ (be_Ln j2.1.1 j2.1.2 hq0) hJ O3 hn⟩
theorem be_86 {h0 : q_H} (hd : 9 ≤ d) (hd2 : d < 2048) (hg : g.2.length < 2147483648) (hns : ns ≤ 12) : ∀ n' j, j + n' = ns → be_nx g d hb h0 b s H hf up pr ns j := by
  intro n'
  induction n' with
  | zero =>
    intro j hj h k n Q hQ hJ
    obtain rfl : j = ns := by omega
    obtain ⟨jk, jn⟩ := be_Jk hJ
    obtain ⟨j1, j2, jF, jG, L, w1, w2, -⟩ := id hJ
    exact w_L_barn_86 (by omega) ⟨fun _ => ⟨⟨by omega, by omega⟩, s, H, hf, up, pr, j, Q, rfl, j2, hns, hQ, jF, jG, L, w1, w2⟩, fun hn => absurd (Int32.le_refl _) hn⟩
  | succ n' ih =>
    intro j hj h k n Q hQ hJ
    obtain ⟨jk, jn⟩ := be_Jk hJ
    have hjn : j < ns := by omega
    have hrem : (3 : Int32) + (nI j - nI j / (12 : Int32) * (12 : Int32)) = nI (3 + j % 12) := by
      rw [show nI j - nI j / (12 : Int32) * (12 : Int32) = nI (j % 12) from pk_rem (d := 12) (by omega) (by decide) (by decide)]
      exact nI_add 3 _
    refine w_L_barn_86 (by omega) ⟨fun hle => absurd hle (nI_ge hjn (by omega)), fun _ => ⟨by decide, ?_⟩⟩
    refine be_cC (by omega) hd2 hg hrem (by omega) (by omega) (by omega) (fun y => ?_)
    refine be_bC (w := 8) (by omega) hd2 rfl (by decide) (by decide) (by omega) (by omega) (fun h8 => ⟨fun hle => ?_, fun _ => ?_⟩)
    · have h4 := (nI_leI (b := 4) (by omega) (by decide)).mp hle
      refine be_bC (w := 8) (by omega) hd2 rfl (by decide) (by decide) (by omega) (by omega) (fun _ => ?_)
      exact be_113 hd hd2 (by omega) rfl h4 hQ hJ (ih (j + 1) (by omega))
    · exact be_113 (q0 := 0) hd hd2 (by omega) rfl (by decide) hQ hJ (ih (j + 1) (by omega))
theorem be_63 {h0 : q_H} (hd : 9 ≤ d) (hd2 : d < 2048) (hg : g.2.length < 2147483648) : ∀ n' i, i + n' = H → ∀ (h : q_H) (k n : Nat), be_J hb h b s H hf up pr 0 Q (zs_head hf pr up ++ zs_hooks 0 i) (30 + 9 * i) k n 5 40 →
    q_K g m_L_barn [] d 12000 31000 h0 [] (be_Q hb b) k n (63, [some (.ref 52), some (.ref b), some (.ref s), some (.int (nI i)), none, none, none, none], [], h) := by
  intro n'
  induction n' with
  | zero =>
    intro i hi h k n hJ
    obtain rfl : i = H := by omega
    obtain ⟨jk, jn⟩ := be_Jk hJ
    obtain ⟨j1, j2, jF, jG, jW⟩ := id hJ
    obtain ⟨c, c1, c2, c3⟩ := be_Fc jF
    refine w_L_barn_63 (by omega) ⟨⟨jF.1.1, jF.2.1⟩, c, c1, i, ⟨c2, c3⟩, fun _ => ?_, fun hn => absurd (Int32.le_refl _) hn⟩
    refine be_cC (j := 2) (by omega) hd2 hg rfl (by decide) (by omega) (by omega) (fun y => ?_)
    refine be_bC (w := 13) (by omega) hd2 rfl (by decide) (by decide) (by omega) (by omega) (fun h13 => ?_)
    refine be_86 (H := i) (hf := hf) (up := up) (pr := pr) hd hd2 hg (by omega) _ 0 (Nat.zero_add _) h k n Q (fun t ht => absurd ht (Nat.not_lt_zero _)) ?_
    obtain ⟨L, w1, w2, w3, w4, w5⟩ := jW
    have e : zs_head hf pr up ++ (zs_hooks 0 i ++ zs_lines Q 0 0) = zs_head hf pr up ++ zs_hooks 0 i := by
      show zs_head hf pr up ++ (zs_hooks 0 i ++ []) = _
      rw [List.append_nil]
    rw [e]
    exact ⟨j1, j2, jF, jG, L, w1, w2, by omega, by omega, by omega⟩
  | succ n' ih =>
    intro i hi h k n hJ
    obtain ⟨jk, jn⟩ := be_Jk hJ
    obtain ⟨j1, j2, jF, jG, jW⟩ := id hJ
    obtain ⟨c, c1, c2, c3⟩ := be_Fc jF
    refine w_L_barn_63 (by omega) ⟨⟨jF.1.1, jF.2.1⟩, c, c1, H, ⟨c2, c3⟩, fun hle => absurd hle (nI_ge (by omega) (by omega)), fun _ => ⟨be_Jb hJ, ?_⟩⟩
    refine be_aS (m2 := 6) (by omega) hd2 hJ (tx_SC (a := 254) rfl (by decide)) (tx_asC (by decide)) (Nat.le_of_ble_eq_true rfl) (by omega) (by omega) (by omega) (fun k2 n2 h2 J2 => ⟨be_Jb J2, ?_⟩)
    refine be_aI (by omega) hd2 J2 (by omega) (by omega) (by omega) (by omega) (fun k3 n3 h3 J3 => ⟨be_Jb J3, ?_⟩)
    refine be_aS (m2 := 1) (by omega) hd2 J3 (tx_SC (a := 255) rfl (by decide)) (tx_asC (by decide)) (Nat.le_of_ble_eq_true rfl) (by omega) (by omega) (by omega) (fun k4 n4 h4 J4 => ?_)
    rw [nI_1]
    refine ih (i + 1) (by omega) h4 k4 n4 ?_
    rw [zs_hooks_s, Nat.zero_add]
    have e : zs_head hf pr up ++ zs_hooks 0 i ++ q_str 254 ++ zs_dec i ++ q_str 255 = zs_head hf pr up ++ (zs_hooks 0 i ++ (q_str 254 ++ (zs_dec i ++ q_str 255))) := by simp only [List.append_assoc]
    rw [e, show 30 + 9 * i + 6 + 2 + 1 = 30 + 9 * (i + 1) by omega] at J4
    exact J4
theorem be_42 {h0 : q_H} (hd : 9 ≤ d) (hd2 : d < 2048) (hg : g.2.length < 2147483648) (hJ : be_J hb h b s H hf up pr 0 Q [] 0 k n 5 40) :
    q_K g m_L_barn [] d 12000 31000 h0 [] (be_Q hb b) k n (42, [some (.ref 52), some (.ref b), some (.ref s), none, none, none, none, none], [], h) := by
  obtain ⟨j1, j2, jF, jG, jW⟩ := id hJ
  refine w_L_barn_42 (by omega) ⟨be_Jb hJ, ?_⟩
  refine be_aS (m2 := 5) (by omega) hd2 hJ (tx_SC (a := 250) rfl (by decide)) (tx_asC (by decide)) (Nat.le_of_ble_eq_true rfl) (by omega) (by omega) (by omega) (fun k1 n1 h1 J1 => ⟨be_Js J1, be_Jb J1, ?_⟩)
  rw [be_J3 J1]
  refine be_aI (by omega) hd2 J1 (by omega) (by omega) (by omega) (by omega) (fun k2 n2 h2 J2 => ⟨be_Jb J2, ?_⟩)
  refine be_aS (m2 := 10) (by omega) hd2 J2 (tx_SC (a := 251) rfl (by decide)) (tx_asC (by decide)) (Nat.le_of_ble_eq_true rfl) (by omega) (by omega) (by omega) (fun k3 n3 h3 J3 => ⟨be_Js J3, be_Jb J3, ?_⟩)
  rw [be_J5 J3]
  refine be_aI (by omega) hd2 J3 (by omega) (by omega) (by omega) (by omega) (fun k4 n4 h4 J4 => ⟨be_Jb J4, ?_⟩)
  refine be_aS (m2 := 7) (by omega) hd2 J4 (tx_SC (a := 252) rfl (by decide)) (tx_asC (by decide)) (Nat.le_of_ble_eq_true rfl) (by omega) (by omega) (by omega) (fun k5 n5 h5 J5 => ⟨be_Js J5, be_Jb J5, ?_⟩)
  rw [be_J4 J5]
  refine be_aI (by omega) hd2 J5 (by omega) (by omega) (by omega) (by omega) (fun k6 n6 h6 J6 => ⟨be_Jb J6, ?_⟩)
  refine be_aS (m2 := 2) (by omega) hd2 J6 (tx_SC (a := 253) rfl (by decide)) (tx_asC (by decide)) (Nat.le_of_ble_eq_true rfl) (by omega) (by omega) (by omega) (fun k7 n7 h7 J7 => ?_)
  refine be_63 (Q := Q) (hf := hf) (up := up) (pr := pr) hd hd2 hg H 0 (Nat.zero_add _) h7 k7 n7 ?_
  have e : [] ++ q_str 250 ++ zs_dec hf ++ q_str 251 ++ zs_dec pr ++ q_str 252 ++ zs_dec up ++ q_str 253 = zs_head hf pr up ++ zs_hooks 0 0 := by
    show _ = (q_str 250 ++ (zs_dec hf ++ (q_str 251 ++ (zs_dec pr ++ (q_str 252 ++ (zs_dec up ++ q_str 253)))))) ++ []
    simp only [List.nil_append, List.append_nil, List.append_assoc]
  rw [e] at J7
  exact J7
/-- the barn that cells choose, and its text -/
theorem be_barn (hd : 9 ≤ d) (hd2 : d < 2048) (hg : g.2.length < 2147483648) (h4 : q_nx hb = 400) (hB : tx_B hb h b 16 []) : q_Ct g m_L_barn d 12000 31000 [] [.ref 52, .ref b] h (be_Q hb b) := by
  have h12 := q_nf12
  have hnx : 400 ≤ q_nx h := by have := hB.1.1; omega
  have hs : q_sh (q_new h (0, 12, 0)) (q_nx h) = (0, 12, 0) := z_sh_new _ _
  have hz : ∀ j, 7 ≤ j → q_I (q_new h (0, 12, 0)) (q_nx h) j = 0 := fun j _ => by rw [tx_n_I0]
  have key : ∀ (r1 r2 u : Nat), r1 < 6 → r2 < 25 → u < 30 → q_K g m_L_barn [] d 12000 31000 h [] (be_Q hb b) (0 + 1) (0 + q_nf 12) (33, [some (.ref 52), some (.ref b), none, none, none, none, none, none], [.int (nI u), .int ((8 : Int32) + nI r2), .int ((1 : Int32) + nI r1), .ref (q_nx h), .ref (q_nx h)], q_new h (0, 12, 0)) := by
    intro r1 r2 u a1 a2 a3
    rw [show (8 : Int32) + nI r2 = nI (8 + r2) from nI_add 8 r2, show (1 : Int32) + nI r1 = nI (1 + r1) from nI_add 1 r1]
    refine w_L_barn_33 (by omega) ?_
    refine be_cC (j := 1) (by omega) hd2 hg rfl (by decide) (by omega) (by omega) (fun y => ?_)
    refine be_bC (w := 4) (by omega) hd2 rfl (by decide) (by decide) (by omega) (by omega) (fun hp => ?_)
    refine q_cV_of (fun h' => tx_X h h' ∧ be_F h' (q_nx h) (1 + r1) (8 + r2) u (tx_bl (y >>> ((5 : Int32) &&& 31)) 4) ∧ be_G h' (q_nx h) 0 (fun _ _ => 0)) (tx_sim (d := d - 1) (by omega) (by omega) (tx_X_ext (z_ext_new _ _)) hnx (Nat.le_refl _) (Nat.lt_succ_self _) hs hz (by omega)) (by omega) (q_lcle (by omega) (by omega)) (by omega) (by omega) trivial (fun h' hq => ?_)
    obtain ⟨p1, p2, p3⟩ := hq
    refine be_42 (H := 1 + r1) (hf := 8 + r2) (up := u) (pr := tx_bl (y >>> ((5 : Int32) &&& 31)) 4) hd hd2 hg (Q := fun _ _ => 0) ⟨h4, ⟨⟨by omega, by omega⟩, ⟨by omega, by omega⟩, by omega, by omega⟩, p2, p3, 16, tx_B_X (by omega) p1 hB, by decide, Nat.le_refl _, by omega, by omega⟩
  refine q_CtK ok_L_barn (by omega) (Nat.le_of_ble_eq_true rfl) ?_ _ rfl rfl
  refine w_L_barn_0 (by omega) ⟨⟨by omega, by omega⟩, ?_⟩
  refine be_cC (j := 0) (by omega) hd2 hg rfl (by decide) (by omega) (by omega) (fun y1 => ?_)
  refine be_bC (w := 6) (by omega) hd2 rfl (by decide) (by decide) (by omega) (by omega) (fun b1 => ?_)
  refine be_cC (j := 0) (by omega) hd2 hg rfl (by decide) (by omega) (by omega) (fun y2 => ?_)
  refine be_bC (w := 25) (by omega) hd2 rfl (by decide) (by decide) (by omega) (by omega) (fun b2 => ?_)
  refine be_cC (j := 1) (by omega) hd2 hg rfl (by decide) (by omega) (by omega) (fun y3 => ?_)
  refine be_bC (w := 2) (by omega) hd2 rfl (by decide) (by decide) (by omega) (by omega) (fun b3 => ⟨fun _ => key _ _ 16 b1 b2 (by decide), fun _ => ?_⟩)
  refine be_cC (j := 1) (by omega) hd2 hg rfl (by decide) (by omega) (by omega) (fun y4 => ?_)
  refine be_bC (w := 30) (by omega) hd2 rfl (by decide) (by decide) (by omega) (by omega) (fun b4 => ?_)
  exact key _ _ _ b1 b2 b4
end BARN3
