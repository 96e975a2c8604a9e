/-! THE TEXT THAT IS TOLD is read without error, and gives just these steps -/
section ZTOLD
def zx_ph (W : List (List Int32)) (w : List Int32) : Nat × Int32 := (zt_sg w, zt_val W w)
theorem zc_sgk : ∀ s, s < 49 → 5 ≤ s → zt_sg (zx_k s) = s := by decide +kernel
theorem zc_sgd : ∀ n, n < 100 → zt_sg (zs_dec n) = 2 := by decide +kernel
theorem zc_sgh : ∀ i, i < 10 → zt_sg (zx_h i) = 3 := by decide +kernel
theorem zc_num : ∀ n, n < 100 → zt_num (zs_dec n) 0 = nI n := by decide +kernel
variable {W : List (List Int32)} {s n i k acc H hf pr m ns : Nat} {b : List Int32} {q : Nat → Nat} {Q : Nat → Nat → Nat}
theorem zx_phk (h1 : s < 49) (h2 : 5 ≤ s) : zx_ph W (zx_k s) = (s, 0) := by
  unfold zx_ph zt_val
  rw [zc_sgk s h1 h2, if_neg (by omega), if_neg (by omega)]
theorem zx_phd (h : n < 100) : zx_ph W (zs_dec n) = (2, nI n) := by
  unfold zx_ph zt_val
  rw [zc_sgd n h, if_pos rfl, zc_num n h]
theorem zx_phh (h : i < 10) : zx_ph W (zx_h i) = (3, nI (zt_ix (zx_h i) W 0)) := by
  unfold zx_ph zt_val
  rw [zc_sgh i h, if_neg (by decide), if_pos rfl]
theorem zx_hne {w : List Int32} (h : i < 10) (hw : zt_sg w ≠ 3) : ¬ w = zx_h i := fun e => hw (by rw [e]; exact zc_sgh i h)
theorem zx_ixN {l : List (List Int32)} (hi : i < 10) (h : ∀ w ∈ l, zt_sg w ≠ 3) : zt_ix (zx_h i) l k = k + l.length := zt_ix_not (fun hm => h _ hm (zc_sgh i hi))
theorem zx_ixH {rest : List (List Int32)} (hi : i < 10) : ∀ (n k acc : Nat) (b : List Int32), k ≤ i → i < k + n → zt_ix (zx_h i) ((zx_hooks b k n).map (·.2) ++ rest) acc = acc + 3 * (i - k) + 1 := by
  intro n
  induction n with
  | zero => intro k acc b h1 h2; omega
  | succ n ih =>
    intro k acc b h1 h2
    show zt_ix (zx_h i) (zx_k 8 :: zx_h k :: zx_k 38 :: ((zx_hooks [] (k + 1) n).map (·.2) ++ rest)) acc = _
    rw [zt_ix, if_neg (zx_hne hi (by rw [zc_sgk 8 (by decide) (by decide)]; decide)), zt_ix]
    by_cases e : k = i
    · rw [if_pos (by rw [e]), e]; omega
    · have e2 : ¬ zx_h k = zx_h i := fun e3 => by
        have e4 : nI (48 + k) = nI (48 + i) := (List.cons.inj (List.cons.inj e3).2).1
        have := (nI_eq (by omega) (by omega)).mp e4
        omega
      rw [if_neg e2, zt_ix, if_neg (zx_hne hi (by rw [zc_sgk 38 (by decide) (by decide)]; decide)), ih (k + 1) (acc + 1 + 1 + 1) [] (by omega) (by omega)]
      omega
def zn : Nat → Nat → List Int32
  | _, 0 => []
  | k, n + 1 => nI (10 + 3 * k) :: zn (k + 1) n
theorem zn_len : ∀ {n k : Nat}, (zn k n).length = n
  | 0, k => rfl
  | n + 1, k => congrArg (· + 1) zn_len
theorem zn_get : ∀ {n k i : Nat}, i < n → (zn k n)[i]? = some (nI (10 + 3 * (k + i)))
  | 0, k, i, h => absurd h (Nat.not_lt_zero _)
  | n + 1, k, 0, h => rfl
  | n + 1, k, i + 1, h => by
    show (zn (k + 1) n)[i]? = _
    rw [zn_get (by omega), show k + 1 + i = k + (i + 1) by omega]
theorem zn_getD (h : i < n) : (zn 0 n).getD i 0 = nI (10 + 3 * i) := by
  rw [List.getD_eq_getElem?_getD, zn_get h, Nat.zero_add]; rfl
theorem zn_nodup : ∀ {n k : Nat}, k + n < 1000 → (zn k n).Nodup
  | 0, k, _ => List.nodup_nil
  | n + 1, k, h => List.nodup_cons.mpr ⟨fun hm => by
      obtain ⟨j, hj⟩ := List.getElem?_of_mem hm
      have hjn := (List.getElem?_eq_some_iff.mp hj).1
      rw [zn_len] at hjn
      rw [zn_get hjn] at hj
      have := (nI_eq (by omega) (by omega)).mp (Option.some.inj hj)
      omega, zn_nodup (by omega)⟩
/-- the tokens of the words -/
abbrev zx_hw (W : List (List Int32)) (H : Nat) : Prop := ∀ i, i < H → zt_ix (zx_h i) W 0 = 10 + 3 * i
theorem zx_phH (hW : zx_hw W H) (hH : H ≤ 6) (hi : i < H) : zx_ph W (zx_h i) = zp_hk (zn 0 H) i := by
  rw [zx_phh (by omega), hW i hi]
  unfold zp_hk
  rw [zn_getD hi]
theorem zx_mhk (hW : zx_hw W H) (hH : H ≤ 6) : ∀ (n k : Nat) (b : List Int32), k + n = H → (zx_hooks b k n).map (fun p => zx_ph W p.2) = zp_hkT (zn k n) := by
  intro n
  induction n with
  | zero => intro k b _; rfl
  | succ n ih =>
    intro k b h
    show zx_ph W (zx_k 8) :: zx_ph W (zx_h k) :: zx_ph W (zx_k 38) :: (zx_hooks [] (k + 1) n).map (fun p => zx_ph W p.2) = (8, 0) :: (3, nI (10 + 3 * k)) :: (38, 0) :: zp_hkT (zn (k + 1) n)
    rw [ih (k + 1) [] (by omega), zx_phk (by decide) (by decide), zx_phk (by decide) (by decide), zx_phh (by omega), hW k (by omega)]
theorem zx_mhead (h1 : hf < 100) (h2 : pr < 100) (h3 : m < 100) : (zx_head hf pr m).map (fun p => zx_ph W p.2) = [(5, 0), (2, nI hf), (38, 0), (7, 0), (2, nI pr), (38, 0), (6, 0), (2, nI m), (38, 0)] := by
  show [zx_ph W (zx_k 5), zx_ph W (zs_dec hf), zx_ph W (zx_k 38), zx_ph W (zx_k 7), zx_ph W (zs_dec pr), zx_ph W (zx_k 38), zx_ph W (zx_k 6), zx_ph W (zs_dec m), zx_ph W (zx_k 38)] = _
  rw [zx_phk (by decide) (by decide), zx_phk (by decide) (by decide), zx_phk (by decide) (by decide), zx_phk (by decide) (by decide), zx_phd h1, zx_phd h2, zx_phd h3]
theorem zx_mline (hW : zx_hw W H) (hH : H ≤ 6) (hq : zp_Ln H q) : (zx_line b q).map (fun p => zx_ph W p.2) = zp_lineT (zn 0 H) q ++ [(38, 0)] := by
  obtain ⟨h0, h1, h2, h3, h4, h5, h6, h7, h8⟩ := hq
  have c0 : q 0 = 0 ∨ q 0 = 1 ∨ q 0 = 2 ∨ q 0 = 3 ∨ q 0 = 4 := by omega
  have c4 : q 4 = 0 ∨ q 4 = 1 ∨ q 4 = 2 := by omega
  have c6 : q 6 = 0 ∨ q 6 = 1 ∨ q 6 = 2 ∨ q 6 = 3 ∨ q 6 = 4 ∨ q 6 = 5 ∨ q 6 = 6 := by omega
  have k : ∀ {s : Nat}, s < 49 → 5 ≤ s → zx_ph W (zx_k s) = (s, 0) := fun {s} a b => zx_phk a b
  have g1 := zx_phH hW hH h1
  have g2 := zx_phH hW hH h2
  have g8 := zx_phH hW hH h8
  have g3 : zx_ph W (zs_dec (q 3)) = (2, nI (q 3)) := zx_phd (by omega)
  have g5 : zx_ph W (zs_dec (q 5)) = (2, nI (q 5)) := zx_phd (by omega)
  have g7 : zx_ph W (zs_dec (q 7)) = (2, nI (q 7)) := zx_phd (by omega)
  have g73 : zx_ph W (zs_dec (q 7 % 3)) = (2, nI (q 7 % 3)) := zx_phd (by omega)
  have gc7 : zx_ph W (zs_dec 7) = (2, 7) := zx_phd (by decide)
  have gc3 : zx_ph W (zs_dec 3) = (2, 3) := zx_phd (by decide)
  have gc1 : zx_ph W (zs_dec 1) = (2, 1) := zx_phd (by decide)
  have mS : (zx_sum q).map (fun p => zx_ph W p.2) = zp_sumT (zn 0 H) q := by
    unfold zx_sum zp_sumT
    rcases c4 with e | e | e
    · rw [e]; show [zx_ph W (zs_dec (q 5))] = _; rw [g5]; rfl
    · rw [e]; show [zx_ph W (zx_k 20), zx_ph W (zx_k 41), zx_ph W (zx_k 20), zx_ph W (zx_k 43), zx_ph W (zs_dec 7), zx_ph W (zx_k 42), zx_ph W (zs_dec 7)] = _
      rw [k (by decide) (by decide), k (by decide) (by decide), k (by decide) (by decide), k (by decide) (by decide), gc7]; rfl
    · rw [e]; show [zx_ph W (zx_k 26), zx_ph W (zx_k 18), zx_ph W (zx_h (q 2)), zx_ph W (zx_k 40), zx_ph W (zs_dec (q 5))] = _
      rw [k (by decide) (by decide), k (by decide) (by decide), k (by decide) (by decide), g2, g5]; rfl
  have mT : (zx_tst q).map (fun p => zx_ph W p.2) = zp_tstT (zn 0 H) q := by
    unfold zx_tst zp_tstT
    rcases c6 with e | e | e | e | e | e | e
    · rw [e]; rfl
    · rw [e]; show [zx_ph W (zx_k 19), zx_ph W (zx_k 21), zx_ph W (zx_k 45), zx_ph W (zs_dec (q 7))] = _
      rw [k (by decide) (by decide), k (by decide) (by decide), k (by decide) (by decide), g7]; rfl
    · rw [e]; show [zx_ph W (zx_k 19), zx_ph W (zx_k 27), zx_ph W (zx_h (q 8))] = _
      rw [k (by decide) (by decide), k (by decide) (by decide), g8]; rfl
    · rw [e]; show [zx_ph W (zx_k 19), zx_ph W (zx_k 29), zx_ph W (zx_k 28), zx_ph W (zx_h (q 8)), zx_ph W (zx_h (q 1))] = _
      rw [k (by decide) (by decide), k (by decide) (by decide), k (by decide) (by decide), g8, g1]; rfl
    · rw [e]; show [zx_ph W (zx_k 19), zx_ph W (zx_k 20), zx_ph W (zx_k 41), zx_ph W (zx_k 20), zx_ph W (zx_k 43), zx_ph W (zs_dec 3), zx_ph W (zx_k 42), zx_ph W (zs_dec 3), zx_ph W (zx_k 46), zx_ph W (zs_dec (q 7 % 3))] = _
      rw [k (by decide) (by decide), k (by decide) (by decide), k (by decide) (by decide), k (by decide) (by decide), k (by decide) (by decide), k (by decide) (by decide), gc3, g73]; rfl
    · rw [e]; show [zx_ph W (zx_k 19), zx_ph W (zx_k 22), zx_ph W (zx_k 44), zx_ph W (zx_k 25), zx_ph W (zx_k 18), zx_ph W (zx_h (q 8)), zx_ph W (zx_k 31), zx_ph W (zx_k 23), zx_ph W (zx_k 44), zx_ph W (zs_dec (q 7))] = _
      rw [k (by decide) (by decide), k (by decide) (by decide), k (by decide) (by decide), k (by decide) (by decide), k (by decide) (by decide), k (by decide) (by decide), k (by decide) (by decide), g8, g7]; rfl
    · rw [e]; show [zx_ph W (zx_k 19), zx_ph W (zx_k 36), zx_ph W (zx_k 24), zx_ph W (zx_k 44), zx_ph W (zs_dec (q 7)), zx_ph W (zx_k 37), zx_ph W (zx_k 30), zx_ph W (zx_k 26), zx_ph W (zx_k 18), zx_ph W (zx_h (q 8)), zx_ph W (zx_k 47), zx_ph W (zs_dec 1)] = _
      rw [k (by decide) (by decide), k (by decide) (by decide), k (by decide) (by decide), k (by decide) (by decide), k (by decide) (by decide), k (by decide) (by decide), k (by decide) (by decide), k (by decide) (by decide), k (by decide) (by decide), g8, g7, gc1]; rfl
  have mB : (zx_body b q).map (fun p => zx_ph W p.2) = (9 + q 0, 0) :: zp_hk (zn 0 H) (q 1) :: zp_bodyT (zn 0 H) q := by
    have e9 : zx_ph W (zx_k (9 + q 0)) = (9 + q 0, 0) := zx_phk (by omega) (by omega)
    unfold zx_body zp_bodyT
    rw [List.map_cons, List.map_cons]
    dsimp only
    rw [e9, g1]
    refine congrArg (fun z => (9 + q 0, (0 : Int32)) :: zp_hk (zn 0 H) (q 1) :: z) ?_
    rcases c0 with e | e | e | e | e
    · rw [e]
      show zx_ph W (zx_k 25) :: (zx_sum q ++ [([32], zx_k 14), ([32], zs_dec (q 3))]).map (fun p : zx_I => zx_ph W p.2) = _
      rw [List.map_append, mS, k (by decide) (by decide)]
      show (25, 0) :: (zp_sumT (zn 0 H) q ++ [zx_ph W (zx_k 14), zx_ph W (zs_dec (q 3))]) = _
      rw [k (by decide) (by decide), g3]; rfl
    · rw [e]; show [zx_ph W (zx_k 15), zx_ph W (zs_dec (q 3)), zx_ph W (zx_k 16), zx_ph W (zx_h (q 2))] = _
      rw [k (by decide) (by decide), k (by decide) (by decide), g3, g2]; rfl
    · rw [e]; show [zx_ph W (zx_k 15), zx_ph W (zs_dec (q 3))] = _
      rw [k (by decide) (by decide), g3]; rfl
    · rw [e]; show [zx_ph W (zx_k 17), zx_ph W (zx_h (q 2)), zx_ph W (zx_k 15), zx_ph W (zs_dec (q 3))] = _
      rw [k (by decide) (by decide), k (by decide) (by decide), g3, g2]; rfl
    · rw [e]; rfl
  unfold zx_line
  rw [List.map_append, List.map_append, mB, mT]
  show ((9 + q 0, 0) :: zp_hk (zn 0 H) (q 1) :: zp_bodyT (zn 0 H) q) ++ (zp_tstT (zn 0 H) q ++ [zx_ph W (zx_k 38)]) = _
  rw [k (by decide) (by decide), ← List.append_assoc]
  rfl
theorem zx_mlines (hW : zx_hw W H) (hH : H ≤ 6) : ∀ (n k : Nat) (b : List Int32), (∀ j, j < k + n → zp_Ln H (Q j)) → (zx_lines b Q k n).map (fun p => zx_ph W p.2) = zp_lnT (zn 0 H) Q k n := by
  intro n
  induction n with
  | zero => intro k b _; rfl
  | succ n ih =>
    intro k b h
    show (zx_line b (Q k) ++ zx_lines [10] Q (k + 1) n).map (fun p => zx_ph W p.2) = (zp_lineT (zn 0 H) (Q k) ++ [(38, 0)]) ++ zp_lnT (zn 0 H) Q (k + 1) n
    rw [List.map_append, zx_mline hW hH (h k (by omega)), ih (k + 1) [10] (fun j hj => h j (by omega))]
theorem zx_line_len (hq : zp_Ln H q) : (zx_line b q).length ≤ 25 := by
  obtain ⟨h0, h1, h2, h3, h4, h5, h6, h7, h8⟩ := hq
  have c0 : q 0 = 0 ∨ q 0 = 1 ∨ q 0 = 2 ∨ q 0 = 3 ∨ q 0 = 4 := by omega
  have c4 : q 4 = 0 ∨ q 4 = 1 ∨ q 4 = 2 := by omega
  have c6 : q 6 = 0 ∨ q 6 = 1 ∨ q 6 = 2 ∨ q 6 = 3 ∨ q 6 = 4 ∨ q 6 = 5 ∨ q 6 = 6 := by omega
  have e1 : (zx_sum q).length ≤ 7 := by
    unfold zx_sum
    rcases c4 with e | e | e <;> (rw [e]; exact Nat.le_of_ble_eq_true rfl)
  have e2 : (zx_tst q).length ≤ 12 := by
    unfold zx_tst
    rcases c6 with e | e | e | e | e | e | e <;> (rw [e]; exact Nat.le_of_ble_eq_true rfl)
  have e3 : (zx_body b q).length ≤ 12 := by
    unfold zx_body
    rcases c0 with e | e | e | e | e
    · rw [e]
      show (zx_sum q ++ [([32], zx_k 14), ([32], zs_dec (q 3))]).length + 1 + 1 + 1 ≤ 12
      rw [List.length_append]
      show (zx_sum q).length + 2 + 1 + 1 + 1 ≤ 12
      omega
    all_goals (rw [e]; exact Nat.le_of_ble_eq_true rfl)
  unfold zx_line
  rw [List.length_append, List.length_append]
  show (zx_body b q).length + ((zx_tst q).length + 1) ≤ 25
  omega
theorem zx_lines_len : ∀ (n k : Nat) (b : List Int32), (∀ j, j < k + n → zp_Ln H (Q j)) → (zx_lines b Q k n).length ≤ 25 * n := by
  intro n
  induction n with
  | zero => intro k b _; exact Nat.le_refl _
  | succ n ih =>
    intro k b h
    show (zx_line b (Q k) ++ zx_lines [10] Q (k + 1) n).length ≤ _
    rw [List.length_append]
    have h1 := zx_line_len (b := b) (h k (by omega))
    have h2 := ih (k + 1) [10] (fun j hj => h j (by omega))
    omega
theorem zx_hooks_len : ∀ {n k : Nat} {b : List Int32}, (zx_hooks b k n).length = 3 * n
  | 0, k, b => rfl
  | n + 1, k, b => by
    show (zx_hooks [] (k + 1) n).length + 1 + 1 + 1 = _
    rw [zx_hooks_len]; omega
theorem zp_Ln6 (hH : H ≤ 6) (hq : zp_Ln H q) : zp_Ln 6 q := by
  obtain ⟨h0, h1, h2, h3, h4, h5, h6, h7, h8⟩ := hq
  exact ⟨h0, by omega, by omega, h3, h4, h5, h6, h7, by omega⟩
theorem zx_allW (h1 : hf < 100) (h2 : pr < 100) (h3 : m < 100) (hH6 : H ≤ 6) : zx_hw ((zx_all hf pr m H Q ns).map (·.2)) H := by
  intro i hi
  unfold zx_all
  have hN : ∀ w ∈ (zx_head hf pr m).map (·.2), zt_sg w ≠ 3 := by
    show ∀ w ∈ [zx_k 5, zs_dec hf, zx_k 38, zx_k 7, zs_dec pr, zx_k 38, zx_k 6, zs_dec m, zx_k 38], zt_sg w ≠ 3
    have k : ∀ {s : Nat}, s < 49 → 5 ≤ s → zt_sg (zx_k s) ≠ 3 := fun {s} a b => by rw [zc_sgk s a b]; omega
    have d : ∀ {n : Nat}, n < 100 → zt_sg (zs_dec n) ≠ 3 := fun {n} a => by rw [zc_sgd n a]; decide
    exact List.forall_mem_cons.mpr ⟨k (by decide) (by decide), List.forall_mem_cons.mpr ⟨d h1, List.forall_mem_cons.mpr ⟨k (by decide) (by decide), List.forall_mem_cons.mpr ⟨k (by decide) (by decide), List.forall_mem_cons.mpr ⟨d h2, List.forall_mem_cons.mpr ⟨k (by decide) (by decide), List.forall_mem_cons.mpr ⟨k (by decide) (by decide), List.forall_mem_cons.mpr ⟨d h3, List.forall_mem_cons.mpr ⟨k (by decide) (by decide), fun w hw => by cases hw⟩⟩⟩⟩⟩⟩⟩⟩⟩
  rw [List.map_append, List.map_append, zt_ix_app, if_neg (fun hm => hN _ hm (zc_sgh i (by omega))), zx_ixH (by omega) H 0 _ [10] (by omega) (by omega)]
  show 0 + 9 + 3 * (i - 0) + 1 = _
  omega
/-- the text is read -/
theorem zt_read {tp qn qu rd hn tk ts tl tv : m_Rr} {qd tg : Nat → Option Nat} {T2 : Nat → m_Rr} {K2 : Nat → Nat → Option Nat} (h1 : 8 ≤ hf) (h1' : hf ≤ 64) (h2 : pr ≤ 5) (h3 : m ≤ 64) (hH : 0 < H) (hH6 : H ≤ 6) (hns : ns ≤ 12) (hQ : ∀ j, j < ns → zp_Ln H (Q j)) (hT : zt_T tp (zs_all hf pr m H Q ns)) :
    ∃ qn' qu' rd' hn' tk' ts' tl' tv' qd' tg' T2' K2' oc, f_X7_read tp qn qu rd hn tk ts tl tv qd tg T2 K2 (nI (zs_all hf pr m H Q ns).length) = some (0, qn', qu', rd', hn', tk', ts', tl', tv', qd', tg', T2', K2') ∧ rd' 4 = 0 ∧ qn' 0 = nI hf ∧ qn' 1 = nI m ∧ qn' 2 = nI pr ∧ qn' 3 = nI H ∧ qn' 4 = nI ns ∧ qn' 5 = nI oc ∧ oc ≤ 400 ∧ ∀ j, j < ns → z_Tld H oc qd' qu' T2' K2' j (zp_w (Q j)) := by
  have hQ6 : ∀ j, j < ns → zp_Ln 6 (Q j) := fun j hj => zp_Ln6 hH6 (hQ j hj)
  obtain ⟨tail, ht⟩ : ∃ tail : List Int32, tail = if ns = 0 then [] else [10] := ⟨_, rfl⟩
  have htb : tail.all zt_bl = true := by rw [ht]; split <;> rfl
  have htc : tail.getD 0 0 ≠ 61 := by rw [ht]; split <;> decide
  have hfl := zx_all_fl (hf := hf) (pr := pr) (m := m) hH hH6 hQ6
  rw [← ht] at hfl
  have hg := zg_all (hf := hf) (pr := pr) (m := m) (H := H) (ns := ns) (Q := Q) (by omega) (by omega) (by omega) hH hH6 hQ6 htc
  obtain ⟨N, hN⟩ : ∃ N : List zx_I, N = [([32], zs_dec hf), ([], zx_k 38), ([32], zx_k 7), ([32], zs_dec pr), ([], zx_k 38), ([], zx_k 6), ([32], zs_dec m), ([], zx_k 38)] ++ (zx_hooks [10] 0 H ++ zx_lines [] Q 0 ns) := ⟨_, rfl⟩
  have hall : zx_all hf pr m H Q ns = ([], zx_k 5) :: N := by rw [hN]; rfl
  rw [hall] at hfl hg
  rw [zt_g, Bool.and_eq_true, Bool.and_eq_true] at hg
  obtain ⟨⟨-, g2⟩, g3⟩ := hg
  have hok := zt_sh_ok htb N (zx_k 5) g2 g3
  have hbs : zs_all hf pr m H Q ns = zt_fl (zt_sh (zx_k 5) N tail) := by
    rw [zt_sh_fl, ← hfl, zt_fl, List.nil_append, List.append_assoc]
  have hmap : (zt_sh (zx_k 5) N tail).map (·.1) = (zx_all hf pr m H Q ns).map (·.2) := by rw [zt_sh_map, hall]; rfl
  have hlen : (zt_sh (zx_k 5) N tail).length = (zx_all hf pr m H Q ns).length := by
    have := congrArg List.length hmap
    rwa [List.length_map, List.length_map] at this
  have hl2 : (zx_all hf pr m H Q ns).length = 9 + (3 * H + (zx_lines [] Q 0 ns).length) := by
    unfold zx_all
    rw [List.length_append, List.length_append, zx_hooks_len]; rfl
  have hl3 := zx_lines_len ns 0 [] (fun j hj => hQ j (by omega))
  obtain ⟨tk', ts', tl', tv', tg', c1, c2, c3, c4, c5⟩ := zt_cut hT (zt_sh (zx_k 5) N tail) [] rfl hbs hok (by omega) tk ts tl tv tg
  rw [hmap] at c4
  rw [hlen] at c3 c5
  have hW := zx_allW (hf := hf) (pr := pr) (m := m) (Q := Q) (ns := ns) (by omega) (by omega) (by omega) hH6
  have hsv : (zx_all hf pr m H Q ns).map (fun p => zx_ph ((zx_all hf pr m H Q ns).map (·.2)) p.2) ++ [(0, tv' (zx_all hf pr m H Q ns).length)] = zp_allT hf pr m (zn 0 H) Q ns (tv' (zx_all hf pr m H Q ns).length) := by
    generalize (zx_all hf pr m H Q ns).map (·.2) = W at hW ⊢
    generalize tv' (zx_all hf pr m H Q ns).length = v
    unfold zx_all zp_allT
    rw [List.map_append, List.map_append, zx_mhead (by omega) (by omega) (by omega), zx_mhk hW hH6 H 0 [10] (by omega), zx_mlines hW hH6 ns 0 [] (fun j hj => hQ j (by omega)), List.append_assoc, List.append_assoc]
  have hPT : zp_T tk' tg' tv' (zp_allT hf pr m (zn 0 H) Q ns (tv' (zx_all hf pr m H Q ns).length)) := by
    rw [← hsv]
    refine ⟨by rw [List.length_append, List.length_map]; show _ + 1 ≤ 401; omega, by rw [c3, List.length_append, List.length_map]; rfl, fun i p hp => ?_⟩
    by_cases hi : i < (zx_all hf pr m H Q ns).length
    · rw [List.getElem?_append_left (by rw [List.length_map]; exact hi), List.getElem?_map, List.getElem?_eq_getElem hi] at hp
      have hp : zx_ph ((zx_all hf pr m H Q ns).map (·.2)) ((zx_all hf pr m H Q ns)[i]).2 = p := Option.some.inj hp
      obtain ⟨d1, d2⟩ := c4 i ((zx_all hf pr m H Q ns)[i]).2 (by rw [List.getElem?_map, List.getElem?_eq_getElem hi]; rfl)
      rw [← hp]
      exact ⟨d1, d2, zt_sg_lt⟩
    · have hi2 := (List.getElem?_eq_some_iff.mp hp).1
      rw [List.length_append, List.length_map] at hi2
      have hi2 : i < (zx_all hf pr m H Q ns).length + 1 := hi2
      obtain rfl : i = (zx_all hf pr m H Q ns).length := by omega
      rw [List.getElem?_append_right (by rw [List.length_map]; exact Nat.le_refl _), List.length_map, Nat.sub_self] at hp
      have hp : (0, tv' (zx_all hf pr m H Q ns).length) = p := Option.some.inj hp
      rw [← hp]
      exact ⟨c5, rfl, Nat.le_of_ble_eq_true rfl⟩
  have hnl : (zn 0 H).length = H := zn_len
  have q3 : q_up (q_up (q_up (q_up (q_up (q_up qn 0 (16 : Int32)) 1 (16 : Int32)) 2 (2 : Int32)) 3 (0 : Int32)) 4 (0 : Int32)) 5 (0 : Int32) 3 = 0 := (m_up_n (by decide)).trans ((m_up_n (by decide)).trans m_up_s)
  have q4 : q_up (q_up (q_up (q_up (q_up (q_up qn 0 (16 : Int32)) 1 (16 : Int32)) 2 (2 : Int32)) 3 (0 : Int32)) 4 (0 : Int32)) 5 (0 : Int32) 4 = 0 := (m_up_n (by decide)).trans m_up_s
  obtain ⟨qn', qu', rd', hn', qd', T2', K2', oc, i1, i2, i3, i4, i5, i6, i7, i8, i9, i10⟩ := zp_all (qu := qu) (qd := qd) (T2 := T2) (K2 := K2) (hn := hn) (rd := q_up (q_up rd 3 (0 : Int32)) 4 (0 : Int32)) hPT (fun j p hp => by rw [Nat.zero_add]; exact hp) h1 h1' h2 h3 (by rw [hnl]; exact hH6) (zn_nodup (by omega)) (by omega) (fun j hj => by rw [hnl]; exact hQ j hj) q3 q4 m_up_s ((m_up_n (by decide)).trans m_up_s) m_up_s
  rw [hnl] at i6 i10
  refine ⟨qn', qu', rd', hn', tk', ts', tl', tv', qd', tg', T2', K2', oc, ?_, i2, i3, i4, i5, i6, i7, i8, i9, i10⟩
  unfold f_X7_read f_X6_clear
  rw [c1, Option.bind_some, Option.bind_some]
  dsimp only
  rw [i1, Option.bind_some]
  dsimp only
  rw [i2]
/-- how long it is -/
theorem zs_dec_len {n : Nat} : (zs_dec n).length ≤ 2 := by unfold zs_dec; split <;> exact Nat.le_of_ble_eq_true rfl
theorem zs_told_len (hq : zp_Ln 6 q) : (zs_told q).length ≤ 100 := by
  obtain ⟨h0, h1, h2, h3, h4, h5, h6, h7, h8⟩ := hq
  have c0 : q 0 = 0 ∨ q 0 = 1 ∨ q 0 = 2 ∨ q 0 = 3 ∨ q 0 = 4 := by omega
  have c4 : q 4 = 0 ∨ q 4 = 1 ∨ q 4 = 2 := by omega
  have c6 : q 6 = 0 ∨ q 6 = 1 ∨ q 6 = 2 ∨ q 6 = 3 ∨ q 6 = 4 ∨ q 6 = 5 ∨ q 6 = 6 := by omega
  have l1 := zs_dec_len (n := q 1)
  have l2 := zs_dec_len (n := q 2)
  have l3 := zs_dec_len (n := q 3)
  have l5 := zs_dec_len (n := q 5)
  have l7 := zs_dec_len (n := q 7)
  have l8 := zs_dec_len (n := q 8)
  have l73 := zs_dec_len (n := q 7 % 3)
  have e1 : (zs_does q).length ≤ 60 := by
    unfold zs_does
    rcases c0 with e | e | e | e | e
    · rw [e]
      rcases c4 with e4 | e4 | e4 <;> (rw [e4]; simp only [List.length_append, zl_261, zl_256, zl_262, zl_257, zl_258, zl_259, zl_260, zl_263, List.length_cons, List.length_nil]; omega)
    all_goals (rw [e]; simp only [List.length_append, zl_264, zl_265, zl_266, zl_267, zl_268, zl_269, zl_270, zl_256, List.length_cons, List.length_nil]; omega)
  have e2 : (zs_test q (q 6)).length ≤ 40 := by
    unfold zs_test
    rcases c6 with e | e | e | e | e | e | e <;> (rw [e]; simp only [List.length_append, zl_257, zl_256, zl_271, zl_272, zl_273, zl_274, zl_275, zl_276, zl_277, zl_278, zl_279, List.length_cons, List.length_nil]; omega)
  unfold zs_told
  rw [List.length_append]
  omega
theorem zs_lines_len : ∀ (n k : Nat), (∀ j, j < k + n → zp_Ln 6 (Q j)) → (zs_lines Q k n).length ≤ 102 * n := by
  intro n
  induction n with
  | zero => intro k _; exact Nat.le_refl _
  | succ n ih =>
    intro k h
    have h1 := zs_told_len (h k (by omega))
    have h2 := ih (k + 1) (fun j hj => h j (by omega))
    show (zs_told (Q k) ++ (q_str 253 ++ zs_lines Q (k + 1) n)).length ≤ _
    rw [List.length_append, List.length_append, zl_253]
    show _ + (2 + _) ≤ _
    omega
theorem zs_hooks_len : ∀ {n k : Nat}, (zs_hooks k n).length ≤ 9 * n
  | 0, k => Nat.le_refl _
  | n + 1, k => by
    have h1 := zs_hooks_len (n := n) (k := k + 1)
    have h2 := zs_dec_len (n := k)
    show (q_str 254 ++ (zs_dec k ++ (q_str 255 ++ zs_hooks (k + 1) n))).length ≤ _
    rw [List.length_append, List.length_append, List.length_append, zl_254, zl_255]
    show 6 + (_ + (1 + _)) ≤ _
    omega
theorem zs_all_len (hH6 : H ≤ 6) (hns : ns ≤ 12) (hQ : ∀ j, j < ns → zp_Ln 6 (Q j)) : (zs_all hf pr m H Q ns).length ≤ 1400 := by
  have h1 := zs_lines_len ns 0 (fun j hj => hQ j (by omega))
  have h2 := zs_hooks_len (n := H) (k := 0)
  have h3 : (zs_head hf pr m).length ≤ 40 := by
    have a := zs_dec_len (n := hf)
    have b := zs_dec_len (n := pr)
    have c := zs_dec_len (n := m)
    unfold zs_head
    simp only [List.length_append, zl_250, zl_251, zl_252, zl_253, List.length_cons, List.length_nil]
    omega
  unfold zs_all
  rw [List.length_append, List.length_append]
  omega
end ZTOLD
