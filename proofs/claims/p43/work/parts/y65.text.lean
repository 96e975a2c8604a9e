/-! THE TEXT THAT IS TOLD: its words -/
section ZTEXT
def zs_dec (n : Nat) : List Int32 := if n < 10 then [nI (48 + n)] else [nI (48 + n / 10), nI (48 + n % 10)]
def zx_h (i : Nat) : List Int32 := [104, nI (48 + i)]
def zx_k (s : Nat) : List Int32 := q_str (100 + s)
theorem zk_5 : zx_k 5 = [98, 97, 114, 110] := rfl
theorem zk_6 : zx_k 6 = [108, 111, 102, 116] := rfl
theorem zk_7 : zx_k 7 = [112, 114, 111, 109, 111, 116, 101] := rfl
theorem zk_8 : zx_k 8 = [104, 111, 111, 107] := rfl
theorem zk_9 : zx_k 9 = [109, 97, 107, 101] := rfl
theorem zk_10 : zx_k 10 = [116, 105, 101] := rfl
theorem zk_11 : zx_k 11 = [117, 110, 116, 105, 101] := rfl
theorem zk_12 : zx_k 12 = [102, 111, 108, 108, 111, 119] := rfl
theorem zk_13 : zx_k 13 = [100, 114, 111, 112] := rfl
theorem zk_14 : zx_k 14 = [114, 111, 112, 101, 115] := rfl
theorem zk_15 : zx_k 15 = [114, 111, 112, 101] := rfl
theorem zk_16 : zx_k 16 = [116, 111] := rfl
theorem zk_17 : zx_k 17 = [98, 121] := rfl
theorem zk_18 : zx_k 18 = [111, 102] := rfl
theorem zk_19 : zx_k 19 = [119, 104, 101, 110] := rfl
theorem zk_20 : zx_k 20 = [115, 116, 101, 112] := rfl
theorem zk_21 : zx_k 21 = [117, 115, 101, 100] := rfl
theorem zk_22 : zx_k 22 = [102, 114, 101, 101] := rfl
theorem zk_23 : zx_k 23 = [99, 111, 112, 105, 101, 115] := rfl
theorem zk_24 : zx_k 24 = [98, 97, 108, 101, 115] := rfl
theorem zk_25 : zx_k 25 = [115, 105, 122, 101] := rfl
theorem zk_26 : zx_k 26 = [97, 103, 101] := rfl
theorem zk_27 : zx_k 27 = [104, 97, 115] := rfl
theorem zk_28 : zx_k 28 = [115, 97, 109, 101] := rfl
theorem zk_29 : zx_k 29 = [110, 111, 116] := rfl
theorem zk_30 : zx_k 30 = [97, 110, 100] := rfl
theorem zk_31 : zx_k 31 = [111, 114] := rfl
theorem zk_32 : zx_k 32 = [109, 105, 110] := rfl
theorem zk_33 : zx_k 33 = [109, 97, 120] := rfl
theorem zk_34 : zx_k 34 = [40] := rfl
theorem zk_35 : zx_k 35 = [41] := rfl
theorem zk_36 : zx_k 36 = [91] := rfl
theorem zk_37 : zx_k 37 = [93] := rfl
theorem zk_38 : zx_k 38 = [59] := rfl
theorem zk_39 : zx_k 39 = [44] := rfl
theorem zk_40 : zx_k 40 = [43] := rfl
theorem zk_41 : zx_k 41 = [45] := rfl
theorem zk_42 : zx_k 42 = [42] := rfl
theorem zk_43 : zx_k 43 = [47] := rfl
theorem zk_44 : zx_k 44 = [60] := rfl
theorem zk_45 : zx_k 45 = [62] := rfl
theorem zk_46 : zx_k 46 = [61] := rfl
theorem zk_47 : zx_k 47 = [60, 61] := rfl
theorem zk_48 : zx_k 48 = [62, 61] := rfl
theorem zl_250 : q_str 250 = [98, 97, 114, 110, 32] := rfl
theorem zl_251 : q_str 251 = [59, 32, 112, 114, 111, 109, 111, 116, 101, 32] := rfl
theorem zl_252 : q_str 252 = [59, 108, 111, 102, 116, 32] := rfl
theorem zl_253 : q_str 253 = [59, 10] := rfl
theorem zl_254 : q_str 254 = [104, 111, 111, 107, 32, 104] := rfl
theorem zl_255 : q_str 255 = [59] := rfl
theorem zl_256 : q_str 256 = [32, 104] := rfl
theorem zl_257 : q_str 257 = [] := rfl
theorem zl_258 : q_str 258 = [115, 116, 101, 112, 45, 115, 116, 101, 112, 47, 55, 42, 55] := rfl
theorem zl_259 : q_str 259 = [97, 103, 101, 32, 111, 102] := rfl
theorem zl_260 : q_str 260 = [43] := rfl
theorem zl_261 : q_str 261 = [109, 97, 107, 101] := rfl
theorem zl_262 : q_str 262 = [32, 115, 105, 122, 101, 32] := rfl
theorem zl_263 : q_str 263 = [32, 114, 111, 112, 101, 115, 32] := rfl
theorem zl_264 : q_str 264 = [116, 105, 101] := rfl
theorem zl_265 : q_str 265 = [32, 114, 111, 112, 101, 32] := rfl
theorem zl_266 : q_str 266 = [32, 116, 111] := rfl
theorem zl_267 : q_str 267 = [117, 110, 116, 105, 101] := rfl
theorem zl_268 : q_str 268 = [102, 111, 108, 108, 111, 119] := rfl
theorem zl_269 : q_str 269 = [32, 98, 121] := rfl
theorem zl_270 : q_str 270 = [100, 114, 111, 112] := rfl
theorem zl_271 : q_str 271 = [32, 119, 104, 101, 110, 32, 117, 115, 101, 100, 62] := rfl
theorem zl_272 : q_str 272 = [32, 119, 104, 101, 110, 32, 104, 97, 115] := rfl
theorem zl_273 : q_str 273 = [32, 119, 104, 101, 110, 32, 110, 111, 116, 32, 115, 97, 109, 101] := rfl
theorem zl_274 : q_str 274 = [32, 119, 104, 101, 110, 32, 115, 116, 101, 112, 45, 115, 116, 101, 112, 47, 51, 42, 51, 61] := rfl
theorem zl_275 : q_str 275 = [32, 119, 104, 101, 110, 32, 102, 114, 101, 101, 60, 115, 105, 122, 101, 32, 111, 102] := rfl
theorem zl_276 : q_str 276 = [32, 111, 114, 32, 99, 111, 112, 105, 101, 115, 60] := rfl
theorem zl_277 : q_str 277 = [32, 119, 104, 101, 110, 32, 91, 98, 97, 108, 101, 115, 60] := rfl
theorem zl_278 : q_str 278 = [93, 32, 97, 110, 100, 32, 97, 103, 101, 32, 111, 102] := rfl
theorem zl_279 : q_str 279 = [60, 61, 49] := rfl
theorem zk9_0 : zx_k (9 + 0) = zx_k 9 := rfl
theorem zk9_1 : zx_k (9 + 1) = zx_k 10 := rfl
theorem zk9_2 : zx_k (9 + 2) = zx_k 11 := rfl
theorem zk9_3 : zx_k (9 + 3) = zx_k 12 := rfl
theorem zk9_4 : zx_k (9 + 4) = zx_k 13 := rfl
theorem zd_7 : zs_dec 7 = [55] := rfl
theorem zd_3 : zs_dec 3 = [51] := rfl
theorem zd_1 : zs_dec 1 = [49] := rfl
abbrev zx_I : Type := List Int32 × List Int32
def zx_sum (q : Nat → Nat) : List zx_I := match q 4 with
  | 0 => [([32], zs_dec (q 5))]
  | 1 => [([32], zx_k 20), ([], zx_k 41), ([], zx_k 20), ([], zx_k 43), ([], zs_dec 7), ([], zx_k 42), ([], zs_dec 7)]
  | _ => [([32], zx_k 26), ([32], zx_k 18), ([32], zx_h (q 2)), ([], zx_k 40), ([], zs_dec (q 5))]
def zx_tst (q : Nat → Nat) : List zx_I := match q 6 with
  | 0 => []
  | 1 => [([32], zx_k 19), ([32], zx_k 21), ([], zx_k 45), ([], zs_dec (q 7))]
  | 2 => [([32], zx_k 19), ([32], zx_k 27), ([32], zx_h (q 8))]
  | 3 => [([32], zx_k 19), ([32], zx_k 29), ([32], zx_k 28), ([32], zx_h (q 8)), ([32], zx_h (q 1))]
  | 4 => [([32], zx_k 19), ([32], zx_k 20), ([], zx_k 41), ([], zx_k 20), ([], zx_k 43), ([], zs_dec 3), ([], zx_k 42), ([], zs_dec 3), ([], zx_k 46), ([], zs_dec (q 7 % 3))]
  | 5 => [([32], zx_k 19), ([32], zx_k 22), ([], zx_k 44), ([], zx_k 25), ([32], zx_k 18), ([32], zx_h (q 8)), ([32], zx_k 31), ([32], zx_k 23), ([], zx_k 44), ([], zs_dec (q 7))]
  | _ => [([32], zx_k 19), ([32], zx_k 36), ([], zx_k 24), ([], zx_k 44), ([], zs_dec (q 7)), ([], zx_k 37), ([32], zx_k 30), ([32], zx_k 26), ([32], zx_k 18), ([32], zx_h (q 8)), ([], zx_k 47), ([], zs_dec 1)]
def zx_body (b : List Int32) (q : Nat → Nat) : List zx_I := (b, zx_k (9 + q 0)) :: ([32], zx_h (q 1)) :: (match q 0 with
  | 0 => ([32], zx_k 25) :: (zx_sum q ++ [([32], zx_k 14), ([32], zs_dec (q 3))])
  | 1 => [([32], zx_k 15), ([32], zs_dec (q 3)), ([32], zx_k 16), ([32], zx_h (q 2))]
  | 2 => [([32], zx_k 15), ([32], zs_dec (q 3))]
  | 3 => [([32], zx_k 17), ([32], zx_h (q 2)), ([32], zx_k 15), ([32], zs_dec (q 3))]
  | _ => [])
def zx_line (b : List Int32) (q : Nat → Nat) : List zx_I := zx_body b q ++ (zx_tst q ++ [([], zx_k 38)])
def zx_lines : List Int32 → (Nat → Nat → Nat) → Nat → Nat → List zx_I
  | _, _, _, 0 => []
  | b, Q, k, n + 1 => zx_line b (Q k) ++ zx_lines [10] Q (k + 1) n
def zx_hooks : List Int32 → Nat → Nat → List zx_I
  | _, _, 0 => []
  | b, k, n + 1 => (b, zx_k 8) :: ([32], zx_h k) :: ([], zx_k 38) :: zx_hooks [] (k + 1) n
def zx_head (hf pr m : Nat) : List zx_I := [([], zx_k 5), ([32], zs_dec hf), ([], zx_k 38), ([32], zx_k 7), ([32], zs_dec pr), ([], zx_k 38), ([], zx_k 6), ([32], zs_dec m), ([], zx_k 38)]
/-- the law's own text of a step -/
def zs_does (q : Nat → Nat) : List Int32 := match q 0 with
  | 0 => q_str 261 ++ ((q_str 256 ++ zs_dec (q 1)) ++ (q_str 262 ++ ((match q 4 with
    | 0 => q_str 257 ++ zs_dec (q 5)
    | 1 => q_str 258
    | _ => q_str 259 ++ ((q_str 256 ++ zs_dec (q 2)) ++ (q_str 260 ++ zs_dec (q 5)))) ++ (q_str 263 ++ zs_dec (q 3)))))
  | 1 => q_str 264 ++ ((q_str 256 ++ zs_dec (q 1)) ++ (q_str 265 ++ (zs_dec (q 3) ++ (q_str 266 ++ (q_str 256 ++ zs_dec (q 2))))))
  | 2 => q_str 267 ++ ((q_str 256 ++ zs_dec (q 1)) ++ (q_str 265 ++ zs_dec (q 3)))
  | 3 => q_str 268 ++ ((q_str 256 ++ zs_dec (q 1)) ++ (q_str 269 ++ ((q_str 256 ++ zs_dec (q 2)) ++ (q_str 265 ++ zs_dec (q 3)))))
  | _ => q_str 270 ++ (q_str 256 ++ zs_dec (q 1))
def zs_test (q : Nat → Nat) : Nat → List Int32
  | 0 => q_str 257
  | 1 => q_str 271 ++ zs_dec (q 7)
  | 2 => q_str 272 ++ (q_str 256 ++ zs_dec (q 8))
  | 3 => q_str 273 ++ ((q_str 256 ++ zs_dec (q 8)) ++ (q_str 256 ++ zs_dec (q 1)))
  | 4 => q_str 274 ++ zs_dec (q 7 % 3)
  | 5 => q_str 275 ++ ((q_str 256 ++ zs_dec (q 8)) ++ (q_str 276 ++ zs_dec (q 7)))
  | _ => q_str 277 ++ (zs_dec (q 7) ++ (q_str 278 ++ ((q_str 256 ++ zs_dec (q 8)) ++ q_str 279)))
def zs_told (q : Nat → Nat) : List Int32 := zs_does q ++ zs_test q (q 6)
def zs_lines (Q : Nat → Nat → Nat) : Nat → Nat → List Int32
  | _, 0 => []
  | k, n + 1 => zs_told (Q k) ++ (q_str 253 ++ zs_lines Q (k + 1) n)
def zs_hooks : Nat → Nat → List Int32
  | _, 0 => []
  | k, n + 1 => q_str 254 ++ (zs_dec k ++ (q_str 255 ++ zs_hooks (k + 1) n))
def zs_head (hf pr m : Nat) : List Int32 := q_str 250 ++ (zs_dec hf ++ (q_str 251 ++ (zs_dec pr ++ (q_str 252 ++ (zs_dec m ++ q_str 253)))))
theorem zt_fl_app : ∀ {A B : List zx_I}, zt_fl (A ++ B) = zt_fl A ++ zt_fl B
  | [], B => rfl
  | q :: A, B => by
    show q.1 ++ (q.2 ++ zt_fl (A ++ B)) = (q.1 ++ (q.2 ++ zt_fl A)) ++ zt_fl B
    rw [zt_fl_app]; simp
theorem zs_dec1 {n : Nat} (h : n < 6) : zs_dec n = [nI (48 + n)] := if_pos (by omega)
set_option maxHeartbeats 1000000 in
theorem zx_line_fl {q : Nat → Nat} {b : List Int32} (hq : zp_Ln 6 q) : zt_fl (zx_line b q) = b ++ (zs_told q ++ [59]) := by
  obtain ⟨h0, h1, h2, h3, h4, h5, h6, h7, h8⟩ := hq
  have c0 : q 0 = 0 ∨ q 0 = 1 ∨ q 0 = 2 ∨ q 0 = 3 ∨ q 0 = 4 := by omega
  have c4 : q 4 = 0 ∨ q 4 = 1 ∨ q 4 = 2 := by omega
  have c6 : q 6 = 0 ∨ q 6 = 1 ∨ q 6 = 2 ∨ q 6 = 3 ∨ q 6 = 4 ∨ q 6 = 5 ∨ q 6 = 6 := by omega
  have d1 := zs_dec1 h1
  have d2 := zs_dec1 h2
  have d8 := zs_dec1 h8
  have e1 : zt_fl (zx_body b q) = b ++ zs_does q := by
    unfold zx_body zs_does
    rcases c0 with e | e | e | e | e
    · rw [e]
      unfold zx_sum
      rcases c4 with e4 | e4 | e4
      · rw [e4]; simp only [zt_fl, List.cons_append, List.nil_append, List.append_assoc, List.append_nil, zk9_0, zk_9, zk_25, zk_14, zl_261, zl_256, zl_262, zl_257, zl_263, zx_h, d1]
      · rw [e4]; simp only [zt_fl, List.cons_append, List.nil_append, List.append_assoc, List.append_nil, zk9_0, zk_9, zk_25, zk_14, zk_20, zk_41, zk_43, zk_42, zl_261, zl_256, zl_262, zl_258, zl_263, zx_h, d1, zd_7]
      · rw [e4]; simp only [zt_fl, List.cons_append, List.nil_append, List.append_assoc, List.append_nil, zk9_0, zk_9, zk_25, zk_14, zk_26, zk_18, zk_40, zl_261, zl_256, zl_262, zl_259, zl_260, zl_263, zx_h, d1, d2]
    · rw [e]; simp only [zt_fl, List.cons_append, List.nil_append, List.append_assoc, List.append_nil, zk9_1, zk_10, zk_15, zk_16, zl_264, zl_256, zl_265, zl_266, zx_h, d1, d2]
    · rw [e]; simp only [zt_fl, List.cons_append, List.nil_append, List.append_assoc, List.append_nil, zk9_2, zk_11, zk_15, zl_267, zl_256, zl_265, zx_h, d1]
    · rw [e]; simp only [zt_fl, List.cons_append, List.nil_append, List.append_assoc, List.append_nil, zk9_3, zk_12, zk_17, zk_15, zl_268, zl_256, zl_269, zl_265, zx_h, d1, d2]
    · rw [e]; simp only [zt_fl, List.cons_append, List.nil_append, List.append_assoc, List.append_nil, zk9_4, zk_13, zl_270, zl_256, zx_h, d1]
  have e2 : zt_fl (zx_tst q) = zs_test q (q 6) := by
    unfold zx_tst zs_test
    rcases c6 with e | e | e | e | e | e | e
    · rw [e]; rfl
    · rw [e]; simp only [zt_fl, List.cons_append, List.nil_append, List.append_assoc, List.append_nil, zk_19, zk_21, zk_45, zl_271]
    · rw [e]; simp only [zt_fl, List.cons_append, List.nil_append, List.append_assoc, List.append_nil, zk_19, zk_27, zl_272, zl_256, zx_h, d8]
    · rw [e]; simp only [zt_fl, List.cons_append, List.nil_append, List.append_assoc, List.append_nil, zk_19, zk_29, zk_28, zl_273, zl_256, zx_h, d1, d8]
    · rw [e]; simp only [zt_fl, List.cons_append, List.nil_append, List.append_assoc, List.append_nil, zk_19, zk_20, zk_41, zk_43, zk_42, zk_46, zl_274, zd_3]
    · rw [e]; simp only [zt_fl, List.cons_append, List.nil_append, List.append_assoc, List.append_nil, zk_19, zk_22, zk_44, zk_25, zk_18, zk_31, zk_23, zl_275, zl_256, zl_276, zx_h, d8]
    · rw [e]; simp only [zt_fl, List.cons_append, List.nil_append, List.append_assoc, List.append_nil, zk_19, zk_36, zk_24, zk_44, zk_37, zk_30, zk_26, zk_18, zk_47, zl_277, zl_278, zl_256, zl_279, zx_h, d8, zd_1]
  unfold zx_line zs_told
  rw [zt_fl_app, zt_fl_app, e1, e2]
  simp only [zt_fl, List.cons_append, List.nil_append, List.append_assoc, List.append_nil, zk_38]
theorem zx_lines_fl {Q : Nat → Nat → Nat} : ∀ (n k : Nat) (b : List Int32), (∀ j, j < k + n → zp_Ln 6 (Q j)) → zt_fl (zx_lines b Q k n) ++ (if n = 0 then b else [10]) = b ++ zs_lines Q k n := by
  intro n
  induction n with
  | zero => intro k b _; simp [zx_lines, zs_lines, zt_fl]
  | succ n ih =>
    intro k b h
    have h1 := ih (k + 1) [10] (fun j hj => h j (by omega))
    show zt_fl (zx_line b (Q k) ++ zx_lines [10] Q (k + 1) n) ++ (if n + 1 = 0 then b else [10]) = b ++ (zs_told (Q k) ++ (q_str 253 ++ zs_lines Q (k + 1) n))
    have h2 : (if n = 0 then [(10 : Int32)] else [10]) = [10] := by split <;> rfl
    rw [h2] at h1
    rw [zt_fl_app, zx_line_fl (h k (by omega)), if_neg (Nat.succ_ne_zero n), List.append_assoc, h1]
    simp only [List.cons_append, List.nil_append, List.append_assoc, zl_253]
theorem zx_hooks_fl : ∀ (n k : Nat) (b : List Int32), k + n ≤ 6 → 0 < n → zt_fl (zx_hooks b k n) = b ++ zs_hooks k n := by
  intro n
  induction n with
  | zero => intro k b _ h; omega
  | succ n ih =>
    intro k b h _
    have d := zs_dec1 (n := k) (by omega)
    show b ++ (zx_k 8 ++ ([32] ++ (zx_h k ++ ([] ++ (zx_k 38 ++ zt_fl (zx_hooks [] (k + 1) n)))))) = b ++ (q_str 254 ++ (zs_dec k ++ (q_str 255 ++ zs_hooks (k + 1) n)))
    have h1 : zt_fl (zx_hooks [] (k + 1) n) = zs_hooks (k + 1) n := by
      cases n with
      | zero => rfl
      | succ n => exact ih (k + 1) [] (by omega) (by omega)
    rw [h1, d]
    simp only [List.cons_append, List.nil_append, List.append_assoc, zk_8, zk_38, zl_254, zl_255, zx_h]
theorem zx_head_fl {hf pr m : Nat} : zt_fl (zx_head hf pr m) ++ [10] = zs_head hf pr m := by
  simp only [zx_head, zs_head, zt_fl, List.cons_append, List.nil_append, List.append_assoc, List.append_nil, zk_5, zk_38, zk_7, zk_6, zl_250, zl_251, zl_252, zl_253]
/-- all of it -/
def zx_all (hf pr m H : Nat) (Q : Nat → Nat → Nat) (ns : Nat) : List zx_I := zx_head hf pr m ++ (zx_hooks [10] 0 H ++ zx_lines [] Q 0 ns)
def zs_all (hf pr m H : Nat) (Q : Nat → Nat → Nat) (ns : Nat) : List Int32 := zs_head hf pr m ++ (zs_hooks 0 H ++ zs_lines Q 0 ns)
theorem zx_all_fl {hf pr m H ns : Nat} {Q : Nat → Nat → Nat} (hH : 0 < H) (hH6 : H ≤ 6) (hQ : ∀ j, j < ns → zp_Ln 6 (Q j)) : zt_fl (zx_all hf pr m H Q ns) ++ (if ns = 0 then [] else [10]) = zs_all hf pr m H Q ns := by
  unfold zx_all zs_all
  rw [zt_fl_app, zt_fl_app, ← zx_head_fl, zx_hooks_fl H 0 [10] (by omega) hH, List.append_assoc, List.append_assoc, zx_lines_fl ns 0 [] (fun j hj => hQ j (by omega))]
  simp
/-- words and blanks ahead of them, as words and blanks behind them -/
def zt_sh : List Int32 → List zx_I → List Int32 → List (List Int32 × List Int32)
  | w, [], tl => [(w, tl)]
  | w, q :: N, tl => (w, q.1) :: zt_sh q.2 N tl
theorem zt_sh_fl : ∀ {w : List Int32} {N : List zx_I} {tl : List Int32}, zt_fl (zt_sh w N tl) = w ++ (zt_fl N ++ tl)
  | w, [], tl => by simp [zt_sh, zt_fl]
  | w, q :: N, tl => by
    show w ++ (q.1 ++ zt_fl (zt_sh q.2 N tl)) = w ++ ((q.1 ++ (q.2 ++ zt_fl N)) ++ tl)
    rw [zt_sh_fl]; simp
theorem zt_sh_map : ∀ {w : List Int32} {N : List zx_I} {tl : List Int32}, (zt_sh w N tl).map (·.1) = w :: N.map (·.2)
  | w, [], tl => rfl
  | w, q :: N, tl => by
    show w :: (zt_sh q.2 N tl).map (·.1) = w :: q.2 :: N.map (·.2)
    rw [zt_sh_map]
def zt_f : List Int32 → Int32 → Int32
  | [], c => c
  | x :: _, _ => x
theorem zt_f_app {a b : List Int32} {c : Int32} : zt_f (a ++ b) c = zt_f a (zt_f b c) := by
  cases a <;> rfl
theorem zt_f_getD {a : List Int32} : a.getD 0 0 = zt_f a 0 := by cases a <;> rfl
/-- every word may stand where it stands; c stands behind them -/
def zt_g : List zx_I → Int32 → Bool
  | [], _ => true
  | q :: N, c => (q.1.all zt_bl && zt_ch q.2 (zt_f (zt_fl N) c)) && zt_g N c
theorem zt_g_app : ∀ {A B : List zx_I} {c : Int32}, zt_g (A ++ B) c = (zt_g A (zt_f (zt_fl B) c) && zt_g B c)
  | [], B, c => by simp [zt_g]
  | q :: A, B, c => by
    show ((q.1.all zt_bl && zt_ch q.2 (zt_f (zt_fl (A ++ B)) c)) && zt_g (A ++ B) c) = (((q.1.all zt_bl && zt_ch q.2 (zt_f (zt_fl A) (zt_f (zt_fl B) c))) && zt_g A (zt_f (zt_fl B) c)) && zt_g B c)
    rw [zt_g_app, zt_fl_app, zt_f_app, Bool.and_assoc, Bool.and_assoc, Bool.and_assoc]
theorem zt_sh_ok {tl : List Int32} (h3 : tl.all zt_bl = true) : ∀ (N : List zx_I) (w : List Int32), zt_ch w (zt_f (zt_fl N) (tl.getD 0 0)) = true → zt_g N (tl.getD 0 0) = true → zt_ok (zt_sh w N tl) = true := by
  intro N
  induction N with
  | nil =>
    intro w h1 _
    rw [zt_fl, zt_f] at h1
    rw [zt_sh, zt_ok, zt_ok, zt_fl, List.append_nil]
    dsimp only
    rw [h1, h3]; rfl
  | cons q N ih =>
    intro w h1 h2
    rw [zt_g, Bool.and_eq_true, Bool.and_eq_true] at h2
    obtain ⟨⟨a1, a2⟩, a3⟩ := h2
    rw [zt_fl] at h1
    have e : (q.1 ++ zt_fl (zt_sh q.2 N tl)).getD 0 0 = zt_f (q.1 ++ (q.2 ++ zt_fl N)) (tl.getD 0 0) := by
      rw [zt_sh_fl, zt_f_getD, zt_f_app, zt_f_app, zt_f_app, zt_f_app, zt_f_app, zt_f_getD]
    rw [zt_sh, zt_ok]
    dsimp only
    rw [e, h1, a1, ih q.2 a2 a3]; rfl
end ZTEXT
