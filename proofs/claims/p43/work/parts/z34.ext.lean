/-! WHAT STANDS OUTSIDE, out of the claim's premises (printed by wip/gen43/gen34.py) -/
def q_subl : List Jvm.Cond → List Jvm.Cond → Bool
  | [], _ => true
  | _ :: _, [] => false
  | a :: t, b :: u => if a = b then q_subl t u else q_subl (a :: t) u
theorem q_subl_mem : ∀ {m l : List Jvm.Cond}, q_subl l m = true → ∀ w ∈ l, w ∈ m
  | [], [], _, w, hw => hw
  | _ :: _, [], _, w, hw => absurd hw List.not_mem_nil
  | [], _ :: _, h, w, hw => by simp [q_subl] at h
  | b :: u, a :: t, h, w, hw => by
    unfold q_subl at h
    by_cases hab : a = b
    · rw [if_pos hab] at h
      rcases List.mem_cons.mp hw with h1 | h1
      · rw [h1, hab]; exact List.mem_cons_self
      · exact List.mem_cons_of_mem _ (q_subl_mem h w h1)
    · rw [if_neg hab] at h
      exact List.mem_cons_of_mem _ (q_subl_mem h w hw)
def q_pxs : List Jvm.Cond := flatC (Jvm.Cond.and given_1 narrow_1)
def q_snm : List String := ["END", "BAD", "NUMBER", "NAME", "TURNED", "BARN", "LOFT", "PROMOTE", "HOOK", "MAKE", "TIE", "UNTIE", "FOLLOW", "DROP", "ROPES", "ROPE", "TO", "BY", "OF", "WHEN", "STEP", "USED", "FREE", "COPIES", "BALES", "SIZE", "AGE", "HAS", "SAME", "NOT", "AND", "OR", "MIN", "MAX", "OPEN", "CLOSE", "OPEN_TEST", "CLOSE_TEST", "SEMICOLON", "COMMA", "PLUS", "MINUS", "TIMES", "OVER", "LESS", "GREATER", "EQUAL", "AT_MOST", "AT_LEAST"]
def q_kSs : List Nat := [175, 175, 175, 175, 175, 185, 188, 191, 194, 197, 200, 203, 206, 209, 212, 215, 218, 221, 224, 227, 230, 233, 236, 239, 242, 245, 248, 251, 254, 257, 260, 263, 266, 269, 272, 275, 278, 281, 284, 287, 290, 293, 296, 299, 302, 305, 308, 311, 314]
def q_kL : List Nat := [47, 62, 67, 72, 78, 80, 97, 103, 105, 107, 109, 111, 113, 115, 117, 119, 121, 123, 125, 127, 129, 131, 133, 135, 137, 139, 141, 143, 145, 147]
def q_sgt (i : Nat) : Term := .static "HayBarn$Sign" (q_snm.getD i "") "LHayBarn$Sign;"
def q_stt (i : Nat) : Term := if i < 149 then .string "HayBarn$Sign" (q_kSs.getD (i - 100) 0) else .string "HayBarnLaw" (q_kL.getD (i - 250) 0)
abbrev q_vlt (i : Nat) : Term := .field (q_stt i) "java/lang/String" "value" "[B"
abbrev q_tSG : Term := .static "HayBarn" "SIGNS" "[LHayBarn$Sign;"
abbrev q_tSW : Term := .static "HayBarn$1" "$SwitchMap$HayBarn$Sign" "[I"
abbrev q_tDO : Term := .static "java/lang/Integer" "DigitOnes" "[B"
abbrev q_tDT : Term := .static "java/lang/Integer" "DigitTens" "[B"
abbrev q_tFO : Term := .static "jdk/internal/util/Preconditions" "SIOOBE_FORMATTER" "Ljava/util/function/BiFunction;"
def q_tmm (i : Nat) : Term := if i < 49 then q_sgt i else if i = 49 then q_tSG else if i = 50 then q_tSW else if i = 51 then q_tDO else if i = 52 then .arg 0 else if i = 53 then q_tDT else if i < 200 then q_stt i else if i < 250 then q_vlt (i - 100) else if i < 350 then q_stt i else if i < 399 then q_vlt (i - 100) else q_tFO
def q_rho (args : Array Value) (s : State) (i : Nat) : Nat := match (q_tmm i).eval args s none [] s with
  | some (.ref a) => a
  | _ => 0
theorem q_rho_of {args : Array Value} {s : State} {i a : Nat} (h : (q_tmm i).eval args s none [] s = some (.ref a)) : q_rho args s i = a := by unfold q_rho; rw [h]
theorem q_tmm_s {i : Nat} (h : i < 49) : q_tmm i = q_sgt i := if_pos h
theorem q_isStr_c {i : Nat} (h : q_isStr i = true) : (100 ≤ i ∧ i < 149) ∨ (250 ≤ i ∧ i < 280) := by
  unfold q_isStr at h
  simp only [Bool.or_eq_true, Bool.and_eq_true, Nat.ble_eq, Nat.blt_eq] at h
  exact h
theorem q_tmm_t {i : Nat} (h : q_isStr i = true) : q_tmm i = q_stt i := by
  have h := q_isStr_c h
  unfold q_tmm
  rw [if_neg (by omega), if_neg (by omega), if_neg (by omega), if_neg (by omega), if_neg (by omega), if_neg (by omega)]
  rcases h with h | h
  · rw [if_pos (by omega)]
  · rw [if_neg (by omega), if_neg (by omega), if_pos (by omega)]
theorem q_tmm_v {i : Nat} (h : q_isStr i = true) : q_tmm (100 + i) = q_vlt i := by
  have h := q_isStr_c h
  unfold q_tmm
  rw [if_neg (by omega), if_neg (by omega), if_neg (by omega), if_neg (by omega), if_neg (by omega), if_neg (by omega)]
  rcases h with h | h
  · rw [if_neg (by omega), if_pos (by omega), show 100 + i - 100 = i by omega]
  · rw [if_neg (by omega), if_neg (by omega), if_neg (by omega), if_pos (by omega), show 100 + i - 100 = i by omega]
def q_fsg (i : Nat) : List Jvm.Cond := [.exactly (q_sgt i) "HayBarn$Sign", .eq (.field (q_sgt i) "java/lang/Enum" "ordinal" "I") (.int (nI i)), .eq (.field (q_sgt i) "HayBarn$Sign" "text" "Ljava/lang/String;") (q_stt (100 + i))]
def q_fst (i : Nat) : List Jvm.Cond := [.exactly (q_stt i) "java/lang/String", .eq (.field (q_stt i) "java/lang/String" "coder" "B") (.int 0), .arrayOf (q_vlt i) .byte, .eq (.length (q_vlt i)) (.int (Int32.ofNat (q_str i).length))] ++ (List.range (q_str i).length).map fun j => .eq (.elem (q_vlt i) (.int (Int32.ofNat j))) (.int ((q_str i).getD j 0))
def q_fa1 : List Jvm.Cond := [.arrayOf q_tSG (.object "HayBarn$Sign"), .eq (.length q_tSG) (.int (Int32.ofNat 49))] ++ (List.range 49).map fun j => .eq (.elem q_tSG (.int (Int32.ofNat j))) (q_sgt j)
def q_fa2 : List Jvm.Cond := [.arrayOf q_tSW .int, .eq (.length q_tSW) (.int (Int32.ofNat 49))] ++ (List.range 49).map fun j => .eq (.elem q_tSW (.int (Int32.ofNat j))) (.int (q_sw j))
def q_fa3 : List Jvm.Cond := [.arrayOf q_tDO .byte, .eq (.length q_tDO) (.int (Int32.ofNat 100))] ++ (List.range 100).map fun j => .eq (.elem q_tDO (.int (Int32.ofNat j))) (.int (nI (48 + j % 10)))
def q_fa4 : List Jvm.Cond := [.arrayOf q_tDT .byte, .eq (.length q_tDT) (.int (Int32.ofNat 100))] ++ (List.range 100).map fun j => .eq (.elem q_tDT (.int (Int32.ofNat j))) (.int (nI (48 + j / 10)))
def q_sgo : List Nat := [13, 1, 2, 3, 0, 9, 10, 11, 12, 25, 18, 4, 35, 34, 39, 42, 43, 40, 41, 14, 15, 16, 17, 19, 29, 37, 27, 28, 44, 45, 46, 47, 48, 30, 31, 38, 5, 6, 7, 8, 20, 21, 22, 23, 24, 26, 32, 33, 36]
def q_sto : List Nat := [250, 251, 252, 253, 254, 255, 256, 257, 258, 259, 260, 261, 262, 263, 264, 265, 266, 267, 268, 269, 270, 271, 272, 273, 274, 275, 276, 277, 278, 279, 113, 100, 109, 110, 111, 112, 125, 118, 135, 134, 139, 142, 143, 140, 141, 114, 115, 116, 117, 119, 129, 137, 127, 128, 144, 145, 146, 147, 148, 130, 131, 138, 105, 106, 107, 108, 120, 121, 122, 123, 124, 126, 132, 133, 136]
def q_fnc : List Jvm.Cond := [.not (.castable "java/lang/IllegalArgumentException" "java/lang/IllegalStateException"), .not (.castable "java/lang/IndexOutOfBoundsException" "java/lang/IllegalStateException")]
def q_fms : List Jvm.Cond := [.exactly (.string "HayBarn" 253) "java/lang/String", .exactly (.string "HayBarn" 207) "java/lang/String", .exactly (.string "HayBarn" 256) "java/lang/String", .exactly (.string "HayBarn" 258) "java/lang/String", .exactly (.string "HayBarn" 171) "java/lang/String", .exactly (.string "HayBarn" 71) "java/lang/String", .exactly (.string "HayBarn" 60) "java/lang/String", .exactly (.string "HayBarn" 183) "java/lang/String", .exactly (.string "HayBarn" 189) "java/lang/String", .exactly (.string "HayBarn" 194) "java/lang/String", .exactly (.string "HayBarn" 202) "java/lang/String"]
def q_fmi : List Jvm.Cond := [.isRef (.static Bundle.tN "UNASSIGNED_STACK" Bundle.steD), .isRef (.static Bundle.tN "SUPPRESSED_SENTINEL" Bundle.listD), .eq (.static "java/lang/String" "COMPACT_STRINGS" "Z") (.int 1), .isRef q_tFO]
set_option maxRecDepth 100000 in
theorem q_pSG : q_subl (q_sgo.flatMap q_fsg) q_pxs = true := by decide +kernel
set_option maxRecDepth 100000 in
theorem q_pST : q_subl (q_sto.flatMap q_fst) q_pxs = true := by decide +kernel
theorem q_pA1 : q_subl q_fa1 q_pxs = true := by decide +kernel
theorem q_pA2 : q_subl q_fa2 q_pxs = true := by decide +kernel
theorem q_pA3 : q_subl q_fa3 q_pxs = true := by decide +kernel
theorem q_pA4 : q_subl q_fa4 q_pxs = true := by decide +kernel
theorem q_pNC : q_subl q_fnc q_pxs = true := by decide +kernel
theorem q_pMS : q_subl q_fms q_pxs = true := by decide +kernel
theorem q_pMI : q_subl q_fmi q_pxs = true := by decide +kernel
theorem q_sgo_all : ∀ i, i < 49 → i ∈ q_sgo := by decide +kernel
def q_stoc : Bool := (List.range 300).all fun i => !q_isStr i || q_sto.any fun j => decide (q_stt j = q_stt i) && decide (q_str j = q_str i)
theorem q_stoc_ok : q_stoc = true := by decide +kernel
def q_stwc : Bool := q_stat.all fun q => decide (Jvm.Cond.laysStatic q.1 q.2.1 q.2.2.1 ∈ lw_tbl) && decide (Jvm.Cond.initialized q.1 ∈ lw_tbl)
set_option maxRecDepth 100000 in
theorem q_stwc_ok : q_stwc = true := by decide +kernel
def q_stec : Bool := q_stat.all fun q => decide (q_tmm q.2.2.2 = .static q.1 q.2.1 q.2.2.1) && (Nat.blt q.2.2.2 52 || Nat.beq q.2.2.2 53)
theorem q_stec_ok : q_stec = true := by decide +kernel
def q_mswc : Bool := q_msg.all fun q => decide (Jvm.Cond.stringRef q.1 q.2.1 q.2.2 ∈ lw_tbl) && decide (Jvm.Cond.exactly (.string q.1 q.2.1) "java/lang/String" ∈ q_fms)
set_option maxRecDepth 100000 in
theorem q_mswc_ok : q_mswc = true := by decide +kernel
def q_litc : Bool := q_lit.all fun q => decide (Jvm.Cond.stringRef "HayBarnLaw" q.1 q.2.1 ∈ lw_tbl) && (decide (q_stt q.2.2 = .string "HayBarnLaw" q.1) && q_isStr q.2.2)
set_option maxRecDepth 100000 in
theorem q_litc_ok : q_litc = true := by decide +kernel
def q_ncc : Bool := q_nc.all fun q => decide (Jvm.Cond.not (.castable q.1 q.2) ∈ q_fnc)
theorem q_ncc_ok : q_ncc = true := by decide +kernel
section
variable {args : Array Value} {s : State} {A : Nat → Prop}
theorem q_prem (h : (Jvm.Cond.and given_1 narrow_1).before args s = true) {l : List Jvm.Cond} (hl : q_subl l q_pxs = true) {w : Jvm.Cond} (hw : w ∈ l) : w.before args s = true := flat_of_before _ h w (q_subl_mem hl w hw)
theorem q_prS (h : (Jvm.Cond.and given_1 narrow_1).before args s = true) {i : Nat} (hi : i < 49) {w : Jvm.Cond} (hw : w ∈ q_fsg i) : w.before args s = true := q_prem h q_pSG (List.mem_flatMap.mpr ⟨i, q_sgo_all i hi, hw⟩)
theorem q_prT (h : (Jvm.Cond.and given_1 narrow_1).before args s = true) {i : Nat} (hi : q_isStr i = true) {w : Jvm.Cond} (hw : w ∈ q_fst i) : w.before args s = true := by
  have h1 := q_stoc_ok
  unfold q_stoc at h1
  have h2 := List.all_eq_true.mp h1 i (List.mem_range.mpr (q_isStr_lt hi))
  rw [hi, Bool.not_true, Bool.false_or, List.any_eq_true] at h2
  obtain ⟨j, j1, j2⟩ := h2
  rw [Bool.and_eq_true, decide_eq_true_eq, decide_eq_true_eq] at j2
  refine q_prem h q_pST (List.mem_flatMap.mpr ⟨j, j1, ?_⟩)
  have e : q_fst j = q_fst i := by unfold q_fst q_vlt; rw [j2.1, j2.2]
  rw [e]; exact hw
/-- a sign, at its address -/
theorem q_evS (h : (Jvm.Cond.and given_1 narrow_1).before args s = true) {i : Nat} (hi : i < 49) : (q_sgt i).eval args s none [] s = some (.ref (q_rho args s i)) := by
  obtain ⟨a, c, cA, kA, q1, -⟩ := Cond.exactly_spec (args := args) (first := s) (o := none) (s := s) (idx := []) (t := q_sgt i) (cls := "HayBarn$Sign") (q_prS h hi List.mem_cons_self)
  rw [q_rho_of (a := a) (by rw [q_tmm_s hi]; exact q1)]
  exact q1
theorem q_evT (h : (Jvm.Cond.and given_1 narrow_1).before args s = true) {i : Nat} (hi : q_isStr i = true) : (q_stt i).eval args s none [] s = some (.ref (q_rho args s i)) := by
  obtain ⟨a, c, cA, kA, q1, -⟩ := Cond.exactly_spec (args := args) (first := s) (o := none) (s := s) (idx := []) (t := q_stt i) (cls := "java/lang/String") (q_prT h hi (List.mem_append_left _ List.mem_cons_self))
  rw [q_rho_of (a := a) (by rw [q_tmm_t hi]; exact q1)]
  exact q1
theorem q_len31 {i : Nat} (hi : q_isStr i = true) : (q_str i).length < 2 ^ 31 := Nat.lt_trans (q_str_at (q_isStr_lt hi)).1 (by decide)
theorem q_strOk (h : (Jvm.Cond.and given_1 narrow_1).before args s = true) (hA : ∀ a : Nat, a < s.heap.size → ¬ A a) {i : Nat} (hi : q_isStr i = true) : va_O "java/lang/String" (q_rho args s i) A s s.heap ∧ va_OF "java/lang/String" "coder" "B" (.int 0) (q_rho args s i) A s s.heap ∧ va_OF "java/lang/String" "value" "[B" (.ref (q_rho args s (100 + i))) (q_rho args s i) A s s.heap ∧ va_T .byte (q_rho args s (100 + i)) (q_str i).length (fun j => .int ((q_str i).getD j 0)) A s s.heap := by
  have hev := q_evT h hi
  have m1 : Jvm.Cond.exactly (q_stt i) "java/lang/String" ∈ q_fst i := List.mem_append_left _ List.mem_cons_self
  have m2 : Jvm.Cond.eq (.field (q_stt i) "java/lang/String" "coder" "B") (.int 0) ∈ q_fst i := List.mem_append_left _ (List.mem_cons_of_mem _ List.mem_cons_self)
  have m3 : Jvm.Cond.arrayOf (q_vlt i) .byte ∈ q_fst i := List.mem_append_left _ (List.mem_cons_of_mem _ (List.mem_cons_of_mem _ List.mem_cons_self))
  have m4 : Jvm.Cond.eq (.length (q_vlt i)) (.int (Int32.ofNat (q_str i).length)) ∈ q_fst i := List.mem_append_left _ (List.mem_cons_of_mem _ (List.mem_cons_of_mem _ (List.mem_cons_of_mem _ List.mem_cons_self)))
  have m5 : ∀ j, j < (q_str i).length → Jvm.Cond.eq (.elem (q_vlt i) (.int (Int32.ofNat j))) (.int ((q_str i).getD j 0)) ∈ q_fst i := fun j hj => List.mem_append_right _ (List.mem_map.mpr ⟨j, List.mem_range.mpr hj, rfl⟩)
  obtain ⟨t, ht, hT⟩ := va_Tof (f := fun j => .int ((q_str i).getD j 0)) (A := A) (q_len31 hi) (q_prT h hi m3) (va_eqt (q_prT h hi m4)) (fun j hj => va_eqt (q_prT h hi (m5 j hj))) hA
  have e : q_rho args s (100 + i) = t := q_rho_of (by rw [q_tmm_v hi]; exact ht)
  rw [e]
  exact ⟨va_Oof (q_prT h hi m1) hev hA, vk_OFof hev (va_eqt (q_prT h hi m2)) hA, vk_OFof hev ht hA, hT⟩
theorem q_isStr_S {i : Nat} (hi : i < 49) : q_isStr (100 + i) = true := (q_isSs hi).1
theorem q_sgnOk (h : (Jvm.Cond.and given_1 narrow_1).before args s = true) (hA : ∀ a : Nat, a < s.heap.size → ¬ A a) {i : Nat} (hi : i < 49) : va_O "HayBarn$Sign" (q_rho args s i) A s s.heap ∧ va_OF "java/lang/Enum" "ordinal" "I" (.int (nI i)) (q_rho args s i) A s s.heap ∧ va_OF "HayBarn$Sign" "text" "Ljava/lang/String;" (.ref (q_rho args s (100 + i))) (q_rho args s i) A s s.heap :=
  ⟨va_Oof (q_prS h hi List.mem_cons_self) (q_evS h hi) hA, vk_OFof (q_evS h hi) (va_eqt (q_prS h hi (List.mem_cons_of_mem _ List.mem_cons_self))) hA, vk_OFof (q_evS h hi) (va_eqv (q_prS h hi (List.mem_cons_of_mem _ (List.mem_cons_of_mem _ List.mem_cons_self))) (q_evT h (q_isStr_S hi))) hA⟩
theorem q_ordInj {H : Heap} {i j a : Nat} (hi : i < 49) (hj : j < 49) (h1 : va_OF "java/lang/Enum" "ordinal" "I" (.int (nI i)) a A s H) (h2 : va_OF "java/lang/Enum" "ordinal" "I" (.int (nI j)) a A s H) : i = j := by
  obtain ⟨cf, k, fi, f, cell, a1, a2, a3, a4, a5, -⟩ := h1
  obtain ⟨cf', k', fi', f', cell', b1, b2, b3, b4, b5, -⟩ := h2
  cases a1.symm.trans b1
  cases a3.symm.trans b3
  have e := Value.int.inj (Option.some.inj (a5.symm.trans b5))
  have e2 : (nI i).toNatClampNeg = (nI j).toNatClampNeg := by rw [e]
  rwa [nI_clamp (by omega), nI_clamp (by omega)] at e2
end
set_option maxHeartbeats 4000000 in
/-- all that stands outside -/
theorem q_Ext0 {l : Launch} (hfl : l.flags = flags0) {b L : Nat} {xs : Nat → Int32} {s : State} (hgv : (Jvm.Cond.and given_1 narrow_1).before #[Value.ref b] s = true) (hts : ∀ w ∈ lw_tbl, w.before #[Value.ref b] s = true) (hL : L ≤ 260) (hX : va_X b L xs s s.heap) (hb : b < s.heap.size) : q_Ext (l, (List.range L).map xs) (q_rho #[Value.ref b] s) (fun q => s.heap.size ≤ q) s s.heap := by
  have hA : ∀ a : Nat, a < s.heap.size → ¬ (fun q : Nat => s.heap.size ≤ q) a := fun a ha h => absurd ha (Nat.not_lt.mpr h)
  have hsig := fun (i : Nat) (hi : i < 49) => q_sgnOk (A := fun q => s.heap.size ≤ q) hgv hA hi
  obtain ⟨t1, ht1, hT1⟩ := va_Tof (f := fun j => .ref (q_rho #[Value.ref b] s j)) (A := fun q => s.heap.size ≤ q) (N := 49) (by decide) (q_prem hgv q_pA1 (List.mem_append_left _ List.mem_cons_self)) (va_eqt (q_prem hgv q_pA1 (List.mem_append_left _ (List.mem_cons_of_mem _ List.mem_cons_self)))) (fun j hj => va_eqv (q_prem hgv q_pA1 (List.mem_append_right _ (List.mem_map.mpr ⟨j, List.mem_range.mpr hj, rfl⟩))) (q_evS hgv hj)) hA
  obtain ⟨t2, ht2, hT2⟩ := va_Tof (f := fun j => .int (q_sw j)) (A := fun q => s.heap.size ≤ q) (N := 49) (by decide) (q_prem hgv q_pA2 (List.mem_append_left _ List.mem_cons_self)) (va_eqt (q_prem hgv q_pA2 (List.mem_append_left _ (List.mem_cons_of_mem _ List.mem_cons_self)))) (fun j hj => va_eqt (q_prem hgv q_pA2 (List.mem_append_right _ (List.mem_map.mpr ⟨j, List.mem_range.mpr hj, rfl⟩)))) hA
  obtain ⟨t3, ht3, hT3⟩ := va_Tof (f := fun j => .int (nI (48 + j % 10))) (A := fun q => s.heap.size ≤ q) (N := 100) (by decide) (q_prem hgv q_pA3 (List.mem_append_left _ List.mem_cons_self)) (va_eqt (q_prem hgv q_pA3 (List.mem_append_left _ (List.mem_cons_of_mem _ List.mem_cons_self)))) (fun j hj => va_eqt (q_prem hgv q_pA3 (List.mem_append_right _ (List.mem_map.mpr ⟨j, List.mem_range.mpr hj, rfl⟩)))) hA
  obtain ⟨t5, ht5, hT5⟩ := va_Tof (f := fun j => .int (nI (48 + j / 10))) (A := fun q => s.heap.size ≤ q) (N := 100) (by decide) (q_prem hgv q_pA4 (List.mem_append_left _ List.mem_cons_self)) (va_eqt (q_prem hgv q_pA4 (List.mem_append_left _ (List.mem_cons_of_mem _ List.mem_cons_self)))) (fun j hj => va_eqt (q_prem hgv q_pA4 (List.mem_append_right _ (List.mem_map.mpr ⟨j, List.mem_range.mpr hj, rfl⟩)))) hA
  have r1 : q_rho #[Value.ref b] s 49 = t1 := q_rho_of ht1
  have r2 : q_rho #[Value.ref b] s 50 = t2 := q_rho_of ht2
  have r3 : q_rho #[Value.ref b] s 51 = t3 := q_rho_of ht3
  have r4 : q_rho #[Value.ref b] s 52 = b := q_rho_of rfl
  have r5 : q_rho #[Value.ref b] s 53 = t5 := q_rho_of ht5
  refine ⟨?_, ?_, hsig, ?_, by rw [r1]; exact hT1, by rw [r2]; exact hT2, ⟨by rw [r3]; exact hT3, by rw [r5]; exact hT5⟩, ?_, fun i hi => q_strOk hgv hA hi, ?_, ?_, ?_, ?_, ?_, ?_, ?_, ?_, ?_, ?_⟩
  · show l.stackTraces = false
    unfold Launch.stackTraces
    rw [hfl]
    decide +kernel
  · intro q hq
    have w := List.all_eq_true.mp q_stwc_ok q hq
    have v := List.all_eq_true.mp q_stec_ok q hq
    rw [Bool.and_eq_true, decide_eq_true_eq, decide_eq_true_eq] at w
    rw [Bool.and_eq_true, decide_eq_true_eq] at v
    refine va_Zref (hts _ w.1) (hts _ w.2) ?_ hA
    rw [← v.1]
    have hlt : q.2.2.2 < 52 ∨ q.2.2.2 = 53 := by
      have h := v.2
      rw [Bool.or_eq_true] at h
      rcases h with h | h
      · exact Or.inl (Nat.blt_eq.mp h)
      · exact Or.inr (Nat.eq_of_beq_eq_true h)
    by_cases h49 : q.2.2.2 < 49
    · rw [q_tmm_s h49]; exact q_evS hgv h49
    · have : q.2.2.2 = 49 ∨ q.2.2.2 = 50 ∨ q.2.2.2 = 51 ∨ q.2.2.2 = 53 := by omega
      rcases this with e | e | e | e <;> rw [e]
      · rw [r1]; exact ht1
      · rw [r2]; exact ht2
      · rw [r3]; exact ht3
      · rw [r5]; exact ht5
  · intro i j hi hj hij
    have h1 := (hsig i hi).2.1
    have h2 := (hsig j hj).2.1
    rw [hij] at h1
    exact q_ordInj hi hj h1 h2
  · obtain ⟨scr, c1, c2, c3, c4, c5⟩ := hX
    have hlen : ((List.range L).map xs).length = L := by simp
    rw [r4]
    show va_T .int b ((List.range L).map xs).length _ _ s s.heap
    rw [hlen]
    refine ⟨scr, c1, c2, c3, by rw [c4]; exact Nat.le_refl _, by rw [c4], fun j hj => ?_, Nat.not_le.mpr hb⟩
    rw [c5 j hj]
    have e9 : ((List.range L).map xs).getD j 0 = xs j := by simp [List.getD, hj]
    show some (Value.int (xs j)) = some (Value.int (((List.range L).map xs).getD j 0))
    rw [e9]
  · intro q hq
    have w := List.all_eq_true.mp q_mswc_ok q hq
    rw [Bool.and_eq_true, decide_eq_true_eq, decide_eq_true_eq] at w
    obtain ⟨a, c, cA, kA, q1, -⟩ := Cond.exactly_spec (args := #[Value.ref b]) (first := s) (o := none) (s := s) (idx := []) (t := .string q.1 q.2.1) (cls := "java/lang/String") (q_prem hgv q_pMS w.2)
    exact ⟨a, vk_R.of (hts _ w.1) q1⟩
  · intro q hq
    have w := List.all_eq_true.mp q_litc_ok q hq
    rw [Bool.and_eq_true, decide_eq_true_eq, Bool.and_eq_true, decide_eq_true_eq] at w
    have e := q_evT hgv w.2.2
    rw [w.2.1] at e
    exact vk_R.of (hts _ w.1) e
  · exact vx_Zqof (hts _ (by decide +kernel)) (hts _ (by decide +kernel)) (q_prem hgv q_pMI List.mem_cons_self) hA
  · exact vx_Zqof (hts _ (by decide +kernel)) (hts _ (by decide +kernel)) (q_prem hgv q_pMI (List.mem_cons_of_mem _ List.mem_cons_self)) hA
  · intro q hq
    have w := List.all_eq_true.mp q_ncc_ok q hq
    rw [decide_eq_true_eq] at w
    exact va_Nc.of (q_prem hgv q_pNC w)
  · exact va_Zof (hts _ (by decide +kernel)) (hts _ (by decide +kernel)) (va_eqi (q_prem hgv q_pMI (List.mem_cons_of_mem _ (List.mem_cons_of_mem _ List.mem_cons_self)))) hA
  · have hq := q_prem hgv q_pMI (w := .isRef q_tFO) (List.mem_cons_of_mem _ (List.mem_cons_of_mem _ (List.mem_cons_of_mem _ List.mem_cons_self)))
    have hl := hts (.laysStatic "jdk/internal/util/Preconditions" "SIOOBE_FORMATTER" "Ljava/util/function/BiFunction;") (by decide +kernel)
    have hini := hts (.initialized "jdk/internal/util/Preconditions") (by decide +kernel)
    cases hv : q_tFO.eval #[Value.ref b] s none [] s with
    | none => simp [Cond.before, Cond.holds, Cond.value, hv] at hq
    | some w =>
      simp only [Cond.before, Cond.holds, Cond.value, hv] at hq
      cases w with
      | null => exact Or.inl (va_Zof hl hini hv hA)
      | ref t =>
        refine Or.inr ?_
        rw [q_rho_of (i := 399) (a := t) hv]
        exact va_Zof hl hini hv hA
      | _ => simp at hq
  · exact ⟨va_AO.of (hts (.arrayOver (.object "HayBarn$Step")) (by decide +kernel)), va_AO.of (hts (.arrayOver (.object "HayBarnLaw$Bale")) (by decide +kernel)), va_AO.of (hts (.arrayOver (.object "java/lang/String")) (by decide +kernel)), hts (.arrayOver (.array .int)) (by decide +kernel)⟩
  · exact va_AO.of (hts (.arrayOver (.object "HayBarn$Sign")) (by decide +kernel))
  · intro w hw hn
    exact va_Nw.of (q_isN_on hn) (hts w hw)
