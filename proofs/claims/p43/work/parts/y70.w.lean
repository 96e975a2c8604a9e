/-! pieces of the JDK's text methods, as formulas (printed by wip/gen43/gw3.py) -/
def m_J6_gc : q_M := (yJ6_getChars_ba4f3, cJ6_getChars_ba4f3, 7, (Option.some Jvm.ClassFile.FieldType.int), [
  (0, .iload_n 1, 1, 0, 0, 0, 0),
  (1, .istore 5, 2, 0, 0, 0, 0),
  (3, .iload_n 0, 1, 0, 0, 0, 0),
  (4, .ifCond .ge 7, 3, 6, 0, 0, 0),
  (7, .iconst 1, 1, 1, 0, 0, 0),
  (8, .goto 4, 3, 7, 0, 0, 0),
  (11, .iconst 0, 1, 0, 0, 0, 0),
  (12, .istore 6, 2, 0, 0, 0, 0),
  (14, .iload 6, 2, 0, 0, 0, 0),
  (16, .ifCond .ne 6, 3, 13, 0, 0, 0),
  (19, .iload_n 0, 1, 0, 0, 0, 0),
  (20, .ineg, 1, 0, 0, 0, 0),
  (21, .istore_n 0, 1, 0, 0, 0, 0),
  (22, .iload_n 0, 1, 0, 0, 0, 0),
  (23, .bipush (-100), 2, 100, 1, 0, 0),
  (25, .if_icmp .gt 47, 3, 43, 0, 0, 0),
  (28, .iload_n 0, 1, 0, 0, 0, 0),
  (29, .bipush 100, 2, 100, 0, 0, 0),
  (31, .idiv, 1, 0, 0, 0, 0),
  (32, .istore_n 3, 1, 0, 0, 0, 0),
  (33, .iload_n 3, 1, 0, 0, 0, 0),
  (34, .bipush 100, 2, 100, 0, 0, 0),
  (36, .imul, 1, 0, 0, 0, 0),
  (37, .iload_n 0, 1, 0, 0, 0, 0),
  (38, .isub, 1, 0, 0, 0, 0),
  (39, .istore 4, 2, 0, 0, 0, 0),
  (41, .iload_n 3, 1, 0, 0, 0, 0),
  (42, .istore_n 0, 1, 0, 0, 0, 0),
  (43, .aload_n 2, 1, 0, 0, 0, 0),
  (44, .iinc 5 (-1), 3, 1, 1, 0, 0),
  (47, .iload 5, 2, 0, 0, 0, 0),
  (49, .getstatic 83, 3, 51, 0, 6, 175),
  (52, .iload 4, 2, 0, 0, 0, 0),
  (54, .baload, 1, 0, 0, 0, 0),
  (55, .bastore, 1, 0, 0, 0, 0),
  (56, .aload_n 2, 1, 0, 0, 0, 0),
  (57, .iinc 5 (-1), 3, 1, 1, 0, 0),
  (60, .iload 5, 2, 0, 0, 0, 0),
  (62, .getstatic 87, 3, 53, 0, 6, 177),
  (65, .iload 4, 2, 0, 0, 0, 0),
  (67, .baload, 1, 0, 0, 0, 0),
  (68, .bastore, 1, 0, 0, 0, 0),
  (69, .goto (-47), 3, 13, 0, 0, 0),
  (72, .aload_n 2, 1, 0, 0, 0, 0),
  (73, .iinc 5 (-1), 3, 1, 1, 0, 0),
  (76, .iload 5, 2, 0, 0, 0, 0),
  (78, .getstatic 83, 3, 51, 0, 6, 175),
  (81, .iload_n 0, 1, 0, 0, 0, 0),
  (82, .ineg, 1, 0, 0, 0, 0),
  (83, .baload, 1, 0, 0, 0, 0),
  (84, .bastore, 1, 0, 0, 0, 0),
  (85, .iload_n 0, 1, 0, 0, 0, 0),
  (86, .bipush (-9), 2, 9, 1, 0, 0),
  (88, .if_icmp .ge 16, 3, 62, 0, 0, 0),
  (91, .aload_n 2, 1, 0, 0, 0, 0),
  (92, .iinc 5 (-1), 3, 1, 1, 0, 0),
  (95, .iload 5, 2, 0, 0, 0, 0),
  (97, .getstatic 87, 3, 53, 0, 6, 177),
  (100, .iload_n 0, 1, 0, 0, 0, 0),
  (101, .ineg, 1, 0, 0, 0, 0),
  (102, .baload, 1, 0, 0, 0, 0),
  (103, .bastore, 1, 0, 0, 0, 0),
  (104, .iload 6, 2, 0, 0, 0, 0),
  (106, .ifCond .eq 12, 3, 69, 0, 0, 0),
  (109, .aload_n 2, 1, 0, 0, 0, 0),
  (110, .iinc 5 (-1), 3, 1, 1, 0, 0),
  (113, .iload 5, 2, 0, 0, 0, 0),
  (115, .bipush 45, 2, 45, 0, 0, 0),
  (117, .bastore, 1, 0, 0, 0, 0),
  (118, .iload 5, 2, 0, 0, 0, 0),
  (120, .ireturn, 1, 0, 0, 0, 0)], 6, 174)
set_option maxRecDepth 100000 in
theorem ok_J6_gc : q_okM m_J6_gc = true := by decide +kernel
theorem okB_J5_init_d00df : q_okB m_J5_init_d00df = true := q_okB_of ok_J5_init_d00df
set_option maxRecDepth 100000 in
theorem okC_J5_init_d00df : q_okC m_J5_init_d00df = true := by decide +kernel
theorem okB_J5_length_8abf5 : q_okB m_J5_length_8abf5 = true := q_okB_of ok_J5_length_8abf5
set_option maxRecDepth 100000 in
theorem okC_J5_length_8abf5 : q_okC m_J5_length_8abf5 = true := by decide +kernel
theorem okB_J5_ensureCapacityInternal_d00df : q_okB m_J5_ensureCapacityInternal_d00df = true := q_okB_of ok_J5_ensureCapacityInternal_d00df
set_option maxRecDepth 100000 in
theorem okC_J5_ensureCapacityInternal_d00df : q_okC m_J5_ensureCapacityInternal_d00df = true := by decide +kernel
theorem okB_J5_append_cf1ce : q_okB m_J5_append_cf1ce = true := q_okB_of ok_J5_append_cf1ce
set_option maxRecDepth 100000 in
theorem okC_J5_append_cf1ce : q_okC m_J5_append_cf1ce = true := by decide +kernel
theorem okB_J5_append_c97b9 : q_okB m_J5_append_c97b9 = true := q_okB_of ok_J5_append_c97b9
set_option maxRecDepth 100000 in
theorem okC_J5_append_c97b9 : q_okC m_J5_append_c97b9 = true := by decide +kernel
theorem okB_J5_getValue_6d5f1 : q_okB m_J5_getValue_6d5f1 = true := q_okB_of ok_J5_getValue_6d5f1
set_option maxRecDepth 100000 in
theorem okC_J5_getValue_6d5f1 : q_okC m_J5_getValue_6d5f1 = true := by decide +kernel
theorem okB_J5_isLatin1_aae02 : q_okB m_J5_isLatin1_aae02 = true := q_okB_of ok_J5_isLatin1_aae02
set_option maxRecDepth 100000 in
theorem okC_J5_isLatin1_aae02 : q_okC m_J5_isLatin1_aae02 = true := by decide +kernel
theorem okB_J5_inflateIfNeededFor_a7421 : q_okB m_J5_inflateIfNeededFor_a7421 = true := q_okB_of ok_J5_inflateIfNeededFor_a7421
set_option maxRecDepth 100000 in
theorem okC_J5_inflateIfNeededFor_a7421 : q_okC m_J5_inflateIfNeededFor_a7421 = true := by decide +kernel
theorem okB_J5_putStringAt_47b60 : q_okB m_J5_putStringAt_47b60 = true := q_okB_of ok_J5_putStringAt_47b60
set_option maxRecDepth 100000 in
theorem okC_J5_putStringAt_47b60 : q_okC m_J5_putStringAt_47b60 = true := by decide +kernel
theorem okB_J6_gc : q_okB m_J6_gc = true := q_okB_of ok_J6_gc
set_option maxRecDepth 100000 in
theorem okC_J6_gc : q_okC m_J6_gc = true := by decide +kernel
theorem okB_J6_stringSize_0f7a4 : q_okB m_J6_stringSize_0f7a4 = true := q_okB_of ok_J6_stringSize_0f7a4
set_option maxRecDepth 100000 in
theorem okC_J6_stringSize_0f7a4 : q_okC m_J6_stringSize_0f7a4 = true := by decide +kernel
theorem okB_J0_init_81219 : q_okB m_J0_init_81219 = true := q_okB_of ok_J0_init_81219
set_option maxRecDepth 100000 in
theorem okC_J0_init_81219 : q_okC m_J0_init_81219 = true := by decide +kernel
theorem okB_J0_length_8abf5 : q_okB m_J0_length_8abf5 = true := q_okB_of ok_J0_length_8abf5
set_option maxRecDepth 100000 in
theorem okC_J0_length_8abf5 : q_okC m_J0_length_8abf5 = true := by decide +kernel
theorem okB_J0_charAt_5068e : q_okB m_J0_charAt_5068e = true := q_okB_of ok_J0_charAt_5068e
set_option maxRecDepth 100000 in
theorem okC_J0_charAt_5068e : q_okC m_J0_charAt_5068e = true := by decide +kernel
theorem okB_J0_getBytes_840e7 : q_okB m_J0_getBytes_840e7 = true := q_okB_of ok_J0_getBytes_840e7
set_option maxRecDepth 100000 in
theorem okC_J0_getBytes_840e7 : q_okC m_J0_getBytes_840e7 = true := by decide +kernel
theorem okB_J0_init_db425 : q_okB m_J0_init_db425 = true := q_okB_of ok_J0_init_db425
set_option maxRecDepth 100000 in
theorem okC_J0_init_db425 : q_okC m_J0_init_db425 = true := by decide +kernel
theorem okB_J0_coder_7d493 : q_okB m_J0_coder_7d493 = true := q_okB_of ok_J0_coder_7d493
set_option maxRecDepth 100000 in
theorem okC_J0_coder_7d493 : q_okC m_J0_coder_7d493 = true := by decide +kernel
theorem okB_J0_isLatin1_aae02 : q_okB m_J0_isLatin1_aae02 = true := q_okB_of ok_J0_isLatin1_aae02
set_option maxRecDepth 100000 in
theorem okC_J0_isLatin1_aae02 : q_okC m_J0_isLatin1_aae02 = true := by decide +kernel
theorem okB_J0_checkIndex_df160 : q_okB m_J0_checkIndex_df160 = true := q_okB_of ok_J0_checkIndex_df160
set_option maxRecDepth 100000 in
theorem okC_J0_checkIndex_df160 : q_okC m_J0_checkIndex_df160 = true := by decide +kernel
theorem okB_J4_init_da8c8 : q_okB m_J4_init_da8c8 = true := q_okB_of ok_J4_init_da8c8
set_option maxRecDepth 100000 in
theorem okC_J4_init_da8c8 : q_okC m_J4_init_da8c8 = true := by decide +kernel
theorem okB_J4_append_15ec4 : q_okB m_J4_append_15ec4 = true := q_okB_of ok_J4_append_15ec4
set_option maxRecDepth 100000 in
theorem okC_J4_append_15ec4 : q_okC m_J4_append_15ec4 = true := by decide +kernel
theorem okB_J4_append_bf812 : q_okB m_J4_append_bf812 = true := q_okB_of ok_J4_append_bf812
set_option maxRecDepth 100000 in
theorem okC_J4_append_bf812 : q_okC m_J4_append_bf812 = true := by decide +kernel
theorem okB_J4_toString_0e30d : q_okB m_J4_toString_0e30d = true := q_okB_of ok_J4_toString_0e30d
set_option maxRecDepth 100000 in
theorem okC_J4_toString_0e30d : q_okC m_J4_toString_0e30d = true := by decide +kernel
theorem okB_J1_charAt_3b067 : q_okB m_J1_charAt_3b067 = true := q_okB_of ok_J1_charAt_3b067
set_option maxRecDepth 100000 in
theorem okC_J1_charAt_3b067 : q_okC m_J1_charAt_3b067 = true := by decide +kernel
theorem okB_J7_copyOf_9075b : q_okB m_J7_copyOf_9075b = true := q_okB_of ok_J7_copyOf_9075b
set_option maxRecDepth 100000 in
theorem okC_J7_copyOf_9075b : q_okC m_J7_copyOf_9075b = true := by decide +kernel
theorem okB_J7_copyOfRange_39247 : q_okB m_J7_copyOfRange_39247 = true := q_okB_of ok_J7_copyOfRange_39247
set_option maxRecDepth 100000 in
theorem okC_J7_copyOfRange_39247 : q_okC m_J7_copyOfRange_39247 = true := by decide +kernel
theorem okB_J7_copyOfRangeByte_39247 : q_okB m_J7_copyOfRangeByte_39247 = true := q_okB_of ok_J7_copyOfRangeByte_39247
set_option maxRecDepth 100000 in
theorem okC_J7_copyOfRangeByte_39247 : q_okC m_J7_copyOfRangeByte_39247 = true := by decide +kernel
theorem okB_J8_newLength_cabcc : q_okB m_J8_newLength_cabcc = true := q_okB_of ok_J8_newLength_cabcc
set_option maxRecDepth 100000 in
theorem okC_J8_newLength_cabcc : q_okC m_J8_newLength_cabcc = true := by decide +kernel
theorem okB_J3_checkIndex_8e157 : q_okB m_J3_checkIndex_8e157 = true := q_okB_of ok_J3_checkIndex_8e157
set_option maxRecDepth 100000 in
theorem okC_J3_checkIndex_8e157 : q_okC m_J3_checkIndex_8e157 = true := by decide +kernel
theorem okB_J5_newCapacity_0f7a4 : q_okB m_J5_newCapacity_0f7a4 = true := q_okB_of ok_J5_newCapacity_0f7a4
set_option maxRecDepth 100000 in
theorem okD_J5_newCapacity_0f7a4 : q_okD m_J5_newCapacity_0f7a4 [26, 27, 28, 29, 30] = true := by decide +kernel
theorem okB_J7_checkLength_df160 : q_okB m_J7_checkLength_df160 = true := q_okB_of ok_J7_checkLength_df160
set_option maxRecDepth 100000 in
theorem okD_J7_checkLength_df160 : q_okD m_J7_checkLength_df160 [3, 4, 5, 6, 7, 8, 9, 10, 11, 12, 13, 14, 15, 16] = true := by decide +kernel
theorem w_J5_init_d00df_0 {g : q_G} {xt : List ExceptionTableEntry} {d mc ms : Nat} {h0 : q_H} {mv : List Nat} {Q : q_Po} {k n : Nat} {h : q_H} {v0 : Nat} {v1 : Int32}  (hd1 : 1 ≤ d)
    (hf : q_K g m_J5_init_d00df xt d mc ms h0 mv Q k n (2, [some (.ref v0), some (.int v1)], [], h)) :
    q_K g m_J5_init_d00df xt d mc ms h0 mv Q k n (0, [some (.ref v0), some (.int v1)], [], h) :=
  q_w1_K (K0 := fun k n c => q_K g m_J5_init_d00df xt d mc ms h0 mv Q k n c) (an := []) (sw := []) (cu := [(2, [true, true]), (12, [false, false])]) 600 hd1 okB_J5_init_d00df okC_J5_init_d00df (fun _ _ _ h => h) hf
theorem w_J5_init_d00df_3 {g : q_G} {xt : List ExceptionTableEntry} {d mc ms : Nat} {h0 : q_H} {mv : List Nat} {Q : q_Po} {k n : Nat} {h : q_H} {v0 : Nat} {v1 : Int32}  (hd1 : 1 ≤ d)
    (hf : (((1 : Int32) = 0 → q_K g m_J5_init_d00df xt d mc ms h0 mv Q k n (12, [none, none], [], h)) ∧ (¬ (1 : Int32) = 0 → (∃ L1, v1 = nI L1 ∧ q_s16 L1 ∧ (k + 1 ≤ mc ∧ n + L1 ≤ ms) ∧ ((400 ≤ v0 ∧ q_sh (q_new h (1, 1, L1)) v0 = (0, 14, 0)) ∧ ((400 ≤ v0 ∧ q_sh (q_pR (q_new h (1, 1, L1)) v0 0 (some (q_nx h))) v0 = (0, 14, 0)) ∧ narrow .byte (.int (0 : Int32)) = .int (0 : Int32) ∧ (((k + 1) ≤ mc ∧ (n + L1) ≤ ms) ∧ Q (.inl none) (q_pI (q_pR (q_new h (1, 1, L1)) v0 0 (some (q_nx h))) v0 1 (0 : Int32))))))))) :
    q_K g m_J5_init_d00df xt d mc ms h0 mv Q k n (3, [some (.ref v0), some (.int v1)], [.int (1 : Int32)], h) :=
  q_w1_K (K0 := fun k n c => q_K g m_J5_init_d00df xt d mc ms h0 mv Q k n c) (an := []) (sw := []) (cu := [(2, [true, true]), (12, [false, false])]) 600 hd1 okB_J5_init_d00df okC_J5_init_d00df (fun _ _ _ h => h) hf
theorem w_J5_length_8abf5_0 {g : q_G} {xt : List ExceptionTableEntry} {d mc ms : Nat} {h0 : q_H} {mv : List Nat} {Q : q_Po} {k n : Nat} {h : q_H} {v0 : Nat}  (hd1 : 1 ≤ d)
    (hf : ((400 ≤ v0 ∧ q_sh h v0 = (0, 14, 0)) ∧ (narrow .int (.int (q_I h v0 3)) = .int (q_I h v0 3) ∧ (k ≤ mc ∧ n ≤ ms) ∧ Q (.inl (some (.int (q_I h v0 3)))) h))) :
    q_K g m_J5_length_8abf5 xt d mc ms h0 mv Q k n (0, [some (.ref v0)], [], h) :=
  q_w1_K (K0 := fun k n c => q_K g m_J5_length_8abf5 xt d mc ms h0 mv Q k n c) (an := []) (sw := []) (cu := []) 600 hd1 okB_J5_length_8abf5 okC_J5_length_8abf5 (fun _ _ _ h => h) hf
theorem w_J5_ensureCapacityInternal_d00df_0 {g : q_G} {xt : List ExceptionTableEntry} {d mc ms : Nat} {h0 : q_H} {mv : List Nat} {Q : q_Po} {k n : Nat} {h : q_H} {v0 : Nat} {v1 : Int32}  (hd1 : 1 ≤ d)
    (hf : ((400 ≤ v0 ∧ q_sh h v0 = (0, 14, 0)) ∧ ∃ b1, q_R h v0 0 = some b1 ∧ (∃ L2, (400 ≤ b1 ∧ q_sh h b1 = (1, 1, L2)) ∧ ((400 ≤ v0 ∧ q_sh h v0 = (0, 14, 0)) ∧ (((v1 - ((nI L2) >>> ((q_I h v0 1) &&& 31))) ≤ 0 → ((k ≤ mc ∧ n ≤ ms) ∧ Q (.inl none) h)) ∧ (¬ (v1 - ((nI L2) >>> ((q_I h v0 1) &&& 31))) ≤ 0 → ((400 ≤ v0 ∧ q_sh h v0 = (0, 14, 0)) ∧ ∃ b3, q_R h v0 0 = some b3 ∧ ((400 ≤ v0 ∧ q_sh h v0 = (0, 14, 0)) ∧ q_cI g m_J5_newCapacity_0f7a4 [] d mc ms [.ref v0, .int v1] h k n True (fun k5 n6 x7 h4 => ((400 ≤ v0 ∧ q_sh h4 v0 = (0, 14, 0)) ∧ (q_cR g m_J7_copyOf_9075b [] d mc ms [.ref b3, .int (x7 <<< ((q_I h4 v0 1) &&& 31))] h4 k5 n6 True (fun k9 n10 b11 h8 => ((400 ≤ v0 ∧ q_sh h8 v0 = (0, 14, 0)) ∧ ((k9 ≤ mc ∧ n10 ≤ ms) ∧ Q (.inl none) (q_pR h8 v0 0 (some b11)))))))))))))))) :
    q_K g m_J5_ensureCapacityInternal_d00df xt d mc ms h0 mv Q k n (0, [some (.ref v0), some (.int v1), none], [], h) :=
  q_w1_K (K0 := fun k n c => q_K g m_J5_ensureCapacityInternal_d00df xt d mc ms h0 mv Q k n c) (an := [(2, 1)]) (sw := []) (cu := []) 600 hd1 okB_J5_ensureCapacityInternal_d00df okC_J5_ensureCapacityInternal_d00df (fun _ _ _ h => h) hf
theorem w_J5_newCapacity_0f7a4_0 {g : q_G} {xt : List ExceptionTableEntry} {d mc ms : Nat} {h0 : q_H} {mv : List Nat} {Q : q_Po} {k n : Nat} {h : q_H} {v0 : Nat} {v1 : Int32}  (hd1 : 1 ≤ d)
    (hf : ((400 ≤ v0 ∧ q_sh h v0 = (0, 14, 0)) ∧ ∃ b1, q_R h v0 0 = some b1 ∧ (∃ L2, (400 ≤ b1 ∧ q_sh h b1 = (1, 1, L2)) ∧ ((400 ≤ v0 ∧ q_sh h v0 = (0, 14, 0)) ∧ ((400 ≤ v0 ∧ q_sh h v0 = (0, 14, 0)) ∧ (q_cI g m_J8_newLength_cabcc [] d mc ms [.int (nI L2), .int ((v1 <<< ((q_I h v0 1) &&& 31)) - (nI L2)), .int ((nI L2) + ((2 : Int32) <<< ((q_I h v0 1) &&& 31)))] h k n True (fun k4 n5 x6 h3 => ((¬ x6 = (2147483647 : Int32) → ((400 ≤ v0 ∧ q_sh h3 v0 = (0, 14, 0)) ∧ (narrow .int (.int (x6 >>> ((q_I h3 v0 1) &&& 31))) = .int (x6 >>> ((q_I h3 v0 1) &&& 31)) ∧ (k4 ≤ mc ∧ n5 ≤ ms) ∧ Q (.inl (some (.int (x6 >>> ((q_I h3 v0 1) &&& 31))))) h3))) ∧ (x6 = (2147483647 : Int32) → q_K g m_J5_newCapacity_0f7a4 xt d mc ms h0 mv Q k4 n5 (26, [none, none, none, none, none, none], [], h3)))))))))) :
    q_K g m_J5_newCapacity_0f7a4 xt d mc ms h0 mv Q k n (0, [some (.ref v0), some (.int v1), none, none, none, none], [], h) :=
  q_w1D_K (K0 := fun k n c => q_K g m_J5_newCapacity_0f7a4 xt d mc ms h0 mv Q k n c) (an := [(2, 1)]) (sw := []) (cu := [(26, [false, false, false, false, false, false]), (27, [false, false, false, false, false, false]), (28, [false, false, false, false, false, false]), (29, [false, false, false, false, false, false]), (30, [false, false, false, false, false, false])]) [26, 27, 28, 29, 30] 600 hd1 okB_J5_newCapacity_0f7a4 okD_J5_newCapacity_0f7a4 (by decide +kernel) (show (0 : Nat) ∉ ([26, 27, 28, 29, 30] : List Nat) by decide) (fun _ _ _ h => h) hf
theorem w_J5_append_cf1ce_0 {g : q_G} {xt : List ExceptionTableEntry} {d mc ms : Nat} {h0 : q_H} {mv : List Nat} {Q : q_Po} {k n : Nat} {h : q_H} {v0 : Nat} {v1 : Nat}  (hd1 : 1 ≤ d)
    (hf : ((400 ≤ v1 ∧ q_sh h v1 = (0, 13, 0)) ∧ q_cI g m_J0_length_8abf5 [] d mc ms [.ref v1] h k n True (fun k2 n3 x4 h1 => ((400 ≤ v0 ∧ q_sh h1 v0 = (0, 14, 0)) ∧ ((400 ≤ v0 ∧ q_sh h1 v0 = (0, 14, 0)) ∧ q_cV g m_J5_ensureCapacityInternal_d00df [] d mc ms [.ref v0, .int ((q_I h1 v0 3) + x4)] h1 k2 n3 True (fun k6 n7 h5 => ((400 ≤ v0 ∧ q_sh h5 v0 = (0, 14, 0)) ∧ ((400 ≤ v0 ∧ q_sh h5 v0 = (0, 14, 0)) ∧ q_cV g m_J5_putStringAt_47b60 [] d mc ms [.ref v0, .int (q_I h5 v0 3), .ref v1] h5 k6 n7 True (fun k9 n10 h8 => ((400 ≤ v0 ∧ q_sh h8 v0 = (0, 14, 0)) ∧ ((400 ≤ v0 ∧ q_sh h8 v0 = (0, 14, 0)) ∧ ((k9 ≤ mc ∧ n10 ≤ ms) ∧ Q (.inl (some (.ref v0))) (q_pI h8 v0 3 ((q_I h8 v0 3) + x4)))))))))))))) :
    q_K g m_J5_append_cf1ce xt d mc ms h0 mv Q k n (0, [some (.ref v0), some (.ref v1), none], [], h) :=
  q_w1_K (K0 := fun k n c => q_K g m_J5_append_cf1ce xt d mc ms h0 mv Q k n c) (an := []) (sw := []) (cu := []) 600 hd1 okB_J5_append_cf1ce okC_J5_append_cf1ce (fun _ _ _ h => h) hf
theorem w_J5_append_cf1ce_C_0 {g : q_G} {xt : List ExceptionTableEntry} {d mc ms : Nat} {h0 : q_H} {mv : List Nat} {Q : q_Po} {k n : Nat} {h : q_H} {v0 : Nat} {v1 : Nat}  (hd1 : 1 ≤ d)
    (hf : (true = true ∧ (q_isStr v1 = true ∧ v1 < 300) ∧ q_cI g m_J0_length_8abf5 [] d mc ms [.ref v1] h k n True (fun k2 n3 x4 h1 => ((400 ≤ v0 ∧ q_sh h1 v0 = (0, 14, 0)) ∧ ((400 ≤ v0 ∧ q_sh h1 v0 = (0, 14, 0)) ∧ q_cV g m_J5_ensureCapacityInternal_d00df [] d mc ms [.ref v0, .int ((q_I h1 v0 3) + x4)] h1 k2 n3 True (fun k6 n7 h5 => ((400 ≤ v0 ∧ q_sh h5 v0 = (0, 14, 0)) ∧ ((400 ≤ v0 ∧ q_sh h5 v0 = (0, 14, 0)) ∧ q_cV g m_J5_putStringAt_47b60 [] d mc ms [.ref v0, .int (q_I h5 v0 3), .ref v1] h5 k6 n7 True (fun k9 n10 h8 => ((400 ≤ v0 ∧ q_sh h8 v0 = (0, 14, 0)) ∧ ((400 ≤ v0 ∧ q_sh h8 v0 = (0, 14, 0)) ∧ ((k9 ≤ mc ∧ n10 ≤ ms) ∧ Q (.inl (some (.ref v0))) (q_pI h8 v0 3 ((q_I h8 v0 3) + x4)))))))))))))) :
    q_K g m_J5_append_cf1ce xt d mc ms h0 mv Q k n (0, [some (.ref v0), some (.ref v1), none], [], h) :=
  q_w1_K (K0 := fun k n c => q_K g m_J5_append_cf1ce xt d mc ms h0 mv Q k n c) (an := [(6, 2)]) (sw := []) (cu := []) 600 hd1 okB_J5_append_cf1ce okC_J5_append_cf1ce (fun _ _ _ h => h) hf
theorem w_J5_append_c97b9_0 {g : q_G} {xt : List ExceptionTableEntry} {d mc ms : Nat} {h0 : q_H} {mv : List Nat} {Q : q_Po} {k n : Nat} {h : q_H} {v0 : Nat} {v1 : Int32}  (hd1 : 1 ≤ d)
    (hf : ((400 ≤ v0 ∧ q_sh h v0 = (0, 14, 0)) ∧ (q_cI g m_J6_stringSize_0f7a4 [] d mc ms [.int v1] h k n True (fun k2 n3 x4 h1 => ((400 ≤ v0 ∧ q_sh h1 v0 = (0, 14, 0)) ∧ q_cV g m_J5_ensureCapacityInternal_d00df [] d mc ms [.ref v0, .int ((q_I h v0 3) + x4)] h1 k2 n3 True (fun k6 n7 h5 => ((400 ≤ v0 ∧ q_sh h5 v0 = (0, 14, 0)) ∧ q_cI g m_J5_isLatin1_aae02 [] d mc ms [.ref v0] h5 k6 n7 True (fun k9 n10 x11 h8 => ((x11 = 0 → q_K g m_J5_append_c97b9 xt d mc ms h0 mv Q k9 n10 (21, [none, none, none, none], [], h8)) ∧ (¬ x11 = 0 → ((400 ≤ v0 ∧ q_sh h8 v0 = (0, 14, 0)) ∧ ∃ b12, q_R h8 v0 0 = some b12 ∧ (q_cI g m_J6_getChars_ba4f3 [] d mc ms [.int v1, .int ((q_I h v0 3) + x4), .ref b12] h8 k9 n10 True (fun k14 n15 x16 h13 => ((400 ≤ v0 ∧ q_sh h13 v0 = (0, 14, 0)) ∧ ((k14 ≤ mc ∧ n15 ≤ ms) ∧ Q (.inl (some (.ref v0))) (q_pI h13 v0 3 ((q_I h v0 3) + x4))))))))))))))))) :
    q_K g m_J5_append_c97b9 xt d mc ms h0 mv Q k n (0, [some (.ref v0), some (.int v1), none, none], [], h) :=
  q_w1_K (K0 := fun k n c => q_K g m_J5_append_c97b9 xt d mc ms h0 mv Q k n c) (an := []) (sw := []) (cu := [(21, [false, false, false, false])]) 600 hd1 okB_J5_append_c97b9 okC_J5_append_c97b9 (fun _ _ _ h => h) hf
theorem w_J5_getValue_6d5f1_0 {g : q_G} {xt : List ExceptionTableEntry} {d mc ms : Nat} {h0 : q_H} {mv : List Nat} {Q : q_Po} {k n : Nat} {h : q_H} {v0 : Nat}  (hd1 : 1 ≤ d)
    (hf : ((400 ≤ v0 ∧ q_sh h v0 = (0, 14, 0)) ∧ ∃ b1, q_R h v0 0 = some b1 ∧ ((k ≤ mc ∧ n ≤ ms) ∧ Q (.inl (some (.ref b1))) h))) :
    q_K g m_J5_getValue_6d5f1 xt d mc ms h0 mv Q k n (0, [some (.ref v0)], [], h) :=
  q_w1_K (K0 := fun k n c => q_K g m_J5_getValue_6d5f1 xt d mc ms h0 mv Q k n c) (an := []) (sw := []) (cu := []) 600 hd1 okB_J5_getValue_6d5f1 okC_J5_getValue_6d5f1 (fun _ _ _ h => h) hf
theorem w_J5_isLatin1_aae02_1 {g : q_G} {xt : List ExceptionTableEntry} {d mc ms : Nat} {h0 : q_H} {mv : List Nat} {Q : q_Po} {k n : Nat} {h : q_H} {v0 : Nat}  (hd1 : 1 ≤ d)
    (hf : (((1 : Int32) = 0 → q_K g m_J5_isLatin1_aae02 xt d mc ms h0 mv Q k n (7, [none], [], h)) ∧ (¬ (1 : Int32) = 0 → ((400 ≤ v0 ∧ q_sh h v0 = (0, 14, 0)) ∧ ((¬ (q_I h v0 1) = 0 → q_K g m_J5_isLatin1_aae02 xt d mc ms h0 mv Q k n (7, [none], [], h)) ∧ ((q_I h v0 1) = 0 → (narrow .boolean (.int (1 : Int32)) = .int (1 : Int32) ∧ (k ≤ mc ∧ n ≤ ms) ∧ Q (.inl (some (.int (1 : Int32)))) h))))))) :
    q_K g m_J5_isLatin1_aae02 xt d mc ms h0 mv Q k n (1, [some (.ref v0)], [.int (1 : Int32)], h) :=
  q_w1_K (K0 := fun k n c => q_K g m_J5_isLatin1_aae02 xt d mc ms h0 mv Q k n c) (an := []) (sw := []) (cu := [(0, [true]), (7, [false])]) 600 hd1 okB_J5_isLatin1_aae02 okC_J5_isLatin1_aae02 (fun _ _ _ h => h) hf
theorem w_J5_inflateIfNeededFor_a7421_1 {g : q_G} {xt : List ExceptionTableEntry} {d mc ms : Nat} {h0 : q_H} {mv : List Nat} {Q : q_Po} {k n : Nat} {h : q_H} {v0 : Nat} {v1 : Nat}  (hd1 : 1 ≤ d)
    (hf : (((1 : Int32) = 0 → ((k ≤ mc ∧ n ≤ ms) ∧ Q (.inl none) h)) ∧ (¬ (1 : Int32) = 0 → ((400 ≤ v0 ∧ q_sh h v0 = (0, 14, 0)) ∧ ((400 ≤ v1 ∧ q_sh h v1 = (0, 13, 0)) ∧ q_cI g m_J0_coder_7d493 [] d mc ms [.ref v1] h k n True (fun k2 n3 x4 h1 => (((q_I h v0 1) = x4 → ((k2 ≤ mc ∧ n3 ≤ ms) ∧ Q (.inl none) h1)) ∧ (¬ (q_I h v0 1) = x4 → q_K g m_J5_inflateIfNeededFor_a7421 xt d mc ms h0 mv Q k2 n3 (7, [none, none], [], h1))))))))) :
    q_K g m_J5_inflateIfNeededFor_a7421 xt d mc ms h0 mv Q k n (1, [some (.ref v0), some (.ref v1)], [.int (1 : Int32)], h) :=
  q_w1_K (K0 := fun k n c => q_K g m_J5_inflateIfNeededFor_a7421 xt d mc ms h0 mv Q k n c) (an := []) (sw := []) (cu := [(0, [true, true]), (7, [false, false])]) 600 hd1 okB_J5_inflateIfNeededFor_a7421 okC_J5_inflateIfNeededFor_a7421 (fun _ _ _ h => h) hf
theorem w_J5_inflateIfNeededFor_a7421_C_1 {g : q_G} {xt : List ExceptionTableEntry} {d mc ms : Nat} {h0 : q_H} {mv : List Nat} {Q : q_Po} {k n : Nat} {h : q_H} {v0 : Nat} {v1 : Nat}  (hd1 : 1 ≤ d)
    (hf : (((1 : Int32) = 0 → ((k ≤ mc ∧ n ≤ ms) ∧ Q (.inl none) h)) ∧ (¬ (1 : Int32) = 0 → ((400 ≤ v0 ∧ q_sh h v0 = (0, 14, 0)) ∧ (true = true ∧ (q_isStr v1 = true ∧ v1 < 300) ∧ q_cI g m_J0_coder_7d493 [] d mc ms [.ref v1] h k n True (fun k2 n3 x4 h1 => (((q_I h v0 1) = x4 → ((k2 ≤ mc ∧ n3 ≤ ms) ∧ Q (.inl none) h1)) ∧ (¬ (q_I h v0 1) = x4 → q_K g m_J5_inflateIfNeededFor_a7421 xt d mc ms h0 mv Q k2 n3 (7, [none, none], [], h1))))))))) :
    q_K g m_J5_inflateIfNeededFor_a7421 xt d mc ms h0 mv Q k n (1, [some (.ref v0), some (.ref v1)], [.int (1 : Int32)], h) :=
  q_w1_K (K0 := fun k n c => q_K g m_J5_inflateIfNeededFor_a7421 xt d mc ms h0 mv Q k n c) (an := [(5, 2)]) (sw := []) (cu := [(0, [true, true]), (7, [false, false])]) 600 hd1 okB_J5_inflateIfNeededFor_a7421 okC_J5_inflateIfNeededFor_a7421 (fun _ _ _ h => h) hf
theorem w_J5_putStringAt_47b60_0 {g : q_G} {xt : List ExceptionTableEntry} {d mc ms : Nat} {h0 : q_H} {mv : List Nat} {Q : q_Po} {k n : Nat} {h : q_H} {v0 : Nat} {v1 : Int32} {v2 : Nat}  (hd1 : 1 ≤ d)
    (hf : ((400 ≤ v0 ∧ q_sh h v0 = (0, 14, 0)) ∧ q_cV g m_J5_inflateIfNeededFor_a7421 [] d mc ms [.ref v0, .ref v2] h k n True (fun k2 n3 h1 => ((400 ≤ v0 ∧ q_sh h1 v0 = (0, 14, 0)) ∧ ∃ b4, q_R h1 v0 0 = some b4 ∧ ((400 ≤ v0 ∧ q_sh h1 v0 = (0, 14, 0)) ∧ ((400 ≤ v2 ∧ q_sh h1 v2 = (0, 13, 0)) ∧ q_cV g m_J0_getBytes_840e7 [] d mc ms [.ref v2, .ref b4, .int v1, .int (q_I h1 v0 1)] h1 k2 n3 True (fun k6 n7 h5 => ((k6 ≤ mc ∧ n7 ≤ ms) ∧ Q (.inl none) h5)))))))) :
    q_K g m_J5_putStringAt_47b60 xt d mc ms h0 mv Q k n (0, [some (.ref v0), some (.int v1), some (.ref v2)], [], h) :=
  q_w1_K (K0 := fun k n c => q_K g m_J5_putStringAt_47b60 xt d mc ms h0 mv Q k n c) (an := []) (sw := []) (cu := []) 600 hd1 okB_J5_putStringAt_47b60 okC_J5_putStringAt_47b60 (fun _ _ _ h => h) hf
theorem w_J5_putStringAt_47b60_C_0 {g : q_G} {xt : List ExceptionTableEntry} {d mc ms : Nat} {h0 : q_H} {mv : List Nat} {Q : q_Po} {k n : Nat} {h : q_H} {v0 : Nat} {v1 : Int32} {v2 : Nat}  (hd1 : 1 ≤ d)
    (hf : ((400 ≤ v0 ∧ q_sh h v0 = (0, 14, 0)) ∧ q_cV g m_J5_inflateIfNeededFor_a7421 [] d mc ms [.ref v0, .ref v2] h k n True (fun k2 n3 h1 => ((400 ≤ v0 ∧ q_sh h1 v0 = (0, 14, 0)) ∧ ∃ b4, q_R h1 v0 0 = some b4 ∧ ((400 ≤ v0 ∧ q_sh h1 v0 = (0, 14, 0)) ∧ (true = true ∧ (q_isStr v2 = true ∧ v2 < 300) ∧ q_cV g m_J0_getBytes_840e7 [] d mc ms [.ref v2, .ref b4, .int v1, .int (q_I h1 v0 1)] h1 k2 n3 True (fun k6 n7 h5 => ((k6 ≤ mc ∧ n7 ≤ ms) ∧ Q (.inl none) h5)))))))) :
    q_K g m_J5_putStringAt_47b60 xt d mc ms h0 mv Q k n (0, [some (.ref v0), some (.int v1), some (.ref v2)], [], h) :=
  q_w1_K (K0 := fun k n c => q_K g m_J5_putStringAt_47b60 xt d mc ms h0 mv Q k n c) (an := [(9, 2)]) (sw := []) (cu := []) 600 hd1 okB_J5_putStringAt_47b60 okC_J5_putStringAt_47b60 (fun _ _ _ h => h) hf
theorem w_J6_gc_0 {g : q_G} {xt : List ExceptionTableEntry} {d mc ms : Nat} {h0 : q_H} {mv : List Nat} {Q : q_Po} {k n : Nat} {h : q_H} {v0 : Int32} {v1 : Int32} {v2 : Nat}  (hd1 : 1 ≤ d)
    (hf : ((0 ≤ v0 → ((¬ (0 : Int32) = 0 → q_K g m_J6_gc xt d mc ms h0 mv Q k n (13, [some (.int v0), none, some (.ref v2), none, none, some (.int v1), some (.int (0 : Int32))], [], h)) ∧ ((0 : Int32) = 0 → q_K g m_J6_gc xt d mc ms h0 mv Q k n (13, [some (.int (-v0)), none, some (.ref v2), none, none, some (.int v1), some (.int (0 : Int32))], [], h)))) ∧ (¬ 0 ≤ v0 → q_K g m_J6_gc xt d mc ms h0 mv Q k n (4, [none, none, none, none, none, none, none], [], h)))) :
    q_K g m_J6_gc xt d mc ms h0 mv Q k n (0, [some (.int v0), some (.int v1), some (.ref v2), none, none, none, none], [], h) :=
  q_w1_K (K0 := fun k n c => q_K g m_J6_gc xt d mc ms h0 mv Q k n c) (an := []) (sw := []) (cu := [(4, [false, false, false, false, false, false, false]), (13, [true, false, true, false, false, true, true]), (16, [false, false, false, false, false, false, false]), (64, [false, false, false, false, false, false, false])]) 600 hd1 okB_J6_gc okC_J6_gc (fun _ _ _ h => h) hf
theorem w_J6_gc_13 {g : q_G} {xt : List ExceptionTableEntry} {d mc ms : Nat} {h0 : q_H} {mv : List Nat} {Q : q_Po} {k n : Nat} {h : q_H} {v0 : Int32} {v2 : Nat} {v5 : Int32} {v6 : Int32}  (hd1 : 1 ≤ d)
    (hf : (((-100 : Int32) < v0 → (∃ j1, 51 = 51 ∧ (-v0) = nI j1 ∧ j1 < 100 ∧ (∃ j2 L3, (v5 + -1) = nI j2 ∧ (400 ≤ v2 ∧ q_sh h v2 = (1, 1, L3) ∧ j2 < L3 ∧ q_s16 L3) ∧ (((-9 : Int32) ≤ v0 → ((v6 = 0 → (narrow .int (.int (v5 + -1)) = .int (v5 + -1) ∧ (k ≤ mc ∧ n ≤ ms) ∧ Q (.inl (some (.int (v5 + -1)))) (q_pI h v2 j2 ((nI (48 + j1 % 10)).toInt8.toInt32)))) ∧ (¬ v6 = 0 → q_K g m_J6_gc xt d mc ms h0 mv Q k n (64, [none, none, none, none, none, none, none], [], q_pI h v2 j2 ((nI (48 + j1 % 10)).toInt8.toInt32))))) ∧ (¬ (-9 : Int32) ≤ v0 → (∃ j4, 53 = 53 ∧ (-v0) = nI j4 ∧ j4 < 100 ∧ (∃ j5 L6, ((v5 + -1) + -1) = nI j5 ∧ (400 ≤ v2 ∧ q_sh (q_pI h v2 j2 ((nI (48 + j1 % 10)).toInt8.toInt32)) v2 = (1, 1, L6) ∧ j5 < L6 ∧ q_s16 L6) ∧ ((v6 = 0 → (narrow .int (.int ((v5 + -1) + -1)) = .int ((v5 + -1) + -1) ∧ (k ≤ mc ∧ n ≤ ms) ∧ Q (.inl (some (.int ((v5 + -1) + -1)))) (q_pI (q_pI h v2 j2 ((nI (48 + j1 % 10)).toInt8.toInt32)) v2 j5 ((nI (48 + j4 / 10)).toInt8.toInt32)))) ∧ (¬ v6 = 0 → q_K g m_J6_gc xt d mc ms h0 mv Q k n (64, [none, none, none, none, none, none, none], [], q_pI (q_pI h v2 j2 ((nI (48 + j1 % 10)).toInt8.toInt32)) v2 j5 ((nI (48 + j4 / 10)).toInt8.toInt32))))))))))) ∧ (¬ (-100 : Int32) < v0 → q_K g m_J6_gc xt d mc ms h0 mv Q k n (16, [none, none, none, none, none, none, none], [], h)))) :
    q_K g m_J6_gc xt d mc ms h0 mv Q k n (13, [some (.int v0), none, some (.ref v2), none, none, some (.int v5), some (.int v6)], [], h) :=
  q_w1_K (K0 := fun k n c => q_K g m_J6_gc xt d mc ms h0 mv Q k n c) (an := [(49, 51), (50, 1), (60, 53), (61, 1)]) (sw := []) (cu := [(4, [false, false, false, false, false, false, false]), (13, [true, false, true, false, false, true, true]), (16, [false, false, false, false, false, false, false]), (64, [false, false, false, false, false, false, false])]) 600 hd1 okB_J6_gc okC_J6_gc (fun _ _ _ h => h) hf
theorem w_J6_stringSize_0f7a4_0 {g : q_G} {xt : List ExceptionTableEntry} {d mc ms : Nat} {h0 : q_H} {mv : List Nat} {Q : q_Po} {k n : Nat} {h : q_H} {v0 : Int32}  (hd1 : 1 ≤ d)
    (hf : ((v0 < 0 → q_K g m_J6_stringSize_0f7a4 xt d mc ms h0 mv Q k n (13, [some (.int v0), some (.int (1 : Int32)), some (.int (-10 : Int32)), some (.int (1 : Int32))], [], h)) ∧ (¬ v0 < 0 → q_K g m_J6_stringSize_0f7a4 xt d mc ms h0 mv Q k n (13, [some (.int (-v0)), some (.int (0 : Int32)), some (.int (-10 : Int32)), some (.int (1 : Int32))], [], h)))) :
    q_K g m_J6_stringSize_0f7a4 xt d mc ms h0 mv Q k n (0, [some (.int v0), none, none, none], [], h) :=
  q_w1_K (K0 := fun k n c => q_K g m_J6_stringSize_0f7a4 xt d mc ms h0 mv Q k n c) (an := []) (sw := []) (cu := [(13, [true, true, true, true]), (29, [false, false, false, false])]) 600 hd1 okB_J6_stringSize_0f7a4 okC_J6_stringSize_0f7a4 (fun _ _ _ h => h) hf
theorem w_J6_stringSize_0f7a4_13 {g : q_G} {xt : List ExceptionTableEntry} {d mc ms : Nat} {h0 : q_H} {mv : List Nat} {Q : q_Po} {k n : Nat} {h : q_H} {v0 : Int32} {v1 : Int32} {v2 : Int32} {v3 : Int32}  (hd1 : 1 ≤ d)
    (hf : (((10 : Int32) ≤ v3 → q_K g m_J6_stringSize_0f7a4 xt d mc ms h0 mv Q k n (29, [none, none, none, none], [], h)) ∧ (¬ (10 : Int32) ≤ v3 → ((v0 ≤ v2 → q_K g m_J6_stringSize_0f7a4 xt d mc ms h0 mv Q k n (13, [some (.int v0), some (.int v1), some (.int ((10 : Int32) * v2)), some (.int (v3 + 1))], [], h)) ∧ (¬ v0 ≤ v2 → (narrow .int (.int (v3 + v1)) = .int (v3 + v1) ∧ (k ≤ mc ∧ n ≤ ms) ∧ Q (.inl (some (.int (v3 + v1)))) h)))))) :
    q_K g m_J6_stringSize_0f7a4 xt d mc ms h0 mv Q k n (13, [some (.int v0), some (.int v1), some (.int v2), some (.int v3)], [], h) :=
  q_w1_K (K0 := fun k n c => q_K g m_J6_stringSize_0f7a4 xt d mc ms h0 mv Q k n c) (an := []) (sw := []) (cu := [(13, [true, true, true, true]), (29, [false, false, false, false])]) 600 hd1 okB_J6_stringSize_0f7a4 okC_J6_stringSize_0f7a4 (fun _ _ _ h => h) hf
theorem w_J0_init_81219_0 {g : q_G} {xt : List ExceptionTableEntry} {d mc ms : Nat} {h0 : q_H} {mv : List Nat} {Q : q_Po} {k n : Nat} {h : q_H} {v0 : Nat} {v1 : Nat}  (hd1 : 1 ≤ d)
    (hf : (q_cV g m_J0_init_db425 [] d mc ms [.ref v0, .ref v1, .null] h k n True (fun k2 n3 h1 => ((k2 ≤ mc ∧ n3 ≤ ms) ∧ Q (.inl none) h1)))) :
    q_K g m_J0_init_81219 xt d mc ms h0 mv Q k n (0, [some (.ref v0), some (.ref v1)], [], h) :=
  q_w1_K (K0 := fun k n c => q_K g m_J0_init_81219 xt d mc ms h0 mv Q k n c) (an := []) (sw := []) (cu := []) 600 hd1 okB_J0_init_81219 okC_J0_init_81219 (fun _ _ _ h => h) hf
theorem w_J0_length_8abf5_0 {g : q_G} {xt : List ExceptionTableEntry} {d mc ms : Nat} {h0 : q_H} {mv : List Nat} {Q : q_Po} {k n : Nat} {h : q_H} {v0 : Nat}  (hd1 : 1 ≤ d)
    (hf : ((400 ≤ v0 ∧ q_sh h v0 = (0, 13, 0)) ∧ ∃ b1, q_R h v0 0 = some b1 ∧ (∃ L2, (400 ≤ b1 ∧ q_sh h b1 = (1, 1, L2)) ∧ ((400 ≤ v0 ∧ q_sh h v0 = (0, 13, 0)) ∧ q_cI g m_J0_coder_7d493 [] d mc ms [.ref v0] h k n True (fun k4 n5 x6 h3 => (narrow .int (.int ((nI L2) >>> (x6 &&& 31))) = .int ((nI L2) >>> (x6 &&& 31)) ∧ (k4 ≤ mc ∧ n5 ≤ ms) ∧ Q (.inl (some (.int ((nI L2) >>> (x6 &&& 31))))) h3)))))) :
    q_K g m_J0_length_8abf5 xt d mc ms h0 mv Q k n (0, [some (.ref v0)], [], h) :=
  q_w1_K (K0 := fun k n c => q_K g m_J0_length_8abf5 xt d mc ms h0 mv Q k n c) (an := [(2, 1)]) (sw := []) (cu := []) 600 hd1 okB_J0_length_8abf5 okC_J0_length_8abf5 (fun _ _ _ h => h) hf
theorem w_J0_length_8abf5_C_0 {g : q_G} {xt : List ExceptionTableEntry} {d mc ms : Nat} {h0 : q_H} {mv : List Nat} {Q : q_Po} {k n : Nat} {h : q_H} {v0 : Nat}  (hd1 : 1 ≤ d)
    (hf : ((q_isStr v0 = true ∧ v0 < 300) ∧ true = true ∧ (∃ b1, (100 + v0) = 100 + b1 ∧ (q_isStr b1 = true ∧ b1 < 300) ∧ (true = true ∧ (q_isStr v0 = true ∧ v0 < 300) ∧ q_cI g m_J0_coder_7d493 [] d mc ms [.ref v0] h k n True (fun k3 n4 x5 h2 => (narrow .int (.int ((nI (q_str b1).length) >>> (x5 &&& 31))) = .int ((nI (q_str b1).length) >>> (x5 &&& 31)) ∧ (k3 ≤ mc ∧ n4 ≤ ms) ∧ Q (.inl (some (.int ((nI (q_str b1).length) >>> (x5 &&& 31))))) h2)))))) :
    q_K g m_J0_length_8abf5 xt d mc ms h0 mv Q k n (0, [some (.ref v0)], [], h) :=
  q_w1_K (K0 := fun k n c => q_K g m_J0_length_8abf5 xt d mc ms h0 mv Q k n c) (an := [(1, 2), (2, 9), (4, 2)]) (sw := []) (cu := []) 600 hd1 okB_J0_length_8abf5 okC_J0_length_8abf5 (fun _ _ _ h => h) hf
theorem w_J0_charAt_5068e_0 {g : q_G} {xt : List ExceptionTableEntry} {d mc ms : Nat} {h0 : q_H} {mv : List Nat} {Q : q_Po} {k n : Nat} {h : q_H} {v0 : Nat} {v1 : Int32}  (hd1 : 1 ≤ d)
    (hf : ((400 ≤ v0 ∧ q_sh h v0 = (0, 13, 0)) ∧ q_cI g m_J0_isLatin1_aae02 [] d mc ms [.ref v0] h k n True (fun k2 n3 x4 h1 => ((x4 = 0 → q_K g m_J0_charAt_5068e xt d mc ms h0 mv Q k2 n3 (8, [none, none], [], h1)) ∧ (¬ x4 = 0 → ((400 ≤ v0 ∧ q_sh h1 v0 = (0, 13, 0)) ∧ ∃ b5, q_R h1 v0 0 = some b5 ∧ (q_cI g m_J1_charAt_3b067 [] d mc ms [.ref b5, .int v1] h1 k2 n3 True (fun k7 n8 x9 h6 => (narrow .char (.int x9) = .int x9 ∧ (k7 ≤ mc ∧ n8 ≤ ms) ∧ Q (.inl (some (.int x9))) h6))))))))) :
    q_K g m_J0_charAt_5068e xt d mc ms h0 mv Q k n (0, [some (.ref v0), some (.int v1)], [], h) :=
  q_w1_K (K0 := fun k n c => q_K g m_J0_charAt_5068e xt d mc ms h0 mv Q k n c) (an := []) (sw := []) (cu := [(8, [false, false])]) 600 hd1 okB_J0_charAt_5068e okC_J0_charAt_5068e (fun _ _ _ h => h) hf
theorem w_J0_getBytes_840e7_0 {g : q_G} {xt : List ExceptionTableEntry} {d mc ms : Nat} {h0 : q_H} {mv : List Nat} {Q : q_Po} {k n : Nat} {h : q_H} {v0 : Nat} {v1 : Nat} {v2 : Int32} {v3 : Int32}  (hd1 : 1 ≤ d)
    (hf : ((400 ≤ v0 ∧ q_sh h v0 = (0, 13, 0)) ∧ q_cI g m_J0_coder_7d493 [] d mc ms [.ref v0] h k n True (fun k2 n3 x4 h1 => ((¬ x4 = v3 → q_K g m_J0_getBytes_840e7 xt d mc ms h0 mv Q k2 n3 (16, [none, none, none, none], [], h1)) ∧ (x4 = v3 → ((400 ≤ v0 ∧ q_sh h1 v0 = (0, 13, 0)) ∧ ∃ b5, q_R h1 v0 0 = some b5 ∧ ((400 ≤ v0 ∧ q_sh h1 v0 = (0, 13, 0)) ∧ ∃ b6, q_R h1 v0 0 = some b6 ∧ (∃ L7, (400 ≤ b6 ∧ q_sh h1 b6 = (1, 1, L7)) ∧ q_K g m_J0_getBytes_840e7 xt d mc ms h0 mv Q k2 n3 (14, [none, none, none, none], [.int (nI L7), .int (v2 <<< (v3 &&& 31)), .ref v1, .int (0 : Int32), .ref b5], h1))))))))) :
    q_K g m_J0_getBytes_840e7 xt d mc ms h0 mv Q k n (0, [some (.ref v0), some (.ref v1), some (.int v2), some (.int v3)], [], h) :=
  q_w1_K (K0 := fun k n c => q_K g m_J0_getBytes_840e7 xt d mc ms h0 mv Q k n c) (an := [(13, 1)]) (sw := []) (cu := [(14, [false, false, false, false]), (16, [false, false, false, false])]) 600 hd1 okB_J0_getBytes_840e7 okC_J0_getBytes_840e7 (fun _ _ _ h => h) hf
theorem w_J0_getBytes_840e7_15 {g : q_G} {xt : List ExceptionTableEntry} {d mc ms : Nat} {h0 : q_H} {mv : List Nat} {Q : q_Po} {k n : Nat} {h : q_H}   (hd1 : 1 ≤ d)
    (hf : ((k ≤ mc ∧ n ≤ ms) ∧ Q (.inl none) h)) :
    q_K g m_J0_getBytes_840e7 xt d mc ms h0 mv Q k n (15, [none, none, none, none], [], h) :=
  q_w1_K (K0 := fun k n c => q_K g m_J0_getBytes_840e7 xt d mc ms h0 mv Q k n c) (an := []) (sw := []) (cu := [(14, [false, false, false, false]), (16, [false, false, false, false])]) 600 hd1 okB_J0_getBytes_840e7 okC_J0_getBytes_840e7 (fun _ _ _ h => h) hf
theorem w_J0_getBytes_840e7_C_0 {g : q_G} {xt : List ExceptionTableEntry} {d mc ms : Nat} {h0 : q_H} {mv : List Nat} {Q : q_Po} {k n : Nat} {h : q_H} {v0 : Nat} {v1 : Nat} {v2 : Int32} {v3 : Int32}  (hd1 : 1 ≤ d)
    (hf : (true = true ∧ (q_isStr v0 = true ∧ v0 < 300) ∧ q_cI g m_J0_coder_7d493 [] d mc ms [.ref v0] h k n True (fun k2 n3 x4 h1 => ((¬ x4 = v3 → q_K g m_J0_getBytes_840e7 xt d mc ms h0 mv Q k2 n3 (16, [none, none, none, none], [], h1)) ∧ (x4 = v3 → ((q_isStr v0 = true ∧ v0 < 300) ∧ true = true ∧ ((q_isStr v0 = true ∧ v0 < 300) ∧ true = true ∧ (∃ b5, (100 + v0) = 100 + b5 ∧ (q_isStr b5 = true ∧ b5 < 300) ∧ q_K g m_J0_getBytes_840e7 xt d mc ms h0 mv Q k2 n3 (14, [none, none, none, none], [.int (nI (q_str b5).length), .int (v2 <<< (v3 &&& 31)), .ref v1, .int (0 : Int32), .ref (100 + v0)], h1))))))))) :
    q_K g m_J0_getBytes_840e7 xt d mc ms h0 mv Q k n (0, [some (.ref v0), some (.ref v1), some (.int v2), some (.int v3)], [], h) :=
  q_w1_K (K0 := fun k n c => q_K g m_J0_getBytes_840e7 xt d mc ms h0 mv Q k n c) (an := [(1, 2), (5, 2), (12, 2), (13, 9)]) (sw := []) (cu := [(14, [false, false, false, false]), (16, [false, false, false, false])]) 600 hd1 okB_J0_getBytes_840e7 okC_J0_getBytes_840e7 (fun _ _ _ h => h) hf
theorem w_J0_init_db425_0 {g : q_G} {xt : List ExceptionTableEntry} {d mc ms : Nat} {h0 : q_H} {mv : List Nat} {Q : q_Po} {k n : Nat} {h : q_H} {v0 : Nat} {v1 : Nat}  (hd1 : 1 ≤ d)
    (hf : ((400 ≤ v1 ∧ q_sh h v1 = (0, 14, 0)) ∧ q_cR g m_J5_getValue_6d5f1 [] d mc ms [.ref v1] h k n True (fun k2 n3 b4 h1 => ((400 ≤ v1 ∧ q_sh h1 v1 = (0, 14, 0)) ∧ q_cI g m_J4_length_8abf5 [] d mc ms [.ref v1] h1 k2 n3 True (fun k6 n7 x8 h5 => ((400 ≤ v1 ∧ q_sh h5 v1 = (0, 14, 0)) ∧ q_cI g m_J5_isLatin1_aae02 [] d mc ms [.ref v1] h5 k6 n7 True (fun k10 n11 x12 h9 => ((x12 = 0 → q_K g m_J0_init_db425 xt d mc ms h0 mv Q k10 n11 (21, [none, none, none, none, none], [], h9)) ∧ (¬ x12 = 0 → ((400 ≤ v0 ∧ q_sh h9 v0 = (0, 13, 0)) ∧ narrow .byte (.int (0 : Int32)) = .int (0 : Int32) ∧ (q_cR g m_J7_copyOfRange_39247 [] d mc ms [.ref b4, .int (0 : Int32), .int x8] (q_pI h9 v0 1 (0 : Int32)) k10 n11 True (fun k14 n15 b16 h13 => ((400 ≤ v0 ∧ q_sh h13 v0 = (0, 13, 0)) ∧ ((k14 ≤ mc ∧ n15 ≤ ms) ∧ Q (.inl none) (q_pR h13 v0 0 (some b16)))))))))))))))) :
    q_K g m_J0_init_db425 xt d mc ms h0 mv Q k n (0, [some (.ref v0), some (.ref v1), some (.null), none, none], [], h) :=
  q_w1_K (K0 := fun k n c => q_K g m_J0_init_db425 xt d mc ms h0 mv Q k n c) (an := []) (sw := []) (cu := [(21, [false, false, false, false, false])]) 600 hd1 okB_J0_init_db425 okC_J0_init_db425 (fun _ _ _ h => h) hf
theorem w_J0_coder_7d493_1 {g : q_G} {xt : List ExceptionTableEntry} {d mc ms : Nat} {h0 : q_H} {mv : List Nat} {Q : q_Po} {k n : Nat} {h : q_H} {v0 : Nat}  (hd1 : 1 ≤ d)
    (hf : (((1 : Int32) = 0 → q_K g m_J0_coder_7d493 xt d mc ms h0 mv Q k n (5, [none], [], h)) ∧ (¬ (1 : Int32) = 0 → ((400 ≤ v0 ∧ q_sh h v0 = (0, 13, 0)) ∧ (narrow .byte (.int (q_I h v0 1)) = .int (q_I h v0 1) ∧ (k ≤ mc ∧ n ≤ ms) ∧ Q (.inl (some (.int (q_I h v0 1)))) h))))) :
    q_K g m_J0_coder_7d493 xt d mc ms h0 mv Q k n (1, [some (.ref v0)], [.int (1 : Int32)], h) :=
  q_w1_K (K0 := fun k n c => q_K g m_J0_coder_7d493 xt d mc ms h0 mv Q k n c) (an := []) (sw := []) (cu := [(0, [true]), (5, [false])]) 600 hd1 okB_J0_coder_7d493 okC_J0_coder_7d493 (fun _ _ _ h => h) hf
theorem w_J0_coder_7d493_C_1 {g : q_G} {xt : List ExceptionTableEntry} {d mc ms : Nat} {h0 : q_H} {mv : List Nat} {Q : q_Po} {k n : Nat} {h : q_H} {v0 : Nat}  (hd1 : 1 ≤ d)
    (hf : (((1 : Int32) = 0 → q_K g m_J0_coder_7d493 xt d mc ms h0 mv Q k n (5, [none], [], h)) ∧ (¬ (1 : Int32) = 0 → ((q_isStr v0 = true ∧ v0 < 300) ∧ true = true ∧ (narrow .byte (.int (0 : Int32)) = .int (0 : Int32) ∧ (k ≤ mc ∧ n ≤ ms) ∧ Q (.inl (some (.int (0 : Int32)))) h))))) :
    q_K g m_J0_coder_7d493 xt d mc ms h0 mv Q k n (1, [some (.ref v0)], [.int (1 : Int32)], h) :=
  q_w1_K (K0 := fun k n c => q_K g m_J0_coder_7d493 xt d mc ms h0 mv Q k n c) (an := [(3, 2)]) (sw := []) (cu := [(0, [true]), (5, [false])]) 600 hd1 okB_J0_coder_7d493 okC_J0_coder_7d493 (fun _ _ _ h => h) hf
theorem w_J0_isLatin1_aae02_1 {g : q_G} {xt : List ExceptionTableEntry} {d mc ms : Nat} {h0 : q_H} {mv : List Nat} {Q : q_Po} {k n : Nat} {h : q_H} {v0 : Nat}  (hd1 : 1 ≤ d)
    (hf : (((1 : Int32) = 0 → q_K g m_J0_isLatin1_aae02 xt d mc ms h0 mv Q k n (7, [none], [], h)) ∧ (¬ (1 : Int32) = 0 → ((400 ≤ v0 ∧ q_sh h v0 = (0, 13, 0)) ∧ ((¬ (q_I h v0 1) = 0 → q_K g m_J0_isLatin1_aae02 xt d mc ms h0 mv Q k n (7, [none], [], h)) ∧ ((q_I h v0 1) = 0 → (narrow .boolean (.int (1 : Int32)) = .int (1 : Int32) ∧ (k ≤ mc ∧ n ≤ ms) ∧ Q (.inl (some (.int (1 : Int32)))) h))))))) :
    q_K g m_J0_isLatin1_aae02 xt d mc ms h0 mv Q k n (1, [some (.ref v0)], [.int (1 : Int32)], h) :=
  q_w1_K (K0 := fun k n c => q_K g m_J0_isLatin1_aae02 xt d mc ms h0 mv Q k n c) (an := []) (sw := []) (cu := [(0, [true]), (7, [false])]) 600 hd1 okB_J0_isLatin1_aae02 okC_J0_isLatin1_aae02 (fun _ _ _ h => h) hf
theorem w_J0_checkIndex_df160_0 {g : q_G} {xt : List ExceptionTableEntry} {d mc ms : Nat} {h0 : q_H} {mv : List Nat} {Q : q_Po} {k n : Nat} {h : q_H} {v0 : Int32} {v1 : Int32}  (hd1 : 1 ≤ d)
    (hf : q_K g m_J0_checkIndex_df160 xt d mc ms h0 mv Q k n (2, [none, none], [.int v1, .int v0], h)) :
    q_K g m_J0_checkIndex_df160 xt d mc ms h0 mv Q k n (0, [some (.int v0), some (.int v1)], [], h) :=
  q_w1_K (K0 := fun k n c => q_K g m_J0_checkIndex_df160 xt d mc ms h0 mv Q k n c) (an := []) (sw := []) (cu := [(2, [false, false])]) 600 hd1 okB_J0_checkIndex_df160 okC_J0_checkIndex_df160 (fun _ _ _ h => h) hf
theorem w_J0_checkIndex_df160_3 {g : q_G} {xt : List ExceptionTableEntry} {d mc ms : Nat} {h0 : q_H} {mv : List Nat} {Q : q_Po} {k n : Nat} {h : q_H}  {s0 : Int32} {s1 : Int32} (hd1 : 1 ≤ d)
    (hf : (q_cI g m_J3_checkIndex_8e157 [] d mc ms [.int s0, .int s1, .null] h k n True (fun k2 n3 x4 h1 => ((k2 ≤ mc ∧ n3 ≤ ms) ∧ Q (.inl none) h1)))) :
    q_K g m_J0_checkIndex_df160 xt d mc ms h0 mv Q k n (3, [none, none], [.null, .int s1, .int s0], h) :=
  q_w1_K (K0 := fun k n c => q_K g m_J0_checkIndex_df160 xt d mc ms h0 mv Q k n c) (an := []) (sw := []) (cu := [(2, [false, false])]) 600 hd1 okB_J0_checkIndex_df160 okC_J0_checkIndex_df160 (fun _ _ _ h => h) hf
theorem w_J0_checkIndex_df160_R_0 {g : q_G} {xt : List ExceptionTableEntry} {d mc ms : Nat} {h0 : q_H} {mv : List Nat} {Q : q_Po} {k n : Nat} {h : q_H} {v0 : Int32} {v1 : Int32}  (hd1 : 1 ≤ d)
    (hf : q_K g m_J0_checkIndex_df160 xt d mc ms h0 mv Q k n (2, [none, none], [.int v1, .int v0], h)) :
    q_K g m_J0_checkIndex_df160 xt d mc ms h0 mv Q k n (0, [some (.int v0), some (.int v1)], [], h) :=
  q_w1_K (K0 := fun k n c => q_K g m_J0_checkIndex_df160 xt d mc ms h0 mv Q k n c) (an := []) (sw := []) (cu := [(2, [false, false])]) 600 hd1 okB_J0_checkIndex_df160 okC_J0_checkIndex_df160 (fun _ _ _ h => h) hf
theorem w_J0_checkIndex_df160_R_3 {g : q_G} {xt : List ExceptionTableEntry} {d mc ms : Nat} {h0 : q_H} {mv : List Nat} {Q : q_Po} {k n : Nat} {h : q_H}  {s0 : Int32} {s1 : Int32} {s2 : Nat} (hd1 : 1 ≤ d)
    (hf : (q_cI g m_J3_checkIndex_8e157 [] d mc ms [.int s0, .int s1, .ref s2] h k n True (fun k2 n3 x4 h1 => ((k2 ≤ mc ∧ n3 ≤ ms) ∧ Q (.inl none) h1)))) :
    q_K g m_J0_checkIndex_df160 xt d mc ms h0 mv Q k n (3, [none, none], [.ref s2, .int s1, .int s0], h) :=
  q_w1_K (K0 := fun k n c => q_K g m_J0_checkIndex_df160 xt d mc ms h0 mv Q k n c) (an := []) (sw := []) (cu := [(2, [false, false])]) 600 hd1 okB_J0_checkIndex_df160 okC_J0_checkIndex_df160 (fun _ _ _ h => h) hf
theorem w_J4_init_da8c8_0 {g : q_G} {xt : List ExceptionTableEntry} {d mc ms : Nat} {h0 : q_H} {mv : List Nat} {Q : q_Po} {k n : Nat} {h : q_H} {v0 : Nat}  (hd1 : 1 ≤ d)
    (hf : (q_cV g m_J5_init_d00df [] d mc ms [.ref v0, .int (16 : Int32)] h k n True (fun k2 n3 h1 => ((k2 ≤ mc ∧ n3 ≤ ms) ∧ Q (.inl none) h1)))) :
    q_K g m_J4_init_da8c8 xt d mc ms h0 mv Q k n (0, [some (.ref v0)], [], h) :=
  q_w1_K (K0 := fun k n c => q_K g m_J4_init_da8c8 xt d mc ms h0 mv Q k n c) (an := []) (sw := []) (cu := []) 600 hd1 okB_J4_init_da8c8 okC_J4_init_da8c8 (fun _ _ _ h => h) hf
theorem w_J4_append_15ec4_0 {g : q_G} {xt : List ExceptionTableEntry} {d mc ms : Nat} {h0 : q_H} {mv : List Nat} {Q : q_Po} {k n : Nat} {h : q_H} {v0 : Nat} {v1 : Nat}  (hd1 : 1 ≤ d)
    (hf : ((400 ≤ v0 ∧ q_sh h v0 = (0, 14, 0)) ∧ q_cR g m_J5_append_cf1ce [] d mc ms [.ref v0, .ref v1] h k n True (fun k2 n3 b4 h1 => ((k2 ≤ mc ∧ n3 ≤ ms) ∧ Q (.inl (some (.ref v0))) h1)))) :
    q_K g m_J4_append_15ec4 xt d mc ms h0 mv Q k n (0, [some (.ref v0), some (.ref v1)], [], h) :=
  q_w1_K (K0 := fun k n c => q_K g m_J4_append_15ec4 xt d mc ms h0 mv Q k n c) (an := []) (sw := []) (cu := []) 600 hd1 okB_J4_append_15ec4 okC_J4_append_15ec4 (fun _ _ _ h => h) hf
theorem w_J4_append_15ec4_C_0 {g : q_G} {xt : List ExceptionTableEntry} {d mc ms : Nat} {h0 : q_H} {mv : List Nat} {Q : q_Po} {k n : Nat} {h : q_H} {v0 : Nat} {v1 : Nat}  (hd1 : 1 ≤ d)
    (hf : ((400 ≤ v0 ∧ q_sh h v0 = (0, 14, 0)) ∧ q_cR g m_J5_append_cf1ce [] d mc ms [.ref v0, .ref v1] h k n True (fun k2 n3 b4 h1 => ((k2 ≤ mc ∧ n3 ≤ ms) ∧ Q (.inl (some (.ref v0))) h1)))) :
    q_K g m_J4_append_15ec4 xt d mc ms h0 mv Q k n (0, [some (.ref v0), some (.ref v1)], [], h) :=
  q_w1_K (K0 := fun k n c => q_K g m_J4_append_15ec4 xt d mc ms h0 mv Q k n c) (an := []) (sw := []) (cu := []) 600 hd1 okB_J4_append_15ec4 okC_J4_append_15ec4 (fun _ _ _ h => h) hf
theorem w_J4_append_bf812_0 {g : q_G} {xt : List ExceptionTableEntry} {d mc ms : Nat} {h0 : q_H} {mv : List Nat} {Q : q_Po} {k n : Nat} {h : q_H} {v0 : Nat} {v1 : Int32}  (hd1 : 1 ≤ d)
    (hf : ((400 ≤ v0 ∧ q_sh h v0 = (0, 14, 0)) ∧ q_cR g m_J5_append_c97b9 [] d mc ms [.ref v0, .int v1] h k n True (fun k2 n3 b4 h1 => ((k2 ≤ mc ∧ n3 ≤ ms) ∧ Q (.inl (some (.ref v0))) h1)))) :
    q_K g m_J4_append_bf812 xt d mc ms h0 mv Q k n (0, [some (.ref v0), some (.int v1)], [], h) :=
  q_w1_K (K0 := fun k n c => q_K g m_J4_append_bf812 xt d mc ms h0 mv Q k n c) (an := []) (sw := []) (cu := []) 600 hd1 okB_J4_append_bf812 okC_J4_append_bf812 (fun _ _ _ h => h) hf
theorem w_J4_toString_0e30d_0 {g : q_G} {xt : List ExceptionTableEntry} {d mc ms : Nat} {h0 : q_H} {mv : List Nat} {Q : q_Po} {k n : Nat} {h : q_H} {v0 : Nat}  (hd1 : 1 ≤ d)
    (hf : ((k + 1 ≤ mc ∧ n + q_nf 13 ≤ ms) ∧ (q_cV g m_J0_init_81219 [] d mc ms [.ref (q_nx h), .ref v0] (q_new h (0, 13, 0)) (k + 1) (n + q_nf 13) True (fun k2 n3 h1 => ((k2 ≤ mc ∧ n3 ≤ ms) ∧ Q (.inl (some (.ref (q_nx h)))) h1))))) :
    q_K g m_J4_toString_0e30d xt d mc ms h0 mv Q k n (0, [some (.ref v0)], [], h) :=
  q_w1_K (K0 := fun k n c => q_K g m_J4_toString_0e30d xt d mc ms h0 mv Q k n c) (an := []) (sw := []) (cu := []) 600 hd1 okB_J4_toString_0e30d okC_J4_toString_0e30d (fun _ _ _ h => h) hf
theorem w_J1_charAt_3b067_0 {g : q_G} {xt : List ExceptionTableEntry} {d mc ms : Nat} {h0 : q_H} {mv : List Nat} {Q : q_Po} {k n : Nat} {h : q_H} {v0 : Nat} {v1 : Int32}  (hd1 : 1 ≤ d)
    (hf : (∃ L1, (400 ≤ v0 ∧ q_sh h v0 = (1, 1, L1)) ∧ (q_cV g m_J0_checkIndex_df160 [] d mc ms [.int v1, .int (nI L1)] h k n True (fun k3 n4 h2 => (∃ j5 L6, v1 = nI j5 ∧ (400 ≤ v0 ∧ q_sh h2 v0 = (1, 1, L6) ∧ j5 < L6 ∧ q_s16 L6) ∧ (narrow .char (.int ((((q_I h2 v0 j5) &&& (255 : Int32)).toUInt32 % 65536).toInt32)) = .int ((((q_I h2 v0 j5) &&& (255 : Int32)).toUInt32 % 65536).toInt32) ∧ (k3 ≤ mc ∧ n4 ≤ ms) ∧ Q (.inl (some (.int ((((q_I h2 v0 j5) &&& (255 : Int32)).toUInt32 % 65536).toInt32)))) h2)))))) :
    q_K g m_J1_charAt_3b067 xt d mc ms h0 mv Q k n (0, [some (.ref v0), some (.int v1)], [], h) :=
  q_w1_K (K0 := fun k n c => q_K g m_J1_charAt_3b067 xt d mc ms h0 mv Q k n c) (an := [(2, 1), (6, 1)]) (sw := []) (cu := []) 600 hd1 okB_J1_charAt_3b067 okC_J1_charAt_3b067 (fun _ _ _ h => h) hf
theorem w_J7_copyOf_9075b_0 {g : q_G} {xt : List ExceptionTableEntry} {d mc ms : Nat} {h0 : q_H} {mv : List Nat} {Q : q_Po} {k n : Nat} {h : q_H} {v0 : Nat} {v1 : Int32}  (hd1 : 1 ≤ d)
    (hf : (∃ L1, (400 ≤ v0 ∧ q_sh h v0 = (1, 1, L1)) ∧ ((¬ v1 = (nI L1) → (∃ L2, v1 = nI L2 ∧ q_s16 L2 ∧ (k + 1 ≤ mc ∧ n + L2 ≤ ms) ∧ (∃ L3, (400 ≤ v0 ∧ q_sh (q_new h (1, 1, L2)) v0 = (1, 1, L3)) ∧ (((k + 1) ≤ mc ∧ (n + L2) ≤ ms) ∧ q_K g m_J7_copyOf_9075b xt d mc ms h0 mv Q (k + 1) (n + L2) (19, [none, none, some (.ref (q_nx h))], [.int (q_min (nI L3) v1), .int (0 : Int32), .ref (q_nx h), .int (0 : Int32), .ref v0], q_new h (1, 1, L2)))))) ∧ (v1 = (nI L1) → q_K g m_J7_copyOf_9075b xt d mc ms h0 mv Q k n (4, [none, none, none], [], h))))) :
    q_K g m_J7_copyOf_9075b xt d mc ms h0 mv Q k n (0, [some (.ref v0), some (.int v1), none], [], h) :=
  q_w1_K (K0 := fun k n c => q_K g m_J7_copyOf_9075b xt d mc ms h0 mv Q k n c) (an := [(2, 1), (16, 1)]) (sw := []) (cu := [(4, [false, false, false]), (19, [false, false, true])]) 600 hd1 okB_J7_copyOf_9075b okC_J7_copyOf_9075b (fun _ _ _ h => h) hf
theorem w_J7_copyOf_9075b_20 {g : q_G} {xt : List ExceptionTableEntry} {d mc ms : Nat} {h0 : q_H} {mv : List Nat} {Q : q_Po} {k n : Nat} {h : q_H} {v2 : Nat}  (hd1 : 1 ≤ d)
    (hf : ((k ≤ mc ∧ n ≤ ms) ∧ Q (.inl (some (.ref v2))) h)) :
    q_K g m_J7_copyOf_9075b xt d mc ms h0 mv Q k n (20, [none, none, some (.ref v2)], [], h) :=
  q_w1_K (K0 := fun k n c => q_K g m_J7_copyOf_9075b xt d mc ms h0 mv Q k n c) (an := []) (sw := []) (cu := [(4, [false, false, false]), (19, [false, false, true])]) 600 hd1 okB_J7_copyOf_9075b okC_J7_copyOf_9075b (fun _ _ _ h => h) hf
theorem w_J7_copyOfRange_39247_0 {g : q_G} {xt : List ExceptionTableEntry} {d mc ms : Nat} {h0 : q_H} {mv : List Nat} {Q : q_Po} {k n : Nat} {h : q_H} {v0 : Nat} {v1 : Int32} {v2 : Int32}  (hd1 : 1 ≤ d)
    (hf : ((¬ v1 = 0 → (q_cR g m_J7_copyOfRangeByte_39247 [] d mc ms [.ref v0, .int v1, .int v2] h k n True (fun k2 n3 b4 h1 => ((k2 ≤ mc ∧ n3 ≤ ms) ∧ Q (.inl (some (.ref b4))) h1)))) ∧ (v1 = 0 → (∃ L5, (400 ≤ v0 ∧ q_sh h v0 = (1, 1, L5)) ∧ ((v2 = (nI L5) → q_K g m_J7_copyOfRange_39247 xt d mc ms h0 mv Q k n (12, [none, none, none], [.ref v0], h)) ∧ (¬ v2 = (nI L5) → (q_cR g m_J7_copyOfRangeByte_39247 [] d mc ms [.ref v0, .int v1, .int v2] h k n True (fun k7 n8 b9 h6 => ((k7 ≤ mc ∧ n8 ≤ ms) ∧ Q (.inl (some (.ref b9))) h6))))))))) :
    q_K g m_J7_copyOfRange_39247 xt d mc ms h0 mv Q k n (0, [some (.ref v0), some (.int v1), some (.int v2)], [], h) :=
  q_w1_K (K0 := fun k n c => q_K g m_J7_copyOfRange_39247 xt d mc ms h0 mv Q k n c) (an := [(4, 1)]) (sw := []) (cu := [(12, [false, false, false])]) 600 hd1 okB_J7_copyOfRange_39247 okC_J7_copyOfRange_39247 (fun _ _ _ h => h) hf
theorem w_J7_copyOfRange_39247_14 {g : q_G} {xt : List ExceptionTableEntry} {d mc ms : Nat} {h0 : q_H} {mv : List Nat} {Q : q_Po} {k n : Nat} {h : q_H}  {s0 : Nat} (hd1 : 1 ≤ d)
    (hf : ((k ≤ mc ∧ n ≤ ms) ∧ Q (.inl (some (.ref s0))) h)) :
    q_K g m_J7_copyOfRange_39247 xt d mc ms h0 mv Q k n (14, [none, none, none], [.ref s0], h) :=
  q_w1_K (K0 := fun k n c => q_K g m_J7_copyOfRange_39247 xt d mc ms h0 mv Q k n c) (an := []) (sw := []) (cu := [(12, [false, false, false])]) 600 hd1 okB_J7_copyOfRange_39247 okC_J7_copyOfRange_39247 (fun _ _ _ h => h) hf
theorem w_J7_copyOfRangeByte_39247_0 {g : q_G} {xt : List ExceptionTableEntry} {d mc ms : Nat} {h0 : q_H} {mv : List Nat} {Q : q_Po} {k n : Nat} {h : q_H} {v0 : Nat} {v1 : Int32} {v2 : Int32}  (hd1 : 1 ≤ d)
    (hf : (q_cV g m_J7_checkLength_df160 [] d mc ms [.int v1, .int v2] h k n True (fun k2 n3 h1 => (∃ L4, (v2 - v1) = nI L4 ∧ q_s16 L4 ∧ (k2 + 1 ≤ mc ∧ n3 + L4 ≤ ms) ∧ (∃ L5, (400 ≤ v0 ∧ q_sh (q_new h1 (1, 1, L4)) v0 = (1, 1, L5)) ∧ (((k2 + 1) ≤ mc ∧ (n3 + L4) ≤ ms) ∧ q_K g m_J7_copyOfRangeByte_39247 xt d mc ms h0 mv Q (k2 + 1) (n3 + L4) (20, [none, none, none, none, some (.ref (q_nx h1))], [.int (q_min ((nI L5) - v1) (v2 - v1)), .int (0 : Int32), .ref (q_nx h1), .int v1, .ref v0], q_new h1 (1, 1, L4)))))))) :
    q_K g m_J7_copyOfRangeByte_39247 xt d mc ms h0 mv Q k n (0, [some (.ref v0), some (.int v1), some (.int v2), none, none], [], h) :=
  q_w1_K (K0 := fun k n c => q_K g m_J7_copyOfRangeByte_39247 xt d mc ms h0 mv Q k n c) (an := [(15, 1)]) (sw := []) (cu := [(20, [false, false, false, false, true])]) 600 hd1 okB_J7_copyOfRangeByte_39247 okC_J7_copyOfRangeByte_39247 (fun _ _ _ h => h) hf
theorem w_J7_copyOfRangeByte_39247_21 {g : q_G} {xt : List ExceptionTableEntry} {d mc ms : Nat} {h0 : q_H} {mv : List Nat} {Q : q_Po} {k n : Nat} {h : q_H} {v4 : Nat}  (hd1 : 1 ≤ d)
    (hf : ((k ≤ mc ∧ n ≤ ms) ∧ Q (.inl (some (.ref v4))) h)) :
    q_K g m_J7_copyOfRangeByte_39247 xt d mc ms h0 mv Q k n (21, [none, none, none, none, some (.ref v4)], [], h) :=
  q_w1_K (K0 := fun k n c => q_K g m_J7_copyOfRangeByte_39247 xt d mc ms h0 mv Q k n c) (an := []) (sw := []) (cu := [(20, [false, false, false, false, true])]) 600 hd1 okB_J7_copyOfRangeByte_39247 okC_J7_copyOfRangeByte_39247 (fun _ _ _ h => h) hf
theorem w_J7_checkLength_df160_0 {g : q_G} {xt : List ExceptionTableEntry} {d mc ms : Nat} {h0 : q_H} {mv : List Nat} {Q : q_Po} {k n : Nat} {h : q_H} {v0 : Int32} {v1 : Int32}  (hd1 : 1 ≤ d)
    (hf : ((v0 ≤ v1 → ((k ≤ mc ∧ n ≤ ms) ∧ Q (.inl none) h)) ∧ (¬ v0 ≤ v1 → q_K g m_J7_checkLength_df160 xt d mc ms h0 mv Q k n (3, [none, none], [], h)))) :
    q_K g m_J7_checkLength_df160 xt d mc ms h0 mv Q k n (0, [some (.int v0), some (.int v1)], [], h) :=
  q_w1D_K (K0 := fun k n c => q_K g m_J7_checkLength_df160 xt d mc ms h0 mv Q k n c) (an := []) (sw := []) (cu := [(3, [false, false]), (4, [false, false]), (5, [false, false]), (6, [false, false]), (7, [false, false]), (8, [false, false]), (9, [false, false]), (10, [false, false]), (11, [false, false]), (12, [false, false]), (13, [false, false]), (14, [false, false]), (15, [false, false]), (16, [false, false])]) [3, 4, 5, 6, 7, 8, 9, 10, 11, 12, 13, 14, 15, 16] 600 hd1 okB_J7_checkLength_df160 okD_J7_checkLength_df160 (by decide +kernel) (show (0 : Nat) ∉ ([3, 4, 5, 6, 7, 8, 9, 10, 11, 12, 13, 14, 15, 16] : List Nat) by decide) (fun _ _ _ h => h) hf
theorem w_J8_newLength_cabcc_0 {g : q_G} {xt : List ExceptionTableEntry} {d mc ms : Nat} {h0 : q_H} {mv : List Nat} {Q : q_Po} {k n : Nat} {h : q_H} {v0 : Int32} {v1 : Int32} {v2 : Int32}  (hd1 : 1 ≤ d)
    (hf : ((k ≤ mc ∧ n ≤ ms) ∧ (((v0 + (q_max v1 v2)) ≤ (0 : Int32) → q_K g m_J8_newLength_cabcc xt d mc ms h0 mv Q k n (14, [none, none, none, none], [], h)) ∧ (¬ (v0 + (q_max v1 v2)) ≤ (0 : Int32) → (((2147483639 : Int32) < (v0 + (q_max v1 v2)) → q_K g m_J8_newLength_cabcc xt d mc ms h0 mv Q k n (14, [none, none, none, none], [], h)) ∧ (¬ (2147483639 : Int32) < (v0 + (q_max v1 v2)) → (narrow .int (.int (v0 + (q_max v1 v2))) = .int (v0 + (q_max v1 v2)) ∧ (k ≤ mc ∧ n ≤ ms) ∧ Q (.inl (some (.int (v0 + (q_max v1 v2))))) h))))))) :
    q_K g m_J8_newLength_cabcc xt d mc ms h0 mv Q k n (0, [some (.int v0), some (.int v1), some (.int v2), none], [], h) :=
  q_w1_K (K0 := fun k n c => q_K g m_J8_newLength_cabcc xt d mc ms h0 mv Q k n c) (an := []) (sw := []) (cu := [(14, [false, false, false, false])]) 600 hd1 okB_J8_newLength_cabcc okC_J8_newLength_cabcc (fun _ _ _ h => h) hf
theorem w_J3_checkIndex_8e157_0 {g : q_G} {xt : List ExceptionTableEntry} {d mc ms : Nat} {h0 : q_H} {mv : List Nat} {Q : q_Po} {k n : Nat} {h : q_H} {v0 : Int32} {v1 : Int32} {v2 : Nat}  (hd1 : 1 ≤ d)
    (hf : ((v0 < 0 → q_K g m_J3_checkIndex_8e157 xt d mc ms h0 mv Q k n (5, [none, none, none], [], h)) ∧ (¬ v0 < 0 → ((v0 < v1 → (narrow .int (.int v0) = .int v0 ∧ (k ≤ mc ∧ n ≤ ms) ∧ Q (.inl (some (.int v0))) h)) ∧ (¬ v0 < v1 → q_K g m_J3_checkIndex_8e157 xt d mc ms h0 mv Q k n (5, [none, none, none], [], h)))))) :
    q_K g m_J3_checkIndex_8e157 xt d mc ms h0 mv Q k n (0, [some (.int v0), some (.int v1), some (.ref v2)], [], h) :=
  q_w1_K (K0 := fun k n c => q_K g m_J3_checkIndex_8e157 xt d mc ms h0 mv Q k n c) (an := []) (sw := []) (cu := [(5, [false, false, false])]) 600 hd1 okB_J3_checkIndex_8e157 okC_J3_checkIndex_8e157 (fun _ _ _ h => h) hf
theorem w_J3_checkIndex_8e157_N_0 {g : q_G} {xt : List ExceptionTableEntry} {d mc ms : Nat} {h0 : q_H} {mv : List Nat} {Q : q_Po} {k n : Nat} {h : q_H} {v0 : Int32} {v1 : Int32}  (hd1 : 1 ≤ d)
    (hf : ((v0 < 0 → q_K g m_J3_checkIndex_8e157 xt d mc ms h0 mv Q k n (5, [none, none, none], [], h)) ∧ (¬ v0 < 0 → ((v0 < v1 → (narrow .int (.int v0) = .int v0 ∧ (k ≤ mc ∧ n ≤ ms) ∧ Q (.inl (some (.int v0))) h)) ∧ (¬ v0 < v1 → q_K g m_J3_checkIndex_8e157 xt d mc ms h0 mv Q k n (5, [none, none, none], [], h)))))) :
    q_K g m_J3_checkIndex_8e157 xt d mc ms h0 mv Q k n (0, [some (.int v0), some (.int v1), some (.null)], [], h) :=
  q_w1_K (K0 := fun k n c => q_K g m_J3_checkIndex_8e157 xt d mc ms h0 mv Q k n c) (an := []) (sw := []) (cu := [(5, [false, false, false])]) 600 hd1 okB_J3_checkIndex_8e157 okC_J3_checkIndex_8e157 (fun _ _ _ h => h) hf
