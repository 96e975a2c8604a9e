/-! methods of J L -/
def m_J5_init_d00df : q_M := (yJ5_init_d00df, cJ5_init_d00df, 2, (Option.none : Option Jvm.ClassFile.FieldType), [
  (0, .aload_n 0, 1, 0, 0, 0, 0),
  (1, .invokespecial 3, 3, 200, 0, 6, 207),
  (4, .getstatic 18, 3, 900, 0, 6, 104),
  (7, .ifCond .eq 18, 3, 12, 0, 0, 0),
  (10, .aload_n 0, 1, 0, 0, 0, 0),
  (11, .iload_n 1, 1, 0, 0, 0, 0),
  (12, .newarray .byte, 2, 0, 0, 0, 0),
  (14, .putfield 15, 3, 14, 0, 6, 208),
  (17, .aload_n 0, 1, 0, 0, 0, 0),
  (18, .iconst 0, 1, 0, 0, 0, 0),
  (19, .putfield 22, 3, 14, 1, 6, 209),
  (22, .goto 16, 3, 19, 0, 0, 0),
  (25, .aload_n 0, 1, 0, 0, 0, 0),
  (26, .iload_n 1, 1, 0, 0, 0, 0),
  (27, .invokestatic 26, 3, 201, 1, 6, 134),
  (30, .putfield 15, 3, 14, 0, 6, 208),
  (33, .aload_n 0, 1, 0, 0, 0, 0),
  (34, .iconst 1, 1, 1, 0, 0, 0),
  (35, .putfield 22, 3, 14, 1, 6, 209),
  (38, .return_, 1, 0, 0, 0, 0)], 6, 206)
set_option maxRecDepth 100000 in
theorem ok_J5_init_d00df : q_okM m_J5_init_d00df = true := by decide +kernel
theorem ci_J5_init_d00df : q_ciP m_J5_init_d00df 1 := ⟨(q_gw_in (k := 6) (i := 205) (by decide +kernel) rfl), rfl, (q_gw_in (k := 0) (i := 1) (by decide +kernel) rfl), ⟨by decide +kernel, by decide +kernel⟩, by decide +kernel⟩
def m_J5_length_8abf5 : q_M := (yJ5_length_8abf5, cJ5_length_8abf5, 1, (Option.some Jvm.ClassFile.FieldType.int), [
  (0, .aload_n 0, 1, 0, 0, 0, 0),
  (1, .getfield 79, 3, 14, 3, 6, 211),
  (4, .ireturn, 1, 0, 0, 0, 0)], 7, 6)
set_option maxRecDepth 100000 in
theorem ok_J5_length_8abf5 : q_okM m_J5_length_8abf5 = true := by decide +kernel
def m_J5_ensureCapacityInternal_d00df : q_M := (yJ5_ensureCapacityInternal_d00df, cJ5_ensureCapacityInternal_d00df, 3, (Option.none : Option Jvm.ClassFile.FieldType), [
  (0, .aload_n 0, 1, 0, 0, 0, 0),
  (1, .getfield 15, 3, 14, 0, 6, 208),
  (4, .arraylength, 1, 0, 0, 0, 0),
  (5, .aload_n 0, 1, 0, 0, 0, 0),
  (6, .getfield 22, 3, 14, 1, 6, 209),
  (9, .ishr, 1, 0, 0, 0, 0),
  (10, .istore_n 2, 1, 0, 0, 0, 0),
  (11, .iload_n 1, 1, 0, 0, 0, 0),
  (12, .iload_n 2, 1, 0, 0, 0, 0),
  (13, .isub, 1, 0, 0, 0, 0),
  (14, .ifCond .le 24, 3, 22, 0, 0, 0),
  (17, .aload_n 0, 1, 0, 0, 0, 0),
  (18, .aload_n 0, 1, 0, 0, 0, 0),
  (19, .getfield 15, 3, 14, 0, 6, 208),
  (22, .aload_n 0, 1, 0, 0, 0, 0),
  (23, .iload_n 1, 1, 0, 0, 0, 0),
  (24, .invokevirtual 104, 3, 31, 1, 6, 74),
  (27, .aload_n 0, 1, 0, 0, 0, 0),
  (28, .getfield 22, 3, 14, 1, 6, 209),
  (31, .ishl, 1, 0, 0, 0, 0),
  (32, .invokestatic 108, 3, 55, 2, 6, 87),
  (35, .putfield 15, 3, 14, 0, 6, 208),
  (38, .return_, 1, 0, 0, 0, 0)], 6, 73)
set_option maxRecDepth 100000 in
theorem ok_J5_ensureCapacityInternal_d00df : q_okM m_J5_ensureCapacityInternal_d00df = true := by decide +kernel
def m_J5_newCapacity_0f7a4 : q_M := (yJ5_newCapacity_0f7a4, cJ5_newCapacity_0f7a4, 6, (Option.some Jvm.ClassFile.FieldType.int), [
  (0, .aload_n 0, 1, 0, 0, 0, 0),
  (1, .getfield 15, 3, 14, 0, 6, 208),
  (4, .arraylength, 1, 0, 0, 0, 0),
  (5, .istore_n 2, 1, 0, 0, 0, 0),
  (6, .iload_n 1, 1, 0, 0, 0, 0),
  (7, .aload_n 0, 1, 0, 0, 0, 0),
  (8, .getfield 22, 3, 14, 1, 6, 209),
  (11, .ishl, 1, 0, 0, 0, 0),
  (12, .istore_n 3, 1, 0, 0, 0, 0),
  (13, .iload_n 3, 1, 0, 0, 0, 0),
  (14, .iload_n 2, 1, 0, 0, 0, 0),
  (15, .isub, 1, 0, 0, 0, 0),
  (16, .istore 4, 2, 0, 0, 0, 0),
  (18, .iload_n 2, 1, 0, 0, 0, 0),
  (19, .iload 4, 2, 0, 0, 0, 0),
  (21, .iload_n 2, 1, 0, 0, 0, 0),
  (22, .iconst 2, 1, 2, 0, 0, 0),
  (23, .aload_n 0, 1, 0, 0, 0, 0),
  (24, .getfield 22, 3, 14, 1, 6, 209),
  (27, .ishl, 1, 0, 0, 0, 0),
  (28, .iadd, 1, 0, 0, 0, 0),
  (29, .invokestatic 114, 3, 58, 3, 6, 78),
  (32, .istore 5, 2, 0, 0, 0, 0),
  (34, .iload 5, 2, 0, 0, 0, 0),
  (36, .ldc 39, 2, 2147483647, 0, 6, 86),
  (38, .if_icmp .ne 13, 3, 31, 0, 0, 0),
  (41, .new 120, 3, 0, 0, 0, 0),
  (44, .dup, 1, 0, 0, 0, 0),
  (45, .ldc 122, 2, 0, 2, 0, 0),
  (47, .invokespecial 124, 3, 201, 0, 0, 0),
  (50, .athrow, 1, 0, 0, 0, 0),
  (51, .iload 5, 2, 0, 0, 0, 0),
  (53, .aload_n 0, 1, 0, 0, 0, 0),
  (54, .getfield 22, 3, 14, 1, 6, 209),
  (57, .ishr, 1, 0, 0, 0, 0),
  (58, .ireturn, 1, 0, 0, 0, 0)], 6, 77)
set_option maxRecDepth 100000 in
theorem ok_J5_newCapacity_0f7a4 : q_okM m_J5_newCapacity_0f7a4 = true := by decide +kernel
def m_J5_append_cf1ce : q_M := (yJ5_append_cf1ce, cJ5_append_cf1ce, 3, (Option.some (Jvm.ClassFile.FieldType.object "java/lang/AbstractStringBuilder")), [
  (0, .aload_n 1, 1, 0, 0, 0, 0),
  (1, .ifnonnull 8, 3, 5, 0, 0, 0),
  (4, .aload_n 0, 1, 0, 0, 0, 0),
  (5, .invokevirtual 204, 3, 201, 0, 6, 66),
  (8, .areturn, 1, 0, 0, 0, 0),
  (9, .aload_n 1, 1, 0, 0, 0, 0),
  (10, .invokevirtual 32, 3, 44, 0, 6, 120),
  (13, .istore_n 2, 1, 0, 0, 0, 0),
  (14, .aload_n 0, 1, 0, 0, 0, 0),
  (15, .aload_n 0, 1, 0, 0, 0, 0),
  (16, .getfield 79, 3, 14, 3, 6, 211),
  (19, .iload_n 2, 1, 0, 0, 0, 0),
  (20, .iadd, 1, 0, 0, 0, 0),
  (21, .invokevirtual 100, 3, 30, 1, 6, 70),
  (24, .aload_n 0, 1, 0, 0, 0, 0),
  (25, .aload_n 0, 1, 0, 0, 0, 0),
  (26, .getfield 79, 3, 14, 3, 6, 211),
  (29, .aload_n 1, 1, 0, 0, 0, 0),
  (30, .invokevirtual 208, 3, 36, 2, 6, 121),
  (33, .aload_n 0, 1, 0, 0, 0, 0),
  (34, .dup, 1, 0, 0, 0, 0),
  (35, .getfield 79, 3, 14, 3, 6, 211),
  (38, .iload_n 2, 1, 0, 0, 0, 0),
  (39, .iadd, 1, 0, 0, 0, 0),
  (40, .putfield 79, 3, 14, 3, 6, 211),
  (43, .aload_n 0, 1, 0, 0, 0, 0),
  (44, .areturn, 1, 0, 0, 0, 0)], 6, 65)
set_option maxRecDepth 100000 in
theorem ok_J5_append_cf1ce : q_okM m_J5_append_cf1ce = true := by decide +kernel
def m_J5_append_c97b9 : q_M := (yJ5_append_c97b9, cJ5_append_c97b9, 4, (Option.some (Jvm.ClassFile.FieldType.object "java/lang/AbstractStringBuilder")), [
  (0, .aload_n 0, 1, 0, 0, 0, 0),
  (1, .getfield 79, 3, 14, 3, 6, 211),
  (4, .istore_n 2, 1, 0, 0, 0, 0),
  (5, .iload_n 2, 1, 0, 0, 0, 0),
  (6, .iload_n 1, 1, 0, 0, 0, 0),
  (7, .invokestatic 245, 3, 40, 1, 6, 169),
  (10, .iadd, 1, 0, 0, 0, 0),
  (11, .istore_n 3, 1, 0, 0, 0, 0),
  (12, .aload_n 0, 1, 0, 0, 0, 0),
  (13, .iload_n 3, 1, 0, 0, 0, 0),
  (14, .invokevirtual 100, 3, 30, 1, 6, 70),
  (17, .aload_n 0, 1, 0, 0, 0, 0),
  (18, .invokevirtual 83, 3, 34, 0, 6, 99),
  (21, .ifCond .eq 16, 3, 21, 0, 0, 0),
  (24, .iload_n 1, 1, 0, 0, 0, 0),
  (25, .iload_n 3, 1, 0, 0, 0, 0),
  (26, .aload_n 0, 1, 0, 0, 0, 0),
  (27, .getfield 15, 3, 14, 0, 6, 208),
  (30, .invokestatic 248, 3, 39, 3, 6, 172),
  (33, .pop, 1, 0, 0, 0, 0),
  (34, .goto 14, 3, 28, 0, 0, 0),
  (37, .iload_n 1, 1, 0, 0, 0, 0),
  (38, .iload_n 2, 1, 0, 0, 0, 0),
  (39, .iload_n 3, 1, 0, 0, 0, 0),
  (40, .aload_n 0, 1, 0, 0, 0, 0),
  (41, .getfield 15, 3, 14, 0, 6, 208),
  (44, .invokestatic 251, 3, 201, 4, 6, 179),
  (47, .pop, 1, 0, 0, 0, 0),
  (48, .aload_n 0, 1, 0, 0, 0, 0),
  (49, .iload_n 3, 1, 0, 0, 0, 0),
  (50, .putfield 79, 3, 14, 3, 6, 211),
  (53, .aload_n 0, 1, 0, 0, 0, 0),
  (54, .areturn, 1, 0, 0, 0, 0)], 6, 168)
set_option maxRecDepth 100000 in
theorem ok_J5_append_c97b9 : q_okM m_J5_append_c97b9 = true := by decide +kernel
def m_J5_getValue_6d5f1 : q_M := (yJ5_getValue_6d5f1, cJ5_getValue_6d5f1, 1, (Option.some (Jvm.ClassFile.FieldType.array Jvm.ClassFile.FieldType.byte)), [
  (0, .aload_n 0, 1, 0, 0, 0, 0),
  (1, .getfield 15, 3, 14, 0, 6, 208),
  (4, .areturn, 1, 0, 0, 0, 0)], 6, 238)
set_option maxRecDepth 100000 in
theorem ok_J5_getValue_6d5f1 : q_okM m_J5_getValue_6d5f1 = true := by decide +kernel
def m_J5_isLatin1_aae02 : q_M := (yJ5_isLatin1_aae02, cJ5_isLatin1_aae02, 1, (Option.some Jvm.ClassFile.FieldType.boolean), [
  (0, .getstatic 18, 3, 900, 0, 6, 104),
  (3, .ifCond .eq 14, 3, 7, 0, 0, 0),
  (6, .aload_n 0, 1, 0, 0, 0, 0),
  (7, .getfield 22, 3, 14, 1, 6, 209),
  (10, .ifCond .ne 7, 3, 7, 0, 0, 0),
  (13, .iconst 1, 1, 1, 0, 0, 0),
  (14, .goto 4, 3, 8, 0, 0, 0),
  (17, .iconst 0, 1, 0, 0, 0, 0),
  (18, .ireturn, 1, 0, 0, 0, 0)], 6, 103)
set_option maxRecDepth 100000 in
theorem ok_J5_isLatin1_aae02 : q_okM m_J5_isLatin1_aae02 = true := by decide +kernel
def m_J5_inflateIfNeededFor_a7421 : q_M := (yJ5_inflateIfNeededFor_a7421, cJ5_inflateIfNeededFor_a7421, 2, (Option.none : Option Jvm.ClassFile.FieldType), [
  (0, .getstatic 18, 3, 900, 0, 6, 104),
  (3, .ifCond .eq 18, 3, 9, 0, 0, 0),
  (6, .aload_n 0, 1, 0, 0, 0, 0),
  (7, .getfield 22, 3, 14, 1, 6, 209),
  (10, .aload_n 1, 1, 0, 0, 0, 0),
  (11, .invokevirtual 40, 3, 46, 0, 6, 129),
  (14, .if_icmp .eq 7, 3, 9, 0, 0, 0),
  (17, .aload_n 0, 1, 0, 0, 0, 0),
  (18, .invokevirtual 195, 3, 201, 0, 6, 130),
  (21, .return_, 1, 0, 0, 0, 0)], 6, 128)
set_option maxRecDepth 100000 in
theorem ok_J5_inflateIfNeededFor_a7421 : q_okM m_J5_inflateIfNeededFor_a7421 = true := by decide +kernel
def m_J5_putStringAt_47b60 : q_M := (yJ5_putStringAt_47b60, cJ5_putStringAt_47b60, 3, (Option.none : Option Jvm.ClassFile.FieldType), [
  (0, .aload_n 0, 1, 0, 0, 0, 0),
  (1, .aload_n 2, 1, 0, 0, 0, 0),
  (2, .invokevirtual 397, 3, 35, 1, 6, 125),
  (5, .aload_n 2, 1, 0, 0, 0, 0),
  (6, .aload_n 0, 1, 0, 0, 0, 0),
  (7, .getfield 15, 3, 14, 0, 6, 208),
  (10, .iload_n 1, 1, 0, 0, 0, 0),
  (11, .aload_n 0, 1, 0, 0, 0, 0),
  (12, .getfield 22, 3, 14, 1, 6, 209),
  (15, .invokevirtual 399, 3, 43, 3, 6, 156),
  (18, .return_, 1, 0, 0, 0, 0)], 6, 124)
set_option maxRecDepth 100000 in
theorem ok_J5_putStringAt_47b60 : q_okM m_J5_putStringAt_47b60 = true := by decide +kernel
def m_Jx29ce0_ordinal_8abf5 : q_M := (yJx29ce0_ordinal_8abf5, cJx29ce0_ordinal_8abf5, 1, (Option.some Jvm.ClassFile.FieldType.int), [
  (0, .aload_n 0, 1, 0, 0, 0, 0),
  (1, .getfield 7, 3, 900, 0, 7, 119),
  (4, .ireturn, 1, 0, 0, 0, 0)], 3, 63)
set_option maxRecDepth 100000 in
theorem ok_Jx29ce0_ordinal_8abf5 : q_okM m_Jx29ce0_ordinal_8abf5 = true := by decide +kernel
def m_J6_getChars_ba4f3 : q_M := (yJ6_getChars_ba4f3, cJ6_getChars_ba4f3, 7, (Option.some Jvm.ClassFile.FieldType.int), [
  (0, .iload_n 1, 1, 0, 0, 0, 0),
  (1, .istore 5, 2, 0, 0, 0, 0),
  (3, .iload_n 0, 1, 0, 0, 0, 0),
  (4, .ifCond .ge 7, 3, 6, 0, 0, 0),
  (7, .iconst 1, 1, 1, 0, 0, 0),
  (8, .goto 4, 3, 7, 0, 0, 0),
  (11, .iconst 0, 1, 0, 0, 0, 0),
  (12, .istore 6, 2, 0, 0, 0, 0),
  (14, .iload 6, 2, 0, 0, 0, 0),
  (16, .ifCond .ne 6, 3, 13, 0, 0, 0),
  (19, .iload_n 0, 1, 0, 0, 0, 0),
  (20, .ineg, 1, 0, 0, 0, 0),
  (21, .istore_n 0, 1, 0, 0, 0, 0),
  (22, .iload_n 0, 1, 0, 0, 0, 0),
  (23, .bipush (-100), 2, 100, 1, 0, 0),
  (25, .if_icmp .gt 47, 3, 43, 0, 0, 0),
  (28, .iload_n 0, 1, 0, 0, 0, 0),
  (29, .bipush 100, 2, 100, 0, 0, 0),
  (31, .idiv, 1, 0, 0, 0, 0),
  (32, .istore_n 3, 1, 0, 0, 0, 0),
  (33, .iload_n 3, 1, 0, 0, 0, 0),
  (34, .bipush 100, 2, 100, 0, 0, 0),
  (36, .imul, 1, 0, 0, 0, 0),
  (37, .iload_n 0, 1, 0, 0, 0, 0),
  (38, .isub, 1, 0, 0, 0, 0),
  (39, .istore 4, 2, 0, 0, 0, 0),
  (41, .iload_n 3, 1, 0, 0, 0, 0),
  (42, .istore_n 0, 1, 0, 0, 0, 0),
  (43, .aload_n 2, 1, 0, 0, 0, 0),
  (44, .iinc 5 (-1), 3, 1, 1, 0, 0),
  (47, .iload 5, 2, 0, 0, 0, 0),
  (49, .getstatic 83, 3, 900, 0, 6, 175),
  (52, .iload 4, 2, 0, 0, 0, 0),
  (54, .baload, 1, 0, 0, 0, 0),
  (55, .bastore, 1, 0, 0, 0, 0),
  (56, .aload_n 2, 1, 0, 0, 0, 0),
  (57, .iinc 5 (-1), 3, 1, 1, 0, 0),
  (60, .iload 5, 2, 0, 0, 0, 0),
  (62, .getstatic 87, 3, 900, 0, 6, 177),
  (65, .iload 4, 2, 0, 0, 0, 0),
  (67, .baload, 1, 0, 0, 0, 0),
  (68, .bastore, 1, 0, 0, 0, 0),
  (69, .goto (-47), 3, 13, 0, 0, 0),
  (72, .aload_n 2, 1, 0, 0, 0, 0),
  (73, .iinc 5 (-1), 3, 1, 1, 0, 0),
  (76, .iload 5, 2, 0, 0, 0, 0),
  (78, .getstatic 83, 3, 900, 0, 6, 175),
  (81, .iload_n 0, 1, 0, 0, 0, 0),
  (82, .ineg, 1, 0, 0, 0, 0),
  (83, .baload, 1, 0, 0, 0, 0),
  (84, .bastore, 1, 0, 0, 0, 0),
  (85, .iload_n 0, 1, 0, 0, 0, 0),
  (86, .bipush (-9), 2, 9, 1, 0, 0),
  (88, .if_icmp .ge 16, 3, 62, 0, 0, 0),
  (91, .aload_n 2, 1, 0, 0, 0, 0),
  (92, .iinc 5 (-1), 3, 1, 1, 0, 0),
  (95, .iload 5, 2, 0, 0, 0, 0),
  (97, .getstatic 87, 3, 900, 0, 6, 177),
  (100, .iload_n 0, 1, 0, 0, 0, 0),
  (101, .ineg, 1, 0, 0, 0, 0),
  (102, .baload, 1, 0, 0, 0, 0),
  (103, .bastore, 1, 0, 0, 0, 0),
  (104, .iload 6, 2, 0, 0, 0, 0),
  (106, .ifCond .eq 12, 3, 69, 0, 0, 0),
  (109, .aload_n 2, 1, 0, 0, 0, 0),
  (110, .iinc 5 (-1), 3, 1, 1, 0, 0),
  (113, .iload 5, 2, 0, 0, 0, 0),
  (115, .bipush 45, 2, 45, 0, 0, 0),
  (117, .bastore, 1, 0, 0, 0, 0),
  (118, .iload 5, 2, 0, 0, 0, 0),
  (120, .ireturn, 1, 0, 0, 0, 0)], 6, 174)
set_option maxRecDepth 100000 in
theorem ok_J6_getChars_ba4f3 : q_okM m_J6_getChars_ba4f3 = true := by decide +kernel
theorem cs_J6_getChars_ba4f3 : q_csP m_J6_getChars_ba4f3 3 := ⟨(q_gw_in (k := 6) (i := 173) (by decide +kernel) rfl), (q_gw_in (k := 0) (i := 13) (by decide +kernel) rfl), ⟨by decide +kernel, by decide +kernel⟩, by decide +kernel⟩
def m_J6_stringSize_0f7a4 : q_M := (yJ6_stringSize_0f7a4, cJ6_stringSize_0f7a4, 4, (Option.some Jvm.ClassFile.FieldType.int), [
  (0, .iconst 1, 1, 1, 0, 0, 0),
  (1, .istore_n 1, 1, 0, 0, 0, 0),
  (2, .iload_n 0, 1, 0, 0, 0, 0),
  (3, .ifCond .lt 8, 3, 9, 0, 0, 0),
  (6, .iconst 0, 1, 0, 0, 0, 0),
  (7, .istore_n 1, 1, 0, 0, 0, 0),
  (8, .iload_n 0, 1, 0, 0, 0, 0),
  (9, .ineg, 1, 0, 0, 0, 0),
  (10, .istore_n 0, 1, 0, 0, 0, 0),
  (11, .bipush (-10), 2, 10, 1, 0, 0),
  (13, .istore_n 2, 1, 0, 0, 0, 0),
  (14, .iconst 1, 1, 1, 0, 0, 0),
  (15, .istore_n 3, 1, 0, 0, 0, 0),
  (16, .iload_n 3, 1, 0, 0, 0, 0),
  (17, .bipush 10, 2, 10, 0, 0, 0),
  (19, .if_icmp .ge 23, 3, 29, 0, 0, 0),
  (22, .iload_n 0, 1, 0, 0, 0, 0),
  (23, .iload_n 2, 1, 0, 0, 0, 0),
  (24, .if_icmp .le 7, 3, 23, 0, 0, 0),
  (27, .iload_n 3, 1, 0, 0, 0, 0),
  (28, .iload_n 1, 1, 0, 0, 0, 0),
  (29, .iadd, 1, 0, 0, 0, 0),
  (30, .ireturn, 1, 0, 0, 0, 0),
  (31, .bipush 10, 2, 10, 0, 0, 0),
  (33, .iload_n 2, 1, 0, 0, 0, 0),
  (34, .imul, 1, 0, 0, 0, 0),
  (35, .istore_n 2, 1, 0, 0, 0, 0),
  (36, .iinc 3 1, 3, 1, 0, 0, 0),
  (39, .goto (-23), 3, 13, 0, 0, 0),
  (42, .bipush 10, 2, 10, 0, 0, 0),
  (44, .iload_n 1, 1, 0, 0, 0, 0),
  (45, .iadd, 1, 0, 0, 0, 0),
  (46, .ireturn, 1, 0, 0, 0, 0)], 6, 171)
set_option maxRecDepth 100000 in
theorem ok_J6_stringSize_0f7a4 : q_okM m_J6_stringSize_0f7a4 = true := by decide +kernel
theorem cs_J6_stringSize_0f7a4 : q_csP m_J6_stringSize_0f7a4 1 := ⟨(q_gw_in (k := 6) (i := 170) (by decide +kernel) rfl), (q_gw_in (k := 0) (i := 13) (by decide +kernel) rfl), ⟨by decide +kernel, by decide +kernel⟩, by decide +kernel⟩
def m_J0_init_81219 : q_M := (yJ0_init_81219, cJ0_init_81219, 2, (Option.none : Option Jvm.ClassFile.FieldType), [
  (0, .aload_n 0, 1, 0, 0, 0, 0),
  (1, .aload_n 1, 1, 0, 0, 0, 0),
  (2, .aconst_null, 1, 0, 0, 0, 0),
  (3, .invokespecial 489, 3, 42, 2, 6, 230),
  (6, .return_, 1, 0, 0, 0, 0)], 6, 229)
set_option maxRecDepth 100000 in
theorem ok_J0_init_81219 : q_okM m_J0_init_81219 = true := by decide +kernel
theorem ci_J0_init_81219 : q_ciP m_J0_init_81219 1 := ⟨(q_gw_in (k := 6) (i := 228) (by decide +kernel) rfl), rfl, (q_gw_in (k := 0) (i := 3) (by decide +kernel) rfl), ⟨by decide +kernel, by decide +kernel⟩, by decide +kernel⟩
def m_J0_length_8abf5 : q_M := (yJ0_length_8abf5, cJ0_length_8abf5, 1, (Option.some Jvm.ClassFile.FieldType.int), [
  (0, .aload_n 0, 1, 0, 0, 0, 0),
  (1, .getfield 9, 3, 13, 0, 7, 27),
  (4, .arraylength, 1, 0, 0, 0, 0),
  (5, .aload_n 0, 1, 0, 0, 0, 0),
  (6, .invokevirtual 335, 3, 46, 0, 4, 156),
  (9, .ishr, 1, 0, 0, 0, 0),
  (10, .ireturn, 1, 0, 0, 0, 0)], 4, 155)
set_option maxRecDepth 100000 in
theorem ok_J0_length_8abf5 : q_okM m_J0_length_8abf5 = true := by decide +kernel
theorem cv_J0_length_8abf5 : q_cvP m_J0_length_8abf5 0 := ⟨(q_gw_in (k := 4) (i := 153) (by decide +kernel) rfl), (q_gw_in (k := 4) (i := 154) (by decide +kernel) rfl), (q_gw_in (k := 0) (i := 3) (by decide +kernel) rfl), ⟨by decide +kernel, by decide +kernel⟩, by decide +kernel⟩
def m_J0_charAt_5068e : q_M := (yJ0_charAt_5068e, cJ0_charAt_5068e, 2, (Option.some Jvm.ClassFile.FieldType.char), [
  (0, .aload_n 0, 1, 0, 0, 0, 0),
  (1, .invokevirtual 492, 3, 47, 0, 4, 166),
  (4, .ifCond .eq 12, 3, 8, 0, 0, 0),
  (7, .aload_n 0, 1, 0, 0, 0, 0),
  (8, .getfield 9, 3, 13, 0, 7, 27),
  (11, .iload_n 1, 1, 0, 0, 0, 0),
  (12, .invokestatic 495, 3, 54, 2, 4, 170),
  (15, .ireturn, 1, 0, 0, 0, 0),
  (16, .aload_n 0, 1, 0, 0, 0, 0),
  (17, .getfield 9, 3, 13, 0, 7, 27),
  (20, .iload_n 1, 1, 0, 0, 0, 0),
  (21, .invokestatic 498, 3, 201, 2, 4, 181),
  (24, .ireturn, 1, 0, 0, 0, 0)], 4, 165)
set_option maxRecDepth 100000 in
theorem ok_J0_charAt_5068e : q_okM m_J0_charAt_5068e = true := by decide +kernel
theorem cv_J0_charAt_5068e : q_cvP m_J0_charAt_5068e 1 := ⟨(q_gw_in (k := 4) (i := 163) (by decide +kernel) rfl), (q_gw_in (k := 4) (i := 164) (by decide +kernel) rfl), (q_gw_in (k := 0) (i := 3) (by decide +kernel) rfl), ⟨by decide +kernel, by decide +kernel⟩, by decide +kernel⟩
def m_J0_getBytes_840e7 : q_M := (yJ0_getBytes_840e7, cJ0_getBytes_840e7, 4, (Option.none : Option Jvm.ClassFile.FieldType), [
  (0, .aload_n 0, 1, 0, 0, 0, 0),
  (1, .invokevirtual 335, 3, 46, 0, 4, 156),
  (4, .iload_n 3, 1, 0, 0, 0, 0),
  (5, .if_icmp .ne 23, 3, 16, 0, 0, 0),
  (8, .aload_n 0, 1, 0, 0, 0, 0),
  (9, .getfield 9, 3, 13, 0, 7, 27),
  (12, .iconst 0, 1, 0, 0, 0, 0),
  (13, .aload_n 1, 1, 0, 0, 0, 0),
  (14, .iload_n 2, 1, 0, 0, 0, 0),
  (15, .iload_n 3, 1, 0, 0, 0, 0),
  (16, .ishl, 1, 0, 0, 0, 0),
  (17, .aload_n 0, 1, 0, 0, 0, 0),
  (18, .getfield 9, 3, 13, 0, 7, 27),
  (21, .arraylength, 1, 0, 0, 0, 0),
  (22, .invokestatic 212, 3, 201, 5, 6, 160),
  (25, .goto 18, 3, 25, 0, 0, 0),
  (28, .aload_n 0, 1, 0, 0, 0, 0),
  (29, .getfield 9, 3, 13, 0, 7, 27),
  (32, .iconst 0, 1, 0, 0, 0, 0),
  (33, .aload_n 1, 1, 0, 0, 0, 0),
  (34, .iload_n 2, 1, 0, 0, 0, 0),
  (35, .aload_n 0, 1, 0, 0, 0, 0),
  (36, .getfield 9, 3, 13, 0, 7, 27),
  (39, .arraylength, 1, 0, 0, 0, 0),
  (40, .invokestatic 106, 3, 201, 5, 6, 161),
  (43, .return_, 1, 0, 0, 0, 0)], 6, 159)
set_option maxRecDepth 100000 in
theorem ok_J0_getBytes_840e7 : q_okM m_J0_getBytes_840e7 = true := by decide +kernel
theorem cv_J0_getBytes_840e7 : q_cvP m_J0_getBytes_840e7 3 := ⟨(q_gw_in (k := 6) (i := 157) (by decide +kernel) rfl), (q_gw_in (k := 6) (i := 158) (by decide +kernel) rfl), (q_gw_in (k := 0) (i := 3) (by decide +kernel) rfl), ⟨by decide +kernel, by decide +kernel⟩, by decide +kernel⟩
def m_J0_init_db425 : q_M := (yJ0_init_db425, cJ0_init_db425, 5, (Option.none : Option Jvm.ClassFile.FieldType), [
  (0, .aload_n 0, 1, 0, 0, 0, 0),
  (1, .invokespecial 1, 3, 200, 0, 6, 233),
  (4, .aload_n 1, 1, 0, 0, 0, 0),
  (5, .invokevirtual 552, 3, 37, 0, 6, 234),
  (8, .astore_n 3, 1, 0, 0, 0, 0),
  (9, .aload_n 1, 1, 0, 0, 0, 0),
  (10, .invokevirtual 549, 3, 53, 0, 6, 239),
  (13, .istore 4, 2, 0, 0, 0, 0),
  (15, .aload_n 1, 1, 0, 0, 0, 0),
  (16, .invokevirtual 1047, 3, 34, 0, 7, 7),
  (19, .ifCond .eq 22, 3, 21, 0, 0, 0),
  (22, .aload_n 0, 1, 0, 0, 0, 0),
  (23, .iconst 0, 1, 0, 0, 0, 0),
  (24, .putfield 15, 3, 13, 1, 7, 28),
  (27, .aload_n 0, 1, 0, 0, 0, 0),
  (28, .aload_n 3, 1, 0, 0, 0, 0),
  (29, .iconst 0, 1, 0, 0, 0, 0),
  (30, .iload 4, 2, 0, 0, 0, 0),
  (32, .invokestatic 54, 3, 56, 3, 7, 8),
  (35, .putfield 9, 3, 13, 0, 7, 27),
  (38, .goto 59, 3, 50, 0, 0, 0),
  (41, .getstatic 38, 3, 900, 0, 4, 160),
  (44, .ifCond .eq 35, 3, 39, 0, 0, 0),
  (47, .aload_n 1, 1, 0, 0, 0, 0),
  (48, .getfield 1048, 3, 14, 2, 6, 210),
  (51, .ifCond .eq 28, 3, 39, 0, 0, 0),
  (54, .aload_n 0, 1, 0, 0, 0, 0),
  (55, .aload_n 3, 1, 0, 0, 0, 0),
  (56, .iconst 0, 1, 0, 0, 0, 0),
  (57, .iload 4, 2, 0, 0, 0, 0),
  (59, .invokestatic 1051, 3, 201, 3, 7, 17),
  (62, .putfield 9, 3, 13, 0, 7, 27),
  (65, .aload_n 0, 1, 0, 0, 0, 0),
  (66, .aload_n 0, 1, 0, 0, 0, 0),
  (67, .getfield 9, 3, 13, 0, 7, 27),
  (70, .iload 4, 2, 0, 0, 0, 0),
  (72, .invokestatic 47, 3, 201, 2, 7, 24),
  (75, .putfield 15, 3, 13, 1, 7, 28),
  (78, .return_, 1, 0, 0, 0, 0),
  (79, .aload_n 0, 1, 0, 0, 0, 0),
  (80, .iconst 1, 1, 1, 0, 0, 0),
  (81, .putfield 15, 3, 13, 1, 7, 28),
  (84, .aload_n 0, 1, 0, 0, 0, 0),
  (85, .aload_n 3, 1, 0, 0, 0, 0),
  (86, .iconst 0, 1, 0, 0, 0, 0),
  (87, .iload 4, 2, 0, 0, 0, 0),
  (89, .iconst 1, 1, 1, 0, 0, 0),
  (90, .ishl, 1, 0, 0, 0, 0),
  (91, .invokestatic 54, 3, 56, 3, 7, 8),
  (94, .putfield 9, 3, 13, 0, 7, 27),
  (97, .return_, 1, 0, 0, 0, 0)], 6, 232)
set_option maxRecDepth 100000 in
theorem ok_J0_init_db425 : q_okM m_J0_init_db425 = true := by decide +kernel
theorem ci_J0_init_db425 : q_ciP m_J0_init_db425 2 := ⟨(q_gw_in (k := 6) (i := 231) (by decide +kernel) rfl), rfl, (q_gw_in (k := 0) (i := 3) (by decide +kernel) rfl), ⟨by decide +kernel, by decide +kernel⟩, by decide +kernel⟩
def m_J0_coder_7d493 : q_M := (yJ0_coder_7d493, cJ0_coder_7d493, 1, (Option.some Jvm.ClassFile.FieldType.byte), [
  (0, .getstatic 38, 3, 900, 0, 4, 160),
  (3, .ifCond .eq 10, 3, 5, 0, 0, 0),
  (6, .aload_n 0, 1, 0, 0, 0, 0),
  (7, .getfield 15, 3, 13, 1, 7, 28),
  (10, .goto 4, 3, 6, 0, 0, 0),
  (13, .iconst 1, 1, 1, 0, 0, 0),
  (14, .ireturn, 1, 0, 0, 0, 0)], 4, 159)
set_option maxRecDepth 100000 in
theorem ok_J0_coder_7d493 : q_okM m_J0_coder_7d493 = true := by decide +kernel
theorem cv_J0_coder_7d493 : q_cvP m_J0_coder_7d493 0 := ⟨(q_gw_in (k := 4) (i := 157) (by decide +kernel) rfl), (q_gw_in (k := 4) (i := 158) (by decide +kernel) rfl), (q_gw_in (k := 0) (i := 3) (by decide +kernel) rfl), ⟨by decide +kernel, by decide +kernel⟩, by decide +kernel⟩
def m_J0_isLatin1_aae02 : q_M := (yJ0_isLatin1_aae02, cJ0_isLatin1_aae02, 1, (Option.some Jvm.ClassFile.FieldType.boolean), [
  (0, .getstatic 38, 3, 900, 0, 4, 160),
  (3, .ifCond .eq 14, 3, 7, 0, 0, 0),
  (6, .aload_n 0, 1, 0, 0, 0, 0),
  (7, .getfield 15, 3, 13, 1, 7, 28),
  (10, .ifCond .ne 7, 3, 7, 0, 0, 0),
  (13, .iconst 1, 1, 1, 0, 0, 0),
  (14, .goto 4, 3, 8, 0, 0, 0),
  (17, .iconst 0, 1, 0, 0, 0, 0),
  (18, .ireturn, 1, 0, 0, 0, 0)], 4, 169)
set_option maxRecDepth 100000 in
theorem ok_J0_isLatin1_aae02 : q_okM m_J0_isLatin1_aae02 = true := by decide +kernel
theorem cv_J0_isLatin1_aae02 : q_cvP m_J0_isLatin1_aae02 0 := ⟨(q_gw_in (k := 4) (i := 167) (by decide +kernel) rfl), (q_gw_in (k := 4) (i := 168) (by decide +kernel) rfl), (q_gw_in (k := 0) (i := 3) (by decide +kernel) rfl), ⟨by decide +kernel, by decide +kernel⟩, by decide +kernel⟩
def m_J0_checkIndex_df160 : q_M := (yJ0_checkIndex_df160, cJ0_checkIndex_df160, 2, (Option.none : Option Jvm.ClassFile.FieldType), [
  (0, .iload_n 0, 1, 0, 0, 0, 0),
  (1, .iload_n 1, 1, 0, 0, 0, 0),
  (2, .getstatic 1053, 3, 900, 0, 4, 176),
  (5, .invokestatic 1059, 3, 59, 3, 4, 178),
  (8, .pop, 1, 0, 0, 0, 0),
  (9, .return_, 1, 0, 0, 0, 0)], 4, 175)
set_option maxRecDepth 100000 in
theorem ok_J0_checkIndex_df160 : q_okM m_J0_checkIndex_df160 = true := by decide +kernel
theorem cs_J0_checkIndex_df160 : q_csP m_J0_checkIndex_df160 2 := ⟨(q_gw_in (k := 4) (i := 174) (by decide +kernel) rfl), (q_gw_in (k := 0) (i := 3) (by decide +kernel) rfl), ⟨by decide +kernel, by decide +kernel⟩, by decide +kernel⟩
def m_J4_init_da8c8 : q_M := (yJ4_init_da8c8, cJ4_init_da8c8, 1, (Option.none : Option Jvm.ClassFile.FieldType), [
  (0, .aload_n 0, 1, 0, 0, 0, 0),
  (1, .bipush 16, 2, 16, 0, 0, 0),
  (3, .invokespecial 1, 3, 29, 1, 6, 204),
  (6, .return_, 1, 0, 0, 0, 0)], 6, 203)
set_option maxRecDepth 100000 in
theorem ok_J4_init_da8c8 : q_okM m_J4_init_da8c8 = true := by decide +kernel
theorem ci_J4_init_da8c8 : q_ciP m_J4_init_da8c8 0 := ⟨(q_gw_in (k := 6) (i := 202) (by decide +kernel) rfl), rfl, (q_gw_in (k := 0) (i := 2) (by decide +kernel) rfl), ⟨by decide +kernel, by decide +kernel⟩, by decide +kernel⟩
def m_J4_append_15ec4 : q_M := (yJ4_append_15ec4, cJ4_append_15ec4, 2, (Option.some (Jvm.ClassFile.FieldType.object "java/lang/StringBuilder")), [
  (0, .aload_n 0, 1, 0, 0, 0, 0),
  (1, .aload_n 1, 1, 0, 0, 0, 0),
  (2, .invokespecial 29, 3, 32, 1, 6, 62),
  (5, .pop, 1, 0, 0, 0, 0),
  (6, .aload_n 0, 1, 0, 0, 0, 0),
  (7, .areturn, 1, 0, 0, 0, 0)], 6, 61)
set_option maxRecDepth 100000 in
theorem ok_J4_append_15ec4 : q_okM m_J4_append_15ec4 = true := by decide +kernel
theorem cv_J4_append_15ec4 : q_cvP m_J4_append_15ec4 1 := ⟨(q_gw_in (k := 6) (i := 59) (by decide +kernel) rfl), (q_gw_in (k := 6) (i := 60) (by decide +kernel) rfl), (q_gw_in (k := 0) (i := 2) (by decide +kernel) rfl), ⟨by decide +kernel, by decide +kernel⟩, by decide +kernel⟩
def m_J4_append_bf812 : q_M := (yJ4_append_bf812, cJ4_append_bf812, 2, (Option.some (Jvm.ClassFile.FieldType.object "java/lang/StringBuilder")), [
  (0, .aload_n 0, 1, 0, 0, 0, 0),
  (1, .iload_n 1, 1, 0, 0, 0, 0),
  (2, .invokespecial 53, 3, 33, 1, 6, 166),
  (5, .pop, 1, 0, 0, 0, 0),
  (6, .aload_n 0, 1, 0, 0, 0, 0),
  (7, .areturn, 1, 0, 0, 0, 0)], 6, 165)
set_option maxRecDepth 100000 in
theorem ok_J4_append_bf812 : q_okM m_J4_append_bf812 = true := by decide +kernel
theorem cv_J4_append_bf812 : q_cvP m_J4_append_bf812 1 := ⟨(q_gw_in (k := 6) (i := 163) (by decide +kernel) rfl), (q_gw_in (k := 6) (i := 164) (by decide +kernel) rfl), (q_gw_in (k := 0) (i := 2) (by decide +kernel) rfl), ⟨by decide +kernel, by decide +kernel⟩, by decide +kernel⟩
def m_J4_toString_0e30d : q_M := (yJ4_toString_0e30d, cJ4_toString_0e30d, 1, (Option.some (Jvm.ClassFile.FieldType.object "java/lang/String")), [
  (0, .new 18, 3, 13, 0, 6, 225),
  (3, .dup, 1, 0, 0, 0, 0),
  (4, .aload_n 0, 1, 0, 0, 0, 0),
  (5, .invokespecial 137, 3, 41, 1, 6, 227),
  (8, .areturn, 1, 0, 0, 0, 0)], 6, 224)
set_option maxRecDepth 100000 in
theorem ok_J4_toString_0e30d : q_okM m_J4_toString_0e30d = true := by decide +kernel
theorem cv_J4_toString_0e30d : q_cvP m_J4_toString_0e30d 0 := ⟨(q_gw_in (k := 6) (i := 222) (by decide +kernel) rfl), (q_gw_in (k := 6) (i := 223) (by decide +kernel) rfl), (q_gw_in (k := 0) (i := 2) (by decide +kernel) rfl), ⟨by decide +kernel, by decide +kernel⟩, by decide +kernel⟩
def m_J4_length_8abf5 : q_M := (yJ4_length_8abf5, cJ4_length_8abf5, 1, (Option.some Jvm.ClassFile.FieldType.int), [
  (0, .aload_n 0, 1, 0, 0, 0, 0),
  (1, .invokespecial 343, 3, 53, 0, 7, 5),
  (4, .ireturn, 1, 0, 0, 0, 0)], 7, 4)
set_option maxRecDepth 100000 in
theorem ok_J4_length_8abf5 : q_okM m_J4_length_8abf5 = true := by decide +kernel
def m_J1_charAt_3b067 : q_M := (yJ1_charAt_3b067, cJ1_charAt_3b067, 2, (Option.some Jvm.ClassFile.FieldType.char), [
  (0, .iload_n 1, 1, 0, 0, 0, 0),
  (1, .aload_n 0, 1, 0, 0, 0, 0),
  (2, .arraylength, 1, 0, 0, 0, 0),
  (3, .invokestatic 9, 3, 48, 2, 4, 173),
  (6, .aload_n 0, 1, 0, 0, 0, 0),
  (7, .iload_n 1, 1, 0, 0, 0, 0),
  (8, .baload, 1, 0, 0, 0, 0),
  (9, .sipush 255, 3, 255, 0, 0, 0),
  (12, .iand, 1, 0, 0, 0, 0),
  (13, .i2c, 1, 0, 0, 0, 0),
  (14, .ireturn, 1, 0, 0, 0, 0)], 4, 172)
set_option maxRecDepth 100000 in
theorem ok_J1_charAt_3b067 : q_okM m_J1_charAt_3b067 = true := by decide +kernel
theorem cs_J1_charAt_3b067 : q_csP m_J1_charAt_3b067 2 := ⟨(q_gw_in (k := 4) (i := 171) (by decide +kernel) rfl), (q_gw_in (k := 0) (i := 11) (by decide +kernel) rfl), ⟨by decide +kernel, by decide +kernel⟩, by decide +kernel⟩
def m_J7_fill_53178 : q_M := (yJ7_fill_53178, cJ7_fill_53178, 4, (Option.none : Option Jvm.ClassFile.FieldType), [
  (0, .iconst 0, 1, 0, 0, 0, 0),
  (1, .istore_n 2, 1, 0, 0, 0, 0),
  (2, .aload_n 0, 1, 0, 0, 0, 0),
  (3, .arraylength, 1, 0, 0, 0, 0),
  (4, .istore_n 3, 1, 0, 0, 0, 0),
  (5, .iload_n 2, 1, 0, 0, 0, 0),
  (6, .iload_n 3, 1, 0, 0, 0, 0),
  (7, .if_icmp .ge 13, 3, 14, 0, 0, 0),
  (10, .aload_n 0, 1, 0, 0, 0, 0),
  (11, .iload_n 2, 1, 0, 0, 0, 0),
  (12, .iload_n 1, 1, 0, 0, 0, 0),
  (13, .iastore, 1, 0, 0, 0, 0),
  (14, .iinc 2 1, 3, 1, 0, 0, 0),
  (17, .goto (-12), 3, 5, 0, 0, 0),
  (20, .return_, 1, 0, 0, 0, 0)], 1, 33)
set_option maxRecDepth 100000 in
theorem ok_J7_fill_53178 : q_okM m_J7_fill_53178 = true := by decide +kernel
theorem cs_J7_fill_53178 : q_csP m_J7_fill_53178 2 := ⟨(q_gw_in (k := 1) (i := 32) (by decide +kernel) rfl), (q_gw_in (k := 0) (i := 8) (by decide +kernel) rfl), ⟨by decide +kernel, by decide +kernel⟩, by decide +kernel⟩
def m_J7_copyOf_9075b : q_M := (yJ7_copyOf_9075b, cJ7_copyOf_9075b, 3, (Option.some (Jvm.ClassFile.FieldType.array Jvm.ClassFile.FieldType.byte)), [
  (0, .iload_n 1, 1, 0, 0, 0, 0),
  (1, .aload_n 0, 1, 0, 0, 0, 0),
  (2, .arraylength, 1, 0, 0, 0, 0),
  (3, .if_icmp .ne 11, 3, 8, 0, 0, 0),
  (6, .aload_n 0, 1, 0, 0, 0, 0),
  (7, .invokevirtual 310, 3, 201, 0, 6, 90),
  (10, .checkcast 311, 3, 900, 0, 6, 96),
  (13, .areturn, 1, 0, 0, 0, 0),
  (14, .iload_n 1, 1, 0, 0, 0, 0),
  (15, .newarray .byte, 2, 0, 0, 0, 0),
  (17, .astore_n 2, 1, 0, 0, 0, 0),
  (18, .aload_n 0, 1, 0, 0, 0, 0),
  (19, .iconst 0, 1, 0, 0, 0, 0),
  (20, .aload_n 2, 1, 0, 0, 0, 0),
  (21, .iconst 0, 1, 0, 0, 0, 0),
  (22, .aload_n 0, 1, 0, 0, 0, 0),
  (23, .arraylength, 1, 0, 0, 0, 0),
  (24, .iload_n 1, 1, 0, 0, 0, 0),
  (25, .invokestatic 304, 3, 203, 2, 6, 97),
  (28, .invokestatic 150, 3, 201, 5, 6, 98),
  (31, .aload_n 2, 1, 0, 0, 0, 0),
  (32, .areturn, 1, 0, 0, 0, 0)], 6, 89)
set_option maxRecDepth 100000 in
theorem ok_J7_copyOf_9075b : q_okM m_J7_copyOf_9075b = true := by decide +kernel
theorem cs_J7_copyOf_9075b : q_csP m_J7_copyOf_9075b 2 := ⟨(q_gw_in (k := 6) (i := 88) (by decide +kernel) rfl), (q_gw_in (k := 0) (i := 8) (by decide +kernel) rfl), ⟨by decide +kernel, by decide +kernel⟩, by decide +kernel⟩
def m_J7_checkLength_df160 : q_M := (yJ7_checkLength_df160, cJ7_checkLength_df160, 2, (Option.none : Option Jvm.ClassFile.FieldType), [
  (0, .iload_n 1, 1, 0, 0, 0, 0),
  (1, .iload_n 0, 1, 0, 0, 0, 0),
  (2, .if_icmp .ge 35, 3, 17, 0, 0, 0),
  (5, .new 43, 3, 0, 0, 0, 0),
  (8, .dup, 1, 0, 0, 0, 0),
  (9, .new 45, 3, 0, 0, 0, 0),
  (12, .dup, 1, 0, 0, 0, 0),
  (13, .invokespecial 47, 3, 201, 0, 0, 0),
  (16, .iload_n 0, 1, 0, 0, 0, 0),
  (17, .invokevirtual 54, 3, 201, 0, 0, 0),
  (20, .ldc_w 337, 3, 0, 2, 0, 0),
  (23, .invokevirtual 50, 3, 201, 0, 0, 0),
  (26, .iload_n 1, 1, 0, 0, 0, 0),
  (27, .invokevirtual 54, 3, 201, 0, 0, 0),
  (30, .invokevirtual 61, 3, 201, 0, 0, 0),
  (33, .invokespecial 65, 3, 201, 0, 0, 0),
  (36, .athrow, 1, 0, 0, 0, 0),
  (37, .return_, 1, 0, 0, 0, 0)], 7, 16)
set_option maxRecDepth 100000 in
theorem ok_J7_checkLength_df160 : q_okM m_J7_checkLength_df160 = true := by decide +kernel
theorem cs_J7_checkLength_df160 : q_csP m_J7_checkLength_df160 2 := ⟨(q_gw_in (k := 7) (i := 15) (by decide +kernel) rfl), (q_gw_in (k := 0) (i := 8) (by decide +kernel) rfl), ⟨by decide +kernel, by decide +kernel⟩, by decide +kernel⟩
def m_J7_copyOfRange_39247 : q_M := (yJ7_copyOfRange_39247, cJ7_copyOfRange_39247, 3, (Option.some (Jvm.ClassFile.FieldType.array Jvm.ClassFile.FieldType.byte)), [
  (0, .iload_n 1, 1, 0, 0, 0, 0),
  (1, .ifCond .ne 9, 3, 6, 0, 0, 0),
  (4, .iload_n 2, 1, 0, 0, 0, 0),
  (5, .aload_n 0, 1, 0, 0, 0, 0),
  (6, .arraylength, 1, 0, 0, 0, 0),
  (7, .if_icmp .eq 10, 3, 11, 0, 0, 0),
  (10, .aload_n 0, 1, 0, 0, 0, 0),
  (11, .iload_n 1, 1, 0, 0, 0, 0),
  (12, .iload_n 2, 1, 0, 0, 0, 0),
  (13, .invokestatic 339, 3, 57, 3, 7, 11),
  (16, .areturn, 1, 0, 0, 0, 0),
  (17, .aload_n 0, 1, 0, 0, 0, 0),
  (18, .invokevirtual 310, 3, 201, 0, 6, 90),
  (21, .checkcast 311, 3, 900, 0, 6, 96),
  (24, .areturn, 1, 0, 0, 0, 0)], 7, 10)
set_option maxRecDepth 100000 in
theorem ok_J7_copyOfRange_39247 : q_okM m_J7_copyOfRange_39247 = true := by decide +kernel
theorem cs_J7_copyOfRange_39247 : q_csP m_J7_copyOfRange_39247 3 := ⟨(q_gw_in (k := 7) (i := 9) (by decide +kernel) rfl), (q_gw_in (k := 0) (i := 8) (by decide +kernel) rfl), ⟨by decide +kernel, by decide +kernel⟩, by decide +kernel⟩
def m_J7_copyOfRangeByte_39247 : q_M := (yJ7_copyOfRangeByte_39247, cJ7_copyOfRangeByte_39247, 5, (Option.some (Jvm.ClassFile.FieldType.array Jvm.ClassFile.FieldType.byte)), [
  (0, .iload_n 1, 1, 0, 0, 0, 0),
  (1, .iload_n 2, 1, 0, 0, 0, 0),
  (2, .invokestatic 343, 3, 60, 2, 7, 14),
  (5, .iload_n 2, 1, 0, 0, 0, 0),
  (6, .iload_n 1, 1, 0, 0, 0, 0),
  (7, .isub, 1, 0, 0, 0, 0),
  (8, .istore_n 3, 1, 0, 0, 0, 0),
  (9, .iload_n 3, 1, 0, 0, 0, 0),
  (10, .newarray .byte, 2, 0, 0, 0, 0),
  (12, .astore 4, 2, 0, 0, 0, 0),
  (14, .aload_n 0, 1, 0, 0, 0, 0),
  (15, .iload_n 1, 1, 0, 0, 0, 0),
  (16, .aload 4, 2, 0, 0, 0, 0),
  (18, .iconst 0, 1, 0, 0, 0, 0),
  (19, .aload_n 0, 1, 0, 0, 0, 0),
  (20, .arraylength, 1, 0, 0, 0, 0),
  (21, .iload_n 1, 1, 0, 0, 0, 0),
  (22, .isub, 1, 0, 0, 0, 0),
  (23, .iload_n 3, 1, 0, 0, 0, 0),
  (24, .invokestatic 304, 3, 203, 2, 6, 97),
  (27, .invokestatic 150, 3, 201, 5, 6, 98),
  (30, .aload 4, 2, 0, 0, 0, 0),
  (32, .areturn, 1, 0, 0, 0, 0)], 7, 13)
set_option maxRecDepth 100000 in
theorem ok_J7_copyOfRangeByte_39247 : q_okM m_J7_copyOfRangeByte_39247 = true := by decide +kernel
theorem cs_J7_copyOfRangeByte_39247 : q_csP m_J7_copyOfRangeByte_39247 3 := ⟨(q_gw_in (k := 7) (i := 12) (by decide +kernel) rfl), (q_gw_in (k := 0) (i := 8) (by decide +kernel) rfl), ⟨by decide +kernel, by decide +kernel⟩, by decide +kernel⟩
def m_J8_newLength_cabcc : q_M := (yJ8_newLength_cabcc, cJ8_newLength_cabcc, 4, (Option.some Jvm.ClassFile.FieldType.int), [
  (0, .iload_n 0, 1, 0, 0, 0, 0),
  (1, .iload_n 1, 1, 0, 0, 0, 0),
  (2, .iload_n 2, 1, 0, 0, 0, 0),
  (3, .invokestatic 194, 3, 202, 2, 6, 81),
  (6, .iadd, 1, 0, 0, 0, 0),
  (7, .istore_n 3, 1, 0, 0, 0, 0),
  (8, .iconst 0, 1, 0, 0, 0, 0),
  (9, .iload_n 3, 1, 0, 0, 0, 0),
  (10, .if_icmp .ge 11, 3, 14, 0, 0, 0),
  (13, .iload_n 3, 1, 0, 0, 0, 0),
  (14, .ldc 200, 2, 2147483639, 0, 6, 82),
  (16, .if_icmp .gt 5, 3, 14, 0, 0, 0),
  (19, .iload_n 3, 1, 0, 0, 0, 0),
  (20, .ireturn, 1, 0, 0, 0, 0),
  (21, .iload_n 0, 1, 0, 0, 0, 0),
  (22, .iload_n 1, 1, 0, 0, 0, 0),
  (23, .invokestatic 201, 3, 201, 2, 6, 83),
  (26, .ireturn, 1, 0, 0, 0, 0)], 6, 80)
set_option maxRecDepth 100000 in
theorem ok_J8_newLength_cabcc : q_okM m_J8_newLength_cabcc = true := by decide +kernel
theorem cs_J8_newLength_cabcc : q_csP m_J8_newLength_cabcc 3 := ⟨(q_gw_in (k := 6) (i := 79) (by decide +kernel) rfl), (q_gw_in (k := 0) (i := 6) (by decide +kernel) rfl), ⟨by decide +kernel, by decide +kernel⟩, by decide +kernel⟩
def m_J3_checkIndex_8e157 : q_M := (yJ3_checkIndex_8e157, cJ3_checkIndex_8e157, 3, (Option.some Jvm.ClassFile.FieldType.int), [
  (0, .iload_n 0, 1, 0, 0, 0, 0),
  (1, .ifCond .lt 8, 3, 5, 0, 0, 0),
  (4, .iload_n 0, 1, 0, 0, 0, 0),
  (5, .iload_n 1, 1, 0, 0, 0, 0),
  (6, .if_icmp .lt 10, 3, 10, 0, 0, 0),
  (9, .aload_n 2, 1, 0, 0, 0, 0),
  (10, .iload_n 0, 1, 0, 0, 0, 0),
  (11, .iload_n 1, 1, 0, 0, 0, 0),
  (12, .invokestatic 95, 3, 201, 0, 0, 0),
  (15, .athrow, 1, 0, 0, 0, 0),
  (16, .iload_n 0, 1, 0, 0, 0, 0),
  (17, .ireturn, 1, 0, 0, 0, 0)], 4, 180)
set_option maxRecDepth 100000 in
theorem ok_J3_checkIndex_8e157 : q_okM m_J3_checkIndex_8e157 = true := by decide +kernel
theorem cs_J3_checkIndex_8e157 : q_csP m_J3_checkIndex_8e157 3 := ⟨(q_gw_in (k := 4) (i := 179) (by decide +kernel) rfl), (q_gw_in (k := 0) (i := 10) (by decide +kernel) rfl), ⟨by decide +kernel, by decide +kernel⟩, by decide +kernel⟩
def m_L_below : q_M := (yL_below, cL_below, 2, (Option.some Jvm.ClassFile.FieldType.int), [
  (0, .iload_n 0, 1, 0, 0, 0, 0),
  (1, .ldc 7, 2, 2147483647, 0, 4, 139),
  (3, .iand, 1, 0, 0, 0, 0),
  (4, .iload_n 1, 1, 0, 0, 0, 0),
  (5, .irem, 1, 0, 0, 0, 0),
  (6, .ireturn, 1, 0, 0, 0, 0)], 4, 138)
set_option maxRecDepth 100000 in
theorem ok_L_below : q_okM m_L_below = true := by decide +kernel
theorem cs_L_below : q_csP m_L_below 2 := ⟨(q_gw_in (k := 4) (i := 137) (by decide +kernel) rfl), (q_gw_in (k := 0) (i := 0) (by decide +kernel) rfl), ⟨by decide +kernel, by decide +kernel⟩, by decide +kernel⟩
def m_L_cell : q_M := (yL_cell, cL_cell, 2, (Option.some Jvm.ClassFile.FieldType.int), [
  (0, .iload_n 1, 1, 0, 0, 0, 0),
  (1, .aload_n 0, 1, 0, 0, 0, 0),
  (2, .arraylength, 1, 0, 0, 0, 0),
  (3, .if_icmp .ge 9, 3, 8, 0, 0, 0),
  (6, .aload_n 0, 1, 0, 0, 0, 0),
  (7, .iload_n 1, 1, 0, 0, 0, 0),
  (8, .iaload, 1, 0, 0, 0, 0),
  (9, .goto 9, 3, 13, 0, 0, 0),
  (12, .ldc 8, 2, 790386105, 0, 4, 143),
  (14, .iload_n 1, 1, 0, 0, 0, 0),
  (15, .iconst 3, 1, 3, 0, 0, 0),
  (16, .iadd, 1, 0, 0, 0, 0),
  (17, .imul, 1, 0, 0, 0, 0),
  (18, .ireturn, 1, 0, 0, 0, 0)], 4, 142)
set_option maxRecDepth 100000 in
theorem ok_L_cell : q_okM m_L_cell = true := by decide +kernel
theorem cs_L_cell : q_csP m_L_cell 2 := ⟨(q_gw_in (k := 4) (i := 141) (by decide +kernel) rfl), (q_gw_in (k := 0) (i := 0) (by decide +kernel) rfl), ⟨by decide +kernel, by decide +kernel⟩, by decide +kernel⟩
def m_L_more : q_M := (yL_more, cL_more, 4, (Option.some (Jvm.ClassFile.FieldType.array (Jvm.ClassFile.FieldType.array Jvm.ClassFile.FieldType.int))), [
  (0, .aload_n 0, 1, 0, 0, 0, 0),
  (1, .arraylength, 1, 0, 0, 0, 0),
  (2, .iconst 1, 1, 1, 0, 0, 0),
  (3, .iadd, 1, 0, 0, 0, 0),
  (4, .anewarray 94, 3, 7, 0, 6, 195),
  (7, .astore_n 2, 1, 0, 0, 0, 0),
  (8, .iconst 0, 1, 0, 0, 0, 0),
  (9, .istore_n 3, 1, 0, 0, 0, 0),
  (10, .iload_n 3, 1, 0, 0, 0, 0),
  (11, .aload_n 0, 1, 0, 0, 0, 0),
  (12, .arraylength, 1, 0, 0, 0, 0),
  (13, .if_icmp .ge 15, 3, 20, 0, 0, 0),
  (16, .aload_n 2, 1, 0, 0, 0, 0),
  (17, .iload_n 3, 1, 0, 0, 0, 0),
  (18, .aload_n 0, 1, 0, 0, 0, 0),
  (19, .iload_n 3, 1, 0, 0, 0, 0),
  (20, .aaload, 1, 0, 0, 0, 0),
  (21, .aastore, 1, 0, 0, 0, 0),
  (22, .iinc 3 1, 3, 1, 0, 0, 0),
  (25, .goto (-15), 3, 8, 0, 0, 0),
  (28, .aload_n 2, 1, 0, 0, 0, 0),
  (29, .aload_n 0, 1, 0, 0, 0, 0),
  (30, .arraylength, 1, 0, 0, 0, 0),
  (31, .aload_n 1, 1, 0, 0, 0, 0),
  (32, .aastore, 1, 0, 0, 0, 0),
  (33, .aload_n 2, 1, 0, 0, 0, 0),
  (34, .areturn, 1, 0, 0, 0, 0)], 6, 194)
set_option maxRecDepth 100000 in
theorem ok_L_more : q_okM m_L_more = true := by decide +kernel
theorem cs_L_more : q_csP m_L_more 2 := ⟨(q_gw_in (k := 6) (i := 193) (by decide +kernel) rfl), (q_gw_in (k := 0) (i := 0) (by decide +kernel) rfl), ⟨by decide +kernel, by decide +kernel⟩, by decide +kernel⟩
