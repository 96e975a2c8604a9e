/-! methods of X12 -/
def m_X12_init : q_M := (yX12_init, cX12_init, 1, (Option.none : Option Jvm.ClassFile.FieldType), [
  (0, .aload_n 0, 1, 0, 0, 0, 0),
  (1, .invokespecial 1, 3, 0, 0, 0, 40),
  (4, .aload_n 0, 1, 0, 0, 0, 0),
  (5, .sipush 2000, 3, 2000, 0, 0, 0),
  (8, .newarray .byte, 2, 0, 0, 0, 0),
  (10, .putfield 9, 3, 10, 0, 1, 133),
  (13, .aload_n 0, 1, 0, 0, 0, 0),
  (14, .new 13, 3, 5, 0, 0, 43),
  (17, .dup, 1, 0, 0, 0, 0),
  (18, .invokespecial 15, 3, 0, 0, 0, 45),
  (21, .putfield 16, 3, 10, 1, 1, 134),
  (24, .aload_n 0, 1, 0, 0, 0, 0),
  (25, .new 13, 3, 5, 0, 0, 43),
  (28, .dup, 1, 0, 0, 0, 0),
  (29, .invokespecial 15, 3, 0, 0, 0, 45),
  (32, .putfield 20, 3, 10, 2, 1, 135),
  (35, .aload_n 0, 1, 0, 0, 0, 0),
  (36, .new 23, 3, 6, 0, 0, 144),
  (39, .dup, 1, 0, 0, 0, 0),
  (40, .aload_n 0, 1, 0, 0, 0, 0),
  (41, .getfield 9, 3, 10, 0, 1, 133),
  (44, .aload_n 0, 1, 0, 0, 0, 0),
  (45, .getfield 20, 3, 10, 2, 1, 135),
  (48, .invokespecial 25, 3, 0, 0, 0, 146),
  (51, .putfield 28, 3, 10, 3, 1, 136),
  (54, .aload_n 0, 1, 0, 0, 0, 0),
  (55, .new 32, 3, 1, 0, 0, 198),
  (58, .dup, 1, 0, 0, 0, 0),
  (59, .aload_n 0, 1, 0, 0, 0, 0),
  (60, .getfield 16, 3, 10, 1, 1, 134),
  (63, .invokespecial 34, 3, 0, 0, 0, 200),
  (66, .putfield 37, 3, 10, 4, 1, 137),
  (69, .aload_n 0, 1, 0, 0, 0, 0),
  (70, .new 32, 3, 1, 0, 0, 198),
  (73, .dup, 1, 0, 0, 0, 0),
  (74, .aload_n 0, 1, 0, 0, 0, 0),
  (75, .getfield 16, 3, 10, 1, 1, 134),
  (78, .invokespecial 34, 3, 0, 0, 0, 200),
  (81, .putfield 41, 3, 10, 5, 1, 138),
  (84, .aload_n 0, 1, 0, 0, 0, 0),
  (85, .new 44, 3, 2, 0, 1, 110),
  (88, .dup, 1, 0, 0, 0, 0),
  (89, .invokespecial 46, 3, 0, 0, 1, 112),
  (92, .putfield 47, 3, 10, 6, 1, 139),
  (95, .aload_n 0, 1, 0, 0, 0, 0),
  (96, .iconst 0, 1, 0, 0, 0, 0),
  (97, .putfield 51, 3, 10, 7, 1, 140),
  (100, .aload_n 0, 1, 0, 0, 0, 0),
  (101, .iconst (-1), 1, 1, 1, 0, 0),
  (102, .putfield 55, 3, 10, 8, 1, 141),
  (105, .return_, 1, 0, 0, 0, 0)], 0, 39)
set_option maxRecDepth 100000 in
theorem ok_X12_init : q_okM m_X12_init = true := by decide +kernel
theorem ci_X12_init : q_ciP m_X12_init 0 := ⟨(q_gw_in (k := 0) (i := 38) (by decide +kernel) rfl), rfl, (q_gw_in (k := 0) (i := 14) (by decide +kernel) rfl), ⟨by decide +kernel, by decide +kernel⟩, by decide +kernel⟩
def m_X12_feed : q_M := (yX12_feed, cX12_feed, 6, (Option.some Jvm.ClassFile.FieldType.int), [
  (0, .aload_n 0, 1, 0, 0, 0, 0),
  (1, .getfield 51, 3, 10, 7, 1, 140),
  (4, .sipush 1980, 3, 1980, 0, 0, 0),
  (7, .if_icmp .le 13, 3, 9, 0, 0, 0),
  (10, .new 58, 3, 900, 0, 2, 95),
  (13, .dup, 1, 0, 0, 0, 0),
  (14, .ldc 60, 2, 0, 0, 0, 0),
  (16, .invokespecial 62, 3, 0, 0, 2, 105),
  (19, .athrow, 1, 0, 0, 0, 0),
  (20, .aload_n 0, 1, 0, 0, 0, 0),
  (21, .iload_n 1, 1, 0, 0, 0, 0),
  (22, .invokevirtual 65, 3, 0, 0, 4, 205),
  (25, .aload_n 0, 1, 0, 0, 0, 0),
  (26, .iload_n 2, 1, 0, 0, 0, 0),
  (27, .invokevirtual 65, 3, 0, 0, 4, 205),
  (30, .aload_n 0, 1, 0, 0, 0, 0),
  (31, .iload_n 3, 1, 0, 0, 0, 0),
  (32, .invokevirtual 65, 3, 0, 0, 4, 205),
  (35, .aload_n 0, 1, 0, 0, 0, 0),
  (36, .iload 4, 2, 0, 0, 0, 0),
  (38, .invokevirtual 65, 3, 0, 0, 4, 205),
  (41, .aload_n 0, 1, 0, 0, 0, 0),
  (42, .iload 5, 2, 0, 0, 0, 0),
  (44, .invokevirtual 65, 3, 0, 0, 4, 205),
  (47, .aload_n 0, 1, 0, 0, 0, 0),
  (48, .getfield 51, 3, 10, 7, 1, 140),
  (51, .ireturn, 1, 0, 0, 0, 0)], 4, 203)
set_option maxRecDepth 100000 in
theorem ok_X12_feed : q_okM m_X12_feed = true := by decide +kernel
theorem cv_X12_feed : q_cvP m_X12_feed 5 := ⟨(q_gw_in (k := 4) (i := 201) (by decide +kernel) rfl), (q_gw_in (k := 4) (i := 202) (by decide +kernel) rfl), (q_gw_in (k := 0) (i := 14) (by decide +kernel) rfl), ⟨by decide +kernel, by decide +kernel⟩, by decide +kernel⟩
def m_X12_trim : q_M := (yX12_trim, cX12_trim, 2, (Option.some Jvm.ClassFile.FieldType.int), [
  (0, .iload_n 1, 1, 0, 0, 0, 0),
  (1, .ifCond .lt 11, 3, 6, 0, 0, 0),
  (4, .iload_n 1, 1, 0, 0, 0, 0),
  (5, .aload_n 0, 1, 0, 0, 0, 0),
  (6, .getfield 51, 3, 10, 7, 1, 140),
  (9, .if_icmp .le 13, 3, 11, 0, 0, 0),
  (12, .new 69, 3, 900, 0, 2, 239),
  (15, .dup, 1, 0, 0, 0, 0),
  (16, .ldc 71, 2, 0, 0, 0, 0),
  (18, .invokespecial 73, 3, 0, 0, 3, 9),
  (21, .athrow, 1, 0, 0, 0, 0),
  (22, .aload_n 0, 1, 0, 0, 0, 0),
  (23, .iload_n 1, 1, 0, 0, 0, 0),
  (24, .putfield 51, 3, 10, 7, 1, 140),
  (27, .iload_n 1, 1, 0, 0, 0, 0),
  (28, .ireturn, 1, 0, 0, 0, 0)], 4, 150)
set_option maxRecDepth 100000 in
theorem ok_X12_trim : q_okM m_X12_trim = true := by decide +kernel
theorem cv_X12_trim : q_cvP m_X12_trim 1 := ⟨(q_gw_in (k := 4) (i := 148) (by decide +kernel) rfl), (q_gw_in (k := 4) (i := 149) (by decide +kernel) rfl), (q_gw_in (k := 0) (i := 14) (by decide +kernel) rfl), ⟨by decide +kernel, by decide +kernel⟩, by decide +kernel⟩
def m_X12_teach : q_M := (yX12_teach, cX12_teach, 3, (Option.some Jvm.ClassFile.FieldType.int), [
  (0, .aload_n 0, 1, 0, 0, 0, 0),
  (1, .getfield 28, 3, 10, 3, 1, 136),
  (4, .aload_n 0, 1, 0, 0, 0, 0),
  (5, .getfield 51, 3, 10, 7, 1, 140),
  (8, .aload_n 0, 1, 0, 0, 0, 0),
  (9, .getfield 20, 3, 10, 2, 1, 135),
  (12, .invokevirtual 74, 3, 0, 0, 4, 213),
  (15, .istore_n 1, 1, 0, 0, 0, 0),
  (16, .aload_n 0, 1, 0, 0, 0, 0),
  (17, .aload_n 0, 1, 0, 0, 0, 0),
  (18, .getfield 28, 3, 10, 3, 1, 136),
  (21, .invokevirtual 78, 3, 0, 0, 5, 233),
  (24, .putfield 55, 3, 10, 8, 1, 141),
  (27, .aload_n 0, 1, 0, 0, 0, 0),
  (28, .iconst 0, 1, 0, 0, 0, 0),
  (29, .putfield 51, 3, 10, 7, 1, 140),
  (32, .iload_n 1, 1, 0, 0, 0, 0),
  (33, .ifCond .ne 32, 3, 33, 0, 0, 0),
  (36, .aload_n 0, 1, 0, 0, 0, 0),
  (37, .getfield 16, 3, 10, 1, 1, 134),
  (40, .astore_n 2, 1, 0, 0, 0, 0),
  (41, .aload_n 0, 1, 0, 0, 0, 0),
  (42, .aload_n 0, 1, 0, 0, 0, 0),
  (43, .getfield 20, 3, 10, 2, 1, 135),
  (46, .putfield 16, 3, 10, 1, 1, 134),
  (49, .aload_n 0, 1, 0, 0, 0, 0),
  (50, .aload_n 2, 1, 0, 0, 0, 0),
  (51, .putfield 20, 3, 10, 2, 1, 135),
  (54, .aload_n 0, 1, 0, 0, 0, 0),
  (55, .getfield 37, 3, 10, 4, 1, 137),
  (58, .aload_n 0, 1, 0, 0, 0, 0),
  (59, .getfield 16, 3, 10, 1, 1, 134),
  (62, .invokevirtual 82, 3, 0, 0, 6, 1),
  (65, .iload_n 1, 1, 0, 0, 0, 0),
  (66, .ireturn, 1, 0, 0, 0, 0)], 4, 212)
set_option maxRecDepth 100000 in
theorem ok_X12_teach : q_okM m_X12_teach = true := by decide +kernel
theorem cv_X12_teach : q_cvP m_X12_teach 0 := ⟨(q_gw_in (k := 4) (i := 210) (by decide +kernel) rfl), (q_gw_in (k := 4) (i := 211) (by decide +kernel) rfl), (q_gw_in (k := 0) (i := 14) (by decide +kernel) rfl), ⟨by decide +kernel, by decide +kernel⟩, by decide +kernel⟩
def m_X12_hooks : q_M := (yX12_hooks, cX12_hooks, 1, (Option.some Jvm.ClassFile.FieldType.int), [
  (0, .aload_n 0, 1, 0, 0, 0, 0),
  (1, .getfield 16, 3, 10, 1, 1, 134),
  (4, .getfield 85, 3, 5, 3, 0, 114),
  (7, .ireturn, 1, 0, 0, 0, 0)], 1, 164)
set_option maxRecDepth 100000 in
theorem ok_X12_hooks : q_okM m_X12_hooks = true := by decide +kernel
theorem cv_X12_hooks : q_cvP m_X12_hooks 0 := ⟨(q_gw_in (k := 1) (i := 162) (by decide +kernel) rfl), (q_gw_in (k := 1) (i := 163) (by decide +kernel) rfl), (q_gw_in (k := 0) (i := 14) (by decide +kernel) rfl), ⟨by decide +kernel, by decide +kernel⟩, by decide +kernel⟩
def m_X12_steps : q_M := (yX12_steps, cX12_steps, 1, (Option.some Jvm.ClassFile.FieldType.int), [
  (0, .aload_n 0, 1, 0, 0, 0, 0),
  (1, .getfield 16, 3, 10, 1, 1, 134),
  (4, .getfield 88, 3, 5, 4, 0, 119),
  (7, .ireturn, 1, 0, 0, 0, 0)], 1, 168)
set_option maxRecDepth 100000 in
theorem ok_X12_steps : q_okM m_X12_steps = true := by decide +kernel
theorem cv_X12_steps : q_cvP m_X12_steps 0 := ⟨(q_gw_in (k := 1) (i := 166) (by decide +kernel) rfl), (q_gw_in (k := 1) (i := 167) (by decide +kernel) rfl), (q_gw_in (k := 0) (i := 14) (by decide +kernel) rfl), ⟨by decide +kernel, by decide +kernel⟩, by decide +kernel⟩
def m_X12_placesOfHalf : q_M := (yX12_placesOfHalf, cX12_placesOfHalf, 1, (Option.some Jvm.ClassFile.FieldType.int), [
  (0, .aload_n 0, 1, 0, 0, 0, 0),
  (1, .getfield 16, 3, 10, 1, 1, 134),
  (4, .getfield 91, 3, 5, 0, 0, 104),
  (7, .ireturn, 1, 0, 0, 0, 0)], 3, 176)
set_option maxRecDepth 100000 in
theorem ok_X12_placesOfHalf : q_okM m_X12_placesOfHalf = true := by decide +kernel
theorem cv_X12_placesOfHalf : q_cvP m_X12_placesOfHalf 0 := ⟨(q_gw_in (k := 3) (i := 174) (by decide +kernel) rfl), (q_gw_in (k := 3) (i := 175) (by decide +kernel) rfl), (q_gw_in (k := 0) (i := 14) (by decide +kernel) rfl), ⟨by decide +kernel, by decide +kernel⟩, by decide +kernel⟩
def m_X12_stepsGoneBy : q_M := (yX12_stepsGoneBy, cX12_stepsGoneBy, 1, (Option.some Jvm.ClassFile.FieldType.int), [
  (0, .aload_n 0, 1, 0, 0, 0, 0),
  (1, .getfield 37, 3, 10, 4, 1, 137),
  (4, .getfield 94, 3, 1, 10, 1, 68),
  (7, .ireturn, 1, 0, 0, 0, 0)], 3, 180)
set_option maxRecDepth 100000 in
theorem ok_X12_stepsGoneBy : q_okM m_X12_stepsGoneBy = true := by decide +kernel
theorem cv_X12_stepsGoneBy : q_cvP m_X12_stepsGoneBy 0 := ⟨(q_gw_in (k := 3) (i := 178) (by decide +kernel) rfl), (q_gw_in (k := 3) (i := 179) (by decide +kernel) rfl), (q_gw_in (k := 0) (i := 14) (by decide +kernel) rfl), ⟨by decide +kernel, by decide +kernel⟩, by decide +kernel⟩
def m_X12_stepsRefused : q_M := (yX12_stepsRefused, cX12_stepsRefused, 1, (Option.some Jvm.ClassFile.FieldType.int), [
  (0, .aload_n 0, 1, 0, 0, 0, 0),
  (1, .getfield 37, 3, 10, 4, 1, 137),
  (4, .getfield 97, 3, 1, 11, 1, 71),
  (7, .ireturn, 1, 0, 0, 0, 0)], 1, 172)
set_option maxRecDepth 100000 in
theorem ok_X12_stepsRefused : q_okM m_X12_stepsRefused = true := by decide +kernel
theorem cv_X12_stepsRefused : q_cvP m_X12_stepsRefused 0 := ⟨(q_gw_in (k := 1) (i := 170) (by decide +kernel) rfl), (q_gw_in (k := 1) (i := 171) (by decide +kernel) rfl), (q_gw_in (k := 0) (i := 14) (by decide +kernel) rfl), ⟨by decide +kernel, by decide +kernel⟩, by decide +kernel⟩
def m_X12_workingHalf : q_M := (yX12_workingHalf, cX12_workingHalf, 1, (Option.some Jvm.ClassFile.FieldType.int), [
  (0, .aload_n 0, 1, 0, 0, 0, 0),
  (1, .getfield 37, 3, 10, 4, 1, 137),
  (4, .getfield 100, 3, 1, 9, 1, 64),
  (7, .ireturn, 1, 0, 0, 0, 0)], 3, 185)
set_option maxRecDepth 100000 in
theorem ok_X12_workingHalf : q_okM m_X12_workingHalf = true := by decide +kernel
theorem cv_X12_workingHalf : q_cvP m_X12_workingHalf 0 := ⟨(q_gw_in (k := 3) (i := 183) (by decide +kernel) rfl), (q_gw_in (k := 3) (i := 184) (by decide +kernel) rfl), (q_gw_in (k := 0) (i := 14) (by decide +kernel) rfl), ⟨by decide +kernel, by decide +kernel⟩, by decide +kernel⟩
def m_X12_usedPlaces : q_M := (yX12_usedPlaces, cX12_usedPlaces, 1, (Option.some Jvm.ClassFile.FieldType.int), [
  (0, .aload_n 0, 1, 0, 0, 0, 0),
  (1, .getfield 37, 3, 10, 4, 1, 137),
  (4, .getfield 103, 3, 1, 8, 1, 62),
  (7, .ireturn, 1, 0, 0, 0, 0)], 1, 176)
set_option maxRecDepth 100000 in
theorem ok_X12_usedPlaces : q_okM m_X12_usedPlaces = true := by decide +kernel
theorem cv_X12_usedPlaces : q_cvP m_X12_usedPlaces 0 := ⟨(q_gw_in (k := 1) (i := 174) (by decide +kernel) rfl), (q_gw_in (k := 1) (i := 175) (by decide +kernel) rfl), (q_gw_in (k := 0) (i := 14) (by decide +kernel) rfl), ⟨by decide +kernel, by decide +kernel⟩, by decide +kernel⟩
def m_X12_usedInLoft : q_M := (yX12_usedInLoft, cX12_usedInLoft, 1, (Option.some Jvm.ClassFile.FieldType.int), [
  (0, .aload_n 0, 1, 0, 0, 0, 0),
  (1, .getfield 37, 3, 10, 4, 1, 137),
  (4, .getfield 106, 3, 1, 1, 1, 50),
  (7, .invokevirtual 110, 3, 0, 0, 3, 191),
  (10, .ireturn, 1, 0, 0, 0, 0)], 3, 190)
set_option maxRecDepth 100000 in
theorem ok_X12_usedInLoft : q_okM m_X12_usedInLoft = true := by decide +kernel
theorem cv_X12_usedInLoft : q_cvP m_X12_usedInLoft 0 := ⟨(q_gw_in (k := 3) (i := 188) (by decide +kernel) rfl), (q_gw_in (k := 3) (i := 189) (by decide +kernel) rfl), (q_gw_in (k := 0) (i := 14) (by decide +kernel) rfl), ⟨by decide +kernel, by decide +kernel⟩, by decide +kernel⟩
def m_X12_longestGap : q_M := (yX12_longestGap, cX12_longestGap, 1, (Option.some Jvm.ClassFile.FieldType.int), [
  (0, .aload_n 0, 1, 0, 0, 0, 0),
  (1, .getfield 37, 3, 10, 4, 1, 137),
  (4, .getfield 106, 3, 1, 1, 1, 50),
  (7, .invokevirtual 115, 3, 0, 0, 3, 200),
  (10, .ireturn, 1, 0, 0, 0, 0)], 3, 199)
set_option maxRecDepth 100000 in
theorem ok_X12_longestGap : q_okM m_X12_longestGap = true := by decide +kernel
theorem cv_X12_longestGap : q_cvP m_X12_longestGap 0 := ⟨(q_gw_in (k := 3) (i := 197) (by decide +kernel) rfl), (q_gw_in (k := 3) (i := 198) (by decide +kernel) rfl), (q_gw_in (k := 0) (i := 14) (by decide +kernel) rfl), ⟨by decide +kernel, by decide +kernel⟩, by decide +kernel⟩
def m_X12_bales : q_M := (yX12_bales, cX12_bales, 1, (Option.some Jvm.ClassFile.FieldType.int), [
  (0, .aload_n 0, 1, 0, 0, 0, 0),
  (1, .getfield 37, 3, 10, 4, 1, 137),
  (4, .invokevirtual 118, 3, 0, 0, 1, 181),
  (7, .ireturn, 1, 0, 0, 0, 0)], 1, 180)
set_option maxRecDepth 100000 in
theorem ok_X12_bales : q_okM m_X12_bales = true := by decide +kernel
theorem cv_X12_bales : q_cvP m_X12_bales 0 := ⟨(q_gw_in (k := 1) (i := 178) (by decide +kernel) rfl), (q_gw_in (k := 1) (i := 179) (by decide +kernel) rfl), (q_gw_in (k := 0) (i := 14) (by decide +kernel) rfl), ⟨by decide +kernel, by decide +kernel⟩, by decide +kernel⟩
def m_X12_balesInLoft : q_M := (yX12_balesInLoft, cX12_balesInLoft, 1, (Option.some Jvm.ClassFile.FieldType.int), [
  (0, .aload_n 0, 1, 0, 0, 0, 0),
  (1, .getfield 37, 3, 10, 4, 1, 137),
  (4, .getfield 106, 3, 1, 1, 1, 50),
  (7, .getfield 121, 3, 4, 2, 0, 239),
  (10, .ireturn, 1, 0, 0, 0, 0)], 1, 188)
set_option maxRecDepth 100000 in
theorem ok_X12_balesInLoft : q_okM m_X12_balesInLoft = true := by decide +kernel
theorem cv_X12_balesInLoft : q_cvP m_X12_balesInLoft 0 := ⟨(q_gw_in (k := 1) (i := 186) (by decide +kernel) rfl), (q_gw_in (k := 1) (i := 187) (by decide +kernel) rfl), (q_gw_in (k := 0) (i := 14) (by decide +kernel) rfl), ⟨by decide +kernel, by decide +kernel⟩, by decide +kernel⟩
def m_X12_uselessBales : q_M := (yX12_uselessBales, cX12_uselessBales, 1, (Option.some Jvm.ClassFile.FieldType.int), [
  (0, .aload_n 0, 1, 0, 0, 0, 0),
  (1, .getfield 37, 3, 10, 4, 1, 137),
  (4, .invokevirtual 123, 3, 0, 0, 1, 193),
  (7, .ireturn, 1, 0, 0, 0, 0)], 1, 192)
set_option maxRecDepth 100000 in
theorem ok_X12_uselessBales : q_okM m_X12_uselessBales = true := by decide +kernel
theorem cv_X12_uselessBales : q_cvP m_X12_uselessBales 0 := ⟨(q_gw_in (k := 1) (i := 190) (by decide +kernel) rfl), (q_gw_in (k := 1) (i := 191) (by decide +kernel) rfl), (q_gw_in (k := 0) (i := 14) (by decide +kernel) rfl), ⟨by decide +kernel, by decide +kernel⟩, by decide +kernel⟩
def m_X12_copyings : q_M := (yX12_copyings, cX12_copyings, 1, (Option.some Jvm.ClassFile.FieldType.int), [
  (0, .aload_n 0, 1, 0, 0, 0, 0),
  (1, .getfield 37, 3, 10, 4, 1, 137),
  (4, .getfield 126, 3, 1, 12, 1, 74),
  (7, .ireturn, 1, 0, 0, 0, 0)], 2, 6)
set_option maxRecDepth 100000 in
theorem ok_X12_copyings : q_okM m_X12_copyings = true := by decide +kernel
theorem cv_X12_copyings : q_cvP m_X12_copyings 0 := ⟨(q_gw_in (k := 2) (i := 4) (by decide +kernel) rfl), (q_gw_in (k := 2) (i := 5) (by decide +kernel) rfl), (q_gw_in (k := 0) (i := 14) (by decide +kernel) rfl), ⟨by decide +kernel, by decide +kernel⟩, by decide +kernel⟩
def m_X12_balesPromoted : q_M := (yX12_balesPromoted, cX12_balesPromoted, 1, (Option.some Jvm.ClassFile.FieldType.int), [
  (0, .aload_n 0, 1, 0, 0, 0, 0),
  (1, .getfield 37, 3, 10, 4, 1, 137),
  (4, .getfield 129, 3, 1, 13, 1, 76),
  (7, .ireturn, 1, 0, 0, 0, 0)], 2, 10)
set_option maxRecDepth 100000 in
theorem ok_X12_balesPromoted : q_okM m_X12_balesPromoted = true := by decide +kernel
theorem cv_X12_balesPromoted : q_cvP m_X12_balesPromoted 0 := ⟨(q_gw_in (k := 2) (i := 8) (by decide +kernel) rfl), (q_gw_in (k := 2) (i := 9) (by decide +kernel) rfl), (q_gw_in (k := 0) (i := 14) (by decide +kernel) rfl), ⟨by decide +kernel, by decide +kernel⟩, by decide +kernel⟩
def m_X12_balesGone : q_M := (yX12_balesGone, cX12_balesGone, 1, (Option.some Jvm.ClassFile.FieldType.int), [
  (0, .aload_n 0, 1, 0, 0, 0, 0),
  (1, .getfield 37, 3, 10, 4, 1, 137),
  (4, .getfield 132, 3, 1, 14, 1, 78),
  (7, .ireturn, 1, 0, 0, 0, 0)], 3, 211)
set_option maxRecDepth 100000 in
theorem ok_X12_balesGone : q_okM m_X12_balesGone = true := by decide +kernel
theorem cv_X12_balesGone : q_cvP m_X12_balesGone 0 := ⟨(q_gw_in (k := 3) (i := 209) (by decide +kernel) rfl), (q_gw_in (k := 3) (i := 210) (by decide +kernel) rfl), (q_gw_in (k := 0) (i := 14) (by decide +kernel) rfl), ⟨by decide +kernel, by decide +kernel⟩, by decide +kernel⟩
def m_X12_holdsBale : q_M := (yX12_holdsBale, cX12_holdsBale, 2, (Option.some Jvm.ClassFile.FieldType.boolean), [
  (0, .aload_n 0, 1, 0, 0, 0, 0),
  (1, .iload_n 1, 1, 0, 0, 0, 0),
  (2, .invokevirtual 135, 3, 0, 0, 2, 15),
  (5, .aload_n 0, 1, 0, 0, 0, 0),
  (6, .getfield 37, 3, 10, 4, 1, 137),
  (9, .iload_n 1, 1, 0, 0, 0, 0),
  (10, .invokevirtual 138, 3, 0, 0, 2, 86),
  (13, .iconst (-1), 1, 1, 1, 0, 0),
  (14, .if_icmp .eq 7, 3, 11, 0, 0, 0),
  (17, .iconst 1, 1, 1, 0, 0, 0),
  (18, .goto 4, 3, 12, 0, 0, 0),
  (21, .iconst 0, 1, 0, 0, 0, 0),
  (22, .ireturn, 1, 0, 0, 0, 0)], 2, 14)
set_option maxRecDepth 100000 in
theorem ok_X12_holdsBale : q_okM m_X12_holdsBale = true := by decide +kernel
theorem cv_X12_holdsBale : q_cvP m_X12_holdsBale 1 := ⟨(q_gw_in (k := 2) (i := 12) (by decide +kernel) rfl), (q_gw_in (k := 2) (i := 13) (by decide +kernel) rfl), (q_gw_in (k := 0) (i := 14) (by decide +kernel) rfl), ⟨by decide +kernel, by decide +kernel⟩, by decide +kernel⟩
def m_X12_placeOf : q_M := (yX12_placeOf, cX12_placeOf, 2, (Option.some Jvm.ClassFile.FieldType.int), [
  (0, .aload_n 0, 1, 0, 0, 0, 0),
  (1, .getfield 37, 3, 10, 4, 1, 137),
  (4, .getfield 142, 3, 1, 0, 1, 48),
  (7, .aload_n 0, 1, 0, 0, 0, 0),
  (8, .iload_n 1, 1, 0, 0, 0, 0),
  (9, .invokevirtual 146, 3, 0, 0, 2, 91),
  (12, .invokevirtual 149, 3, 0, 0, 3, 220),
  (15, .ireturn, 1, 0, 0, 0, 0)], 4, 118)
set_option maxRecDepth 100000 in
theorem ok_X12_placeOf : q_okM m_X12_placeOf = true := by decide +kernel
theorem cv_X12_placeOf : q_cvP m_X12_placeOf 1 := ⟨(q_gw_in (k := 4) (i := 116) (by decide +kernel) rfl), (q_gw_in (k := 4) (i := 117) (by decide +kernel) rfl), (q_gw_in (k := 0) (i := 14) (by decide +kernel) rfl), ⟨by decide +kernel, by decide +kernel⟩, by decide +kernel⟩
def m_X12_sizeOf : q_M := (yX12_sizeOf, cX12_sizeOf, 2, (Option.some Jvm.ClassFile.FieldType.int), [
  (0, .aload_n 0, 1, 0, 0, 0, 0),
  (1, .getfield 37, 3, 10, 4, 1, 137),
  (4, .getfield 142, 3, 1, 0, 1, 48),
  (7, .aload_n 0, 1, 0, 0, 0, 0),
  (8, .iload_n 1, 1, 0, 0, 0, 0),
  (9, .invokevirtual 146, 3, 0, 0, 2, 91),
  (12, .invokevirtual 154, 3, 0, 0, 2, 111),
  (15, .ireturn, 1, 0, 0, 0, 0)], 2, 90)
set_option maxRecDepth 100000 in
theorem ok_X12_sizeOf : q_okM m_X12_sizeOf = true := by decide +kernel
theorem cv_X12_sizeOf : q_cvP m_X12_sizeOf 1 := ⟨(q_gw_in (k := 2) (i := 88) (by decide +kernel) rfl), (q_gw_in (k := 2) (i := 89) (by decide +kernel) rfl), (q_gw_in (k := 0) (i := 14) (by decide +kernel) rfl), ⟨by decide +kernel, by decide +kernel⟩, by decide +kernel⟩
def m_X12_ropesOf : q_M := (yX12_ropesOf, cX12_ropesOf, 2, (Option.some Jvm.ClassFile.FieldType.int), [
  (0, .aload_n 0, 1, 0, 0, 0, 0),
  (1, .getfield 37, 3, 10, 4, 1, 137),
  (4, .getfield 142, 3, 1, 0, 1, 48),
  (7, .aload_n 0, 1, 0, 0, 0, 0),
  (8, .iload_n 1, 1, 0, 0, 0, 0),
  (9, .invokevirtual 146, 3, 0, 0, 2, 91),
  (12, .invokevirtual 157, 3, 0, 0, 3, 221),
  (15, .ireturn, 1, 0, 0, 0, 0)], 4, 123)
set_option maxRecDepth 100000 in
theorem ok_X12_ropesOf : q_okM m_X12_ropesOf = true := by decide +kernel
theorem cv_X12_ropesOf : q_cvP m_X12_ropesOf 1 := ⟨(q_gw_in (k := 4) (i := 121) (by decide +kernel) rfl), (q_gw_in (k := 4) (i := 122) (by decide +kernel) rfl), (q_gw_in (k := 0) (i := 14) (by decide +kernel) rfl), ⟨by decide +kernel, by decide +kernel⟩, by decide +kernel⟩
def m_X12_ageOf : q_M := (yX12_ageOf, cX12_ageOf, 2, (Option.some Jvm.ClassFile.FieldType.int), [
  (0, .aload_n 0, 1, 0, 0, 0, 0),
  (1, .getfield 37, 3, 10, 4, 1, 137),
  (4, .getfield 142, 3, 1, 0, 1, 48),
  (7, .aload_n 0, 1, 0, 0, 0, 0),
  (8, .iload_n 1, 1, 0, 0, 0, 0),
  (9, .invokevirtual 146, 3, 0, 0, 2, 91),
  (12, .invokevirtual 160, 3, 0, 0, 2, 119),
  (15, .ireturn, 1, 0, 0, 0, 0)], 2, 118)
set_option maxRecDepth 100000 in
theorem ok_X12_ageOf : q_okM m_X12_ageOf = true := by decide +kernel
theorem cv_X12_ageOf : q_cvP m_X12_ageOf 1 := ⟨(q_gw_in (k := 2) (i := 116) (by decide +kernel) rfl), (q_gw_in (k := 2) (i := 117) (by decide +kernel) rfl), (q_gw_in (k := 0) (i := 14) (by decide +kernel) rfl), ⟨by decide +kernel, by decide +kernel⟩, by decide +kernel⟩
def m_X12_isInLoft : q_M := (yX12_isInLoft, cX12_isInLoft, 2, (Option.some Jvm.ClassFile.FieldType.boolean), [
  (0, .aload_n 0, 1, 0, 0, 0, 0),
  (1, .getfield 37, 3, 10, 4, 1, 137),
  (4, .getfield 142, 3, 1, 0, 1, 48),
  (7, .aload_n 0, 1, 0, 0, 0, 0),
  (8, .iload_n 1, 1, 0, 0, 0, 0),
  (9, .invokevirtual 146, 3, 0, 0, 2, 91),
  (12, .invokevirtual 163, 3, 0, 0, 2, 127),
  (15, .ireturn, 1, 0, 0, 0, 0)], 2, 126)
set_option maxRecDepth 100000 in
theorem ok_X12_isInLoft : q_okM m_X12_isInLoft = true := by decide +kernel
theorem cv_X12_isInLoft : q_cvP m_X12_isInLoft 1 := ⟨(q_gw_in (k := 2) (i := 124) (by decide +kernel) rfl), (q_gw_in (k := 2) (i := 125) (by decide +kernel) rfl), (q_gw_in (k := 0) (i := 14) (by decide +kernel) rfl), ⟨by decide +kernel, by decide +kernel⟩, by decide +kernel⟩
def m_X12_ropeLeads : q_M := (yX12_ropeLeads, cX12_ropeLeads, 4, (Option.some Jvm.ClassFile.FieldType.boolean), [
  (0, .aload_n 0, 1, 0, 0, 0, 0),
  (1, .iload_n 1, 1, 0, 0, 0, 0),
  (2, .invokevirtual 146, 3, 0, 0, 2, 91),
  (5, .istore_n 3, 1, 0, 0, 0, 0),
  (6, .aload_n 0, 1, 0, 0, 0, 0),
  (7, .getfield 37, 3, 10, 4, 1, 137),
  (10, .getfield 142, 3, 1, 0, 1, 48),
  (13, .iload_n 3, 1, 0, 0, 0, 0),
  (14, .iload_n 2, 1, 0, 0, 0, 0),
  (15, .invokevirtual 167, 3, 0, 0, 4, 130),
  (18, .ifCond .ne 13, 3, 16, 0, 0, 0),
  (21, .new 58, 3, 900, 0, 2, 95),
  (24, .dup, 1, 0, 0, 0, 0),
  (25, .ldc 171, 2, 0, 0, 0, 0),
  (27, .invokespecial 62, 3, 0, 0, 2, 105),
  (30, .athrow, 1, 0, 0, 0, 0),
  (31, .aload_n 0, 1, 0, 0, 0, 0),
  (32, .getfield 37, 3, 10, 4, 1, 137),
  (35, .getfield 142, 3, 1, 0, 1, 48),
  (38, .iload_n 3, 1, 0, 0, 0, 0),
  (39, .iload_n 2, 1, 0, 0, 0, 0),
  (40, .invokevirtual 173, 3, 0, 0, 3, 222),
  (43, .iconst (-1), 1, 1, 1, 0, 0),
  (44, .if_icmp .eq 7, 3, 26, 0, 0, 0),
  (47, .iconst 1, 1, 1, 0, 0, 0),
  (48, .goto 4, 3, 27, 0, 0, 0),
  (51, .iconst 0, 1, 0, 0, 0, 0),
  (52, .ireturn, 1, 0, 0, 0, 0)], 4, 129)
set_option maxRecDepth 100000 in
theorem ok_X12_ropeLeads : q_okM m_X12_ropeLeads = true := by decide +kernel
theorem cv_X12_ropeLeads : q_cvP m_X12_ropeLeads 2 := ⟨(q_gw_in (k := 4) (i := 127) (by decide +kernel) rfl), (q_gw_in (k := 4) (i := 128) (by decide +kernel) rfl), (q_gw_in (k := 0) (i := 14) (by decide +kernel) rfl), ⟨by decide +kernel, by decide +kernel⟩, by decide +kernel⟩
def m_X12_holdSame : q_M := (yX12_holdSame, cX12_holdSame, 3, (Option.some Jvm.ClassFile.FieldType.boolean), [
  (0, .aload_n 0, 1, 0, 0, 0, 0),
  (1, .iload_n 1, 1, 0, 0, 0, 0),
  (2, .invokevirtual 135, 3, 0, 0, 2, 15),
  (5, .aload_n 0, 1, 0, 0, 0, 0),
  (6, .iload_n 2, 1, 0, 0, 0, 0),
  (7, .invokevirtual 135, 3, 0, 0, 2, 15),
  (10, .aload_n 0, 1, 0, 0, 0, 0),
  (11, .getfield 37, 3, 10, 4, 1, 137),
  (14, .iload_n 1, 1, 0, 0, 0, 0),
  (15, .iload_n 2, 1, 0, 0, 0, 0),
  (16, .invokevirtual 177, 3, 0, 0, 2, 135),
  (19, .ireturn, 1, 0, 0, 0, 0)], 2, 134)
set_option maxRecDepth 100000 in
theorem ok_X12_holdSame : q_okM m_X12_holdSame = true := by decide +kernel
theorem cv_X12_holdSame : q_cvP m_X12_holdSame 2 := ⟨(q_gw_in (k := 2) (i := 132) (by decide +kernel) rfl), (q_gw_in (k := 2) (i := 133) (by decide +kernel) rfl), (q_gw_in (k := 0) (i := 14) (by decide +kernel) rfl), ⟨by decide +kernel, by decide +kernel⟩, by decide +kernel⟩
def m_X12_ropesBetween : q_M := (yX12_ropesBetween, cX12_ropesBetween, 3, (Option.some Jvm.ClassFile.FieldType.int), [
  (0, .aload_n 0, 1, 0, 0, 0, 0),
  (1, .iload_n 1, 1, 0, 0, 0, 0),
  (2, .invokevirtual 135, 3, 0, 0, 2, 15),
  (5, .aload_n 0, 1, 0, 0, 0, 0),
  (6, .iload_n 2, 1, 0, 0, 0, 0),
  (7, .invokevirtual 135, 3, 0, 0, 2, 15),
  (10, .aload_n 0, 1, 0, 0, 0, 0),
  (11, .getfield 37, 3, 10, 4, 1, 137),
  (14, .aload_n 0, 1, 0, 0, 0, 0),
  (15, .iload_n 1, 1, 0, 0, 0, 0),
  (16, .invokevirtual 146, 3, 0, 0, 2, 91),
  (19, .aload_n 0, 1, 0, 0, 0, 0),
  (20, .iload_n 2, 1, 0, 0, 0, 0),
  (21, .invokevirtual 146, 3, 0, 0, 2, 91),
  (24, .invokevirtual 180, 3, 0, 0, 2, 143),
  (27, .ireturn, 1, 0, 0, 0, 0)], 2, 142)
set_option maxRecDepth 100000 in
theorem ok_X12_ropesBetween : q_okM m_X12_ropesBetween = true := by decide +kernel
theorem cv_X12_ropesBetween : q_cvP m_X12_ropesBetween 2 := ⟨(q_gw_in (k := 2) (i := 140) (by decide +kernel) rfl), (q_gw_in (k := 2) (i := 141) (by decide +kernel) rfl), (q_gw_in (k := 0) (i := 14) (by decide +kernel) rfl), ⟨by decide +kernel, by decide +kernel⟩, by decide +kernel⟩
def m_X12_make : q_M := (yX12_make, cX12_make, 4, (Option.some Jvm.ClassFile.FieldType.int), [
  (0, .aload_n 0, 1, 0, 0, 0, 0),
  (1, .iload_n 1, 1, 0, 0, 0, 0),
  (2, .invokevirtual 135, 3, 0, 0, 2, 15),
  (5, .iload_n 2, 1, 0, 0, 0, 0),
  (6, .iconst 1, 1, 1, 0, 0, 0),
  (7, .if_icmp .lt 18, 3, 14, 0, 0, 0),
  (10, .iload_n 2, 1, 0, 0, 0, 0),
  (11, .bipush 9, 2, 9, 0, 0, 0),
  (13, .if_icmp .gt 12, 3, 14, 0, 0, 0),
  (16, .iload_n 3, 1, 0, 0, 0, 0),
  (17, .ifCond .lt 8, 3, 14, 0, 0, 0),
  (20, .iload_n 3, 1, 0, 0, 0, 0),
  (21, .iconst 3, 1, 3, 0, 0, 0),
  (22, .if_icmp .le 13, 3, 19, 0, 0, 0),
  (25, .new 69, 3, 900, 0, 2, 239),
  (28, .dup, 1, 0, 0, 0, 0),
  (29, .ldc 183, 2, 0, 0, 0, 0),
  (31, .invokespecial 73, 3, 0, 0, 3, 9),
  (34, .athrow, 1, 0, 0, 0, 0),
  (35, .aload_n 0, 1, 0, 0, 0, 0),
  (36, .getfield 37, 3, 10, 4, 1, 137),
  (39, .iload_n 1, 1, 0, 0, 0, 0),
  (40, .iload_n 2, 1, 0, 0, 0, 0),
  (41, .iload_n 3, 1, 0, 0, 0, 0),
  (42, .invokevirtual 185, 3, 0, 0, 7, 73),
  (45, .ifCond .ne 13, 3, 31, 0, 0, 0),
  (48, .new 58, 3, 900, 0, 2, 95),
  (51, .dup, 1, 0, 0, 0, 0),
  (52, .ldc 189, 2, 0, 0, 0, 0),
  (54, .invokespecial 62, 3, 0, 0, 2, 105),
  (57, .athrow, 1, 0, 0, 0, 0),
  (58, .aload_n 0, 1, 0, 0, 0, 0),
  (59, .getfield 37, 3, 10, 4, 1, 137),
  (62, .getfield 142, 3, 1, 0, 1, 48),
  (65, .aload_n 0, 1, 0, 0, 0, 0),
  (66, .getfield 37, 3, 10, 4, 1, 137),
  (69, .iload_n 1, 1, 0, 0, 0, 0),
  (70, .invokevirtual 138, 3, 0, 0, 2, 86),
  (73, .invokevirtual 149, 3, 0, 0, 3, 220),
  (76, .ireturn, 1, 0, 0, 0, 0)], 7, 71)
set_option maxRecDepth 100000 in
theorem ok_X12_make : q_okM m_X12_make = true := by decide +kernel
theorem cv_X12_make : q_cvP m_X12_make 3 := ⟨(q_gw_in (k := 7) (i := 69) (by decide +kernel) rfl), (q_gw_in (k := 7) (i := 70) (by decide +kernel) rfl), (q_gw_in (k := 0) (i := 14) (by decide +kernel) rfl), ⟨by decide +kernel, by decide +kernel⟩, by decide +kernel⟩
def m_X12_tie : q_M := (yX12_tie, cX12_tie, 4, (Option.some Jvm.ClassFile.FieldType.int), [
  (0, .aload_n 0, 1, 0, 0, 0, 0),
  (1, .iload_n 1, 1, 0, 0, 0, 0),
  (2, .invokevirtual 135, 3, 0, 0, 2, 15),
  (5, .aload_n 0, 1, 0, 0, 0, 0),
  (6, .iload_n 3, 1, 0, 0, 0, 0),
  (7, .invokevirtual 135, 3, 0, 0, 2, 15),
  (10, .aload_n 0, 1, 0, 0, 0, 0),
  (11, .getfield 37, 3, 10, 4, 1, 137),
  (14, .iload_n 1, 1, 0, 0, 0, 0),
  (15, .iload_n 2, 1, 0, 0, 0, 0),
  (16, .iload_n 3, 1, 0, 0, 0, 0),
  (17, .invokevirtual 191, 3, 0, 0, 7, 80),
  (20, .ifCond .ne 13, 3, 18, 0, 0, 0),
  (23, .new 58, 3, 900, 0, 2, 95),
  (26, .dup, 1, 0, 0, 0, 0),
  (27, .ldc 194, 2, 0, 0, 0, 0),
  (29, .invokespecial 62, 3, 0, 0, 2, 105),
  (32, .athrow, 1, 0, 0, 0, 0),
  (33, .aload_n 0, 1, 0, 0, 0, 0),
  (34, .getfield 37, 3, 10, 4, 1, 137),
  (37, .getfield 142, 3, 1, 0, 1, 48),
  (40, .aload_n 0, 1, 0, 0, 0, 0),
  (41, .getfield 37, 3, 10, 4, 1, 137),
  (44, .iload_n 1, 1, 0, 0, 0, 0),
  (45, .invokevirtual 138, 3, 0, 0, 2, 86),
  (48, .invokevirtual 196, 3, 0, 0, 7, 82),
  (51, .ireturn, 1, 0, 0, 0, 0)], 7, 79)
set_option maxRecDepth 100000 in
theorem ok_X12_tie : q_okM m_X12_tie = true := by decide +kernel
theorem cv_X12_tie : q_cvP m_X12_tie 3 := ⟨(q_gw_in (k := 7) (i := 77) (by decide +kernel) rfl), (q_gw_in (k := 7) (i := 78) (by decide +kernel) rfl), (q_gw_in (k := 0) (i := 14) (by decide +kernel) rfl), ⟨by decide +kernel, by decide +kernel⟩, by decide +kernel⟩
def m_X12_follow : q_M := (yX12_follow, cX12_follow, 4, (Option.some Jvm.ClassFile.FieldType.int), [
  (0, .aload_n 0, 1, 0, 0, 0, 0),
  (1, .iload_n 1, 1, 0, 0, 0, 0),
  (2, .invokevirtual 135, 3, 0, 0, 2, 15),
  (5, .aload_n 0, 1, 0, 0, 0, 0),
  (6, .iload_n 2, 1, 0, 0, 0, 0),
  (7, .invokevirtual 135, 3, 0, 0, 2, 15),
  (10, .aload_n 0, 1, 0, 0, 0, 0),
  (11, .getfield 37, 3, 10, 4, 1, 137),
  (14, .iload_n 1, 1, 0, 0, 0, 0),
  (15, .iload_n 2, 1, 0, 0, 0, 0),
  (16, .iload_n 3, 1, 0, 0, 0, 0),
  (17, .invokevirtual 199, 3, 0, 0, 7, 91),
  (20, .ifCond .ne 13, 3, 18, 0, 0, 0),
  (23, .new 58, 3, 900, 0, 2, 95),
  (26, .dup, 1, 0, 0, 0, 0),
  (27, .ldc 202, 2, 0, 0, 0, 0),
  (29, .invokespecial 62, 3, 0, 0, 2, 105),
  (32, .athrow, 1, 0, 0, 0, 0),
  (33, .aload_n 0, 1, 0, 0, 0, 0),
  (34, .getfield 37, 3, 10, 4, 1, 137),
  (37, .getfield 142, 3, 1, 0, 1, 48),
  (40, .aload_n 0, 1, 0, 0, 0, 0),
  (41, .getfield 37, 3, 10, 4, 1, 137),
  (44, .iload_n 1, 1, 0, 0, 0, 0),
  (45, .invokevirtual 138, 3, 0, 0, 2, 86),
  (48, .invokevirtual 149, 3, 0, 0, 3, 220),
  (51, .ireturn, 1, 0, 0, 0, 0)], 7, 90)
set_option maxRecDepth 100000 in
theorem ok_X12_follow : q_okM m_X12_follow = true := by decide +kernel
theorem cv_X12_follow : q_cvP m_X12_follow 3 := ⟨(q_gw_in (k := 7) (i := 88) (by decide +kernel) rfl), (q_gw_in (k := 7) (i := 89) (by decide +kernel) rfl), (q_gw_in (k := 0) (i := 14) (by decide +kernel) rfl), ⟨by decide +kernel, by decide +kernel⟩, by decide +kernel⟩
def m_X12_drop : q_M := (yX12_drop, cX12_drop, 2, (Option.some Jvm.ClassFile.FieldType.int), [
  (0, .aload_n 0, 1, 0, 0, 0, 0),
  (1, .iload_n 1, 1, 0, 0, 0, 0),
  (2, .invokevirtual 135, 3, 0, 0, 2, 15),
  (5, .aload_n 0, 1, 0, 0, 0, 0),
  (6, .getfield 37, 3, 10, 4, 1, 137),
  (9, .iload_n 1, 1, 0, 0, 0, 0),
  (10, .invokevirtual 204, 3, 0, 0, 7, 97),
  (13, .ifCond .ne 13, 3, 13, 0, 0, 0),
  (16, .new 58, 3, 900, 0, 2, 95),
  (19, .dup, 1, 0, 0, 0, 0),
  (20, .ldc 207, 2, 0, 0, 0, 0),
  (22, .invokespecial 62, 3, 0, 0, 2, 105),
  (25, .athrow, 1, 0, 0, 0, 0),
  (26, .aload_n 0, 1, 0, 0, 0, 0),
  (27, .getfield 37, 3, 10, 4, 1, 137),
  (30, .invokevirtual 123, 3, 0, 0, 1, 193),
  (33, .ireturn, 1, 0, 0, 0, 0)], 7, 96)
set_option maxRecDepth 100000 in
theorem ok_X12_drop : q_okM m_X12_drop = true := by decide +kernel
theorem cv_X12_drop : q_cvP m_X12_drop 1 := ⟨(q_gw_in (k := 7) (i := 94) (by decide +kernel) rfl), (q_gw_in (k := 7) (i := 95) (by decide +kernel) rfl), (q_gw_in (k := 0) (i := 14) (by decide +kernel) rfl), ⟨by decide +kernel, by decide +kernel⟩, by decide +kernel⟩
def m_X12_copyNow : q_M := (yX12_copyNow, cX12_copyNow, 1, (Option.some Jvm.ClassFile.FieldType.int), [
  (0, .aload_n 0, 1, 0, 0, 0, 0),
  (1, .getfield 37, 3, 10, 4, 1, 137),
  (4, .invokevirtual 209, 3, 0, 0, 2, 151),
  (7, .ireturn, 1, 0, 0, 0, 0)], 2, 150)
set_option maxRecDepth 100000 in
theorem ok_X12_copyNow : q_okM m_X12_copyNow = true := by decide +kernel
theorem cv_X12_copyNow : q_cvP m_X12_copyNow 0 := ⟨(q_gw_in (k := 2) (i := 148) (by decide +kernel) rfl), (q_gw_in (k := 2) (i := 149) (by decide +kernel) rfl), (q_gw_in (k := 0) (i := 14) (by decide +kernel) rfl), ⟨by decide +kernel, by decide +kernel⟩, by decide +kernel⟩
def m_X12_sweepLoft : q_M := (yX12_sweepLoft, cX12_sweepLoft, 1, (Option.some Jvm.ClassFile.FieldType.int), [
  (0, .aload_n 0, 1, 0, 0, 0, 0),
  (1, .getfield 37, 3, 10, 4, 1, 137),
  (4, .invokevirtual 212, 3, 0, 0, 2, 213),
  (7, .ireturn, 1, 0, 0, 0, 0)], 2, 212)
set_option maxRecDepth 100000 in
theorem ok_X12_sweepLoft : q_okM m_X12_sweepLoft = true := by decide +kernel
theorem cv_X12_sweepLoft : q_cvP m_X12_sweepLoft 0 := ⟨(q_gw_in (k := 2) (i := 210) (by decide +kernel) rfl), (q_gw_in (k := 2) (i := 211) (by decide +kernel) rfl), (q_gw_in (k := 0) (i := 14) (by decide +kernel) rfl), ⟨by decide +kernel, by decide +kernel⟩, by decide +kernel⟩
def m_X12_work : q_M := (yX12_work, cX12_work, 2, (Option.some Jvm.ClassFile.FieldType.int), [
  (0, .aload_n 0, 1, 0, 0, 0, 0),
  (1, .iload_n 1, 1, 0, 0, 0, 0),
  (2, .invokevirtual 215, 3, 0, 0, 2, 235),
  (5, .aload_n 0, 1, 0, 0, 0, 0),
  (6, .getfield 47, 3, 10, 6, 1, 139),
  (9, .aload_n 0, 1, 0, 0, 0, 0),
  (10, .getfield 37, 3, 10, 4, 1, 137),
  (13, .iload_n 1, 1, 0, 0, 0, 0),
  (14, .invokevirtual 218, 3, 0, 0, 3, 16),
  (17, .ireturn, 1, 0, 0, 0, 0)], 2, 234)
set_option maxRecDepth 100000 in
theorem ok_X12_work : q_okM m_X12_work = true := by decide +kernel
theorem cv_X12_work : q_cvP m_X12_work 1 := ⟨(q_gw_in (k := 2) (i := 232) (by decide +kernel) rfl), (q_gw_in (k := 2) (i := 233) (by decide +kernel) rfl), (q_gw_in (k := 0) (i := 14) (by decide +kernel) rfl), ⟨by decide +kernel, by decide +kernel⟩, by decide +kernel⟩
def m_X12_stepsUntilCopying : q_M := (yX12_stepsUntilCopying, cX12_stepsUntilCopying, 2, (Option.some Jvm.ClassFile.FieldType.int), [
  (0, .aload_n 0, 1, 0, 0, 0, 0),
  (1, .getfield 16, 3, 10, 1, 1, 134),
  (4, .getfield 88, 3, 5, 4, 0, 119),
  (7, .ifCond .ne 5, 3, 6, 0, 0, 0),
  (10, .iconst (-1), 1, 1, 1, 0, 0),
  (11, .ireturn, 1, 0, 0, 0, 0),
  (12, .aload_n 0, 1, 0, 0, 0, 0),
  (13, .getfield 41, 3, 10, 5, 1, 138),
  (16, .aload_n 0, 1, 0, 0, 0, 0),
  (17, .getfield 37, 3, 10, 4, 1, 137),
  (20, .invokevirtual 222, 3, 0, 0, 3, 136),
  (23, .iconst 1, 1, 1, 0, 0, 0),
  (24, .istore_n 1, 1, 0, 0, 0, 0),
  (25, .iload_n 1, 1, 0, 0, 0, 0),
  (26, .bipush 100, 2, 100, 0, 0, 0),
  (28, .if_icmp .gt 41, 3, 34, 0, 0, 0),
  (31, .aload_n 0, 1, 0, 0, 0, 0),
  (32, .getfield 47, 3, 10, 6, 1, 139),
  (35, .aload_n 0, 1, 0, 0, 0, 0),
  (36, .getfield 41, 3, 10, 5, 1, 138),
  (39, .iconst 1, 1, 1, 0, 0, 0),
  (40, .invokevirtual 218, 3, 0, 0, 3, 16),
  (43, .pop, 1, 0, 0, 0, 0),
  (44, .aload_n 0, 1, 0, 0, 0, 0),
  (45, .getfield 41, 3, 10, 5, 1, 138),
  (48, .getfield 126, 3, 1, 12, 1, 74),
  (51, .aload_n 0, 1, 0, 0, 0, 0),
  (52, .getfield 37, 3, 10, 4, 1, 137),
  (55, .getfield 126, 3, 1, 12, 1, 74),
  (58, .if_icmp .eq 5, 3, 32, 0, 0, 0),
  (61, .iload_n 1, 1, 0, 0, 0, 0),
  (62, .ireturn, 1, 0, 0, 0, 0),
  (63, .iinc 1 1, 3, 1, 0, 0, 0),
  (66, .goto (-41), 3, 13, 0, 0, 0),
  (69, .iconst (-1), 1, 1, 1, 0, 0),
  (70, .ireturn, 1, 0, 0, 0, 0)], 3, 135)
set_option maxRecDepth 100000 in
theorem ok_X12_stepsUntilCopying : q_okM m_X12_stepsUntilCopying = true := by decide +kernel
theorem cv_X12_stepsUntilCopying : q_cvP m_X12_stepsUntilCopying 0 := ⟨(q_gw_in (k := 3) (i := 133) (by decide +kernel) rfl), (q_gw_in (k := 3) (i := 134) (by decide +kernel) rfl), (q_gw_in (k := 0) (i := 14) (by decide +kernel) rfl), ⟨by decide +kernel, by decide +kernel⟩, by decide +kernel⟩
def m_X12_usedAfter : q_M := (yX12_usedAfter, cX12_usedAfter, 2, (Option.some Jvm.ClassFile.FieldType.int), [
  (0, .aload_n 0, 1, 0, 0, 0, 0),
  (1, .iload_n 1, 1, 0, 0, 0, 0),
  (2, .invokevirtual 215, 3, 0, 0, 2, 235),
  (5, .aload_n 0, 1, 0, 0, 0, 0),
  (6, .getfield 41, 3, 10, 5, 1, 138),
  (9, .aload_n 0, 1, 0, 0, 0, 0),
  (10, .getfield 37, 3, 10, 4, 1, 137),
  (13, .invokevirtual 222, 3, 0, 0, 3, 136),
  (16, .aload_n 0, 1, 0, 0, 0, 0),
  (17, .getfield 47, 3, 10, 6, 1, 139),
  (20, .aload_n 0, 1, 0, 0, 0, 0),
  (21, .getfield 41, 3, 10, 5, 1, 138),
  (24, .iload_n 1, 1, 0, 0, 0, 0),
  (25, .invokevirtual 218, 3, 0, 0, 3, 16),
  (28, .pop, 1, 0, 0, 0, 0),
  (29, .aload_n 0, 1, 0, 0, 0, 0),
  (30, .getfield 41, 3, 10, 5, 1, 138),
  (33, .getfield 103, 3, 1, 8, 1, 62),
  (36, .ireturn, 1, 0, 0, 0, 0)], 3, 156)
set_option maxRecDepth 100000 in
theorem ok_X12_usedAfter : q_okM m_X12_usedAfter = true := by decide +kernel
theorem cv_X12_usedAfter : q_cvP m_X12_usedAfter 1 := ⟨(q_gw_in (k := 3) (i := 154) (by decide +kernel) rfl), (q_gw_in (k := 3) (i := 155) (by decide +kernel) rfl), (q_gw_in (k := 0) (i := 14) (by decide +kernel) rfl), ⟨by decide +kernel, by decide +kernel⟩, by decide +kernel⟩
def m_X12_usedIfCopied : q_M := (yX12_usedIfCopied, cX12_usedIfCopied, 1, (Option.some Jvm.ClassFile.FieldType.int), [
  (0, .aload_n 0, 1, 0, 0, 0, 0),
  (1, .getfield 41, 3, 10, 5, 1, 138),
  (4, .aload_n 0, 1, 0, 0, 0, 0),
  (5, .getfield 37, 3, 10, 4, 1, 137),
  (8, .invokevirtual 222, 3, 0, 0, 3, 136),
  (11, .aload_n 0, 1, 0, 0, 0, 0),
  (12, .getfield 41, 3, 10, 5, 1, 138),
  (15, .invokevirtual 209, 3, 0, 0, 2, 151),
  (18, .pop, 1, 0, 0, 0, 0),
  (19, .aload_n 0, 1, 0, 0, 0, 0),
  (20, .getfield 41, 3, 10, 5, 1, 138),
  (23, .getfield 103, 3, 1, 8, 1, 62),
  (26, .ireturn, 1, 0, 0, 0, 0)], 3, 160)
set_option maxRecDepth 100000 in
theorem ok_X12_usedIfCopied : q_okM m_X12_usedIfCopied = true := by decide +kernel
theorem cv_X12_usedIfCopied : q_cvP m_X12_usedIfCopied 0 := ⟨(q_gw_in (k := 3) (i := 158) (by decide +kernel) rfl), (q_gw_in (k := 3) (i := 159) (by decide +kernel) rfl), (q_gw_in (k := 0) (i := 14) (by decide +kernel) rfl), ⟨by decide +kernel, by decide +kernel⟩, by decide +kernel⟩
def m_X12_meanSize : q_M := (yX12_meanSize, cX12_meanSize, 2, (Option.some Jvm.ClassFile.FieldType.double), [
  (0, .aload_n 0, 1, 0, 0, 0, 0),
  (1, .getfield 37, 3, 10, 4, 1, 137),
  (4, .invokevirtual 118, 3, 0, 0, 1, 181),
  (7, .istore_n 1, 1, 0, 0, 0, 0),
  (8, .iload_n 1, 1, 0, 0, 0, 0),
  (9, .ifCond .ne 5, 3, 8, 0, 0, 0),
  (12, .dconst 0, 1, 0, 0, 0, 0),
  (13, .dreturn, 1, 0, 0, 0, 0),
  (14, .aload_n 0, 1, 0, 0, 0, 0),
  (15, .getfield 37, 3, 10, 4, 1, 137),
  (18, .getfield 103, 3, 1, 8, 1, 62),
  (21, .aload_n 0, 1, 0, 0, 0, 0),
  (22, .getfield 37, 3, 10, 4, 1, 137),
  (25, .getfield 106, 3, 1, 1, 1, 50),
  (28, .invokevirtual 110, 3, 0, 0, 3, 191),
  (31, .iadd, 1, 0, 0, 0, 0),
  (32, .i2d, 1, 0, 0, 0, 0),
  (33, .iload_n 1, 1, 0, 0, 0, 0),
  (34, .i2d, 1, 0, 0, 0, 0),
  (35, .ddiv, 1, 0, 0, 0, 0),
  (36, .dreturn, 1, 0, 0, 0, 0)], 4, 135)
set_option maxRecDepth 100000 in
theorem ok_X12_meanSize : q_okM m_X12_meanSize = true := by decide +kernel
theorem cv_X12_meanSize : q_cvP m_X12_meanSize 0 := ⟨(q_gw_in (k := 4) (i := 133) (by decide +kernel) rfl), (q_gw_in (k := 4) (i := 134) (by decide +kernel) rfl), (q_gw_in (k := 0) (i := 14) (by decide +kernel) rfl), ⟨by decide +kernel, by decide +kernel⟩, by decide +kernel⟩
def m_X12_digest : q_M := (yX12_digest, cX12_digest, 5, (Option.some Jvm.ClassFile.FieldType.long), [
  (0, .aload_n 0, 1, 0, 0, 0, 0),
  (1, .invokevirtual 226, 3, 0, 0, 3, 165),
  (4, .lstore_n 1, 1, 0, 0, 0, 0),
  (5, .iconst 0, 1, 0, 0, 0, 0),
  (6, .istore_n 3, 1, 0, 0, 0, 0),
  (7, .iload_n 3, 1, 0, 0, 0, 0),
  (8, .aload_n 0, 1, 0, 0, 0, 0),
  (9, .getfield 37, 3, 10, 4, 1, 137),
  (12, .getfield 230, 3, 1, 7, 1, 59),
  (15, .if_icmp .ge 23, 3, 20, 0, 0, 0),
  (18, .aload_n 0, 1, 0, 0, 0, 0),
  (19, .lload_n 1, 1, 0, 0, 0, 0),
  (20, .aload_n 0, 1, 0, 0, 0, 0),
  (21, .getfield 37, 3, 10, 4, 1, 137),
  (24, .iload_n 3, 1, 0, 0, 0, 0),
  (25, .invokevirtual 233, 3, 0, 0, 3, 212),
  (28, .invokevirtual 236, 3, 0, 0, 3, 216),
  (31, .lstore_n 1, 1, 0, 0, 0, 0),
  (32, .iinc 3 1, 3, 1, 0, 0, 0),
  (35, .goto (-28), 3, 5, 0, 0, 0),
  (38, .iconst 0, 1, 0, 0, 0, 0),
  (39, .istore_n 3, 1, 0, 0, 0, 0),
  (40, .iload_n 3, 1, 0, 0, 0, 0),
  (41, .aload_n 0, 1, 0, 0, 0, 0),
  (42, .getfield 16, 3, 10, 1, 1, 134),
  (45, .getfield 240, 3, 5, 1, 0, 109),
  (48, .if_icmp .ge 33, 3, 42, 0, 0, 0),
  (51, .aload_n 0, 1, 0, 0, 0, 0),
  (52, .getfield 37, 3, 10, 4, 1, 137),
  (55, .iload_n 3, 1, 0, 0, 0, 0),
  (56, .invokevirtual 243, 3, 0, 0, 3, 227),
  (59, .istore 4, 2, 0, 0, 0, 0),
  (61, .iload 4, 2, 0, 0, 0, 0),
  (63, .iconst (-1), 1, 1, 1, 0, 0),
  (64, .if_icmp .eq 11, 3, 40, 0, 0, 0),
  (67, .aload_n 0, 1, 0, 0, 0, 0),
  (68, .lload_n 1, 1, 0, 0, 0, 0),
  (69, .iload 4, 2, 0, 0, 0, 0),
  (71, .invokevirtual 236, 3, 0, 0, 3, 216),
  (74, .lstore_n 1, 1, 0, 0, 0, 0),
  (75, .iinc 3 1, 3, 1, 0, 0, 0),
  (78, .goto (-38), 3, 22, 0, 0, 0),
  (81, .iconst 0, 1, 0, 0, 0, 0),
  (82, .istore_n 3, 1, 0, 0, 0, 0),
  (83, .iload_n 3, 1, 0, 0, 0, 0),
  (84, .aload_n 0, 1, 0, 0, 0, 0),
  (85, .getfield 16, 3, 10, 1, 1, 134),
  (88, .getfield 85, 3, 5, 3, 0, 114),
  (91, .if_icmp .ge 29, 3, 63, 0, 0, 0),
  (94, .lload_n 1, 1, 0, 0, 0, 0),
  (95, .ldc2_w 246, 3, 31, 0, 3, 170),
  (98, .lmul, 1, 0, 0, 0, 0),
  (99, .aload_n 0, 1, 0, 0, 0, 0),
  (100, .aload_n 0, 1, 0, 0, 0, 0),
  (101, .getfield 37, 3, 10, 4, 1, 137),
  (104, .iload_n 3, 1, 0, 0, 0, 0),
  (105, .invokevirtual 138, 3, 0, 0, 2, 86),
  (108, .invokevirtual 248, 3, 0, 0, 3, 223),
  (111, .i2l, 1, 0, 0, 0, 0),
  (112, .ladd, 1, 0, 0, 0, 0),
  (113, .lstore_n 1, 1, 0, 0, 0, 0),
  (114, .iinc 3 1, 3, 1, 0, 0, 0),
  (117, .goto (-34), 3, 44, 0, 0, 0),
  (120, .lload_n 1, 1, 0, 0, 0, 0),
  (121, .lreturn, 1, 0, 0, 0, 0)], 3, 164)
set_option maxRecDepth 100000 in
theorem ok_X12_digest : q_okM m_X12_digest = true := by decide +kernel
theorem cv_X12_digest : q_cvP m_X12_digest 0 := ⟨(q_gw_in (k := 3) (i := 162) (by decide +kernel) rfl), (q_gw_in (k := 3) (i := 163) (by decide +kernel) rfl), (q_gw_in (k := 0) (i := 14) (by decide +kernel) rfl), ⟨by decide +kernel, by decide +kernel⟩, by decide +kernel⟩
def m_X12_append : q_M := (yX12_append, cX12_append, 3, (Option.none : Option Jvm.ClassFile.FieldType), [
  (0, .bipush 24, 2, 24, 0, 0, 0),
  (2, .istore_n 2, 1, 0, 0, 0, 0),
  (3, .iload_n 2, 1, 0, 0, 0, 0),
  (4, .ifCond .lt 49, 3, 28, 0, 0, 0),
  (7, .aload_n 0, 1, 0, 0, 0, 0),
  (8, .getfield 51, 3, 10, 7, 1, 140),
  (11, .ifCond .lt 36, 3, 26, 0, 0, 0),
  (14, .aload_n 0, 1, 0, 0, 0, 0),
  (15, .getfield 51, 3, 10, 7, 1, 140),
  (18, .sipush 2000, 3, 2000, 0, 0, 0),
  (21, .if_icmp .ge 26, 3, 26, 0, 0, 0),
  (24, .aload_n 0, 1, 0, 0, 0, 0),
  (25, .getfield 9, 3, 10, 0, 1, 133),
  (28, .aload_n 0, 1, 0, 0, 0, 0),
  (29, .getfield 51, 3, 10, 7, 1, 140),
  (32, .iload_n 1, 1, 0, 0, 0, 0),
  (33, .iload_n 2, 1, 0, 0, 0, 0),
  (34, .ishr, 1, 0, 0, 0, 0),
  (35, .i2b, 1, 0, 0, 0, 0),
  (36, .bastore, 1, 0, 0, 0, 0),
  (37, .aload_n 0, 1, 0, 0, 0, 0),
  (38, .dup, 1, 0, 0, 0, 0),
  (39, .getfield 51, 3, 10, 7, 1, 140),
  (42, .iconst 1, 1, 1, 0, 0, 0),
  (43, .iadd, 1, 0, 0, 0, 0),
  (44, .putfield 51, 3, 10, 7, 1, 140),
  (47, .iinc 2 (-8), 3, 8, 1, 0, 0),
  (50, .goto (-47), 3, 2, 0, 0, 0),
  (53, .return_, 1, 0, 0, 0, 0)], 4, 208)
set_option maxRecDepth 100000 in
theorem ok_X12_append : q_okM m_X12_append = true := by decide +kernel
theorem cv_X12_append : q_cvP m_X12_append 1 := ⟨(q_gw_in (k := 4) (i := 207) (by decide +kernel) rfl), (q_gw_in (k := 10) (i := 23) (by decide +kernel) rfl), (q_gw_in (k := 0) (i := 14) (by decide +kernel) rfl), ⟨by decide +kernel, by decide +kernel⟩, by decide +kernel⟩
def m_X12_checkHook : q_M := (yX12_checkHook, cX12_checkHook, 2, (Option.none : Option Jvm.ClassFile.FieldType), [
  (0, .iload_n 1, 1, 0, 0, 0, 0),
  (1, .ifCond .lt 14, 3, 7, 0, 0, 0),
  (4, .iload_n 1, 1, 0, 0, 0, 0),
  (5, .aload_n 0, 1, 0, 0, 0, 0),
  (6, .getfield 16, 3, 10, 1, 1, 134),
  (9, .getfield 85, 3, 5, 3, 0, 114),
  (12, .if_icmp .lt 13, 3, 12, 0, 0, 0),
  (15, .new 251, 3, 900, 0, 2, 19),
  (18, .dup, 1, 0, 0, 0, 0),
  (19, .ldc 253, 2, 0, 0, 0, 0),
  (21, .invokespecial 255, 3, 0, 0, 2, 61),
  (24, .athrow, 1, 0, 0, 0, 0),
  (25, .return_, 1, 0, 0, 0, 0)], 2, 18)
set_option maxRecDepth 100000 in
theorem ok_X12_checkHook : q_okM m_X12_checkHook = true := by decide +kernel
theorem cv_X12_checkHook : q_cvP m_X12_checkHook 1 := ⟨(q_gw_in (k := 2) (i := 17) (by decide +kernel) rfl), (q_gw_in (k := 10) (i := 2) (by decide +kernel) rfl), (q_gw_in (k := 0) (i := 14) (by decide +kernel) rfl), ⟨by decide +kernel, by decide +kernel⟩, by decide +kernel⟩
def m_X12_heldBale : q_M := (yX12_heldBale, cX12_heldBale, 3, (Option.some Jvm.ClassFile.FieldType.int), [
  (0, .aload_n 0, 1, 0, 0, 0, 0),
  (1, .iload_n 1, 1, 0, 0, 0, 0),
  (2, .invokevirtual 135, 3, 0, 0, 2, 15),
  (5, .aload_n 0, 1, 0, 0, 0, 0),
  (6, .getfield 37, 3, 10, 4, 1, 137),
  (9, .iload_n 1, 1, 0, 0, 0, 0),
  (10, .invokevirtual 138, 3, 0, 0, 2, 86),
  (13, .istore_n 2, 1, 0, 0, 0, 0),
  (14, .iload_n 2, 1, 0, 0, 0, 0),
  (15, .iconst (-1), 1, 1, 1, 0, 0),
  (16, .if_icmp .ne 13, 3, 16, 0, 0, 0),
  (19, .new 58, 3, 900, 0, 2, 95),
  (22, .dup, 1, 0, 0, 0, 0),
  (23, .ldc 207, 2, 0, 0, 0, 0),
  (25, .invokespecial 62, 3, 0, 0, 2, 105),
  (28, .athrow, 1, 0, 0, 0, 0),
  (29, .iload_n 2, 1, 0, 0, 0, 0),
  (30, .ireturn, 1, 0, 0, 0, 0)], 2, 94)
set_option maxRecDepth 100000 in
theorem ok_X12_heldBale : q_okM m_X12_heldBale = true := by decide +kernel
theorem cv_X12_heldBale : q_cvP m_X12_heldBale 1 := ⟨(q_gw_in (k := 2) (i := 93) (by decide +kernel) rfl), (q_gw_in (k := 10) (i := 4) (by decide +kernel) rfl), (q_gw_in (k := 0) (i := 14) (by decide +kernel) rfl), ⟨by decide +kernel, by decide +kernel⟩, by decide +kernel⟩
def m_X12_checkWork : q_M := (yX12_checkWork, cX12_checkWork, 2, (Option.none : Option Jvm.ClassFile.FieldType), [
  (0, .iload_n 1, 1, 0, 0, 0, 0),
  (1, .iconst 1, 1, 1, 0, 0, 0),
  (2, .if_icmp .lt 9, 3, 6, 0, 0, 0),
  (5, .iload_n 1, 1, 0, 0, 0, 0),
  (6, .bipush 100, 2, 100, 0, 0, 0),
  (8, .if_icmp .le 14, 3, 11, 0, 0, 0),
  (11, .new 69, 3, 900, 0, 2, 239),
  (14, .dup, 1, 0, 0, 0, 0),
  (15, .ldc_w 256, 3, 0, 0, 0, 0),
  (18, .invokespecial 73, 3, 0, 0, 3, 9),
  (21, .athrow, 1, 0, 0, 0, 0),
  (22, .aload_n 0, 1, 0, 0, 0, 0),
  (23, .getfield 16, 3, 10, 1, 1, 134),
  (26, .getfield 88, 3, 5, 4, 0, 119),
  (29, .ifCond .ne 14, 3, 20, 0, 0, 0),
  (32, .new 58, 3, 900, 0, 2, 95),
  (35, .dup, 1, 0, 0, 0, 0),
  (36, .ldc_w 258, 3, 0, 0, 0, 0),
  (39, .invokespecial 62, 3, 0, 0, 2, 105),
  (42, .athrow, 1, 0, 0, 0, 0),
  (43, .return_, 1, 0, 0, 0, 0)], 2, 238)
set_option maxRecDepth 100000 in
theorem ok_X12_checkWork : q_okM m_X12_checkWork = true := by decide +kernel
theorem cv_X12_checkWork : q_cvP m_X12_checkWork 1 := ⟨(q_gw_in (k := 2) (i := 237) (by decide +kernel) rfl), (q_gw_in (k := 10) (i := 8) (by decide +kernel) rfl), (q_gw_in (k := 0) (i := 14) (by decide +kernel) rfl), ⟨by decide +kernel, by decide +kernel⟩, by decide +kernel⟩
def m_X12_digestOfCounts : q_M := (yX12_digestOfCounts, cX12_digestOfCounts, 3, (Option.some Jvm.ClassFile.FieldType.long), [
  (0, .ldc2_w 260, 3, 971, 0, 3, 169),
  (3, .lstore_n 1, 1, 0, 0, 0, 0),
  (4, .lload_n 1, 1, 0, 0, 0, 0),
  (5, .ldc2_w 246, 3, 31, 0, 3, 170),
  (8, .lmul, 1, 0, 0, 0, 0),
  (9, .aload_n 0, 1, 0, 0, 0, 0),
  (10, .invokevirtual 262, 3, 0, 0, 3, 171),
  (13, .i2l, 1, 0, 0, 0, 0),
  (14, .ladd, 1, 0, 0, 0, 0),
  (15, .lstore_n 1, 1, 0, 0, 0, 0),
  (16, .lload_n 1, 1, 0, 0, 0, 0),
  (17, .ldc2_w 246, 3, 31, 0, 3, 170),
  (20, .lmul, 1, 0, 0, 0, 0),
  (21, .aload_n 0, 1, 0, 0, 0, 0),
  (22, .invokevirtual 265, 3, 0, 0, 3, 172),
  (25, .i2l, 1, 0, 0, 0, 0),
  (26, .ladd, 1, 0, 0, 0, 0),
  (27, .lstore_n 1, 1, 0, 0, 0, 0),
  (28, .lload_n 1, 1, 0, 0, 0, 0),
  (29, .ldc2_w 246, 3, 31, 0, 3, 170),
  (32, .lmul, 1, 0, 0, 0, 0),
  (33, .aload_n 0, 1, 0, 0, 0, 0),
  (34, .invokevirtual 268, 3, 0, 0, 3, 173),
  (37, .i2l, 1, 0, 0, 0, 0),
  (38, .ladd, 1, 0, 0, 0, 0),
  (39, .lstore_n 1, 1, 0, 0, 0, 0),
  (40, .lload_n 1, 1, 0, 0, 0, 0),
  (41, .ldc2_w 246, 3, 31, 0, 3, 170),
  (44, .lmul, 1, 0, 0, 0, 0),
  (45, .aload_n 0, 1, 0, 0, 0, 0),
  (46, .invokevirtual 271, 3, 0, 0, 3, 177),
  (49, .i2l, 1, 0, 0, 0, 0),
  (50, .ladd, 1, 0, 0, 0, 0),
  (51, .lstore_n 1, 1, 0, 0, 0, 0),
  (52, .lload_n 1, 1, 0, 0, 0, 0),
  (53, .ldc2_w 246, 3, 31, 0, 3, 170),
  (56, .lmul, 1, 0, 0, 0, 0),
  (57, .aload_n 0, 1, 0, 0, 0, 0),
  (58, .invokevirtual 274, 3, 0, 0, 3, 181),
  (61, .i2l, 1, 0, 0, 0, 0),
  (62, .ladd, 1, 0, 0, 0, 0),
  (63, .lstore_n 1, 1, 0, 0, 0, 0),
  (64, .lload_n 1, 1, 0, 0, 0, 0),
  (65, .ldc2_w 246, 3, 31, 0, 3, 170),
  (68, .lmul, 1, 0, 0, 0, 0),
  (69, .aload_n 0, 1, 0, 0, 0, 0),
  (70, .invokevirtual 277, 3, 0, 0, 3, 182),
  (73, .i2l, 1, 0, 0, 0, 0),
  (74, .ladd, 1, 0, 0, 0, 0),
  (75, .lstore_n 1, 1, 0, 0, 0, 0),
  (76, .lload_n 1, 1, 0, 0, 0, 0),
  (77, .ldc2_w 246, 3, 31, 0, 3, 170),
  (80, .lmul, 1, 0, 0, 0, 0),
  (81, .aload_n 0, 1, 0, 0, 0, 0),
  (82, .invokevirtual 280, 3, 0, 0, 3, 186),
  (85, .i2l, 1, 0, 0, 0, 0),
  (86, .ladd, 1, 0, 0, 0, 0),
  (87, .lstore_n 1, 1, 0, 0, 0, 0),
  (88, .lload_n 1, 1, 0, 0, 0, 0),
  (89, .ldc2_w 246, 3, 31, 0, 3, 170),
  (92, .lmul, 1, 0, 0, 0, 0),
  (93, .aload_n 0, 1, 0, 0, 0, 0),
  (94, .invokevirtual 283, 3, 0, 0, 3, 187),
  (97, .i2l, 1, 0, 0, 0, 0),
  (98, .ladd, 1, 0, 0, 0, 0),
  (99, .lstore_n 1, 1, 0, 0, 0, 0),
  (100, .lload_n 1, 1, 0, 0, 0, 0),
  (101, .ldc2_w 246, 3, 31, 0, 3, 170),
  (104, .lmul, 1, 0, 0, 0, 0),
  (105, .aload_n 0, 1, 0, 0, 0, 0),
  (106, .invokevirtual 286, 3, 0, 0, 3, 196),
  (109, .i2l, 1, 0, 0, 0, 0),
  (110, .ladd, 1, 0, 0, 0, 0),
  (111, .lstore_n 1, 1, 0, 0, 0, 0),
  (112, .lload_n 1, 1, 0, 0, 0, 0),
  (113, .ldc2_w 246, 3, 31, 0, 3, 170),
  (116, .lmul, 1, 0, 0, 0, 0),
  (117, .aload_n 0, 1, 0, 0, 0, 0),
  (118, .invokevirtual 289, 3, 0, 0, 3, 204),
  (121, .i2l, 1, 0, 0, 0, 0),
  (122, .ladd, 1, 0, 0, 0, 0),
  (123, .lstore_n 1, 1, 0, 0, 0, 0),
  (124, .lload_n 1, 1, 0, 0, 0, 0),
  (125, .ldc2_w 246, 3, 31, 0, 3, 170),
  (128, .lmul, 1, 0, 0, 0, 0),
  (129, .aload_n 0, 1, 0, 0, 0, 0),
  (130, .invokevirtual 292, 3, 0, 0, 3, 205),
  (133, .i2l, 1, 0, 0, 0, 0),
  (134, .ladd, 1, 0, 0, 0, 0),
  (135, .lstore_n 1, 1, 0, 0, 0, 0),
  (136, .lload_n 1, 1, 0, 0, 0, 0),
  (137, .ldc2_w 246, 3, 31, 0, 3, 170),
  (140, .lmul, 1, 0, 0, 0, 0),
  (141, .aload_n 0, 1, 0, 0, 0, 0),
  (142, .getfield 37, 3, 10, 4, 1, 137),
  (145, .invokevirtual 123, 3, 0, 0, 1, 193),
  (148, .i2l, 1, 0, 0, 0, 0),
  (149, .ladd, 1, 0, 0, 0, 0),
  (150, .lstore_n 1, 1, 0, 0, 0, 0),
  (151, .lload_n 1, 1, 0, 0, 0, 0),
  (152, .ldc2_w 246, 3, 31, 0, 3, 170),
  (155, .lmul, 1, 0, 0, 0, 0),
  (156, .aload_n 0, 1, 0, 0, 0, 0),
  (157, .invokevirtual 295, 3, 0, 0, 3, 206),
  (160, .i2l, 1, 0, 0, 0, 0),
  (161, .ladd, 1, 0, 0, 0, 0),
  (162, .lstore_n 1, 1, 0, 0, 0, 0),
  (163, .lload_n 1, 1, 0, 0, 0, 0),
  (164, .ldc2_w 246, 3, 31, 0, 3, 170),
  (167, .lmul, 1, 0, 0, 0, 0),
  (168, .aload_n 0, 1, 0, 0, 0, 0),
  (169, .invokevirtual 298, 3, 0, 0, 3, 207),
  (172, .i2l, 1, 0, 0, 0, 0),
  (173, .ladd, 1, 0, 0, 0, 0),
  (174, .lstore_n 1, 1, 0, 0, 0, 0),
  (175, .lload_n 1, 1, 0, 0, 0, 0),
  (176, .ldc2_w 246, 3, 31, 0, 3, 170),
  (179, .lmul, 1, 0, 0, 0, 0),
  (180, .aload_n 0, 1, 0, 0, 0, 0),
  (181, .invokevirtual 301, 3, 0, 0, 3, 208),
  (184, .i2l, 1, 0, 0, 0, 0),
  (185, .ladd, 1, 0, 0, 0, 0),
  (186, .lreturn, 1, 0, 0, 0, 0)], 3, 168)
set_option maxRecDepth 100000 in
theorem ok_X12_digestOfCounts : q_okM m_X12_digestOfCounts = true := by decide +kernel
theorem cv_X12_digestOfCounts : q_cvP m_X12_digestOfCounts 0 := ⟨(q_gw_in (k := 3) (i := 167) (by decide +kernel) rfl), (q_gw_in (k := 10) (i := 16) (by decide +kernel) rfl), (q_gw_in (k := 0) (i := 14) (by decide +kernel) rfl), ⟨by decide +kernel, by decide +kernel⟩, by decide +kernel⟩
def m_X12_digestWithBale : q_M := (yX12_digestWithBale, cX12_digestWithBale, 8, (Option.some Jvm.ClassFile.FieldType.long), [
  (0, .aload_n 0, 1, 0, 0, 0, 0),
  (1, .getfield 37, 3, 10, 4, 1, 137),
  (4, .getfield 142, 3, 1, 0, 1, 48),
  (7, .astore 4, 2, 0, 0, 0, 0),
  (9, .lload_n 1, 1, 0, 0, 0, 0),
  (10, .lstore 5, 2, 0, 0, 0, 0),
  (12, .lload 5, 2, 0, 0, 0, 0),
  (14, .ldc2_w 246, 3, 31, 0, 3, 170),
  (17, .lmul, 1, 0, 0, 0, 0),
  (18, .aload 4, 2, 0, 0, 0, 0),
  (20, .iload_n 3, 1, 0, 0, 0, 0),
  (21, .invokevirtual 149, 3, 0, 0, 3, 220),
  (24, .i2l, 1, 0, 0, 0, 0),
  (25, .ladd, 1, 0, 0, 0, 0),
  (26, .lstore 5, 2, 0, 0, 0, 0),
  (28, .lload 5, 2, 0, 0, 0, 0),
  (30, .ldc2_w 246, 3, 31, 0, 3, 170),
  (33, .lmul, 1, 0, 0, 0, 0),
  (34, .aload 4, 2, 0, 0, 0, 0),
  (36, .iload_n 3, 1, 0, 0, 0, 0),
  (37, .invokevirtual 154, 3, 0, 0, 2, 111),
  (40, .i2l, 1, 0, 0, 0, 0),
  (41, .ladd, 1, 0, 0, 0, 0),
  (42, .lstore 5, 2, 0, 0, 0, 0),
  (44, .lload 5, 2, 0, 0, 0, 0),
  (46, .ldc2_w 246, 3, 31, 0, 3, 170),
  (49, .lmul, 1, 0, 0, 0, 0),
  (50, .aload 4, 2, 0, 0, 0, 0),
  (52, .iload_n 3, 1, 0, 0, 0, 0),
  (53, .invokevirtual 160, 3, 0, 0, 2, 119),
  (56, .i2l, 1, 0, 0, 0, 0),
  (57, .ladd, 1, 0, 0, 0, 0),
  (58, .lstore 5, 2, 0, 0, 0, 0),
  (60, .lload 5, 2, 0, 0, 0, 0),
  (62, .ldc2_w 246, 3, 31, 0, 3, 170),
  (65, .lmul, 1, 0, 0, 0, 0),
  (66, .aload 4, 2, 0, 0, 0, 0),
  (68, .iload_n 3, 1, 0, 0, 0, 0),
  (69, .invokevirtual 157, 3, 0, 0, 3, 221),
  (72, .i2l, 1, 0, 0, 0, 0),
  (73, .ladd, 1, 0, 0, 0, 0),
  (74, .lstore 5, 2, 0, 0, 0, 0),
  (76, .iconst 0, 1, 0, 0, 0, 0),
  (77, .istore 7, 2, 0, 0, 0, 0),
  (79, .iload 7, 2, 0, 0, 0, 0),
  (81, .aload 4, 2, 0, 0, 0, 0),
  (83, .iload_n 3, 1, 0, 0, 0, 0),
  (84, .invokevirtual 157, 3, 0, 0, 3, 221),
  (87, .if_icmp .ge 31, 3, 63, 0, 0, 0),
  (90, .lload 5, 2, 0, 0, 0, 0),
  (92, .ldc2_w 246, 3, 31, 0, 3, 170),
  (95, .lmul, 1, 0, 0, 0, 0),
  (96, .aload_n 0, 1, 0, 0, 0, 0),
  (97, .aload 4, 2, 0, 0, 0, 0),
  (99, .iload_n 3, 1, 0, 0, 0, 0),
  (100, .iload 7, 2, 0, 0, 0, 0),
  (102, .invokevirtual 173, 3, 0, 0, 3, 222),
  (105, .invokevirtual 248, 3, 0, 0, 3, 223),
  (108, .i2l, 1, 0, 0, 0, 0),
  (109, .ladd, 1, 0, 0, 0, 0),
  (110, .lstore 5, 2, 0, 0, 0, 0),
  (112, .iinc 7 1, 3, 1, 0, 0, 0),
  (115, .goto (-36), 3, 44, 0, 0, 0),
  (118, .lload 5, 2, 0, 0, 0, 0),
  (120, .lreturn, 1, 0, 0, 0, 0)], 3, 219)
set_option maxRecDepth 100000 in
theorem ok_X12_digestWithBale : q_okM m_X12_digestWithBale = true := by decide +kernel
theorem cv_X12_digestWithBale : q_cvP m_X12_digestWithBale 2 := ⟨(q_gw_in (k := 3) (i := 218) (by decide +kernel) rfl), (q_gw_in (k := 10) (i := 17) (by decide +kernel) rfl), (q_gw_in (k := 0) (i := 14) (by decide +kernel) rfl), ⟨by decide +kernel, by decide +kernel⟩, by decide +kernel⟩
def m_X12_digestOfLead : q_M := (yX12_digestOfLead, cX12_digestOfLead, 3, (Option.some Jvm.ClassFile.FieldType.int), [
  (0, .iload_n 1, 1, 0, 0, 0, 0),
  (1, .iconst (-1), 1, 1, 1, 0, 0),
  (2, .if_icmp .ne 5, 3, 5, 0, 0, 0),
  (5, .iconst 0, 1, 0, 0, 0, 0),
  (6, .ireturn, 1, 0, 0, 0, 0),
  (7, .iconst 1, 1, 1, 0, 0, 0),
  (8, .aload_n 0, 1, 0, 0, 0, 0),
  (9, .getfield 37, 3, 10, 4, 1, 137),
  (12, .getfield 142, 3, 1, 0, 1, 48),
  (15, .iload_n 1, 1, 0, 0, 0, 0),
  (16, .invokevirtual 149, 3, 0, 0, 3, 220),
  (19, .iadd, 1, 0, 0, 0, 0),
  (20, .istore_n 2, 1, 0, 0, 0, 0),
  (21, .aload_n 0, 1, 0, 0, 0, 0),
  (22, .getfield 37, 3, 10, 4, 1, 137),
  (25, .getfield 142, 3, 1, 0, 1, 48),
  (28, .iload_n 1, 1, 0, 0, 0, 0),
  (29, .invokevirtual 163, 3, 0, 0, 2, 127),
  (32, .ifCond .eq 10, 3, 23, 0, 0, 0),
  (35, .iload_n 2, 1, 0, 0, 0, 0),
  (36, .bipush 100, 2, 100, 0, 0, 0),
  (38, .iadd, 1, 0, 0, 0, 0),
  (39, .goto 4, 3, 24, 0, 0, 0),
  (42, .iload_n 2, 1, 0, 0, 0, 0),
  (43, .ireturn, 1, 0, 0, 0, 0)], 3, 226)
set_option maxRecDepth 100000 in
theorem ok_X12_digestOfLead : q_okM m_X12_digestOfLead = true := by decide +kernel
theorem cv_X12_digestOfLead : q_cvP m_X12_digestOfLead 1 := ⟨(q_gw_in (k := 3) (i := 225) (by decide +kernel) rfl), (q_gw_in (k := 10) (i := 18) (by decide +kernel) rfl), (q_gw_in (k := 0) (i := 14) (by decide +kernel) rfl), ⟨by decide +kernel, by decide +kernel⟩, by decide +kernel⟩
