/-! THE WORLD of an abstract heap, and the judgement -/
/-- kinds of fields by class, variant, field: 0 a number, 1 a reference, 2 a constant, 9 anything -/
def q_kdt : List (List (List Nat)) := [
  [[1, 1, 1, 1, 1, 1]],
  [[1, 1, 1, 1, 1, 1, 1, 0, 0, 0, 0, 0, 0, 0, 0], [1, 1, 1, 1, 1, 1, 9, 0, 0, 0, 0, 0, 0, 0, 0]],
  [[1]],
  [[1, 1, 0]],
  [[1, 0, 0]],
  [[0, 0, 0, 0, 0, 0, 1, 1, 1]],
  [[1, 1, 1, 0, 0, 0], [1, 1, 9, 0, 0, 0]],
  [[1, 0]],
  [[2, 0, 0, 0, 0, 0, 0, 0]],
  [[1, 1, 1, 1, 1, 0, 0]],
  [[1, 1, 1, 1, 1, 1, 1, 0, 0]],
  [[0, 0, 0, 3, 1]],
  [[1, 1, 1, 0, 0, 0, 1, 0, 0, 0, 0, 0, 0]],
  [[1, 4, 0, 3]],
  [[1, 4, 3, 0]]]
def q_kd (ci v k : Nat) : Nat := match q_nth q_kdt ci with
  | some t => match q_nth t v with
    | some r => match q_nth r k with
      | some x => x
      | none => 9
    | none => 9
  | none => 9
def q_nf (ci : Nat) : Nat := match q_nth vwCl ci with
  | some c => c.2.2
  | none => 0
def q_vz (ρ : Nat → Nat) : Value → Value
  | .ref a => .ref (ρ a)
  | v => v
def q_fv (ρ : Nat → Nat) (h : q_H) (kd a j : Nat) : Value := match kd with
  | 0 => .int (q_I h a j)
  | 3 => .int (q_I h a j)
  | 4 => .int (q_I h a j)
  | 1 => va_rf ((q_R h a j).map ρ)
  | _ => va_rf ((q_E h a j).map ρ)
/-- what stands at an id -/
def q_cr (cA : Nat → ClassId) (ρ : Nat → Nat) (h : q_H) (a : Nat) (e : va_E) : q_Sh → Prop
  | (0, ci, v) => ∃ fs : List Value, e = .inr (ci, fs) ∧ fs.length = q_nf ci ∧ ∀ j, j < q_nf ci → q_kd ci v j ≠ 9 → fs[j]? = some (q_fv ρ h (q_kd ci v j) a j)
  | (1, t, n) => e = .inl (cA t, n, .inl (q_I h a))
  | (2, t, n) => e = .inl (cA t, n, .inr (.inl (q_L h a)))
  | (3, t, n) => e = .inl (cA t, n, .inr (.inr (.inr (.inr (fun i => (q_R h a i).map ρ)))))
  | (_, t, n) => e = .inl (cA t, n, .inr (.inr (.inr (.inr (fun i => (q_E h a i).map ρ)))))
def q_Wd (D : va_G) (cA : Nat → ClassId) (ρ : Nat → Nat) (h : q_H) (A : Nat → Prop) (H : Heap) : Prop :=
  ∃ ws : va_W, ws.length + 400 = q_nx h ∧ (∀ (k : Nat) (q : Nat × va_E), ws[k]? = some q → q.1 = ρ (400 + k) ∧ q_cr cA ρ h (400 + k) q.2 (q_sh h (400 + k))) ∧ va_P D vwCl ws H ∧ va_D A ws
/-- references stay within -/
def q_clo (h : q_H) : Prop := (∀ a j b, q_R h a j = some b → b < q_nx h) ∧ (∀ a j b, q_E h a j = some b → b < 49) ∧ (∀ a, q_nx h ≤ a → q_sh h a = (9, 0, 0))
theorem q_lt {h : q_H} (hC : q_clo h) {a t c n : Nat} (hs : q_sh h a = (t, c, n)) (ht : t ≠ 9) : a < q_nx h := by
  rcases Nat.lt_or_ge a (q_nx h) with h1 | h1
  · exact h1
  · have h2 := hs.symm.trans (hC.2.2 a h1)
    cases h2
    exact absurd rfl ht
def q_vcl (h : q_H) (v : Value) : Prop := ∀ a, v = .ref a → a < q_nx h
abbrev q_Ty (cA : Nat → ClassId) : List (ClassId × FieldType) := [(cA 0, .int), (cA 1, .byte), (cA 2, .boolean), (cA 3, .int), (cA 4, .object "HayBarn$Step"), (cA 5, .object "HayBarn$Sign"), (cA 6, .object "HayBarnLaw$Bale"), (cA 7, .array .int), (cA 8, .object "java/lang/String")]
/-- the claim's launch and script -/
abbrev q_G : Type := Launch × List Int32
def q_sw (j : Nat) : Int32 := [0, 0, 9, 0, 21, 1, 2, 3, 4, 32, 33, 34, 35, 0, 0, 0, 0, 0, 0, 0, 10, 11, 12, 13, 14, 15, 16, 7, 8, 5, 30, 31, 19, 20, 18, 0, 6, 0, 0, 0, 22, 17, 23, 24, 25, 26, 27, 28, 29].getD j 0
def q_str : Nat → List Int32
  | 100 => []
  | 101 => []
  | 102 => []
  | 103 => []
  | 104 => []
  | 105 => [98, 97, 114, 110]
  | 106 => [108, 111, 102, 116]
  | 107 => [112, 114, 111, 109, 111, 116, 101]
  | 108 => [104, 111, 111, 107]
  | 109 => [109, 97, 107, 101]
  | 110 => [116, 105, 101]
  | 111 => [117, 110, 116, 105, 101]
  | 112 => [102, 111, 108, 108, 111, 119]
  | 113 => [100, 114, 111, 112]
  | 114 => [114, 111, 112, 101, 115]
  | 115 => [114, 111, 112, 101]
  | 116 => [116, 111]
  | 117 => [98, 121]
  | 118 => [111, 102]
  | 119 => [119, 104, 101, 110]
  | 120 => [115, 116, 101, 112]
  | 121 => [117, 115, 101, 100]
  | 122 => [102, 114, 101, 101]
  | 123 => [99, 111, 112, 105, 101, 115]
  | 124 => [98, 97, 108, 101, 115]
  | 125 => [115, 105, 122, 101]
  | 126 => [97, 103, 101]
  | 127 => [104, 97, 115]
  | 128 => [115, 97, 109, 101]
  | 129 => [110, 111, 116]
  | 130 => [97, 110, 100]
  | 131 => [111, 114]
  | 132 => [109, 105, 110]
  | 133 => [109, 97, 120]
  | 134 => [40]
  | 135 => [41]
  | 136 => [91]
  | 137 => [93]
  | 138 => [59]
  | 139 => [44]
  | 140 => [43]
  | 141 => [45]
  | 142 => [42]
  | 143 => [47]
  | 144 => [60]
  | 145 => [62]
  | 146 => [61]
  | 147 => [60, 61]
  | 148 => [62, 61]
  | 150 => [98, 97, 114, 110]
  | 151 => [108, 111, 102, 116]
  | 152 => [112, 114, 111, 109, 111, 116, 101]
  | 153 => [104, 111, 111, 107]
  | 154 => [109, 97, 107, 101]
  | 155 => [115, 105, 122, 101]
  | 156 => [114, 111, 112, 101, 115]
  | 157 => [116, 105, 101]
  | 158 => [114, 111, 112, 101]
  | 159 => [116, 111]
  | 160 => [117, 110, 116, 105, 101]
  | 161 => [102, 111, 108, 108, 111, 119]
  | 162 => [98, 121]
  | 163 => [111, 102]
  | 164 => [100, 114, 111, 112]
  | 165 => [119, 104, 101, 110]
  | 166 => [115, 116, 101, 112]
  | 167 => [117, 115, 101, 100]
  | 168 => [102, 114, 101, 101]
  | 169 => [99, 111, 112, 105, 101, 115]
  | 170 => [98, 97, 108, 101, 115]
  | 171 => [97, 103, 101]
  | 172 => [104, 97, 115]
  | 173 => [115, 97, 109, 101]
  | 174 => [110, 111, 116]
  | 175 => [97, 110, 100]
  | 176 => [111, 114]
  | 177 => [109, 105, 110]
  | 178 => [109, 97, 120]
  | 180 => [40, 41, 91, 93, 59, 44, 43, 45, 42, 47, 60, 62, 61]
  | 250 => [98, 97, 114, 110, 32]
  | 251 => [59, 32, 112, 114, 111, 109, 111, 116, 101, 32]
  | 252 => [59, 108, 111, 102, 116, 32]
  | 253 => [59, 10]
  | 254 => [104, 111, 111, 107, 32, 104]
  | 255 => [59]
  | 256 => [32, 104]
  | 257 => []
  | 258 => [115, 116, 101, 112, 45, 115, 116, 101, 112, 47, 55, 42, 55]
  | 259 => [97, 103, 101, 32, 111, 102]
  | 260 => [43]
  | 261 => [109, 97, 107, 101]
  | 262 => [32, 115, 105, 122, 101, 32]
  | 263 => [32, 114, 111, 112, 101, 115, 32]
  | 264 => [116, 105, 101]
  | 265 => [32, 114, 111, 112, 101, 32]
  | 266 => [32, 116, 111]
  | 267 => [117, 110, 116, 105, 101]
  | 268 => [102, 111, 108, 108, 111, 119]
  | 269 => [32, 98, 121]
  | 270 => [100, 114, 111, 112]
  | 271 => [32, 119, 104, 101, 110, 32, 117, 115, 101, 100, 62]
  | 272 => [32, 119, 104, 101, 110, 32, 104, 97, 115]
  | 273 => [32, 119, 104, 101, 110, 32, 110, 111, 116, 32, 115, 97, 109, 101]
  | 274 => [32, 119, 104, 101, 110, 32, 115, 116, 101, 112, 45, 115, 116, 101, 112, 47, 51, 42, 51, 61]
  | 275 => [32, 119, 104, 101, 110, 32, 102, 114, 101, 101, 60, 115, 105, 122, 101, 32, 111, 102]
  | 276 => [32, 111, 114, 32, 99, 111, 112, 105, 101, 115, 60]
  | 277 => [32, 119, 104, 101, 110, 32, 91, 98, 97, 108, 101, 115, 60]
  | 278 => [93, 32, 97, 110, 100, 32, 97, 103, 101, 32, 111, 102]
  | 279 => [60, 61, 49]
  | _ => []
def q_isStr (i : Nat) : Bool := (Nat.ble 100 i && Nat.blt i 149) || (Nat.ble 250 i && Nat.blt i 280)
/-- the law's own texts: place, text, id -/
def q_lit : List (Nat × String × Nat) := [
  (47, "barn ", 250),
  (62, "; promote ", 251),
  (67, ";loft ", 252),
  (72, ";\n", 253),
  (78, "hook h", 254),
  (80, ";", 255),
  (97, " h", 256),
  (103, "", 257),
  (105, "step-step/7*7", 258),
  (107, "age of", 259),
  (109, "+", 260),
  (111, "make", 261),
  (113, " size ", 262),
  (115, " ropes ", 263),
  (117, "tie", 264),
  (119, " rope ", 265),
  (121, " to", 266),
  (123, "untie", 267),
  (125, "follow", 268),
  (127, " by", 269),
  (129, "drop", 270),
  (131, " when used>", 271),
  (133, " when has", 272),
  (135, " when not same", 273),
  (137, " when step-step/3*3=", 274),
  (139, " when free<size of", 275),
  (141, " or copies<", 276),
  (143, " when [bales<", 277),
  (145, "] and age of", 278),
  (147, "<=1", 279)]
/-- the texts of the exceptions: class, place, text -/
def q_msg : List (String × Nat × String) := [
  ("HayBarn", 60, "the tape has no room for twenty bytes more"),
  ("HayBarn", 71, "the tape has not so many bytes"),
  ("HayBarn", 171, "the bale has no such rope"),
  ("HayBarn", 183, "there is no bale of this size or with so many ropes"),
  ("HayBarn", 189, "the working half has no place for the bale"),
  ("HayBarn", 194, "there is no such rope, or no bale to lead to"),
  ("HayBarn", 202, "there is no such rope, or it leads to none"),
  ("HayBarn", 207, "the hook holds no bale"),
  ("HayBarn", 253, "there is no such hook"),
  ("HayBarn", 256, "so many steps can not go by at once"),
  ("HayBarn", 258, "no step is told")]
def q_nc : List (String × String) := [("java/lang/IllegalArgumentException", "java/lang/IllegalStateException"), ("java/lang/IndexOutOfBoundsException", "java/lang/IllegalStateException")]
/-- rows of rows of numbers -/
def q_AA (U : State) : Prop := (Cond.arrayOver (.array .int)).before #[] U = true
/-- what stands outside: constants, texts, rows that nobody writes -/
def q_Ext (g : q_G) (ρ : Nat → Nat) (A : Nat → Prop) (U : State) (H : Heap) : Prop :=
  g.1.stackTraces = false ∧
  (∀ q ∈ q_stat, va_Z q.1 q.2.1 q.2.2.1 (.ref (ρ q.2.2.2)) A U H) ∧
  (∀ i, i < 49 → va_O "HayBarn$Sign" (ρ i) A U H ∧ va_OF "java/lang/Enum" "ordinal" "I" (.int (nI i)) (ρ i) A U H ∧ va_OF "HayBarn$Sign" "text" "Ljava/lang/String;" (.ref (ρ (100 + i))) (ρ i) A U H) ∧
  (∀ i j, i < 49 → j < 49 → ρ i = ρ j → i = j) ∧
  va_T (.object "HayBarn$Sign") (ρ 49) 49 (fun j => .ref (ρ j)) A U H ∧
  va_T .int (ρ 50) 49 (fun j => .int (q_sw j)) A U H ∧
  (va_T .byte (ρ 51) 100 (fun j => .int (nI (48 + j % 10))) A U H ∧ va_T .byte (ρ 53) 100 (fun j => .int (nI (48 + j / 10))) A U H) ∧
  va_T .int (ρ 52) g.2.length (fun j => .int (g.2.getD j 0)) A U H ∧
  (∀ i, q_isStr i = true → va_O "java/lang/String" (ρ i) A U H ∧ va_OF "java/lang/String" "coder" "B" (.int 0) (ρ i) A U H ∧ va_OF "java/lang/String" "value" "[B" (.ref (ρ (100 + i))) (ρ i) A U H ∧ va_T .byte (ρ (100 + i)) (q_str i).length (fun j => .int ((q_str i).getD j 0)) A U H) ∧
  (∀ q ∈ q_msg, ∃ a : Nat, vk_R q.1 q.2.1 q.2.2 a U) ∧ (∀ q ∈ q_lit, vk_R "HayBarnLaw" q.1 q.2.1 (ρ q.2.2) U) ∧
  vx_Zq Bundle.tN "UNASSIGNED_STACK" Bundle.steD A U H ∧ vx_Zq Bundle.tN "SUPPRESSED_SENTINEL" Bundle.listD A U H ∧
  (∀ q ∈ q_nc, va_Nc q.1 q.2 U) ∧ va_Z "java/lang/String" "COMPACT_STRINGS" "Z" (.int 1) A U H ∧ (va_Z "jdk/internal/util/Preconditions" "SIOOBE_FORMATTER" "Ljava/util/function/BiFunction;" .null A U H ∨ va_Z "jdk/internal/util/Preconditions" "SIOOBE_FORMATTER" "Ljava/util/function/BiFunction;" (.ref (ρ 399)) A U H) ∧ (va_AO "HayBarn$Step" U ∧ va_AO "HayBarnLaw$Bale" U ∧ va_AO "java/lang/String" U ∧ q_AA U) ∧ va_AO "HayBarn$Sign" U ∧ (∀ w ∈ lw_tbl, q_isN w = true → va_Nw w U)
abbrev q_rm (d mc ms : Nat) : Room := { frames := d, cells := mc, slots := ms, locals := 64 * d }
/-- what the locals hold -/
def q_lh (rls : Array Slot) (nL : Nat) (ρ : Nat → Nat) (ls : List (Option Value)) : Prop := rls.size = nL ∧ ls.length = nL ∧ lv_wf rls ∧ ∀ i v, q_nth ls i = some (some v) → rls[i]? = some (.val (q_vz ρ v))
/-- what a method's walk is done over: it doesn't change in the walk -/
def q_Bs (M : q_M) (p : Program) (s : State) (m : MethodId) (args : Array Value) (meth : Method) (cd : Code) : Prop :=
  p.tables.exec = Jvm.exec ∧ cd.code = M.2.1 ∧ meth.sig.returnType = M.2.2.2.1 ∧ cd.maxLocals = M.2.2.1 ∧ (∀ w ∈ q_tb, w.before args s = true) ∧ s.vm.findClass M.1.cls = some m.cls ∧ meth.locks = false ∧ meth.name = M.1.name ∧ (∀ x ∈ cd.exceptionTable.toList, False)
/-- where the walk stands -/
def q_Sit (g : q_G) (nL : Nat) (D : va_G) (cA : Nat → ClassId) (ρ0 ρ : Nat → Nat) (h0 h : q_H) (mv : List Nat) (A : Nat → Prop) (s : State) (H : Heap) (locs : List Loc) (ls : List (Option Value)) (rls : Array Slot) (st : List Value) : Prop :=
  va_K D vwCl (q_Ty cA) s ∧ q_Wd D cA ρ h A H ∧ va_S A s.heap H locs ∧ q_Ext g ρ0 A s s.heap ∧ q_clo h ∧ (∀ v ∈ st, q_vcl h v) ∧ (∀ i v, q_nth ls i = some (some v) → q_vcl h v) ∧ q_lh rls nL ρ ls ∧
  (∀ a, a < q_nx h0 → a ∉ mv → ρ a = ρ0 a) ∧ (∀ a, a < 400 → ρ a = ρ0 a) ∧ (∀ q, s.heap.size ≤ q → A q) ∧ 400 ≤ q_nx h ∧ q_nx h0 ≤ q_nx h
def q_Qc (D : va_G) (cA : Nat → ClassId) (ρ0 : Nat → Nat) (h0 : q_H) (mv : List Nat) (A : Nat → Prop) (Q : (Option Value ⊕ String) → q_H → Prop) : Array Value → State → Outcome → State → Prop := fun _ st o t =>
  ∃ (v : Option Value) (h : q_H) (ρ : Nat → Nat), o = .returned (v.map (q_vz ρ)) ∧ Q (.inl v) h ∧ (∀ x, v = some x → q_vcl h x) ∧ (∀ a, a < q_nx h0 → a ∉ mv → ρ a = ρ0 a) ∧ (∀ a, a < 400 → ρ a = ρ0 a) ∧ q_Wd D cA ρ h A t.heap ∧ va_K D vwCl (q_Ty cA) t ∧ q_clo h ∧ 400 ≤ q_nx h ∧ q_nx h0 ≤ q_nx h ∧ va_F A st t
def q_XC (D : va_G) (cA : Nat → ClassId) (ρ0 : Nat → Nat) (h0 : q_H) (mv : List Nat) (A : Nat → Prop) (Q : (Option Value ⊕ String) → q_H → Prop) : String → State → State → Prop := fun E st t =>
  ∃ (h : q_H) (ρ : Nat → Nat), Q (.inr E) h ∧ (∀ a, a < q_nx h0 → a ∉ mv → ρ a = ρ0 a) ∧ (∀ a, a < 400 → ρ a = ρ0 a) ∧ q_Wd D cA ρ h A t.heap ∧ va_K D vwCl (q_Ty cA) t ∧ q_clo h ∧ 400 ≤ q_nx h ∧ q_nx h0 ≤ q_nx h ∧ va_F A st t
/-- from this place on, all goes to an end of which Q speaks; of mc cells and ms slots k and n are used -/
def q_J (g : q_G) (M : q_M) (d mc ms : Nat) (h0 : q_H) (mv : List Nat) (Q : (Option Value ⊕ String) → q_H → Prop) (k n : Nat) (c : q_C) : Prop :=
  ∀ (p : Program) (e : Env) (s : State) (m : MethodId) (args : Array Value) (below : List Frame) (meth : Method) (cd : Code) (D : va_G) (cA : Nat → ClassId) (ρ0 ρ : Nat → Nat) (A : Nat → Prop) (H : Heap) (locs : List Loc) (rls : Array Slot) (en : q_En),
    q_nth M.2.2.2.2.1 c.1 = some en → q_Bs M p s m args meth cd → q_Sit g M.2.2.1 D cA ρ0 ρ h0 c.2.2.2 mv A s H locs c.2.1 rls c.2.2.1 →
    W p g.1 e (q_rm d mc ms) s m args below meth cd H locs k n (vx_MQ below (q_Qc D cA ρ0 h0 mv A Q) (q_XC D cA ρ0 h0 mv A Q) args s mc ms A) (F0 m en.1 rls (c.2.2.1.map (q_vz ρ)))
def q_A (ρ : Nat → Nat) (h : q_H) (sz : Nat) : Nat → Prop := fun q => (∃ a, 400 ≤ a ∧ a < q_nx h ∧ q = ρ a) ∨ sz ≤ q
/-- a method's contract: from this heap with these arguments it comes to an end of which Q speaks -/
def q_Ct (g : q_G) (M : q_M) (d mc ms : Nat) (mv : List Nat) (As : List Value) (h : q_H) (Q : (Option Value ⊕ String) → q_H → Prop) : Prop :=
  ∀ (D : va_G) (cA : Nat → ClassId) (ρ : Nat → Nat) (sz : Nat), vx_Met g.1 M.1 (q_w M) (q_rm d mc ms)
    (va_Pc (As.map (q_vz ρ)) (fun U => U.heap.size = sz ∧ va_K D vwCl (q_Ty cA) U ∧ q_Wd D cA ρ h (fun _ => True) U.heap ∧ q_Ext g ρ (q_A ρ h sz) U U.heap ∧ q_clo h ∧ (∀ v ∈ As, q_vcl h v) ∧ 400 ≤ q_nx h))
    (q_Qc D cA ρ h mv (q_A ρ h sz) Q) (q_XC D cA ρ h mv (q_A ρ h sz) Q) mc ms (q_A ρ h sz)
