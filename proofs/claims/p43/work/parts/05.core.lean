/-! THE ABSTRACT MACHINE: a state of ids in rows of numbers, and the judgement q_J that stands for the kit's W over it -/
abbrev vwCl : List vw_C := [(RX1, TX1, 6), (RX2, TX2, 15), (RX3, TX3, 1), (RX4, TX4, 3), (RX5, TX5, 3), (RX6, TX6, 9), (RX7, TX7, 6), (RX8, TX8, 2), (RX10, TX10, 8), (RX11, TX11, 7), (RX12, TX12, 9), (RX13, TX13, 5), (RX14, TX14, 13), (RJ0, TJ0, 4), (RJ4, TJ4, 4)]
/-- an instruction: its place, itself, its length, a target or class, a field, the place of its word -/
abbrev q_En : Type := Nat × Instr × Nat × Nat × Nat × Nat × Nat
/-- a method: name, bytes, locals, type of the answer, instructions, the place of its own word -/
abbrev q_M : Type := MethodName × ByteArray × Nat × Option FieldType × List q_En × Nat × Nat
/-- (0, class, variant) an object; (1, type, n) numbers; (2, type, n) long numbers; (3, type, n) references; (4, type, n) constants -/
abbrev q_Sh : Type := Nat × Nat × Nat
/-- how many ids; the kinds; numbers; references; constants; long numbers -/
abbrev q_H : Type := Nat × (Nat → q_Sh) × (Nat → Nat → Int32) × (Nat → Nat → Option Nat) × (Nat → Nat → Option Nat) × (Nat → Nat → Int64)
/-- place in the method, locals, stack, heap -/
abbrev q_C : Type := Nat × List (Option Value) × List Value × q_H
abbrev q_nx (h : q_H) : Nat := h.1
abbrev q_sh (h : q_H) : Nat → q_Sh := h.2.1
abbrev q_I (h : q_H) : Nat → Nat → Int32 := h.2.2.1
abbrev q_R (h : q_H) : Nat → Nat → Option Nat := h.2.2.2.1
abbrev q_E (h : q_H) : Nat → Nat → Option Nat := h.2.2.2.2.1
abbrev q_L (h : q_H) : Nat → Nat → Int64 := h.2.2.2.2.2
def q_nth {α : Type} : List α → Nat → Option α
  | [], _ => none
  | a :: _, 0 => some a
  | _ :: t, n + 1 => q_nth t n
theorem q_nth_eq {α : Type} : ∀ (l : List α) (n : Nat), q_nth l n = l[n]?
  | [], n => by simp [q_nth]
  | a :: t, 0 => by simp [q_nth]
  | a :: t, n + 1 => by simp [q_nth, q_nth_eq t n]
/-- one place of a table of rows is changed -/
def q_u2 {α : Type} (f : Nat → Nat → α) (a j : Nat) (x : α) : Nat → Nat → α := fun b => bif Nat.beq b a then (fun i => bif Nat.beq i j then x else f a i) else f b
theorem q_beqN {i j : Nat} (h : i ≠ j) : Nat.beq i j = false := by
  cases hb : Nat.beq i j
  · rfl
  · exact absurd (Nat.eq_of_beq_eq_true hb) h
theorem q_beqS (i : Nat) : Nat.beq i i = true := Nat.beq_refl i
theorem q_u2_of {α : Type} (f : Nat → Nat → α) (a j : Nat) (x : α) (b i : Nat) : q_u2 f a j x b i = if b = a ∧ i = j then x else f b i := by
  unfold q_u2
  by_cases h : b = a
  · subst h
    by_cases h2 : i = j
    · subst h2; rw [q_beqS, cond_true]; simp [q_beqS]
    · rw [q_beqS, cond_true, q_beqN h2]; simp [h2]
  · rw [q_beqN h]; simp [h]
theorem q_u2_s {α : Type} (f : Nat → Nat → α) (a j : Nat) (x : α) : q_u2 f a j x a j = x := by simp [q_u2_of]
theorem q_u2_n {α : Type} (f : Nat → Nat → α) (a j : Nat) (x : α) (b i : Nat) (h : b ≠ a) : q_u2 f a j x b i = f b i := by simp [q_u2_of, h]
theorem q_u2_j {α : Type} (f : Nat → Nat → α) (a j : Nat) (x : α) (b i : Nat) (h : i ≠ j) : q_u2 f a j x b i = f b i := by simp [q_u2_of, h]
theorem q_u2_row {α : Type} (f : Nat → Nat → α) (a j : Nat) (x : α) (b : Nat) (h : b ≠ a) : q_u2 f a j x b = f b := by
  funext i; exact q_u2_n f a j x b i h
/-- the words of the tables by their places -/
def q_tbl : Nat → List Jvm.Cond
  | 0 => tables_1_1 | 1 => tables_1_2 | 2 => tables_1_3 | 3 => tables_1_4 | 4 => tables_1_5 | 5 => tables_1_6 | 6 => tables_1_7 | 7 => tables_1_8
  | 10 => k2_sels lw_privs
  | _ => []
theorem q_tbl_in : ∀ (k : Nat) (w : Jvm.Cond), w ∈ q_tbl k → w ∈ lw_tbl := by
  intro k w h
  unfold lw_tbl tables_1
  simp only [List.mem_append]
  match k, h with
  | 0, h => exact Or.inr (Or.inl h)
  | 1, h => exact Or.inr (Or.inr (Or.inl h))
  | 2, h => exact Or.inr (Or.inr (Or.inr (Or.inl h)))
  | 3, h => exact Or.inr (Or.inr (Or.inr (Or.inr (Or.inl h))))
  | 4, h => exact Or.inr (Or.inr (Or.inr (Or.inr (Or.inr (Or.inl h)))))
  | 5, h => exact Or.inr (Or.inr (Or.inr (Or.inr (Or.inr (Or.inr (Or.inl h))))))
  | 6, h => exact Or.inr (Or.inr (Or.inr (Or.inr (Or.inr (Or.inr (Or.inr (Or.inl h)))))))
  | 7, h => exact Or.inr (Or.inr (Or.inr (Or.inr (Or.inr (Or.inr (Or.inr (Or.inr (h))))))))
  | 8, h => exact absurd h List.not_mem_nil
  | 9, h => exact absurd h List.not_mem_nil
  | 10, h => exact Or.inl h
  | k + 11, h => exact absurd h List.not_mem_nil
def q_gw (k i : Nat) : Option Jvm.Cond := q_nth (q_tbl k) i
/-- the words that a method has: those that stay -/
def q_tb : List Jvm.Cond := lw_tbl.filter goodWord
theorem q_gw_in {k i : Nat} {w : Jvm.Cond} (h : q_gw k i = some w) (hg : goodWord w = true) : w ∈ q_tb := by
  unfold q_gw at h
  rw [q_nth_eq] at h
  exact List.mem_filter.mpr ⟨q_tbl_in k w (List.mem_of_getElem? h), hg⟩
theorem q_gw_in2 {k i : Nat} {w : Jvm.Cond} (h : q_gw k i = some w) : w ∈ lw_tbl := by
  unfold q_gw at h
  rw [q_nth_eq] at h
  exact q_tbl_in k w (List.mem_of_getElem? h)
/-- words that speak of the tables, and are carried on by laws of their own -/
def q_isN : Jvm.Cond → Bool
  | .fieldLinkNest .. => true
  | .methodLinkNest .. => true
  | .castable .. => true
  | .declares .. => true
  | .privateMethod .. => true
  | _ => false
def q_w (M : q_M) : List Jvm.Cond := .code M.1 M.2.1 M.2.2.1 M.2.2.2.1 :: q_tb
theorem q_good {w : Jvm.Cond} (h : w ∈ q_tb) : goodWord w = true := (List.mem_filter.mp h).2
theorem q_w_good (M : q_M) (hc : Jvm.Cond.code M.1 M.2.1 M.2.2.1 M.2.2.2.1 ∈ q_tb) : GoodIn q_tb (q_w M) := fun w hw => by
  rcases List.mem_cons.mp hw with h | h
  · rw [h]; exact ⟨hc, good_of_word (q_good hc)⟩
  · exact ⟨h, good_of_word (q_good h)⟩
/-- declarer, name, descriptor, final of a field -/
def q_fld (ci k : Nat) : Option (String × String × String × Bool) := match q_nth vwCl ci with
  | some c => bif Nat.blt k c.2.2 then some (c.2.1 k) else none
  | none => none
def q_isF (own : String) (idx : Nat) (f : String × String × String × Bool) : Option Jvm.Cond → Bool
  | some (.fieldLink a b c d e) => decide (a = own) && decide (b = idx) && decide (c = f.1) && decide (d = f.2.1) && decide (e = f.2.2.1)
  | some (.fieldLinkNest a b c d e _) => decide (a = own) && decide (b = idx) && decide (c = f.1) && decide (d = f.2.1) && decide (e = f.2.2.1)
  | _ => false
/-- statics of the claim that hold references: class, name, descriptor, id -/
def q_stat : List (String × String × String × Nat) := [
  ("HayBarn$Sign", "END", "LHayBarn$Sign;", 0),
  ("HayBarn$Sign", "BAD", "LHayBarn$Sign;", 1),
  ("HayBarn$Sign", "NUMBER", "LHayBarn$Sign;", 2),
  ("HayBarn$Sign", "NAME", "LHayBarn$Sign;", 3),
  ("HayBarn$Sign", "TURNED", "LHayBarn$Sign;", 4),
  ("HayBarn$Sign", "BARN", "LHayBarn$Sign;", 5),
  ("HayBarn$Sign", "LOFT", "LHayBarn$Sign;", 6),
  ("HayBarn$Sign", "PROMOTE", "LHayBarn$Sign;", 7),
  ("HayBarn$Sign", "HOOK", "LHayBarn$Sign;", 8),
  ("HayBarn$Sign", "MAKE", "LHayBarn$Sign;", 9),
  ("HayBarn$Sign", "TIE", "LHayBarn$Sign;", 10),
  ("HayBarn$Sign", "UNTIE", "LHayBarn$Sign;", 11),
  ("HayBarn$Sign", "FOLLOW", "LHayBarn$Sign;", 12),
  ("HayBarn$Sign", "DROP", "LHayBarn$Sign;", 13),
  ("HayBarn$Sign", "ROPES", "LHayBarn$Sign;", 14),
  ("HayBarn$Sign", "ROPE", "LHayBarn$Sign;", 15),
  ("HayBarn$Sign", "TO", "LHayBarn$Sign;", 16),
  ("HayBarn$Sign", "BY", "LHayBarn$Sign;", 17),
  ("HayBarn$Sign", "OF", "LHayBarn$Sign;", 18),
  ("HayBarn$Sign", "WHEN", "LHayBarn$Sign;", 19),
  ("HayBarn$Sign", "STEP", "LHayBarn$Sign;", 20),
  ("HayBarn$Sign", "USED", "LHayBarn$Sign;", 21),
  ("HayBarn$Sign", "FREE", "LHayBarn$Sign;", 22),
  ("HayBarn$Sign", "COPIES", "LHayBarn$Sign;", 23),
  ("HayBarn$Sign", "BALES", "LHayBarn$Sign;", 24),
  ("HayBarn$Sign", "SIZE", "LHayBarn$Sign;", 25),
  ("HayBarn$Sign", "AGE", "LHayBarn$Sign;", 26),
  ("HayBarn$Sign", "HAS", "LHayBarn$Sign;", 27),
  ("HayBarn$Sign", "SAME", "LHayBarn$Sign;", 28),
  ("HayBarn$Sign", "NOT", "LHayBarn$Sign;", 29),
  ("HayBarn$Sign", "AND", "LHayBarn$Sign;", 30),
  ("HayBarn$Sign", "OR", "LHayBarn$Sign;", 31),
  ("HayBarn$Sign", "MIN", "LHayBarn$Sign;", 32),
  ("HayBarn$Sign", "MAX", "LHayBarn$Sign;", 33),
  ("HayBarn$Sign", "OPEN", "LHayBarn$Sign;", 34),
  ("HayBarn$Sign", "CLOSE", "LHayBarn$Sign;", 35),
  ("HayBarn$Sign", "OPEN_TEST", "LHayBarn$Sign;", 36),
  ("HayBarn$Sign", "CLOSE_TEST", "LHayBarn$Sign;", 37),
  ("HayBarn$Sign", "SEMICOLON", "LHayBarn$Sign;", 38),
  ("HayBarn$Sign", "COMMA", "LHayBarn$Sign;", 39),
  ("HayBarn$Sign", "PLUS", "LHayBarn$Sign;", 40),
  ("HayBarn$Sign", "MINUS", "LHayBarn$Sign;", 41),
  ("HayBarn$Sign", "TIMES", "LHayBarn$Sign;", 42),
  ("HayBarn$Sign", "OVER", "LHayBarn$Sign;", 43),
  ("HayBarn$Sign", "LESS", "LHayBarn$Sign;", 44),
  ("HayBarn$Sign", "GREATER", "LHayBarn$Sign;", 45),
  ("HayBarn$Sign", "EQUAL", "LHayBarn$Sign;", 46),
  ("HayBarn$Sign", "AT_MOST", "LHayBarn$Sign;", 47),
  ("HayBarn$Sign", "AT_LEAST", "LHayBarn$Sign;", 48),
  ("HayBarn", "SIGNS", "[LHayBarn$Sign;", 49),
  ("HayBarn$1", "$SwitchMap$HayBarn$Sign", "[I", 50),
  ("java/lang/Integer", "DigitOnes", "[B", 51),
  ("java/lang/Integer", "DigitTens", "[B", 53)]
def q_isS (own : String) (idx a1 : Nat) : Option Jvm.Cond → Bool
  | some (.fieldLink a b c d e) => decide (a = own) && decide (b = idx) && decide ((c, d, e, a1) ∈ q_stat)
  | some (.fieldLinkNest a b c d e _) => decide (a = own) && decide (b = idx) && decide ((c, d, e, a1) ∈ q_stat)
  | _ => false
def q_tgt (tab : List q_En) (pc a1 : Nat) (off : Int) : Bool := match q_nth tab a1 with
  | some e => decide ((pc : Int) + off = (e.1 : Int))
  | none => false
/-- a written number -/
def q_li (a1 a2 : Nat) : Int32 := match a2 with
  | 0 => OfNat.ofNat a1
  | _ => -(OfNat.ofNat a1)
def q_plain : Option Jvm.Cond → Bool
  | some (.fieldLink ..) => true
  | _ => false
/-- an instruction's own conditions -/
def q_ok2 (own nm : String) (tab : List q_En) (e : q_En) : Bool := match e.2.1 with
  | .goto off => q_tgt tab e.1 e.2.2.2.1 off
  | .ifCond _ off => q_tgt tab e.1 e.2.2.2.1 off
  | .if_icmp _ off => q_tgt tab e.1 e.2.2.2.1 off
  | .if_acmp _ off => q_tgt tab e.1 e.2.2.2.1 off
  | .ifnull off => q_tgt tab e.1 e.2.2.2.1 off
  | .ifnonnull off => q_tgt tab e.1 e.2.2.2.1 off
  | .getfield idx => decide (e.2.2.2.1 = 900) || (match q_fld e.2.2.2.1 e.2.2.2.2.1 with
    | some f => q_isF own idx f (q_gw e.2.2.2.2.2.1 e.2.2.2.2.2.2)
    | none => false)
  | .putfield idx => (match q_fld e.2.2.2.1 e.2.2.2.2.1 with
    | some f => q_isF own idx f (q_gw e.2.2.2.2.2.1 e.2.2.2.2.2.2) && (!f.2.2.2 || ((decide (nm = "<init>") && decide (f.1 = own)) && q_plain (q_gw e.2.2.2.2.2.1 e.2.2.2.2.2.2)))
    | none => false)
  | .getstatic idx => decide (e.2.2.2.1 = 900) || q_isS own idx e.2.2.2.1 (q_gw e.2.2.2.2.2.1 e.2.2.2.2.2.2)
  | .ldc2_w idx => decide (q_gw e.2.2.2.2.2.1 e.2.2.2.2.2.2 = some (.constantLong own idx (OfNat.ofNat e.2.2.2.1)))
  | .iconst v => decide (Int32.ofInt v = q_li e.2.2.2.1 e.2.2.2.2.1)
  | .bipush v => decide ((Int8.ofInt v).toInt32 = q_li e.2.2.2.1 e.2.2.2.2.1)
  | .sipush v => decide ((Int16.ofInt v).toInt32 = q_li e.2.2.2.1 e.2.2.2.2.1)
  | .iinc _ v => decide (Int32.ofInt v = q_li e.2.2.2.1 e.2.2.2.2.1)
  | .lconst v => decide (Int64.ofNat v.val = OfNat.ofNat e.2.2.2.1)
  | _ => true
def q_falls : Instr → Bool
  | .goto _ => false | .ireturn => false | .lreturn => false | .areturn => false | .dreturn => false | .return_ => false | .athrow => false | .tableswitch .. => false
  | _ => true
def q_len : Instr → Nat
  | .bipush _ => 2 | .sipush _ => 3 | .ldc _ => 2 | .ldc_w _ => 3 | .ldc2_w _ => 3
  | .iload _ => 2 | .lload _ => 2 | .aload _ => 2 | .dload _ => 2 | .istore _ => 2 | .lstore _ => 2 | .astore _ => 2 | .dstore _ => 2 | .iinc _ _ => 3
  | .goto _ => 3 | .ifCond _ _ => 3 | .if_icmp _ _ => 3 | .if_acmp _ _ => 3 | .ifnull _ => 3 | .ifnonnull _ => 3
  | .getfield _ => 3 | .putfield _ => 3 | .getstatic _ => 3 | .new _ => 3 | .newarray _ => 2 | .anewarray _ => 3
  | .invokevirtual _ => 3 | .invokestatic _ => 3 | .invokespecial _ => 3
  | .tableswitch .. => 0
  | .checkcast _ => 3
  | _ => 1
def q_ok1 (own nm : String) (b : ByteArray) (tab : List q_En) (i : Nat) (e : q_En) : Bool :=
  decide (decode b e.1 = .ok (e.2.1, e.2.2.1)) && ((match q_nth tab (i + 1) with | some f => Nat.beq f.1 (e.1 + e.2.2.1) | none => !q_falls e.2.1) && ((Nat.beq e.2.2.1 (q_len e.2.1) || Nat.beq 0 (q_len e.2.1)) && q_ok2 own nm tab e))
def q_okL (own nm : String) (b : ByteArray) (tab : List q_En) : Nat → List q_En → Bool
  | _, [] => true
  | i, e :: t => q_ok1 own nm b tab i e && q_okL own nm b tab (i + 1) t
theorem q_okL_at {own nm : String} {b : ByteArray} {tab : List q_En} : ∀ (l : List q_En) (i j : Nat) (e : q_En), q_okL own nm b tab i l = true → q_nth l j = some e → q_ok1 own nm b tab (i + j) e = true
  | [], i, j, e, _, h => by simp [q_nth] at h
  | a :: t, i, 0, e, h, he => by
    simp only [q_nth, Option.some.injEq] at he
    subst he
    simp only [q_okL, Bool.and_eq_true] at h
    exact h.1
  | a :: t, i, j + 1, e, h, he => by
    simp only [q_okL, Bool.and_eq_true] at h
    have := q_okL_at t (i + 1) j e h.2 (by simpa [q_nth] using he)
    rwa [show i + (j + 1) = i + 1 + j by omega]
def q_okM (M : q_M) : Bool := q_okL M.1.cls M.1.name M.2.1 M.2.2.2.2.1 0 M.2.2.2.2.1 && (decide (q_gw M.2.2.2.2.2.1 M.2.2.2.2.2.2 = some (.code M.1 M.2.1 M.2.2.1 M.2.2.2.1)) && (decide (plainName M.1.cls = true) && Nat.ble M.2.2.1 40))
/-- what is known of an instruction of a method that is in order -/
theorem q_at {M : q_M} (hok : q_okM M = true) {pos pc ln a1 a2 w1 w2 : Nat} {ins : Instr} (he : q_nth M.2.2.2.2.1 pos = some (pc, ins, ln, a1, a2, w1, w2)) :
    decode M.2.1 pc = .ok (ins, ln) ∧ (q_falls ins = true → ∃ en, q_nth M.2.2.2.2.1 (pos + 1) = some en ∧ en.1 = pc + ln) ∧ (q_len ins ≠ 0 → ln = q_len ins) ∧ q_ok2 M.1.cls M.1.name M.2.2.2.2.1 (pc, ins, ln, a1, a2, w1, w2) = true := by
  unfold q_okM at hok
  simp only [Bool.and_eq_true] at hok
  have h := q_okL_at _ 0 pos _ hok.1 he
  rw [Nat.zero_add] at h
  unfold q_ok1 at h
  simp only [Bool.and_eq_true, decide_eq_true_eq] at h
  obtain ⟨h1, h2, h3, h4⟩ := h
  refine ⟨h1, fun hf => ?_, fun hn => ?_, h4⟩
  · cases hq : q_nth M.2.2.2.2.1 (pos + 1) with
    | none => rw [hq] at h2; simp [hf] at h2
    | some en => rw [hq] at h2; exact ⟨en, rfl, Nat.eq_of_beq_eq_true h2⟩
  · simp only [Bool.or_eq_true] at h3
    rcases h3 with h3 | h3
    · exact Nat.eq_of_beq_eq_true h3
    · exact absurd (Nat.eq_of_beq_eq_true h3).symm hn
theorem q_okCode {M : q_M} (hok : q_okM M = true) : Jvm.Cond.code M.1 M.2.1 M.2.2.1 M.2.2.2.1 ∈ q_tb ∧ plainName M.1.cls = true ∧ M.2.2.1 ≤ 40 := by
  unfold q_okM at hok
  simp only [Bool.and_eq_true, decide_eq_true_eq] at hok
  exact ⟨q_gw_in hok.2.1 rfl, hok.2.2.1, Nat.le_of_ble_eq_true hok.2.2.2⟩
/-- what a callee's name wants -/
def q_cvP (M2 : q_M) (na : Nat) : Prop := Jvm.Cond.instanceMethod M2.1 ∈ q_tb ∧ Jvm.Cond.selects M2.1.cls M2.1 M2.1 ∈ q_tb ∧ Jvm.Cond.initialized M2.1.cls ∈ q_tb ∧ (M2.1.cls ≠ "java/lang/invoke/MethodHandle" ∧ M2.1.cls ≠ "java/lang/invoke/VarHandle") ∧ (parseMethodDescriptor M2.1.desc).map (fun d => d.parameters.length) = some na
def q_csP (M2 : q_M) (na : Nat) : Prop := Jvm.Cond.static M2.1 ∈ q_tb ∧ Jvm.Cond.initialized M2.1.cls ∈ q_tb ∧ (M2.1.cls ≠ "java/lang/invoke/MethodHandle" ∧ M2.1.cls ≠ "java/lang/invoke/VarHandle") ∧ (parseMethodDescriptor M2.1.desc).map (fun d => d.parameters.length) = some na
def q_ciP (M2 : q_M) (na : Nat) : Prop := Jvm.Cond.instanceMethod M2.1 ∈ q_tb ∧ M2.1.name = "<init>" ∧ Jvm.Cond.initialized M2.1.cls ∈ q_tb ∧ (M2.1.cls ≠ "java/lang/invoke/MethodHandle" ∧ M2.1.cls ≠ "java/lang/invoke/VarHandle") ∧ (parseMethodDescriptor M2.1.desc).map (fun d => d.parameters.length) = some na
