/-! THE MACHINE OF THE LAW: the rules again, over q_K (printed by wip/gen/genK.py out of 08..14) -/
def q_okB (M : q_M) : Bool := q_okL M.1.cls M.1.name M.2.1 M.2.2.2.2.1 0 M.2.2.2.2.1
theorem q_atB {M : q_M} (hok : q_okB M = true) {pos pc ln a1 a2 w1 w2 : Nat} {ins : Instr} (he : q_nth M.2.2.2.2.1 pos = some (pc, ins, ln, a1, a2, w1, w2)) :
    decode M.2.1 pc = .ok (ins, ln) ∧ (q_falls ins = true → ∃ en, q_nth M.2.2.2.2.1 (pos + 1) = some en ∧ en.1 = pc + ln) ∧ (q_len ins ≠ 0 → ln = q_len ins) ∧ q_ok2 M.1.cls M.1.name M.2.2.2.2.1 (pc, ins, ln, a1, a2, w1, w2) = true := by
  unfold q_okB at hok
  have h := q_okL_at _ 0 pos _ hok he
  rw [Nat.zero_add] at h
  unfold q_ok1 at h
  simp only [Bool.and_eq_true, decide_eq_true_eq] at h
  obtain ⟨h1, h2, h3, h4⟩ := h
  refine ⟨h1, fun hf => ?_, fun hn => ?_, h4⟩
  · cases hq : q_nth M.2.2.2.2.1 (pos + 1) with
    | none => rw [hq] at h2; simp [hf] at h2
    | some en => rw [hq] at h2; exact ⟨en, rfl, Nat.eq_of_beq_eq_true h2⟩
  · simp only [Bool.or_eq_true] at h3
    rcases h3 with h3 | h3
    · exact Nat.eq_of_beq_eq_true h3
    · exact absurd (Nat.eq_of_beq_eq_true h3).symm hn
def q_lc (d : Nat) : Nat := bif Nat.beq d 2048 then 84000 else 64 * d
def q_rk (d mc ms : Nat) : Room := { frames := d, cells := mc, slots := ms, locals := q_lc d }
theorem q_lc64 {d : Nat} (hd : 1 ≤ d) : 64 ≤ q_lc d := by
  unfold q_lc
  by_cases h : d = 2048
  · subst h; decide
  · have h9 : Nat.beq d 2048 = false := by
      cases hb : Nat.beq d 2048 with
      | false => rfl
      | true => exact absurd (Nat.eq_of_beq_eq_true hb) h
    rw [h9, cond_false]
    omega
def q_BK (M : q_M) (xt : List ExceptionTableEntry) (p : Program) (s : State) (m : MethodId) (args : Array Value) (meth : Method) (cd : Code) : Prop :=
  p.tables.exec = Jvm.exec ∧ cd.code = M.2.1 ∧ meth.sig.returnType = M.2.2.2.1 ∧ cd.maxLocals = M.2.2.1 ∧ (∀ w ∈ q_tb, w.before args s = true) ∧ s.vm.findClass M.1.cls = some m.cls ∧ meth.locks = false ∧ meth.name = M.1.name ∧ cd.exceptionTable.toList = xt
def q_K (g : q_G) (M : q_M) (xt : List ExceptionTableEntry) (d mc ms : Nat) (h0 : q_H) (mv : List Nat) (Q : (Option Value ⊕ String) → q_H → Prop) (k n : Nat) (c : q_C) : Prop :=
  ∀ (p : Program) (e : Env) (s : State) (m : MethodId) (args : Array Value) (below : List Frame) (meth : Method) (cd : Code) (D : va_G) (cA : Nat → ClassId) (ρ0 ρ : Nat → Nat) (A : Nat → Prop) (H : Heap) (locs : List Loc) (rls : Array Slot) (en : q_En),
    q_nth M.2.2.2.2.1 c.1 = some en → q_BK M xt p s m args meth cd → q_Sit g M.2.2.1 D cA ρ0 ρ h0 c.2.2.2 mv A s H locs c.2.1 rls c.2.2.1 →
    W p g.1 e (q_rk d mc ms) s m args below meth cd H locs k n (vx_MQ below (q_Qc D cA ρ0 h0 mv A Q) (q_XC D cA ρ0 h0 mv A Q) args s mc ms A) (F0 m en.1 rls (c.2.2.1.map (q_vz ρ)))
/-- an exception of class E stands behind a call at pc -/
def q_KX (g : q_G) (M : q_M) (xt : List ExceptionTableEntry) (d mc ms : Nat) (h0 : q_H) (mv : List Nat) (Q : (Option Value ⊕ String) → q_H → Prop) (k n : Nat) (pc : Nat) (ls : List (Option Value)) (E : String) (h : q_H) : Prop :=
  ∀ (p : Program) (e : Env) (s : State) (m : MethodId) (args : Array Value) (below : List Frame) (meth : Method) (cd : Code) (D : va_G) (cA : Nat → ClassId) (ρ0 ρ : Nat → Nat) (A : Nat → Prop) (H : Heap) (locs : List Loc) (rls : Array Slot) (rest : List Value) (q : Addr) (ce : Cell),
    q_BK M xt p s m args meth cd → q_Sit g M.2.2.1 D cA ρ0 ρ h0 h mv A s H locs ls rls [] → H[q]? = some ce → ce.vm = .none → s.vm.findClass E = some ce.cls →
    vx_W p g.1 e (q_rk d mc ms) s m args below meth cd H locs k n (vx_MQ below (q_Qc D cA ρ0 h0 mv A Q) (q_XC D cA ρ0 h0 mv A Q) args s mc ms A) (F0 m pc rls rest) q
section KQOPS
variable {g : q_G} {xt : List ExceptionTableEntry} {M : q_M} {d mc ms : Nat} {h0 : q_H} {mv : List Nat} {Q : (Option Value ⊕ String) → q_H → Prop} {k n pos pc ln a1 a2 w1 w2 : Nat} {ls : List (Option Value)} {st r : List Value} {h : q_H}
theorem k_stk {st' : List Value} {ins : Instr} (hok : q_okB M = true) (he : q_nth M.2.2.2.2.1 pos = some (pc, ins, ln, a1, a2, w1, w2)) (hf : q_falls ins = true)
    (hrow : ∀ (p : Program) (e : Env) (R : Room) (s : State) (m : MethodId) (args : Array Value) (below : List Frame) (meth : Method) (cd : Code) (H : Heap) (locs : List Loc) (cells slots : Nat) (Qz : State → Prop) (rls : Array Slot) (ρ : Nat → Nat),
      p.tables.exec = Jvm.exec → cd.code = M.2.1 → decode M.2.1 pc = .ok (ins, ln) → s.vm.findClass M.1.cls = some m.cls → (∀ w ∈ q_tb, w.before args s = true) → (∀ i v, q_nth ls i = some (some v) → rls[i]? = some (.val (q_vz ρ v))) →
      W p g.1 e R s m args below meth cd H locs cells slots Qz (F0 m (pc + ln) rls (st'.map (q_vz ρ))) → W p g.1 e R s m args below meth cd H locs cells slots Qz (F0 m pc rls (st.map (q_vz ρ))))
    (hcl : (∀ v ∈ st, q_vcl h v) → (∀ i v, q_nth ls i = some (some v) → q_vcl h v) → ∀ v ∈ st', q_vcl h v)
    (hJ : q_K g M xt d mc ms h0 mv Q k n (pos + 1, ls, st', h)) : q_K g M xt d mc ms h0 mv Q k n (pos, ls, st, h) := by
  intro p e s m args below meth cd D cA ρ0 ρ A H locs rls en hen hB hS
  cases he.symm.trans hen
  obtain ⟨hd, hnx, -, -⟩ := q_atB hok he
  obtain ⟨en', he', hpc⟩ := hnx hf
  obtain ⟨hx, hb, hr, hml, hts, hown, hlk, hnm, hxt⟩ := id hB
  obtain ⟨hK, hW, hVS, hX, hC, hst, hls, hlh, hag, hag2, hA, hnx0⟩ := id hS
  have h9 := hJ p e s m args below meth cd D cA ρ0 ρ A H locs rls en' he' hB ⟨hK, hW, hVS, hX, hC, hcl hst hls, hls, hlh, hag, hag2, hA, hnx0⟩
  rw [hpc] at h9
  exact hrow p e _ s m args below meth cd H locs k n _ rls ρ hx hb hd hown hts hlh.2.2.2 h9
theorem k_o_iconst {v : Int} (hok : q_okB M = true) (he : q_nth M.2.2.2.2.1 pos = some (pc, .iconst v, ln, a1, a2, w1, w2)) 
    (hJ : q_K g M xt d mc ms h0 mv Q k n (pos + 1, ls, (.int (q_li a1 a2) :: st), h)) : q_K g M xt d mc ms h0 mv Q k n (pos, ls, st, h) := by
  obtain rfl : ln = 1 := (q_atB hok he).2.2.1 (Nat.succ_ne_zero _)
  exact k_stk (st' := (.int (q_li a1 a2) :: st)) hok he rfl (fun p e R s m args below meth cd H locs cells slots Qz rls ρ hx hb hd hown hts hl kk => lv_iconst hx hb hd (by have h9 := (q_atB hok he).2.2.2; simpa [q_ok2] using h9) kk) (fun h1 h2 => q_cl1 q_vcl_i h1) hJ
theorem k_o_bipush {v : Int} (hok : q_okB M = true) (he : q_nth M.2.2.2.2.1 pos = some (pc, .bipush v, ln, a1, a2, w1, w2)) 
    (hJ : q_K g M xt d mc ms h0 mv Q k n (pos + 1, ls, (.int (q_li a1 a2) :: st), h)) : q_K g M xt d mc ms h0 mv Q k n (pos, ls, st, h) := by
  obtain rfl : ln = 2 := (q_atB hok he).2.2.1 (Nat.succ_ne_zero _)
  exact k_stk (st' := (.int (q_li a1 a2) :: st)) hok he rfl (fun p e R s m args below meth cd H locs cells slots Qz rls ρ hx hb hd hown hts hl kk => lv_bipush hx hb hd (by have h9 := (q_atB hok he).2.2.2; simpa [q_ok2] using h9) kk) (fun h1 h2 => q_cl1 q_vcl_i h1) hJ
theorem k_o_sipush {v : Int} (hok : q_okB M = true) (he : q_nth M.2.2.2.2.1 pos = some (pc, .sipush v, ln, a1, a2, w1, w2)) 
    (hJ : q_K g M xt d mc ms h0 mv Q k n (pos + 1, ls, (.int (q_li a1 a2) :: st), h)) : q_K g M xt d mc ms h0 mv Q k n (pos, ls, st, h) := by
  obtain rfl : ln = 3 := (q_atB hok he).2.2.1 (Nat.succ_ne_zero _)
  exact k_stk (st' := (.int (q_li a1 a2) :: st)) hok he rfl (fun p e R s m args below meth cd H locs cells slots Qz rls ρ hx hb hd hown hts hl kk => lv_sipush hx hb hd (by have h9 := (q_atB hok he).2.2.2; simpa [q_ok2] using h9) kk) (fun h1 h2 => q_cl1 q_vcl_i h1) hJ
theorem k_o_lconst {v : Fin 2} (hok : q_okB M = true) (he : q_nth M.2.2.2.2.1 pos = some (pc, .lconst v, ln, a1, a2, w1, w2)) 
    (hJ : q_K g M xt d mc ms h0 mv Q k n (pos + 1, ls, (.long (OfNat.ofNat a1) :: st), h)) : q_K g M xt d mc ms h0 mv Q k n (pos, ls, st, h) := by
  obtain rfl : ln = 1 := (q_atB hok he).2.2.1 (Nat.succ_ne_zero _)
  exact k_stk (st' := (.long (OfNat.ofNat a1) :: st)) hok he rfl (fun p e R s m args below meth cd H locs cells slots Qz rls ρ hx hb hd hown hts hl kk => lv_lconst hx hb hd (by have h9 := (q_atB hok he).2.2.2; simpa [q_ok2] using h9) kk) (fun h1 h2 => q_cl1 q_vcl_l h1) hJ
theorem k_o_ldc2 {v : Nat} (hok : q_okB M = true) (he : q_nth M.2.2.2.2.1 pos = some (pc, .ldc2_w v, ln, a1, a2, w1, w2)) 
    (hJ : q_K g M xt d mc ms h0 mv Q k n (pos + 1, ls, (.long (OfNat.ofNat a1) :: st), h)) : q_K g M xt d mc ms h0 mv Q k n (pos, ls, st, h) := by
  obtain rfl : ln = 3 := (q_atB hok he).2.2.1 (Nat.succ_ne_zero _)
  exact k_stk (st' := (.long (OfNat.ofNat a1) :: st)) hok he rfl (fun p e R s m args below meth cd H locs cells slots Qz rls ρ hx hb hd hown hts hl kk => lv_ldc2 hx hb hown (hts _ (q_gw_in (by have h9 := (q_atB hok he).2.2.2; simpa [q_ok2] using h9) rfl)) hd kk) (fun h1 h2 => q_cl1 q_vcl_l h1) hJ
theorem k_o_null  (hok : q_okB M = true) (he : q_nth M.2.2.2.2.1 pos = some (pc, .aconst_null, ln, a1, a2, w1, w2)) 
    (hJ : q_K g M xt d mc ms h0 mv Q k n (pos + 1, ls, (.null :: st), h)) : q_K g M xt d mc ms h0 mv Q k n (pos, ls, st, h) := by
  obtain rfl : ln = 1 := (q_atB hok he).2.2.1 (Nat.succ_ne_zero _)
  exact k_stk (st' := (.null :: st)) hok he rfl (fun p e R s m args below meth cd H locs cells slots Qz rls ρ hx hb hd hown hts hl kk => lv_null hx hb hd kk) (fun h1 h2 => q_cl1 q_vcl_n h1) hJ
theorem k_o_iload_n {v : Fin 4} {x : Int32} (hok : q_okB M = true) (he : q_nth M.2.2.2.2.1 pos = some (pc, .iload_n v, ln, a1, a2, w1, w2)) (hv : q_nth ls v.val = some (some (.int x)))
    (hJ : q_K g M xt d mc ms h0 mv Q k n (pos + 1, ls, (.int x :: st), h)) : q_K g M xt d mc ms h0 mv Q k n (pos, ls, st, h) := by
  obtain rfl : ln = 1 := (q_atB hok he).2.2.1 (Nat.succ_ne_zero _)
  exact k_stk (st' := (.int x :: st)) hok he rfl (fun p e R s m args below meth cd H locs cells slots Qz rls ρ hx hb hd hown hts hl kk => lv_iload_n hx hb hd rfl (hl _ _ hv) kk) (fun h1 h2 => q_cl1 q_vcl_i h1) hJ
theorem k_o_iload {i : Nat} {x : Int32} (hok : q_okB M = true) (he : q_nth M.2.2.2.2.1 pos = some (pc, .iload i, ln, a1, a2, w1, w2)) (hv : q_nth ls i = some (some (.int x)))
    (hJ : q_K g M xt d mc ms h0 mv Q k n (pos + 1, ls, (.int x :: st), h)) : q_K g M xt d mc ms h0 mv Q k n (pos, ls, st, h) := by
  obtain rfl : ln = 2 := (q_atB hok he).2.2.1 (Nat.succ_ne_zero _)
  exact k_stk (st' := (.int x :: st)) hok he rfl (fun p e R s m args below meth cd H locs cells slots Qz rls ρ hx hb hd hown hts hl kk => lv_iload hx hb hd (hl _ _ hv) kk) (fun h1 h2 => q_cl1 q_vcl_i h1) hJ
theorem k_o_lload_n {v : Fin 4} {x : Int64} (hok : q_okB M = true) (he : q_nth M.2.2.2.2.1 pos = some (pc, .lload_n v, ln, a1, a2, w1, w2)) (hv : q_nth ls v.val = some (some (.long x)))
    (hJ : q_K g M xt d mc ms h0 mv Q k n (pos + 1, ls, (.long x :: st), h)) : q_K g M xt d mc ms h0 mv Q k n (pos, ls, st, h) := by
  obtain rfl : ln = 1 := (q_atB hok he).2.2.1 (Nat.succ_ne_zero _)
  exact k_stk (st' := (.long x :: st)) hok he rfl (fun p e R s m args below meth cd H locs cells slots Qz rls ρ hx hb hd hown hts hl kk => lv_lload_n hx hb hd rfl (hl _ _ hv) kk) (fun h1 h2 => q_cl1 q_vcl_l h1) hJ
theorem k_o_lload {i : Nat} {x : Int64} (hok : q_okB M = true) (he : q_nth M.2.2.2.2.1 pos = some (pc, .lload i, ln, a1, a2, w1, w2)) (hv : q_nth ls i = some (some (.long x)))
    (hJ : q_K g M xt d mc ms h0 mv Q k n (pos + 1, ls, (.long x :: st), h)) : q_K g M xt d mc ms h0 mv Q k n (pos, ls, st, h) := by
  obtain rfl : ln = 2 := (q_atB hok he).2.2.1 (Nat.succ_ne_zero _)
  exact k_stk (st' := (.long x :: st)) hok he rfl (fun p e R s m args below meth cd H locs cells slots Qz rls ρ hx hb hd hown hts hl kk => lv_lload hx hb hd (hl _ _ hv) kk) (fun h1 h2 => q_cl1 q_vcl_l h1) hJ
theorem k_o_dload_n {v : Fin 4} {x : UInt64} (hok : q_okB M = true) (he : q_nth M.2.2.2.2.1 pos = some (pc, .dload_n v, ln, a1, a2, w1, w2)) (hv : q_nth ls v.val = some (some (.double x)))
    (hJ : q_K g M xt d mc ms h0 mv Q k n (pos + 1, ls, (.double x :: st), h)) : q_K g M xt d mc ms h0 mv Q k n (pos, ls, st, h) := by
  obtain rfl : ln = 1 := (q_atB hok he).2.2.1 (Nat.succ_ne_zero _)
  exact k_stk (st' := (.double x :: st)) hok he rfl (fun p e R s m args below meth cd H locs cells slots Qz rls ρ hx hb hd hown hts hl kk => lv_dload_n hx hb hd rfl (hl _ _ hv) kk) (fun h1 h2 => q_cl1 q_vcl_d h1) hJ
theorem k_o_dload {i : Nat} {x : UInt64} (hok : q_okB M = true) (he : q_nth M.2.2.2.2.1 pos = some (pc, .dload i, ln, a1, a2, w1, w2)) (hv : q_nth ls i = some (some (.double x)))
    (hJ : q_K g M xt d mc ms h0 mv Q k n (pos + 1, ls, (.double x :: st), h)) : q_K g M xt d mc ms h0 mv Q k n (pos, ls, st, h) := by
  obtain rfl : ln = 2 := (q_atB hok he).2.2.1 (Nat.succ_ne_zero _)
  exact k_stk (st' := (.double x :: st)) hok he rfl (fun p e R s m args below meth cd H locs cells slots Qz rls ρ hx hb hd hown hts hl kk => lv_dload hx hb hd (hl _ _ hv) kk) (fun h1 h2 => q_cl1 q_vcl_d h1) hJ
theorem k_o_aload_n {v : Fin 4} {x : Nat} (hok : q_okB M = true) (he : q_nth M.2.2.2.2.1 pos = some (pc, .aload_n v, ln, a1, a2, w1, w2)) (hv : q_nth ls v.val = some (some (.ref x)))
    (hJ : q_K g M xt d mc ms h0 mv Q k n (pos + 1, ls, (.ref x :: st), h)) : q_K g M xt d mc ms h0 mv Q k n (pos, ls, st, h) := by
  obtain rfl : ln = 1 := (q_atB hok he).2.2.1 (Nat.succ_ne_zero _)
  exact k_stk (st' := (.ref x :: st)) hok he rfl (fun p e R s m args below meth cd H locs cells slots Qz rls ρ hx hb hd hown hts hl kk => lv_aload_n hx hb hd rfl (hl _ _ hv) kk) (fun h1 h2 => q_cl1 (h2 _ _ hv) h1) hJ
theorem k_o_aload {i : Nat} {x : Nat} (hok : q_okB M = true) (he : q_nth M.2.2.2.2.1 pos = some (pc, .aload i, ln, a1, a2, w1, w2)) (hv : q_nth ls i = some (some (.ref x)))
    (hJ : q_K g M xt d mc ms h0 mv Q k n (pos + 1, ls, (.ref x :: st), h)) : q_K g M xt d mc ms h0 mv Q k n (pos, ls, st, h) := by
  obtain rfl : ln = 2 := (q_atB hok he).2.2.1 (Nat.succ_ne_zero _)
  exact k_stk (st' := (.ref x :: st)) hok he rfl (fun p e R s m args below meth cd H locs cells slots Qz rls ρ hx hb hd hown hts hl kk => lv_aload hx hb hd (hl _ _ hv) kk) (fun h1 h2 => q_cl1 (h2 _ _ hv) h1) hJ
theorem k_o_aload_nN {v : Fin 4} (hok : q_okB M = true) (he : q_nth M.2.2.2.2.1 pos = some (pc, .aload_n v, ln, a1, a2, w1, w2)) (hv : q_nth ls v.val = some (some .null))
    (hJ : q_K g M xt d mc ms h0 mv Q k n (pos + 1, ls, (.null :: st), h)) : q_K g M xt d mc ms h0 mv Q k n (pos, ls, st, h) := by
  obtain rfl : ln = 1 := (q_atB hok he).2.2.1 (Nat.succ_ne_zero _)
  exact k_stk (st' := (.null :: st)) hok he rfl (fun p e R s m args below meth cd H locs cells slots Qz rls ρ hx hb hd hown hts hl kk => lv_aload_nN hx hb hd rfl (hl _ _ hv) kk) (fun h1 h2 => q_cl1 q_vcl_n h1) hJ
theorem k_o_aloadN {i : Nat} (hok : q_okB M = true) (he : q_nth M.2.2.2.2.1 pos = some (pc, .aload i, ln, a1, a2, w1, w2)) (hv : q_nth ls i = some (some .null))
    (hJ : q_K g M xt d mc ms h0 mv Q k n (pos + 1, ls, (.null :: st), h)) : q_K g M xt d mc ms h0 mv Q k n (pos, ls, st, h) := by
  obtain rfl : ln = 2 := (q_atB hok he).2.2.1 (Nat.succ_ne_zero _)
  exact k_stk (st' := (.null :: st)) hok he rfl (fun p e R s m args below meth cd H locs cells slots Qz rls ρ hx hb hd hown hts hl kk => lv_aloadN hx hb hd (hl _ _ hv) kk) (fun h1 h2 => q_cl1 q_vcl_n h1) hJ
theorem k_o_iadd {x y : Int32} (hok : q_okB M = true) (he : q_nth M.2.2.2.2.1 pos = some (pc, .iadd, ln, a1, a2, w1, w2)) 
    (hJ : q_K g M xt d mc ms h0 mv Q k n (pos + 1, ls, (.int (x + y) :: r), h)) : q_K g M xt d mc ms h0 mv Q k n (pos, ls, (.int y :: .int x :: r), h) := by
  obtain rfl : ln = 1 := (q_atB hok he).2.2.1 (Nat.succ_ne_zero _)
  exact k_stk (st' := (.int (x + y) :: r)) hok he rfl (fun p e R s m args below meth cd H locs cells slots Qz rls ρ hx hb hd hown hts hl kk => lv_iadd hx hb hd kk) (fun h1 h2 => q_cl1 q_vcl_i (q_tl (q_tl h1))) hJ
theorem k_o_isub {x y : Int32} (hok : q_okB M = true) (he : q_nth M.2.2.2.2.1 pos = some (pc, .isub, ln, a1, a2, w1, w2)) 
    (hJ : q_K g M xt d mc ms h0 mv Q k n (pos + 1, ls, (.int (x - y) :: r), h)) : q_K g M xt d mc ms h0 mv Q k n (pos, ls, (.int y :: .int x :: r), h) := by
  obtain rfl : ln = 1 := (q_atB hok he).2.2.1 (Nat.succ_ne_zero _)
  exact k_stk (st' := (.int (x - y) :: r)) hok he rfl (fun p e R s m args below meth cd H locs cells slots Qz rls ρ hx hb hd hown hts hl kk => lv_isub hx hb hd kk) (fun h1 h2 => q_cl1 q_vcl_i (q_tl (q_tl h1))) hJ
theorem k_o_imul {x y : Int32} (hok : q_okB M = true) (he : q_nth M.2.2.2.2.1 pos = some (pc, .imul, ln, a1, a2, w1, w2)) 
    (hJ : q_K g M xt d mc ms h0 mv Q k n (pos + 1, ls, (.int (x * y) :: r), h)) : q_K g M xt d mc ms h0 mv Q k n (pos, ls, (.int y :: .int x :: r), h) := by
  obtain rfl : ln = 1 := (q_atB hok he).2.2.1 (Nat.succ_ne_zero _)
  exact k_stk (st' := (.int (x * y) :: r)) hok he rfl (fun p e R s m args below meth cd H locs cells slots Qz rls ρ hx hb hd hown hts hl kk => lv_imul hx hb hd kk) (fun h1 h2 => q_cl1 q_vcl_i (q_tl (q_tl h1))) hJ
theorem k_o_iand {x y : Int32} (hok : q_okB M = true) (he : q_nth M.2.2.2.2.1 pos = some (pc, .iand, ln, a1, a2, w1, w2)) 
    (hJ : q_K g M xt d mc ms h0 mv Q k n (pos + 1, ls, (.int (x &&& y) :: r), h)) : q_K g M xt d mc ms h0 mv Q k n (pos, ls, (.int y :: .int x :: r), h) := by
  obtain rfl : ln = 1 := (q_atB hok he).2.2.1 (Nat.succ_ne_zero _)
  exact k_stk (st' := (.int (x &&& y) :: r)) hok he rfl (fun p e R s m args below meth cd H locs cells slots Qz rls ρ hx hb hd hown hts hl kk => lv_iand hx hb hd kk) (fun h1 h2 => q_cl1 q_vcl_i (q_tl (q_tl h1))) hJ
theorem k_o_ior {x y : Int32} (hok : q_okB M = true) (he : q_nth M.2.2.2.2.1 pos = some (pc, .ior, ln, a1, a2, w1, w2)) 
    (hJ : q_K g M xt d mc ms h0 mv Q k n (pos + 1, ls, (.int (x ||| y) :: r), h)) : q_K g M xt d mc ms h0 mv Q k n (pos, ls, (.int y :: .int x :: r), h) := by
  obtain rfl : ln = 1 := (q_atB hok he).2.2.1 (Nat.succ_ne_zero _)
  exact k_stk (st' := (.int (x ||| y) :: r)) hok he rfl (fun p e R s m args below meth cd H locs cells slots Qz rls ρ hx hb hd hown hts hl kk => lv_ior hx hb hd kk) (fun h1 h2 => q_cl1 q_vcl_i (q_tl (q_tl h1))) hJ
theorem k_o_ishr {x y : Int32} (hok : q_okB M = true) (he : q_nth M.2.2.2.2.1 pos = some (pc, .ishr, ln, a1, a2, w1, w2)) 
    (hJ : q_K g M xt d mc ms h0 mv Q k n (pos + 1, ls, (.int (x >>> (y &&& 31)) :: r), h)) : q_K g M xt d mc ms h0 mv Q k n (pos, ls, (.int y :: .int x :: r), h) := by
  obtain rfl : ln = 1 := (q_atB hok he).2.2.1 (Nat.succ_ne_zero _)
  exact k_stk (st' := (.int (x >>> (y &&& 31)) :: r)) hok he rfl (fun p e R s m args below meth cd H locs cells slots Qz rls ρ hx hb hd hown hts hl kk => lv_ishr hx hb hd kk) (fun h1 h2 => q_cl1 q_vcl_i (q_tl (q_tl h1))) hJ
theorem k_o_idiv {x y : Int32} (hok : q_okB M = true) (he : q_nth M.2.2.2.2.1 pos = some (pc, .idiv, ln, a1, a2, w1, w2)) (hne : ¬ y = 0)
    (hJ : q_K g M xt d mc ms h0 mv Q k n (pos + 1, ls, (.int (x / y) :: r), h)) : q_K g M xt d mc ms h0 mv Q k n (pos, ls, (.int y :: .int x :: r), h) := by
  obtain rfl : ln = 1 := (q_atB hok he).2.2.1 (Nat.succ_ne_zero _)
  exact k_stk (st' := (.int (x / y) :: r)) hok he rfl (fun p e R s m args below meth cd H locs cells slots Qz rls ρ hx hb hd hown hts hl kk => lv_idiv hx hb hd hne kk) (fun h1 h2 => q_cl1 q_vcl_i (q_tl (q_tl h1))) hJ
theorem k_o_irem {x y : Int32} (hok : q_okB M = true) (he : q_nth M.2.2.2.2.1 pos = some (pc, .irem, ln, a1, a2, w1, w2)) (hne : ¬ y = 0)
    (hJ : q_K g M xt d mc ms h0 mv Q k n (pos + 1, ls, (.int (x - x / y * y) :: r), h)) : q_K g M xt d mc ms h0 mv Q k n (pos, ls, (.int y :: .int x :: r), h) := by
  obtain rfl : ln = 1 := (q_atB hok he).2.2.1 (Nat.succ_ne_zero _)
  exact k_stk (st' := (.int (x - x / y * y) :: r)) hok he rfl (fun p e R s m args below meth cd H locs cells slots Qz rls ρ hx hb hd hown hts hl kk => lv_irem hx hb hd hne kk) (fun h1 h2 => q_cl1 q_vcl_i (q_tl (q_tl h1))) hJ
theorem k_o_ineg {x : Int32} (hok : q_okB M = true) (he : q_nth M.2.2.2.2.1 pos = some (pc, .ineg, ln, a1, a2, w1, w2)) 
    (hJ : q_K g M xt d mc ms h0 mv Q k n (pos + 1, ls, (.int (-x) :: r), h)) : q_K g M xt d mc ms h0 mv Q k n (pos, ls, (.int x :: r), h) := by
  obtain rfl : ln = 1 := (q_atB hok he).2.2.1 (Nat.succ_ne_zero _)
  exact k_stk (st' := (.int (-x) :: r)) hok he rfl (fun p e R s m args below meth cd H locs cells slots Qz rls ρ hx hb hd hown hts hl kk => lv_ineg hx hb hd kk) (fun h1 h2 => q_cl1 q_vcl_i (q_tl h1)) hJ
theorem k_o_ladd {x y : Int64} (hok : q_okB M = true) (he : q_nth M.2.2.2.2.1 pos = some (pc, .ladd, ln, a1, a2, w1, w2)) 
    (hJ : q_K g M xt d mc ms h0 mv Q k n (pos + 1, ls, (.long (x + y) :: r), h)) : q_K g M xt d mc ms h0 mv Q k n (pos, ls, (.long y :: .long x :: r), h) := by
  obtain rfl : ln = 1 := (q_atB hok he).2.2.1 (Nat.succ_ne_zero _)
  exact k_stk (st' := (.long (x + y) :: r)) hok he rfl (fun p e R s m args below meth cd H locs cells slots Qz rls ρ hx hb hd hown hts hl kk => lv_ladd hx hb hd kk) (fun h1 h2 => q_cl1 q_vcl_l (q_tl (q_tl h1))) hJ
theorem k_o_lmul {x y : Int64} (hok : q_okB M = true) (he : q_nth M.2.2.2.2.1 pos = some (pc, .lmul, ln, a1, a2, w1, w2)) 
    (hJ : q_K g M xt d mc ms h0 mv Q k n (pos + 1, ls, (.long (x * y) :: r), h)) : q_K g M xt d mc ms h0 mv Q k n (pos, ls, (.long y :: .long x :: r), h) := by
  obtain rfl : ln = 1 := (q_atB hok he).2.2.1 (Nat.succ_ne_zero _)
  exact k_stk (st' := (.long (x * y) :: r)) hok he rfl (fun p e R s m args below meth cd H locs cells slots Qz rls ρ hx hb hd hown hts hl kk => lv_lmul hx hb hd kk) (fun h1 h2 => q_cl1 q_vcl_l (q_tl (q_tl h1))) hJ
theorem k_o_i2l {x : Int32} (hok : q_okB M = true) (he : q_nth M.2.2.2.2.1 pos = some (pc, .i2l, ln, a1, a2, w1, w2)) 
    (hJ : q_K g M xt d mc ms h0 mv Q k n (pos + 1, ls, (.long x.toInt64 :: r), h)) : q_K g M xt d mc ms h0 mv Q k n (pos, ls, (.int x :: r), h) := by
  obtain rfl : ln = 1 := (q_atB hok he).2.2.1 (Nat.succ_ne_zero _)
  exact k_stk (st' := (.long x.toInt64 :: r)) hok he rfl (fun p e R s m args below meth cd H locs cells slots Qz rls ρ hx hb hd hown hts hl kk => lv_i2l hx hb hd rfl kk) (fun h1 h2 => q_cl1 q_vcl_l (q_tl h1)) hJ
theorem k_o_i2b {x : Int32} (hok : q_okB M = true) (he : q_nth M.2.2.2.2.1 pos = some (pc, .i2b, ln, a1, a2, w1, w2)) 
    (hJ : q_K g M xt d mc ms h0 mv Q k n (pos + 1, ls, (.int x.toInt8.toInt32 :: r), h)) : q_K g M xt d mc ms h0 mv Q k n (pos, ls, (.int x :: r), h) := by
  obtain rfl : ln = 1 := (q_atB hok he).2.2.1 (Nat.succ_ne_zero _)
  exact k_stk (st' := (.int x.toInt8.toInt32 :: r)) hok he rfl (fun p e R s m args below meth cd H locs cells slots Qz rls ρ hx hb hd hown hts hl kk => lv_i2b hx hb hd rfl kk) (fun h1 h2 => q_cl1 q_vcl_i (q_tl h1)) hJ
theorem k_o_i2c {x : Int32} (hok : q_okB M = true) (he : q_nth M.2.2.2.2.1 pos = some (pc, .i2c, ln, a1, a2, w1, w2)) 
    (hJ : q_K g M xt d mc ms h0 mv Q k n (pos + 1, ls, (.int (x.toUInt32 % 65536).toInt32 :: r), h)) : q_K g M xt d mc ms h0 mv Q k n (pos, ls, (.int x :: r), h) := by
  obtain rfl : ln = 1 := (q_atB hok he).2.2.1 (Nat.succ_ne_zero _)
  exact k_stk (st' := (.int (x.toUInt32 % 65536).toInt32 :: r)) hok he rfl (fun p e R s m args below meth cd H locs cells slots Qz rls ρ hx hb hd hown hts hl kk => lv_i2c hx hb hd rfl kk) (fun h1 h2 => q_cl1 q_vcl_i (q_tl h1)) hJ
theorem k_o_dup {v : Value} (hok : q_okB M = true) (he : q_nth M.2.2.2.2.1 pos = some (pc, .dup, ln, a1, a2, w1, w2)) (hc : v.category = 1)
    (hJ : q_K g M xt d mc ms h0 mv Q k n (pos + 1, ls, (v :: v :: r), h)) : q_K g M xt d mc ms h0 mv Q k n (pos, ls, (v :: r), h) := by
  obtain rfl : ln = 1 := (q_atB hok he).2.2.1 (Nat.succ_ne_zero _)
  exact k_stk (st' := (v :: v :: r)) hok he rfl (fun p e R s m args below meth cd H locs cells slots Qz rls ρ hx hb hd hown hts hl kk => lv_dup hx hb hd (by cases v <;> first | rfl | exact hc) kk) (fun h1 h2 => q_cl1 (q_hd h1) h1) hJ
theorem k_o_pop {v : Value} (hok : q_okB M = true) (he : q_nth M.2.2.2.2.1 pos = some (pc, .pop, ln, a1, a2, w1, w2)) (hc : v.category = 1)
    (hJ : q_K g M xt d mc ms h0 mv Q k n (pos + 1, ls, r, h)) : q_K g M xt d mc ms h0 mv Q k n (pos, ls, (v :: r), h) := by
  obtain rfl : ln = 1 := (q_atB hok he).2.2.1 (Nat.succ_ne_zero _)
  exact k_stk (st' := r) hok he rfl (fun p e R s m args below meth cd H locs cells slots Qz rls ρ hx hb hd hown hts hl kk => lv_pop hx hb hd (by cases v <;> first | rfl | exact hc) kk) (fun h1 h2 => q_tl h1) hJ
theorem k_o_dup2 {v w : Value} (hok : q_okB M = true) (he : q_nth M.2.2.2.2.1 pos = some (pc, .dup2, ln, a1, a2, w1, w2)) (hc : v.category = 1) (hc2 : w.category = 1)
    (hJ : q_K g M xt d mc ms h0 mv Q k n (pos + 1, ls, (v :: w :: v :: w :: r), h)) : q_K g M xt d mc ms h0 mv Q k n (pos, ls, (v :: w :: r), h) := by
  obtain rfl : ln = 1 := (q_atB hok he).2.2.1 (Nat.succ_ne_zero _)
  exact k_stk (st' := (v :: w :: v :: w :: r)) hok he rfl (fun p e R s m args below meth cd H locs cells slots Qz rls ρ hx hb hd hown hts hl kk => lv_dup2_11 hx hb hd (by cases v <;> first | rfl | exact hc) (by cases w <;> first | rfl | exact hc2) kk) (fun h1 h2 => q_cl1 (q_hd h1) (q_cl1 (q_hd (q_tl h1)) h1)) hJ
theorem k_stl {ls' : List (Option Value)} {st' : List Value} {ins : Instr} (hok : q_okB M = true) (he : q_nth M.2.2.2.2.1 pos = some (pc, ins, ln, a1, a2, w1, w2)) (hf : q_falls ins = true)
    (hrow : ∀ (p : Program) (e : Env) (R : Room) (s : State) (m : MethodId) (args : Array Value) (below : List Frame) (meth : Method) (cd : Code) (H : Heap) (locs : List Loc) (cells slots : Nat) (Qz : State → Prop) (rls : Array Slot) (ρ : Nat → Nat),
      p.tables.exec = Jvm.exec → cd.code = M.2.1 → decode M.2.1 pc = .ok (ins, ln) → q_lh rls M.2.2.1 ρ ls →
      (∀ rls' : Array Slot, q_lh rls' M.2.2.1 ρ ls' → W p g.1 e R s m args below meth cd H locs cells slots Qz (F0 m (pc + ln) rls' (st'.map (q_vz ρ)))) → W p g.1 e R s m args below meth cd H locs cells slots Qz (F0 m pc rls (st.map (q_vz ρ))))
    (hcl : (∀ v ∈ st, q_vcl h v) → (∀ i v, q_nth ls i = some (some v) → q_vcl h v) → (∀ v ∈ st', q_vcl h v) ∧ (∀ i v, q_nth ls' i = some (some v) → q_vcl h v))
    (hJ : q_K g M xt d mc ms h0 mv Q k n (pos + 1, ls', st', h)) : q_K g M xt d mc ms h0 mv Q k n (pos, ls, st, h) := by
  intro p e s m args below meth cd D cA ρ0 ρ A H locs rls en hen hB hS
  cases he.symm.trans hen
  obtain ⟨hd, hnx, -, -⟩ := q_atB hok he
  obtain ⟨en', he', hpc⟩ := hnx hf
  obtain ⟨hx, hb, hr, hml, hts, hown, hlk, hnm, hxt⟩ := id hB
  obtain ⟨hK, hW, hVS, hX, hC, hst, hls, hlh, hag, hag2, hA, hnx0⟩ := id hS
  refine hrow p e _ s m args below meth cd H locs k n _ rls ρ hx hb hd hlh (fun rls' hlh' => ?_)
  have h9 := hJ p e s m args below meth cd D cA ρ0 ρ A H locs rls' en' he' hB ⟨hK, hW, hVS, hX, hC, (hcl hst hls).1, (hcl hst hls).2, hlh', hag, hag2, hA, hnx0⟩
  rw [hpc] at h9
  exact h9
theorem k_o_istore_n {v : Fin 4} {x : Int32} {ls' : List (Option Value)} (hok : q_okB M = true) (he : q_nth M.2.2.2.2.1 pos = some (pc, .istore_n v, ln, a1, a2, w1, w2)) (hs : q_setk ls v.val (.int x) some = some ls')
    (hJ : q_K g M xt d mc ms h0 mv Q k n (pos + 1, ls', r, h)) : q_K g M xt d mc ms h0 mv Q k n (pos, ls, (.int x) :: r, h) := by
  obtain rfl : ln = 1 := (q_atB hok he).2.2.1 (Nat.succ_ne_zero _)
  obtain ⟨l2, e1, e2, e3, e4, e5⟩ := q_setk_of _ _ _ _ _ hs
  cases e1
  refine k_stl (st' := r) hok he rfl (fun p e R s m args below meth cd H locs cells slots Qz rls ρ hx hb hd hl kk => ?_) (fun h1 h2 => ⟨q_tl h1, fun j u hj => ?_⟩) hJ
  · exact lv_istore_n hx hb hd rfl (q_lh_has hl) (by rw [← hl.2.1]; exact e3) rfl (fun rls' h' => kk rls' (q_lh_set hl rfl h' e2 e4 e5))
  · rw [e4] at hj
    by_cases hj2 : j = v.val
    · rw [if_pos hj2] at hj
      cases hj
      exact q_hd h1
    · rw [if_neg hj2] at hj
      exact h2 _ _ hj
theorem k_o_istore {i : Nat} {x : Int32} {ls' : List (Option Value)} (hok : q_okB M = true) (he : q_nth M.2.2.2.2.1 pos = some (pc, .istore i, ln, a1, a2, w1, w2)) (hs : q_setk ls i (.int x) some = some ls')
    (hJ : q_K g M xt d mc ms h0 mv Q k n (pos + 1, ls', r, h)) : q_K g M xt d mc ms h0 mv Q k n (pos, ls, (.int x) :: r, h) := by
  obtain rfl : ln = 2 := (q_atB hok he).2.2.1 (Nat.succ_ne_zero _)
  obtain ⟨l2, e1, e2, e3, e4, e5⟩ := q_setk_of _ _ _ _ _ hs
  cases e1
  refine k_stl (st' := r) hok he rfl (fun p e R s m args below meth cd H locs cells slots Qz rls ρ hx hb hd hl kk => ?_) (fun h1 h2 => ⟨q_tl h1, fun j u hj => ?_⟩) hJ
  · exact lv_istore hx hb hd (q_lh_has hl) (by rw [← hl.2.1]; exact e3) rfl (fun rls' h' => kk rls' (q_lh_set hl rfl h' e2 e4 e5))
  · rw [e4] at hj
    by_cases hj2 : j = i
    · rw [if_pos hj2] at hj
      cases hj
      exact q_hd h1
    · rw [if_neg hj2] at hj
      exact h2 _ _ hj
theorem k_o_astore_n {v : Fin 4} {x : Nat} {ls' : List (Option Value)} (hok : q_okB M = true) (he : q_nth M.2.2.2.2.1 pos = some (pc, .astore_n v, ln, a1, a2, w1, w2)) (hs : q_setk ls v.val (.ref x) some = some ls')
    (hJ : q_K g M xt d mc ms h0 mv Q k n (pos + 1, ls', r, h)) : q_K g M xt d mc ms h0 mv Q k n (pos, ls, (.ref x) :: r, h) := by
  obtain rfl : ln = 1 := (q_atB hok he).2.2.1 (Nat.succ_ne_zero _)
  obtain ⟨l2, e1, e2, e3, e4, e5⟩ := q_setk_of _ _ _ _ _ hs
  cases e1
  refine k_stl (st' := r) hok he rfl (fun p e R s m args below meth cd H locs cells slots Qz rls ρ hx hb hd hl kk => ?_) (fun h1 h2 => ⟨q_tl h1, fun j u hj => ?_⟩) hJ
  · exact lv_astore_n hx hb hd rfl (q_lh_has hl) (by rw [← hl.2.1]; exact e3) rfl (fun rls' h' => kk rls' (q_lh_set hl rfl h' e2 e4 e5))
  · rw [e4] at hj
    by_cases hj2 : j = v.val
    · rw [if_pos hj2] at hj
      cases hj
      exact q_hd h1
    · rw [if_neg hj2] at hj
      exact h2 _ _ hj
theorem k_o_astore {i : Nat} {x : Nat} {ls' : List (Option Value)} (hok : q_okB M = true) (he : q_nth M.2.2.2.2.1 pos = some (pc, .astore i, ln, a1, a2, w1, w2)) (hs : q_setk ls i (.ref x) some = some ls')
    (hJ : q_K g M xt d mc ms h0 mv Q k n (pos + 1, ls', r, h)) : q_K g M xt d mc ms h0 mv Q k n (pos, ls, (.ref x) :: r, h) := by
  obtain rfl : ln = 2 := (q_atB hok he).2.2.1 (Nat.succ_ne_zero _)
  obtain ⟨l2, e1, e2, e3, e4, e5⟩ := q_setk_of _ _ _ _ _ hs
  cases e1
  refine k_stl (st' := r) hok he rfl (fun p e R s m args below meth cd H locs cells slots Qz rls ρ hx hb hd hl kk => ?_) (fun h1 h2 => ⟨q_tl h1, fun j u hj => ?_⟩) hJ
  · exact lv_astore hx hb hd (q_lh_has hl) (by rw [← hl.2.1]; exact e3) rfl (fun rls' h' => kk rls' (q_lh_set hl rfl h' e2 e4 e5))
  · rw [e4] at hj
    by_cases hj2 : j = i
    · rw [if_pos hj2] at hj
      cases hj
      exact q_hd h1
    · rw [if_neg hj2] at hj
      exact h2 _ _ hj
theorem k_o_astore_nN {v : Fin 4}  {ls' : List (Option Value)} (hok : q_okB M = true) (he : q_nth M.2.2.2.2.1 pos = some (pc, .astore_n v, ln, a1, a2, w1, w2)) (hs : q_setk ls v.val .null some = some ls')
    (hJ : q_K g M xt d mc ms h0 mv Q k n (pos + 1, ls', r, h)) : q_K g M xt d mc ms h0 mv Q k n (pos, ls, .null :: r, h) := by
  obtain rfl : ln = 1 := (q_atB hok he).2.2.1 (Nat.succ_ne_zero _)
  obtain ⟨l2, e1, e2, e3, e4, e5⟩ := q_setk_of _ _ _ _ _ hs
  cases e1
  refine k_stl (st' := r) hok he rfl (fun p e R s m args below meth cd H locs cells slots Qz rls ρ hx hb hd hl kk => ?_) (fun h1 h2 => ⟨q_tl h1, fun j u hj => ?_⟩) hJ
  · exact lv_astore_nN hx hb hd rfl (q_lh_has hl) (by rw [← hl.2.1]; exact e3) rfl (fun rls' h' => kk rls' (q_lh_set hl rfl h' e2 e4 e5))
  · rw [e4] at hj
    by_cases hj2 : j = v.val
    · rw [if_pos hj2] at hj
      cases hj
      exact q_hd h1
    · rw [if_neg hj2] at hj
      exact h2 _ _ hj
theorem k_o_astoreN {i : Nat}  {ls' : List (Option Value)} (hok : q_okB M = true) (he : q_nth M.2.2.2.2.1 pos = some (pc, .astore i, ln, a1, a2, w1, w2)) (hs : q_setk ls i .null some = some ls')
    (hJ : q_K g M xt d mc ms h0 mv Q k n (pos + 1, ls', r, h)) : q_K g M xt d mc ms h0 mv Q k n (pos, ls, .null :: r, h) := by
  obtain rfl : ln = 2 := (q_atB hok he).2.2.1 (Nat.succ_ne_zero _)
  obtain ⟨l2, e1, e2, e3, e4, e5⟩ := q_setk_of _ _ _ _ _ hs
  cases e1
  refine k_stl (st' := r) hok he rfl (fun p e R s m args below meth cd H locs cells slots Qz rls ρ hx hb hd hl kk => ?_) (fun h1 h2 => ⟨q_tl h1, fun j u hj => ?_⟩) hJ
  · exact lv_astoreN hx hb hd (q_lh_has hl) (by rw [← hl.2.1]; exact e3) rfl (fun rls' h' => kk rls' (q_lh_set hl rfl h' e2 e4 e5))
  · rw [e4] at hj
    by_cases hj2 : j = i
    · rw [if_pos hj2] at hj
      cases hj
      exact q_hd h1
    · rw [if_neg hj2] at hj
      exact h2 _ _ hj
theorem k_o_lstore_n {v : Fin 4} {x : Int64} {ls' : List (Option Value)} (hok : q_okB M = true) (he : q_nth M.2.2.2.2.1 pos = some (pc, .lstore_n v, ln, a1, a2, w1, w2)) (hs : q_setk2 ls v.val (.long x) some = some ls')
    (hJ : q_K g M xt d mc ms h0 mv Q k n (pos + 1, ls', r, h)) : q_K g M xt d mc ms h0 mv Q k n (pos, ls, (.long x) :: r, h) := by
  obtain rfl : ln = 1 := (q_atB hok he).2.2.1 (Nat.succ_ne_zero _)
  obtain ⟨l2, e1, e2, e3, e4, e5⟩ := q_setk2_of _ _ _ _ _ hs
  cases e1
  refine k_stl (st' := r) hok he rfl (fun p e R s m args below meth cd H locs cells slots Qz rls ρ hx hb hd hl kk => ?_) (fun h1 h2 => ⟨q_tl h1, fun j u hj => ?_⟩) hJ
  · exact lv_lstore_n hx hb hd rfl (q_lh_has hl) (by rw [← hl.2.1]; exact e3) rfl (fun rls' h' => kk rls' (q_lh_set2 hl rfl h' e2 e4 e5))
  · rw [e4] at hj
    by_cases hj2 : j = v.val
    · rw [if_pos hj2] at hj
      cases hj
      exact q_hd h1
    · rw [if_neg hj2] at hj
      by_cases hj3 : j = v.val + 1
      · rw [if_pos hj3] at hj; cases hj
      rw [if_neg hj3] at hj
      exact h2 _ _ hj
theorem k_o_lstore {i : Nat} {x : Int64} {ls' : List (Option Value)} (hok : q_okB M = true) (he : q_nth M.2.2.2.2.1 pos = some (pc, .lstore i, ln, a1, a2, w1, w2)) (hs : q_setk2 ls i (.long x) some = some ls')
    (hJ : q_K g M xt d mc ms h0 mv Q k n (pos + 1, ls', r, h)) : q_K g M xt d mc ms h0 mv Q k n (pos, ls, (.long x) :: r, h) := by
  obtain rfl : ln = 2 := (q_atB hok he).2.2.1 (Nat.succ_ne_zero _)
  obtain ⟨l2, e1, e2, e3, e4, e5⟩ := q_setk2_of _ _ _ _ _ hs
  cases e1
  refine k_stl (st' := r) hok he rfl (fun p e R s m args below meth cd H locs cells slots Qz rls ρ hx hb hd hl kk => ?_) (fun h1 h2 => ⟨q_tl h1, fun j u hj => ?_⟩) hJ
  · exact lv_lstore hx hb hd (q_lh_has hl) (by rw [← hl.2.1]; exact e3) rfl (fun rls' h' => kk rls' (q_lh_set2 hl rfl h' e2 e4 e5))
  · rw [e4] at hj
    by_cases hj2 : j = i
    · rw [if_pos hj2] at hj
      cases hj
      exact q_hd h1
    · rw [if_neg hj2] at hj
      by_cases hj3 : j = i + 1
      · rw [if_pos hj3] at hj; cases hj
      rw [if_neg hj3] at hj
      exact h2 _ _ hj
theorem k_o_dstore_n {v : Fin 4} {x : UInt64} {ls' : List (Option Value)} (hok : q_okB M = true) (he : q_nth M.2.2.2.2.1 pos = some (pc, .dstore_n v, ln, a1, a2, w1, w2)) (hs : q_setk2 ls v.val (.double x) some = some ls')
    (hJ : q_K g M xt d mc ms h0 mv Q k n (pos + 1, ls', r, h)) : q_K g M xt d mc ms h0 mv Q k n (pos, ls, (.double x) :: r, h) := by
  obtain rfl : ln = 1 := (q_atB hok he).2.2.1 (Nat.succ_ne_zero _)
  obtain ⟨l2, e1, e2, e3, e4, e5⟩ := q_setk2_of _ _ _ _ _ hs
  cases e1
  refine k_stl (st' := r) hok he rfl (fun p e R s m args below meth cd H locs cells slots Qz rls ρ hx hb hd hl kk => ?_) (fun h1 h2 => ⟨q_tl h1, fun j u hj => ?_⟩) hJ
  · exact lv_dstore_n hx hb hd rfl (q_lh_has hl) (by rw [← hl.2.1]; exact e3) rfl (fun rls' h' => kk rls' (q_lh_set2 hl rfl h' e2 e4 e5))
  · rw [e4] at hj
    by_cases hj2 : j = v.val
    · rw [if_pos hj2] at hj
      cases hj
      exact q_hd h1
    · rw [if_neg hj2] at hj
      by_cases hj3 : j = v.val + 1
      · rw [if_pos hj3] at hj; cases hj
      rw [if_neg hj3] at hj
      exact h2 _ _ hj
theorem k_o_dstore {i : Nat} {x : UInt64} {ls' : List (Option Value)} (hok : q_okB M = true) (he : q_nth M.2.2.2.2.1 pos = some (pc, .dstore i, ln, a1, a2, w1, w2)) (hs : q_setk2 ls i (.double x) some = some ls')
    (hJ : q_K g M xt d mc ms h0 mv Q k n (pos + 1, ls', r, h)) : q_K g M xt d mc ms h0 mv Q k n (pos, ls, (.double x) :: r, h) := by
  obtain rfl : ln = 2 := (q_atB hok he).2.2.1 (Nat.succ_ne_zero _)
  obtain ⟨l2, e1, e2, e3, e4, e5⟩ := q_setk2_of _ _ _ _ _ hs
  cases e1
  refine k_stl (st' := r) hok he rfl (fun p e R s m args below meth cd H locs cells slots Qz rls ρ hx hb hd hl kk => ?_) (fun h1 h2 => ⟨q_tl h1, fun j u hj => ?_⟩) hJ
  · exact lv_dstore hx hb hd (q_lh_has hl) (by rw [← hl.2.1]; exact e3) rfl (fun rls' h' => kk rls' (q_lh_set2 hl rfl h' e2 e4 e5))
  · rw [e4] at hj
    by_cases hj2 : j = i
    · rw [if_pos hj2] at hj
      cases hj
      exact q_hd h1
    · rw [if_neg hj2] at hj
      by_cases hj3 : j = i + 1
      · rw [if_pos hj3] at hj; cases hj
      rw [if_neg hj3] at hj
      exact h2 _ _ hj
theorem k_o_iinc {i : Nat} {v : Int} {x : Int32} {ls' : List (Option Value)} (hok : q_okB M = true) (he : q_nth M.2.2.2.2.1 pos = some (pc, .iinc i v, ln, a1, a2, w1, w2)) (hv : q_nth ls i = some (some (.int x))) (hs : q_setk ls i (.int (x + q_li a1 a2)) some = some ls')
    (hJ : q_K g M xt d mc ms h0 mv Q k n (pos + 1, ls', st, h)) : q_K g M xt d mc ms h0 mv Q k n (pos, ls, st, h) := by
  obtain rfl : ln = 3 := (q_atB hok he).2.2.1 (Nat.succ_ne_zero _)
  obtain ⟨l2, e1, e2, e3, e4, e5⟩ := q_setk_of _ _ _ _ _ hs
  cases e1
  refine k_stl (st' := st) hok he rfl (fun p e R s m args below meth cd H locs cells slots Qz rls ρ hx hb hd hl kk => ?_) (fun h1 h2 => ⟨h1, fun j u hj => ?_⟩) hJ
  · obtain ⟨kx, hkx⟩ := List.getElem?_of_mem (q_lv_in (ρ := ρ) hv)
    have h9 := (q_atB hok he).2.2.2
    simp only [q_ok2, decide_eq_true_eq] at h9
    exact lv_iinc (v := x + q_li a1 a2) hx hb hd (q_lh_has hl) hkx (by rw [h9]) (by rw [← hl.2.1]; exact e3) rfl (fun rls' h' => kk rls' (q_lh_set hl rfl h' e2 e4 e5))
  · rw [e4] at hj
    by_cases hj2 : j = i
    · rw [if_pos hj2] at hj
      cases hj
      exact q_vcl_i
    · rw [if_neg hj2] at hj
      exact h2 _ _ hj
theorem k_br2 {ls : List (Option Value)} {st st' : List Value} {ins : Instr} {P : Prop} (hok : q_okB M = true) (he : q_nth M.2.2.2.2.1 pos = some (pc, ins, ln, a1, a2, w1, w2)) (hf : q_falls ins = true) (off : Int) (hto : q_ok2 M.1.cls M.1.name M.2.2.2.2.1 (pc, ins, ln, a1, a2, w1, w2) = q_tgt M.2.2.2.2.1 pc a1 off)
    (hrow : ∀ (p : Program) (e : Env) (R : Room) (s : State) (m : MethodId) (args : Array Value) (below : List Frame) (meth : Method) (cd : Code) (H : Heap) (locs : List Loc) (cells slots : Nat) (Qz : State → Prop) (rls : Array Slot) (ρ : Nat → Nat) (tgt : Nat),
      p.tables.exec = Jvm.exec → cd.code = M.2.1 → decode M.2.1 pc = .ok (ins, ln) → (pc : Int) + off = (tgt : Int) →
      (P → W p g.1 e R s m args below meth cd H locs cells slots Qz (F0 m tgt rls (st'.map (q_vz ρ)))) → (¬ P → W p g.1 e R s m args below meth cd H locs cells slots Qz (F0 m (pc + ln) rls (st'.map (q_vz ρ)))) → W p g.1 e R s m args below meth cd H locs cells slots Qz (F0 m pc rls (st.map (q_vz ρ))))
    (hcl : (∀ v ∈ st, q_vcl h v) → ∀ v ∈ st', q_vcl h v)
    (hT : P → q_K g M xt d mc ms h0 mv Q k n (a1, ls, st', h)) (hF : ¬ P → q_K g M xt d mc ms h0 mv Q k n (pos + 1, ls, st', h)) : q_K g M xt d mc ms h0 mv Q k n (pos, ls, st, h) := by
  intro p e s m args below meth cd D cA ρ0 ρ A H locs rls en hen hB hS
  cases he.symm.trans hen
  obtain ⟨hd, hnx, -, ho2⟩ := q_atB hok he
  obtain ⟨en', he', hpc⟩ := hnx hf
  rw [hto] at ho2
  unfold q_tgt at ho2
  cases hq : q_nth M.2.2.2.2.1 a1 with
  | none => rw [hq] at ho2; cases ho2
  | some et =>
  rw [hq] at ho2
  have htg : (pc : Int) + off = (et.1 : Int) := by simpa using ho2
  obtain ⟨hx, hb, hr, hml, hts, hown, hlk, hnm, hxt⟩ := id hB
  obtain ⟨hK, hW, hVS, hX, hC, hst, hls, hlh, hag, hag2, hA, hnx0⟩ := id hS
  refine hrow p e _ s m args below meth cd H locs k n _ rls ρ et.1 hx hb hd htg (fun hP => ?_) (fun hP => ?_)
  · exact hT hP p e s m args below meth cd D cA ρ0 ρ A H locs rls et hq hB ⟨hK, hW, hVS, hX, hC, hcl hst, hls, hlh, hag, hag2, hA, hnx0⟩
  · have h9 := hF hP p e s m args below meth cd D cA ρ0 ρ A H locs rls en' he' hB ⟨hK, hW, hVS, hX, hC, hcl hst, hls, hlh, hag, hag2, hA, hnx0⟩
    rw [hpc] at h9
    exact h9
theorem k_o_if_eq {off : Int} {x : Int32} (hok : q_okB M = true) (he : q_nth M.2.2.2.2.1 pos = some (pc, .ifCond .eq off, ln, a1, a2, w1, w2))
    (hT : x = 0 → q_K g M xt d mc ms h0 mv Q k n (a1, ls, r, h)) (hF : ¬ (x = 0) → q_K g M xt d mc ms h0 mv Q k n (pos + 1, ls, r, h)) : q_K g M xt d mc ms h0 mv Q k n (pos, ls, .int x :: r, h) := by
  obtain rfl : ln = 3 := (q_atB hok he).2.2.1 (Nat.succ_ne_zero _)
  exact k_br2 (P := x = 0) (st' := r) hok he rfl off rfl (fun p e R s m args below meth cd H locs cells slots Qz rls ρ tgt hx hb hd ht kt kf => lv_if_eq hx hb hd ht kt kf) (fun h1 => q_tl h1) hT hF
theorem k_o_icmp_eq {off : Int} {x y : Int32} (hok : q_okB M = true) (he : q_nth M.2.2.2.2.1 pos = some (pc, .if_icmp .eq off, ln, a1, a2, w1, w2))
    (hT : x = y → q_K g M xt d mc ms h0 mv Q k n (a1, ls, r, h)) (hF : ¬ (x = y) → q_K g M xt d mc ms h0 mv Q k n (pos + 1, ls, r, h)) : q_K g M xt d mc ms h0 mv Q k n (pos, ls, .int y :: .int x :: r, h) := by
  obtain rfl : ln = 3 := (q_atB hok he).2.2.1 (Nat.succ_ne_zero _)
  exact k_br2 (P := x = y) (st' := r) hok he rfl off rfl (fun p e R s m args below meth cd H locs cells slots Qz rls ρ tgt hx hb hd ht kt kf => lv_icmp_eq hx hb hd ht kt kf) (fun h1 => q_tl (q_tl h1)) hT hF
theorem k_o_if_ne {off : Int} {x : Int32} (hok : q_okB M = true) (he : q_nth M.2.2.2.2.1 pos = some (pc, .ifCond .ne off, ln, a1, a2, w1, w2))
    (hT : ¬ x = 0 → q_K g M xt d mc ms h0 mv Q k n (a1, ls, r, h)) (hF : ¬ (¬ x = 0) → q_K g M xt d mc ms h0 mv Q k n (pos + 1, ls, r, h)) : q_K g M xt d mc ms h0 mv Q k n (pos, ls, .int x :: r, h) := by
  obtain rfl : ln = 3 := (q_atB hok he).2.2.1 (Nat.succ_ne_zero _)
  exact k_br2 (P := ¬ x = 0) (st' := r) hok he rfl off rfl (fun p e R s m args below meth cd H locs cells slots Qz rls ρ tgt hx hb hd ht kt kf => lv_if_ne hx hb hd ht kt (fun h9 => kf (fun h8 => h8 h9))) (fun h1 => q_tl h1) hT hF
theorem k_o_icmp_ne {off : Int} {x y : Int32} (hok : q_okB M = true) (he : q_nth M.2.2.2.2.1 pos = some (pc, .if_icmp .ne off, ln, a1, a2, w1, w2))
    (hT : ¬ x = y → q_K g M xt d mc ms h0 mv Q k n (a1, ls, r, h)) (hF : ¬ (¬ x = y) → q_K g M xt d mc ms h0 mv Q k n (pos + 1, ls, r, h)) : q_K g M xt d mc ms h0 mv Q k n (pos, ls, .int y :: .int x :: r, h) := by
  obtain rfl : ln = 3 := (q_atB hok he).2.2.1 (Nat.succ_ne_zero _)
  exact k_br2 (P := ¬ x = y) (st' := r) hok he rfl off rfl (fun p e R s m args below meth cd H locs cells slots Qz rls ρ tgt hx hb hd ht kt kf => lv_icmp_ne hx hb hd ht kt (fun h9 => kf (fun h8 => h8 h9))) (fun h1 => q_tl (q_tl h1)) hT hF
theorem k_o_if_lt {off : Int} {x : Int32} (hok : q_okB M = true) (he : q_nth M.2.2.2.2.1 pos = some (pc, .ifCond .lt off, ln, a1, a2, w1, w2))
    (hT : x < 0 → q_K g M xt d mc ms h0 mv Q k n (a1, ls, r, h)) (hF : ¬ (x < 0) → q_K g M xt d mc ms h0 mv Q k n (pos + 1, ls, r, h)) : q_K g M xt d mc ms h0 mv Q k n (pos, ls, .int x :: r, h) := by
  obtain rfl : ln = 3 := (q_atB hok he).2.2.1 (Nat.succ_ne_zero _)
  exact k_br2 (P := x < 0) (st' := r) hok he rfl off rfl (fun p e R s m args below meth cd H locs cells slots Qz rls ρ tgt hx hb hd ht kt kf => lv_if_lt hx hb hd ht kt kf) (fun h1 => q_tl h1) hT hF
theorem k_o_icmp_lt {off : Int} {x y : Int32} (hok : q_okB M = true) (he : q_nth M.2.2.2.2.1 pos = some (pc, .if_icmp .lt off, ln, a1, a2, w1, w2))
    (hT : x < y → q_K g M xt d mc ms h0 mv Q k n (a1, ls, r, h)) (hF : ¬ (x < y) → q_K g M xt d mc ms h0 mv Q k n (pos + 1, ls, r, h)) : q_K g M xt d mc ms h0 mv Q k n (pos, ls, .int y :: .int x :: r, h) := by
  obtain rfl : ln = 3 := (q_atB hok he).2.2.1 (Nat.succ_ne_zero _)
  exact k_br2 (P := x < y) (st' := r) hok he rfl off rfl (fun p e R s m args below meth cd H locs cells slots Qz rls ρ tgt hx hb hd ht kt kf => lv_icmp_lt hx hb hd ht kt kf) (fun h1 => q_tl (q_tl h1)) hT hF
theorem k_o_if_ge {off : Int} {x : Int32} (hok : q_okB M = true) (he : q_nth M.2.2.2.2.1 pos = some (pc, .ifCond .ge off, ln, a1, a2, w1, w2))
    (hT : 0 ≤ x → q_K g M xt d mc ms h0 mv Q k n (a1, ls, r, h)) (hF : ¬ (0 ≤ x) → q_K g M xt d mc ms h0 mv Q k n (pos + 1, ls, r, h)) : q_K g M xt d mc ms h0 mv Q k n (pos, ls, .int x :: r, h) := by
  obtain rfl : ln = 3 := (q_atB hok he).2.2.1 (Nat.succ_ne_zero _)
  exact k_br2 (P := 0 ≤ x) (st' := r) hok he rfl off rfl (fun p e R s m args below meth cd H locs cells slots Qz rls ρ tgt hx hb hd ht kt kf => lv_if_ge hx hb hd ht kt kf) (fun h1 => q_tl h1) hT hF
theorem k_o_icmp_ge {off : Int} {x y : Int32} (hok : q_okB M = true) (he : q_nth M.2.2.2.2.1 pos = some (pc, .if_icmp .ge off, ln, a1, a2, w1, w2))
    (hT : y ≤ x → q_K g M xt d mc ms h0 mv Q k n (a1, ls, r, h)) (hF : ¬ (y ≤ x) → q_K g M xt d mc ms h0 mv Q k n (pos + 1, ls, r, h)) : q_K g M xt d mc ms h0 mv Q k n (pos, ls, .int y :: .int x :: r, h) := by
  obtain rfl : ln = 3 := (q_atB hok he).2.2.1 (Nat.succ_ne_zero _)
  exact k_br2 (P := y ≤ x) (st' := r) hok he rfl off rfl (fun p e R s m args below meth cd H locs cells slots Qz rls ρ tgt hx hb hd ht kt kf => lv_icmp_ge hx hb hd ht kt kf) (fun h1 => q_tl (q_tl h1)) hT hF
theorem k_o_if_gt {off : Int} {x : Int32} (hok : q_okB M = true) (he : q_nth M.2.2.2.2.1 pos = some (pc, .ifCond .gt off, ln, a1, a2, w1, w2))
    (hT : 0 < x → q_K g M xt d mc ms h0 mv Q k n (a1, ls, r, h)) (hF : ¬ (0 < x) → q_K g M xt d mc ms h0 mv Q k n (pos + 1, ls, r, h)) : q_K g M xt d mc ms h0 mv Q k n (pos, ls, .int x :: r, h) := by
  obtain rfl : ln = 3 := (q_atB hok he).2.2.1 (Nat.succ_ne_zero _)
  exact k_br2 (P := 0 < x) (st' := r) hok he rfl off rfl (fun p e R s m args below meth cd H locs cells slots Qz rls ρ tgt hx hb hd ht kt kf => lv_if_gt hx hb hd ht kt kf) (fun h1 => q_tl h1) hT hF
theorem k_o_icmp_gt {off : Int} {x y : Int32} (hok : q_okB M = true) (he : q_nth M.2.2.2.2.1 pos = some (pc, .if_icmp .gt off, ln, a1, a2, w1, w2))
    (hT : y < x → q_K g M xt d mc ms h0 mv Q k n (a1, ls, r, h)) (hF : ¬ (y < x) → q_K g M xt d mc ms h0 mv Q k n (pos + 1, ls, r, h)) : q_K g M xt d mc ms h0 mv Q k n (pos, ls, .int y :: .int x :: r, h) := by
  obtain rfl : ln = 3 := (q_atB hok he).2.2.1 (Nat.succ_ne_zero _)
  exact k_br2 (P := y < x) (st' := r) hok he rfl off rfl (fun p e R s m args below meth cd H locs cells slots Qz rls ρ tgt hx hb hd ht kt kf => lv_icmp_gt hx hb hd ht kt kf) (fun h1 => q_tl (q_tl h1)) hT hF
theorem k_o_if_le {off : Int} {x : Int32} (hok : q_okB M = true) (he : q_nth M.2.2.2.2.1 pos = some (pc, .ifCond .le off, ln, a1, a2, w1, w2))
    (hT : x ≤ 0 → q_K g M xt d mc ms h0 mv Q k n (a1, ls, r, h)) (hF : ¬ (x ≤ 0) → q_K g M xt d mc ms h0 mv Q k n (pos + 1, ls, r, h)) : q_K g M xt d mc ms h0 mv Q k n (pos, ls, .int x :: r, h) := by
  obtain rfl : ln = 3 := (q_atB hok he).2.2.1 (Nat.succ_ne_zero _)
  exact k_br2 (P := x ≤ 0) (st' := r) hok he rfl off rfl (fun p e R s m args below meth cd H locs cells slots Qz rls ρ tgt hx hb hd ht kt kf => lv_if_le hx hb hd ht kt kf) (fun h1 => q_tl h1) hT hF
theorem k_o_icmp_le {off : Int} {x y : Int32} (hok : q_okB M = true) (he : q_nth M.2.2.2.2.1 pos = some (pc, .if_icmp .le off, ln, a1, a2, w1, w2))
    (hT : x ≤ y → q_K g M xt d mc ms h0 mv Q k n (a1, ls, r, h)) (hF : ¬ (x ≤ y) → q_K g M xt d mc ms h0 mv Q k n (pos + 1, ls, r, h)) : q_K g M xt d mc ms h0 mv Q k n (pos, ls, .int y :: .int x :: r, h) := by
  obtain rfl : ln = 3 := (q_atB hok he).2.2.1 (Nat.succ_ne_zero _)
  exact k_br2 (P := x ≤ y) (st' := r) hok he rfl off rfl (fun p e R s m args below meth cd H locs cells slots Qz rls ρ tgt hx hb hd ht kt kf => lv_icmp_le hx hb hd ht kt kf) (fun h1 => q_tl (q_tl h1)) hT hF
theorem k_o_goto {off : Int} (hok : q_okB M = true) (he : q_nth M.2.2.2.2.1 pos = some (pc, .goto off, ln, a1, a2, w1, w2)) (hT : q_K g M xt d mc ms h0 mv Q k n (a1, ls, st, h)) : q_K g M xt d mc ms h0 mv Q k n (pos, ls, st, h) := by
  obtain rfl : ln = 3 := (q_atB hok he).2.2.1 (Nat.succ_ne_zero _)
  intro p e s m args below meth cd D cA ρ0 ρ A H locs rls en hen hB hS
  cases he.symm.trans hen
  obtain ⟨hd, -, -, ho2⟩ := q_atB hok he
  have ho2 : q_tgt M.2.2.2.2.1 pc a1 off = true := ho2
  unfold q_tgt at ho2
  cases hq : q_nth M.2.2.2.2.1 a1 with
  | none => rw [hq] at ho2; cases ho2
  | some et =>
  rw [hq] at ho2
  have htg : (pc : Int) + off = (et.1 : Int) := by simpa using ho2
  exact lv_goto hB.1 hB.2.1 hd htg (hT p e s m args below meth cd D cA ρ0 ρ A H locs rls et hq hB hS)
theorem k_o_ifnullR {off : Int} {x : Nat} (hok : q_okB M = true) (he : q_nth M.2.2.2.2.1 pos = some (pc, .ifnull off, ln, a1, a2, w1, w2)) (hF : q_K g M xt d mc ms h0 mv Q k n (pos + 1, ls, r, h)) : q_K g M xt d mc ms h0 mv Q k n (pos, ls, .ref x :: r, h) := by
  obtain rfl : ln = 3 := (q_atB hok he).2.2.1 (Nat.succ_ne_zero _)
  exact k_stk (st' := r) hok he rfl (fun p e R s m args below meth cd H locs cells slots Qz rls ρ hx hb hd hown hts hl kk => lv_ifnull hx hb hd kk) (fun h1 h2 => q_tl h1) hF
theorem k_o_ifnonnullN {off : Int} (hok : q_okB M = true) (he : q_nth M.2.2.2.2.1 pos = some (pc, .ifnonnull off, ln, a1, a2, w1, w2)) (hF : q_K g M xt d mc ms h0 mv Q k n (pos + 1, ls, r, h)) : q_K g M xt d mc ms h0 mv Q k n (pos, ls, .null :: r, h) := by
  obtain rfl : ln = 3 := (q_atB hok he).2.2.1 (Nat.succ_ne_zero _)
  exact k_stk (st' := r) hok he rfl (fun p e R s m args below meth cd H locs cells slots Qz rls ρ hx hb hd hown hts hl kk => lv_ifnonnullN hx hb hd kk) (fun h1 h2 => q_tl h1) hF
theorem k_o_ifnonnullR {off : Int} {x : Nat} (hok : q_okB M = true) (he : q_nth M.2.2.2.2.1 pos = some (pc, .ifnonnull off, ln, a1, a2, w1, w2)) (hT : q_K g M xt d mc ms h0 mv Q k n (a1, ls, r, h)) : q_K g M xt d mc ms h0 mv Q k n (pos, ls, .ref x :: r, h) := by
  obtain rfl : ln = 3 := (q_atB hok he).2.2.1 (Nat.succ_ne_zero _)
  exact k_br2 (P := True) (st' := r) hok he rfl off rfl (fun p e R s m args below meth cd H locs cells slots Qz rls ρ tgt hx hb hd ht kt kf => lv_ifnonnull hx hb hd ht (kt trivial)) (fun h1 => q_tl h1) (fun _ => hT) (fun h9 => absurd trivial h9)
theorem k_o_ifnullN {off : Int} (hok : q_okB M = true) (he : q_nth M.2.2.2.2.1 pos = some (pc, .ifnull off, ln, a1, a2, w1, w2)) (hT : q_K g M xt d mc ms h0 mv Q k n (a1, ls, r, h)) : q_K g M xt d mc ms h0 mv Q k n (pos, ls, .null :: r, h) := by
  obtain rfl : ln = 3 := (q_atB hok he).2.2.1 (Nat.succ_ne_zero _)
  exact k_br2 (P := True) (st' := r) hok he rfl off rfl (fun p e R s m args below meth cd H locs cells slots Qz rls ρ tgt hx hb hd ht kt kf => lv_ifnullN hx hb hd ht (kt trivial)) (fun h1 => q_tl h1) (fun _ => hT) (fun h9 => absurd trivial h9)
end KQOPS
section KQHEAP
variable {g : q_G} {xt : List ExceptionTableEntry} {M : q_M} {d mc ms : Nat} {h0 : q_H} {mv : List Nat} {Q : (Option Value ⊕ String) → q_H → Prop} {k n pos pc ln a1 a2 w1 w2 a ci v idx : Nat} {ls : List (Option Value)} {r : List Value} {h : q_H}
theorem k_o_getI (hok : q_okB M = true) (he : q_nth M.2.2.2.2.1 pos = some (pc, .getfield idx, ln, ci, a2, w1, w2)) (ha : 400 ≤ a) (hsh : q_sh h a = (0, ci, v)) (hci : ci < 15) (hkd : q_kd ci v a2 = 0)
    (hJ : q_K g M xt d mc ms h0 mv Q k n (pos + 1, ls, (.int (q_I h a a2)) :: r, h)) : q_K g M xt d mc ms h0 mv Q k n (pos, ls, .ref a :: r, h) := by
  obtain rfl : ln = 3 := (q_atB hok he).2.2.1 (Nat.succ_ne_zero _)
  intro p e s m args below meth cd D cA ρ0 ρ A H locs rls en hen hB hS
  cases he.symm.trans hen
  obtain ⟨hd, hnx, -, ho2⟩ := q_atB hok he
  obtain ⟨en', he', hpc⟩ := hnx rfl
  obtain ⟨hx, hb, hr, hml, hts, hown, hlk, hnm, hxt⟩ := id hB
  obtain ⟨hK, hW, hVS, hX, hC, hst, hls, hlh, hag, hag2, hA, hnx0⟩ := id hS
  have ha2 : a < q_nx h := q_lt hC hsh (by decide)
  have h9 := hJ p e s m args below meth cd D cA ρ0 ρ A H locs rls en' he' hB ⟨hK, hW, hVS, hX, hC, q_cl1 q_vcl_i (q_tl hst), hls, hlh, hag, hag2, hA, hnx0⟩
  rw [hpc] at h9
  simp only [q_ok2, Bool.or_eq_true, decide_eq_true_eq] at ho2
  have ho3 := ho2.resolve_left (by omega)
  cases hf : q_fld ci a2 with
  | none => rw [hf] at ho3; cases ho3
  | some f =>
  rw [hf] at ho3
  obtain ⟨c, hc, hk, hcf, hnf⟩ := q_fld_of hf
  obtain ⟨ws, e9, e1, e2, hP, hD, hat, hcr⟩ := q_Wd_at hW ha ha2
  rw [hsh] at hcr
  obtain ⟨fs, rfl, hfl, hfv⟩ := hcr
  have hval := hfv a2 (by rw [hnf]; exact hk) (by rw [hkd]; decide)
  rw [hkd] at hval
  have hv2 : fs[a2]? = some (q_vz ρ (.int (q_I h a a2))) := hval
  subst hcf
  rcases q_isF_of ho3 with hw | ⟨host, hw⟩
  · exact va_get (T := c.2.1) (N := c.2.2) (C := c.1) hx hb hts (q_cls_in ci c hc) hown hK hP (a - 400) hat hc a2 hk (hts _ (q_gw_in hw rfl)) (fun _ h8 => h8) hv2 hd h9
  · exact va_getN (T := c.2.1) (N := c.2.2) (C := c.1) hx hb hts (q_cls_in ci c hc) hown hK hP (a - 400) hat hc a2 hk (q_Xn hX (q_gw_in2 hw) rfl rfl) (fun _ h8 => h8) hv2 hd h9
theorem k_o_getR (hok : q_okB M = true) (he : q_nth M.2.2.2.2.1 pos = some (pc, .getfield idx, ln, ci, a2, w1, w2)) (ha : 400 ≤ a) (hsh : q_sh h a = (0, ci, v)) (hci : ci < 15) (hkd : q_kd ci v a2 = 1)
    (hJ : q_K g M xt d mc ms h0 mv Q k n (pos + 1, ls, (va_rf (q_R h a a2)) :: r, h)) : q_K g M xt d mc ms h0 mv Q k n (pos, ls, .ref a :: r, h) := by
  obtain rfl : ln = 3 := (q_atB hok he).2.2.1 (Nat.succ_ne_zero _)
  intro p e s m args below meth cd D cA ρ0 ρ A H locs rls en hen hB hS
  cases he.symm.trans hen
  obtain ⟨hd, hnx, -, ho2⟩ := q_atB hok he
  obtain ⟨en', he', hpc⟩ := hnx rfl
  obtain ⟨hx, hb, hr, hml, hts, hown, hlk, hnm, hxt⟩ := id hB
  obtain ⟨hK, hW, hVS, hX, hC, hst, hls, hlh, hag, hag2, hA, hnx0⟩ := id hS
  have ha2 : a < q_nx h := q_lt hC hsh (by decide)
  have h9 := hJ p e s m args below meth cd D cA ρ0 ρ A H locs rls en' he' hB ⟨hK, hW, hVS, hX, hC, q_cl1 (by cases hq : q_R h a a2 with | none => exact q_vcl_n | some b => intro z hz; cases hz; exact hC.1 _ _ _ hq) (q_tl hst), hls, hlh, hag, hag2, hA, hnx0⟩
  rw [hpc] at h9
  simp only [q_ok2, Bool.or_eq_true, decide_eq_true_eq] at ho2
  have ho3 := ho2.resolve_left (by omega)
  cases hf : q_fld ci a2 with
  | none => rw [hf] at ho3; cases ho3
  | some f =>
  rw [hf] at ho3
  obtain ⟨c, hc, hk, hcf, hnf⟩ := q_fld_of hf
  obtain ⟨ws, e9, e1, e2, hP, hD, hat, hcr⟩ := q_Wd_at hW ha ha2
  rw [hsh] at hcr
  obtain ⟨fs, rfl, hfl, hfv⟩ := hcr
  have hval := hfv a2 (by rw [hnf]; exact hk) (by rw [hkd]; decide)
  rw [hkd] at hval
  have hv2 : fs[a2]? = some (q_vz ρ (va_rf (q_R h a a2))) := hval.trans (congrArg some (q_rf_vz ρ _))
  subst hcf
  rcases q_isF_of ho3 with hw | ⟨host, hw⟩
  · exact va_get (T := c.2.1) (N := c.2.2) (C := c.1) hx hb hts (q_cls_in ci c hc) hown hK hP (a - 400) hat hc a2 hk (hts _ (q_gw_in hw rfl)) (fun _ h8 => h8) hv2 hd h9
  · exact va_getN (T := c.2.1) (N := c.2.2) (C := c.1) hx hb hts (q_cls_in ci c hc) hown hK hP (a - 400) hat hc a2 hk (q_Xn hX (q_gw_in2 hw) rfl rfl) (fun _ h8 => h8) hv2 hd h9
theorem k_o_getE (hok : q_okB M = true) (he : q_nth M.2.2.2.2.1 pos = some (pc, .getfield idx, ln, ci, a2, w1, w2)) (ha : 400 ≤ a) (hsh : q_sh h a = (0, ci, v)) (hci : ci < 15) (hkd : q_kd ci v a2 = 2)
    (hJ : q_K g M xt d mc ms h0 mv Q k n (pos + 1, ls, (va_rf (q_E h a a2)) :: r, h)) : q_K g M xt d mc ms h0 mv Q k n (pos, ls, .ref a :: r, h) := by
  obtain rfl : ln = 3 := (q_atB hok he).2.2.1 (Nat.succ_ne_zero _)
  intro p e s m args below meth cd D cA ρ0 ρ A H locs rls en hen hB hS
  cases he.symm.trans hen
  obtain ⟨hd, hnx, -, ho2⟩ := q_atB hok he
  obtain ⟨en', he', hpc⟩ := hnx rfl
  obtain ⟨hx, hb, hr, hml, hts, hown, hlk, hnm, hxt⟩ := id hB
  obtain ⟨hK, hW, hVS, hX, hC, hst, hls, hlh, hag, hag2, hA, hnx0⟩ := id hS
  have ha2 : a < q_nx h := q_lt hC hsh (by decide)
  have h9 := hJ p e s m args below meth cd D cA ρ0 ρ A H locs rls en' he' hB ⟨hK, hW, hVS, hX, hC, q_cl1 (by cases hq : q_E h a a2 with | none => exact q_vcl_n | some b => intro z hz; cases hz; exact Nat.lt_of_lt_of_le (hC.2.1 _ _ _ hq) (Nat.le_trans (by decide) hnx0.1)) (q_tl hst), hls, hlh, hag, hag2, hA, hnx0⟩
  rw [hpc] at h9
  simp only [q_ok2, Bool.or_eq_true, decide_eq_true_eq] at ho2
  have ho3 := ho2.resolve_left (by omega)
  cases hf : q_fld ci a2 with
  | none => rw [hf] at ho3; cases ho3
  | some f =>
  rw [hf] at ho3
  obtain ⟨c, hc, hk, hcf, hnf⟩ := q_fld_of hf
  obtain ⟨ws, e9, e1, e2, hP, hD, hat, hcr⟩ := q_Wd_at hW ha ha2
  rw [hsh] at hcr
  obtain ⟨fs, rfl, hfl, hfv⟩ := hcr
  have hval := hfv a2 (by rw [hnf]; exact hk) (by rw [hkd]; decide)
  rw [hkd] at hval
  have hv2 : fs[a2]? = some (q_vz ρ (va_rf (q_E h a a2))) := hval.trans (congrArg some (q_rf_vz ρ _))
  subst hcf
  rcases q_isF_of ho3 with hw | ⟨host, hw⟩
  · exact va_get (T := c.2.1) (N := c.2.2) (C := c.1) hx hb hts (q_cls_in ci c hc) hown hK hP (a - 400) hat hc a2 hk (hts _ (q_gw_in hw rfl)) (fun _ h8 => h8) hv2 hd h9
  · exact va_getN (T := c.2.1) (N := c.2.2) (C := c.1) hx hb hts (q_cls_in ci c hc) hown hK hP (a - 400) hat hc a2 hk (q_Xn hX (q_gw_in2 hw) rfl rfl) (fun _ h8 => h8) hv2 hd h9
theorem k_o_putI {x : Int32} (hok : q_okB M = true) (he : q_nth M.2.2.2.2.1 pos = some (pc, .putfield idx, ln, ci, a2, w1, w2)) (ha : 400 ≤ a) (hsh : q_sh h a = (0, ci, v)) (hv2 : v < 2) (hkd : q_kd ci v a2 = 0) 
    (hJ : q_K g M xt d mc ms h0 mv Q k n (pos + 1, ls, r, (q_nx h, q_sh h, q_u2 (q_I h) a a2 x, q_R h, q_E h, q_L h))) : q_K g M xt d mc ms h0 mv Q k n (pos, ls, (.int x) :: .ref a :: r, h) := by
  obtain rfl : ln = 3 := (q_atB hok he).2.2.1 (Nat.succ_ne_zero _)
  intro p e s m args below meth cd D cA ρ0 ρ A H locs rls en hen hB hS
  cases he.symm.trans hen
  obtain ⟨hd, hnx, -, ho2⟩ := q_atB hok he
  obtain ⟨en', he', hpc⟩ := hnx rfl
  obtain ⟨hx, hb, hr, hml, hts, hown, hlk, hnm, hxt⟩ := id hB
  obtain ⟨hK, hW, hVS, hX, hC, hst, hls, hlh, hag, hag2, hA, hnx0⟩ := id hS
  have ha2 : a < q_nx h := q_lt hC hsh (by decide)
  simp only [q_ok2] at ho2
  cases hf : q_fld ci a2 with
  | none => rw [hf] at ho2; cases ho2
  | some f =>
  rw [hf] at ho2
  simp only [Bool.and_eq_true] at ho2
  obtain ⟨ho3, ho4⟩ := ho2
  obtain ⟨c, hc, hk, hcf, hnf⟩ := q_fld_of hf
  obtain ⟨ws, e9, e1, e2, hP, hD, hat, hcr⟩ := q_Wd_at hW ha ha2
  rw [hsh] at hcr
  obtain ⟨fs, rfl, hfl, hfv⟩ := hcr
  have hkl : a2 < fs.length := by rw [hfl, hnf]; exact hk
  subst hcf
  have hty := (q_kd_ty (v := v) hc hk hv2)
  have hnar : narrow (q_fty ci a2) (q_vz ρ (.int x)) = q_vz ρ (.int x) ∧ fits (q_fty ci a2) (q_vz ρ (.int x)) = true := by
    rw [hty.1 hkd]; exact ⟨rfl, rfl⟩
  have fin : ∀ (H1 : Heap) (locs1 : List Loc), va_P D vwCl (ws.set (a - 400) (ρ a, .inr (ci, fs.set a2 (q_vz ρ (.int x))))) H1 → va_D A (ws.set (a - 400) (ρ a, .inr (ci, fs.set a2 (q_vz ρ (.int x))))) → va_S A s.heap H1 locs1 →
      W p g.1 e (q_rk d mc ms) s m args below meth cd H1 locs1 k n (vx_MQ below (q_Qc D cA ρ0 h0 mv A Q) (q_XC D cA ρ0 h0 mv A Q) args s mc ms A) (F0 m (pc + 3) rls (r.map (q_vz ρ))) := by
    intro H1 locs1 hP1 hD1 hS1
    have hW1 : q_Wd D cA ρ (q_nx h, q_sh h, q_u2 (q_I h) a a2 x, q_R h, q_E h, q_L h) A H1 := by
      refine q_Wd_set e1 e2 ha ha2 rfl rfl (fun b hb => ⟨q_u2_row _ _ _ _ _ hb, rfl, rfl, rfl⟩) ?_ hP1 hD1
      show q_cr cA ρ _ a _ (q_sh h a)
      rw [hsh]
      refine ⟨_, rfl, by rw [List.length_set]; exact hfl, fun j hj hkj => ?_⟩
      by_cases hj2 : j = a2
      · subst hj2
        rw [List.getElem?_set_self hkl, hkd]
        exact congrArg (fun z => some (Value.int z)) (q_u2_s _ _ _ _).symm
      · rw [List.getElem?_set_ne (Ne.symm hj2), hfv j hj hkj]
        unfold q_fv
        split <;> first | rfl | (dsimp only [q_I, q_R, q_E]; rw [q_u2_j _ _ _ _ _ _ hj2])
    have h9 := hJ p e s m args below meth cd D cA ρ0 ρ A H1 locs1 rls en' he' hB ⟨hK, hW1, hS1, hX, hC, q_tl (q_tl hst), hls, hlh, hag, hag2, hA, hnx0⟩
    rw [hpc] at h9
    exact h9
  cases hfin : (c.2.1 a2).2.2.2 with
  | true =>
    rw [hfin] at ho4
    simp only [Bool.not_true, Bool.false_or, Bool.and_eq_true, decide_eq_true_eq] at ho4
    have ho4 : M.1.name = "<init>" ∧ (c.2.1 a2).1 = M.1.cls ∧ ∀ host, q_gw w1 w2 ≠ some (.fieldLinkNest M.1.cls idx (c.2.1 a2).1 (c.2.1 a2).2.1 (c.2.1 a2).2.2.1 host) := ⟨ho4.1.1, ho4.1.2, fun host hh => by rw [hh] at ho4; exact absurd ho4.2 (by simp [q_plain])⟩
    rcases q_isF_of ho3 with hw | ⟨host, hw⟩
    · exact va_putF (T := c.2.1) (N := c.2.2) (C := c.1) hx hb hts (q_cls_in ci c hc) (q_fty ci) (q_fty_ok hc) (q_names hc) hown hK hP hD hVS (a - 400) hat hc a2 hk (hts _ (q_gw_in hw rfl)) (fun _ h8 => h8) hfin (by rw [hnm]; exact ho4.1) ho4.2.1 (q_fty_ok hc a2 hk) hnar.1 hnar.2 hkl hd fin
    · exact absurd hw (ho4.2.2 host)
  | false =>
    rcases q_isF_of ho3 with hw | ⟨host, hw⟩
    · exact va_put (T := c.2.1) (N := c.2.2) (C := c.1) hx hb hts (q_cls_in ci c hc) (q_fty ci) (q_fty_ok hc) (q_names hc) hown hK hP hD hVS (a - 400) hat hc a2 hk (hts _ (q_gw_in hw rfl)) (fun _ h8 => h8) hfin (q_fty_ok hc a2 hk) hnar.1 hnar.2 hkl hd fin
    · exact va_putN (T := c.2.1) (N := c.2.2) (C := c.1) hx hb hts (q_cls_in ci c hc) (q_fty ci) (q_fty_ok hc) (q_names hc) hown hK hP hD hVS (a - 400) hat hc a2 hk (q_Xn hX (q_gw_in2 hw) rfl rfl) (fun _ h8 => h8) hfin (q_fty_ok hc a2 hk) hnar.1 hnar.2 hkl hd fin
theorem k_o_putR {b : Nat} (hok : q_okB M = true) (he : q_nth M.2.2.2.2.1 pos = some (pc, .putfield idx, ln, ci, a2, w1, w2)) (ha : 400 ≤ a) (hsh : q_sh h a = (0, ci, v)) (hv2 : v < 2) (hkd : q_kd ci v a2 = 1) 
    (hJ : q_K g M xt d mc ms h0 mv Q k n (pos + 1, ls, r, (q_nx h, q_sh h, q_I h, q_u2 (q_R h) a a2 (some b), q_E h, q_L h))) : q_K g M xt d mc ms h0 mv Q k n (pos, ls, (.ref b) :: .ref a :: r, h) := by
  obtain rfl : ln = 3 := (q_atB hok he).2.2.1 (Nat.succ_ne_zero _)
  intro p e s m args below meth cd D cA ρ0 ρ A H locs rls en hen hB hS
  cases he.symm.trans hen
  obtain ⟨hd, hnx, -, ho2⟩ := q_atB hok he
  obtain ⟨en', he', hpc⟩ := hnx rfl
  obtain ⟨hx, hb, hr, hml, hts, hown, hlk, hnm, hxt⟩ := id hB
  obtain ⟨hK, hW, hVS, hX, hC, hst, hls, hlh, hag, hag2, hA, hnx0⟩ := id hS
  have ha2 : a < q_nx h := q_lt hC hsh (by decide)
  simp only [q_ok2] at ho2
  cases hf : q_fld ci a2 with
  | none => rw [hf] at ho2; cases ho2
  | some f =>
  rw [hf] at ho2
  simp only [Bool.and_eq_true] at ho2
  obtain ⟨ho3, ho4⟩ := ho2
  obtain ⟨c, hc, hk, hcf, hnf⟩ := q_fld_of hf
  obtain ⟨ws, e9, e1, e2, hP, hD, hat, hcr⟩ := q_Wd_at hW ha ha2
  rw [hsh] at hcr
  obtain ⟨fs, rfl, hfl, hfv⟩ := hcr
  have hkl : a2 < fs.length := by rw [hfl, hnf]; exact hk
  subst hcf
  have hty := (q_kd_ty (v := v) hc hk hv2)
  have hnar : narrow (q_fty ci a2) (q_vz ρ (.ref b)) = q_vz ρ (.ref b) ∧ fits (q_fty ci a2) (q_vz ρ (.ref b)) = true := by
    rcases hty.2 (Or.inl hkd) with ⟨t, ht⟩ | ⟨t, ht⟩ <;> (rw [ht]; exact ⟨rfl, rfl⟩)
  have fin : ∀ (H1 : Heap) (locs1 : List Loc), va_P D vwCl (ws.set (a - 400) (ρ a, .inr (ci, fs.set a2 (q_vz ρ (.ref b))))) H1 → va_D A (ws.set (a - 400) (ρ a, .inr (ci, fs.set a2 (q_vz ρ (.ref b))))) → va_S A s.heap H1 locs1 →
      W p g.1 e (q_rk d mc ms) s m args below meth cd H1 locs1 k n (vx_MQ below (q_Qc D cA ρ0 h0 mv A Q) (q_XC D cA ρ0 h0 mv A Q) args s mc ms A) (F0 m (pc + 3) rls (r.map (q_vz ρ))) := by
    intro H1 locs1 hP1 hD1 hS1
    have hW1 : q_Wd D cA ρ (q_nx h, q_sh h, q_I h, q_u2 (q_R h) a a2 (some b), q_E h, q_L h) A H1 := by
      refine q_Wd_set e1 e2 ha ha2 rfl rfl (fun b hb => ⟨rfl, q_u2_row _ _ _ _ _ hb, rfl, rfl⟩) ?_ hP1 hD1
      show q_cr cA ρ _ a _ (q_sh h a)
      rw [hsh]
      refine ⟨_, rfl, by rw [List.length_set]; exact hfl, fun j hj hkj => ?_⟩
      by_cases hj2 : j = a2
      · subst hj2
        rw [List.getElem?_set_self hkl, hkd]
        exact congrArg (fun z : Option Nat => some (va_rf (z.map ρ))) (q_u2_s (q_R h) a j (some b)).symm
      · rw [List.getElem?_set_ne (Ne.symm hj2), hfv j hj hkj]
        unfold q_fv
        split <;> first | rfl | (dsimp only [q_I, q_R, q_E]; rw [q_u2_j _ _ _ _ _ _ hj2])
    have h9 := hJ p e s m args below meth cd D cA ρ0 ρ A H1 locs1 rls en' he' hB ⟨hK, hW1, hS1, hX, ⟨fun a8 j8 b8 h8 => by
      rw [show q_R (q_nx h, q_sh h, q_I h, q_u2 (q_R h) a a2 (some b), q_E h, q_L h) a8 j8 = q_u2 (q_R h) a a2 (some b) a8 j8 from rfl, q_u2_of] at h8
      split at h8
      · cases h8; exact q_hd hst _ rfl
      · exact hC.1 _ _ _ h8, hC.2⟩, q_tl (q_tl hst), hls, hlh, hag, hag2, hA, hnx0⟩
    rw [hpc] at h9
    exact h9
  cases hfin : (c.2.1 a2).2.2.2 with
  | true =>
    rw [hfin] at ho4
    simp only [Bool.not_true, Bool.false_or, Bool.and_eq_true, decide_eq_true_eq] at ho4
    have ho4 : M.1.name = "<init>" ∧ (c.2.1 a2).1 = M.1.cls ∧ ∀ host, q_gw w1 w2 ≠ some (.fieldLinkNest M.1.cls idx (c.2.1 a2).1 (c.2.1 a2).2.1 (c.2.1 a2).2.2.1 host) := ⟨ho4.1.1, ho4.1.2, fun host hh => by rw [hh] at ho4; exact absurd ho4.2 (by simp [q_plain])⟩
    rcases q_isF_of ho3 with hw | ⟨host, hw⟩
    · exact va_putF (T := c.2.1) (N := c.2.2) (C := c.1) hx hb hts (q_cls_in ci c hc) (q_fty ci) (q_fty_ok hc) (q_names hc) hown hK hP hD hVS (a - 400) hat hc a2 hk (hts _ (q_gw_in hw rfl)) (fun _ h8 => h8) hfin (by rw [hnm]; exact ho4.1) ho4.2.1 (q_fty_ok hc a2 hk) hnar.1 hnar.2 hkl hd fin
    · exact absurd hw (ho4.2.2 host)
  | false =>
    rcases q_isF_of ho3 with hw | ⟨host, hw⟩
    · exact va_put (T := c.2.1) (N := c.2.2) (C := c.1) hx hb hts (q_cls_in ci c hc) (q_fty ci) (q_fty_ok hc) (q_names hc) hown hK hP hD hVS (a - 400) hat hc a2 hk (hts _ (q_gw_in hw rfl)) (fun _ h8 => h8) hfin (q_fty_ok hc a2 hk) hnar.1 hnar.2 hkl hd fin
    · exact va_putN (T := c.2.1) (N := c.2.2) (C := c.1) hx hb hts (q_cls_in ci c hc) (q_fty ci) (q_fty_ok hc) (q_names hc) hown hK hP hD hVS (a - 400) hat hc a2 hk (q_Xn hX (q_gw_in2 hw) rfl rfl) (fun _ h8 => h8) hfin (q_fty_ok hc a2 hk) hnar.1 hnar.2 hkl hd fin
theorem k_o_putN  (hok : q_okB M = true) (he : q_nth M.2.2.2.2.1 pos = some (pc, .putfield idx, ln, ci, a2, w1, w2)) (ha : 400 ≤ a) (hsh : q_sh h a = (0, ci, v)) (hv2 : v < 2) (hkd : q_kd ci v a2 = 1) 
    (hJ : q_K g M xt d mc ms h0 mv Q k n (pos + 1, ls, r, (q_nx h, q_sh h, q_I h, q_u2 (q_R h) a a2 none, q_E h, q_L h))) : q_K g M xt d mc ms h0 mv Q k n (pos, ls, .null :: .ref a :: r, h) := by
  obtain rfl : ln = 3 := (q_atB hok he).2.2.1 (Nat.succ_ne_zero _)
  intro p e s m args below meth cd D cA ρ0 ρ A H locs rls en hen hB hS
  cases he.symm.trans hen
  obtain ⟨hd, hnx, -, ho2⟩ := q_atB hok he
  obtain ⟨en', he', hpc⟩ := hnx rfl
  obtain ⟨hx, hb, hr, hml, hts, hown, hlk, hnm, hxt⟩ := id hB
  obtain ⟨hK, hW, hVS, hX, hC, hst, hls, hlh, hag, hag2, hA, hnx0⟩ := id hS
  have ha2 : a < q_nx h := q_lt hC hsh (by decide)
  simp only [q_ok2] at ho2
  cases hf : q_fld ci a2 with
  | none => rw [hf] at ho2; cases ho2
  | some f =>
  rw [hf] at ho2
  simp only [Bool.and_eq_true] at ho2
  obtain ⟨ho3, ho4⟩ := ho2
  obtain ⟨c, hc, hk, hcf, hnf⟩ := q_fld_of hf
  obtain ⟨ws, e9, e1, e2, hP, hD, hat, hcr⟩ := q_Wd_at hW ha ha2
  rw [hsh] at hcr
  obtain ⟨fs, rfl, hfl, hfv⟩ := hcr
  have hkl : a2 < fs.length := by rw [hfl, hnf]; exact hk
  subst hcf
  have hty := (q_kd_ty (v := v) hc hk hv2)
  have hnar : narrow (q_fty ci a2) (q_vz ρ .null) = q_vz ρ .null ∧ fits (q_fty ci a2) (q_vz ρ .null) = true := by
    rcases hty.2 (Or.inl hkd) with ⟨t, ht⟩ | ⟨t, ht⟩ <;> (rw [ht]; exact ⟨rfl, rfl⟩)
  have fin : ∀ (H1 : Heap) (locs1 : List Loc), va_P D vwCl (ws.set (a - 400) (ρ a, .inr (ci, fs.set a2 (q_vz ρ .null)))) H1 → va_D A (ws.set (a - 400) (ρ a, .inr (ci, fs.set a2 (q_vz ρ .null)))) → va_S A s.heap H1 locs1 →
      W p g.1 e (q_rk d mc ms) s m args below meth cd H1 locs1 k n (vx_MQ below (q_Qc D cA ρ0 h0 mv A Q) (q_XC D cA ρ0 h0 mv A Q) args s mc ms A) (F0 m (pc + 3) rls (r.map (q_vz ρ))) := by
    intro H1 locs1 hP1 hD1 hS1
    have hW1 : q_Wd D cA ρ (q_nx h, q_sh h, q_I h, q_u2 (q_R h) a a2 none, q_E h, q_L h) A H1 := by
      refine q_Wd_set e1 e2 ha ha2 rfl rfl (fun b hb => ⟨rfl, q_u2_row _ _ _ _ _ hb, rfl, rfl⟩) ?_ hP1 hD1
      show q_cr cA ρ _ a _ (q_sh h a)
      rw [hsh]
      refine ⟨_, rfl, by rw [List.length_set]; exact hfl, fun j hj hkj => ?_⟩
      by_cases hj2 : j = a2
      · subst hj2
        rw [List.getElem?_set_self hkl, hkd]
        exact congrArg (fun z : Option Nat => some (va_rf (z.map ρ))) (q_u2_s (q_R h) a j none).symm
      · rw [List.getElem?_set_ne (Ne.symm hj2), hfv j hj hkj]
        unfold q_fv
        split <;> first | rfl | (dsimp only [q_I, q_R, q_E]; rw [q_u2_j _ _ _ _ _ _ hj2])
    have h9 := hJ p e s m args below meth cd D cA ρ0 ρ A H1 locs1 rls en' he' hB ⟨hK, hW1, hS1, hX, ⟨fun a8 j8 b8 h8 => by
      rw [show q_R (q_nx h, q_sh h, q_I h, q_u2 (q_R h) a a2 none, q_E h, q_L h) a8 j8 = q_u2 (q_R h) a a2 none a8 j8 from rfl, q_u2_of] at h8
      split at h8
      · cases h8
      · exact hC.1 _ _ _ h8, hC.2⟩, q_tl (q_tl hst), hls, hlh, hag, hag2, hA, hnx0⟩
    rw [hpc] at h9
    exact h9
  cases hfin : (c.2.1 a2).2.2.2 with
  | true =>
    rw [hfin] at ho4
    simp only [Bool.not_true, Bool.false_or, Bool.and_eq_true, decide_eq_true_eq] at ho4
    have ho4 : M.1.name = "<init>" ∧ (c.2.1 a2).1 = M.1.cls ∧ ∀ host, q_gw w1 w2 ≠ some (.fieldLinkNest M.1.cls idx (c.2.1 a2).1 (c.2.1 a2).2.1 (c.2.1 a2).2.2.1 host) := ⟨ho4.1.1, ho4.1.2, fun host hh => by rw [hh] at ho4; exact absurd ho4.2 (by simp [q_plain])⟩
    rcases q_isF_of ho3 with hw | ⟨host, hw⟩
    · exact va_putF (T := c.2.1) (N := c.2.2) (C := c.1) hx hb hts (q_cls_in ci c hc) (q_fty ci) (q_fty_ok hc) (q_names hc) hown hK hP hD hVS (a - 400) hat hc a2 hk (hts _ (q_gw_in hw rfl)) (fun _ h8 => h8) hfin (by rw [hnm]; exact ho4.1) ho4.2.1 (q_fty_ok hc a2 hk) hnar.1 hnar.2 hkl hd fin
    · exact absurd hw (ho4.2.2 host)
  | false =>
    rcases q_isF_of ho3 with hw | ⟨host, hw⟩
    · exact va_put (T := c.2.1) (N := c.2.2) (C := c.1) hx hb hts (q_cls_in ci c hc) (q_fty ci) (q_fty_ok hc) (q_names hc) hown hK hP hD hVS (a - 400) hat hc a2 hk (hts _ (q_gw_in hw rfl)) (fun _ h8 => h8) hfin (q_fty_ok hc a2 hk) hnar.1 hnar.2 hkl hd fin
    · exact va_putN (T := c.2.1) (N := c.2.2) (C := c.1) hx hb hts (q_cls_in ci c hc) (q_fty ci) (q_fty_ok hc) (q_names hc) hown hK hP hD hVS (a - 400) hat hc a2 hk (q_Xn hX (q_gw_in2 hw) rfl rfl) (fun _ h8 => h8) hfin (q_fty_ok hc a2 hk) hnar.1 hnar.2 hkl hd fin
theorem k_o_putE {b : Nat} (hok : q_okB M = true) (he : q_nth M.2.2.2.2.1 pos = some (pc, .putfield idx, ln, ci, a2, w1, w2)) (ha : 400 ≤ a) (hsh : q_sh h a = (0, ci, v)) (hv2 : v < 2) (hkd : q_kd ci v a2 = 2) (hbe : b < 49)
    (hJ : q_K g M xt d mc ms h0 mv Q k n (pos + 1, ls, r, (q_nx h, q_sh h, q_I h, q_R h, q_u2 (q_E h) a a2 (some b), q_L h))) : q_K g M xt d mc ms h0 mv Q k n (pos, ls, (.ref b) :: .ref a :: r, h) := by
  obtain rfl : ln = 3 := (q_atB hok he).2.2.1 (Nat.succ_ne_zero _)
  intro p e s m args below meth cd D cA ρ0 ρ A H locs rls en hen hB hS
  cases he.symm.trans hen
  obtain ⟨hd, hnx, -, ho2⟩ := q_atB hok he
  obtain ⟨en', he', hpc⟩ := hnx rfl
  obtain ⟨hx, hb, hr, hml, hts, hown, hlk, hnm, hxt⟩ := id hB
  obtain ⟨hK, hW, hVS, hX, hC, hst, hls, hlh, hag, hag2, hA, hnx0⟩ := id hS
  have ha2 : a < q_nx h := q_lt hC hsh (by decide)
  simp only [q_ok2] at ho2
  cases hf : q_fld ci a2 with
  | none => rw [hf] at ho2; cases ho2
  | some f =>
  rw [hf] at ho2
  simp only [Bool.and_eq_true] at ho2
  obtain ⟨ho3, ho4⟩ := ho2
  obtain ⟨c, hc, hk, hcf, hnf⟩ := q_fld_of hf
  obtain ⟨ws, e9, e1, e2, hP, hD, hat, hcr⟩ := q_Wd_at hW ha ha2
  rw [hsh] at hcr
  obtain ⟨fs, rfl, hfl, hfv⟩ := hcr
  have hkl : a2 < fs.length := by rw [hfl, hnf]; exact hk
  subst hcf
  have hty := (q_kd_ty (v := v) hc hk hv2)
  have hnar : narrow (q_fty ci a2) (q_vz ρ (.ref b)) = q_vz ρ (.ref b) ∧ fits (q_fty ci a2) (q_vz ρ (.ref b)) = true := by
    rcases hty.2 (Or.inr hkd) with ⟨t, ht⟩ | ⟨t, ht⟩ <;> (rw [ht]; exact ⟨rfl, rfl⟩)
  have fin : ∀ (H1 : Heap) (locs1 : List Loc), va_P D vwCl (ws.set (a - 400) (ρ a, .inr (ci, fs.set a2 (q_vz ρ (.ref b))))) H1 → va_D A (ws.set (a - 400) (ρ a, .inr (ci, fs.set a2 (q_vz ρ (.ref b))))) → va_S A s.heap H1 locs1 →
      W p g.1 e (q_rk d mc ms) s m args below meth cd H1 locs1 k n (vx_MQ below (q_Qc D cA ρ0 h0 mv A Q) (q_XC D cA ρ0 h0 mv A Q) args s mc ms A) (F0 m (pc + 3) rls (r.map (q_vz ρ))) := by
    intro H1 locs1 hP1 hD1 hS1
    have hW1 : q_Wd D cA ρ (q_nx h, q_sh h, q_I h, q_R h, q_u2 (q_E h) a a2 (some b), q_L h) A H1 := by
      refine q_Wd_set e1 e2 ha ha2 rfl rfl (fun b hb => ⟨rfl, rfl, q_u2_row _ _ _ _ _ hb, rfl⟩) ?_ hP1 hD1
      show q_cr cA ρ _ a _ (q_sh h a)
      rw [hsh]
      refine ⟨_, rfl, by rw [List.length_set]; exact hfl, fun j hj hkj => ?_⟩
      by_cases hj2 : j = a2
      · subst hj2
        rw [List.getElem?_set_self hkl, hkd]
        exact congrArg (fun z : Option Nat => some (va_rf (z.map ρ))) (q_u2_s (q_E h) a j (some b)).symm
      · rw [List.getElem?_set_ne (Ne.symm hj2), hfv j hj hkj]
        unfold q_fv
        split <;> first | rfl | (dsimp only [q_I, q_R, q_E]; rw [q_u2_j _ _ _ _ _ _ hj2])
    have h9 := hJ p e s m args below meth cd D cA ρ0 ρ A H1 locs1 rls en' he' hB ⟨hK, hW1, hS1, hX, ⟨hC.1, fun a8 j8 b8 h8 => by
      rw [show q_E (q_nx h, q_sh h, q_I h, q_R h, q_u2 (q_E h) a a2 (some b), q_L h) a8 j8 = q_u2 (q_E h) a a2 (some b) a8 j8 from rfl, q_u2_of] at h8
      split at h8
      · cases h8; exact hbe
      · exact hC.2.1 _ _ _ h8, hC.2.2⟩, q_tl (q_tl hst), hls, hlh, hag, hag2, hA, hnx0⟩
    rw [hpc] at h9
    exact h9
  cases hfin : (c.2.1 a2).2.2.2 with
  | true =>
    rw [hfin] at ho4
    simp only [Bool.not_true, Bool.false_or, Bool.and_eq_true, decide_eq_true_eq] at ho4
    have ho4 : M.1.name = "<init>" ∧ (c.2.1 a2).1 = M.1.cls ∧ ∀ host, q_gw w1 w2 ≠ some (.fieldLinkNest M.1.cls idx (c.2.1 a2).1 (c.2.1 a2).2.1 (c.2.1 a2).2.2.1 host) := ⟨ho4.1.1, ho4.1.2, fun host hh => by rw [hh] at ho4; exact absurd ho4.2 (by simp [q_plain])⟩
    rcases q_isF_of ho3 with hw | ⟨host, hw⟩
    · exact va_putF (T := c.2.1) (N := c.2.2) (C := c.1) hx hb hts (q_cls_in ci c hc) (q_fty ci) (q_fty_ok hc) (q_names hc) hown hK hP hD hVS (a - 400) hat hc a2 hk (hts _ (q_gw_in hw rfl)) (fun _ h8 => h8) hfin (by rw [hnm]; exact ho4.1) ho4.2.1 (q_fty_ok hc a2 hk) hnar.1 hnar.2 hkl hd fin
    · exact absurd hw (ho4.2.2 host)
  | false =>
    rcases q_isF_of ho3 with hw | ⟨host, hw⟩
    · exact va_put (T := c.2.1) (N := c.2.2) (C := c.1) hx hb hts (q_cls_in ci c hc) (q_fty ci) (q_fty_ok hc) (q_names hc) hown hK hP hD hVS (a - 400) hat hc a2 hk (hts _ (q_gw_in hw rfl)) (fun _ h8 => h8) hfin (q_fty_ok hc a2 hk) hnar.1 hnar.2 hkl hd fin
    · exact va_putN (T := c.2.1) (N := c.2.2) (C := c.1) hx hb hts (q_cls_in ci c hc) (q_fty ci) (q_fty_ok hc) (q_names hc) hown hK hP hD hVS (a - 400) hat hc a2 hk (q_Xn hX (q_gw_in2 hw) rfl rfl) (fun _ h8 => h8) hfin (q_fty_ok hc a2 hk) hnar.1 hnar.2 hkl hd fin
end KQHEAP
section KQROWS
variable {g : q_G} {xt : List ExceptionTableEntry} {M : q_M} {d mc ms : Nat} {h0 : q_H} {mv : List Nat} {Q : (Option Value ⊕ String) → q_H → Prop} {k n pos pc ln a1 a2 w1 w2 a ci v idx L j : Nat} {ls : List (Option Value)} {r : List Value} {h : q_H}
theorem k_o_iald {i : Int32} (hok : q_okB M = true) (he : q_nth M.2.2.2.2.1 pos = some (pc, .iaload, ln, a1, a2, w1, w2)) (ha : 400 ≤ a) (hsh : q_sh h a = (1, 0, L)) (hi : i = nI j) (hj : j < L) (hL : L < 2147483648)
    (hJ : q_K g M xt d mc ms h0 mv Q k n (pos + 1, ls, (.int (q_I h a j)) :: r, h)) : q_K g M xt d mc ms h0 mv Q k n (pos, ls, .int i :: .ref a :: r, h) := by
  obtain rfl : ln = 1 := (q_atB hok he).2.2.1 (Nat.succ_ne_zero _)
  intro p e s m args below meth cd D cA ρ0 ρ A H locs rls en hen hB hS
  cases he.symm.trans hen
  obtain ⟨hd, hnx, -, ho2⟩ := q_atB hok he
  obtain ⟨en', he', hpc⟩ := hnx rfl
  obtain ⟨hx, hb, hr, hml, hts, hown, hlk, hnm, hxt⟩ := id hB
  obtain ⟨hK, hW, hVS, hX, hC, hst, hls, hlh, hag, hag2, hA, hnx0⟩ := id hS
  have ha2 : a < q_nx h := q_lt hC hsh (by decide)
  have h9 := hJ p e s m args below meth cd D cA ρ0 ρ A H locs rls en' he' hB ⟨hK, hW, hVS, hX, hC, q_cl1 q_vcl_i (q_tl (q_tl hst)), hls, hlh, hag, hag2, hA, hnx0⟩
  rw [hpc] at h9
  obtain ⟨ws, e9, e1, e2, hP, hD, hat, hcr⟩ := q_Wd_at hW ha ha2
  rw [hsh] at hcr
  have hcr : e9 = _ := hcr
  rw [hcr] at hat
  subst hi
  have hin : vp_in (nI j) L := vp_in_nI hj hL
  refine va_iald hx hb hK hP (a - 400) 0 hat rfl hin hd ?_
  rw [nI_clamp (by omega)]
  exact h9
theorem k_o_bald {i : Int32} (hok : q_okB M = true) (he : q_nth M.2.2.2.2.1 pos = some (pc, .baload, ln, a1, a2, w1, w2)) (ha : 400 ≤ a) (hsh : q_sh h a = (1, 1, L)) (hi : i = nI j) (hj : j < L) (hL : L < 2147483648)
    (hJ : q_K g M xt d mc ms h0 mv Q k n (pos + 1, ls, (.int (q_I h a j)) :: r, h)) : q_K g M xt d mc ms h0 mv Q k n (pos, ls, .int i :: .ref a :: r, h) := by
  obtain rfl : ln = 1 := (q_atB hok he).2.2.1 (Nat.succ_ne_zero _)
  intro p e s m args below meth cd D cA ρ0 ρ A H locs rls en hen hB hS
  cases he.symm.trans hen
  obtain ⟨hd, hnx, -, ho2⟩ := q_atB hok he
  obtain ⟨en', he', hpc⟩ := hnx rfl
  obtain ⟨hx, hb, hr, hml, hts, hown, hlk, hnm, hxt⟩ := id hB
  obtain ⟨hK, hW, hVS, hX, hC, hst, hls, hlh, hag, hag2, hA, hnx0⟩ := id hS
  have ha2 : a < q_nx h := q_lt hC hsh (by decide)
  have h9 := hJ p e s m args below meth cd D cA ρ0 ρ A H locs rls en' he' hB ⟨hK, hW, hVS, hX, hC, q_cl1 q_vcl_i (q_tl (q_tl hst)), hls, hlh, hag, hag2, hA, hnx0⟩
  rw [hpc] at h9
  obtain ⟨ws, e9, e1, e2, hP, hD, hat, hcr⟩ := q_Wd_at hW ha ha2
  rw [hsh] at hcr
  have hcr : e9 = _ := hcr
  rw [hcr] at hat
  subst hi
  have hin : vp_in (nI j) L := vp_in_nI hj hL
  refine va_bald hx hb hK hP (a - 400) 1 hat rfl hin hd ?_
  rw [nI_clamp (by omega)]
  exact h9
theorem k_o_zald {i : Int32} (hok : q_okB M = true) (he : q_nth M.2.2.2.2.1 pos = some (pc, .baload, ln, a1, a2, w1, w2)) (ha : 400 ≤ a) (hsh : q_sh h a = (1, 2, L)) (hi : i = nI j) (hj : j < L) (hL : L < 2147483648)
    (hJ : q_K g M xt d mc ms h0 mv Q k n (pos + 1, ls, (.int (q_I h a j)) :: r, h)) : q_K g M xt d mc ms h0 mv Q k n (pos, ls, .int i :: .ref a :: r, h) := by
  obtain rfl : ln = 1 := (q_atB hok he).2.2.1 (Nat.succ_ne_zero _)
  intro p e s m args below meth cd D cA ρ0 ρ A H locs rls en hen hB hS
  cases he.symm.trans hen
  obtain ⟨hd, hnx, -, ho2⟩ := q_atB hok he
  obtain ⟨en', he', hpc⟩ := hnx rfl
  obtain ⟨hx, hb, hr, hml, hts, hown, hlk, hnm, hxt⟩ := id hB
  obtain ⟨hK, hW, hVS, hX, hC, hst, hls, hlh, hag, hag2, hA, hnx0⟩ := id hS
  have ha2 : a < q_nx h := q_lt hC hsh (by decide)
  have h9 := hJ p e s m args below meth cd D cA ρ0 ρ A H locs rls en' he' hB ⟨hK, hW, hVS, hX, hC, q_cl1 q_vcl_i (q_tl (q_tl hst)), hls, hlh, hag, hag2, hA, hnx0⟩
  rw [hpc] at h9
  obtain ⟨ws, e9, e1, e2, hP, hD, hat, hcr⟩ := q_Wd_at hW ha ha2
  rw [hsh] at hcr
  have hcr : e9 = _ := hcr
  rw [hcr] at hat
  subst hi
  have hin : vp_in (nI j) L := vp_in_nI hj hL
  refine va_zald hx hb hK hP (a - 400) 2 hat rfl hin hd ?_
  rw [nI_clamp (by omega)]
  exact h9
theorem k_o_aaldR {i : Int32} (hok : q_okB M = true) (he : q_nth M.2.2.2.2.1 pos = some (pc, .aaload, ln, a1, a2, w1, w2)) (ha : 400 ≤ a) (hsh : q_sh h a = (3, 4, L)) (hi : i = nI j) (hj : j < L) (hL : L < 2147483648)
    (hJ : q_K g M xt d mc ms h0 mv Q k n (pos + 1, ls, (va_rf (q_R h a j)) :: r, h)) : q_K g M xt d mc ms h0 mv Q k n (pos, ls, .int i :: .ref a :: r, h) := by
  obtain rfl : ln = 1 := (q_atB hok he).2.2.1 (Nat.succ_ne_zero _)
  intro p e s m args below meth cd D cA ρ0 ρ A H locs rls en hen hB hS
  cases he.symm.trans hen
  obtain ⟨hd, hnx, -, ho2⟩ := q_atB hok he
  obtain ⟨en', he', hpc⟩ := hnx rfl
  obtain ⟨hx, hb, hr, hml, hts, hown, hlk, hnm, hxt⟩ := id hB
  obtain ⟨hK, hW, hVS, hX, hC, hst, hls, hlh, hag, hag2, hA, hnx0⟩ := id hS
  have ha2 : a < q_nx h := q_lt hC hsh (by decide)
  have h9 := hJ p e s m args below meth cd D cA ρ0 ρ A H locs rls en' he' hB ⟨hK, hW, hVS, hX, hC, q_cl1 (by cases hq : q_R h a j with | none => exact q_vcl_n | some b => intro z hz; cases hz; exact hC.1 _ _ _ hq) (q_tl (q_tl hst)), hls, hlh, hag, hag2, hA, hnx0⟩
  rw [hpc] at h9
  obtain ⟨ws, e9, e1, e2, hP, hD, hat, hcr⟩ := q_Wd_at hW ha ha2
  rw [hsh] at hcr
  have hcr : e9 = _ := hcr
  rw [hcr] at hat
  subst hi
  have hin : vp_in (nI j) L := vp_in_nI hj hL
  refine va_aldq hx hb hK hP (a - 400) 4 hat rfl hin hd ?_
  rw [nI_clamp (by omega)]
  rw [q_rf_vz]; exact h9
theorem k_o_aaldE {i : Int32} (hok : q_okB M = true) (he : q_nth M.2.2.2.2.1 pos = some (pc, .aaload, ln, a1, a2, w1, w2)) (ha : 400 ≤ a) (hsh : q_sh h a = (4, 5, L)) (hi : i = nI j) (hj : j < L) (hL : L < 2147483648)
    (hJ : q_K g M xt d mc ms h0 mv Q k n (pos + 1, ls, (va_rf (q_E h a j)) :: r, h)) : q_K g M xt d mc ms h0 mv Q k n (pos, ls, .int i :: .ref a :: r, h) := by
  obtain rfl : ln = 1 := (q_atB hok he).2.2.1 (Nat.succ_ne_zero _)
  intro p e s m args below meth cd D cA ρ0 ρ A H locs rls en hen hB hS
  cases he.symm.trans hen
  obtain ⟨hd, hnx, -, ho2⟩ := q_atB hok he
  obtain ⟨en', he', hpc⟩ := hnx rfl
  obtain ⟨hx, hb, hr, hml, hts, hown, hlk, hnm, hxt⟩ := id hB
  obtain ⟨hK, hW, hVS, hX, hC, hst, hls, hlh, hag, hag2, hA, hnx0⟩ := id hS
  have ha2 : a < q_nx h := q_lt hC hsh (by decide)
  have h9 := hJ p e s m args below meth cd D cA ρ0 ρ A H locs rls en' he' hB ⟨hK, hW, hVS, hX, hC, q_cl1 (by cases hq : q_E h a j with | none => exact q_vcl_n | some b => intro z hz; cases hz; exact Nat.lt_of_lt_of_le (hC.2.1 _ _ _ hq) (Nat.le_trans (by decide) hnx0.1)) (q_tl (q_tl hst)), hls, hlh, hag, hag2, hA, hnx0⟩
  rw [hpc] at h9
  obtain ⟨ws, e9, e1, e2, hP, hD, hat, hcr⟩ := q_Wd_at hW ha ha2
  rw [hsh] at hcr
  have hcr : e9 = _ := hcr
  rw [hcr] at hat
  subst hi
  have hin : vp_in (nI j) L := vp_in_nI hj hL
  refine va_aldq hx hb hK hP (a - 400) 5 hat rfl hin hd ?_
  rw [nI_clamp (by omega)]
  rw [q_rf_vz]; exact h9
theorem k_o_iast {i : Int32} {x : Int32} (hok : q_okB M = true) (he : q_nth M.2.2.2.2.1 pos = some (pc, .iastore, ln, a1, a2, w1, w2)) (ha : 400 ≤ a) (hsh : q_sh h a = (1, 0, L)) (hi : i = nI j) (hj : j < L) (hL : L < 2147483648) 
    (hJ : q_K g M xt d mc ms h0 mv Q k n (pos + 1, ls, r, (q_nx h, q_sh h, q_u2 (q_I h) a j x, q_R h, q_E h, q_L h))) : q_K g M xt d mc ms h0 mv Q k n (pos, ls, .int x :: .int i :: .ref a :: r, h) := by
  obtain rfl : ln = 1 := (q_atB hok he).2.2.1 (Nat.succ_ne_zero _)
  intro p e s m args below meth cd D cA ρ0 ρ A H locs rls en hen hB hS
  cases he.symm.trans hen
  obtain ⟨hd, hnx, -, ho2⟩ := q_atB hok he
  obtain ⟨en', he', hpc⟩ := hnx rfl
  obtain ⟨hx, hb, hr, hml, hts, hown, hlk, hnm, hxt⟩ := id hB
  obtain ⟨hK, hW, hVS, hX, hC, hst, hls, hlh, hag, hag2, hA, hnx0⟩ := id hS
  have ha2 : a < q_nx h := q_lt hC hsh (by decide)
  obtain ⟨ws, e9, e1, e2, hP, hD, hat, hcr⟩ := q_Wd_at hW ha ha2
  rw [hsh] at hcr
  have hcr : e9 = _ := hcr
  rw [hcr] at hat
  subst hi
  have hin : vp_in (nI j) L := vp_in_nI hj hL
  skip
  refine va_iast hx hb hK hP hD hVS (a - 400) 0 hat rfl hin hd (fun H1 locs1 hP1 hD1 hS1 => ?_)
  rw [nI_clamp (by omega)] at hP1 hD1
  have hW1 : q_Wd D cA ρ (q_nx h, q_sh h, q_u2 (q_I h) a j x, q_R h, q_E h, q_L h) A H1 := by
    refine q_Wd_set e1 e2 ha ha2 rfl rfl (fun b hb => ⟨q_u2_row _ _ _ _ _ hb, rfl, rfl, rfl⟩) ?_ hP1 hD1
    show q_cr cA ρ _ a _ (q_sh h a)
    rw [hsh]
    show (Sum.inl (cA 0, L, Sum.inl (upd (q_I h a) j x)) : va_E) = Sum.inl (cA 0, L, Sum.inl (q_u2 (q_I h) a j x a)); rw [q_upd]
  have h9 := hJ p e s m args below meth cd D cA ρ0 ρ A H1 locs1 rls en' he' hB ⟨hK, hW1, hS1, hX, hC, q_tl (q_tl (q_tl hst)), hls, hlh, hag, hag2, hA, hnx0⟩
  rw [hpc] at h9
  exact h9
theorem k_o_bast {i : Int32} {x : Int32} (hok : q_okB M = true) (he : q_nth M.2.2.2.2.1 pos = some (pc, .bastore, ln, a1, a2, w1, w2)) (ha : 400 ≤ a) (hsh : q_sh h a = (1, 1, L)) (hi : i = nI j) (hj : j < L) (hL : L < 2147483648) 
    (hJ : q_K g M xt d mc ms h0 mv Q k n (pos + 1, ls, r, (q_nx h, q_sh h, q_u2 (q_I h) a j (vp_nar .byte x), q_R h, q_E h, q_L h))) : q_K g M xt d mc ms h0 mv Q k n (pos, ls, .int x :: .int i :: .ref a :: r, h) := by
  obtain rfl : ln = 1 := (q_atB hok he).2.2.1 (Nat.succ_ne_zero _)
  intro p e s m args below meth cd D cA ρ0 ρ A H locs rls en hen hB hS
  cases he.symm.trans hen
  obtain ⟨hd, hnx, -, ho2⟩ := q_atB hok he
  obtain ⟨en', he', hpc⟩ := hnx rfl
  obtain ⟨hx, hb, hr, hml, hts, hown, hlk, hnm, hxt⟩ := id hB
  obtain ⟨hK, hW, hVS, hX, hC, hst, hls, hlh, hag, hag2, hA, hnx0⟩ := id hS
  have ha2 : a < q_nx h := q_lt hC hsh (by decide)
  obtain ⟨ws, e9, e1, e2, hP, hD, hat, hcr⟩ := q_Wd_at hW ha ha2
  rw [hsh] at hcr
  have hcr : e9 = _ := hcr
  rw [hcr] at hat
  subst hi
  have hin : vp_in (nI j) L := vp_in_nI hj hL
  skip
  refine va_bast hx hb hK hP hD hVS (a - 400) 1 hat rfl hin hd (fun H1 locs1 hP1 hD1 hS1 => ?_)
  rw [nI_clamp (by omega)] at hP1 hD1
  have hW1 : q_Wd D cA ρ (q_nx h, q_sh h, q_u2 (q_I h) a j (vp_nar .byte x), q_R h, q_E h, q_L h) A H1 := by
    refine q_Wd_set e1 e2 ha ha2 rfl rfl (fun b hb => ⟨q_u2_row _ _ _ _ _ hb, rfl, rfl, rfl⟩) ?_ hP1 hD1
    show q_cr cA ρ _ a _ (q_sh h a)
    rw [hsh]
    show (Sum.inl (cA 1, L, Sum.inl (upd (q_I h a) j (vp_nar .byte x))) : va_E) = Sum.inl (cA 1, L, Sum.inl (q_u2 (q_I h) a j (vp_nar .byte x) a)); rw [q_upd]
  have h9 := hJ p e s m args below meth cd D cA ρ0 ρ A H1 locs1 rls en' he' hB ⟨hK, hW1, hS1, hX, hC, q_tl (q_tl (q_tl hst)), hls, hlh, hag, hag2, hA, hnx0⟩
  rw [hpc] at h9
  exact h9
theorem k_o_zast {i : Int32} {x : Int32} (hok : q_okB M = true) (he : q_nth M.2.2.2.2.1 pos = some (pc, .bastore, ln, a1, a2, w1, w2)) (ha : 400 ≤ a) (hsh : q_sh h a = (1, 2, L)) (hi : i = nI j) (hj : j < L) (hL : L < 2147483648) 
    (hJ : q_K g M xt d mc ms h0 mv Q k n (pos + 1, ls, r, (q_nx h, q_sh h, q_u2 (q_I h) a j (vp_nar .boolean x), q_R h, q_E h, q_L h))) : q_K g M xt d mc ms h0 mv Q k n (pos, ls, .int x :: .int i :: .ref a :: r, h) := by
  obtain rfl : ln = 1 := (q_atB hok he).2.2.1 (Nat.succ_ne_zero _)
  intro p e s m args below meth cd D cA ρ0 ρ A H locs rls en hen hB hS
  cases he.symm.trans hen
  obtain ⟨hd, hnx, -, ho2⟩ := q_atB hok he
  obtain ⟨en', he', hpc⟩ := hnx rfl
  obtain ⟨hx, hb, hr, hml, hts, hown, hlk, hnm, hxt⟩ := id hB
  obtain ⟨hK, hW, hVS, hX, hC, hst, hls, hlh, hag, hag2, hA, hnx0⟩ := id hS
  have ha2 : a < q_nx h := q_lt hC hsh (by decide)
  obtain ⟨ws, e9, e1, e2, hP, hD, hat, hcr⟩ := q_Wd_at hW ha ha2
  rw [hsh] at hcr
  have hcr : e9 = _ := hcr
  rw [hcr] at hat
  subst hi
  have hin : vp_in (nI j) L := vp_in_nI hj hL
  skip
  refine va_zast hx hb hK hP hD hVS (a - 400) 2 hat rfl hin hd (fun H1 locs1 hP1 hD1 hS1 => ?_)
  rw [nI_clamp (by omega)] at hP1 hD1
  have hW1 : q_Wd D cA ρ (q_nx h, q_sh h, q_u2 (q_I h) a j (vp_nar .boolean x), q_R h, q_E h, q_L h) A H1 := by
    refine q_Wd_set e1 e2 ha ha2 rfl rfl (fun b hb => ⟨q_u2_row _ _ _ _ _ hb, rfl, rfl, rfl⟩) ?_ hP1 hD1
    show q_cr cA ρ _ a _ (q_sh h a)
    rw [hsh]
    show (Sum.inl (cA 2, L, Sum.inl (upd (q_I h a) j (vp_nar .boolean x))) : va_E) = Sum.inl (cA 2, L, Sum.inl (q_u2 (q_I h) a j (vp_nar .boolean x) a)); rw [q_upd]
  have h9 := hJ p e s m args below meth cd D cA ρ0 ρ A H1 locs1 rls en' he' hB ⟨hK, hW1, hS1, hX, hC, q_tl (q_tl (q_tl hst)), hls, hlh, hag, hag2, hA, hnx0⟩
  rw [hpc] at h9
  exact h9
theorem k_o_aastR {i : Int32} {b cb vb : Nat} (hok : q_okB M = true) (he : q_nth M.2.2.2.2.1 pos = some (pc, .aastore, ln, a1, a2, w1, w2)) (ha : 400 ≤ a) (hsh : q_sh h a = (3, 4, L)) (hi : i = nI j) (hj : j < L) (hL : L < 2147483648) (hb1 : 400 ≤ b) (hbs : q_sh h b = (0, 8, vb))
    (hJ : q_K g M xt d mc ms h0 mv Q k n (pos + 1, ls, r, (q_nx h, q_sh h, q_I h, q_u2 (q_R h) a j (some b), q_E h, q_L h))) : q_K g M xt d mc ms h0 mv Q k n (pos, ls, .ref b :: .int i :: .ref a :: r, h) := by
  obtain rfl : ln = 1 := (q_atB hok he).2.2.1 (Nat.succ_ne_zero _)
  intro p e s m args below meth cd D cA ρ0 ρ A H locs rls en hen hB hS
  cases he.symm.trans hen
  obtain ⟨hd, hnx, -, ho2⟩ := q_atB hok he
  obtain ⟨en', he', hpc⟩ := hnx rfl
  obtain ⟨hx, hb, hr, hml, hts, hown, hlk, hnm, hxt⟩ := id hB
  obtain ⟨hK, hW, hVS, hX, hC, hst, hls, hlh, hag, hag2, hA, hnx0⟩ := id hS
  have ha2 : a < q_nx h := q_lt hC hsh (by decide)
  obtain ⟨ws, e9, e1, e2, hP, hD, hat, hcr⟩ := q_Wd_at hW ha ha2
  rw [hsh] at hcr
  have hcr : e9 = _ := hcr
  rw [hcr] at hat
  subst hi
  have hin : vp_in (nI j) L := vp_in_nI hj hL
  have hb2 : b < q_nx h := q_lt hC hbs (by decide)
  obtain ⟨ws9, e8, f1, f2, hP9, hD9, hat9, hcr9⟩ := q_Wd_at hW hb1 hb2
  rw [hbs] at hcr9
  obtain ⟨fs9, hfs9, -, -⟩ := hcr9
  rw [hfs9] at hat9
  have hany : va_Any "HayBarn$Step" s H (ρ b) := va_rAny hK hP9 hat9 (r := (RX10, TX10, 8)) rfl (fun comp c0 h1 h2 => by
    have h3 : s.vm.findClass RX10 = some comp := h1
    cases h2.symm.trans h3
    exact va_asg _ _)
  refine va_astqM hx hb hK hP hD hVS (a - 400) 4 (E := "HayBarn$Step") hat rfl hany hin hd (fun H1 locs1 hP1 hD1 hS1 => ?_)
  rw [nI_clamp (by omega)] at hP1 hD1
  have hW1 : q_Wd D cA ρ (q_nx h, q_sh h, q_I h, q_u2 (q_R h) a j (some b), q_E h, q_L h) A H1 := by
    refine q_Wd_set e1 e2 ha ha2 rfl rfl (fun b hb => ⟨rfl, q_u2_row _ _ _ _ _ hb, rfl, rfl⟩) ?_ hP1 hD1
    show q_cr cA ρ _ a _ (q_sh h a)
    rw [hsh]
    refine congrArg (fun f => (Sum.inl (cA 4, L, Sum.inr (Sum.inr (Sum.inr (Sum.inr f)))) : va_E)) (funext fun i9 => ?_)
    show va_up (fun i => (q_R h a i).map ρ) j (some (ρ b)) i9 = (q_u2 (q_R h) a j (some b) a i9).map ρ
    rw [q_u2_of]; unfold va_up
    by_cases hij : i9 = j <;> simp [hij]
  have h9 := hJ p e s m args below meth cd D cA ρ0 ρ A H1 locs1 rls en' he' hB ⟨hK, hW1, hS1, hX, ⟨fun a8 j8 b8 h8 => by
      rw [show q_R (q_nx h, q_sh h, q_I h, q_u2 (q_R h) a j (some b), q_E h, q_L h) a8 j8 = q_u2 (q_R h) a j (some b) a8 j8 from rfl, q_u2_of] at h8
      split at h8
      · cases h8; exact q_hd hst _ rfl
      · exact hC.1 _ _ _ h8, hC.2⟩, q_tl (q_tl (q_tl hst)), hls, hlh, hag, hag2, hA, hnx0⟩
  rw [hpc] at h9
  exact h9
theorem k_o_aastE {i : Int32} {b : Nat} (hok : q_okB M = true) (he : q_nth M.2.2.2.2.1 pos = some (pc, .aastore, ln, a1, a2, w1, w2)) (ha : 400 ≤ a) (hsh : q_sh h a = (4, 5, L)) (hi : i = nI j) (hj : j < L) (hL : L < 2147483648) (hbe : b < 49)
    (hJ : q_K g M xt d mc ms h0 mv Q k n (pos + 1, ls, r, (q_nx h, q_sh h, q_I h, q_R h, q_u2 (q_E h) a j (some b), q_L h))) : q_K g M xt d mc ms h0 mv Q k n (pos, ls, .ref b :: .int i :: .ref a :: r, h) := by
  obtain rfl : ln = 1 := (q_atB hok he).2.2.1 (Nat.succ_ne_zero _)
  intro p e s m args below meth cd D cA ρ0 ρ A H locs rls en hen hB hS
  cases he.symm.trans hen
  obtain ⟨hd, hnx, -, ho2⟩ := q_atB hok he
  obtain ⟨en', he', hpc⟩ := hnx rfl
  obtain ⟨hx, hb, hr, hml, hts, hown, hlk, hnm, hxt⟩ := id hB
  obtain ⟨hK, hW, hVS, hX, hC, hst, hls, hlh, hag, hag2, hA, hnx0⟩ := id hS
  have ha2 : a < q_nx h := q_lt hC hsh (by decide)
  obtain ⟨ws, e9, e1, e2, hP, hD, hat, hcr⟩ := q_Wd_at hW ha ha2
  rw [hsh] at hcr
  have hcr : e9 = _ := hcr
  rw [hcr] at hat
  subst hi
  have hin : vp_in (nI j) L := vp_in_nI hj hL
  have hany : va_Any "HayBarn$Sign" s H (ρ b) := by
    obtain ⟨cell, c1, c2, c3, c4⟩ := (hX.2.2.1 b hbe).1
    obtain ⟨kC, hkC, -⟩ := Vm.findClass_spec c3
    have hρ : ρ b = ρ0 b := hag2 b (by omega)
    refine ⟨cell, ?_, c2, ⟨kC, hkC⟩, fun comp h1 => ?_⟩
    · rw [hρ, hVS.2.1 _ (Array.getElem?_eq_some_iff.mp c1).1 c4]; exact c1
    · cases c3.symm.trans h1
      exact va_asg _ _
  refine va_astqM hx hb hK hP hD hVS (a - 400) 5 (E := "HayBarn$Sign") hat rfl hany hin hd (fun H1 locs1 hP1 hD1 hS1 => ?_)
  rw [nI_clamp (by omega)] at hP1 hD1
  have hW1 : q_Wd D cA ρ (q_nx h, q_sh h, q_I h, q_R h, q_u2 (q_E h) a j (some b), q_L h) A H1 := by
    refine q_Wd_set e1 e2 ha ha2 rfl rfl (fun b hb => ⟨rfl, rfl, q_u2_row _ _ _ _ _ hb, rfl⟩) ?_ hP1 hD1
    show q_cr cA ρ _ a _ (q_sh h a)
    rw [hsh]
    refine congrArg (fun f => (Sum.inl (cA 5, L, Sum.inr (Sum.inr (Sum.inr (Sum.inr f)))) : va_E)) (funext fun i9 => ?_)
    show va_up (fun i => (q_E h a i).map ρ) j (some (ρ b)) i9 = (q_u2 (q_E h) a j (some b) a i9).map ρ
    rw [q_u2_of]; unfold va_up
    by_cases hij : i9 = j <;> simp [hij]
  have h9 := hJ p e s m args below meth cd D cA ρ0 ρ A H1 locs1 rls en' he' hB ⟨hK, hW1, hS1, hX, ⟨hC.1, fun a8 j8 b8 h8 => by
      rw [show q_E (q_nx h, q_sh h, q_I h, q_R h, q_u2 (q_E h) a j (some b), q_L h) a8 j8 = q_u2 (q_E h) a j (some b) a8 j8 from rfl, q_u2_of] at h8
      split at h8
      · cases h8; exact hbe
      · exact hC.2.1 _ _ _ h8, hC.2.2⟩, q_tl (q_tl (q_tl hst)), hls, hlh, hag, hag2, hA, hnx0⟩
  rw [hpc] at h9
  exact h9
theorem k_o_alenI (hok : q_okB M = true) (he : q_nth M.2.2.2.2.1 pos = some (pc, .arraylength, ln, a1, a2, w1, w2)) (ha : 400 ≤ a) (hsh : q_sh h a = (1, 0, L))
    (hJ : q_K g M xt d mc ms h0 mv Q k n (pos + 1, ls, .int (nI L) :: r, h)) : q_K g M xt d mc ms h0 mv Q k n (pos, ls, .ref a :: r, h) := by
  obtain rfl : ln = 1 := (q_atB hok he).2.2.1 (Nat.succ_ne_zero _)
  intro p e s m args below meth cd D cA ρ0 ρ A H locs rls en hen hB hS
  cases he.symm.trans hen
  obtain ⟨hd, hnx, -, ho2⟩ := q_atB hok he
  obtain ⟨en', he', hpc⟩ := hnx rfl
  obtain ⟨hx, hb, hr, hml, hts, hown, hlk, hnm, hxt⟩ := id hB
  obtain ⟨hK, hW, hVS, hX, hC, hst, hls, hlh, hag, hag2, hA, hnx0⟩ := id hS
  have ha2 : a < q_nx h := q_lt hC hsh (by decide)
  have h9 := hJ p e s m args below meth cd D cA ρ0 ρ A H locs rls en' he' hB ⟨hK, hW, hVS, hX, hC, q_cl1 q_vcl_i (q_tl hst), hls, hlh, hag, hag2, hA, hnx0⟩
  rw [hpc] at h9
  obtain ⟨ws, e9, e1, e2, hP, hD, hat, hcr⟩ := q_Wd_at hW ha ha2
  rw [hsh] at hcr
  have hcr : e9 = _ := hcr
  rw [hcr] at hat
  exact va_alen hx hb hK hP (a - 400) 0 hat rfl rfl hd h9
theorem k_o_alenB (hok : q_okB M = true) (he : q_nth M.2.2.2.2.1 pos = some (pc, .arraylength, ln, a1, a2, w1, w2)) (ha : 400 ≤ a) (hsh : q_sh h a = (1, 1, L))
    (hJ : q_K g M xt d mc ms h0 mv Q k n (pos + 1, ls, .int (nI L) :: r, h)) : q_K g M xt d mc ms h0 mv Q k n (pos, ls, .ref a :: r, h) := by
  obtain rfl : ln = 1 := (q_atB hok he).2.2.1 (Nat.succ_ne_zero _)
  intro p e s m args below meth cd D cA ρ0 ρ A H locs rls en hen hB hS
  cases he.symm.trans hen
  obtain ⟨hd, hnx, -, ho2⟩ := q_atB hok he
  obtain ⟨en', he', hpc⟩ := hnx rfl
  obtain ⟨hx, hb, hr, hml, hts, hown, hlk, hnm, hxt⟩ := id hB
  obtain ⟨hK, hW, hVS, hX, hC, hst, hls, hlh, hag, hag2, hA, hnx0⟩ := id hS
  have ha2 : a < q_nx h := q_lt hC hsh (by decide)
  have h9 := hJ p e s m args below meth cd D cA ρ0 ρ A H locs rls en' he' hB ⟨hK, hW, hVS, hX, hC, q_cl1 q_vcl_i (q_tl hst), hls, hlh, hag, hag2, hA, hnx0⟩
  rw [hpc] at h9
  obtain ⟨ws, e9, e1, e2, hP, hD, hat, hcr⟩ := q_Wd_at hW ha ha2
  rw [hsh] at hcr
  have hcr : e9 = _ := hcr
  rw [hcr] at hat
  exact va_alen hx hb hK hP (a - 400) 1 hat rfl rfl hd h9
theorem k_o_alenZ (hok : q_okB M = true) (he : q_nth M.2.2.2.2.1 pos = some (pc, .arraylength, ln, a1, a2, w1, w2)) (ha : 400 ≤ a) (hsh : q_sh h a = (1, 2, L))
    (hJ : q_K g M xt d mc ms h0 mv Q k n (pos + 1, ls, .int (nI L) :: r, h)) : q_K g M xt d mc ms h0 mv Q k n (pos, ls, .ref a :: r, h) := by
  obtain rfl : ln = 1 := (q_atB hok he).2.2.1 (Nat.succ_ne_zero _)
  intro p e s m args below meth cd D cA ρ0 ρ A H locs rls en hen hB hS
  cases he.symm.trans hen
  obtain ⟨hd, hnx, -, ho2⟩ := q_atB hok he
  obtain ⟨en', he', hpc⟩ := hnx rfl
  obtain ⟨hx, hb, hr, hml, hts, hown, hlk, hnm, hxt⟩ := id hB
  obtain ⟨hK, hW, hVS, hX, hC, hst, hls, hlh, hag, hag2, hA, hnx0⟩ := id hS
  have ha2 : a < q_nx h := q_lt hC hsh (by decide)
  have h9 := hJ p e s m args below meth cd D cA ρ0 ρ A H locs rls en' he' hB ⟨hK, hW, hVS, hX, hC, q_cl1 q_vcl_i (q_tl hst), hls, hlh, hag, hag2, hA, hnx0⟩
  rw [hpc] at h9
  obtain ⟨ws, e9, e1, e2, hP, hD, hat, hcr⟩ := q_Wd_at hW ha ha2
  rw [hsh] at hcr
  have hcr : e9 = _ := hcr
  rw [hcr] at hat
  exact va_alen hx hb hK hP (a - 400) 2 hat rfl rfl hd h9
theorem k_o_alenE (hok : q_okB M = true) (he : q_nth M.2.2.2.2.1 pos = some (pc, .arraylength, ln, a1, a2, w1, w2)) (ha : 400 ≤ a) (hsh : q_sh h a = (4, 5, L))
    (hJ : q_K g M xt d mc ms h0 mv Q k n (pos + 1, ls, .int (nI L) :: r, h)) : q_K g M xt d mc ms h0 mv Q k n (pos, ls, .ref a :: r, h) := by
  obtain rfl : ln = 1 := (q_atB hok he).2.2.1 (Nat.succ_ne_zero _)
  intro p e s m args below meth cd D cA ρ0 ρ A H locs rls en hen hB hS
  cases he.symm.trans hen
  obtain ⟨hd, hnx, -, ho2⟩ := q_atB hok he
  obtain ⟨en', he', hpc⟩ := hnx rfl
  obtain ⟨hx, hb, hr, hml, hts, hown, hlk, hnm, hxt⟩ := id hB
  obtain ⟨hK, hW, hVS, hX, hC, hst, hls, hlh, hag, hag2, hA, hnx0⟩ := id hS
  have ha2 : a < q_nx h := q_lt hC hsh (by decide)
  have h9 := hJ p e s m args below meth cd D cA ρ0 ρ A H locs rls en' he' hB ⟨hK, hW, hVS, hX, hC, q_cl1 q_vcl_i (q_tl hst), hls, hlh, hag, hag2, hA, hnx0⟩
  rw [hpc] at h9
  obtain ⟨ws, e9, e1, e2, hP, hD, hat, hcr⟩ := q_Wd_at hW ha ha2
  rw [hsh] at hcr
  have hcr : e9 = _ := hcr
  rw [hcr] at hat
  exact va_alen hx hb hK hP (a - 400) 5 hat rfl rfl hd h9
theorem k_o_alenR (hok : q_okB M = true) (he : q_nth M.2.2.2.2.1 pos = some (pc, .arraylength, ln, a1, a2, w1, w2)) (ha : 400 ≤ a) (hsh : q_sh h a = (3, 4, L))
    (hJ : q_K g M xt d mc ms h0 mv Q k n (pos + 1, ls, .int (nI L) :: r, h)) : q_K g M xt d mc ms h0 mv Q k n (pos, ls, .ref a :: r, h) := by
  obtain rfl : ln = 1 := (q_atB hok he).2.2.1 (Nat.succ_ne_zero _)
  intro p e s m args below meth cd D cA ρ0 ρ A H locs rls en hen hB hS
  cases he.symm.trans hen
  obtain ⟨hd, hnx, -, ho2⟩ := q_atB hok he
  obtain ⟨en', he', hpc⟩ := hnx rfl
  obtain ⟨hx, hb, hr, hml, hts, hown, hlk, hnm, hxt⟩ := id hB
  obtain ⟨hK, hW, hVS, hX, hC, hst, hls, hlh, hag, hag2, hA, hnx0⟩ := id hS
  have ha2 : a < q_nx h := q_lt hC hsh (by decide)
  have h9 := hJ p e s m args below meth cd D cA ρ0 ρ A H locs rls en' he' hB ⟨hK, hW, hVS, hX, hC, q_cl1 q_vcl_i (q_tl hst), hls, hlh, hag, hag2, hA, hnx0⟩
  rw [hpc] at h9
  obtain ⟨ws, e9, e1, e2, hP, hD, hat, hcr⟩ := q_Wd_at hW ha ha2
  rw [hsh] at hcr
  have hcr : e9 = _ := hcr
  rw [hcr] at hat
  exact va_alen hx hb hK hP (a - 400) 4 hat rfl rfl hd h9
theorem k_o_gets  (hok : q_okB M = true) (he : q_nth M.2.2.2.2.1 pos = some (pc, .getstatic idx, ln, a1, a2, w1, w2)) (h1 : a1 < 400)
    (hJ : q_K g M xt d mc ms h0 mv Q k n (pos + 1, ls, .ref a1 :: r, h)) : q_K g M xt d mc ms h0 mv Q k n (pos, ls, r, h) := by
  obtain rfl : ln = 3 := (q_atB hok he).2.2.1 (Nat.succ_ne_zero _)
  intro p e s m args below meth cd D cA ρ0 ρ A H locs rls en hen hB hS
  cases he.symm.trans hen
  obtain ⟨hd, hnx, -, ho2⟩ := q_atB hok he
  obtain ⟨en', he', hpc⟩ := hnx rfl
  obtain ⟨hx, hb, hr, hml, hts, hown, hlk, hnm, hxt⟩ := id hB
  obtain ⟨hK, hW, hVS, hX, hC, hst, hls, hlh, hag, hag2, hA, hnx0⟩ := id hS
  have h9 := hJ p e s m args below meth cd D cA ρ0 ρ A H locs rls en' he' hB ⟨hK, hW, hVS, hX, hC, q_cl1 (fun z hz => by cases hz; exact Nat.lt_of_lt_of_le h1 hnx0.1) hst, hls, hlh, hag, hag2, hA, hnx0⟩
  rw [hpc] at h9
  simp only [q_ok2, Bool.or_eq_true, decide_eq_true_eq] at ho2
  obtain ⟨C, nn, dd, hm, hw⟩ := q_isS_of (ho2.resolve_left (by omega))
  have hZ := hX.2.1 _ hm
  have h9 : W p g.1 e (q_rk d mc ms) s m args below meth cd H locs k n (vx_MQ below (q_Qc D cA ρ0 h0 mv A Q) (q_XC D cA ρ0 h0 mv A Q) args s mc ms A) (F0 m (pc + 3) rls (.ref (ρ0 a1) :: r.map (q_vz ρ))) := by
    rw [← hag2 a1 h1]; exact h9
  rcases hw with hw | ⟨host, hw⟩
  · exact va_gets hx hb hZ hVS hown (hts _ (q_gw_in hw rfl)) (fun _ h8 => h8) hd h9
  · exact va_getsN hx hb hZ hVS hown (q_Xn hX (q_gw_in2 hw) rfl rfl) (fun _ h8 => h8) hd h9
theorem k_o_xsw {i : Int32} (hok : q_okB M = true) (he : q_nth M.2.2.2.2.1 pos = some (pc, .iaload, ln, a1, a2, w1, w2)) (hi : i = nI j) (hj : j < 49) 
    (hJ : q_K g M xt d mc ms h0 mv Q k n (pos + 1, ls, .int (q_sw j) :: r, h)) : q_K g M xt d mc ms h0 mv Q k n (pos, ls, .int i :: .ref 50 :: r, h) := by
  obtain rfl : ln = 1 := (q_atB hok he).2.2.1 (Nat.succ_ne_zero _)
  intro p e s m args below meth cd D cA ρ0 ρ A H locs rls en hen hB hS
  cases he.symm.trans hen
  obtain ⟨hd, hnx, -, ho2⟩ := q_atB hok he
  obtain ⟨en', he', hpc⟩ := hnx rfl
  obtain ⟨hx, hb, hr, hml, hts, hown, hlk, hnm, hxt⟩ := id hB
  obtain ⟨hK, hW, hVS, hX, hC, hst, hls, hlh, hag, hag2, hA, hnx0⟩ := id hS
  have h9 := hJ p e s m args below meth cd D cA ρ0 ρ A H locs rls en' he' hB ⟨hK, hW, hVS, hX, hC, q_cl1 q_vcl_i (q_tl (q_tl hst)), hls, hlh, hag, hag2, hA, hnx0⟩
  rw [hpc] at h9
  subst hi
  have hin : vp_in (nI j) (49) := vp_in_nI hj (by omega)
  have hT := hX.2.2.2.2.2.1
  rw [← hag2 50 (by decide)] at hT
  exact va_ti hx hb hT hVS hin (by rw [nI_clamp (by omega)]; rfl) hd h9
theorem k_o_xscr {i : Int32} (hok : q_okB M = true) (he : q_nth M.2.2.2.2.1 pos = some (pc, .iaload, ln, a1, a2, w1, w2)) (hi : i = nI j) (hj : j < g.2.length) (hL : g.2.length < 2147483648)
    (hJ : q_K g M xt d mc ms h0 mv Q k n (pos + 1, ls, .int (g.2.getD j 0) :: r, h)) : q_K g M xt d mc ms h0 mv Q k n (pos, ls, .int i :: .ref 52 :: r, h) := by
  obtain rfl : ln = 1 := (q_atB hok he).2.2.1 (Nat.succ_ne_zero _)
  intro p e s m args below meth cd D cA ρ0 ρ A H locs rls en hen hB hS
  cases he.symm.trans hen
  obtain ⟨hd, hnx, -, ho2⟩ := q_atB hok he
  obtain ⟨en', he', hpc⟩ := hnx rfl
  obtain ⟨hx, hb, hr, hml, hts, hown, hlk, hnm, hxt⟩ := id hB
  obtain ⟨hK, hW, hVS, hX, hC, hst, hls, hlh, hag, hag2, hA, hnx0⟩ := id hS
  have h9 := hJ p e s m args below meth cd D cA ρ0 ρ A H locs rls en' he' hB ⟨hK, hW, hVS, hX, hC, q_cl1 q_vcl_i (q_tl (q_tl hst)), hls, hlh, hag, hag2, hA, hnx0⟩
  rw [hpc] at h9
  subst hi
  have hin : vp_in (nI j) (g.2.length) := vp_in_nI hj (by omega)
  have hT := hX.2.2.2.2.2.2.2.1
  rw [← hag2 52 (by decide)] at hT
  exact va_ti hx hb hT hVS hin (by rw [nI_clamp (by omega)]; rfl) hd h9
theorem k_o_xsigns {i : Int32} (hok : q_okB M = true) (he : q_nth M.2.2.2.2.1 pos = some (pc, .aaload, ln, a1, a2, w1, w2)) (hi : i = nI j) (hj : j < 49) 
    (hJ : q_K g M xt d mc ms h0 mv Q k n (pos + 1, ls, .ref j :: r, h)) : q_K g M xt d mc ms h0 mv Q k n (pos, ls, .int i :: .ref 49 :: r, h) := by
  obtain rfl : ln = 1 := (q_atB hok he).2.2.1 (Nat.succ_ne_zero _)
  intro p e s m args below meth cd D cA ρ0 ρ A H locs rls en hen hB hS
  cases he.symm.trans hen
  obtain ⟨hd, hnx, -, ho2⟩ := q_atB hok he
  obtain ⟨en', he', hpc⟩ := hnx rfl
  obtain ⟨hx, hb, hr, hml, hts, hown, hlk, hnm, hxt⟩ := id hB
  obtain ⟨hK, hW, hVS, hX, hC, hst, hls, hlh, hag, hag2, hA, hnx0⟩ := id hS
  have h9 := hJ p e s m args below meth cd D cA ρ0 ρ A H locs rls en' he' hB ⟨hK, hW, hVS, hX, hC, q_cl1 (fun z hz => by cases hz; exact Nat.lt_of_lt_of_le (show _ < 400 by omega) hnx0.1) (q_tl (q_tl hst)), hls, hlh, hag, hag2, hA, hnx0⟩
  rw [hpc] at h9
  subst hi
  have hin : vp_in (nI j) (49) := vp_in_nI hj (by omega)
  have hT := hX.2.2.2.2.1
  rw [← hag2 49 (by decide)] at hT
  exact vb_tq hx hb hT hVS hin (by rw [nI_clamp (by omega)]; exact congrArg Value.ref (hag2 j (by omega)).symm) hd h9
theorem k_o_xlen49  (hok : q_okB M = true) (he : q_nth M.2.2.2.2.1 pos = some (pc, .arraylength, ln, a1, a2, w1, w2)) 
    (hJ : q_K g M xt d mc ms h0 mv Q k n (pos + 1, ls, .int (nI (49)) :: r, h)) : q_K g M xt d mc ms h0 mv Q k n (pos, ls, .ref 49 :: r, h) := by
  obtain rfl : ln = 1 := (q_atB hok he).2.2.1 (Nat.succ_ne_zero _)
  intro p e s m args below meth cd D cA ρ0 ρ A H locs rls en hen hB hS
  cases he.symm.trans hen
  obtain ⟨hd, hnx, -, ho2⟩ := q_atB hok he
  obtain ⟨en', he', hpc⟩ := hnx rfl
  obtain ⟨hx, hb, hr, hml, hts, hown, hlk, hnm, hxt⟩ := id hB
  obtain ⟨hK, hW, hVS, hX, hC, hst, hls, hlh, hag, hag2, hA, hnx0⟩ := id hS
  have h9 := hJ p e s m args below meth cd D cA ρ0 ρ A H locs rls en' he' hB ⟨hK, hW, hVS, hX, hC, q_cl1 q_vcl_i (q_tl hst), hls, hlh, hag, hag2, hA, hnx0⟩
  rw [hpc] at h9
  have hT := hX.2.2.2.2.1
  rw [← hag2 49 (by decide)] at hT
  exact va_tlen hx hb hT hVS rfl hd h9
theorem k_o_xlen52  (hok : q_okB M = true) (he : q_nth M.2.2.2.2.1 pos = some (pc, .arraylength, ln, a1, a2, w1, w2)) 
    (hJ : q_K g M xt d mc ms h0 mv Q k n (pos + 1, ls, .int (nI (g.2.length)) :: r, h)) : q_K g M xt d mc ms h0 mv Q k n (pos, ls, .ref 52 :: r, h) := by
  obtain rfl : ln = 1 := (q_atB hok he).2.2.1 (Nat.succ_ne_zero _)
  intro p e s m args below meth cd D cA ρ0 ρ A H locs rls en hen hB hS
  cases he.symm.trans hen
  obtain ⟨hd, hnx, -, ho2⟩ := q_atB hok he
  obtain ⟨en', he', hpc⟩ := hnx rfl
  obtain ⟨hx, hb, hr, hml, hts, hown, hlk, hnm, hxt⟩ := id hB
  obtain ⟨hK, hW, hVS, hX, hC, hst, hls, hlh, hag, hag2, hA, hnx0⟩ := id hS
  have h9 := hJ p e s m args below meth cd D cA ρ0 ρ A H locs rls en' he' hB ⟨hK, hW, hVS, hX, hC, q_cl1 q_vcl_i (q_tl hst), hls, hlh, hag, hag2, hA, hnx0⟩
  rw [hpc] at h9
  have hT := hX.2.2.2.2.2.2.2.1
  rw [← hag2 52 (by decide)] at hT
  exact va_tlen hx hb hT hVS rfl hd h9
theorem k_o_xtext {b : Nat} {ref : String} (hok : q_okB M = true) (he : q_nth M.2.2.2.2.1 pos = some (pc, .getfield idx, ln, a1, a2, w1, w2)) (hb1 : b < 49) (hw : q_gw w1 w2 = some (.fieldLink M.1.cls idx "HayBarn$Sign" "text" "Ljava/lang/String;") ∨ ∃ host, q_gw w1 w2 = some (.fieldLinkNest M.1.cls idx "HayBarn$Sign" "text" "Ljava/lang/String;" host))
    (hJ : q_K g M xt d mc ms h0 mv Q k n (pos + 1, ls, .ref (100 + b) :: r, h)) : q_K g M xt d mc ms h0 mv Q k n (pos, ls, .ref b :: r, h) := by
  obtain rfl : ln = 3 := (q_atB hok he).2.2.1 (Nat.succ_ne_zero _)
  intro p e s m args below meth cd D cA ρ0 ρ A H locs rls en hen hB hS
  cases he.symm.trans hen
  obtain ⟨hd, hnx, -, ho2⟩ := q_atB hok he
  obtain ⟨en', he', hpc⟩ := hnx rfl
  obtain ⟨hx, hb, hr, hml, hts, hown, hlk, hnm, hxt⟩ := id hB
  obtain ⟨hK, hW, hVS, hX, hC, hst, hls, hlh, hag, hag2, hA, hnx0⟩ := id hS
  have h9 := hJ p e s m args below meth cd D cA ρ0 ρ A H locs rls en' he' hB ⟨hK, hW, hVS, hX, hC, q_cl1 (fun z hz => by cases hz; exact Nat.lt_of_lt_of_le (show _ < 400 by omega) hnx0.1) (q_tl hst), hls, hlh, hag, hag2, hA, hnx0⟩
  rw [hpc] at h9
  have hT := (hX.2.2.1 b hb1).2.2
  rw [← hag2 b (by omega), ← hag2 (100 + b) (by omega)] at hT
  obtain ⟨cf, kf, fi, f, cell, g1, g2, g3, g4, g5, g6⟩ := hT.kept hVS.2.1
  rcases hw with hw | ⟨host, hw⟩
  · exact W.getf hx hb hown (hts _ (q_gw_in hw rfl)) g1 g2 g3 g4 (v := .ref (ρ (100 + b))) g5 rfl rfl hd h9
  · exact va_Wgetf hx hb hown (q_Xn hX (q_gw_in2 hw) rfl rfl) g1 g2 g3 g4 (v := .ref (ρ (100 + b))) g5 rfl rfl hd h9
theorem k_o_xord {b : Nat} (hok : q_okB M = true) (he : q_nth M.2.2.2.2.1 pos = some (pc, .getfield idx, ln, a1, a2, w1, w2)) (hb1 : b < 49) (hw : q_gw w1 w2 = some (.fieldLink M.1.cls idx "java/lang/Enum" "ordinal" "I"))
    (hJ : q_K g M xt d mc ms h0 mv Q k n (pos + 1, ls, .int (nI b) :: r, h)) : q_K g M xt d mc ms h0 mv Q k n (pos, ls, .ref b :: r, h) := by
  obtain rfl : ln = 3 := (q_atB hok he).2.2.1 (Nat.succ_ne_zero _)
  intro p e s m args below meth cd D cA ρ0 ρ A H locs rls en hen hB hS
  cases he.symm.trans hen
  obtain ⟨hd, hnx, -, ho2⟩ := q_atB hok he
  obtain ⟨en', he', hpc⟩ := hnx rfl
  obtain ⟨hx, hb, hr, hml, hts, hown, hlk, hnm, hxt⟩ := id hB
  obtain ⟨hK, hW, hVS, hX, hC, hst, hls, hlh, hag, hag2, hA, hnx0⟩ := id hS
  have h9 := hJ p e s m args below meth cd D cA ρ0 ρ A H locs rls en' he' hB ⟨hK, hW, hVS, hX, hC, q_cl1 q_vcl_i (q_tl hst), hls, hlh, hag, hag2, hA, hnx0⟩
  rw [hpc] at h9
  have hT := (hX.2.2.1 b hb1).2.1
  rw [← hag2 b (by omega)] at hT
  exact vk_getf hx hb hT hVS hown (hts _ (q_gw_in hw rfl)) (fun _ h8 => h8) hd h9
theorem k_o_xcoder {b : Nat} (hok : q_okB M = true) (he : q_nth M.2.2.2.2.1 pos = some (pc, .getfield idx, ln, a1, a2, w1, w2)) (hb1 : q_isStr b = true) (hb4 : b < 300) (hw : q_gw w1 w2 = some (.fieldLink M.1.cls idx "java/lang/String" "coder" "B"))
    (hJ : q_K g M xt d mc ms h0 mv Q k n (pos + 1, ls, .int 0 :: r, h)) : q_K g M xt d mc ms h0 mv Q k n (pos, ls, .ref b :: r, h) := by
  obtain rfl : ln = 3 := (q_atB hok he).2.2.1 (Nat.succ_ne_zero _)
  intro p e s m args below meth cd D cA ρ0 ρ A H locs rls en hen hB hS
  cases he.symm.trans hen
  obtain ⟨hd, hnx, -, ho2⟩ := q_atB hok he
  obtain ⟨en', he', hpc⟩ := hnx rfl
  obtain ⟨hx, hb, hr, hml, hts, hown, hlk, hnm, hxt⟩ := id hB
  obtain ⟨hK, hW, hVS, hX, hC, hst, hls, hlh, hag, hag2, hA, hnx0⟩ := id hS
  have h9 := hJ p e s m args below meth cd D cA ρ0 ρ A H locs rls en' he' hB ⟨hK, hW, hVS, hX, hC, q_cl1 q_vcl_i (q_tl hst), hls, hlh, hag, hag2, hA, hnx0⟩
  rw [hpc] at h9
  have hT := (hX.2.2.2.2.2.2.2.2.1 b hb1).2.1
  rw [← hag2 b (by omega)] at hT
  exact vk_getf hx hb hT hVS hown (hts _ (q_gw_in hw rfl)) (fun _ h8 => h8) hd h9
theorem k_o_xvalue {b : Nat} (hok : q_okB M = true) (he : q_nth M.2.2.2.2.1 pos = some (pc, .getfield idx, ln, a1, a2, w1, w2)) (hb1 : q_isStr b = true) (hb4 : b < 300) (hw : q_gw w1 w2 = some (.fieldLink M.1.cls idx "java/lang/String" "value" "[B"))
    (hJ : q_K g M xt d mc ms h0 mv Q k n (pos + 1, ls, .ref (100 + b) :: r, h)) : q_K g M xt d mc ms h0 mv Q k n (pos, ls, .ref b :: r, h) := by
  obtain rfl : ln = 3 := (q_atB hok he).2.2.1 (Nat.succ_ne_zero _)
  intro p e s m args below meth cd D cA ρ0 ρ A H locs rls en hen hB hS
  cases he.symm.trans hen
  obtain ⟨hd, hnx, -, ho2⟩ := q_atB hok he
  obtain ⟨en', he', hpc⟩ := hnx rfl
  obtain ⟨hx, hb, hr, hml, hts, hown, hlk, hnm, hxt⟩ := id hB
  obtain ⟨hK, hW, hVS, hX, hC, hst, hls, hlh, hag, hag2, hA, hnx0⟩ := id hS
  have h9 := hJ p e s m args below meth cd D cA ρ0 ρ A H locs rls en' he' hB ⟨hK, hW, hVS, hX, hC, q_cl1 (fun z hz => by cases hz; exact Nat.lt_of_lt_of_le (show _ < 400 by omega) hnx0.1) (q_tl hst), hls, hlh, hag, hag2, hA, hnx0⟩
  rw [hpc] at h9
  have hT := (hX.2.2.2.2.2.2.2.2.1 b hb1).2.2.1
  rw [← hag2 b (by omega), ← hag2 (100 + b) (by omega)] at hT
  exact vk_getf hx hb hT hVS hown (hts _ (q_gw_in hw rfl)) (fun _ h8 => h8) hd h9
theorem k_o_xslen {b : Nat} (hok : q_okB M = true) (he : q_nth M.2.2.2.2.1 pos = some (pc, .arraylength, ln, a1, a2, w1, w2)) (hb1 : q_isStr b = true) (hb4 : b < 300)
    (hJ : q_K g M xt d mc ms h0 mv Q k n (pos + 1, ls, .int (nI (q_str b).length) :: r, h)) : q_K g M xt d mc ms h0 mv Q k n (pos, ls, .ref (100 + b) :: r, h) := by
  obtain rfl : ln = 1 := (q_atB hok he).2.2.1 (Nat.succ_ne_zero _)
  intro p e s m args below meth cd D cA ρ0 ρ A H locs rls en hen hB hS
  cases he.symm.trans hen
  obtain ⟨hd, hnx, -, ho2⟩ := q_atB hok he
  obtain ⟨en', he', hpc⟩ := hnx rfl
  obtain ⟨hx, hb, hr, hml, hts, hown, hlk, hnm, hxt⟩ := id hB
  obtain ⟨hK, hW, hVS, hX, hC, hst, hls, hlh, hag, hag2, hA, hnx0⟩ := id hS
  have h9 := hJ p e s m args below meth cd D cA ρ0 ρ A H locs rls en' he' hB ⟨hK, hW, hVS, hX, hC, q_cl1 q_vcl_i (q_tl hst), hls, hlh, hag, hag2, hA, hnx0⟩
  rw [hpc] at h9
  have hT := (hX.2.2.2.2.2.2.2.2.1 b hb1).2.2.2
  rw [← hag2 (100 + b) (by omega)] at hT
  exact va_tlen hx hb hT hVS rfl hd h9
theorem k_o_xsbyte {b : Nat} {i : Int32} (hok : q_okB M = true) (he : q_nth M.2.2.2.2.1 pos = some (pc, .baload, ln, a1, a2, w1, w2)) (hb1 : q_isStr b = true) (hb4 : b < 300) (hi : i = nI j) (hj : j < (q_str b).length) (hL : (q_str b).length < 2147483648)
    (hJ : q_K g M xt d mc ms h0 mv Q k n (pos + 1, ls, .int ((q_str b).getD j 0) :: r, h)) : q_K g M xt d mc ms h0 mv Q k n (pos, ls, .int i :: .ref (100 + b) :: r, h) := by
  obtain rfl : ln = 1 := (q_atB hok he).2.2.1 (Nat.succ_ne_zero _)
  intro p e s m args below meth cd D cA ρ0 ρ A H locs rls en hen hB hS
  cases he.symm.trans hen
  obtain ⟨hd, hnx, -, ho2⟩ := q_atB hok he
  obtain ⟨en', he', hpc⟩ := hnx rfl
  obtain ⟨hx, hb, hr, hml, hts, hown, hlk, hnm, hxt⟩ := id hB
  obtain ⟨hK, hW, hVS, hX, hC, hst, hls, hlh, hag, hag2, hA, hnx0⟩ := id hS
  have h9 := hJ p e s m args below meth cd D cA ρ0 ρ A H locs rls en' he' hB ⟨hK, hW, hVS, hX, hC, q_cl1 q_vcl_i (q_tl (q_tl hst)), hls, hlh, hag, hag2, hA, hnx0⟩
  rw [hpc] at h9
  subst hi
  have hin : vp_in (nI j) (q_str b).length := vp_in_nI hj (by omega)
  have hT := (hX.2.2.2.2.2.2.2.2.1 b hb1).2.2.2
  rw [← hag2 (100 + b) (by omega)] at hT
  exact va_tb hx hb hT hVS hin (by rw [nI_clamp (by omega)]; rfl) hd h9
theorem k_o_xcompact  (hok : q_okB M = true) (he : q_nth M.2.2.2.2.1 pos = some (pc, .getstatic idx, ln, a1, a2, w1, w2)) (hw : q_gw w1 w2 = some (.fieldLink M.1.cls idx "java/lang/String" "COMPACT_STRINGS" "Z"))
    (hJ : q_K g M xt d mc ms h0 mv Q k n (pos + 1, ls, .int 1 :: r, h)) : q_K g M xt d mc ms h0 mv Q k n (pos, ls, r, h) := by
  obtain rfl : ln = 3 := (q_atB hok he).2.2.1 (Nat.succ_ne_zero _)
  intro p e s m args below meth cd D cA ρ0 ρ A H locs rls en hen hB hS
  cases he.symm.trans hen
  obtain ⟨hd, hnx, -, ho2⟩ := q_atB hok he
  obtain ⟨en', he', hpc⟩ := hnx rfl
  obtain ⟨hx, hb, hr, hml, hts, hown, hlk, hnm, hxt⟩ := id hB
  obtain ⟨hK, hW, hVS, hX, hC, hst, hls, hlh, hag, hag2, hA, hnx0⟩ := id hS
  have h9 := hJ p e s m args below meth cd D cA ρ0 ρ A H locs rls en' he' hB ⟨hK, hW, hVS, hX, hC, q_cl1 q_vcl_i hst, hls, hlh, hag, hag2, hA, hnx0⟩
  rw [hpc] at h9
  obtain ⟨-, -, -, -, -, -, -, -, -, -, -, -, -, -, hZ, -⟩ := hX
  exact va_gets hx hb hZ hVS hown (hts _ (q_gw_in hw rfl)) (fun _ h8 => h8) hd h9
theorem k_o_xsioobe (hok : q_okB M = true) (he : q_nth M.2.2.2.2.1 pos = some (pc, .getstatic idx, ln, a1, a2, w1, w2)) (hw : q_gw w1 w2 = some (.fieldLink M.1.cls idx "jdk/internal/util/Preconditions" "SIOOBE_FORMATTER" "Ljava/util/function/BiFunction;"))
    (hJ : q_K g M xt d mc ms h0 mv Q k n (pos + 1, ls, .null :: r, h)) (hJ2 : q_K g M xt d mc ms h0 mv Q k n (pos + 1, ls, .ref 399 :: r, h)) : q_K g M xt d mc ms h0 mv Q k n (pos, ls, r, h) := by
  obtain rfl : ln = 3 := (q_atB hok he).2.2.1 (Nat.succ_ne_zero _)
  intro p e s m args below meth cd D cA ρ0 ρ A H locs rls en hen hB hS
  cases he.symm.trans hen
  obtain ⟨hd, hnx, -, ho2⟩ := q_atB hok he
  obtain ⟨en', he', hpc⟩ := hnx rfl
  obtain ⟨hx, hb, hr, hml, hts, hown, hlk, hnm, hxt⟩ := id hB
  obtain ⟨hK, hW, hVS, hX, hC, hst, hls, hlh, hag, hag2, hA, hnx0⟩ := id hS
  have h9 := hJ p e s m args below meth cd D cA ρ0 ρ A H locs rls en' he' hB ⟨hK, hW, hVS, hX, hC, q_cl1 q_vcl_n hst, hls, hlh, hag, hag2, hA, hnx0⟩
  have h7 := hJ2 p e s m args below meth cd D cA ρ0 ρ A H locs rls en' he' hB ⟨hK, hW, hVS, hX, hC, q_cl1 (fun z hz => by cases hz; exact Nat.lt_of_lt_of_le (by decide) hnx0.1) hst, hls, hlh, hag, hag2, hA, hnx0⟩
  rw [hpc] at h9 h7
  have hX9 := id hX
  obtain ⟨-, -, -, -, -, -, -, -, -, -, -, -, -, -, -, hZ, -⟩ := hX9
  rcases hZ with hZ | hZ
  · exact va_gets hx hb hZ hVS hown (hts _ (q_gw_in hw rfl)) (fun _ h8 => h8) hd h9
  · rw [← hag2 399 (by decide)] at hZ
    exact va_gets hx hb hZ hVS hown (hts _ (q_gw_in hw rfl)) (fun _ h8 => h8) hd h7
end KQROWS
section KQNEW
variable {g : q_G} {xt : List ExceptionTableEntry} {M : q_M} {d mc ms : Nat} {h0 : q_H} {mv : List Nat} {Q : (Option Value ⊕ String) → q_H → Prop} {k n pos pc ln a1 a2 w1 w2 a ci v idx L j : Nat} {ls : List (Option Value)} {r : List Value} {h : q_H}
theorem k_o_newarrI {i : Int32} (hok : q_okB M = true) (he : q_nth M.2.2.2.2.1 pos = some (pc, .newarray .int, ln, a1, a2, w1, w2)) (hi : i = nI L) (hL : L < 65536) (hk : k + 1 ≤ mc) (hn : n + L ≤ ms)
    (hJ : q_K g M xt d mc ms h0 mv Q (k + 1) (n + L) (pos + 1, ls, .ref (q_nx h) :: r, q_new h (1, 0, L))) : q_K g M xt d mc ms h0 mv Q k n (pos, ls, .int i :: r, h) := by
  obtain rfl : ln = 2 := (q_atB hok he).2.2.1 (Nat.succ_ne_zero _)
  intro p e s m args below meth cd D cA ρ0 ρ A H locs rls en hen hB hS
  cases he.symm.trans hen
  obtain ⟨hd, hnx, -, ho2⟩ := q_atB hok he
  obtain ⟨en', he', hpc⟩ := hnx rfl
  obtain ⟨hx, hb, hr, hml, hts, hown, hlk, hnm, hxt⟩ := id hB
  obtain ⟨hK, hW, hVS, hX, hC, hst, hls, hlh, hag, hag2, hA, hnx0⟩ := id hS
  obtain ⟨ws, f1, f2, hP, hD⟩ := id hW
  subst hi
  refine va_newa (ty := .int) (a0 := (L, .inl (fun _ => 0))) hx hb (hts _ q_arrI) rfl hK hP hD hVS hA (fun _ => rfl) (nI_pos (by omega)) (nI_clamp (by omega)) (by show L * 4 ≤ _; omega) hk hn hd (fun q c9 H1 hK1 hP1 hD1 hS1 => ?_)
  have hc9 : c9 = cA 0 := by
    have g1 := (hK1.2 9 (c9, .int) rfl).2
    have g2 := (hK.2 0 (cA 0, .int) rfl).2
    exact Option.some.inj (g1.symm.trans g2)
  subst hc9
  have h9 := hJ p e s m args below meth cd D cA ρ0 (q_ur ρ (q_nx h) q) A H1 locs rls en' he' hB (q_Sit_new (r := r) hS f1 f2 (by show _ = Sum.inl _; rw [show q_I (q_new h (1, 0, L)) (q_nx h) = (fun _ => 0) from q_ur_s _ _ _]) hP1 hD1 hS1 (q_tl hst))
  rw [hpc, List.map_cons, q_map_new (q_tl hst)] at h9
  rw [show q_vz (q_ur ρ (q_nx h) q) (.ref (q_nx h)) = .ref q from congrArg Value.ref (q_ur_s _ _ _)] at h9
  exact h9
theorem k_o_newarrB {i : Int32} (hok : q_okB M = true) (he : q_nth M.2.2.2.2.1 pos = some (pc, .newarray .byte, ln, a1, a2, w1, w2)) (hi : i = nI L) (hL : L < 65536) (hk : k + 1 ≤ mc) (hn : n + L ≤ ms)
    (hJ : q_K g M xt d mc ms h0 mv Q (k + 1) (n + L) (pos + 1, ls, .ref (q_nx h) :: r, q_new h (1, 1, L))) : q_K g M xt d mc ms h0 mv Q k n (pos, ls, .int i :: r, h) := by
  obtain rfl : ln = 2 := (q_atB hok he).2.2.1 (Nat.succ_ne_zero _)
  intro p e s m args below meth cd D cA ρ0 ρ A H locs rls en hen hB hS
  cases he.symm.trans hen
  obtain ⟨hd, hnx, -, ho2⟩ := q_atB hok he
  obtain ⟨en', he', hpc⟩ := hnx rfl
  obtain ⟨hx, hb, hr, hml, hts, hown, hlk, hnm, hxt⟩ := id hB
  obtain ⟨hK, hW, hVS, hX, hC, hst, hls, hlh, hag, hag2, hA, hnx0⟩ := id hS
  obtain ⟨ws, f1, f2, hP, hD⟩ := id hW
  subst hi
  refine va_newa (ty := .byte) (a0 := (L, .inl (fun _ => 0))) hx hb (hts _ q_arrB) rfl hK hP hD hVS hA (fun _ => rfl) (nI_pos (by omega)) (nI_clamp (by omega)) (by show L * 1 ≤ _; omega) hk hn hd (fun q c9 H1 hK1 hP1 hD1 hS1 => ?_)
  have hc9 : c9 = cA 1 := by
    have g1 := (hK1.2 9 (c9, .byte) rfl).2
    have g2 := (hK.2 1 (cA 1, .byte) rfl).2
    exact Option.some.inj (g1.symm.trans g2)
  subst hc9
  have h9 := hJ p e s m args below meth cd D cA ρ0 (q_ur ρ (q_nx h) q) A H1 locs rls en' he' hB (q_Sit_new (r := r) hS f1 f2 (by show _ = Sum.inl _; rw [show q_I (q_new h (1, 1, L)) (q_nx h) = (fun _ => 0) from q_ur_s _ _ _]) hP1 hD1 hS1 (q_tl hst))
  rw [hpc, List.map_cons, q_map_new (q_tl hst)] at h9
  rw [show q_vz (q_ur ρ (q_nx h) q) (.ref (q_nx h)) = .ref q from congrArg Value.ref (q_ur_s _ _ _)] at h9
  exact h9
theorem k_o_newarrZ {i : Int32} (hok : q_okB M = true) (he : q_nth M.2.2.2.2.1 pos = some (pc, .newarray .boolean, ln, a1, a2, w1, w2)) (hi : i = nI L) (hL : L < 65536) (hk : k + 1 ≤ mc) (hn : n + L ≤ ms)
    (hJ : q_K g M xt d mc ms h0 mv Q (k + 1) (n + L) (pos + 1, ls, .ref (q_nx h) :: r, q_new h (1, 2, L))) : q_K g M xt d mc ms h0 mv Q k n (pos, ls, .int i :: r, h) := by
  obtain rfl : ln = 2 := (q_atB hok he).2.2.1 (Nat.succ_ne_zero _)
  intro p e s m args below meth cd D cA ρ0 ρ A H locs rls en hen hB hS
  cases he.symm.trans hen
  obtain ⟨hd, hnx, -, ho2⟩ := q_atB hok he
  obtain ⟨en', he', hpc⟩ := hnx rfl
  obtain ⟨hx, hb, hr, hml, hts, hown, hlk, hnm, hxt⟩ := id hB
  obtain ⟨hK, hW, hVS, hX, hC, hst, hls, hlh, hag, hag2, hA, hnx0⟩ := id hS
  obtain ⟨ws, f1, f2, hP, hD⟩ := id hW
  subst hi
  refine va_newa (ty := .boolean) (a0 := (L, .inl (fun _ => 0))) hx hb (hts _ q_arrZ) rfl hK hP hD hVS hA (fun _ => rfl) (nI_pos (by omega)) (nI_clamp (by omega)) (by show L * 1 ≤ _; omega) hk hn hd (fun q c9 H1 hK1 hP1 hD1 hS1 => ?_)
  have hc9 : c9 = cA 2 := by
    have g1 := (hK1.2 9 (c9, .boolean) rfl).2
    have g2 := (hK.2 2 (cA 2, .boolean) rfl).2
    exact Option.some.inj (g1.symm.trans g2)
  subst hc9
  have h9 := hJ p e s m args below meth cd D cA ρ0 (q_ur ρ (q_nx h) q) A H1 locs rls en' he' hB (q_Sit_new (r := r) hS f1 f2 (by show _ = Sum.inl _; rw [show q_I (q_new h (1, 2, L)) (q_nx h) = (fun _ => 0) from q_ur_s _ _ _]) hP1 hD1 hS1 (q_tl hst))
  rw [hpc, List.map_cons, q_map_new (q_tl hst)] at h9
  rw [show q_vz (q_ur ρ (q_nx h) q) (.ref (q_nx h)) = .ref q from congrArg Value.ref (q_ur_s _ _ _)] at h9
  exact h9
theorem k_o_newqStep {i : Int32} (hok : q_okB M = true) (he : q_nth M.2.2.2.2.1 pos = some (pc, .anewarray idx, ln, a1, a2, w1, w2)) (hw : q_gw w1 w2 = some (.classLink M.1.cls idx "HayBarn$Step")) (hi : i = nI L) (hL : L < 65536) (hk : k + 1 ≤ mc) (hn : n + L ≤ ms)
    (hJ : q_K g M xt d mc ms h0 mv Q (k + 1) (n + L) (pos + 1, ls, .ref (q_nx h) :: r, q_new h (3, 4, L))) : q_K g M xt d mc ms h0 mv Q k n (pos, ls, .int i :: r, h) := by
  obtain rfl : ln = 3 := (q_atB hok he).2.2.1 (Nat.succ_ne_zero _)
  intro p e s m args below meth cd D cA ρ0 ρ A H locs rls en hen hB hS
  cases he.symm.trans hen
  obtain ⟨hd, hnx, -, ho2⟩ := q_atB hok he
  obtain ⟨en', he', hpc⟩ := hnx rfl
  obtain ⟨hx, hb, hr, hml, hts, hown, hlk, hnm, hxt⟩ := id hB
  obtain ⟨hK, hW, hVS, hX, hC, hst, hls, hlh, hag, hag2, hA, hnx0⟩ := id hS
  obtain ⟨ws, f1, f2, hP, hD⟩ := id hW
  subst hi
  have hX9 := id hX
  obtain ⟨-, -, -, -, -, -, -, -, -, -, -, -, -, -, -, -, ⟨hO1, hO3, hO4, hO5⟩, hO2, -⟩ := hX9
  refine va_newq (C := "HayBarn$Step") hx hb hown (hts _ (q_gw_in hw rfl)) hO1 hK hP hD hVS hA (nI_pos (by omega)) (nI_clamp (by omega)) (by omega) hk hn hd (fun q c9 H1 hK1 hP1 hD1 hS1 => ?_)
  have hc9 : c9 = cA 4 := by
    have g1 := (hK1.2 9 (c9, .object "HayBarn$Step") rfl).2
    have g2 := (hK.2 4 (cA 4, .object "HayBarn$Step") rfl).2
    obtain ⟨_, _, _, _, _, g3⟩ := g1
    obtain ⟨_, _, _, _, _, g4⟩ := g2
    exact Option.some.inj (g3.symm.trans g4)
  subst hc9
  have h9 := hJ p e s m args below meth cd D cA ρ0 (q_ur ρ (q_nx h) q) A H1 locs rls en' he' hB (q_Sit_new (r := r) hS f1 f2 (by show _ = Sum.inl _; simp only [show q_R (q_new h (3, 4, L)) (q_nx h) = (fun _ => none) from q_ur_s _ _ _]; rfl) hP1 hD1 hS1 (q_tl hst))
  rw [hpc, List.map_cons, q_map_new (q_tl hst)] at h9
  rw [show q_vz (q_ur ρ (q_nx h) q) (.ref (q_nx h)) = .ref q from congrArg Value.ref (q_ur_s _ _ _)] at h9
  exact h9
theorem k_o_newqSign {i : Int32} (hok : q_okB M = true) (he : q_nth M.2.2.2.2.1 pos = some (pc, .anewarray idx, ln, a1, a2, w1, w2)) (hw : q_gw w1 w2 = some (.classLink M.1.cls idx "HayBarn$Sign")) (hi : i = nI L) (hL : L < 65536) (hk : k + 1 ≤ mc) (hn : n + L ≤ ms)
    (hJ : q_K g M xt d mc ms h0 mv Q (k + 1) (n + L) (pos + 1, ls, .ref (q_nx h) :: r, q_new h (4, 5, L))) : q_K g M xt d mc ms h0 mv Q k n (pos, ls, .int i :: r, h) := by
  obtain rfl : ln = 3 := (q_atB hok he).2.2.1 (Nat.succ_ne_zero _)
  intro p e s m args below meth cd D cA ρ0 ρ A H locs rls en hen hB hS
  cases he.symm.trans hen
  obtain ⟨hd, hnx, -, ho2⟩ := q_atB hok he
  obtain ⟨en', he', hpc⟩ := hnx rfl
  obtain ⟨hx, hb, hr, hml, hts, hown, hlk, hnm, hxt⟩ := id hB
  obtain ⟨hK, hW, hVS, hX, hC, hst, hls, hlh, hag, hag2, hA, hnx0⟩ := id hS
  obtain ⟨ws, f1, f2, hP, hD⟩ := id hW
  subst hi
  have hX9 := id hX
  obtain ⟨-, -, -, -, -, -, -, -, -, -, -, -, -, -, -, -, ⟨hO1, hO3, hO4, hO5⟩, hO2, -⟩ := hX9
  refine va_newq (C := "HayBarn$Sign") hx hb hown (hts _ (q_gw_in hw rfl)) hO2 hK hP hD hVS hA (nI_pos (by omega)) (nI_clamp (by omega)) (by omega) hk hn hd (fun q c9 H1 hK1 hP1 hD1 hS1 => ?_)
  have hc9 : c9 = cA 5 := by
    have g1 := (hK1.2 9 (c9, .object "HayBarn$Sign") rfl).2
    have g2 := (hK.2 5 (cA 5, .object "HayBarn$Sign") rfl).2
    obtain ⟨_, _, _, _, _, g3⟩ := g1
    obtain ⟨_, _, _, _, _, g4⟩ := g2
    exact Option.some.inj (g3.symm.trans g4)
  subst hc9
  have h9 := hJ p e s m args below meth cd D cA ρ0 (q_ur ρ (q_nx h) q) A H1 locs rls en' he' hB (q_Sit_new (r := r) hS f1 f2 (by show _ = Sum.inl _; simp only [show q_E (q_new h (4, 5, L)) (q_nx h) = (fun _ => none) from q_ur_s _ _ _]; rfl) hP1 hD1 hS1 (q_tl hst))
  rw [hpc, List.map_cons, q_map_new (q_tl hst)] at h9
  rw [show q_vz (q_ur ρ (q_nx h) q) (.ref (q_nx h)) = .ref q from congrArg Value.ref (q_ur_s _ _ _)] at h9
  exact h9
theorem k_o_new {C : String} {T : u_T} {N : Nat} (hok : q_okB M = true) (he : q_nth M.2.2.2.2.1 pos = some (pc, .new idx, ln, a1, a2, w1, w2)) (hw : q_gw w1 w2 = some (.classLink M.1.cls idx C)) (hc : vwCl[ci]? = some (C, T, N)) (hi1 : Jvm.Cond.instantiable C N ∈ q_tb) (hi2 : Jvm.Cond.initialized C ∈ q_tb) (hk : k + 1 ≤ mc) (hn : n + N ≤ ms)
    (hJ : q_K g M xt d mc ms h0 mv Q (k + 1) (n + N) (pos + 1, ls, .ref (q_nx h) :: r, q_new h (0, ci, 0))) : q_K g M xt d mc ms h0 mv Q k n (pos, ls, r, h) := by
  obtain rfl : ln = 3 := (q_atB hok he).2.2.1 (Nat.succ_ne_zero _)
  intro p e s m args below meth cd D cA ρ0 ρ A H locs rls en hen hB hS
  cases he.symm.trans hen
  obtain ⟨hd, hnx, -, ho2⟩ := q_atB hok he
  obtain ⟨en', he', hpc⟩ := hnx rfl
  obtain ⟨hx, hb, hr, hml, hts, hown, hlk, hnm, hxt⟩ := id hB
  obtain ⟨hK, hW, hVS, hX, hC, hst, hls, hlh, hag, hag2, hA, hnx0⟩ := id hS
  obtain ⟨ws, f1, f2, hP, hD⟩ := id hW
  have hnf : q_nf ci = N := by unfold q_nf; rw [q_nth_eq, hc]
  have hci := q_cl_lt hc
  have hcr : q_cr cA (q_ur ρ (q_nx h) 0) (q_new h (0, ci, 0)) (q_nx h) (.inr (ci, (List.range N).map (fun j => match q_kd ci 0 j with | 0 => Value.int 0 | 3 => Value.int 0 | 4 => Value.int 0 | _ => .null))) (0, ci, 0) → True := fun _ => trivial
  refine va_new (fs := (List.range N).map (fun j => match q_kd ci 0 j with | 0 => Value.int 0 | 3 => Value.int 0 | 4 => Value.int 0 | _ => .null)) hx hb hts (q_cls_in ci _ hc) (q_fty ci) (q_fty_ok hc) hown (hts _ (q_gw_in hw rfl)) (hts _ hi1) (hts _ hi2) hK hP hD hVS hA hc (fun j hj => ?_) hk hn hd (fun q H1 hP1 hD1 hS1 => ?_)
  · have hty := q_kd_ty (v := 0) hc hj (by decide)
    have hty3 := q_kd_ty3 (v := 0) hc hj (by decide)
    have hle := q_kd_le hci (by rw [hnf]; exact hj)
    unfold vp_V
    rw [List.getD_eq_getElem?_getD, List.getElem?_map, List.getElem?_range hj]
    match hq : q_kd ci 0 j, hle with
    | 0, _ => rw [hty.1 hq]; simp [hq]; rfl
    | 1, _ =>
      rcases hty.2 (Or.inl hq) with ⟨t, ht⟩ | ⟨t, ht⟩ <;> (rw [ht]; simp [hq]; rfl)
    | 2, _ =>
      rcases hty.2 (Or.inr hq) with ⟨t, ht⟩ | ⟨t, ht⟩ <;> (rw [ht]; simp [hq]; rfl)
    | 3, _ => rw [hty3.1 hq]; simp [hq]; rfl
    | 4, _ => rw [hty3.2 hq]; simp [hq]; rfl
  · have h9 := hJ p e s m args below meth cd D cA ρ0 (q_ur ρ (q_nx h) q) A H1 locs rls en' he' hB (q_Sit_new (r := r) hS f1 f2 (by
      refine ⟨_, rfl, by simp [hnf], fun j hj hkj => ?_⟩
      rw [hnf] at hj
      rw [List.getElem?_map, List.getElem?_range hj]
      have hle := q_kd_le hci (by rw [hnf]; exact hj)
      unfold q_fv
      rw [show q_I (q_new h (0, ci, 0)) (q_nx h) = (fun _ => 0) from q_ur_s _ _ _, show q_R (q_new h (0, ci, 0)) (q_nx h) = (fun _ => none) from q_ur_s _ _ _, show q_E (q_new h (0, ci, 0)) (q_nx h) = (fun _ => none) from q_ur_s _ _ _]
      match hq : q_kd ci 0 j, hle with
      | 0, _ => simp [hq]
      | 1, _ => simp [hq]; rfl
      | 2, _ => simp [hq]; rfl
      | 3, _ => simp [hq]
      | 4, _ => simp [hq]) hP1 hD1 hS1 hst)
    rw [hpc, List.map_cons, q_map_new hst] at h9
    rw [show q_vz (q_ur ρ (q_nx h) q) (.ref (q_nx h)) = .ref q from congrArg Value.ref (q_ur_s _ _ _)] at h9
    exact h9
end KQNEW
section KQENDS
variable {g : q_G} {xt : List ExceptionTableEntry} {M : q_M} {d mc ms : Nat} {h0 : q_H} {mv : List Nat} {Q : (Option Value ⊕ String) → q_H → Prop} {k n pos pc ln a1 a2 w1 w2 a ci v idx L j : Nat} {ls : List (Option Value)} {r st : List Value} {h : q_H}
theorem k_o_iret {x : Int32} {ty : FieldType} (hok : q_okB M = true) (he : q_nth M.2.2.2.2.1 pos = some (pc, .ireturn, ln, a1, a2, w1, w2)) (hty : M.2.2.2.1 = some ty) (hnr : narrow ty (.int x) = .int x) (hk : k ≤ mc) (hn : n ≤ ms) (hQ : Q (.inl (some (.int x))) h) : q_K g M xt d mc ms h0 mv Q k n (pos, ls, [(.int x)], h) := by
  intro p e s m args below meth cd D cA ρ0 ρ A H locs rls en hen hB hS
  cases he.symm.trans hen
  obtain ⟨hd, -, hln, -⟩ := q_atB hok he
  obtain rfl := hln (Nat.succ_ne_zero _)
  obtain ⟨hx, hb, hr, hml, hts, hown, hlk, hnm, hxt⟩ := id hB
  obtain ⟨hK, hW, hVS, hX, hC, hst, hls, hlh, hag, hag2, hA, hnx0⟩ := id hS
  refine W.widen hk hn (vx_ret ?_)
  exact W.zret hx hb (hr.trans hty) hnr (fun t ht hW9 => ⟨(some (.int x)), h, ρ, rfl, hQ, (fun z hz => by cases hz; exact q_vcl_i), hag, hag2, by rw [ht]; exact hW, va_K.moved hW9.alike hK, hC, hnx0.1, hnx0.2, q_F hVS ht⟩) hVS.2.2 hd hlk
theorem k_o_lret {x : Int64} (hok : q_okB M = true) (he : q_nth M.2.2.2.2.1 pos = some (pc, .lreturn, ln, a1, a2, w1, w2)) (hty : M.2.2.2.1 = some .long) (hk : k ≤ mc) (hn : n ≤ ms) (hQ : Q (.inl (some (.long x))) h) : q_K g M xt d mc ms h0 mv Q k n (pos, ls, [(.long x)], h) := by
  intro p e s m args below meth cd D cA ρ0 ρ A H locs rls en hen hB hS
  cases he.symm.trans hen
  obtain ⟨hd, -, hln, -⟩ := q_atB hok he
  obtain rfl := hln (Nat.succ_ne_zero _)
  obtain ⟨hx, hb, hr, hml, hts, hown, hlk, hnm, hxt⟩ := id hB
  obtain ⟨hK, hW, hVS, hX, hC, hst, hls, hlh, hag, hag2, hA, hnx0⟩ := id hS
  refine W.widen hk hn (vx_ret ?_)
  exact W.lret hx hb (hr.trans hty) (fun t ht hW9 => ⟨(some (.long x)), h, ρ, rfl, hQ, (fun z hz => by cases hz; exact q_vcl_l), hag, hag2, by rw [ht]; exact hW, va_K.moved hW9.alike hK, hC, hnx0.1, hnx0.2, q_F hVS ht⟩) hVS.2.2 hd hlk
theorem k_o_dret {x : UInt64} (hok : q_okB M = true) (he : q_nth M.2.2.2.2.1 pos = some (pc, .dreturn, ln, a1, a2, w1, w2)) (hty : M.2.2.2.1 = some .double) (hk : k ≤ mc) (hn : n ≤ ms) (hQ : Q (.inl (some (.double x))) h) : q_K g M xt d mc ms h0 mv Q k n (pos, ls, [(.double x)], h) := by
  intro p e s m args below meth cd D cA ρ0 ρ A H locs rls en hen hB hS
  cases he.symm.trans hen
  obtain ⟨hd, -, hln, -⟩ := q_atB hok he
  obtain rfl := hln (Nat.succ_ne_zero _)
  obtain ⟨hx, hb, hr, hml, hts, hown, hlk, hnm, hxt⟩ := id hB
  obtain ⟨hK, hW, hVS, hX, hC, hst, hls, hlh, hag, hag2, hA, hnx0⟩ := id hS
  refine W.widen hk hn (vx_ret ?_)
  exact W.dret hx hb (hr.trans hty) (fun t ht hW9 => ⟨(some (.double x)), h, ρ, rfl, hQ, (fun z hz => by cases hz; exact q_vcl_d), hag, hag2, by rw [ht]; exact hW, va_K.moved hW9.alike hK, hC, hnx0.1, hnx0.2, q_F hVS ht⟩) hVS.2.2 hd hlk
theorem k_o_vret  (hok : q_okB M = true) (he : q_nth M.2.2.2.2.1 pos = some (pc, .return_, ln, a1, a2, w1, w2)) (hty : M.2.2.2.1 = none) (hk : k ≤ mc) (hn : n ≤ ms) (hQ : Q (.inl none) h) : q_K g M xt d mc ms h0 mv Q k n (pos, ls, [], h) := by
  intro p e s m args below meth cd D cA ρ0 ρ A H locs rls en hen hB hS
  cases he.symm.trans hen
  obtain ⟨hd, -, hln, -⟩ := q_atB hok he
  obtain rfl := hln (Nat.succ_ne_zero _)
  obtain ⟨hx, hb, hr, hml, hts, hown, hlk, hnm, hxt⟩ := id hB
  obtain ⟨hK, hW, hVS, hX, hC, hst, hls, hlh, hag, hag2, hA, hnx0⟩ := id hS
  refine W.widen hk hn (vx_ret ?_)
  exact W.vret hx hb (hr.trans hty) (fun t ht hW9 => ⟨none, h, ρ, rfl, hQ, (fun z hz => by cases hz), hag, hag2, by rw [ht]; exact hW, va_K.moved hW9.alike hK, hC, hnx0.1, hnx0.2, q_F hVS ht⟩) hVS.2.2 hd hlk
theorem k_o_aret {b : Nat} {C : String} (hok : q_okB M = true) (he : q_nth M.2.2.2.2.1 pos = some (pc, .areturn, ln, a1, a2, w1, w2)) (hty : M.2.2.2.1 = some (.object C)) (hk : k ≤ mc) (hn : n ≤ ms) (hQ : Q (.inl (some (.ref b))) h) : q_K g M xt d mc ms h0 mv Q k n (pos, ls, [(.ref b)], h) := by
  intro p e s m args below meth cd D cA ρ0 ρ A H locs rls en hen hB hS
  cases he.symm.trans hen
  obtain ⟨hd, -, hln, -⟩ := q_atB hok he
  obtain rfl := hln (Nat.succ_ne_zero _)
  obtain ⟨hx, hb, hr, hml, hts, hown, hlk, hnm, hxt⟩ := id hB
  obtain ⟨hK, hW, hVS, hX, hC, hst, hls, hlh, hag, hag2, hA, hnx0⟩ := id hS
  refine W.widen hk hn (vx_ret ?_)
  exact W.aret hx hb (hr.trans hty) (Or.inl ⟨_, rfl⟩) (Or.inr ⟨_, rfl⟩) (fun t ht hW9 => ⟨(some (.ref b)), h, ρ, rfl, hQ, (fun z hz => by cases hz; exact q_hd hst), hag, hag2, by rw [ht]; exact hW, va_K.moved hW9.alike hK, hC, hnx0.1, hnx0.2, q_F hVS ht⟩) hVS.2.2 hd hlk
theorem k_o_aretN {C : String} (hok : q_okB M = true) (he : q_nth M.2.2.2.2.1 pos = some (pc, .areturn, ln, a1, a2, w1, w2)) (hty : M.2.2.2.1 = some (.object C)) (hk : k ≤ mc) (hn : n ≤ ms) (hQ : Q (.inl (some .null)) h) : q_K g M xt d mc ms h0 mv Q k n (pos, ls, [.null], h) := by
  intro p e s m args below meth cd D cA ρ0 ρ A H locs rls en hen hB hS
  cases he.symm.trans hen
  obtain ⟨hd, -, hln, -⟩ := q_atB hok he
  obtain rfl := hln (Nat.succ_ne_zero _)
  obtain ⟨hx, hb, hr, hml, hts, hown, hlk, hnm, hxt⟩ := id hB
  obtain ⟨hK, hW, hVS, hX, hC, hst, hls, hlh, hag, hag2, hA, hnx0⟩ := id hS
  refine W.widen hk hn (vx_ret ?_)
  exact W.aret hx hb (hr.trans hty) (Or.inl ⟨_, rfl⟩) (Or.inl rfl) (fun t ht hW9 => ⟨(some .null), h, ρ, rfl, hQ, (fun z hz => by cases hz; exact q_vcl_n), hag, hag2, by rw [ht]; exact hW, va_K.moved hW9.alike hK, hC, hnx0.1, hnx0.2, q_F hVS ht⟩) hVS.2.2 hd hlk
end KQENDS
section KQMORE
variable {g : q_G} {xt : List ExceptionTableEntry} {M : q_M} {d mc ms : Nat} {h0 : q_H} {mv : List Nat} {Q : (Option Value ⊕ String) → q_H → Prop} {k n pos pc ln a1 a2 w1 w2 a ci v idx L j : Nat} {ls : List (Option Value)} {r st rest : List Value} {h : q_H}
theorem k_o_acmp_eq {off : Int} {x y : Nat} (hok : q_okB M = true) (he : q_nth M.2.2.2.2.1 pos = some (pc, .if_acmp .eq off, ln, a1, a2, w1, w2)) (hx4 : x < 49) (hy4 : y < 49)
    (hT : x = y → q_K g M xt d mc ms h0 mv Q k n (a1, ls, r, h)) (hF : ¬ x = y → q_K g M xt d mc ms h0 mv Q k n (pos + 1, ls, r, h)) : q_K g M xt d mc ms h0 mv Q k n (pos, ls, .ref y :: .ref x :: r, h) := by
  obtain rfl : ln = 3 := (q_atB hok he).2.2.1 (Nat.succ_ne_zero _)
  intro p e s m args below meth cd D cA ρ0 ρ A H locs rls en hen hB hS
  cases he.symm.trans hen
  obtain ⟨hd, hnx, -, ho2⟩ := q_atB hok he
  obtain ⟨en', he', hpc⟩ := hnx rfl
  obtain ⟨hx, hb, hr, hml, hts, hown, hlk, hnm, hxt⟩ := id hB
  obtain ⟨hK, hW, hVS, hX, hC, hst, hls, hlh, hag, hag2, hA, hnx0⟩ := id hS
  have ho2 : q_tgt M.2.2.2.2.1 pc a1 off = true := ho2
  unfold q_tgt at ho2
  cases hq : q_nth M.2.2.2.2.1 a1 with
  | none => rw [hq] at ho2; cases ho2
  | some et =>
  rw [hq] at ho2
  have htg : (pc : Int) + off = (et.1 : Int) := by simpa using ho2
  refine lv_acmp_eq (rx := some (ρ x)) (ry := some (ρ y)) hx hb hd htg (fun hz => ?_) (fun hz => ?_)
  · exact hT (q_inj hX hag2 hx4 hy4 (Option.some.inj hz)) p e s m args below meth cd D cA ρ0 ρ A H locs rls et hq hB ⟨hK, hW, hVS, hX, hC, q_tl (q_tl hst), hls, hlh, hag, hag2, hA, hnx0⟩
  · have h9 := hF (fun hz2 => hz (by rw [hz2])) p e s m args below meth cd D cA ρ0 ρ A H locs rls en' he' hB ⟨hK, hW, hVS, hX, hC, q_tl (q_tl hst), hls, hlh, hag, hag2, hA, hnx0⟩
    rw [hpc] at h9
    exact h9
theorem k_o_acmp_ne {off : Int} {x y : Nat} (hok : q_okB M = true) (he : q_nth M.2.2.2.2.1 pos = some (pc, .if_acmp .ne off, ln, a1, a2, w1, w2)) (hx4 : x < 49) (hy4 : y < 49)
    (hT : ¬ x = y → q_K g M xt d mc ms h0 mv Q k n (a1, ls, r, h)) (hF : x = y → q_K g M xt d mc ms h0 mv Q k n (pos + 1, ls, r, h)) : q_K g M xt d mc ms h0 mv Q k n (pos, ls, .ref y :: .ref x :: r, h) := by
  obtain rfl : ln = 3 := (q_atB hok he).2.2.1 (Nat.succ_ne_zero _)
  intro p e s m args below meth cd D cA ρ0 ρ A H locs rls en hen hB hS
  cases he.symm.trans hen
  obtain ⟨hd, hnx, -, ho2⟩ := q_atB hok he
  obtain ⟨en', he', hpc⟩ := hnx rfl
  obtain ⟨hx, hb, hr, hml, hts, hown, hlk, hnm, hxt⟩ := id hB
  obtain ⟨hK, hW, hVS, hX, hC, hst, hls, hlh, hag, hag2, hA, hnx0⟩ := id hS
  have ho2 : q_tgt M.2.2.2.2.1 pc a1 off = true := ho2
  unfold q_tgt at ho2
  cases hq : q_nth M.2.2.2.2.1 a1 with
  | none => rw [hq] at ho2; cases ho2
  | some et =>
  rw [hq] at ho2
  have htg : (pc : Int) + off = (et.1 : Int) := by simpa using ho2
  refine lv_acmp_ne (rx := some (ρ x)) (ry := some (ρ y)) hx hb hd htg (fun hz => ?_) (fun hz => ?_)
  · exact hT (fun hz2 => hz (by rw [hz2])) p e s m args below meth cd D cA ρ0 ρ A H locs rls et hq hB ⟨hK, hW, hVS, hX, hC, q_tl (q_tl hst), hls, hlh, hag, hag2, hA, hnx0⟩
  · have h9 := hF (q_inj hX hag2 hx4 hy4 (Option.some.inj hz)) p e s m args below meth cd D cA ρ0 ρ A H locs rls en' he' hB ⟨hK, hW, hVS, hX, hC, q_tl (q_tl hst), hls, hlh, hag, hag2, hA, hnx0⟩
    rw [hpc] at h9
    exact h9
theorem k_o_sw {dflt lo hi : Int} {offs : Array Int} {x : Int32} {dp : Nat} (tg : List Nat) (hok : q_okB M = true) (he : q_nth M.2.2.2.2.1 pos = some (pc, .tableswitch dflt lo hi offs, ln, a1, a2, w1, w2)) (hc : q_swok M.2.2.2.2.1 pc dflt lo hi offs dp tg = true)
    (hin : ∀ i t, q_nth tg i = some t → x.toInt = lo + (i : Int) → q_K g M xt d mc ms h0 mv Q k n (t, ls, r, h)) (hout : x.toInt < lo ∨ hi < x.toInt → q_K g M xt d mc ms h0 mv Q k n (dp, ls, r, h)) : q_K g M xt d mc ms h0 mv Q k n (pos, ls, .int x :: r, h) := by
  intro p e s m args below meth cd D cA ρ0 ρ A H locs rls en hen hB hS
  cases he.symm.trans hen
  obtain ⟨hd, -, -, -⟩ := q_atB hok he
  obtain ⟨hx, hb, hr, hml, hts, hown, hlk, hnm, hxt⟩ := id hB
  obtain ⟨hK, hW, hVS, hX, hC, hst, hls, hlh, hag, hag2, hA, hnx0⟩ := id hS
  unfold q_swok at hc
  simp only [Bool.and_eq_true, decide_eq_true_eq, List.all_eq_true] at hc
  obtain ⟨c1, c2, c3, c4⟩ := hc
  have hS' : q_Sit g M.2.2.1 D cA ρ0 ρ h0 h mv A s H locs ls rls r := ⟨hK, hW, hVS, hX, hC, q_tl hst, hls, hlh, hag, hag2, hA, hnx0⟩
  by_cases h1 : x.toInt < lo ∨ hi < x.toInt
  · obtain ⟨et, hq, htg⟩ := q_tgt_of c1
    exact lv_tableOut hx hb hd h1 htg (hout h1 p e s m args below meth cd D cA ρ0 ρ A H locs rls et hq hB hS')
  · have h2 : ¬ x.toInt < lo := fun z => h1 (Or.inl z)
    have h3 : ¬ hi < x.toInt := fun z => h1 (Or.inr z)
    obtain ⟨i, hi9⟩ : ∃ i : Nat, x.toInt = lo + (i : Int) := ⟨(x.toInt - lo).toNat, by omega⟩
    have hil : i < offs.size := by omega
    have h4 := c4 i (List.mem_range.mpr hil)
    cases hq1 : q_nth tg i with
    | none => rw [hq1] at h4; cases h4
    | some t =>
    cases hq2 : offs[i]? with
    | none => rw [hq1, hq2] at h4; cases h4
    | some off =>
    rw [hq1, hq2] at h4
    obtain ⟨et, hq, htg⟩ := q_tgt_of h4
    exact lv_tableIn hx hb hd h2 h3 (by rw [show (x.toInt - lo).toNat = i by omega]; exact hq2) htg (hin i t hq1 hi9 p e s m args below meth cd D cA ρ0 ρ A H locs rls et hq hB hS')
theorem k_o_objInit (hok : q_okB M = true) (he : q_nth M.2.2.2.2.1 pos = some (pc, .invokespecial idx, ln, a1, a2, w1, w2)) (hw : q_gw w1 w2 = some (.methodLink M.1.cls idx Lib.objectInit)) (hd1 : 1 ≤ d) (hcat : (r.map fun v => v.category).sum ≤ 8)
    (hJ : q_K g M xt d mc ms h0 mv Q k n (pos + 1, ls, r, h)) : q_K g M xt d mc ms h0 mv Q k n (pos, ls, .ref a :: r, h) := by
  obtain rfl : ln = 3 := (q_atB hok he).2.2.1 (Nat.succ_ne_zero _)
  intro p e s m args below meth cd D cA ρ0 ρ A H locs rls en hen hB hS
  cases he.symm.trans hen
  obtain ⟨hd, hnx, -, ho2⟩ := q_atB hok he
  obtain ⟨en', he', hpc⟩ := hnx rfl
  obtain ⟨hx, hb, hr, hml, hts, hown, hlk, hnm, hxt⟩ := id hB
  obtain ⟨hK, hW, hVS, hX, hC, hst, hls, hlh, hag, hag2, hA, hnx0⟩ := id hS
  have h9 := hJ p e s m args below meth cd D cA ρ0 ρ A H locs rls en' he' hB ⟨hK, hW, hVS, hX, hC, q_tl hst, hls, hlh, hag, hag2, hA, hnx0⟩
  rw [hpc] at h9
  refine W.objInit hx hb hown (hts _ (q_gw_in hw rfl)) (hts _ q_objI) (hts _ q_objC) (g := F0 m pc rls (q_vz ρ (.ref a) :: r.map (q_vz ρ))) rfl (by show rls.size = _; rw [hlh.1, hml]) rfl hd hd1 ?_ h9
  have := q_cat8 (ρ := ρ) hcat
  show 2 * 0 + ((r.map (q_vz ρ)).map fun v => v.category).sum + 12 ≤ q_lc d
  have h64 := q_lc64 hd1
  omega
theorem k_o_mmax {x y : Int32} (hok : q_okB M = true) (he : q_nth M.2.2.2.2.1 pos = some (pc, .invokestatic idx, ln, a1, a2, w1, w2)) (hw : q_gw w1 w2 = some (.methodLink M.1.cls idx Lib.Math.max.name)) (hd1 : 1 ≤ d) (hcat : (r.map fun v => v.category).sum ≤ 8) (hk : k ≤ mc) (hn : n ≤ ms)
    (hJ : q_K g M xt d mc ms h0 mv Q k n (pos + 1, ls, .int (q_max x y) :: r, h)) : q_K g M xt d mc ms h0 mv Q k n (pos, ls, .int y :: .int x :: r, h) := by
  obtain rfl : ln = 3 := (q_atB hok he).2.2.1 (Nat.succ_ne_zero _)
  intro p e s m args below meth cd D cA ρ0 ρ A H locs rls en hen hB hS
  cases he.symm.trans hen
  obtain ⟨hd, hnx, -, ho2⟩ := q_atB hok he
  obtain ⟨en', he', hpc⟩ := hnx rfl
  obtain ⟨hx, hb, hr, hml, hts, hown, hlk, hnm, hxt⟩ := id hB
  obtain ⟨hK, hW, hVS, hX, hC, hst, hls, hlh, hag, hag2, hA, hnx0⟩ := id hS
  have h9 := hJ p e s m args below meth cd D cA ρ0 ρ A H locs rls en' he' hB ⟨hK, hW, hVS, hX, hC, q_cl1 q_vcl_i (q_tl (q_tl hst)), hls, hlh, hag, hag2, hA, hnx0⟩
  rw [hpc] at h9
  have := q_cat8 (ρ := ρ) hcat
  exact va_mmax hx hb (hml.trans hlh.1.symm) hown (hts _ (q_gw_in hw rfl)) (hts _ q_mmaxS) (hts _ q_mIni) (hts _ q_mmaxC) hd1 (by show _ ≤ q_lc d; have h64 := q_lc64 hd1; omega) hk hn hd h9
theorem k_o_mmin {x y : Int32} (hok : q_okB M = true) (he : q_nth M.2.2.2.2.1 pos = some (pc, .invokestatic idx, ln, a1, a2, w1, w2)) (hw : q_gw w1 w2 = some (.methodLink M.1.cls idx Lib.Math.min.name)) (hd1 : 1 ≤ d) (hcat : (r.map fun v => v.category).sum ≤ 8) (hk : k ≤ mc) (hn : n ≤ ms)
    (hJ : q_K g M xt d mc ms h0 mv Q k n (pos + 1, ls, .int (q_min x y) :: r, h)) : q_K g M xt d mc ms h0 mv Q k n (pos, ls, .int y :: .int x :: r, h) := by
  obtain rfl : ln = 3 := (q_atB hok he).2.2.1 (Nat.succ_ne_zero _)
  intro p e s m args below meth cd D cA ρ0 ρ A H locs rls en hen hB hS
  cases he.symm.trans hen
  obtain ⟨hd, hnx, -, ho2⟩ := q_atB hok he
  obtain ⟨en', he', hpc⟩ := hnx rfl
  obtain ⟨hx, hb, hr, hml, hts, hown, hlk, hnm, hxt⟩ := id hB
  obtain ⟨hK, hW, hVS, hX, hC, hst, hls, hlh, hag, hag2, hA, hnx0⟩ := id hS
  have h9 := hJ p e s m args below meth cd D cA ρ0 ρ A H locs rls en' he' hB ⟨hK, hW, hVS, hX, hC, q_cl1 q_vcl_i (q_tl (q_tl hst)), hls, hlh, hag, hag2, hA, hnx0⟩
  rw [hpc] at h9
  have := q_cat8 (ρ := ρ) hcat
  exact va_mmin hx hb (hml.trans hlh.1.symm) hown (hts _ (q_gw_in hw rfl)) (hts _ q_mminS) (hts _ q_mIni) (hts _ q_mminC) hd1 (by show _ ≤ q_lc d; have h64 := q_lc64 hd1; omega) hk hn hd h9
theorem k_o_copy {b L2 c : Nat} {nn : Int32} (hok : q_okB M = true) (he : q_nth M.2.2.2.2.1 pos = some (pc, .invokestatic idx, ln, a1, a2, w1, w2)) (hw : q_gw w1 w2 = some (.methodLink M.1.cls idx arraycopyName)) (hd1 : 1 ≤ d) (hcat : (r.map fun v => v.category).sum ≤ 8)
    (ha : 400 ≤ a) (hsh : q_sh h a = (1, 0, L)) (hb4 : 400 ≤ b) (hsb : q_sh h b = (1, 0, L2)) (hnn : nn = nI c) (hc1 : c ≤ L) (hc2 : c ≤ L2) (hc3 : c < 2147483648)
    (hJ : q_K g M xt d mc ms h0 mv Q k n (pos + 1, ls, r, (q_nx h, q_sh h, q_ur (q_I h) b (q_cp (q_I h a) (q_I h b) c), q_R h, q_E h, q_L h))) : q_K g M xt d mc ms h0 mv Q k n (pos, ls, .int nn :: .int 0 :: .ref b :: .int 0 :: .ref a :: r, h) := by
  obtain rfl : ln = 3 := (q_atB hok he).2.2.1 (Nat.succ_ne_zero _)
  intro p e s m args below meth cd D cA ρ0 ρ A H locs rls en hen hB hS
  cases he.symm.trans hen
  obtain ⟨hd, hnx, -, ho2⟩ := q_atB hok he
  obtain ⟨en', he', hpc⟩ := hnx rfl
  obtain ⟨hx, hb, hr, hml, hts, hown, hlk, hnm, hxt⟩ := id hB
  obtain ⟨hK, hW, hVS, hX, hC, hst, hls, hlh, hag, hag2, hA, hnx0⟩ := id hS
  have ha2 : a < q_nx h := q_lt hC hsh (by decide)
  have hb2 : b < q_nx h := q_lt hC hsb (by decide)
  obtain ⟨ws, e9, f1, f2, hP, hD, hat, hcr⟩ := q_Wd_at hW ha ha2
  obtain ⟨ws2, e8, g1, g2, hP2, hD2, hat2, hcr2⟩ := q_Wd_at hW hb4 hb2
  obtain ⟨ws, f1, f2, hP, hD⟩ := hW
  have f1 : ws.length + 400 = q_nx h := f1
  have look : ∀ z, 400 ≤ z → z < q_nx h → ∃ e, ws[z - 400]? = some (ρ z, e) ∧ q_cr cA ρ h z e (q_sh h z) := by
    intro z z1 z2
    have hk9 : z - 400 < ws.length := by omega
    have he9 : ws[z - 400]? = some ws[z - 400] := List.getElem?_eq_getElem hk9
    obtain ⟨y1, y2⟩ := f2 _ _ he9
    rw [show 400 + (z - 400) = z by omega] at y1 y2
    exact ⟨ws[z - 400].2, by rw [he9, ← y1], y2⟩
  obtain ⟨ea, hea, hca⟩ := look a ha ha2
  obtain ⟨eb, heb, hcb⟩ := look b hb4 hb2
  rw [hsh] at hca
  rw [hsb] at hcb
  have hca : ea = _ := hca
  have hcb : eb = _ := hcb
  rw [hca] at hea
  rw [hcb] at heb
  subst hnn
  have := q_cat8 (ρ := ρ) hcat
  refine va_copyi hx hb (hml.trans hlh.1.symm) hown (hts _ (q_gw_in hw rfl)) (hts _ q_acN) (hts _ q_acS) (hts _ q_acI) hK hP hD hVS (a - 400) (b - 400) 0 0 hea heb rfl rfl rfl (by decide) (by decide) (nI_pos (by omega)) ?_ ?_ (fun _ _ => rfl) hd1 ?_ hd (fun H1 locs1 hP1 hD1 hS1 => ?_)
  · rw [nI_clamp (by omega)]; show 0 + c ≤ L; omega
  · rw [nI_clamp (by omega)]; show 0 + c ≤ L2; omega
  · show ((r.map (q_vz ρ)).map fun v => v.category).sum + (nativeFrameWords "java/lang/System" "arraycopy" 5 + 11) ≤ q_lc d
    have h64 := q_lc64 hd1
    have h7 : nativeFrameWords "java/lang/System" "arraycopy" 5 ≤ 40 := by decide +kernel
    omega
  rw [nI_clamp (by omega)] at hP1 hD1
  have hfun : va_cpy (q_I h a) (q_I h b) (Int32.toNatClampNeg 0) (Int32.toNatClampNeg 0) c = q_cp (q_I h a) (q_I h b) c := by
    funext j
    show (if 0 ≤ j ∧ j < 0 + c then q_I h a (0 + (j - 0)) else q_I h b j) = _
    by_cases hj : j < c
    · rw [if_pos ⟨Nat.zero_le _, by omega⟩, q_cp_lt hj]; simp
    · rw [if_neg (by omega), q_cp_ge (by omega)]
  rw [hfun] at hP1 hD1
  have hW1 : q_Wd D cA ρ (q_nx h, q_sh h, q_ur (q_I h) b (q_cp (q_I h a) (q_I h b) c), q_R h, q_E h, q_L h) A H1 := by
    refine q_Wd_set f1 f2 hb4 hb2 rfl rfl (fun z hz => ⟨q_ur_n _ _ _ hz, rfl, rfl, rfl⟩) ?_ hP1 hD1
    show q_cr cA ρ _ b _ (q_sh h b)
    rw [hsb]
    show (Sum.inl (cA 0, L2, Sum.inl (q_cp (q_I h a) (q_I h b) c)) : va_E) = Sum.inl (cA 0, L2, Sum.inl (q_ur (q_I h) b (q_cp (q_I h a) (q_I h b) c) b))
    rw [q_ur_s]
  have h9 := hJ p e s m args below meth cd D cA ρ0 ρ A H1 locs1 rls en' he' hB ⟨hK, hW1, hS1, hX, hC, q_tl (q_tl (q_tl (q_tl (q_tl hst)))), hls, hlh, hag, hag2, hA, hnx0⟩
  rw [hpc] at h9
  exact h9
end KQMORE
section KQSTEP
variable {g : q_G} {xt : List ExceptionTableEntry} {M : q_M} {d mc ms : Nat} {h0 : q_H} {mv : List Nat} {Q : (Option Value ⊕ String) → q_H → Prop} {k n : Nat}
theorem k_step_J {e : q_En} {c c' : q_C} (hok : q_okB M = true) (he : q_nth M.2.2.2.2.1 c.1 = some e) (hs : q_step e c = some c') (hJ : q_K g M xt d mc ms h0 mv Q k n c') : q_K g M xt d mc ms h0 mv Q k n c := by
  obtain ⟨pc, ins, ln, a1, a2, w1, w2⟩ := e
  obtain ⟨p, ls, st, N, sh, I, R, E, L⟩ := c
  have he : q_nth M.2.2.2.2.1 p = some (pc, ins, ln, a1, a2, w1, w2) := he
  unfold q_step at hs
  dsimp only at hs
  split at hs
  · split at hs <;> (cases hs; exact k_o_iconst hok he hJ)
  · split at hs <;> (cases hs; exact k_o_bipush hok he hJ)
  · split at hs <;> (cases hs; exact k_o_sipush hok he hJ)
  · cases hs; exact k_o_lconst hok he hJ
  · cases hs; exact k_o_ldc2 hok he hJ
  · cases hs; exact k_o_null hok he hJ
  · split at hs
    · next x hv => cases hs; exact k_o_iload_n hok he hv hJ
    · cases hs
  · split at hs
    · next x hv => cases hs; exact k_o_iload hok he hv hJ
    · cases hs
  · split at hs
    · next x hv => cases hs; exact k_o_lload_n hok he hv hJ
    · cases hs
  · split at hs
    · next x hv => cases hs; exact k_o_lload hok he hv hJ
    · cases hs
  · split at hs
    · next x hv => cases hs; exact k_o_dload_n hok he hv hJ
    · cases hs
  · split at hs
    · next x hv => cases hs; exact k_o_dload hok he hv hJ
    · cases hs
  · split at hs
    · next x hv => cases hs; exact k_o_aload_n hok he hv hJ
    · next hv => cases hs; exact k_o_aload_nN hok he hv hJ
    · cases hs
  · split at hs
    · next x hv => cases hs; exact k_o_aload hok he hv hJ
    · next hv => cases hs; exact k_o_aloadN hok he hv hJ
    · cases hs
  · split at hs
    · obtain ⟨l2, e1, e2, e3, e4, e5⟩ := q_setk_of _ _ _ _ _ hs
      cases e1
      exact k_o_istore_n hok he (by first | (rw [q_setk_id] at hs; cases hz : q_setk ls _ _ some with | none => (rw [hz] at hs; cases hs) | some l9 => (rw [hz] at hs; cases hs; rfl)) | rfl) hJ
    · cases hs
  · split at hs
    · obtain ⟨l2, e1, e2, e3, e4, e5⟩ := q_setk_of _ _ _ _ _ hs
      cases e1
      exact k_o_istore hok he (by first | (rw [q_setk_id] at hs; cases hz : q_setk ls _ _ some with | none => (rw [hz] at hs; cases hs) | some l9 => (rw [hz] at hs; cases hs; rfl)) | rfl) hJ
    · cases hs
  · split at hs
    · obtain ⟨l2, e1, e2, e3, e4, e5⟩ := q_setk2_of _ _ _ _ _ hs
      cases e1
      exact k_o_lstore_n hok he (by rw [q_setk2_id] at hs; cases hz : q_setk2 ls _ _ some with | none => (rw [hz] at hs; cases hs) | some l9 => (rw [hz] at hs; cases hs; rfl)) hJ
    · cases hs
  · split at hs
    · obtain ⟨l2, e1, e2, e3, e4, e5⟩ := q_setk2_of _ _ _ _ _ hs
      cases e1
      exact k_o_lstore hok he (by rw [q_setk2_id] at hs; cases hz : q_setk2 ls _ _ some with | none => (rw [hz] at hs; cases hs) | some l9 => (rw [hz] at hs; cases hs; rfl)) hJ
    · cases hs
  · split at hs
    · obtain ⟨l2, e1, e2, e3, e4, e5⟩ := q_setk2_of _ _ _ _ _ hs
      cases e1
      exact k_o_dstore_n hok he (by rw [q_setk2_id] at hs; cases hz : q_setk2 ls _ _ some with | none => (rw [hz] at hs; cases hs) | some l9 => (rw [hz] at hs; cases hs; rfl)) hJ
    · cases hs
  · split at hs
    · obtain ⟨l2, e1, e2, e3, e4, e5⟩ := q_setk2_of _ _ _ _ _ hs
      cases e1
      exact k_o_dstore hok he (by rw [q_setk2_id] at hs; cases hz : q_setk2 ls _ _ some with | none => (rw [hz] at hs; cases hs) | some l9 => (rw [hz] at hs; cases hs; rfl)) hJ
    · cases hs
  · split at hs
    · obtain ⟨l2, e1, e2, e3, e4, e5⟩ := q_setk_of _ _ _ _ _ hs
      cases e1
      exact k_o_astore_n hok he (by first | (rw [q_setk_id] at hs; cases hz : q_setk ls _ _ some with | none => (rw [hz] at hs; cases hs) | some l9 => (rw [hz] at hs; cases hs; rfl)) | rfl) hJ
    · obtain ⟨l2, e1, e2, e3, e4, e5⟩ := q_setk_of _ _ _ _ _ hs
      cases e1
      exact k_o_astore_nN hok he (by first | (rw [q_setk_id] at hs; cases hz : q_setk ls _ _ some with | none => (rw [hz] at hs; cases hs) | some l9 => (rw [hz] at hs; cases hs; rfl)) | rfl) hJ
    · cases hs
  · split at hs
    · obtain ⟨l2, e1, e2, e3, e4, e5⟩ := q_setk_of _ _ _ _ _ hs
      cases e1
      exact k_o_astore hok he (by first | (rw [q_setk_id] at hs; cases hz : q_setk ls _ _ some with | none => (rw [hz] at hs; cases hs) | some l9 => (rw [hz] at hs; cases hs; rfl)) | rfl) hJ
    · obtain ⟨l2, e1, e2, e3, e4, e5⟩ := q_setk_of _ _ _ _ _ hs
      cases e1
      exact k_o_astoreN hok he (by first | (rw [q_setk_id] at hs; cases hz : q_setk ls _ _ some with | none => (rw [hz] at hs; cases hs) | some l9 => (rw [hz] at hs; cases hs; rfl)) | rfl) hJ
    · cases hs
  · split at hs
    · next x hv =>
      split at hs
      · obtain ⟨l2, e1, e2, e3, e4, e5⟩ := q_setk_of _ _ _ _ _ hs
        cases e1
        exact k_o_iinc hok he hv (show q_setk ls _ (.int (x + OfNat.ofNat a1)) some = some l2 from (by first | (rw [q_setk_id] at hs; cases hz : q_setk ls _ _ some with | none => (rw [hz] at hs; cases hs) | some l9 => (rw [hz] at hs; cases hs; rfl)) | rfl)) hJ
      · obtain ⟨l2, e1, e2, e3, e4, e5⟩ := q_setk_of _ _ _ _ _ hs
        cases e1
        exact k_o_iinc hok he hv (show q_setk ls _ (.int (x + -(OfNat.ofNat a1))) some = some l2 from (by first | (rw [q_setk_id] at hs; cases hz : q_setk ls _ _ some with | none => (rw [hz] at hs; cases hs) | some l9 => (rw [hz] at hs; cases hs; rfl)) | rfl)) hJ
    · cases hs
  · split at hs
    · cases hs; exact k_o_iadd hok he hJ
    · cases hs
  · split at hs
    · cases hs; exact k_o_isub hok he hJ
    · cases hs
  · split at hs
    · cases hs; exact k_o_imul hok he hJ
    · cases hs
  · split at hs
    · cases hs; exact k_o_iand hok he hJ
    · cases hs
  · split at hs
    · cases hs; exact k_o_ior hok he hJ
    · cases hs
  · split at hs
    · cases hs; exact k_o_ishr hok he hJ
    · cases hs
  · split at hs
    · cases hs; exact k_o_ladd hok he hJ
    · cases hs
  · split at hs
    · cases hs; exact k_o_lmul hok he hJ
    · cases hs
  · split at hs
    · cases hs; exact k_o_ineg hok he hJ
    · cases hs
  · split at hs
    · cases hs; exact k_o_i2l hok he hJ
    · cases hs
  · split at hs
    · cases hs; exact k_o_i2b hok he hJ
    · cases hs
  · split at hs
    · cases hs; exact k_o_i2c hok he hJ
    · cases hs
  · split at hs
    · cases hs; exact k_o_dup hok he rfl hJ
    · cases hs; exact k_o_dup hok he rfl hJ
    · cases hs
  · split at hs
    · cases hs; exact k_o_pop hok he rfl hJ
    · cases hs; exact k_o_pop hok he rfl hJ
    · cases hs
  · split at hs
    · cases hs; exact k_o_dup2 hok he rfl rfl hJ
    · cases hs
  · cases hs; exact k_o_goto hok he hJ
  · split at hs
    · split at hs <;> (
        have hs := Option.some.inj hs
        subst hs
        first
        | exact k_o_if_eq hok he (fun h9 => by rw [if_pos h9] at hJ; exact hJ) (fun h9 => by rw [if_neg h9] at hJ; exact hJ)
        | exact k_o_if_ne hok he (fun h9 => by rw [if_pos h9] at hJ; exact hJ) (fun h9 => by rw [if_neg h9] at hJ; exact hJ)
        | exact k_o_if_lt hok he (fun h9 => by rw [if_pos h9] at hJ; exact hJ) (fun h9 => by rw [if_neg h9] at hJ; exact hJ)
        | exact k_o_if_ge hok he (fun h9 => by rw [if_pos h9] at hJ; exact hJ) (fun h9 => by rw [if_neg h9] at hJ; exact hJ)
        | exact k_o_if_gt hok he (fun h9 => by rw [if_pos h9] at hJ; exact hJ) (fun h9 => by rw [if_neg h9] at hJ; exact hJ)
        | exact k_o_if_le hok he (fun h9 => by rw [if_pos h9] at hJ; exact hJ) (fun h9 => by rw [if_neg h9] at hJ; exact hJ))
    · cases hs
  · split at hs
    · split at hs <;> (
        have hs := Option.some.inj hs
        subst hs
        first
        | exact k_o_icmp_eq hok he (fun h9 => by rw [if_pos h9] at hJ; exact hJ) (fun h9 => by rw [if_neg h9] at hJ; exact hJ)
        | exact k_o_icmp_ne hok he (fun h9 => by rw [if_pos h9] at hJ; exact hJ) (fun h9 => by rw [if_neg h9] at hJ; exact hJ)
        | exact k_o_icmp_lt hok he (fun h9 => by rw [if_pos h9] at hJ; exact hJ) (fun h9 => by rw [if_neg h9] at hJ; exact hJ)
        | exact k_o_icmp_ge hok he (fun h9 => by rw [if_pos h9] at hJ; exact hJ) (fun h9 => by rw [if_neg h9] at hJ; exact hJ)
        | exact k_o_icmp_gt hok he (fun h9 => by rw [if_pos h9] at hJ; exact hJ) (fun h9 => by rw [if_neg h9] at hJ; exact hJ)
        | exact k_o_icmp_le hok he (fun h9 => by rw [if_pos h9] at hJ; exact hJ) (fun h9 => by rw [if_neg h9] at hJ; exact hJ))
    · cases hs
  · split at hs
    · cases hs; exact k_o_ifnullR hok he hJ
    · cases hs; exact k_o_ifnullN hok he hJ
    · cases hs
  · split at hs
    · cases hs; exact k_o_ifnonnullR hok he hJ
    · cases hs; exact k_o_ifnonnullN hok he hJ
    · cases hs
  · split at hs
    · split at hs
      · next hb2 =>
        have ha := Nat.le_of_ble_eq_true hb2
        split at hs
        · next hsh =>
          split at hs
          · next hc1 hc2 =>
            have hc1 := Nat.eq_of_beq_eq_true hc1
            subst hc1
            have hci := Nat.blt_eq.mp hc2
            split at hs
            · next hkd => cases hs; exact k_o_getI hok he ha hsh hci hkd hJ
            · next hkd =>
              split at hs
              · next b hb => cases hs; exact k_o_getR hok he ha hsh hci hkd (by dsimp only [q_R]; rw [hb]; exact hJ)
              · next hb => cases hs; exact k_o_getR hok he ha hsh hci hkd (by dsimp only [q_R]; rw [hb]; exact hJ)
            · next hkd => cases hs; exact k_o_getE hok he ha hsh hci hkd hJ
            · cases hs
          · cases hs
        · cases hs
      · cases hs
    · cases hs
  · split at hs
    · split at hs
      · next hb2 =>
        have ha := Nat.le_of_ble_eq_true hb2
        split at hs
        · next hsh =>
          split at hs
          · next hc1 hc2 =>
            have hc1 := Nat.eq_of_beq_eq_true hc1
            subst hc1
            have hv2 := Nat.blt_eq.mp hc2
            split at hs
            · next hkd => cases hs; exact k_o_putI hok he ha hsh hv2 hkd hJ
            · next hkd => cases hs; exact k_o_putR hok he ha hsh hv2 hkd hJ
            · next hkd => cases hs; exact k_o_putN hok he ha hsh hv2 hkd hJ
            · cases hs
          · cases hs
        · cases hs
      · cases hs
    · cases hs
  · split at hs
    · next hb1 => cases hs; exact k_o_gets hok he (Nat.blt_eq.mp hb1) hJ
    · cases hs
  · cases hs
theorem k_go (i : Nat) {c c' : q_C} (hok : q_okB M = true) (hr : q_run i M.2.2.2.2.1 c = some c') (hJ : q_K g M xt d mc ms h0 mv Q k n c') : q_K g M xt d mc ms h0 mv Q k n c := by
  induction i generalizing c with
  | zero => cases hr; exact hJ
  | succ i ih =>
    unfold q_run at hr
    split at hr
    · next e he =>
      split at hr
      · next c2 hs => exact k_step_J hok he hs (ih hr)
      · cases hr
    · cases hr
theorem k_if (i : Nat) {P : Prop} [Decidable P] {c a b : q_C} (hok : q_okB M = true) (hr : q_run i M.2.2.2.2.1 c = some (if P then a else b)) (ht : P → q_K g M xt d mc ms h0 mv Q k n a) (hf : ¬ P → q_K g M xt d mc ms h0 mv Q k n b) : q_K g M xt d mc ms h0 mv Q k n c := by
  refine k_go i hok hr ?_
  by_cases hP : P
  · rw [if_pos hP]; exact ht hP
  · rw [if_neg hP]; exact hf hP
end KQSTEP
section KQKRULES
variable {g : q_G} {xt : List ExceptionTableEntry} {M M2 : q_M} {d mc ms d2 mc2 ms2 : Nat} {h0 : q_H} {mv mv2 : List Nat} {Q : (Option Value ⊕ String) → q_H → Prop} {k n pos pos' pc ln a1 a2 w1 w2 a ci v idx L j b : Nat} {ls ls' : List (Option Value)} {r st st' As rest : List Value} {h : q_H}
variable {X X2 : q_Am} {I : Nat → Nat → Int32} {E : Nat → Nat → Option Nat} {lI lI' l2I : List (Nat × (Nat → Int32))} {lE lE' l2E : List (Nat × (Nat → Option Nat))} {i x : Int32}
theorem k_less (hs : q_sub ls' ls) (hJ : q_K g M xt d mc ms h0 mv Q k n (pos, ls', st, h)) : q_K g M xt d mc ms h0 mv Q k n (pos, ls, st, h) := by
  obtain ⟨hlen, hsub⟩ := q_sub_of hs
  intro p e s m args below meth cd D cA ρ0 ρ A H locs rls en hen hB hS
  obtain ⟨hK, hW, hVS, hX, hC, hst, hls, hlh, hag, hag2, hA, hnx0⟩ := id hS
  exact hJ p e s m args below meth cd D cA ρ0 ρ A H locs rls en hen hB ⟨hK, hW, hVS, hX, hC, hst, fun i v hv => hls i v (hsub i v hv), ⟨hlh.1, hlen.trans hlh.2.1, hlh.2.2.1, fun i v hv => hlh.2.2.2 i v (hsub i v hv)⟩, hag, hag2, hA, hnx0⟩
end KQKRULES
section KQKMORE
variable {g : q_G} {xt : List ExceptionTableEntry} {M M2 : q_M} {d mc ms d2 mc2 ms2 : Nat} {h0 : q_H} {mv mv2 : List Nat} {Q : (Option Value ⊕ String) → q_H → Prop} {k n pos pos' pc ln a1 a2 w1 w2 a ci v idx L j b B : Nat} {ls ls' : List (Option Value)} {r st st' As rest : List Value} {h : q_H}
variable {X X2 : q_Am} {I : Nat → Nat → Int32} {E : Nat → Nat → Option Nat} {lI lI' l2I : List (Nat × (Nat → Int32))} {lE lE' l2E : List (Nat × (Nat → Option Nat))} {i x : Int32}
theorem k_Jwd {k2 n2 : Nat} {c : q_C} (hk : k ≤ k2) (hn : n ≤ n2) (hJ : q_K g M xt d mc ms h0 mv Q k2 n2 c) : q_K g M xt d mc ms h0 mv Q k n c := by
  intro p e s m args below meth cd D cA ρ0 ρ A H locs rls en hen hB hS
  exact W.widen hk hn (hJ p e s m args below meth cd D cA ρ0 ρ A H locs rls en hen hB hS)
end KQKMORE
section KQVIEW
variable {g : q_G} {xt : List ExceptionTableEntry} {M : q_M} {d mc ms : Nat} {h0 : q_H} {mv : List Nat} {Q : (Option Value ⊕ String) → q_H → Prop} {k n pos : Nat}
theorem k_vw (σ : Nat → Nat) {h h' : q_H} {ls ls' : List (Option Value)} {st st' : List Value} (hn : q_nx h' ≤ q_nx h) (h400 : 400 ≤ q_nx h') (hn0 : q_nx h0 ≤ q_nx h') (hσ1 : ∀ a, a < 400 → σ a = a) (hσ2 : ∀ a, 400 ≤ a → a < q_nx h' → 400 ≤ σ a ∧ σ a < q_nx h)
    (hσ3 : ∀ a b, 400 ≤ a → a < q_nx h' → 400 ≤ b → b < q_nx h' → σ a = σ b → a = b) (hcmp : ∀ a, 400 ≤ a → a < q_nx h' → q_cmp σ h h' a) (hclo : q_clo h → q_clo h')
    (hls : ls = ls'.map (fun v => v.map (q_vm σ))) (hst : st = st'.map (q_vm σ)) (hv1 : ∀ a, Value.ref a ∈ st' → a < q_nx h') (hv2 : ∀ i a, q_nth ls' i = some (some (.ref a)) → a < q_nx h') (hmv : ∀ a, a < q_nx h0 → a ∉ mv → σ a = a)
    (hJ : q_K g M xt d mc ms h0 mv Q k n (pos, ls', st', h')) : q_K g M xt d mc ms h0 mv Q k n (pos, ls, st, h) := by
  intro p e s m args below meth cd D cA ρ0 ρ A H locs rls en hen hB hS
  obtain ⟨hK, hW, hVS, hX, hC, hst9, hls9, hlh, hag, hag2, hA, hnx0⟩ := id hS
  obtain ⟨ws, w1, w2, hP, hD⟩ := hW
  have w1 : ws.length + 400 = q_nx h := w1
  have hid : ∀ a, 400 ≤ a → a < q_nx h' → σ a - 400 < ws.length := fun a h1 h2 => by have := hσ2 a h1 h2; omega
  have hW' : q_Wd D cA (fun a => ρ (σ a)) h' A H := by
    obtain ⟨ws', hlen, hget⟩ := q_pick ws (fun i => σ (400 + i) - 400) (q_nx h' - 400) (fun i hi => hid _ (Nat.le_add_right _ _) (by omega))
    refine ⟨ws', by rw [hlen]; omega, fun kk q hq => ?_, fun kk q hq => ?_, ?_, ?_⟩
    · obtain ⟨h1, h2⟩ := hget kk q hq
      obtain ⟨e1, e2⟩ := w2 _ _ h2
      have h3 := hσ2 (400 + kk) (by omega) (by omega)
      rw [show 400 + (σ (400 + kk) - 400) = σ (400 + kk) by omega] at e1 e2
      exact ⟨e1, q_cr_cmp (fun a ha => hσ1 a (by omega)) hC.2.1 (hcmp _ (by omega) (by omega)) e2⟩
    · exact hP _ _ (hget kk q hq).2
    · intro i j p q hi hj hpq
      obtain ⟨a1, a2⟩ := hget i p hi
      obtain ⟨b1, b2⟩ := hget j q hj
      have h3 := hσ2 (400 + i) (by omega) (by omega)
      have h4 := hσ2 (400 + j) (by omega) (by omega)
      have h5 := hD.1 _ _ p q a2 b2 hpq
      have := hσ3 (400 + i) (400 + j) (by omega) (by omega) (by omega) (by omega) (by omega)
      omega
    · intro kk q hq
      exact hD.2 _ _ (hget kk q hq).2
  have hmap : st'.map (q_vz (fun a => ρ (σ a))) = st.map (q_vz ρ) := by
    rw [hst, List.map_map]
    exact List.map_congr_left fun v _ => q_vm_vz v
  have hnth : ∀ i v, q_nth ls' i = some (some v) → q_nth ls i = some (some (q_vm σ v)) := by
    intro i v hv
    rw [q_nth_eq] at hv ⊢
    rw [hls, List.getElem?_map, hv]; rfl
  have h9 := hJ p e s m args below meth cd D cA ρ0 (fun a => ρ (σ a)) A H locs rls en hen hB ⟨hK, hW', hVS, hX, hclo hC, fun v hv a ha => hv1 a (by rw [← ha]; exact hv), fun i v hv a ha => hv2 i a (by rw [hv, ha]), ⟨hlh.1, by have := hlh.2.1; rw [hls, List.length_map] at this; exact this, hlh.2.2.1, fun i v hv => by rw [q_vm_vz]; exact hlh.2.2.2 i _ (hnth i v hv)⟩, fun a ha hm => ?_, fun a ha => ?_, hA, h400, hn0⟩
  · rw [show ((pos, ls', st', h') : q_C).2.2.1 = st' from rfl, hmap] at h9
    exact h9
  · show ρ (σ a) = ρ0 a
    rw [hmv a ha hm]
    exact hag a ha hm
  · show ρ (σ a) = ρ0 a
    rw [hσ1 a ha]
    exact hag2 a ha
end KQVIEW
/-! comparing long and double numbers -/
section KCMP
variable {g : q_G} {M : q_M} {xt : List ExceptionTableEntry} {d mc ms : Nat} {h0 : q_H} {mv : List Nat} {Q : (Option Value ⊕ String) → q_H → Prop} {k n pos pc ln a1 a2 w1 w2 : Nat} {ls : List (Option Value)} {st r : List Value} {h : q_H}
theorem k_o_lcmp {x y : Int64} (hok : q_okB M = true) (he : q_nth M.2.2.2.2.1 pos = some (pc, .lcmp, ln, a1, a2, w1, w2))
    (hJ : q_K g M xt d mc ms h0 mv Q k n (pos + 1, ls, (.int (lg_cmp x y) :: r), h)) : q_K g M xt d mc ms h0 mv Q k n (pos, ls, (.long y :: .long x :: r), h) := by
  obtain rfl : ln = 1 := (q_atB hok he).2.2.1 (Nat.succ_ne_zero _)
  exact k_stk (st' := (.int (lg_cmp x y) :: r)) hok he rfl (fun p e R s m args below meth cd H locs cells slots Qz rls ρ hx hb hd hown hts hl kk => W.lcmp hx hb hd kk) (fun h1 h2 => q_cl1 q_vcl_i (q_tl (q_tl h1))) hJ
theorem k_o_dcmp {x y : UInt64} {op : CmpOp} (hok : q_okB M = true) (he : q_nth M.2.2.2.2.1 pos = some (pc, .dcmp op, ln, a1, a2, w1, w2))
    (hJ : q_K g M xt d mc ms h0 mv Q k n (pos + 1, ls, (.int (Op.cmpValue (FP.dcmp x y) op) :: r), h)) : q_K g M xt d mc ms h0 mv Q k n (pos, ls, (.double y :: .double x :: r), h) := by
  obtain rfl : ln = 1 := (q_atB hok he).2.2.1 (Nat.succ_ne_zero _)
  exact k_stk (st' := (.int (Op.cmpValue (FP.dcmp x y) op) :: r)) hok he rfl (fun p e R s m args below meth cd H locs cells slots Qz rls ρ hx hb hd hown hts hl kk => lv_dcmp hx hb hd kk) (fun h1 h2 => q_cl1 q_vcl_i (q_tl (q_tl h1))) hJ
end KCMP
/-! calls -/
section KCALLS
variable {g : q_G} {M M2 : q_M} {xt : List ExceptionTableEntry} {d mc ms d2 mc2 ms2 : Nat} {h0 : q_H} {mv mv2 : List Nat} {Q Q2 : (Option Value ⊕ String) → q_H → Prop} {k n pos pc ln a1 a2 w1 w2 a ci v idx L j : Nat} {ls : List (Option Value)} {r st As rest : List Value} {h : q_H} {b : Nat} {w : Nat → Int64}
theorem k_run_go {p : Program} {e : Env} {s : State} {m : MethodId} {args : Array Value} {below : List Frame} {meth : Method} {cd : Code} {D : va_G} {cA : Nat → ClassId} {ρ0 ρ : Nat → Nat} {A : Nat → Prop} {H : Heap} {locs : List Loc} {rls : Array Slot} {en' : q_En} {aa : Array Value}
    (hB : q_BK M xt p s m args meth cd) (hS : q_Sit g M.2.2.1 D cA ρ0 ρ h0 h mv A s H locs ls rls st) (he' : q_nth M.2.2.2.2.1 (pos + 1) = some en') (hpc : en'.1 = pc + 3) (hrs : ∀ x ∈ rest, x ∈ st)
    (hmv : ∀ x ∈ mv2, x ∈ mv) (hm1 : ∀ i a, q_nth ls i = some (some (.ref a)) → a ∉ mv2) (hm2 : ∀ a, Value.ref a ∈ rest → a ∉ mv2)
    (hr : vx_Run p g.1 e (q_rk d mc ms) s m args below meth cd H locs k n mc2 ms2 (F0 m pc rls (st.map (q_vz ρ))) (rest.map (q_vz ρ)) (q_Qc D cA ρ h mv2 (q_A ρ h H.size) Q2 aa) (q_XC D cA ρ h mv2 (q_A ρ h H.size) Q2) (q_A ρ h H.size))
    (hR : ∀ v h', Q2 (.inl v) h' → q_K g M xt d mc ms h0 mv Q (k + mc2) (n + ms2) (pos + 1, ls, v.toList ++ rest, h')) (hX2 : ∀ E h', Q2 (.inr E) h' → q_KX g M xt d mc ms h0 mv Q (k + mc2) (n + ms2) pc ls E h') :
    W p g.1 e (q_rk d mc ms) s m args below meth cd H locs k n (vx_MQ below (q_Qc D cA ρ0 h0 mv A Q) (q_XC D cA ρ0 h0 mv A Q) args s mc ms A) (F0 m pc rls (st.map (q_vz ρ))) := by
  have hsub := q_A_sub hS
  obtain ⟨hx, hb, hr0, hml, hts, hown, hlk, hnm, hxt⟩ := id hB
  obtain ⟨hK, hW, hVS, hX, hC, hst, hls, hlh, hag, hag2, hA, hn1, hn2⟩ := id hS
  intro T hT X
  rcases hr T hT X with ⟨v, st₀, t, T', L, z0, X', hL, e1, e2, hq, stp⟩ | ⟨q, st₀, t, T', L, E, ce, z0, X', hL, e1, e2, hq, hce, hcv, hcl, stp⟩
  · obtain ⟨v0, h', ρ', hv, hQ, hvc, ag1, ag2, hW', hK', hC', m1, m2, hF⟩ := hq
    cases hv
    obtain ⟨k1, k2, k3⟩ := vx_keep z0 e1 hVS (fun q _ => hsub q) hsub hL hF
    have hρr : ∀ x ∈ rest, ∀ a, x = .ref a → ρ' a = ρ a := fun x hx a ha => ag1 a (hst x (hrs x hx) a ha) (hm2 a (by rw [← ha]; exact hx))
    have h9 := hR v0 h' hQ p e s m args below meth cd D cA ρ0 ρ' A T'.heap (locs ++ L) rls en' he' hB ⟨hK, by rw [e1]; exact q_Wd_mono hsub hW', k3, hX, hC', ?_, fun i x hx a ha => ?_, ?_, fun a ha hm => ?_, fun a ha => (ag2 a ha).trans (hag2 a ha), hA, m1, Nat.le_trans hn2 m2⟩
    · rw [List.map_append, q_map_ren hρr, hpc] at h9
      obtain ⟨t2, a1, b1⟩ := h9 T' rfl X'
      refine ⟨t2, stp t2 ?_, b1⟩
      have : (v0.toList).map (q_vz ρ') = (v0.map (q_vz ρ')).toList := by cases v0 <;> rfl
      rw [this] at a1
      exact a1
    · intro x hx
      rcases List.mem_append.mp hx with hx | hx
      · cases v0 with
        | none => cases hx
        | some y => cases (List.mem_singleton.mp hx); exact hvc _ rfl
      · exact fun a ha => Nat.lt_of_lt_of_le (hst x (hrs x hx) a ha) m2
    · exact Nat.lt_of_lt_of_le (hls i x hx a ha) m2
    · exact q_lh_ren (fun i a ha => ag1 a (hls i _ ha a rfl) (hm1 i a ha)) hlh
    · rw [ag1 a (Nat.lt_of_lt_of_le ha hn2) (fun h => hm (hmv a h))]; exact hag a ha hm
  · obtain ⟨h', ρ', hQ, ag1, ag2, hW', hK', hC', m1, m2, hF⟩ := hq
    obtain ⟨k1, k2, k3⟩ := vx_keep z0 e1 hVS (fun q _ => hsub q) hsub hL hF
    have h9 := hX2 E h' hQ p e s m args below meth cd D cA ρ0 ρ' A T'.heap (locs ++ L) rls (rest.map (q_vz ρ)) q ce hB ⟨hK, by rw [e1]; exact q_Wd_mono hsub hW', k3, hX, hC', fun x hx => absurd hx List.not_mem_nil, fun i x hx a ha => ?_, ?_, fun a ha hm => ?_, fun a ha => (ag2 a ha).trans (hag2 a ha), hA, m1, Nat.le_trans hn2 m2⟩ (by rw [e1]; exact hce) hcv hcl
    · obtain ⟨t2, a1, b1⟩ := h9 T' rfl X'
      exact ⟨t2, stp.trans a1, b1⟩
    · exact Nat.lt_of_lt_of_le (hls i x hx a ha) m2
    · exact q_lh_ren (fun i a ha => ag1 a (hls i _ ha a rfl) (hm1 i a ha)) hlh
    · rw [ag1 a (Nat.lt_of_lt_of_le ha hn2) (fun h => hm (hmv a h))]; exact hag a ha hm
theorem k_CB {p : Program} {s : State} {args : Array Value} (hok2 : q_okM M2 = true) (hts : ∀ w ∈ q_tb, w.before args s = true) (hd : d2 + 1 ≤ d) (hlc : 59 + 64 * d2 ≤ q_lc d) :
    (q_rm d2 mc2 ms2).cells = mc2 ∧ (q_rm d2 mc2 ms2).slots = ms2 ∧ (q_rm d2 mc2 ms2).frames + 1 ≤ (q_rk d mc ms).frames ∧ 8 + (M2.2.2.1 + 11) + (q_rm d2 mc2 ms2).locals ≤ (q_rk d mc ms).locals ∧ (∀ w ∈ q_w M2, ∀ (a' : Array Value) (U : State), s.WarmedH U.vm → w.before a' U = true) ∧ Jvm.Cond.code M2.1 M2.2.1 M2.2.2.1 M2.2.2.2.1 ∈ q_w M2 ∧ (Jvm.Cond.code M2.1 M2.2.1 M2.2.2.1 M2.2.2.2.1).before args s = true := by
  obtain ⟨hcode, -, hmx⟩ := q_okCode hok2
  refine ⟨rfl, rfl, hd, ?_, pay_in hts (q_w_good M2 hcode), List.mem_cons_self, hts _ hcode⟩
  show 8 + (M2.2.2.1 + 11) + 64 * d2 ≤ q_lc d
  omega
/-- a call of an object's method -/
theorem k_callV {C : String} {T : u_T} {N : Nat} (hok : q_okB M = true) (hok2 : q_okM M2 = true) (he : q_nth M.2.2.2.2.1 pos = some (pc, .invokevirtual idx, ln, a1, a2, w1, w2)) (hw : q_lk M idx M2.1 (q_gw w1 w2)) (hcv : q_cvP M2 As.length)
    (hb4 : 400 ≤ b) (hbs : q_sh h b = (0, ci, v)) (hcl : vwCl[ci]? = some (C, T, N)) (hC2 : C = M2.1.cls) (hCt : q_Ct g M2 d2 mc2 ms2 mv2 (.ref b :: As) h Q2) (hd : d2 + 1 ≤ d) (hlc : 59 + 64 * d2 ≤ q_lc d) (hk : k + mc2 ≤ mc) (hn : n + ms2 ≤ ms) (hcat : (rest.map fun v => v.category).sum ≤ 8)
    (hmv : ∀ x ∈ mv2, x ∈ mv) (hm1 : ∀ i a, q_nth ls i = some (some (.ref a)) → a ∉ mv2) (hm2 : ∀ a, Value.ref a ∈ rest → a ∉ mv2) (hst' : st = As.reverse ++ .ref b :: rest)
    (hR : ∀ v h', Q2 (.inl v) h' → q_K g M xt d mc ms h0 mv Q (k + mc2) (n + ms2) (pos + 1, ls, v.toList ++ rest, h')) (hX2 : ∀ E h', Q2 (.inr E) h' → q_KX g M xt d mc ms h0 mv Q (k + mc2) (n + ms2) pc ls E h') : q_K g M xt d mc ms h0 mv Q k n (pos, ls, st, h) := by
  obtain rfl : ln = 3 := (q_atB hok he).2.2.1 (Nat.succ_ne_zero _)
  intro p e s m args below meth cd D cA ρ0 ρ A H locs rls en hen hB hS
  cases he.symm.trans hen
  obtain ⟨hdg, hnx, -, -⟩ := q_atB hok he
  obtain ⟨en', he', hpc⟩ := hnx rfl
  obtain ⟨hx, hb, hr0, hml, hts, hown, hlk, hnm, hxt⟩ := id hB
  obtain ⟨hK, hW, hVS, hX, hC, hst, hls, hlh, hag, hag2, hA, hn1, hn2⟩ := id hS
  obtain ⟨c1, c2, c3, c4, c5⟩ := hcv
  obtain ⟨f1, f2, f3, f4, f5, f6, f7⟩ := k_CB (p := p) (s := s) (args := args) (d2 := d2) (mc2 := mc2) (ms2 := ms2) (d := d) (mc := mc) (ms := ms) hok2 hts hd hlc
  have hbn : b < q_nx h := hst (.ref b) (by show _ ∈ st; rw [hst']; simp) b rfl
  have hAs : ∀ x ∈ Value.ref b :: As, q_vcl h x := by
    intro x hx
    rcases List.mem_cons.mp hx with rfl | hx
    · exact fun a ha => by cases ha; exact hbn
    · exact hst x (by show _ ∈ st; rw [hst']; simp [hx])
  obtain ⟨ws, e9, g1, g2, hP, hD, hat, hcr⟩ := q_Wd_at hW hb4 hbn
  rw [hbs] at hcr
  obtain ⟨fs, hfs, -, -⟩ := hcr
  rw [hfs] at hat
  have hrecv := va_recv hK hP hcl hat
  have hpre : PreV s H C (ρ b) (q_Pc g D cA ρ h H.size (.ref b :: As)) (As.map (q_vz ρ)) := ⟨q_Pc_blind, hrecv, fun U hU hWm => q_Pc_at hS hAs U hU hWm⟩
  subst hC2
  have hstk : (F0 m pc rls (st.map (q_vz ρ))).stack = (As.map (q_vz ρ)).reverse ++ .ref (ρ b) :: rest.map (q_vz ρ) := by
    show st.map (q_vz ρ) = _
    rw [hst', List.map_append, List.map_cons, List.map_reverse]; rfl
  have hM := hCt D cA ρ H.size
  refine k_run_go (aa := (Value.ref (ρ b) :: As.map (q_vz ρ)).toArray) hB hS he' hpc (fun x hx => by rw [hst']; simp [hx]) hmv hm1 hm2 ?_ hR hX2
  rcases hw with hw | ⟨host, hw⟩
  · exact vx_runV (As := As.map (q_vz ρ)) (rest := rest.map (q_vz ρ)) (n := As.length) (Ts := q_tb) ⟨hx, hb, hml, hown, hts⟩ hM ⟨⟨f1, f2, f3, f4, f5, f6, f7, hts _ c3, c4, q_par c5, hts _ (q_gw_in hw rfl)⟩, hts _ c1, hts _ c2⟩ hpre rfl (List.length_map _) hlh.1 hstk (lv_room (q_cat8 hcat)) hdg ⟨hk, hn⟩
  · exact vx_runVN (As := As.map (q_vz ρ)) (rest := rest.map (q_vz ρ)) (n := As.length) (Ts := q_tb) (host := host) ⟨hx, hb, hml, hown, hts⟩ hM ⟨⟨⟨f1, f2, f3, f4, f5, f6⟩, f7, hts _ c3, c4, q_par c5, q_Xn hX (q_gw_in2 hw) rfl rfl⟩, hts _ c1, hts _ c2⟩ hpre rfl (List.length_map _) hlh.1 hstk (lv_room (q_cat8 hcat)) hdg ⟨hk, hn⟩
/-- a call of a constructor -/
theorem k_callI (hok : q_okB M = true) (hok2 : q_okM M2 = true) (he : q_nth M.2.2.2.2.1 pos = some (pc, .invokespecial idx, ln, a1, a2, w1, w2)) (hw : q_lk M idx M2.1 (q_gw w1 w2)) (hcv : q_ciP M2 As.length) (hret : M2.2.2.2.1 = none)
    (hCt : q_Ct g M2 d2 mc2 ms2 mv2 (.ref b :: As) h Q2) (hd : d2 + 1 ≤ d) (hlc : 59 + 64 * d2 ≤ q_lc d) (hk : k + mc2 ≤ mc) (hn : n + ms2 ≤ ms) (hcat : (rest.map fun v => v.category).sum ≤ 8)
    (hmv : ∀ x ∈ mv2, x ∈ mv) (hm1 : ∀ i a, q_nth ls i = some (some (.ref a)) → a ∉ mv2) (hm2 : ∀ a, Value.ref a ∈ rest → a ∉ mv2) (hst' : st = As.reverse ++ .ref b :: rest)
    (hR : ∀ v h', Q2 (.inl v) h' → q_K g M xt d mc ms h0 mv Q (k + mc2) (n + ms2) (pos + 1, ls, v.toList ++ rest, h')) (hX2 : ∀ E h', ¬ Q2 (.inr E) h') : q_K g M xt d mc ms h0 mv Q k n (pos, ls, st, h) := by
  obtain rfl : ln = 3 := (q_atB hok he).2.2.1 (Nat.succ_ne_zero _)
  intro p e s m args below meth cd D cA ρ0 ρ A H locs rls en hen hB hS
  cases he.symm.trans hen
  obtain ⟨hdg, hnx, -, -⟩ := q_atB hok he
  obtain ⟨en', he', hpc⟩ := hnx rfl
  obtain ⟨hx, hb, hr0, hml, hts, hown, hlk, hnm, hxt⟩ := id hB
  obtain ⟨hK, hW, hVS, hX, hC, hst, hls, hlh, hag, hag2, hA, hn1, hn2⟩ := id hS
  obtain ⟨c1, c2, c3, c4, c5⟩ := hcv
  obtain ⟨f1, f2, f3, f4, f5, f6, f7⟩ := k_CB (p := p) (s := s) (args := args) (d2 := d2) (mc2 := mc2) (ms2 := ms2) (d := d) (mc := mc) (ms := ms) hok2 hts hd hlc
  have hAs : ∀ x ∈ Value.ref b :: As, q_vcl h x := by
    intro x hx
    rcases List.mem_cons.mp hx with rfl | hx
    · exact hst _ (by show _ ∈ st; rw [hst']; simp)
    · exact hst x (by show _ ∈ st; rw [hst']; simp [hx])
  have hpre : PreS s H (q_Pc g D cA ρ h H.size (.ref b :: As)) (.ref (ρ b) :: As.map (q_vz ρ)) := ⟨q_Pc_blind, fun U hU hWm => q_Pc_at hS hAs U hU hWm⟩
  have hstk : (F0 m pc rls (st.map (q_vz ρ))).stack = (As.map (q_vz ρ)).reverse ++ .ref (ρ b) :: rest.map (q_vz ρ) := by
    show st.map (q_vz ρ) = _
    rw [hst', List.map_append, List.map_cons, List.map_reverse]; rfl
  have hM := hCt D cA ρ H.size
  refine k_run_go (aa := (Value.ref (ρ b) :: As.map (q_vz ρ)).toArray) hB hS he' hpc (fun x hx => by rw [hst']; simp [hx]) hmv hm1 hm2 ?_ hR (fun E h' hq => absurd hq (hX2 E h'))
  rw [hret] at f6 f7
  rcases hw with hw | ⟨host, hw⟩
  · exact vx_runI (As := As.map (q_vz ρ)) (rest := rest.map (q_vz ρ)) (n := As.length) (Ts := q_tb) (ws := q_w M2) ⟨hx, hb, hml, hown, hts⟩ hM ⟨⟨f1, f2, f3, f4, f5, f6, f7, hts _ c3, c4, q_par c5, hts _ (q_gw_in hw rfl)⟩, c2, hts _ c1⟩ hpre rfl (List.length_map _) hlh.1 hstk (lv_room (q_cat8 hcat)) hdg ⟨hk, hn⟩
  · exact vx_runIN (As := As.map (q_vz ρ)) (rest := rest.map (q_vz ρ)) (n := As.length) (Ts := q_tb) (ws := q_w M2) (host := host) ⟨hx, hb, hml, hown, hts⟩ hM ⟨⟨⟨f1, f2, f3, f4, f5, f6⟩, f7, hts _ c3, c4, q_par c5, q_Xn hX (q_gw_in2 hw) rfl rfl⟩, c2, hts _ c1⟩ hpre rfl (List.length_map _) hlh.1 hstk (lv_room (q_cat8 hcat)) hdg ⟨hk, hn⟩
/-- the words of a method with handlers -/
def q_wH (M : q_M) (hh : List (Nat × Nat × Nat × Nat)) : List Jvm.Cond := .codeWith M.1 M.2.1 M.2.2.1 M.2.2.2.1 hh :: q_tb
theorem q_wH_good {M : q_M} {hh : List (Nat × Nat × Nat × Nat)} (hc : Jvm.Cond.codeWith M.1 M.2.1 M.2.2.1 M.2.2.2.1 hh ∈ q_tb) : GoodIn q_tb (q_wH M hh) := fun w hw => by
  rcases List.mem_cons.mp hw with h | h
  · rw [h]; exact ⟨hc, good_of_word (q_good hc)⟩
  · exact ⟨h, good_of_word (q_good h)⟩
/-- its contract -/
def q_CtH (g : q_G) (M : q_M) (hh : List (Nat × Nat × Nat × Nat)) (d mc ms : Nat) (mv : List Nat) (As : List Value) (h : q_H) (Q : (Option Value ⊕ String) → q_H → Prop) : Prop :=
  ∀ (D : va_G) (cA : Nat → ClassId) (ρ : Nat → Nat) (sz : Nat), vx_Met g.1 M.1 (q_wH M hh) (q_rm d mc ms)
    (va_Pc (As.map (q_vz ρ)) (fun U => U.heap.size = sz ∧ va_K D vwCl (q_Ty cA) U ∧ q_Wd D cA ρ h (fun _ => True) U.heap ∧ q_Ext g ρ (q_A ρ h sz) U U.heap ∧ q_clo h ∧ (∀ v ∈ As, q_vcl h v) ∧ 400 ≤ q_nx h))
    (q_Qc D cA ρ h mv (q_A ρ h sz) Q) (q_XC D cA ρ h mv (q_A ρ h sz) Q) mc ms (q_A ρ h sz)
/-- a call of a class's method that has handlers -/
theorem k_callH {hh : List (Nat × Nat × Nat × Nat)} (hok : q_okB M = true) (he : q_nth M.2.2.2.2.1 pos = some (pc, .invokestatic idx, ln, a1, a2, w1, w2)) (hw : q_gw w1 w2 = some (.methodLink M.1.cls idx M2.1)) (hcw : Jvm.Cond.codeWith M2.1 M2.2.1 M2.2.2.1 M2.2.2.2.1 hh ∈ q_tb) (hcv : q_csP M2 As.length) (hmx : M2.2.2.1 ≤ 40)
    (hCt : q_CtH g M2 hh d2 mc2 ms2 mv2 As h Q2) (hd : d2 + 1 ≤ d) (hlc : 59 + 64 * d2 ≤ q_lc d) (hk : k + mc2 ≤ mc) (hn : n + ms2 ≤ ms) (hcat : (rest.map fun v => v.category).sum ≤ 8)
    (hmv : ∀ x ∈ mv2, x ∈ mv) (hm1 : ∀ i a, q_nth ls i = some (some (.ref a)) → a ∉ mv2) (hm2 : ∀ a, Value.ref a ∈ rest → a ∉ mv2) (hst' : st = As.reverse ++ rest)
    (hR : ∀ v h', Q2 (.inl v) h' → q_K g M xt d mc ms h0 mv Q (k + mc2) (n + ms2) (pos + 1, ls, v.toList ++ rest, h')) (hX2 : ∀ E h', ¬ Q2 (.inr E) h') : q_K g M xt d mc ms h0 mv Q k n (pos, ls, st, h) := by
  obtain rfl : ln = 3 := (q_atB hok he).2.2.1 (Nat.succ_ne_zero _)
  intro p e s m args below meth cd D cA ρ0 ρ A H locs rls en hen hB hS
  cases he.symm.trans hen
  obtain ⟨hdg, hnx, -, -⟩ := q_atB hok he
  obtain ⟨en', he', hpc⟩ := hnx rfl
  obtain ⟨hx, hb, hr0, hml, hts, hown, hlk, hnm, hxt⟩ := id hB
  obtain ⟨hK, hW, hVS, hX, hC, hst, hls, hlh, hag, hag2, hA, hn1, hn2⟩ := id hS
  obtain ⟨c1, c3, c4, c5⟩ := hcv
  have hAs : ∀ x ∈ As, q_vcl h x := fun x hx => hst x (by show _ ∈ st; rw [hst']; simp [hx])
  have hpre : PreS s H (q_Pc g D cA ρ h H.size As) (As.map (q_vz ρ)) := ⟨q_Pc_blind, fun U hU hWm => q_Pc_at hS hAs U hU hWm⟩
  have hstk : (F0 m pc rls (st.map (q_vz ρ))).stack = (As.map (q_vz ρ)).reverse ++ rest.map (q_vz ρ) := by
    show st.map (q_vz ρ) = _
    rw [hst', List.map_append, List.map_reverse]
  have hM := hCt D cA ρ H.size
  have hlo : 8 + (M2.2.2.1 + 11) + (q_rm d2 mc2 ms2).locals ≤ (q_rk d mc ms).locals := by
    show 8 + (M2.2.2.1 + 11) + 64 * d2 ≤ q_lc d
    omega
  refine k_run_go (aa := (As.map (q_vz ρ)).toArray) hB hS he' hpc (fun x hx => by rw [hst']; simp [hx]) hmv hm1 hm2 ?_ hR (fun E h' hq => absurd hq (hX2 E h'))
  exact vx_runSX (As := As.map (q_vz ρ)) (rest := rest.map (q_vz ρ)) (n := As.length) (Ts := q_tb) (hh := hh) ⟨hx, hb, hml, hown, hts⟩ hM ⟨⟨rfl, rfl, hd, hlo, pay_in hts (q_wH_good hcw), List.mem_cons_self⟩, hts _ hcw, hts _ c3, c4, q_par c5, hts _ (q_gw_in hw rfl), hts _ c1⟩ hpre rfl (List.length_map _) hlh.1 hstk (lv_room (q_cat8 hcat)) hdg ⟨hk, hn⟩
/-- caught -/
theorem k_catch {E name : String} {hp i : Nat} (hok : q_okB M = true) (pre : List ExceptionTableEntry) (x : ExceptionTableEntry) (suf : List ExceptionTableEntry) (hsplit : xt = pre ++ x :: suf)
    (hpre : ∀ z ∈ pre, z.catchType ≠ 0 ∧ ∃ nm : String, Jvm.Cond.classLink M.1.cls z.catchType nm ∈ q_tb ∧ (E, nm) ∈ q_nc) (hx : covers x pc = true) (h0x : x.catchType ≠ 0)
    (hlink : Jvm.Cond.classLink M.1.cls x.catchType name ∈ q_tb) (hcast : Jvm.Cond.castable E name ∈ lw_tbl) (hi : i < M.2.2.1) (hcat : ∀ j u, q_nth ls j = some (some u) → j ≠ i ∧ u.category = 1)
    (he : q_nth M.2.2.2.2.1 hp = some (x.handlerPc, .astore i, ln, a1, a2, w1, w2)) (hJ : q_K g M xt d mc ms h0 mv Q k n (hp + 1, ls, [], h)) : q_KX g M xt d mc ms h0 mv Q k n pc ls E h := by
  obtain rfl : ln = 2 := (q_atB hok he).2.2.1 (Nat.succ_ne_zero _)
  intro p e s m args below meth cd D cA ρ0 ρ A H locs rls rest q ce hB hS hce hcv hcl
  obtain ⟨hdg, hnx, -, -⟩ := q_atB hok he
  obtain ⟨en', he', hpc⟩ := hnx rfl
  obtain ⟨hx0, hb, hr0, hml, hts, hown, hlk, hnm, hxt⟩ := id hB
  obtain ⟨hK, hW, hVS, hX, hC, hst, hls, hlh, hag, hag2, hA, hn1, hn2⟩ := id hS
  refine vx_catch (name := name) hown pre x suf (by rw [hxt, hsplit]) (fun z hz => ?_) hx h0x (hts _ hlink) (q_Xn hX hcast rfl rfl) hce hcv hcl ?_
  · obtain ⟨z0, nm, z1, z2⟩ := hpre z hz
    exact Or.inr ⟨z0, nm, hts _ z1, hX.2.2.2.2.2.2.2.2.2.2.2.2.2.1 _ z2⟩
  · refine lv_astore hx0 hb hdg (q_lh_has hlh) hi rfl (fun rls' h' => ?_)
    have h9 := hJ p e s m args below meth cd D cA ρ0 ρ A H locs rls' en' he' hB ⟨hK, hW, hVS, hX, hC, hst, hls, ⟨h'.1, hlh.2.1, h'.2.1, fun j u hj => h'.2.2 (j, q_vz ρ u) (List.mem_cons_of_mem _ (List.mem_filter.mpr ⟨q_lv_in hj, ?_⟩))⟩, hag, hag2, hA, hn1, hn2⟩
    · rw [hpc] at h9
      exact h9
    · obtain ⟨u1, u2⟩ := hcat j u hj
      have h1 : (j == i) = false := by simpa using u1
      simp only [h1, q_cat, u2, Bool.not_false, Bool.true_and]
      cases (j + 1 == i) <;> rfl
theorem k_catch_n {E name : String} {hp : Nat} {i : Fin 4} (hok : q_okB M = true) (pre : List ExceptionTableEntry) (x : ExceptionTableEntry) (suf : List ExceptionTableEntry) (hsplit : xt = pre ++ x :: suf)
    (hpre : ∀ z ∈ pre, z.catchType ≠ 0 ∧ ∃ nm : String, Jvm.Cond.classLink M.1.cls z.catchType nm ∈ q_tb ∧ (E, nm) ∈ q_nc) (hx : covers x pc = true) (h0x : x.catchType ≠ 0)
    (hlink : Jvm.Cond.classLink M.1.cls x.catchType name ∈ q_tb) (hcast : Jvm.Cond.castable E name ∈ lw_tbl) (hi : i.val < M.2.2.1) (hcat : ∀ j u, q_nth ls j = some (some u) → j ≠ i.val ∧ u.category = 1)
    (he : q_nth M.2.2.2.2.1 hp = some (x.handlerPc, .astore_n i, ln, a1, a2, w1, w2)) (hJ : q_K g M xt d mc ms h0 mv Q k n (hp + 1, ls, [], h)) : q_KX g M xt d mc ms h0 mv Q k n pc ls E h := by
  obtain rfl : ln = 1 := (q_atB hok he).2.2.1 (Nat.succ_ne_zero _)
  intro p e s m args below meth cd D cA ρ0 ρ A H locs rls rest q ce hB hS hce hcv hcl
  obtain ⟨hdg, hnx, -, -⟩ := q_atB hok he
  obtain ⟨en', he', hpc⟩ := hnx rfl
  obtain ⟨hx0, hb, hr0, hml, hts, hown, hlk, hnm, hxt⟩ := id hB
  obtain ⟨hK, hW, hVS, hX, hC, hst, hls, hlh, hag, hag2, hA, hn1, hn2⟩ := id hS
  refine vx_catch (name := name) hown pre x suf (by rw [hxt, hsplit]) (fun z hz => ?_) hx h0x (hts _ hlink) (q_Xn hX hcast rfl rfl) hce hcv hcl ?_
  · obtain ⟨z0, nm, z1, z2⟩ := hpre z hz
    exact Or.inr ⟨z0, nm, hts _ z1, hX.2.2.2.2.2.2.2.2.2.2.2.2.2.1 _ z2⟩
  · refine lv_astore_n hx0 hb hdg rfl (q_lh_has hlh) hi rfl (fun rls' h' => ?_)
    have h9 := hJ p e s m args below meth cd D cA ρ0 ρ A H locs rls' en' he' hB ⟨hK, hW, hVS, hX, hC, hst, hls, ⟨h'.1, hlh.2.1, h'.2.1, fun j u hj => h'.2.2 (j, q_vz ρ u) (List.mem_cons_of_mem _ (List.mem_filter.mpr ⟨q_lv_in hj, ?_⟩))⟩, hag, hag2, hA, hn1, hn2⟩
    · rw [hpc] at h9
      exact h9
    · obtain ⟨u1, u2⟩ := hcat j u hj
      have h1 : (j == i.val) = false := by simpa using u1
      simp only [h1, q_cat, u2, Bool.not_false, Bool.true_and]
      cases (j + 1 == i.val) <;> rfl
/-- a contract of a method with handlers, out of the walk of its body -/
theorem q_CtH_of {hh : List (Nat × Nat × Nat × Nat)} (hpl : plainName M.1.cls = true) (hlc : q_lc d = 64 * d) (hlen : (q_ent As).length ≤ M.2.2.1)
    (hJ : q_K g M (tableOf hh) d mc ms h mv Q 0 0 (0, q_ent As ++ List.replicate (M.2.2.1 - (q_ent As).length) none, [], h)) (en : q_En) (h0 : q_nth M.2.2.2.2.1 0 = some en) (hpc : en.1 = 0) : q_CtH g M hh d mc ms mv As h Q := by
  intro D cA ρ sz
  refine vx_ofWH (cc := M.2.1) (maxL := M.2.2.1) (ret := M.2.2.2.1) (hh := hh) hpl rfl ?_
  intro p e s m args below meth c s₁ B hml hv
  obtain ⟨rfl, hsz, hK, hW, hX, hC, hAs, hnx0⟩ := hv
  subst hsz
  have hts := atoms_spec (ws := q_wH M hh) B.pre
  have hxt := vx_table (x := M.1) B (hts _ List.mem_cons_self)
  have hB : q_BK M (tableOf hh) p s m ((As.map (q_vz ρ)).toArray) meth c := ⟨B.exec, B.bytes, B.returns, hml, fun w hw => hts w (List.mem_cons_of_mem _ hw), findClass_of_methodNamed B.named, B.notSynchronized, (name_of_methodNamed B.named B.method).1, hxt⟩
  have hl := lv_entry (As.map (q_vz ρ)) (n := M.2.2.1) (by rw [q_ent_sl]; exact hlen)
  rw [lg_entry_eq]
  generalize (lg_sl (As.map (q_vz ρ)) ++ List.replicate (M.2.2.1 - (lg_sl (As.map (q_vz ρ))).length) Slot.unset).toArray = rls at hl ⊢
  have hlh : q_lh rls M.2.2.1 ρ (q_ent As ++ List.replicate (M.2.2.1 - (q_ent As).length) none) := by
    refine ⟨hl.1, by simp; omega, hl.2.1, fun i v hv => ?_⟩
    rcases q_nth_app hv with h1 | h1
    · have := q_ent_in (ρ := ρ) As 0 i v h1
      rw [Nat.zero_add] at this
      exact hl.2.2 _ this
    · exact absurd (List.eq_of_mem_replicate h1) (by simp)
  have hls : ∀ i v, q_nth (q_ent As ++ List.replicate (M.2.2.1 - (q_ent As).length) none) i = some (some v) → q_vcl h v := by
    intro i v hv
    rcases q_nth_app hv with h1 | h1
    · have := q_ent_in (ρ := id) As 0 i v h1
      have h3 : ∀ (l : List Value) (i : Nat) (q : Nat × Value), q ∈ lv_args i l → q.2 ∈ l := by
        intro l
        induction l with
        | nil => intro i q hq; cases hq
        | cons a t ih =>
          intro i q hq
          rcases List.mem_cons.mp hq with rfl | hq
          · exact List.mem_cons_self
          · exact List.mem_cons_of_mem _ (ih _ _ hq)
      have h4 := h3 _ _ _ this
      obtain ⟨u, hu, he⟩ := List.mem_map.mp h4
      have hid : ∀ z : Value, q_vz id z = z := fun z => by cases z <;> rfl
      rw [hid, hid] at he
      have he : u = v := he
      rw [← he]; exact hAs u hu
    · exact absurd (List.eq_of_mem_replicate h1) (by simp)
  obtain ⟨ws, f1, f2, hP, hD⟩ := hW
  have hAw : ∀ q : Nat × va_E, q ∈ ws → q_A ρ h s.heap.size q.1 := by
    intro q hq
    obtain ⟨i, hi⟩ := List.getElem?_of_mem hq
    have h1 := (List.getElem?_eq_some_iff.mp hi).1
    exact Or.inl ⟨400 + i, by omega, by omega, (f2 i q hi).1⟩
  have hD1 : va_D (q_A ρ h s.heap.size) ws := ⟨hD.1, fun k q hq => hAw q (List.mem_of_getElem? hq)⟩
  have h9 := hJ p e s m _ below meth c D cA ρ ρ (q_A ρ h s.heap.size) s.heap [] rls en h0 hB ⟨hK, ⟨ws, f1, f2, hP, hD1⟩, va_S.rf, hX, hC, fun v hv => by simp at hv, hls, hlh, fun _ _ _ => rfl, fun _ _ => rfl, fun q hq => Or.inr hq, hnx0, Nat.le_refl _⟩
  rw [hpc] at h9
  have hroom : q_rk d mc ms = q_rm d mc ms := by
    show ({ frames := d, cells := mc, slots := ms, locals := q_lc d } : Room) = _
    rw [hlc]
  rw [hroom] at h9
  exact h9
end KCALLS
