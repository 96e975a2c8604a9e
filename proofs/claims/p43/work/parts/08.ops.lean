/-! ONE INSTRUCTION, A RULE -/
section QOPS
variable {g : q_G} {M : q_M} {d mc ms : Nat} {h0 : q_H} {mv : List Nat} {Q : (Option Value ⊕ String) → q_H → Prop} {k n pos pc ln a1 a2 w1 w2 : Nat} {ls : List (Option Value)} {st r : List Value} {h : q_H}
theorem q_stk {st' : List Value} {ins : Instr} (hok : q_okM M = true) (he : q_nth M.2.2.2.2.1 pos = some (pc, ins, ln, a1, a2, w1, w2)) (hf : q_falls ins = true)
    (hrow : ∀ (p : Program) (e : Env) (R : Room) (s : State) (m : MethodId) (args : Array Value) (below : List Frame) (meth : Method) (cd : Code) (H : Heap) (locs : List Loc) (cells slots : Nat) (Qz : State → Prop) (rls : Array Slot) (ρ : Nat → Nat),
      p.tables.exec = Jvm.exec → cd.code = M.2.1 → decode M.2.1 pc = .ok (ins, ln) → s.vm.findClass M.1.cls = some m.cls → (∀ w ∈ q_tb, w.before args s = true) → (∀ i v, q_nth ls i = some (some v) → rls[i]? = some (.val (q_vz ρ v))) →
      W p g.1 e R s m args below meth cd H locs cells slots Qz (F0 m (pc + ln) rls (st'.map (q_vz ρ))) → W p g.1 e R s m args below meth cd H locs cells slots Qz (F0 m pc rls (st.map (q_vz ρ))))
    (hcl : (∀ v ∈ st, q_vcl h v) → (∀ i v, q_nth ls i = some (some v) → q_vcl h v) → ∀ v ∈ st', q_vcl h v)
    (hJ : q_J g M d mc ms h0 mv Q k n (pos + 1, ls, st', h)) : q_J g M d mc ms h0 mv Q k n (pos, ls, st, h) := by
  intro p e s m args below meth cd D cA ρ0 ρ A H locs rls en hen hB hS
  cases he.symm.trans hen
  obtain ⟨hd, hnx, -, -⟩ := q_at hok he
  obtain ⟨en', he', hpc⟩ := hnx hf
  obtain ⟨hx, hb, hr, hml, hts, hown, hlk, hnm, hxt⟩ := id hB
  obtain ⟨hK, hW, hVS, hX, hC, hst, hls, hlh, hag, hag2, hA, hnx0⟩ := id hS
  have h9 := hJ p e s m args below meth cd D cA ρ0 ρ A H locs rls en' he' hB ⟨hK, hW, hVS, hX, hC, hcl hst hls, hls, hlh, hag, hag2, hA, hnx0⟩
  rw [hpc] at h9
  exact hrow p e _ s m args below meth cd H locs k n _ rls ρ hx hb hd hown hts hlh.2.2.2 h9
theorem q_vcl_i {x : Int32} : q_vcl h (.int x) := fun a h => by cases h
theorem q_vcl_l {x : Int64} : q_vcl h (.long x) := fun a h => by cases h
theorem q_vcl_d {x : UInt64} : q_vcl h (.double x) := fun a h => by cases h
theorem q_vcl_n : q_vcl h .null := fun a h => by cases h
theorem q_cl1 {v : Value} (hv : q_vcl h v) (hr : ∀ v ∈ r, q_vcl h v) : ∀ x ∈ v :: r, q_vcl h x := fun x hx => (List.mem_cons.mp hx).elim (fun e => by rw [e]; exact hv) (hr x)
theorem q_tl {v : Value} (hr : ∀ x ∈ v :: r, q_vcl h x) : ∀ x ∈ r, q_vcl h x := fun x hx => hr x (List.mem_cons_of_mem _ hx)
theorem q_hd {v : Value} (hr : ∀ x ∈ v :: r, q_vcl h x) : q_vcl h v := hr v List.mem_cons_self
theorem q_o_iconst {v : Int} (hok : q_okM M = true) (he : q_nth M.2.2.2.2.1 pos = some (pc, .iconst v, ln, a1, a2, w1, w2)) 
    (hJ : q_J g M d mc ms h0 mv Q k n (pos + 1, ls, (.int (q_li a1 a2) :: st), h)) : q_J g M d mc ms h0 mv Q k n (pos, ls, st, h) := by
  obtain rfl : ln = 1 := (q_at hok he).2.2.1 (Nat.succ_ne_zero _)
  exact q_stk (st' := (.int (q_li a1 a2) :: st)) hok he rfl (fun p e R s m args below meth cd H locs cells slots Qz rls ρ hx hb hd hown hts hl kk => lv_iconst hx hb hd (by have h9 := (q_at hok he).2.2.2; simpa [q_ok2] using h9) kk) (fun h1 h2 => q_cl1 q_vcl_i h1) hJ
theorem q_o_bipush {v : Int} (hok : q_okM M = true) (he : q_nth M.2.2.2.2.1 pos = some (pc, .bipush v, ln, a1, a2, w1, w2)) 
    (hJ : q_J g M d mc ms h0 mv Q k n (pos + 1, ls, (.int (q_li a1 a2) :: st), h)) : q_J g M d mc ms h0 mv Q k n (pos, ls, st, h) := by
  obtain rfl : ln = 2 := (q_at hok he).2.2.1 (Nat.succ_ne_zero _)
  exact q_stk (st' := (.int (q_li a1 a2) :: st)) hok he rfl (fun p e R s m args below meth cd H locs cells slots Qz rls ρ hx hb hd hown hts hl kk => lv_bipush hx hb hd (by have h9 := (q_at hok he).2.2.2; simpa [q_ok2] using h9) kk) (fun h1 h2 => q_cl1 q_vcl_i h1) hJ
theorem q_o_sipush {v : Int} (hok : q_okM M = true) (he : q_nth M.2.2.2.2.1 pos = some (pc, .sipush v, ln, a1, a2, w1, w2)) 
    (hJ : q_J g M d mc ms h0 mv Q k n (pos + 1, ls, (.int (q_li a1 a2) :: st), h)) : q_J g M d mc ms h0 mv Q k n (pos, ls, st, h) := by
  obtain rfl : ln = 3 := (q_at hok he).2.2.1 (Nat.succ_ne_zero _)
  exact q_stk (st' := (.int (q_li a1 a2) :: st)) hok he rfl (fun p e R s m args below meth cd H locs cells slots Qz rls ρ hx hb hd hown hts hl kk => lv_sipush hx hb hd (by have h9 := (q_at hok he).2.2.2; simpa [q_ok2] using h9) kk) (fun h1 h2 => q_cl1 q_vcl_i h1) hJ
theorem q_o_lconst {v : Fin 2} (hok : q_okM M = true) (he : q_nth M.2.2.2.2.1 pos = some (pc, .lconst v, ln, a1, a2, w1, w2)) 
    (hJ : q_J g M d mc ms h0 mv Q k n (pos + 1, ls, (.long (OfNat.ofNat a1) :: st), h)) : q_J g M d mc ms h0 mv Q k n (pos, ls, st, h) := by
  obtain rfl : ln = 1 := (q_at hok he).2.2.1 (Nat.succ_ne_zero _)
  exact q_stk (st' := (.long (OfNat.ofNat a1) :: st)) hok he rfl (fun p e R s m args below meth cd H locs cells slots Qz rls ρ hx hb hd hown hts hl kk => lv_lconst hx hb hd (by have h9 := (q_at hok he).2.2.2; simpa [q_ok2] using h9) kk) (fun h1 h2 => q_cl1 q_vcl_l h1) hJ
theorem q_o_ldc2 {v : Nat} (hok : q_okM M = true) (he : q_nth M.2.2.2.2.1 pos = some (pc, .ldc2_w v, ln, a1, a2, w1, w2)) 
    (hJ : q_J g M d mc ms h0 mv Q k n (pos + 1, ls, (.long (OfNat.ofNat a1) :: st), h)) : q_J g M d mc ms h0 mv Q k n (pos, ls, st, h) := by
  obtain rfl : ln = 3 := (q_at hok he).2.2.1 (Nat.succ_ne_zero _)
  exact q_stk (st' := (.long (OfNat.ofNat a1) :: st)) hok he rfl (fun p e R s m args below meth cd H locs cells slots Qz rls ρ hx hb hd hown hts hl kk => lv_ldc2 hx hb hown (hts _ (q_gw_in (by have h9 := (q_at hok he).2.2.2; simpa [q_ok2] using h9) rfl)) hd kk) (fun h1 h2 => q_cl1 q_vcl_l h1) hJ
theorem q_o_null  (hok : q_okM M = true) (he : q_nth M.2.2.2.2.1 pos = some (pc, .aconst_null, ln, a1, a2, w1, w2)) 
    (hJ : q_J g M d mc ms h0 mv Q k n (pos + 1, ls, (.null :: st), h)) : q_J g M d mc ms h0 mv Q k n (pos, ls, st, h) := by
  obtain rfl : ln = 1 := (q_at hok he).2.2.1 (Nat.succ_ne_zero _)
  exact q_stk (st' := (.null :: st)) hok he rfl (fun p e R s m args below meth cd H locs cells slots Qz rls ρ hx hb hd hown hts hl kk => lv_null hx hb hd kk) (fun h1 h2 => q_cl1 q_vcl_n h1) hJ
theorem q_o_iload_n {v : Fin 4} {x : Int32} (hok : q_okM M = true) (he : q_nth M.2.2.2.2.1 pos = some (pc, .iload_n v, ln, a1, a2, w1, w2)) (hv : q_nth ls v.val = some (some (.int x)))
    (hJ : q_J g M d mc ms h0 mv Q k n (pos + 1, ls, (.int x :: st), h)) : q_J g M d mc ms h0 mv Q k n (pos, ls, st, h) := by
  obtain rfl : ln = 1 := (q_at hok he).2.2.1 (Nat.succ_ne_zero _)
  exact q_stk (st' := (.int x :: st)) hok he rfl (fun p e R s m args below meth cd H locs cells slots Qz rls ρ hx hb hd hown hts hl kk => lv_iload_n hx hb hd rfl (hl _ _ hv) kk) (fun h1 h2 => q_cl1 q_vcl_i h1) hJ
theorem q_o_iload {i : Nat} {x : Int32} (hok : q_okM M = true) (he : q_nth M.2.2.2.2.1 pos = some (pc, .iload i, ln, a1, a2, w1, w2)) (hv : q_nth ls i = some (some (.int x)))
    (hJ : q_J g M d mc ms h0 mv Q k n (pos + 1, ls, (.int x :: st), h)) : q_J g M d mc ms h0 mv Q k n (pos, ls, st, h) := by
  obtain rfl : ln = 2 := (q_at hok he).2.2.1 (Nat.succ_ne_zero _)
  exact q_stk (st' := (.int x :: st)) hok he rfl (fun p e R s m args below meth cd H locs cells slots Qz rls ρ hx hb hd hown hts hl kk => lv_iload hx hb hd (hl _ _ hv) kk) (fun h1 h2 => q_cl1 q_vcl_i h1) hJ
theorem q_o_lload_n {v : Fin 4} {x : Int64} (hok : q_okM M = true) (he : q_nth M.2.2.2.2.1 pos = some (pc, .lload_n v, ln, a1, a2, w1, w2)) (hv : q_nth ls v.val = some (some (.long x)))
    (hJ : q_J g M d mc ms h0 mv Q k n (pos + 1, ls, (.long x :: st), h)) : q_J g M d mc ms h0 mv Q k n (pos, ls, st, h) := by
  obtain rfl : ln = 1 := (q_at hok he).2.2.1 (Nat.succ_ne_zero _)
  exact q_stk (st' := (.long x :: st)) hok he rfl (fun p e R s m args below meth cd H locs cells slots Qz rls ρ hx hb hd hown hts hl kk => lv_lload_n hx hb hd rfl (hl _ _ hv) kk) (fun h1 h2 => q_cl1 q_vcl_l h1) hJ
theorem q_o_lload {i : Nat} {x : Int64} (hok : q_okM M = true) (he : q_nth M.2.2.2.2.1 pos = some (pc, .lload i, ln, a1, a2, w1, w2)) (hv : q_nth ls i = some (some (.long x)))
    (hJ : q_J g M d mc ms h0 mv Q k n (pos + 1, ls, (.long x :: st), h)) : q_J g M d mc ms h0 mv Q k n (pos, ls, st, h) := by
  obtain rfl : ln = 2 := (q_at hok he).2.2.1 (Nat.succ_ne_zero _)
  exact q_stk (st' := (.long x :: st)) hok he rfl (fun p e R s m args below meth cd H locs cells slots Qz rls ρ hx hb hd hown hts hl kk => lv_lload hx hb hd (hl _ _ hv) kk) (fun h1 h2 => q_cl1 q_vcl_l h1) hJ
theorem q_o_dload_n {v : Fin 4} {x : UInt64} (hok : q_okM M = true) (he : q_nth M.2.2.2.2.1 pos = some (pc, .dload_n v, ln, a1, a2, w1, w2)) (hv : q_nth ls v.val = some (some (.double x)))
    (hJ : q_J g M d mc ms h0 mv Q k n (pos + 1, ls, (.double x :: st), h)) : q_J g M d mc ms h0 mv Q k n (pos, ls, st, h) := by
  obtain rfl : ln = 1 := (q_at hok he).2.2.1 (Nat.succ_ne_zero _)
  exact q_stk (st' := (.double x :: st)) hok he rfl (fun p e R s m args below meth cd H locs cells slots Qz rls ρ hx hb hd hown hts hl kk => lv_dload_n hx hb hd rfl (hl _ _ hv) kk) (fun h1 h2 => q_cl1 q_vcl_d h1) hJ
theorem q_o_dload {i : Nat} {x : UInt64} (hok : q_okM M = true) (he : q_nth M.2.2.2.2.1 pos = some (pc, .dload i, ln, a1, a2, w1, w2)) (hv : q_nth ls i = some (some (.double x)))
    (hJ : q_J g M d mc ms h0 mv Q k n (pos + 1, ls, (.double x :: st), h)) : q_J g M d mc ms h0 mv Q k n (pos, ls, st, h) := by
  obtain rfl : ln = 2 := (q_at hok he).2.2.1 (Nat.succ_ne_zero _)
  exact q_stk (st' := (.double x :: st)) hok he rfl (fun p e R s m args below meth cd H locs cells slots Qz rls ρ hx hb hd hown hts hl kk => lv_dload hx hb hd (hl _ _ hv) kk) (fun h1 h2 => q_cl1 q_vcl_d h1) hJ
theorem q_o_aload_n {v : Fin 4} {x : Nat} (hok : q_okM M = true) (he : q_nth M.2.2.2.2.1 pos = some (pc, .aload_n v, ln, a1, a2, w1, w2)) (hv : q_nth ls v.val = some (some (.ref x)))
    (hJ : q_J g M d mc ms h0 mv Q k n (pos + 1, ls, (.ref x :: st), h)) : q_J g M d mc ms h0 mv Q k n (pos, ls, st, h) := by
  obtain rfl : ln = 1 := (q_at hok he).2.2.1 (Nat.succ_ne_zero _)
  exact q_stk (st' := (.ref x :: st)) hok he rfl (fun p e R s m args below meth cd H locs cells slots Qz rls ρ hx hb hd hown hts hl kk => lv_aload_n hx hb hd rfl (hl _ _ hv) kk) (fun h1 h2 => q_cl1 (h2 _ _ hv) h1) hJ
theorem q_o_aload {i : Nat} {x : Nat} (hok : q_okM M = true) (he : q_nth M.2.2.2.2.1 pos = some (pc, .aload i, ln, a1, a2, w1, w2)) (hv : q_nth ls i = some (some (.ref x)))
    (hJ : q_J g M d mc ms h0 mv Q k n (pos + 1, ls, (.ref x :: st), h)) : q_J g M d mc ms h0 mv Q k n (pos, ls, st, h) := by
  obtain rfl : ln = 2 := (q_at hok he).2.2.1 (Nat.succ_ne_zero _)
  exact q_stk (st' := (.ref x :: st)) hok he rfl (fun p e R s m args below meth cd H locs cells slots Qz rls ρ hx hb hd hown hts hl kk => lv_aload hx hb hd (hl _ _ hv) kk) (fun h1 h2 => q_cl1 (h2 _ _ hv) h1) hJ
theorem q_o_aload_nN {v : Fin 4} (hok : q_okM M = true) (he : q_nth M.2.2.2.2.1 pos = some (pc, .aload_n v, ln, a1, a2, w1, w2)) (hv : q_nth ls v.val = some (some .null))
    (hJ : q_J g M d mc ms h0 mv Q k n (pos + 1, ls, (.null :: st), h)) : q_J g M d mc ms h0 mv Q k n (pos, ls, st, h) := by
  obtain rfl : ln = 1 := (q_at hok he).2.2.1 (Nat.succ_ne_zero _)
  exact q_stk (st' := (.null :: st)) hok he rfl (fun p e R s m args below meth cd H locs cells slots Qz rls ρ hx hb hd hown hts hl kk => lv_aload_nN hx hb hd rfl (hl _ _ hv) kk) (fun h1 h2 => q_cl1 q_vcl_n h1) hJ
theorem q_o_aloadN {i : Nat} (hok : q_okM M = true) (he : q_nth M.2.2.2.2.1 pos = some (pc, .aload i, ln, a1, a2, w1, w2)) (hv : q_nth ls i = some (some .null))
    (hJ : q_J g M d mc ms h0 mv Q k n (pos + 1, ls, (.null :: st), h)) : q_J g M d mc ms h0 mv Q k n (pos, ls, st, h) := by
  obtain rfl : ln = 2 := (q_at hok he).2.2.1 (Nat.succ_ne_zero _)
  exact q_stk (st' := (.null :: st)) hok he rfl (fun p e R s m args below meth cd H locs cells slots Qz rls ρ hx hb hd hown hts hl kk => lv_aloadN hx hb hd (hl _ _ hv) kk) (fun h1 h2 => q_cl1 q_vcl_n h1) hJ
theorem q_o_iadd {x y : Int32} (hok : q_okM M = true) (he : q_nth M.2.2.2.2.1 pos = some (pc, .iadd, ln, a1, a2, w1, w2)) 
    (hJ : q_J g M d mc ms h0 mv Q k n (pos + 1, ls, (.int (x + y) :: r), h)) : q_J g M d mc ms h0 mv Q k n (pos, ls, (.int y :: .int x :: r), h) := by
  obtain rfl : ln = 1 := (q_at hok he).2.2.1 (Nat.succ_ne_zero _)
  exact q_stk (st' := (.int (x + y) :: r)) hok he rfl (fun p e R s m args below meth cd H locs cells slots Qz rls ρ hx hb hd hown hts hl kk => lv_iadd hx hb hd kk) (fun h1 h2 => q_cl1 q_vcl_i (q_tl (q_tl h1))) hJ
theorem q_o_isub {x y : Int32} (hok : q_okM M = true) (he : q_nth M.2.2.2.2.1 pos = some (pc, .isub, ln, a1, a2, w1, w2)) 
    (hJ : q_J g M d mc ms h0 mv Q k n (pos + 1, ls, (.int (x - y) :: r), h)) : q_J g M d mc ms h0 mv Q k n (pos, ls, (.int y :: .int x :: r), h) := by
  obtain rfl : ln = 1 := (q_at hok he).2.2.1 (Nat.succ_ne_zero _)
  exact q_stk (st' := (.int (x - y) :: r)) hok he rfl (fun p e R s m args below meth cd H locs cells slots Qz rls ρ hx hb hd hown hts hl kk => lv_isub hx hb hd kk) (fun h1 h2 => q_cl1 q_vcl_i (q_tl (q_tl h1))) hJ
theorem q_o_imul {x y : Int32} (hok : q_okM M = true) (he : q_nth M.2.2.2.2.1 pos = some (pc, .imul, ln, a1, a2, w1, w2)) 
    (hJ : q_J g M d mc ms h0 mv Q k n (pos + 1, ls, (.int (x * y) :: r), h)) : q_J g M d mc ms h0 mv Q k n (pos, ls, (.int y :: .int x :: r), h) := by
  obtain rfl : ln = 1 := (q_at hok he).2.2.1 (Nat.succ_ne_zero _)
  exact q_stk (st' := (.int (x * y) :: r)) hok he rfl (fun p e R s m args below meth cd H locs cells slots Qz rls ρ hx hb hd hown hts hl kk => lv_imul hx hb hd kk) (fun h1 h2 => q_cl1 q_vcl_i (q_tl (q_tl h1))) hJ
theorem q_o_iand {x y : Int32} (hok : q_okM M = true) (he : q_nth M.2.2.2.2.1 pos = some (pc, .iand, ln, a1, a2, w1, w2)) 
    (hJ : q_J g M d mc ms h0 mv Q k n (pos + 1, ls, (.int (x &&& y) :: r), h)) : q_J g M d mc ms h0 mv Q k n (pos, ls, (.int y :: .int x :: r), h) := by
  obtain rfl : ln = 1 := (q_at hok he).2.2.1 (Nat.succ_ne_zero _)
  exact q_stk (st' := (.int (x &&& y) :: r)) hok he rfl (fun p e R s m args below meth cd H locs cells slots Qz rls ρ hx hb hd hown hts hl kk => lv_iand hx hb hd kk) (fun h1 h2 => q_cl1 q_vcl_i (q_tl (q_tl h1))) hJ
theorem q_o_ior {x y : Int32} (hok : q_okM M = true) (he : q_nth M.2.2.2.2.1 pos = some (pc, .ior, ln, a1, a2, w1, w2)) 
    (hJ : q_J g M d mc ms h0 mv Q k n (pos + 1, ls, (.int (x ||| y) :: r), h)) : q_J g M d mc ms h0 mv Q k n (pos, ls, (.int y :: .int x :: r), h) := by
  obtain rfl : ln = 1 := (q_at hok he).2.2.1 (Nat.succ_ne_zero _)
  exact q_stk (st' := (.int (x ||| y) :: r)) hok he rfl (fun p e R s m args below meth cd H locs cells slots Qz rls ρ hx hb hd hown hts hl kk => lv_ior hx hb hd kk) (fun h1 h2 => q_cl1 q_vcl_i (q_tl (q_tl h1))) hJ
theorem q_o_ishr {x y : Int32} (hok : q_okM M = true) (he : q_nth M.2.2.2.2.1 pos = some (pc, .ishr, ln, a1, a2, w1, w2)) 
    (hJ : q_J g M d mc ms h0 mv Q k n (pos + 1, ls, (.int (x >>> (y &&& 31)) :: r), h)) : q_J g M d mc ms h0 mv Q k n (pos, ls, (.int y :: .int x :: r), h) := by
  obtain rfl : ln = 1 := (q_at hok he).2.2.1 (Nat.succ_ne_zero _)
  exact q_stk (st' := (.int (x >>> (y &&& 31)) :: r)) hok he rfl (fun p e R s m args below meth cd H locs cells slots Qz rls ρ hx hb hd hown hts hl kk => lv_ishr hx hb hd kk) (fun h1 h2 => q_cl1 q_vcl_i (q_tl (q_tl h1))) hJ
theorem q_o_idiv {x y : Int32} (hok : q_okM M = true) (he : q_nth M.2.2.2.2.1 pos = some (pc, .idiv, ln, a1, a2, w1, w2)) (hne : ¬ y = 0)
    (hJ : q_J g M d mc ms h0 mv Q k n (pos + 1, ls, (.int (x / y) :: r), h)) : q_J g M d mc ms h0 mv Q k n (pos, ls, (.int y :: .int x :: r), h) := by
  obtain rfl : ln = 1 := (q_at hok he).2.2.1 (Nat.succ_ne_zero _)
  exact q_stk (st' := (.int (x / y) :: r)) hok he rfl (fun p e R s m args below meth cd H locs cells slots Qz rls ρ hx hb hd hown hts hl kk => lv_idiv hx hb hd hne kk) (fun h1 h2 => q_cl1 q_vcl_i (q_tl (q_tl h1))) hJ
theorem q_o_irem {x y : Int32} (hok : q_okM M = true) (he : q_nth M.2.2.2.2.1 pos = some (pc, .irem, ln, a1, a2, w1, w2)) (hne : ¬ y = 0)
    (hJ : q_J g M d mc ms h0 mv Q k n (pos + 1, ls, (.int (x - x / y * y) :: r), h)) : q_J g M d mc ms h0 mv Q k n (pos, ls, (.int y :: .int x :: r), h) := by
  obtain rfl : ln = 1 := (q_at hok he).2.2.1 (Nat.succ_ne_zero _)
  exact q_stk (st' := (.int (x - x / y * y) :: r)) hok he rfl (fun p e R s m args below meth cd H locs cells slots Qz rls ρ hx hb hd hown hts hl kk => lv_irem hx hb hd hne kk) (fun h1 h2 => q_cl1 q_vcl_i (q_tl (q_tl h1))) hJ
theorem q_o_ineg {x : Int32} (hok : q_okM M = true) (he : q_nth M.2.2.2.2.1 pos = some (pc, .ineg, ln, a1, a2, w1, w2)) 
    (hJ : q_J g M d mc ms h0 mv Q k n (pos + 1, ls, (.int (-x) :: r), h)) : q_J g M d mc ms h0 mv Q k n (pos, ls, (.int x :: r), h) := by
  obtain rfl : ln = 1 := (q_at hok he).2.2.1 (Nat.succ_ne_zero _)
  exact q_stk (st' := (.int (-x) :: r)) hok he rfl (fun p e R s m args below meth cd H locs cells slots Qz rls ρ hx hb hd hown hts hl kk => lv_ineg hx hb hd kk) (fun h1 h2 => q_cl1 q_vcl_i (q_tl h1)) hJ
theorem q_o_ladd {x y : Int64} (hok : q_okM M = true) (he : q_nth M.2.2.2.2.1 pos = some (pc, .ladd, ln, a1, a2, w1, w2)) 
    (hJ : q_J g M d mc ms h0 mv Q k n (pos + 1, ls, (.long (x + y) :: r), h)) : q_J g M d mc ms h0 mv Q k n (pos, ls, (.long y :: .long x :: r), h) := by
  obtain rfl : ln = 1 := (q_at hok he).2.2.1 (Nat.succ_ne_zero _)
  exact q_stk (st' := (.long (x + y) :: r)) hok he rfl (fun p e R s m args below meth cd H locs cells slots Qz rls ρ hx hb hd hown hts hl kk => lv_ladd hx hb hd kk) (fun h1 h2 => q_cl1 q_vcl_l (q_tl (q_tl h1))) hJ
theorem q_o_lmul {x y : Int64} (hok : q_okM M = true) (he : q_nth M.2.2.2.2.1 pos = some (pc, .lmul, ln, a1, a2, w1, w2)) 
    (hJ : q_J g M d mc ms h0 mv Q k n (pos + 1, ls, (.long (x * y) :: r), h)) : q_J g M d mc ms h0 mv Q k n (pos, ls, (.long y :: .long x :: r), h) := by
  obtain rfl : ln = 1 := (q_at hok he).2.2.1 (Nat.succ_ne_zero _)
  exact q_stk (st' := (.long (x * y) :: r)) hok he rfl (fun p e R s m args below meth cd H locs cells slots Qz rls ρ hx hb hd hown hts hl kk => lv_lmul hx hb hd kk) (fun h1 h2 => q_cl1 q_vcl_l (q_tl (q_tl h1))) hJ
theorem q_o_i2l {x : Int32} (hok : q_okM M = true) (he : q_nth M.2.2.2.2.1 pos = some (pc, .i2l, ln, a1, a2, w1, w2)) 
    (hJ : q_J g M d mc ms h0 mv Q k n (pos + 1, ls, (.long x.toInt64 :: r), h)) : q_J g M d mc ms h0 mv Q k n (pos, ls, (.int x :: r), h) := by
  obtain rfl : ln = 1 := (q_at hok he).2.2.1 (Nat.succ_ne_zero _)
  exact q_stk (st' := (.long x.toInt64 :: r)) hok he rfl (fun p e R s m args below meth cd H locs cells slots Qz rls ρ hx hb hd hown hts hl kk => lv_i2l hx hb hd rfl kk) (fun h1 h2 => q_cl1 q_vcl_l (q_tl h1)) hJ
theorem q_o_i2b {x : Int32} (hok : q_okM M = true) (he : q_nth M.2.2.2.2.1 pos = some (pc, .i2b, ln, a1, a2, w1, w2)) 
    (hJ : q_J g M d mc ms h0 mv Q k n (pos + 1, ls, (.int x.toInt8.toInt32 :: r), h)) : q_J g M d mc ms h0 mv Q k n (pos, ls, (.int x :: r), h) := by
  obtain rfl : ln = 1 := (q_at hok he).2.2.1 (Nat.succ_ne_zero _)
  exact q_stk (st' := (.int x.toInt8.toInt32 :: r)) hok he rfl (fun p e R s m args below meth cd H locs cells slots Qz rls ρ hx hb hd hown hts hl kk => lv_i2b hx hb hd rfl kk) (fun h1 h2 => q_cl1 q_vcl_i (q_tl h1)) hJ
theorem q_o_i2c {x : Int32} (hok : q_okM M = true) (he : q_nth M.2.2.2.2.1 pos = some (pc, .i2c, ln, a1, a2, w1, w2)) 
    (hJ : q_J g M d mc ms h0 mv Q k n (pos + 1, ls, (.int (x.toUInt32 % 65536).toInt32 :: r), h)) : q_J g M d mc ms h0 mv Q k n (pos, ls, (.int x :: r), h) := by
  obtain rfl : ln = 1 := (q_at hok he).2.2.1 (Nat.succ_ne_zero _)
  exact q_stk (st' := (.int (x.toUInt32 % 65536).toInt32 :: r)) hok he rfl (fun p e R s m args below meth cd H locs cells slots Qz rls ρ hx hb hd hown hts hl kk => lv_i2c hx hb hd rfl kk) (fun h1 h2 => q_cl1 q_vcl_i (q_tl h1)) hJ
theorem q_o_dup {v : Value} (hok : q_okM M = true) (he : q_nth M.2.2.2.2.1 pos = some (pc, .dup, ln, a1, a2, w1, w2)) (hc : v.category = 1)
    (hJ : q_J g M d mc ms h0 mv Q k n (pos + 1, ls, (v :: v :: r), h)) : q_J g M d mc ms h0 mv Q k n (pos, ls, (v :: r), h) := by
  obtain rfl : ln = 1 := (q_at hok he).2.2.1 (Nat.succ_ne_zero _)
  exact q_stk (st' := (v :: v :: r)) hok he rfl (fun p e R s m args below meth cd H locs cells slots Qz rls ρ hx hb hd hown hts hl kk => lv_dup hx hb hd (by cases v <;> first | rfl | exact hc) kk) (fun h1 h2 => q_cl1 (q_hd h1) h1) hJ
theorem q_o_pop {v : Value} (hok : q_okM M = true) (he : q_nth M.2.2.2.2.1 pos = some (pc, .pop, ln, a1, a2, w1, w2)) (hc : v.category = 1)
    (hJ : q_J g M d mc ms h0 mv Q k n (pos + 1, ls, r, h)) : q_J g M d mc ms h0 mv Q k n (pos, ls, (v :: r), h) := by
  obtain rfl : ln = 1 := (q_at hok he).2.2.1 (Nat.succ_ne_zero _)
  exact q_stk (st' := r) hok he rfl (fun p e R s m args below meth cd H locs cells slots Qz rls ρ hx hb hd hown hts hl kk => lv_pop hx hb hd (by cases v <;> first | rfl | exact hc) kk) (fun h1 h2 => q_tl h1) hJ
theorem q_o_dup2 {v w : Value} (hok : q_okM M = true) (he : q_nth M.2.2.2.2.1 pos = some (pc, .dup2, ln, a1, a2, w1, w2)) (hc : v.category = 1) (hc2 : w.category = 1)
    (hJ : q_J g M d mc ms h0 mv Q k n (pos + 1, ls, (v :: w :: v :: w :: r), h)) : q_J g M d mc ms h0 mv Q k n (pos, ls, (v :: w :: r), h) := by
  obtain rfl : ln = 1 := (q_at hok he).2.2.1 (Nat.succ_ne_zero _)
  exact q_stk (st' := (v :: w :: v :: w :: r)) hok he rfl (fun p e R s m args below meth cd H locs cells slots Qz rls ρ hx hb hd hown hts hl kk => lv_dup2_11 hx hb hd (by cases v <;> first | rfl | exact hc) (by cases w <;> first | rfl | exact hc2) kk) (fun h1 h2 => q_cl1 (q_hd h1) (q_cl1 (q_hd (q_tl h1)) h1)) hJ
def q_lv (ρ : Nat → Nat) (ls : List (Option Value)) : List (Nat × Value) := (List.range ls.length).filterMap (fun i => match q_nth ls i with | some (some v) => some (i, q_vz ρ v) | _ => none)
theorem q_nth_lt {α : Type} {l : List α} {i : Nat} {v : α} (hv : q_nth l i = some v) : i < l.length := by
  rw [q_nth_eq] at hv
  exact (List.getElem?_eq_some_iff.mp hv).1
theorem q_lv_in {ρ : Nat → Nat} {ls : List (Option Value)} {i : Nat} {v : Value} (hv : q_nth ls i = some (some v)) : (i, q_vz ρ v) ∈ q_lv ρ ls :=
  List.mem_filterMap.mpr ⟨i, List.mem_range.mpr (q_nth_lt hv), by rw [hv]⟩
theorem q_lv_of {ρ : Nat → Nat} {ls : List (Option Value)} {q : Nat × Value} (hq : q ∈ q_lv ρ ls) : ∃ v, q_nth ls q.1 = some (some v) ∧ q.2 = q_vz ρ v := by
  obtain ⟨i, -, hi⟩ := List.mem_filterMap.mp hq
  split at hi
  · next v hv =>
    cases hi
    exact ⟨v, hv, rfl⟩
  · cases hi
theorem q_lh_has {rls : Array Slot} {nL : Nat} {ρ : Nat → Nat} {ls : List (Option Value)} (hl : q_lh rls nL ρ ls) : lv_has rls nL (q_lv ρ ls) :=
  ⟨hl.1, hl.2.2.1, fun q hq => by obtain ⟨v, h1, h2⟩ := q_lv_of hq; rw [h2]; exact hl.2.2.2 _ _ h1⟩
def q_c2 : Option Value → Bool
  | some (.long _) => true
  | some (.double _) => true
  | _ => false
/-- a place of the locals is set; what goes on then -/
def q_setk {β : Type} : List (Option Value) → Nat → Value → (List (Option Value) → Option β) → Option β
  | [], _, _, _ => none
  | _ :: t, 0, v, K => K (some v :: t)
  | a :: t, 1, v, K => bif q_c2 a then none else q_setk t 0 v (fun t' => K (a :: t'))
  | a :: t, i + 2, v, K => q_setk t (i + 1) v (fun t' => K (a :: t'))
def q_setk2 {β : Type} : List (Option Value) → Nat → Value → (List (Option Value) → Option β) → Option β
  | [], _, _, _ => none
  | _ :: b :: t, 0, v, K => bif q_c2 b then none else K (some v :: none :: t)
  | a :: t, 1, v, K => bif q_c2 a then none else q_setk2 t 0 v (fun t' => K (a :: t'))
  | a :: t, i + 2, v, K => q_setk2 t (i + 1) v (fun t' => K (a :: t'))
  | _, _, _, _ => none
theorem q_setk_of {β : Type} : ∀ (ls : List (Option Value)) (i : Nat) (v : Value) (K : List (Option Value) → Option β) (x : β), q_setk ls i v K = some x →
    ∃ ls', K ls' = some x ∧ ls'.length = ls.length ∧ i < ls.length ∧ (∀ j, q_nth ls' j = if j = i then some (some v) else q_nth ls j) ∧ ∀ j a, j + 1 = i → q_nth ls j = some a → q_c2 a = false
  | [], i, v, K, x, hk => by simp [q_setk] at hk
  | b :: t, 0, v, K, x, hk => ⟨some v :: t, hk, rfl, by simp, fun j => by cases j <;> simp [q_nth], fun j a hj => by omega⟩
  | a :: t, 1, v, K, x, hk => by
    simp only [q_setk] at hk
    cases hc : q_c2 a with
    | true => rw [hc] at hk; simp at hk
    | false =>
      rw [hc, cond_false] at hk
      obtain ⟨ls', e1, e2, e3, e4, e5⟩ := q_setk_of t 0 v _ x hk
      refine ⟨a :: ls', e1, by simp [e2], by simp; omega, fun j => ?_, fun j a' hj ha => ?_⟩
      · cases j with
        | zero => simp [q_nth]
        | succ j => simp only [q_nth, e4 j]; by_cases hj : j = 0 <;> simp [hj]
      · obtain rfl : j = 0 := by omega
        simp only [q_nth, Option.some.injEq] at ha
        rw [← ha]; exact hc
  | a :: t, i + 2, v, K, x, hk => by
    simp only [q_setk] at hk
    obtain ⟨ls', e1, e2, e3, e4, e5⟩ := q_setk_of t (i + 1) v _ x hk
    refine ⟨a :: ls', e1, by simp [e2], by simp; omega, fun j => ?_, fun j a' hj ha => ?_⟩
    · cases j with
      | zero => simp [q_nth]
      | succ j => simp only [q_nth, e4 j]; by_cases hj : j = i + 1 <;> simp [hj]
    · cases j with
      | zero => omega
      | succ j => exact e5 j a' (by omega) (by simpa [q_nth] using ha)
theorem q_setk2_of {β : Type} : ∀ (ls : List (Option Value)) (i : Nat) (v : Value) (K : List (Option Value) → Option β) (x : β), q_setk2 ls i v K = some x →
    ∃ ls', K ls' = some x ∧ ls'.length = ls.length ∧ i + 1 < ls.length ∧ (∀ j, q_nth ls' j = if j = i then some (some v) else if j = i + 1 then some none else q_nth ls j) ∧ ∀ j a, j + 1 = i → q_nth ls j = some a → q_c2 a = false
  | [], i, v, K, x, hk => by simp [q_setk2] at hk
  | [b], 0, v, K, x, hk => by simp [q_setk2] at hk
  | b :: c :: t, 0, v, K, x, hk => by
    simp only [q_setk2] at hk
    cases hc : q_c2 c with
    | true => rw [hc] at hk; simp at hk
    | false =>
      rw [hc, cond_false] at hk
      refine ⟨some v :: none :: t, hk, rfl, by simp, fun j => ?_, fun j a hj => by omega⟩
      match j with
      | 0 => simp [q_nth]
      | 1 => simp [q_nth]
      | j + 2 => simp [q_nth]
  | a :: t, 1, v, K, x, hk => by
    simp only [q_setk2] at hk
    cases hc : q_c2 a with
    | true => rw [hc] at hk; simp at hk
    | false =>
      rw [hc, cond_false] at hk
      obtain ⟨ls', e1, e2, e3, e4, e5⟩ := q_setk2_of t 0 v _ x hk
      refine ⟨a :: ls', e1, by simp [e2], by simp; omega, fun j => ?_, fun j a' hj ha => ?_⟩
      · cases j with
        | zero => simp [q_nth]
        | succ j => simp only [q_nth, e4 j]; by_cases hj : j = 0 <;> simp [hj]
      · obtain rfl : j = 0 := by omega
        simp only [q_nth, Option.some.injEq] at ha
        rw [← ha]; exact hc
  | a :: t, i + 2, v, K, x, hk => by
    simp only [q_setk2] at hk
    obtain ⟨ls', e1, e2, e3, e4, e5⟩ := q_setk2_of t (i + 1) v _ x hk
    refine ⟨a :: ls', e1, by simp [e2], by simp; omega, fun j => ?_, fun j a' hj ha => ?_⟩
    · cases j with
      | zero => simp [q_nth]
      | succ j => simp only [q_nth, e4 j]; by_cases hj : j = i + 1 <;> simp [hj]
    · cases j with
      | zero => omega
      | succ j => exact e5 j a' (by omega) (by simpa [q_nth] using ha)
theorem q_cat {ρ : Nat → Nat} {v : Value} : (q_vz ρ v).category = v.category := by cases v <;> rfl
theorem q_c2_cat {v : Value} (hc : q_c2 (some v) = false) : (v.category == 2) = false := by cases v <;> first | rfl | cases hc
theorem q_lh_set {rls rls' : Array Slot} {nL i : Nat} {ρ : Nat → Nat} {ls' : List (Option Value)} {v w : Value} (hl : q_lh rls nL ρ ls) (hw : w = q_vz ρ v)
    (h' : lv_has rls' nL ((i, w) :: (q_lv ρ ls).filter (fun q => !(q.1 == i) && !(q.1 + 1 == i && q.2.category == 2))))
    (e2 : ls'.length = ls.length) (e4 : ∀ j, q_nth ls' j = if j = i then some (some v) else q_nth ls j) (e5 : ∀ j a, j + 1 = i → q_nth ls j = some a → q_c2 a = false) : q_lh rls' nL ρ ls' := by
  refine ⟨h'.1, e2.trans hl.2.1, h'.2.1, fun j u hj => ?_⟩
  rw [e4] at hj
  by_cases hi : j = i
  · subst hi
    simp only [if_true, Option.some.injEq] at hj
    rw [← hj, ← hw]
    exact h'.2.2 (j, w) List.mem_cons_self
  · rw [if_neg hi] at hj
    refine h'.2.2 (j, q_vz ρ u) (List.mem_cons_of_mem _ (List.mem_filter.mpr ⟨q_lv_in hj, ?_⟩))
    have h1 : (j == i) = false := by simpa using hi
    by_cases h2 : j + 1 = i
    · have h3 := q_c2_cat (e5 j _ h2 hj)
      simp only [h1, q_cat, h3, Bool.and_false, Bool.not_false, Bool.and_self]
    · have h3 : (j + 1 == i) = false := by simpa using h2
      simp only [h1, h3, Bool.false_and, Bool.not_false, Bool.and_self]
theorem q_lh_set2 {rls rls' : Array Slot} {nL i : Nat} {ρ : Nat → Nat} {ls' : List (Option Value)} {v w : Value} (hl : q_lh rls nL ρ ls) (hw : w = q_vz ρ v)
    (h' : lv_has rls' nL ((i, w) :: (q_lv ρ ls).filter (fun q => !(q.1 == i) && (!(q.1 == i + 1) && !(q.1 + 1 == i && q.2.category == 2)))))
    (e2 : ls'.length = ls.length) (e4 : ∀ j, q_nth ls' j = if j = i then some (some v) else if j = i + 1 then some none else q_nth ls j) (e5 : ∀ j a, j + 1 = i → q_nth ls j = some a → q_c2 a = false) : q_lh rls' nL ρ ls' := by
  refine ⟨h'.1, e2.trans hl.2.1, h'.2.1, fun j u hj => ?_⟩
  rw [e4] at hj
  by_cases hi : j = i
  · subst hi
    simp only [if_true, Option.some.injEq] at hj
    rw [← hj, ← hw]
    exact h'.2.2 (j, w) List.mem_cons_self
  · rw [if_neg hi] at hj
    by_cases hi2 : j = i + 1
    · rw [if_pos hi2] at hj; simp at hj
    · rw [if_neg hi2] at hj
      refine h'.2.2 (j, q_vz ρ u) (List.mem_cons_of_mem _ (List.mem_filter.mpr ⟨q_lv_in hj, ?_⟩))
      have h1 : (j == i) = false := by simpa using hi
      have h1' : (j == i + 1) = false := by simpa using hi2
      by_cases h2 : j + 1 = i
      · have h3 := q_c2_cat (e5 j _ h2 hj)
        simp only [h1, h1', q_cat, h3, Bool.and_false, Bool.not_false, Bool.and_self]
      · have h3 : (j + 1 == i) = false := by simpa using h2
        simp only [h1, h1', h3, Bool.false_and, Bool.not_false, Bool.and_self]
/-- a store into the locals -/
theorem q_stl {ls' : List (Option Value)} {st' : List Value} {ins : Instr} (hok : q_okM M = true) (he : q_nth M.2.2.2.2.1 pos = some (pc, ins, ln, a1, a2, w1, w2)) (hf : q_falls ins = true)
    (hrow : ∀ (p : Program) (e : Env) (R : Room) (s : State) (m : MethodId) (args : Array Value) (below : List Frame) (meth : Method) (cd : Code) (H : Heap) (locs : List Loc) (cells slots : Nat) (Qz : State → Prop) (rls : Array Slot) (ρ : Nat → Nat),
      p.tables.exec = Jvm.exec → cd.code = M.2.1 → decode M.2.1 pc = .ok (ins, ln) → q_lh rls M.2.2.1 ρ ls →
      (∀ rls' : Array Slot, q_lh rls' M.2.2.1 ρ ls' → W p g.1 e R s m args below meth cd H locs cells slots Qz (F0 m (pc + ln) rls' (st'.map (q_vz ρ)))) → W p g.1 e R s m args below meth cd H locs cells slots Qz (F0 m pc rls (st.map (q_vz ρ))))
    (hcl : (∀ v ∈ st, q_vcl h v) → (∀ i v, q_nth ls i = some (some v) → q_vcl h v) → (∀ v ∈ st', q_vcl h v) ∧ (∀ i v, q_nth ls' i = some (some v) → q_vcl h v))
    (hJ : q_J g M d mc ms h0 mv Q k n (pos + 1, ls', st', h)) : q_J g M d mc ms h0 mv Q k n (pos, ls, st, h) := by
  intro p e s m args below meth cd D cA ρ0 ρ A H locs rls en hen hB hS
  cases he.symm.trans hen
  obtain ⟨hd, hnx, -, -⟩ := q_at hok he
  obtain ⟨en', he', hpc⟩ := hnx hf
  obtain ⟨hx, hb, hr, hml, hts, hown, hlk, hnm, hxt⟩ := id hB
  obtain ⟨hK, hW, hVS, hX, hC, hst, hls, hlh, hag, hag2, hA, hnx0⟩ := id hS
  refine hrow p e _ s m args below meth cd H locs k n _ rls ρ hx hb hd hlh (fun rls' hlh' => ?_)
  have h9 := hJ p e s m args below meth cd D cA ρ0 ρ A H locs rls' en' he' hB ⟨hK, hW, hVS, hX, hC, (hcl hst hls).1, (hcl hst hls).2, hlh', hag, hag2, hA, hnx0⟩
  rw [hpc] at h9
  exact h9
theorem q_o_istore_n {v : Fin 4} {x : Int32} {ls' : List (Option Value)} (hok : q_okM M = true) (he : q_nth M.2.2.2.2.1 pos = some (pc, .istore_n v, ln, a1, a2, w1, w2)) (hs : q_setk ls v.val (.int x) some = some ls')
    (hJ : q_J g M d mc ms h0 mv Q k n (pos + 1, ls', r, h)) : q_J g M d mc ms h0 mv Q k n (pos, ls, (.int x) :: r, h) := by
  obtain rfl : ln = 1 := (q_at hok he).2.2.1 (Nat.succ_ne_zero _)
  obtain ⟨l2, e1, e2, e3, e4, e5⟩ := q_setk_of _ _ _ _ _ hs
  cases e1
  refine q_stl (st' := r) hok he rfl (fun p e R s m args below meth cd H locs cells slots Qz rls ρ hx hb hd hl kk => ?_) (fun h1 h2 => ⟨q_tl h1, fun j u hj => ?_⟩) hJ
  · exact lv_istore_n hx hb hd rfl (q_lh_has hl) (by rw [← hl.2.1]; exact e3) rfl (fun rls' h' => kk rls' (q_lh_set hl rfl h' e2 e4 e5))
  · rw [e4] at hj
    by_cases hj2 : j = v.val
    · rw [if_pos hj2] at hj
      cases hj
      exact q_hd h1
    · rw [if_neg hj2] at hj
      exact h2 _ _ hj
theorem q_o_istore {i : Nat} {x : Int32} {ls' : List (Option Value)} (hok : q_okM M = true) (he : q_nth M.2.2.2.2.1 pos = some (pc, .istore i, ln, a1, a2, w1, w2)) (hs : q_setk ls i (.int x) some = some ls')
    (hJ : q_J g M d mc ms h0 mv Q k n (pos + 1, ls', r, h)) : q_J g M d mc ms h0 mv Q k n (pos, ls, (.int x) :: r, h) := by
  obtain rfl : ln = 2 := (q_at hok he).2.2.1 (Nat.succ_ne_zero _)
  obtain ⟨l2, e1, e2, e3, e4, e5⟩ := q_setk_of _ _ _ _ _ hs
  cases e1
  refine q_stl (st' := r) hok he rfl (fun p e R s m args below meth cd H locs cells slots Qz rls ρ hx hb hd hl kk => ?_) (fun h1 h2 => ⟨q_tl h1, fun j u hj => ?_⟩) hJ
  · exact lv_istore hx hb hd (q_lh_has hl) (by rw [← hl.2.1]; exact e3) rfl (fun rls' h' => kk rls' (q_lh_set hl rfl h' e2 e4 e5))
  · rw [e4] at hj
    by_cases hj2 : j = i
    · rw [if_pos hj2] at hj
      cases hj
      exact q_hd h1
    · rw [if_neg hj2] at hj
      exact h2 _ _ hj
theorem q_o_astore_n {v : Fin 4} {x : Nat} {ls' : List (Option Value)} (hok : q_okM M = true) (he : q_nth M.2.2.2.2.1 pos = some (pc, .astore_n v, ln, a1, a2, w1, w2)) (hs : q_setk ls v.val (.ref x) some = some ls')
    (hJ : q_J g M d mc ms h0 mv Q k n (pos + 1, ls', r, h)) : q_J g M d mc ms h0 mv Q k n (pos, ls, (.ref x) :: r, h) := by
  obtain rfl : ln = 1 := (q_at hok he).2.2.1 (Nat.succ_ne_zero _)
  obtain ⟨l2, e1, e2, e3, e4, e5⟩ := q_setk_of _ _ _ _ _ hs
  cases e1
  refine q_stl (st' := r) hok he rfl (fun p e R s m args below meth cd H locs cells slots Qz rls ρ hx hb hd hl kk => ?_) (fun h1 h2 => ⟨q_tl h1, fun j u hj => ?_⟩) hJ
  · exact lv_astore_n hx hb hd rfl (q_lh_has hl) (by rw [← hl.2.1]; exact e3) rfl (fun rls' h' => kk rls' (q_lh_set hl rfl h' e2 e4 e5))
  · rw [e4] at hj
    by_cases hj2 : j = v.val
    · rw [if_pos hj2] at hj
      cases hj
      exact q_hd h1
    · rw [if_neg hj2] at hj
      exact h2 _ _ hj
theorem q_o_astore {i : Nat} {x : Nat} {ls' : List (Option Value)} (hok : q_okM M = true) (he : q_nth M.2.2.2.2.1 pos = some (pc, .astore i, ln, a1, a2, w1, w2)) (hs : q_setk ls i (.ref x) some = some ls')
    (hJ : q_J g M d mc ms h0 mv Q k n (pos + 1, ls', r, h)) : q_J g M d mc ms h0 mv Q k n (pos, ls, (.ref x) :: r, h) := by
  obtain rfl : ln = 2 := (q_at hok he).2.2.1 (Nat.succ_ne_zero _)
  obtain ⟨l2, e1, e2, e3, e4, e5⟩ := q_setk_of _ _ _ _ _ hs
  cases e1
  refine q_stl (st' := r) hok he rfl (fun p e R s m args below meth cd H locs cells slots Qz rls ρ hx hb hd hl kk => ?_) (fun h1 h2 => ⟨q_tl h1, fun j u hj => ?_⟩) hJ
  · exact lv_astore hx hb hd (q_lh_has hl) (by rw [← hl.2.1]; exact e3) rfl (fun rls' h' => kk rls' (q_lh_set hl rfl h' e2 e4 e5))
  · rw [e4] at hj
    by_cases hj2 : j = i
    · rw [if_pos hj2] at hj
      cases hj
      exact q_hd h1
    · rw [if_neg hj2] at hj
      exact h2 _ _ hj
theorem q_o_astore_nN {v : Fin 4}  {ls' : List (Option Value)} (hok : q_okM M = true) (he : q_nth M.2.2.2.2.1 pos = some (pc, .astore_n v, ln, a1, a2, w1, w2)) (hs : q_setk ls v.val .null some = some ls')
    (hJ : q_J g M d mc ms h0 mv Q k n (pos + 1, ls', r, h)) : q_J g M d mc ms h0 mv Q k n (pos, ls, .null :: r, h) := by
  obtain rfl : ln = 1 := (q_at hok he).2.2.1 (Nat.succ_ne_zero _)
  obtain ⟨l2, e1, e2, e3, e4, e5⟩ := q_setk_of _ _ _ _ _ hs
  cases e1
  refine q_stl (st' := r) hok he rfl (fun p e R s m args below meth cd H locs cells slots Qz rls ρ hx hb hd hl kk => ?_) (fun h1 h2 => ⟨q_tl h1, fun j u hj => ?_⟩) hJ
  · exact lv_astore_nN hx hb hd rfl (q_lh_has hl) (by rw [← hl.2.1]; exact e3) rfl (fun rls' h' => kk rls' (q_lh_set hl rfl h' e2 e4 e5))
  · rw [e4] at hj
    by_cases hj2 : j = v.val
    · rw [if_pos hj2] at hj
      cases hj
      exact q_hd h1
    · rw [if_neg hj2] at hj
      exact h2 _ _ hj
theorem q_o_astoreN {i : Nat}  {ls' : List (Option Value)} (hok : q_okM M = true) (he : q_nth M.2.2.2.2.1 pos = some (pc, .astore i, ln, a1, a2, w1, w2)) (hs : q_setk ls i .null some = some ls')
    (hJ : q_J g M d mc ms h0 mv Q k n (pos + 1, ls', r, h)) : q_J g M d mc ms h0 mv Q k n (pos, ls, .null :: r, h) := by
  obtain rfl : ln = 2 := (q_at hok he).2.2.1 (Nat.succ_ne_zero _)
  obtain ⟨l2, e1, e2, e3, e4, e5⟩ := q_setk_of _ _ _ _ _ hs
  cases e1
  refine q_stl (st' := r) hok he rfl (fun p e R s m args below meth cd H locs cells slots Qz rls ρ hx hb hd hl kk => ?_) (fun h1 h2 => ⟨q_tl h1, fun j u hj => ?_⟩) hJ
  · exact lv_astoreN hx hb hd (q_lh_has hl) (by rw [← hl.2.1]; exact e3) rfl (fun rls' h' => kk rls' (q_lh_set hl rfl h' e2 e4 e5))
  · rw [e4] at hj
    by_cases hj2 : j = i
    · rw [if_pos hj2] at hj
      cases hj
      exact q_hd h1
    · rw [if_neg hj2] at hj
      exact h2 _ _ hj
theorem q_o_lstore_n {v : Fin 4} {x : Int64} {ls' : List (Option Value)} (hok : q_okM M = true) (he : q_nth M.2.2.2.2.1 pos = some (pc, .lstore_n v, ln, a1, a2, w1, w2)) (hs : q_setk2 ls v.val (.long x) some = some ls')
    (hJ : q_J g M d mc ms h0 mv Q k n (pos + 1, ls', r, h)) : q_J g M d mc ms h0 mv Q k n (pos, ls, (.long x) :: r, h) := by
  obtain rfl : ln = 1 := (q_at hok he).2.2.1 (Nat.succ_ne_zero _)
  obtain ⟨l2, e1, e2, e3, e4, e5⟩ := q_setk2_of _ _ _ _ _ hs
  cases e1
  refine q_stl (st' := r) hok he rfl (fun p e R s m args below meth cd H locs cells slots Qz rls ρ hx hb hd hl kk => ?_) (fun h1 h2 => ⟨q_tl h1, fun j u hj => ?_⟩) hJ
  · exact lv_lstore_n hx hb hd rfl (q_lh_has hl) (by rw [← hl.2.1]; exact e3) rfl (fun rls' h' => kk rls' (q_lh_set2 hl rfl h' e2 e4 e5))
  · rw [e4] at hj
    by_cases hj2 : j = v.val
    · rw [if_pos hj2] at hj
      cases hj
      exact q_hd h1
    · rw [if_neg hj2] at hj
      by_cases hj3 : j = v.val + 1
      · rw [if_pos hj3] at hj; cases hj
      rw [if_neg hj3] at hj
      exact h2 _ _ hj
theorem q_o_lstore {i : Nat} {x : Int64} {ls' : List (Option Value)} (hok : q_okM M = true) (he : q_nth M.2.2.2.2.1 pos = some (pc, .lstore i, ln, a1, a2, w1, w2)) (hs : q_setk2 ls i (.long x) some = some ls')
    (hJ : q_J g M d mc ms h0 mv Q k n (pos + 1, ls', r, h)) : q_J g M d mc ms h0 mv Q k n (pos, ls, (.long x) :: r, h) := by
  obtain rfl : ln = 2 := (q_at hok he).2.2.1 (Nat.succ_ne_zero _)
  obtain ⟨l2, e1, e2, e3, e4, e5⟩ := q_setk2_of _ _ _ _ _ hs
  cases e1
  refine q_stl (st' := r) hok he rfl (fun p e R s m args below meth cd H locs cells slots Qz rls ρ hx hb hd hl kk => ?_) (fun h1 h2 => ⟨q_tl h1, fun j u hj => ?_⟩) hJ
  · exact lv_lstore hx hb hd (q_lh_has hl) (by rw [← hl.2.1]; exact e3) rfl (fun rls' h' => kk rls' (q_lh_set2 hl rfl h' e2 e4 e5))
  · rw [e4] at hj
    by_cases hj2 : j = i
    · rw [if_pos hj2] at hj
      cases hj
      exact q_hd h1
    · rw [if_neg hj2] at hj
      by_cases hj3 : j = i + 1
      · rw [if_pos hj3] at hj; cases hj
      rw [if_neg hj3] at hj
      exact h2 _ _ hj
theorem q_o_dstore_n {v : Fin 4} {x : UInt64} {ls' : List (Option Value)} (hok : q_okM M = true) (he : q_nth M.2.2.2.2.1 pos = some (pc, .dstore_n v, ln, a1, a2, w1, w2)) (hs : q_setk2 ls v.val (.double x) some = some ls')
    (hJ : q_J g M d mc ms h0 mv Q k n (pos + 1, ls', r, h)) : q_J g M d mc ms h0 mv Q k n (pos, ls, (.double x) :: r, h) := by
  obtain rfl : ln = 1 := (q_at hok he).2.2.1 (Nat.succ_ne_zero _)
  obtain ⟨l2, e1, e2, e3, e4, e5⟩ := q_setk2_of _ _ _ _ _ hs
  cases e1
  refine q_stl (st' := r) hok he rfl (fun p e R s m args below meth cd H locs cells slots Qz rls ρ hx hb hd hl kk => ?_) (fun h1 h2 => ⟨q_tl h1, fun j u hj => ?_⟩) hJ
  · exact lv_dstore_n hx hb hd rfl (q_lh_has hl) (by rw [← hl.2.1]; exact e3) rfl (fun rls' h' => kk rls' (q_lh_set2 hl rfl h' e2 e4 e5))
  · rw [e4] at hj
    by_cases hj2 : j = v.val
    · rw [if_pos hj2] at hj
      cases hj
      exact q_hd h1
    · rw [if_neg hj2] at hj
      by_cases hj3 : j = v.val + 1
      · rw [if_pos hj3] at hj; cases hj
      rw [if_neg hj3] at hj
      exact h2 _ _ hj
theorem q_o_dstore {i : Nat} {x : UInt64} {ls' : List (Option Value)} (hok : q_okM M = true) (he : q_nth M.2.2.2.2.1 pos = some (pc, .dstore i, ln, a1, a2, w1, w2)) (hs : q_setk2 ls i (.double x) some = some ls')
    (hJ : q_J g M d mc ms h0 mv Q k n (pos + 1, ls', r, h)) : q_J g M d mc ms h0 mv Q k n (pos, ls, (.double x) :: r, h) := by
  obtain rfl : ln = 2 := (q_at hok he).2.2.1 (Nat.succ_ne_zero _)
  obtain ⟨l2, e1, e2, e3, e4, e5⟩ := q_setk2_of _ _ _ _ _ hs
  cases e1
  refine q_stl (st' := r) hok he rfl (fun p e R s m args below meth cd H locs cells slots Qz rls ρ hx hb hd hl kk => ?_) (fun h1 h2 => ⟨q_tl h1, fun j u hj => ?_⟩) hJ
  · exact lv_dstore hx hb hd (q_lh_has hl) (by rw [← hl.2.1]; exact e3) rfl (fun rls' h' => kk rls' (q_lh_set2 hl rfl h' e2 e4 e5))
  · rw [e4] at hj
    by_cases hj2 : j = i
    · rw [if_pos hj2] at hj
      cases hj
      exact q_hd h1
    · rw [if_neg hj2] at hj
      by_cases hj3 : j = i + 1
      · rw [if_pos hj3] at hj; cases hj
      rw [if_neg hj3] at hj
      exact h2 _ _ hj
theorem q_o_iinc {i : Nat} {v : Int} {x : Int32} {ls' : List (Option Value)} (hok : q_okM M = true) (he : q_nth M.2.2.2.2.1 pos = some (pc, .iinc i v, ln, a1, a2, w1, w2)) (hv : q_nth ls i = some (some (.int x))) (hs : q_setk ls i (.int (x + q_li a1 a2)) some = some ls')
    (hJ : q_J g M d mc ms h0 mv Q k n (pos + 1, ls', st, h)) : q_J g M d mc ms h0 mv Q k n (pos, ls, st, h) := by
  obtain rfl : ln = 3 := (q_at hok he).2.2.1 (Nat.succ_ne_zero _)
  obtain ⟨l2, e1, e2, e3, e4, e5⟩ := q_setk_of _ _ _ _ _ hs
  cases e1
  refine q_stl (st' := st) hok he rfl (fun p e R s m args below meth cd H locs cells slots Qz rls ρ hx hb hd hl kk => ?_) (fun h1 h2 => ⟨h1, fun j u hj => ?_⟩) hJ
  · obtain ⟨kx, hkx⟩ := List.getElem?_of_mem (q_lv_in (ρ := ρ) hv)
    have h9 := (q_at hok he).2.2.2
    simp only [q_ok2, decide_eq_true_eq] at h9
    exact lv_iinc (v := x + q_li a1 a2) hx hb hd (q_lh_has hl) hkx (by rw [h9]) (by rw [← hl.2.1]; exact e3) rfl (fun rls' h' => kk rls' (q_lh_set hl rfl h' e2 e4 e5))
  · rw [e4] at hj
    by_cases hj2 : j = i
    · rw [if_pos hj2] at hj
      cases hj
      exact q_vcl_i
    · rw [if_neg hj2] at hj
      exact h2 _ _ hj
/-- a branch: to one of two places -/
theorem q_br2 {ls : List (Option Value)} {st st' : List Value} {ins : Instr} {P : Prop} (hok : q_okM M = true) (he : q_nth M.2.2.2.2.1 pos = some (pc, ins, ln, a1, a2, w1, w2)) (hf : q_falls ins = true) (off : Int) (hto : q_ok2 M.1.cls M.1.name M.2.2.2.2.1 (pc, ins, ln, a1, a2, w1, w2) = q_tgt M.2.2.2.2.1 pc a1 off)
    (hrow : ∀ (p : Program) (e : Env) (R : Room) (s : State) (m : MethodId) (args : Array Value) (below : List Frame) (meth : Method) (cd : Code) (H : Heap) (locs : List Loc) (cells slots : Nat) (Qz : State → Prop) (rls : Array Slot) (ρ : Nat → Nat) (tgt : Nat),
      p.tables.exec = Jvm.exec → cd.code = M.2.1 → decode M.2.1 pc = .ok (ins, ln) → (pc : Int) + off = (tgt : Int) →
      (P → W p g.1 e R s m args below meth cd H locs cells slots Qz (F0 m tgt rls (st'.map (q_vz ρ)))) → (¬ P → W p g.1 e R s m args below meth cd H locs cells slots Qz (F0 m (pc + ln) rls (st'.map (q_vz ρ)))) → W p g.1 e R s m args below meth cd H locs cells slots Qz (F0 m pc rls (st.map (q_vz ρ))))
    (hcl : (∀ v ∈ st, q_vcl h v) → ∀ v ∈ st', q_vcl h v)
    (hT : P → q_J g M d mc ms h0 mv Q k n (a1, ls, st', h)) (hF : ¬ P → q_J g M d mc ms h0 mv Q k n (pos + 1, ls, st', h)) : q_J g M d mc ms h0 mv Q k n (pos, ls, st, h) := by
  intro p e s m args below meth cd D cA ρ0 ρ A H locs rls en hen hB hS
  cases he.symm.trans hen
  obtain ⟨hd, hnx, -, ho2⟩ := q_at hok he
  obtain ⟨en', he', hpc⟩ := hnx hf
  rw [hto] at ho2
  unfold q_tgt at ho2
  cases hq : q_nth M.2.2.2.2.1 a1 with
  | none => rw [hq] at ho2; cases ho2
  | some et =>
  rw [hq] at ho2
  have htg : (pc : Int) + off = (et.1 : Int) := by simpa using ho2
  obtain ⟨hx, hb, hr, hml, hts, hown, hlk, hnm, hxt⟩ := id hB
  obtain ⟨hK, hW, hVS, hX, hC, hst, hls, hlh, hag, hag2, hA, hnx0⟩ := id hS
  refine hrow p e _ s m args below meth cd H locs k n _ rls ρ et.1 hx hb hd htg (fun hP => ?_) (fun hP => ?_)
  · exact hT hP p e s m args below meth cd D cA ρ0 ρ A H locs rls et hq hB ⟨hK, hW, hVS, hX, hC, hcl hst, hls, hlh, hag, hag2, hA, hnx0⟩
  · have h9 := hF hP p e s m args below meth cd D cA ρ0 ρ A H locs rls en' he' hB ⟨hK, hW, hVS, hX, hC, hcl hst, hls, hlh, hag, hag2, hA, hnx0⟩
    rw [hpc] at h9
    exact h9
theorem q_o_if_eq {off : Int} {x : Int32} (hok : q_okM M = true) (he : q_nth M.2.2.2.2.1 pos = some (pc, .ifCond .eq off, ln, a1, a2, w1, w2))
    (hT : x = 0 → q_J g M d mc ms h0 mv Q k n (a1, ls, r, h)) (hF : ¬ (x = 0) → q_J g M d mc ms h0 mv Q k n (pos + 1, ls, r, h)) : q_J g M d mc ms h0 mv Q k n (pos, ls, .int x :: r, h) := by
  obtain rfl : ln = 3 := (q_at hok he).2.2.1 (Nat.succ_ne_zero _)
  exact q_br2 (P := x = 0) (st' := r) hok he rfl off rfl (fun p e R s m args below meth cd H locs cells slots Qz rls ρ tgt hx hb hd ht kt kf => lv_if_eq hx hb hd ht kt kf) (fun h1 => q_tl h1) hT hF
theorem q_o_icmp_eq {off : Int} {x y : Int32} (hok : q_okM M = true) (he : q_nth M.2.2.2.2.1 pos = some (pc, .if_icmp .eq off, ln, a1, a2, w1, w2))
    (hT : x = y → q_J g M d mc ms h0 mv Q k n (a1, ls, r, h)) (hF : ¬ (x = y) → q_J g M d mc ms h0 mv Q k n (pos + 1, ls, r, h)) : q_J g M d mc ms h0 mv Q k n (pos, ls, .int y :: .int x :: r, h) := by
  obtain rfl : ln = 3 := (q_at hok he).2.2.1 (Nat.succ_ne_zero _)
  exact q_br2 (P := x = y) (st' := r) hok he rfl off rfl (fun p e R s m args below meth cd H locs cells slots Qz rls ρ tgt hx hb hd ht kt kf => lv_icmp_eq hx hb hd ht kt kf) (fun h1 => q_tl (q_tl h1)) hT hF
theorem q_o_if_ne {off : Int} {x : Int32} (hok : q_okM M = true) (he : q_nth M.2.2.2.2.1 pos = some (pc, .ifCond .ne off, ln, a1, a2, w1, w2))
    (hT : ¬ x = 0 → q_J g M d mc ms h0 mv Q k n (a1, ls, r, h)) (hF : ¬ (¬ x = 0) → q_J g M d mc ms h0 mv Q k n (pos + 1, ls, r, h)) : q_J g M d mc ms h0 mv Q k n (pos, ls, .int x :: r, h) := by
  obtain rfl : ln = 3 := (q_at hok he).2.2.1 (Nat.succ_ne_zero _)
  exact q_br2 (P := ¬ x = 0) (st' := r) hok he rfl off rfl (fun p e R s m args below meth cd H locs cells slots Qz rls ρ tgt hx hb hd ht kt kf => lv_if_ne hx hb hd ht kt (fun h9 => kf (fun h8 => h8 h9))) (fun h1 => q_tl h1) hT hF
theorem q_o_icmp_ne {off : Int} {x y : Int32} (hok : q_okM M = true) (he : q_nth M.2.2.2.2.1 pos = some (pc, .if_icmp .ne off, ln, a1, a2, w1, w2))
    (hT : ¬ x = y → q_J g M d mc ms h0 mv Q k n (a1, ls, r, h)) (hF : ¬ (¬ x = y) → q_J g M d mc ms h0 mv Q k n (pos + 1, ls, r, h)) : q_J g M d mc ms h0 mv Q k n (pos, ls, .int y :: .int x :: r, h) := by
  obtain rfl : ln = 3 := (q_at hok he).2.2.1 (Nat.succ_ne_zero _)
  exact q_br2 (P := ¬ x = y) (st' := r) hok he rfl off rfl (fun p e R s m args below meth cd H locs cells slots Qz rls ρ tgt hx hb hd ht kt kf => lv_icmp_ne hx hb hd ht kt (fun h9 => kf (fun h8 => h8 h9))) (fun h1 => q_tl (q_tl h1)) hT hF
theorem q_o_if_lt {off : Int} {x : Int32} (hok : q_okM M = true) (he : q_nth M.2.2.2.2.1 pos = some (pc, .ifCond .lt off, ln, a1, a2, w1, w2))
    (hT : x < 0 → q_J g M d mc ms h0 mv Q k n (a1, ls, r, h)) (hF : ¬ (x < 0) → q_J g M d mc ms h0 mv Q k n (pos + 1, ls, r, h)) : q_J g M d mc ms h0 mv Q k n (pos, ls, .int x :: r, h) := by
  obtain rfl : ln = 3 := (q_at hok he).2.2.1 (Nat.succ_ne_zero _)
  exact q_br2 (P := x < 0) (st' := r) hok he rfl off rfl (fun p e R s m args below meth cd H locs cells slots Qz rls ρ tgt hx hb hd ht kt kf => lv_if_lt hx hb hd ht kt kf) (fun h1 => q_tl h1) hT hF
theorem q_o_icmp_lt {off : Int} {x y : Int32} (hok : q_okM M = true) (he : q_nth M.2.2.2.2.1 pos = some (pc, .if_icmp .lt off, ln, a1, a2, w1, w2))
    (hT : x < y → q_J g M d mc ms h0 mv Q k n (a1, ls, r, h)) (hF : ¬ (x < y) → q_J g M d mc ms h0 mv Q k n (pos + 1, ls, r, h)) : q_J g M d mc ms h0 mv Q k n (pos, ls, .int y :: .int x :: r, h) := by
  obtain rfl : ln = 3 := (q_at hok he).2.2.1 (Nat.succ_ne_zero _)
  exact q_br2 (P := x < y) (st' := r) hok he rfl off rfl (fun p e R s m args below meth cd H locs cells slots Qz rls ρ tgt hx hb hd ht kt kf => lv_icmp_lt hx hb hd ht kt kf) (fun h1 => q_tl (q_tl h1)) hT hF
theorem q_o_if_ge {off : Int} {x : Int32} (hok : q_okM M = true) (he : q_nth M.2.2.2.2.1 pos = some (pc, .ifCond .ge off, ln, a1, a2, w1, w2))
    (hT : 0 ≤ x → q_J g M d mc ms h0 mv Q k n (a1, ls, r, h)) (hF : ¬ (0 ≤ x) → q_J g M d mc ms h0 mv Q k n (pos + 1, ls, r, h)) : q_J g M d mc ms h0 mv Q k n (pos, ls, .int x :: r, h) := by
  obtain rfl : ln = 3 := (q_at hok he).2.2.1 (Nat.succ_ne_zero _)
  exact q_br2 (P := 0 ≤ x) (st' := r) hok he rfl off rfl (fun p e R s m args below meth cd H locs cells slots Qz rls ρ tgt hx hb hd ht kt kf => lv_if_ge hx hb hd ht kt kf) (fun h1 => q_tl h1) hT hF
theorem q_o_icmp_ge {off : Int} {x y : Int32} (hok : q_okM M = true) (he : q_nth M.2.2.2.2.1 pos = some (pc, .if_icmp .ge off, ln, a1, a2, w1, w2))
    (hT : y ≤ x → q_J g M d mc ms h0 mv Q k n (a1, ls, r, h)) (hF : ¬ (y ≤ x) → q_J g M d mc ms h0 mv Q k n (pos + 1, ls, r, h)) : q_J g M d mc ms h0 mv Q k n (pos, ls, .int y :: .int x :: r, h) := by
  obtain rfl : ln = 3 := (q_at hok he).2.2.1 (Nat.succ_ne_zero _)
  exact q_br2 (P := y ≤ x) (st' := r) hok he rfl off rfl (fun p e R s m args below meth cd H locs cells slots Qz rls ρ tgt hx hb hd ht kt kf => lv_icmp_ge hx hb hd ht kt kf) (fun h1 => q_tl (q_tl h1)) hT hF
theorem q_o_if_gt {off : Int} {x : Int32} (hok : q_okM M = true) (he : q_nth M.2.2.2.2.1 pos = some (pc, .ifCond .gt off, ln, a1, a2, w1, w2))
    (hT : 0 < x → q_J g M d mc ms h0 mv Q k n (a1, ls, r, h)) (hF : ¬ (0 < x) → q_J g M d mc ms h0 mv Q k n (pos + 1, ls, r, h)) : q_J g M d mc ms h0 mv Q k n (pos, ls, .int x :: r, h) := by
  obtain rfl : ln = 3 := (q_at hok he).2.2.1 (Nat.succ_ne_zero _)
  exact q_br2 (P := 0 < x) (st' := r) hok he rfl off rfl (fun p e R s m args below meth cd H locs cells slots Qz rls ρ tgt hx hb hd ht kt kf => lv_if_gt hx hb hd ht kt kf) (fun h1 => q_tl h1) hT hF
theorem q_o_icmp_gt {off : Int} {x y : Int32} (hok : q_okM M = true) (he : q_nth M.2.2.2.2.1 pos = some (pc, .if_icmp .gt off, ln, a1, a2, w1, w2))
    (hT : y < x → q_J g M d mc ms h0 mv Q k n (a1, ls, r, h)) (hF : ¬ (y < x) → q_J g M d mc ms h0 mv Q k n (pos + 1, ls, r, h)) : q_J g M d mc ms h0 mv Q k n (pos, ls, .int y :: .int x :: r, h) := by
  obtain rfl : ln = 3 := (q_at hok he).2.2.1 (Nat.succ_ne_zero _)
  exact q_br2 (P := y < x) (st' := r) hok he rfl off rfl (fun p e R s m args below meth cd H locs cells slots Qz rls ρ tgt hx hb hd ht kt kf => lv_icmp_gt hx hb hd ht kt kf) (fun h1 => q_tl (q_tl h1)) hT hF
theorem q_o_if_le {off : Int} {x : Int32} (hok : q_okM M = true) (he : q_nth M.2.2.2.2.1 pos = some (pc, .ifCond .le off, ln, a1, a2, w1, w2))
    (hT : x ≤ 0 → q_J g M d mc ms h0 mv Q k n (a1, ls, r, h)) (hF : ¬ (x ≤ 0) → q_J g M d mc ms h0 mv Q k n (pos + 1, ls, r, h)) : q_J g M d mc ms h0 mv Q k n (pos, ls, .int x :: r, h) := by
  obtain rfl : ln = 3 := (q_at hok he).2.2.1 (Nat.succ_ne_zero _)
  exact q_br2 (P := x ≤ 0) (st' := r) hok he rfl off rfl (fun p e R s m args below meth cd H locs cells slots Qz rls ρ tgt hx hb hd ht kt kf => lv_if_le hx hb hd ht kt kf) (fun h1 => q_tl h1) hT hF
theorem q_o_icmp_le {off : Int} {x y : Int32} (hok : q_okM M = true) (he : q_nth M.2.2.2.2.1 pos = some (pc, .if_icmp .le off, ln, a1, a2, w1, w2))
    (hT : x ≤ y → q_J g M d mc ms h0 mv Q k n (a1, ls, r, h)) (hF : ¬ (x ≤ y) → q_J g M d mc ms h0 mv Q k n (pos + 1, ls, r, h)) : q_J g M d mc ms h0 mv Q k n (pos, ls, .int y :: .int x :: r, h) := by
  obtain rfl : ln = 3 := (q_at hok he).2.2.1 (Nat.succ_ne_zero _)
  exact q_br2 (P := x ≤ y) (st' := r) hok he rfl off rfl (fun p e R s m args below meth cd H locs cells slots Qz rls ρ tgt hx hb hd ht kt kf => lv_icmp_le hx hb hd ht kt kf) (fun h1 => q_tl (q_tl h1)) hT hF
theorem q_o_goto {off : Int} (hok : q_okM M = true) (he : q_nth M.2.2.2.2.1 pos = some (pc, .goto off, ln, a1, a2, w1, w2)) (hT : q_J g M d mc ms h0 mv Q k n (a1, ls, st, h)) : q_J g M d mc ms h0 mv Q k n (pos, ls, st, h) := by
  obtain rfl : ln = 3 := (q_at hok he).2.2.1 (Nat.succ_ne_zero _)
  intro p e s m args below meth cd D cA ρ0 ρ A H locs rls en hen hB hS
  cases he.symm.trans hen
  obtain ⟨hd, -, -, ho2⟩ := q_at hok he
  have ho2 : q_tgt M.2.2.2.2.1 pc a1 off = true := ho2
  unfold q_tgt at ho2
  cases hq : q_nth M.2.2.2.2.1 a1 with
  | none => rw [hq] at ho2; cases ho2
  | some et =>
  rw [hq] at ho2
  have htg : (pc : Int) + off = (et.1 : Int) := by simpa using ho2
  exact lv_goto hB.1 hB.2.1 hd htg (hT p e s m args below meth cd D cA ρ0 ρ A H locs rls et hq hB hS)
theorem q_o_ifnullR {off : Int} {x : Nat} (hok : q_okM M = true) (he : q_nth M.2.2.2.2.1 pos = some (pc, .ifnull off, ln, a1, a2, w1, w2)) (hF : q_J g M d mc ms h0 mv Q k n (pos + 1, ls, r, h)) : q_J g M d mc ms h0 mv Q k n (pos, ls, .ref x :: r, h) := by
  obtain rfl : ln = 3 := (q_at hok he).2.2.1 (Nat.succ_ne_zero _)
  exact q_stk (st' := r) hok he rfl (fun p e R s m args below meth cd H locs cells slots Qz rls ρ hx hb hd hown hts hl kk => lv_ifnull hx hb hd kk) (fun h1 h2 => q_tl h1) hF
theorem q_o_ifnonnullN {off : Int} (hok : q_okM M = true) (he : q_nth M.2.2.2.2.1 pos = some (pc, .ifnonnull off, ln, a1, a2, w1, w2)) (hF : q_J g M d mc ms h0 mv Q k n (pos + 1, ls, r, h)) : q_J g M d mc ms h0 mv Q k n (pos, ls, .null :: r, h) := by
  obtain rfl : ln = 3 := (q_at hok he).2.2.1 (Nat.succ_ne_zero _)
  exact q_stk (st' := r) hok he rfl (fun p e R s m args below meth cd H locs cells slots Qz rls ρ hx hb hd hown hts hl kk => lv_ifnonnullN hx hb hd kk) (fun h1 h2 => q_tl h1) hF
theorem q_o_ifnonnullR {off : Int} {x : Nat} (hok : q_okM M = true) (he : q_nth M.2.2.2.2.1 pos = some (pc, .ifnonnull off, ln, a1, a2, w1, w2)) (hT : q_J g M d mc ms h0 mv Q k n (a1, ls, r, h)) : q_J g M d mc ms h0 mv Q k n (pos, ls, .ref x :: r, h) := by
  obtain rfl : ln = 3 := (q_at hok he).2.2.1 (Nat.succ_ne_zero _)
  exact q_br2 (P := True) (st' := r) hok he rfl off rfl (fun p e R s m args below meth cd H locs cells slots Qz rls ρ tgt hx hb hd ht kt kf => lv_ifnonnull hx hb hd ht (kt trivial)) (fun h1 => q_tl h1) (fun _ => hT) (fun h9 => absurd trivial h9)
theorem q_o_ifnullN {off : Int} (hok : q_okM M = true) (he : q_nth M.2.2.2.2.1 pos = some (pc, .ifnull off, ln, a1, a2, w1, w2)) (hT : q_J g M d mc ms h0 mv Q k n (a1, ls, r, h)) : q_J g M d mc ms h0 mv Q k n (pos, ls, .null :: r, h) := by
  obtain rfl : ln = 3 := (q_at hok he).2.2.1 (Nat.succ_ne_zero _)
  exact q_br2 (P := True) (st' := r) hok he rfl off rfl (fun p e R s m args below meth cd H locs cells slots Qz rls ρ tgt hx hb hd ht kt kf => lv_ifnullN hx hb hd ht (kt trivial)) (fun h1 => q_tl h1) (fun _ => hT) (fun h9 => absurd trivial h9)
end QOPS
