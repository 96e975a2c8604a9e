/-! THE WHOLE: the start of the law, its end, the claim (behind whole_start: the tail of the kit's skeleton) -/
def q_insc : Bool := vwCl.all fun q => decide (Jvm.Cond.instantiable q.1 q.2.2 ∈ lw_tbl)
theorem q_insc_ok : q_insc = true := by decide +kernel
theorem q_aw0 : Jvm.Cond.arrayClass .int ∈ lw_tbl := by decide +kernel
theorem q_aw1 : Jvm.Cond.arrayClass .byte ∈ lw_tbl := by decide +kernel
theorem q_aw2 : Jvm.Cond.arrayClass .boolean ∈ lw_tbl := by decide +kernel
theorem q_aw4 : Jvm.Cond.arrayOver (.object "HayBarn$Step") ∈ lw_tbl := by decide +kernel
theorem q_aw5 : Jvm.Cond.arrayOver (.object "HayBarn$Sign") ∈ lw_tbl := by decide +kernel
theorem q_aw6 : Jvm.Cond.arrayOver (.object "HayBarnLaw$Bale") ∈ lw_tbl := by decide +kernel
theorem q_aw7 : Jvm.Cond.arrayOver (.array .int) ∈ lw_tbl := by decide +kernel
theorem q_aw8 : Jvm.Cond.arrayOver (.object "java/lang/String") ∈ lw_tbl := by decide +kernel
section
variable {args : Array Value} {s : State}
theorem q_D0 (hts : ∀ w ∈ lw_tbl, w.before args s = true) : ∃ D : va_G, ∀ (c : Nat) (q : vw_C), vwCl[c]? = some q → u_Kn s q.1 q.2.1 q.2.2 (D.1 c) (D.2 c) := by
  have h : ∀ c : Nat, ∃ z : ClassId × (Nat → Nat), ∀ q : vw_C, vwCl[c]? = some q → u_Kn s q.1 q.2.1 q.2.2 z.1 z.2 := by
    intro c
    by_cases hc : ∃ q, vwCl[c]? = some q
    · obtain ⟨q, hc⟩ := hc
      have hm : q ∈ vwCl := List.mem_of_getElem? hc
      obtain ⟨cC, iS, hK⟩ := u_known (ws := q_tb) (n := q.2.2) (T := q.2.1) (N := q.2.2) (C := q.1) (fun w hw => hts w (List.mem_filter.mp hw).1) (q_cls_in c q hc) (hts _ (of_decide_eq_true (List.all_eq_true.mp q_insc_ok q hm)))
      refine ⟨(cC, iS), fun q' h => ?_⟩
      cases hc.symm.trans h
      exact hK
    · exact ⟨(0, fun _ => 0), fun q h => absurd ⟨q, h⟩ hc⟩
  exact ⟨(fun c => (Classical.choose (h c)).1, fun c => (Classical.choose (h c)).2), fun c q hq => Classical.choose_spec (h c) q hq⟩
theorem q_A0 (hts : ∀ w ∈ lw_tbl, w.before args s = true) : ∃ cA : Nat → ClassId, ∀ (k : Nat) (q : ClassId × FieldType), (q_Ty cA)[k]? = some q → ArrOfT s q.1 q.2 ∧ va_RA s q.1 q.2 := by
  obtain ⟨c0, k0, p0, a0, b0, d0⟩ := Cond.arrayClass_spec (hts _ q_aw0)
  obtain ⟨c1, k1, p1, a1, b1, d1⟩ := Cond.arrayClass_spec (hts _ q_aw1)
  obtain ⟨c2, k2, p2, a2, b2, d2⟩ := Cond.arrayClass_spec (hts _ q_aw2)
  obtain ⟨c3, k3, p3, a3, b3, d3⟩ := Cond.arrayClass_spec (hts _ q_aw0)
  obtain ⟨p4, c4, k4, a4, -, b4, d4, e4⟩ := Cond.arrayOver_spec (hts _ q_aw4)
  obtain ⟨p5, c5, k5, a5, -, b5, d5, e5⟩ := Cond.arrayOver_spec (hts _ q_aw5)
  obtain ⟨p6, c6, k6, a6, -, b6, d6, e6⟩ := Cond.arrayOver_spec (hts _ q_aw6)
  obtain ⟨p7, c7, k7, a7, -, b7, d7, e7⟩ := arrayOverA_spec (hts _ q_aw7)
  obtain ⟨p8, c8, k8, a8, -, b8, d8, e8⟩ := Cond.arrayOver_spec (hts _ q_aw8)
  refine ⟨fun j => [c0, c1, c2, c3, c4, c5, c6, c7, c8].getD j 0, ?_⟩
  intro k q hk
  match k, hk with
  | 0, hk =>
    have e : (some (c0, FieldType.int) : Option (ClassId × FieldType)) = some q := hk
    cases e
    exact ⟨fun n z => ⟨fun k h => (by cases h), k0, b0, p0, d0⟩, a0⟩
  | 1, hk =>
    have e : (some (c1, FieldType.byte) : Option (ClassId × FieldType)) = some q := hk
    cases e
    exact ⟨fun n z => ⟨fun k h => (by cases h), k1, b1, p1, d1⟩, a1⟩
  | 2, hk =>
    have e : (some (c2, FieldType.boolean) : Option (ClassId × FieldType)) = some q := hk
    cases e
    exact ⟨fun n z => ⟨fun k h => (by cases h), k2, b2, p2, d2⟩, a2⟩
  | 3, hk =>
    have e : (some (c3, FieldType.int) : Option (ClassId × FieldType)) = some q := hk
    cases e
    exact ⟨fun n z => ⟨fun k h => (by cases h), k3, b3, p3, d3⟩, a3⟩
  | 4, hk =>
    have e : (some (c4, FieldType.object "HayBarn$Step") : Option (ClassId × FieldType)) = some q := hk
    cases e
    exact ⟨fun n z => ⟨fun k h => (by cases h), k4, b4, p4, d4⟩, k4, p4, b4, d4, a4, e4⟩
  | 5, hk =>
    have e : (some (c5, FieldType.object "HayBarn$Sign") : Option (ClassId × FieldType)) = some q := hk
    cases e
    exact ⟨fun n z => ⟨fun k h => (by cases h), k5, b5, p5, d5⟩, k5, p5, b5, d5, a5, e5⟩
  | 6, hk =>
    have e : (some (c6, FieldType.object "HayBarnLaw$Bale") : Option (ClassId × FieldType)) = some q := hk
    cases e
    exact ⟨fun n z => ⟨fun k h => (by cases h), k6, b6, p6, d6⟩, k6, p6, b6, d6, a6, e6⟩
  | 7, hk =>
    have e : (some (c7, FieldType.array .int) : Option (ClassId × FieldType)) = some q := hk
    cases e
    exact ⟨fun n z => ⟨fun k h => (by cases h), k7, b7, p7, d7⟩, e7⟩
  | 8, hk =>
    have e : (some (c8, FieldType.object "java/lang/String") : Option (ClassId × FieldType)) = some q := hk
    cases e
    exact ⟨fun n z => ⟨fun k h => (by cases h), k8, b8, p8, d8⟩, k8, p8, b8, d8, a8, e8⟩
  | j + 9, hk =>
    have e : (none : Option (ClassId × FieldType)) = some q := hk
    cases e
end
theorem q_clo00 : q_clo q_h00 := by
  refine ⟨fun a j b h => ?_, fun a j b h => ?_, fun a _ => rfl⟩
  · have e : (none : Option Nat) = some b := h
    cases e
  · have e : (none : Option Nat) = some b := h
    cases e
theorem q_ls00 {i : Nat} {v : Value} (hv : q_nth la_l0 i = some (some v)) : i = 0 ∧ v = .ref 52 := by
  rw [q_nth_eq] at hv
  match i, hv with
  | 0, hv =>
    have e : (some (some (Value.ref 52)) : Option (Option Value)) = some (some v) := hv
    cases e
    exact ⟨rfl, rfl⟩
  | j + 1, hv =>
    have h9 := List.mem_of_getElem? (l := List.replicate 23 (none : Option Value)) (i := j) (a := some v) hv
    exact absurd (List.eq_of_mem_replicate h9) (fun h => by cases h)
def q_mv9 : List Nat := q_mvC ++ [471, 472, 487, 488]
theorem q_mv9C : ∀ x ∈ q_mvC, x ∈ q_mv9 := fun x hx => List.mem_append_left _ hx
theorem q_room1 : q_rk 2048 814442 6658373 = room_1 := rfl
/-! THE CLAIM OUT OF ONE WALK OF THE LAW'S BODY. Your part is whole_start (and what it stands on); all else here is the same for every law, but numbers. -/
def R_law : String := "HayBarnLaw"
def lw_P (b : Addr) (xs : List Int32) (args : Array Value) (s : State) : Prop := args = #[.ref b] ∧ s.IntsAt b xs ∧ xs.length ≤ 260 ∧ (Jvm.Cond.and given_1 narrow_1).before args s = true
/-- what a walk over the start with the record d0 says of its end, said of the start itself -/
theorem lw_closed {s t : State} {o : Outcome} {d0 : Drawn} {L : List Loc} {k n : Nat} (hd0 : s.drawn.sameBut d0 lw_cs) (hv : ∃ v, o = .returned v) (hW : (s.setDrawn d0).WarmedH t.vm) (hs : (s.setDrawn d0).sameButNew ({ t with vm := s.vm } : State) L k n) : State.butDraws s t lw_cs (fun t1 => Framed s o t1 L k n) := by
  have h2 : t.drawn = d0 := congrArg State.drawn hs.1
  refine ⟨⟨hv, hW, State.sameButNew.setDrawn hs s.drawn⟩, ?_, by decide⟩
  rw [h2]
  exact hd0
def lw_Q (_ : Array Value) (s : State) (o : Outcome) (t : State) : Prop := o = .returned (some (.int 1)) ∧ State.butDraws s t lw_cs (fun t1 => Framed s o t1 [] 814442 6658373)
def lw_Z (below : List Frame) (a : Array Value) (s : State) : State → Prop := fun t => ∃ o, t.status = .running ∧ Ended t below o ∧ lw_Q a s o t
/-- the law's own end, with 1 on the stack, nothing written that was there before, its room as the claim has it; d0: the record of draws at this point (at the entry s.drawn: begin with 'refine W.base ?_' and 'have hd0 := Drawn.sameBut.refl s.drawn lw_cs') -/
theorem lw_ret {p : Program} {l : Launch} {e : Env} {s : State} {m : MethodId} {below : List Frame} {meth : Method} {c : Code} {b : Nat} {d0 : Drawn} (hd0 : s.drawn.sameBut d0 lw_cs) (hx : p.tables.exec = Jvm.exec) (hb : c.code = code) (hr : meth.sig.returnType = ret) (hlocks : meth.locks = false) {pc : Nat} {H : Heap} {ls : Array Slot} (hdg : decode code pc = .ok (.ireturn, 1)) : W p l e room_1 (s.setDrawn d0) m #[Value.ref b] below meth c H [] 814442 6658373 (lw_Z below #[Value.ref b] s) (F0 m pc ls [.int 1]) := by
  intro T hT X
  obtain ⟨fs, hret, hrun, hended, hW, hframe⟩ := X.leave (v := some (.int 1)) (hlocks := hlocks) (fun h => by rw [hr] at h; cases h)
  have hmeth' : T.vm.method? m = some meth := X.method'
  refine ⟨T.setFrames fs, ?_, .returned (some (.int 1)), hrun, hended, rfl, lw_closed hd0 ⟨_, rfl⟩ hW hframe⟩
  jvm_step X.here [X.here.top, hx, hb, hdg, hmeth', hr, ret, narrow_b1]
  (try refine ⟨rfl, ?_⟩); (try refine ⟨rfl, ?_⟩)
  first | (intro acts; rw [hret _ acts rfl rfl rfl]) | rw [hret _ _ rfl rfl rfl]
  exact Steps.refl _
/-- what holds at the law's entry: the machine, the code, the tables' words (any of lw_tbl by 'hts w (by decide +kernel)'), the script of L ints xs at the cell b, what the Statement gives of the start (any of its parts by flat_of_before) -/
def lw_At (p : Program) (s : State) (m : MethodId) (meth : Method) (c : Code) (b L : Nat) (xs : Nat → Int32) : Prop :=
  p.tables.exec = Jvm.exec ∧ c.code = code ∧ meth.sig.returnType = ret ∧ c.maxLocals = 24 ∧ s.vm.findClass R_law = some m.cls ∧ (∀ w ∈ lw_tbl, w.before #[Value.ref b] s = true) ∧ va_X b L xs s s.heap ∧ b < s.heap.size ∧ meth.locks = false ∧ (Jvm.Cond.and given_1 narrow_1).before #[Value.ref b] s = true
theorem whole_start {p : Program} {e : Env} {s : State} {m : MethodId} {below : List Frame} {meth : Method} {c : Code} (l : Launch) (hflags : l.flags = flags0) {b L : Nat} {xs : Nat → Int32} (hL : L ≤ 260) (C0 : lw_At p s m meth c b L xs) (hnm : meth.name = yL_law.name) : W p l e room_1 s m #[Value.ref b] below meth c s.heap [] 0 0 (lw_Z below #[Value.ref b] s) (entryFrame m ([Value.ref b] : List Value).toArray 24) := by
  obtain ⟨hx, hb, hr, hml, hown, hts, hX, hbl, hlk, hgv⟩ := C0
  obtain ⟨D, hD⟩ := q_D0 hts
  obtain ⟨cA, hA⟩ := q_A0 hts
  have hE := q_Ext0 (l := l) hflags hgv hts hL hX hbl
  have hl := lv_entry [Value.ref b] (n := 24) (Nat.le_of_ble_eq_true rfl)
  rw [lg_entry_eq]
  generalize (lg_sl [Value.ref b] ++ List.replicate (24 - (lg_sl [Value.ref b]).length) Slot.unset).toArray = rls at hl ⊢
  have h52 : q_rho #[Value.ref b] s 52 = b := q_rho_of rfl
  have hlh : q_lh rls 24 (q_rho #[Value.ref b] s) la_l0 := by
    refine ⟨hl.1, rfl, hl.2.1, fun i v hv => ?_⟩
    obtain ⟨rfl, rfl⟩ := q_ls00 hv
    show rls[0]? = some (.val (.ref (q_rho #[Value.ref b] s 52)))
    rw [h52]
    exact hl.2.2 (0, .ref b) List.mem_cons_self
  have hvl : ∀ i v, q_nth la_l0 i = some (some v) → q_vcl q_h00 v := by
    intro i v hv
    obtain ⟨rfl, rfl⟩ := q_ls00 hv
    intro a ha
    cases ha
    show 52 < 400
    decide
  have hB : q_BK m_L_lw c.exceptionTable.toList p s m #[Value.ref b] meth c := ⟨hx, hb, hr, hml, fun w hw => hts w (List.mem_filter.mp hw).1, hown, hlk, hnm, rfl⟩
  have hS : q_Sit (l, (List.range L).map xs) 24 D cA (q_rho #[Value.ref b] s) (q_rho #[Value.ref b] s) q_h00 q_h00 q_mv9 (fun q => s.heap.size ≤ q) s s.heap [] la_l0 rls [] := by
    refine ⟨⟨hD, hA⟩, ⟨[], rfl, fun k q h => ?_, fun k q h => ?_, ⟨fun i j p q h => ?_, fun k q h => ?_⟩⟩, va_S.rf, hE, q_clo00, fun v hv => absurd hv List.not_mem_nil, hvl, hlh, fun _ _ _ => rfl, fun _ _ => rfl, fun q hq => hq, Nat.le_refl _, Nat.le_refl _⟩
    all_goals (simp at h)
  have hgl : ((l, (List.range L).map xs) : q_G).2.length ≤ 260 := by
    show ((List.range L).map xs).length ≤ 260
    rw [List.length_map, List.length_range]
    exact hL
  have hg31 : ((l, (List.range L).map xs) : q_G).2.length < 2147483648 := Nat.lt_of_le_of_lt hgl (by decide)
  have h9 := la_law (xt := c.exceptionTable.toList) (g := (l, (List.range L).map xs)) (mc := 814442) (ms := 6658373) (mv := q_mv9) (Qp := fun o _ => o = .inl (some (.int 1))) hg31 q_mv9C (by decide) (by decide) (by decide) (by decide) (fun _ => rfl) p e s m #[Value.ref b] below meth c D cA (q_rho #[Value.ref b] s) (q_rho #[Value.ref b] s) (fun q => s.heap.size ≤ q) s.heap [] rls _ rfl hB hS
  rw [q_room1] at h9
  intro T hT X
  obtain ⟨t, st, o, hrun, hend, hq⟩ := h9 T hT X
  refine ⟨t, st, o, hrun, hend, ?_⟩
  rcases hq with ⟨⟨v, h, ρ, ho, hQ, -⟩, L2, hfe, hL2⟩ | ⟨q, ho, E, ce, L2, ⟨h, ρ, hQ, -⟩, -⟩
  · cases hQ
    have ho' : o = .returned (some (.int 1)) := ho
    obtain ⟨hv, hW, hs⟩ := hfe
    have hs2 : s.sameButNew ({ t with vm := s.vm } : State) [] 814442 6658373 := State.sameButNew.drop_fresh (L := []) (J := L2) hs (fun x hx => hL2 x hx)
    exact ⟨ho', lw_closed (d0 := s.drawn) (Drawn.sameBut.refl s.drawn lw_cs) hv hW hs2⟩
  · cases hQ
set_option maxHeartbeats 4000000 in
theorem lw_walk (l : Launch) (hflags : l.flags = flags0) (b : Addr) (xs : List Int32) : MetFree l x (headSpec (Jvm.Cond.code x code maxLocals ret :: tables_1) room_1) (lw_P b xs) (fun _ _ _ _ _ => True) lw_Q := by
  refine MetFree.of_bodyS (code := code) (maxLocals := maxLocals) (ret := ret) (by decide) ?_ ?_
  · intro args s m h hn
    obtain ⟨meth, c, h1, h2, h3, h4, h5, h6, -, -⟩ := Cond.code_spec hn (atoms_spec (ws := Jvm.Cond.code x code maxLocals ret :: tables_1) h _ List.mem_cons_self)
    exact ⟨meth, c, h1, h2, h3, h4, h5, h6⟩
  · intro p e s m args below meth c s₁ B hml0 hP _
    obtain ⟨rfl, hx, hbd, hgv⟩ := hP
    obtain ⟨scr, harrAt, hlist, hof, hsmall⟩ := hx
    obtain ⟨hcb, hkn, -, -⟩ := State.arrayAt?_spec harrAt
    have hown : s.vm.findClass R_law = some m.cls := findClass_of_methodNamed B.named
    have hts0 : ∀ c ∈ (Jvm.Cond.code x code maxLocals ret :: tables_1), c.before #[Value.ref b] s = true := atoms_spec (ws := Jvm.Cond.code x code maxLocals ret :: tables_1) B.pre
    have hts : ∀ w ∈ lw_tbl, w.before #[Value.ref b] s = true := k2_hts_sels lw_privs (fun w hw => hts0 w (List.mem_cons_of_mem _ hw)) lw_privs_ok
    have hml : c.maxLocals = 24 := B.maxLocals_eq (hts0 _ List.mem_cons_self)
    have X₀ : Stand p l e room_1 s m #[Value.ref b] below meth c s₁ [] 0 0 := Stand.of_body B
    have hh0 : s₁.heap = s.heap := by rw [B.state]; rfl
    have hsz : scr.slots.size = xs.length := by rw [← Array.length_toList, hlist, List.length_map]
    have hval : ∀ j : Nat, j < xs.length → scr.slots[j]? = some (.int (xs.getD j 0)) := fun j hj => by
      rw [← Array.getElem?_toList, hlist]
      simp [hj]
    have hbl : b < s.heap.size := (Array.getElem?_eq_some_iff.mp hcb).1
    have hX : va_X b xs.length (fun j => xs.getD j 0) s s.heap := ⟨scr, hcb, hof, hkn, hsz, hval⟩
    have K : W p l e room_1 s m #[Value.ref b] below meth c s₁.heap [] 0 0 (lw_Z below #[Value.ref b] s) (entryFrame m ([Value.ref b] : List Value).toArray 24) := by
      rw [hh0]
      exact whole_start l hflags hbd ⟨B.exec, B.bytes, B.returns, hml, hown, hts, hX, hbl, B.notSynchronized, hgv⟩ (name_of_methodNamed B.named B.method).1
    obtain ⟨t, a1, o, b1, b2, b3⟩ := K s₁ rfl X₀
    exact ⟨t, o, a1, b1, b2, b3⟩
theorem lw_pre_spec {args : Array Value} {s : State} (h : (Jvm.Cond.and given_1 narrow_1).before args s = true) (hr : rest_1_c.before args s = true) : ∃ (b : Addr) (xs : List Int32), lw_P b xs args s := by
  have hs := flat_of_before _ h
  have hq := flat_of_before _ hr
  have hc : (Cond.count 1).before args s = true := hs _ (by decide +kernel)
  have harr : (Cond.arrayOf (.arg 0) .int).before args s = true := hs _ (by decide +kernel)
  have hle : (Cond.le (.length (.arg 0)) (.int 260)).before args s = true := hs _ (by decide +kernel)
  have hlen : (Cond.isInt (.length (.arg 0))).before args s = true := hq _ (by decide +kernel)
  have hall : (Cond.all (.arg 0) (.isInt (.elem (.arg 0) (.index 0)))).before args s = true := hq _ (by decide +kernel)
  obtain ⟨b, xs, hb, hx⟩ := State.ints_of_pre rfl harr hlen hall
  have hsm : xs.length < 2 ^ 31 := hx.choose_spec.2.2.2
  have hev : (Term.length (.arg 0)).eval args s none [] s = some (.int xs.length.toInt32) := hx.length_eval hb
  have hv := Cond.le_ints hev (show (Term.int 260).eval args s none [] s = some (.int 260) from rfl)
  have hd : xs.length.toInt32 ≤ 260 := by
    simpa [Cond.before, Cond.holds, hv] using hle
  have hN : xs.length ≤ 260 := (Int32.ofNat_le_ofNat hsm (by decide)).mp (show Int32.ofNat xs.length ≤ Int32.ofNat 260 from hd)
  exact ⟨b, xs, Cond.one_arg hc (show args[0]? = some (.ref b) from hb), hx, hN, h⟩
theorem lw_comes (l : Launch) (hflags : l.flags = flags0) : Comes l x (Jvm.Cond.code x code maxLocals ret :: tables_1) room_1 (fun tb e args s => Calls_1 tb e args s ∧ rest_1 tb e args s ∧ Pre_1 tb e args s)
    (fun _ _ args s o t => lw_Q args s o t) := by
  intro p e ha hc hk s m args below hf hfit hheap happ hpre
  obtain ⟨b, xs, hP⟩ := lw_pre_spec hpre.2.2 hpre.2.1
  obtain ⟨k, o, h1, h2, h3, hQ⟩ := lw_walk l hflags b xs p e ha hc hk s m args below hf ((Spec.applies_iff_loose hf).mp happ).1 hP trivial
  exact ⟨k, o, h1, h2, h3, hQ⟩
theorem lw_frame {s t : State} {o : Outcome} {args : Array Value} (h : State.butDraws s t lw_cs (fun t1 => Framed s o t1 [] 814442 6658373)) :
    State.butDraws s t [Jvm.Choice.named "NaN.bits"] (fun t1 => Framed s o t1 (fieldLocs frame_1_writes args s ++ arrayLocs frame_1_arrays args s ++ staticLocs frame_1_statics s) 814442 6658373) := h
theorem lw_limb (L : Cond) (hL : ∀ (args : Array Value) (s t : State), L.after args s (.returned (some (.int 1))) t = true) :
    ArmFor flags0 classFile x code maxLocals ret World_1 tables_1 room_1 Calls_1 rest_1 Pre_1
      (fun tb e a s o t => postC L tb e a s o t ∧ State.butDraws s t [Jvm.Choice.named "NaN.bits"] (fun t1 => Framed s o t1 (fieldLocs frame_1_writes a s ++ arrayLocs frame_1_arrays a s ++ staticLocs frame_1_statics s) 814442 6658373)) := by
  intro l hflags _ _ p e ha hc hk s m args below hf hfit hheap happ hpre
  obtain ⟨k, o, h1, h2, h3, rfl, hF⟩ := lw_comes l hflags p e ha hc hk s m args below hf hfit hheap happ hpre
  exact ⟨k, _, h1, h2, h3, hL args s _, lw_frame hF⟩
theorem i_vc : Claimed_1_1 ∧ Claimed_1_2 := ⟨lw_limb limb_1_1 (fun args s t => by simp [limb_1_1, Cond.after, Cond.holds, Cond.value]), lw_limb limb_1_2 (fun args s t => Cond.after_iff.mpr (by
  first | (rw [show limb_1_2 = Cond.eq .result (.int 1) from rfl, Cond.eq_ints (x := 1) (y := 1) rfl rfl]; simp; done) | (simp [limb_1_2, Cond.value, Term.eval]; done)))⟩
