/-! WHAT STANDS OUTSIDE is carried into a call; the calls -/
theorem q_T_congr {ty : FieldType} {t N : Nat} {f f' : Nat → Value} {A : Nat → Prop} {U : State} {H : Heap} (h : va_T ty t N f A U H) (hf : ∀ j, j < N → f j = f' j) : va_T ty t N f' A U H := by
  obtain ⟨cell, h1, h2, h3, h4, h5, h6, h7⟩ := h
  exact ⟨cell, h1, h2, h3, h4, h5, fun j hj => by rw [← hf j hj]; exact h6 j hj, h7⟩
theorem q_Ext_kept {g : q_G} {ρ : Nat → Nat} {A : Nat → Prop} {U : State} {H H1 : Heap} (h : q_Ext g ρ A U H) (hq : ∀ a : Nat, a < H.size → ¬ A a → H1[a]? = H[a]?) : q_Ext g ρ A U H1 := by
  obtain ⟨e1, e2, e3, e4, e5, e6, e7, e8, e9, e10, e11, e12, e13, e14, e15, e16, e17, e18, e19⟩ := h
  exact ⟨e1, fun q h => (e2 q h).kept hq, fun i hi => ⟨(e3 i hi).1.kept hq, (e3 i hi).2.1.kept hq, (e3 i hi).2.2.kept hq⟩, e4, e5.kept hq, e6.kept hq, ⟨e7.1.kept hq, e7.2.kept hq⟩, e8.kept hq,
    fun i hi => ⟨(e9 i hi).1.kept hq, (e9 i hi).2.1.kept hq, (e9 i hi).2.2.1.kept hq, (e9 i hi).2.2.2.kept hq⟩, e10, e11, e12.kept hq, e13.kept hq, e14, e15.kept hq, e16.elim (fun z => Or.inl (z.kept hq)) (fun z => Or.inr (z.kept hq)), e17, e18, e19⟩
theorem q_Ext_narrow {g : q_G} {ρ : Nat → Nat} {A B : Nat → Prop} {U : State} {H : Heap} (h : q_Ext g ρ A U H) (hq : ∀ q, B q → A q) : q_Ext g ρ B U H := by
  obtain ⟨e1, e2, e3, e4, e5, e6, e7, e8, e9, e10, e11, e12, e13, e14, e15, e16, e17, e18, e19⟩ := h
  exact ⟨e1, fun q h => (e2 q h).narrow hq, fun i hi => ⟨(e3 i hi).1.narrow hq, (e3 i hi).2.1.narrow hq, (e3 i hi).2.2.narrow hq⟩, e4, e5.narrow hq, e6.narrow hq, ⟨e7.1.narrow hq, e7.2.narrow hq⟩, e8.narrow hq,
    fun i hi => ⟨(e9 i hi).1.narrow hq, (e9 i hi).2.1.narrow hq, (e9 i hi).2.2.1.narrow hq, (e9 i hi).2.2.2.narrow hq⟩, e10, e11, e12.narrow hq, e13.narrow hq, e14, e15.narrow hq, e16.elim (fun z => Or.inl (z.narrow hq)) (fun z => Or.inr (z.narrow hq)), e17, e18, e19⟩
theorem q_Nw_warmP {y : MethodName} {s U : State} (hW : s.WarmedH U.vm) (h : va_Nw (.privateMethod y) s) : va_Nw (.privateMethod y) U := by
  have hal := hW.alike
  have e0 : U.methodNamed? y = (s.setVm U.vm).methodNamed? y := rfl
  have e1 : U.methodNamed? y = s.methodNamed? y := e0.trans (State.methodNamed?_setVm hal y)
  have e2 : U.vm.method? = s.vm.method? := funext hal.method?
  unfold va_Nw at h ⊢
  simp only [Cond.before, Cond.holds, Cond.value] at h ⊢
  rw [e1, e2]; exact h
theorem q_Nw_warm {w : Jvm.Cond} {s U : State} (hn : q_isN w = true) (hW : s.WarmedH U.vm) (h : va_Nw w s) : va_Nw w U := by
  unfold q_isN at hn
  split at hn
  · exact va_Nw.warmF hW h
  · exact va_Nw.warmM hW h
  · exact va_Nw.warmC hW h
  · exact va_Nw.warmD hW h
  · exact q_Nw_warmP hW h
  · cases hn
theorem q_isN_on {w : Jvm.Cond} (hn : q_isN w = true) : w.onTables = true := by
  unfold q_isN at hn
  split at hn <;> first | rfl | cases hn
theorem q_AA.moved {u U : State} (hvm : u.vm.Alike U.vm) (h : q_AA u) : q_AA U := by
  obtain ⟨comp, c, k, h1, h2, h3, h4, h5⟩ := arrayOverA_spec h
  obtain ⟨k', hk', he⟩ := hvm.2.2 _ _ h3
  have h3b : U.vm.bare = u.vm.bare := by first | exact hvm.bare_eq | exact hvm.bare_eq.symm
  have hi : (U.vm.classes.findIdx? fun (x : Class) => match x.kind with | .array component _ => component == comp | _ => false) = some c :=
    ((va_idx_bare U.vm comp).symm.trans ((congrArg (fun v : Vm => v.classes.findIdx? fun (x : Class) => match x.kind with | .array component _ => component == comp | _ => false) h3b).trans (va_idx_bare u.vm comp))).trans h2
  have hkind : k'.kind = .array comp (.array .int) := by rw [he]; exact h4
  have f1 : U.vm.findClass (FieldType.array .int).toString = some comp := by rw [hvm.findClass]; exact h1
  have f2 : U.vm.findClass ("[" ++ (FieldType.array .int).toString) = some c := by rw [hvm.findClass]; exact h5
  unfold q_AA Cond.before Cond.holds
  simp only [Cond.value]
  rw [f1, Option.bind_some]
  refine (congrArg (fun o : Option Nat => (o.bind (fun c => (U.vm.classes[c]?).map fun (k : Class) => match k.kind with | .array _ ty => decide (ty = FieldType.array .int) && decide (U.vm.findClass ("[" ++ (FieldType.array .int).toString) = some c) | _ => false) == some true)) hi).trans ?_
  simp [hk', hkind, f2]
theorem q_Ext_warm {g : q_G} {ρ : Nat → Nat} {A : Nat → Prop} {s U : State} {H : Heap} (hW : s.WarmedH U.vm) (h : q_Ext g ρ A s H) : q_Ext g ρ A U H := by
  obtain ⟨e1, e2, e3, e4, e5, e6, e7, e8, e9, e10, e11, e12, e13, e14, e15, e16, e17, e18, e19⟩ := h
  have ha := hW.alike
  exact ⟨e1, fun q h => va_Z.moved ha (e2 q h), fun i hi => ⟨va_O.moved ha (e3 i hi).1, va_OF.moved ha (e3 i hi).2.1, va_OF.moved ha (e3 i hi).2.2⟩, e4, va_T.moved ha e5, va_T.moved ha e6, ⟨va_T.moved ha e7.1, va_T.moved ha e7.2⟩, va_T.moved ha e8,
    fun i hi => ⟨va_O.moved ha (e9 i hi).1, va_OF.moved ha (e9 i hi).2.1, va_OF.moved ha (e9 i hi).2.2.1, va_T.moved ha (e9 i hi).2.2.2⟩, fun q hq => by obtain ⟨a, h⟩ := e10 q hq; exact ⟨a, vk_R.warm hW h⟩, fun q hq => vk_R.warm hW (e11 q hq),
    vx_Zq.moved ha e12, vx_Zq.moved ha e13, fun q hq => va_Nc.moved ha (e14 q hq), va_Z.moved ha e15, e16.elim (fun z => Or.inl (va_Z.moved ha z)) (fun z => Or.inr (va_Z.moved ha z)), ⟨va_AO.moved ha e17.1, va_AO.moved ha e17.2.1, va_AO.moved ha e17.2.2.1, q_AA.moved ha e17.2.2.2⟩, va_AO.moved ha e18, fun w hw hn => q_Nw_warm hn hW (e19 w hw hn)⟩
theorem q_Ext_same {g : q_G} {ρ : Nat → Nat} {A : Nat → Prop} {s U : State} {H : Heap} (hv : U.vm = s.vm) (h : q_Ext g ρ A s H) : q_Ext g ρ A U H := by
  obtain ⟨e1, e2, e3, e4, e5, e6, e7, e8, e9, e10, e11, e12, e13, e14, e15, e16, e17, e18, e19⟩ := h
  have ha : s.vm.Alike U.vm := by rw [hv]; exact Vm.Alike.refl _
  exact ⟨e1, fun q h => va_Z.moved ha (e2 q h), fun i hi => ⟨va_O.moved ha (e3 i hi).1, va_OF.moved ha (e3 i hi).2.1, va_OF.moved ha (e3 i hi).2.2⟩, e4, va_T.moved ha e5, va_T.moved ha e6, ⟨va_T.moved ha e7.1, va_T.moved ha e7.2⟩, va_T.moved ha e8,
    fun i hi => ⟨va_O.moved ha (e9 i hi).1, va_OF.moved ha (e9 i hi).2.1, va_OF.moved ha (e9 i hi).2.2.1, va_T.moved ha (e9 i hi).2.2.2⟩, fun q hq => by obtain ⟨a, h⟩ := e10 q hq; exact ⟨a, vk_R.same hv h⟩, fun q hq => vk_R.same hv (e11 q hq),
    vx_Zq.moved ha e12, vx_Zq.moved ha e13, fun q hq => va_Nc.moved ha (e14 q hq), va_Z.moved ha e15, e16.elim (fun z => Or.inl (va_Z.moved ha z)) (fun z => Or.inr (va_Z.moved ha z)), ⟨va_AO.moved ha e17.1, va_AO.moved ha e17.2.1, va_AO.moved ha e17.2.2.1, q_AA.moved ha e17.2.2.2⟩, va_AO.moved ha e18, fun w hw hn => va_Nw.same (q_isN_on hn) hv.symm (e19 w hw hn)⟩
theorem q_isStr_lt {i : Nat} (h : q_isStr i = true) : i < 300 := by
  unfold q_isStr at h
  simp only [Bool.or_eq_true, Bool.and_eq_true] at h
  rcases h with ⟨h1, h2⟩ | ⟨h1, h2⟩
  · have := Nat.blt_eq.mp h2; omega
  · have := Nat.blt_eq.mp h2; omega
theorem q_lit_lt : ∀ q ∈ q_lit, q.2.2 < 400 := by decide
theorem q_Ext_ren {g : q_G} {ρ ρ' : Nat → Nat} {A : Nat → Prop} {U : State} {H : Heap} (hρ : ∀ a, a < 400 → ρ' a = ρ a) (h : q_Ext g ρ A U H) : q_Ext g ρ' A U H := by
  obtain ⟨e1, e2, e3, e4, e5, e6, e7, e8, e9, e10, e11, e12, e13, e14, e15, e16, e17, e18, e19⟩ := h
  refine ⟨e1, fun q hq => by rw [hρ _ (q_stat_lt q hq)]; exact e2 q hq, fun i hi => ?_, fun i j hi hj => ?_, ?_, ?_, ?_, ?_, fun i hi => ?_, e10, ?_, e12, e13, e14, e15, ?_, e17, e18, e19⟩
  · rw [hρ i (by omega), hρ (100 + i) (by omega)]; exact e3 i hi
  · rw [hρ i (by omega), hρ j (by omega)]; exact e4 i j hi hj
  · rw [hρ 49 (by decide)]; exact q_T_congr e5 (fun j hj => by rw [hρ j (by omega)])
  · rw [hρ 50 (by decide)]; exact e6
  · rw [hρ 51 (by decide), hρ 53 (by decide)]; exact e7
  · rw [hρ 52 (by decide)]; exact e8
  · have := q_isStr_lt hi
    rw [hρ i (by omega), hρ (100 + i) (by omega)]; exact e9 i hi
  · intro q hq; rw [hρ _ (q_lit_lt q hq)]; exact e11 q hq
  · rw [hρ 399 (by decide)]; exact e16
theorem q_Wd_mono {D : va_G} {cA : Nat → ClassId} {ρ : Nat → Nat} {h : q_H} {A B : Nat → Prop} {H : Heap} (hAB : ∀ q, A q → B q) (hW : q_Wd D cA ρ h A H) : q_Wd D cA ρ h B H := by
  obtain ⟨ws, h1, h2, h3, h4⟩ := hW
  exact ⟨ws, h1, h2, h3, h4.1, fun k q hq => hAB _ (h4.2 k q hq)⟩
theorem q_A_sub {g : q_G} {nL : Nat} {D : va_G} {cA : Nat → ClassId} {ρ0 ρ : Nat → Nat} {h0 h : q_H} {mv : List Nat} {A : Nat → Prop} {s : State} {H : Heap} {locs : List Loc} {ls : List (Option Value)} {rls : Array Slot} {st : List Value}
    (hS : q_Sit g nL D cA ρ0 ρ h0 h mv A s H locs ls rls st) : ∀ q, q_A ρ h H.size q → A q := by
  obtain ⟨hK, ⟨ws, f1, f2, hP, hD⟩, hVS, hX, hC, hst, hls, hlh, hag, hag2, hA, hn1, hn2⟩ := hS
  rintro q (⟨a, h1, h2, rfl⟩ | h1)
  · have hk : a - 400 < ws.length := by omega
    have he : ws[a - 400]? = some ws[a - 400] := List.getElem?_eq_getElem hk
    have h3 := (f2 _ _ he).1
    rw [show 400 + (a - 400) = a by omega] at h3
    rw [← h3]
    exact hD.2 _ _ he
  · exact hA q (Nat.le_trans hVS.1 h1)
/-- the callee's start -/
def q_Pc (g : q_G) (D : va_G) (cA : Nat → ClassId) (ρ : Nat → Nat) (h : q_H) (sz : Nat) (As : List Value) : Array Value → State → Prop :=
  va_Pc (As.map (q_vz ρ)) (fun U => U.heap.size = sz ∧ va_K D vwCl (q_Ty cA) U ∧ q_Wd D cA ρ h (fun _ => True) U.heap ∧ q_Ext g ρ (q_A ρ h sz) U U.heap ∧ q_clo h ∧ (∀ v ∈ As, q_vcl h v) ∧ 400 ≤ q_nx h)
theorem q_Pc_blind {g : q_G} {D : va_G} {cA : Nat → ClassId} {ρ : Nat → Nat} {h : q_H} {sz : Nat} {As : List Value} : FrameBlind (q_Pc g D cA ρ h sz As) := by
  rintro a U fr mk ⟨ha, h1, h2, h3, h4, h5⟩
  exact ⟨ha, h1, va_K.moved (u := U) (U := U.calling fr mk a) (Vm.Alike.refl U.vm) h2, h3, q_Ext_same (s := U) (U := U.calling fr mk a) rfl h4, h5⟩
theorem q_Pc_at {g : q_G} {nL : Nat} {D : va_G} {cA : Nat → ClassId} {ρ0 ρ : Nat → Nat} {h0 h : q_H} {mv : List Nat} {A : Nat → Prop} {s : State} {H : Heap} {locs : List Loc} {ls : List (Option Value)} {rls : Array Slot} {st As : List Value}
    (hS : q_Sit g nL D cA ρ0 ρ h0 h mv A s H locs ls rls st) (hAs : ∀ v ∈ As, q_vcl h v) : ∀ U : State, U.heap = H → s.WarmedH U.vm → q_Pc g D cA ρ h H.size As (As.map (q_vz ρ)).toArray U := by
  intro U hU hWm
  have hsub := q_A_sub hS
  obtain ⟨hK, hW, hVS, hX, hC, hst, hls, hlh, hag, hag2, hA, hn1, hn2⟩ := hS
  refine ⟨rfl, by rw [hU], va_K.moved hWm.alike hK, by rw [hU]; exact q_Wd_mono (fun _ _ => trivial) hW, ?_, hC, hAs, hn1⟩
  rw [hU]
  exact q_Ext_ren hag2 (q_Ext_warm hWm (q_Ext_narrow (q_Ext_kept hX hVS.2.1) hsub))
section QCALLS
variable {g : q_G} {M M2 : q_M} {d mc ms d2 mc2 ms2 : Nat} {h0 : q_H} {mv mv2 : List Nat} {Q Q2 : (Option Value ⊕ String) → q_H → Prop} {k n pos pc ln a1 a2 w1 w2 a ci v idx L j : Nat} {ls : List (Option Value)} {r st As rest : List Value} {h : q_H} {b : Nat}
/-- behind a call -/
theorem q_run_go {p : Program} {e : Env} {s : State} {m : MethodId} {args : Array Value} {below : List Frame} {meth : Method} {cd : Code} {D : va_G} {cA : Nat → ClassId} {ρ0 ρ : Nat → Nat} {A : Nat → Prop} {H : Heap} {locs : List Loc} {rls : Array Slot} {en' : q_En} {aa : Array Value}
    (hB : q_Bs M p s m args meth cd) (hS : q_Sit g M.2.2.1 D cA ρ0 ρ h0 h mv A s H locs ls rls st) (he' : q_nth M.2.2.2.2.1 (pos + 1) = some en') (hpc : en'.1 = pc + 3) (hrs : ∀ x ∈ rest, x ∈ st)
    (hk : k + mc2 ≤ mc) (hn : n + ms2 ≤ ms) (hmv : ∀ x ∈ mv2, x ∈ mv) (hm1 : ∀ i a, q_nth ls i = some (some (.ref a)) → a ∉ mv2) (hm2 : ∀ a, Value.ref a ∈ rest → a ∉ mv2)
    (hr : vx_Run p g.1 e (q_rm d mc ms) s m args below meth cd H locs k n mc2 ms2 (F0 m pc rls (st.map (q_vz ρ))) (rest.map (q_vz ρ)) (q_Qc D cA ρ h mv2 (q_A ρ h H.size) Q2 aa) (q_XC D cA ρ h mv2 (q_A ρ h H.size) Q2) (q_A ρ h H.size))
    (hR : ∀ v h', Q2 (.inl v) h' → q_J g M d mc ms h0 mv Q (k + mc2) (n + ms2) (pos + 1, ls, v.toList ++ rest, h')) (hX2 : ∀ E h', Q2 (.inr E) h' → Q (.inr E) h') :
    W p g.1 e (q_rm d mc ms) s m args below meth cd H locs k n (vx_MQ below (q_Qc D cA ρ0 h0 mv A Q) (q_XC D cA ρ0 h0 mv A Q) args s mc ms A) (F0 m pc rls (st.map (q_vz ρ))) := by
  have hsub := q_A_sub hS
  obtain ⟨hx, hb, hr0, hml, hts, hown, hlk, hnm, hxt⟩ := id hB
  obtain ⟨hK, hW, hVS, hX, hC, hst, hls, hlh, hag, hag2, hA, hn1, hn2⟩ := id hS
  intro T hT X
  rcases hr T hT X with ⟨v, st₀, t, T', L, z0, X', hL, e1, e2, hq, stp⟩ | ⟨q, st₀, t, T', L, E, ce, z0, X', hL, e1, e2, hq, hce, hcv, hcl, stp⟩
  · obtain ⟨v0, h', ρ', hv, hQ, hvc, ag1, ag2, hW', hK', hC', m1, m2, hF⟩ := hq
    cases hv
    obtain ⟨k1, k2, k3⟩ := vx_keep z0 e1 hVS (fun q _ => hsub q) hsub hL hF
    have hρr : ∀ x ∈ rest, ∀ a, x = .ref a → ρ' a = ρ a := fun x hx a ha => ag1 a (hst x (hrs x hx) a ha) (hm2 a (by rw [← ha]; exact hx))
    have h9 := hR v0 h' hQ p e s m args below meth cd D cA ρ0 ρ' A T'.heap (locs ++ L) rls en' he' hB ⟨hK, by rw [e1]; exact q_Wd_mono hsub hW', k3, hX, hC', ?_, fun i x hx a ha => ?_, ?_, fun a ha hm => ?_, fun a ha => (ag2 a ha).trans (hag2 a ha), hA, m1, Nat.le_trans hn2 m2⟩
    · rw [List.map_append, q_map_ren hρr, hpc] at h9
      obtain ⟨t2, a1, b1⟩ := h9 T' rfl X'
      refine ⟨t2, stp t2 ?_, b1⟩
      have : (v0.toList).map (q_vz ρ') = (v0.map (q_vz ρ')).toList := by cases v0 <;> rfl
      rw [this] at a1
      exact a1
    · intro x hx
      rcases List.mem_append.mp hx with hx | hx
      · cases v0 with
        | none => cases hx
        | some y => cases (List.mem_singleton.mp hx); exact hvc _ rfl
      · exact fun a ha => Nat.lt_of_lt_of_le (hst x (hrs x hx) a ha) m2
    · exact Nat.lt_of_lt_of_le (hls i x hx a ha) m2
    · exact q_lh_ren (fun i a ha => ag1 a (hls i _ ha a rfl) (hm1 i a ha)) hlh
    · rw [ag1 a (Nat.lt_of_lt_of_le ha hn2) (fun h => hm (hmv a h))]; exact hag a ha hm
  · obtain ⟨h', ρ', hQ, ag1, ag2, hW', hK', hC', m1, m2, hF⟩ := hq
    obtain ⟨k1, k2, k3⟩ := vx_keep z0 e1 hVS (fun q _ => hsub q) hsub hL hF
    have h9 : vx_W p g.1 e (q_rm d mc ms) s m args below meth cd T'.heap (locs ++ L) (k + mc2) (n + ms2) (vx_MQ below (q_Qc D cA ρ0 h0 mv A Q) (q_XC D cA ρ0 h0 mv A Q) args s mc ms A) (F0 m pc rls (rest.map (q_vz ρ))) q :=
      vx_out (fun x hx => absurd (hxt x hx) id) hlk (by rw [e1]; exact hce) hcv hcl (fun t9 ht9 ha9 => ⟨h', ρ', hX2 E h' hQ, fun a ha hm => by rw [ag1 a (Nat.lt_of_lt_of_le ha hn2) (fun h => hm (hmv a h))]; exact hag a ha hm, fun a ha => (ag2 a ha).trans (hag2 a ha), by rw [ht9, e1]; exact q_Wd_mono hsub hW', va_K.moved ha9 hK, hC', m1, Nat.le_trans hn2 m2, q_F k3 ht9⟩) k3.2.2 hk hn
    obtain ⟨t2, a1, b1⟩ := h9 T' rfl X'
    exact ⟨t2, stp.trans a1, b1⟩
theorem q_par {x : String} {na : Nat} (h : (parseMethodDescriptor x).map (fun d => d.parameters.length) = some na) : ∀ sig, parseMethodDescriptor x = some sig → na = sig.parameters.length := by
  intro sig hs
  rw [hs] at h
  exact (Option.some.inj h).symm
theorem q_CB {p : Program} {s : State} {args : Array Value} {na : Nat} (hok2 : q_okM M2 = true) (hts : ∀ w ∈ q_tb, w.before args s = true) (hd : d2 + 1 ≤ d) :
    (q_rm d2 mc2 ms2).cells = mc2 ∧ (q_rm d2 mc2 ms2).slots = ms2 ∧ (q_rm d2 mc2 ms2).frames + 1 ≤ (q_rm d mc ms).frames ∧ 8 + (M2.2.2.1 + 11) + (q_rm d2 mc2 ms2).locals ≤ (q_rm d mc ms).locals ∧ (∀ w ∈ q_w M2, ∀ (a' : Array Value) (U : State), s.WarmedH U.vm → w.before a' U = true) ∧ Jvm.Cond.code M2.1 M2.2.1 M2.2.2.1 M2.2.2.2.1 ∈ q_w M2 ∧ (Jvm.Cond.code M2.1 M2.2.1 M2.2.2.1 M2.2.2.2.1).before args s = true := by
  obtain ⟨hcode, -, hmx⟩ := q_okCode hok2
  refine ⟨rfl, rfl, hd, ?_, pay_in hts (q_w_good M2 hcode), List.mem_cons_self, hts _ hcode⟩
  show 8 + (M2.2.2.1 + 11) + 64 * d2 ≤ 64 * d
  omega
theorem q_cat8 {rest : List Value} {ρ : Nat → Nat} (h : (rest.map fun v => v.category).sum ≤ 8) : ((rest.map (q_vz ρ)).map fun v => v.category).sum ≤ 8 := by
  rw [List.map_map]
  have : ((fun v => v.category) ∘ q_vz ρ) = fun v : Value => v.category := by funext v; exact q_cat
  rw [this]; exact h
def q_lk (M : q_M) (idx : Nat) (y : MethodName) (w : Option Jvm.Cond) : Prop := w = some (.methodLink M.1.cls idx y) ∨ ∃ host, w = some (.methodLinkNest M.1.cls idx y host)
/-- a call of an object's method -/
theorem q_callV {C : String} {T : u_T} {N : Nat} (hok : q_okM M = true) (hok2 : q_okM M2 = true) (he : q_nth M.2.2.2.2.1 pos = some (pc, .invokevirtual idx, ln, a1, a2, w1, w2)) (hw : q_lk M idx M2.1 (q_gw w1 w2)) (hcv : q_cvP M2 As.length)
    (hb4 : 400 ≤ b) (hbs : q_sh h b = (0, ci, v)) (hcl : vwCl[ci]? = some (C, T, N)) (hC2 : C = M2.1.cls) (hCt : q_Ct g M2 d2 mc2 ms2 mv2 (.ref b :: As) h Q2) (hd : d2 + 1 ≤ d) (hk : k + mc2 ≤ mc) (hn : n + ms2 ≤ ms) (hcat : (rest.map fun v => v.category).sum ≤ 8)
    (hmv : ∀ x ∈ mv2, x ∈ mv) (hm1 : ∀ i a, q_nth ls i = some (some (.ref a)) → a ∉ mv2) (hm2 : ∀ a, Value.ref a ∈ rest → a ∉ mv2) (hst' : st = As.reverse ++ .ref b :: rest)
    (hR : ∀ v h', Q2 (.inl v) h' → q_J g M d mc ms h0 mv Q (k + mc2) (n + ms2) (pos + 1, ls, v.toList ++ rest, h')) (hX2 : ∀ E h', Q2 (.inr E) h' → Q (.inr E) h') : q_J g M d mc ms h0 mv Q k n (pos, ls, st, h) := by
  obtain rfl : ln = 3 := (q_at hok he).2.2.1 (Nat.succ_ne_zero _)
  intro p e s m args below meth cd D cA ρ0 ρ A H locs rls en hen hB hS
  cases he.symm.trans hen
  obtain ⟨hdg, hnx, -, -⟩ := q_at hok he
  obtain ⟨en', he', hpc⟩ := hnx rfl
  obtain ⟨hx, hb, hr0, hml, hts, hown, hlk, hnm, hxt⟩ := id hB
  obtain ⟨hK, hW, hVS, hX, hC, hst, hls, hlh, hag, hag2, hA, hn1, hn2⟩ := id hS
  obtain ⟨c1, c2, c3, c4, c5⟩ := hcv
  obtain ⟨f1, f2, f3, f4, f5, f6, f7⟩ := q_CB (p := p) (s := s) (args := args) (na := As.length) (d2 := d2) (mc2 := mc2) (ms2 := ms2) (d := d) (mc := mc) (ms := ms) hok2 hts hd
  have hbn : b < q_nx h := hst (.ref b) (by show _ ∈ st; rw [hst']; simp) b rfl
  have hAs : ∀ x ∈ Value.ref b :: As, q_vcl h x := by
    intro x hx
    rcases List.mem_cons.mp hx with rfl | hx
    · exact fun a ha => by cases ha; exact hbn
    · exact hst x (by show _ ∈ st; rw [hst']; simp [hx])
  obtain ⟨ws, e9, g1, g2, hP, hD, hat, hcr⟩ := q_Wd_at hW hb4 hbn
  rw [hbs] at hcr
  obtain ⟨fs, hfs, -, -⟩ := hcr
  rw [hfs] at hat
  have hrecv := va_recv hK hP hcl hat
  have hpre : PreV s H C (ρ b) (q_Pc g D cA ρ h H.size (.ref b :: As)) (As.map (q_vz ρ)) := ⟨q_Pc_blind, hrecv, fun U hU hWm => q_Pc_at hS hAs U hU hWm⟩
  subst hC2
  have hstk : (F0 m pc rls (st.map (q_vz ρ))).stack = (As.map (q_vz ρ)).reverse ++ .ref (ρ b) :: rest.map (q_vz ρ) := by
    show st.map (q_vz ρ) = _
    rw [hst', List.map_append, List.map_cons, List.map_reverse]; rfl
  have hM := hCt D cA ρ H.size
  refine q_run_go (aa := (Value.ref (ρ b) :: As.map (q_vz ρ)).toArray) hB hS he' hpc (fun x hx => by rw [hst']; simp [hx]) hk hn hmv hm1 hm2 ?_ hR hX2
  rcases hw with hw | ⟨host, hw⟩
  · exact vx_runV (As := As.map (q_vz ρ)) (rest := rest.map (q_vz ρ)) (n := As.length) (Ts := q_tb) ⟨hx, hb, hml, hown, hts⟩ hM ⟨⟨f1, f2, f3, f4, f5, f6, f7, hts _ c3, c4, q_par c5, hts _ (q_gw_in hw rfl)⟩, hts _ c1, hts _ c2⟩ hpre rfl (List.length_map _) hlh.1 hstk (lv_room (q_cat8 hcat)) hdg ⟨hk, hn⟩
  · exact vx_runVN (As := As.map (q_vz ρ)) (rest := rest.map (q_vz ρ)) (n := As.length) (Ts := q_tb) (host := host) ⟨hx, hb, hml, hown, hts⟩ hM ⟨⟨⟨f1, f2, f3, f4, f5, f6⟩, f7, hts _ c3, c4, q_par c5, q_Xn hX (q_gw_in2 hw) rfl rfl⟩, hts _ c1, hts _ c2⟩ hpre rfl (List.length_map _) hlh.1 hstk (lv_room (q_cat8 hcat)) hdg ⟨hk, hn⟩
/-- a call of a class's method -/
theorem q_callS (hok : q_okM M = true) (hok2 : q_okM M2 = true) (he : q_nth M.2.2.2.2.1 pos = some (pc, .invokestatic idx, ln, a1, a2, w1, w2)) (hw : q_lk M idx M2.1 (q_gw w1 w2)) (hcv : q_csP M2 As.length)
    (hCt : q_Ct g M2 d2 mc2 ms2 mv2 As h Q2) (hd : d2 + 1 ≤ d) (hk : k + mc2 ≤ mc) (hn : n + ms2 ≤ ms) (hcat : (rest.map fun v => v.category).sum ≤ 8)
    (hmv : ∀ x ∈ mv2, x ∈ mv) (hm1 : ∀ i a, q_nth ls i = some (some (.ref a)) → a ∉ mv2) (hm2 : ∀ a, Value.ref a ∈ rest → a ∉ mv2) (hst' : st = As.reverse ++ rest)
    (hR : ∀ v h', Q2 (.inl v) h' → q_J g M d mc ms h0 mv Q (k + mc2) (n + ms2) (pos + 1, ls, v.toList ++ rest, h')) (hX2 : ∀ E h', Q2 (.inr E) h' → Q (.inr E) h') : q_J g M d mc ms h0 mv Q k n (pos, ls, st, h) := by
  obtain rfl : ln = 3 := (q_at hok he).2.2.1 (Nat.succ_ne_zero _)
  intro p e s m args below meth cd D cA ρ0 ρ A H locs rls en hen hB hS
  cases he.symm.trans hen
  obtain ⟨hdg, hnx, -, -⟩ := q_at hok he
  obtain ⟨en', he', hpc⟩ := hnx rfl
  obtain ⟨hx, hb, hr0, hml, hts, hown, hlk, hnm, hxt⟩ := id hB
  obtain ⟨hK, hW, hVS, hX, hC, hst, hls, hlh, hag, hag2, hA, hn1, hn2⟩ := id hS
  obtain ⟨c1, c3, c4, c5⟩ := hcv
  obtain ⟨f1, f2, f3, f4, f5, f6, f7⟩ := q_CB (p := p) (s := s) (args := args) (na := As.length) (d2 := d2) (mc2 := mc2) (ms2 := ms2) (d := d) (mc := mc) (ms := ms) hok2 hts hd
  have hAs : ∀ x ∈ As, q_vcl h x := fun x hx => hst x (by show _ ∈ st; rw [hst']; simp [hx])
  have hpre : PreS s H (q_Pc g D cA ρ h H.size As) (As.map (q_vz ρ)) := ⟨q_Pc_blind, fun U hU hWm => q_Pc_at hS hAs U hU hWm⟩
  have hstk : (F0 m pc rls (st.map (q_vz ρ))).stack = (As.map (q_vz ρ)).reverse ++ rest.map (q_vz ρ) := by
    show st.map (q_vz ρ) = _
    rw [hst', List.map_append, List.map_reverse]
  have hM := hCt D cA ρ H.size
  refine q_run_go (aa := (As.map (q_vz ρ)).toArray) hB hS he' hpc (fun x hx => by rw [hst']; simp [hx]) hk hn hmv hm1 hm2 ?_ hR hX2
  rcases hw with hw | ⟨host, hw⟩
  · exact vx_runS (As := As.map (q_vz ρ)) (rest := rest.map (q_vz ρ)) (n := As.length) (Ts := q_tb) ⟨hx, hb, hml, hown, hts⟩ hM ⟨⟨f1, f2, f3, f4, f5, f6, f7, hts _ c3, c4, q_par c5, hts _ (q_gw_in hw rfl)⟩, hts _ c1⟩ hpre rfl (List.length_map _) hlh.1 hstk (lv_room (q_cat8 hcat)) hdg ⟨hk, hn⟩
  · exact vx_runSN (As := As.map (q_vz ρ)) (rest := rest.map (q_vz ρ)) (n := As.length) (Ts := q_tb) (host := host) ⟨hx, hb, hml, hown, hts⟩ hM ⟨⟨⟨f1, f2, f3, f4, f5, f6⟩, f7, hts _ c3, c4, q_par c5, q_Xn hX (q_gw_in2 hw) rfl rfl⟩, hts _ c1, trivial⟩ hpre rfl (List.length_map _) hlh.1 hstk (lv_room (q_cat8 hcat)) hdg ⟨hk, hn⟩
/-- a call of a constructor -/
theorem q_callI (hok : q_okM M = true) (hok2 : q_okM M2 = true) (he : q_nth M.2.2.2.2.1 pos = some (pc, .invokespecial idx, ln, a1, a2, w1, w2)) (hw : q_lk M idx M2.1 (q_gw w1 w2)) (hcv : q_ciP M2 As.length) (hret : M2.2.2.2.1 = none)
    (hCt : q_Ct g M2 d2 mc2 ms2 mv2 (.ref b :: As) h Q2) (hd : d2 + 1 ≤ d) (hk : k + mc2 ≤ mc) (hn : n + ms2 ≤ ms) (hcat : (rest.map fun v => v.category).sum ≤ 8)
    (hmv : ∀ x ∈ mv2, x ∈ mv) (hm1 : ∀ i a, q_nth ls i = some (some (.ref a)) → a ∉ mv2) (hm2 : ∀ a, Value.ref a ∈ rest → a ∉ mv2) (hst' : st = As.reverse ++ .ref b :: rest)
    (hR : ∀ v h', Q2 (.inl v) h' → q_J g M d mc ms h0 mv Q (k + mc2) (n + ms2) (pos + 1, ls, v.toList ++ rest, h')) (hX2 : ∀ E h', Q2 (.inr E) h' → Q (.inr E) h') : q_J g M d mc ms h0 mv Q k n (pos, ls, st, h) := by
  obtain rfl : ln = 3 := (q_at hok he).2.2.1 (Nat.succ_ne_zero _)
  intro p e s m args below meth cd D cA ρ0 ρ A H locs rls en hen hB hS
  cases he.symm.trans hen
  obtain ⟨hdg, hnx, -, -⟩ := q_at hok he
  obtain ⟨en', he', hpc⟩ := hnx rfl
  obtain ⟨hx, hb, hr0, hml, hts, hown, hlk, hnm, hxt⟩ := id hB
  obtain ⟨hK, hW, hVS, hX, hC, hst, hls, hlh, hag, hag2, hA, hn1, hn2⟩ := id hS
  obtain ⟨c1, c2, c3, c4, c5⟩ := hcv
  obtain ⟨f1, f2, f3, f4, f5, f6, f7⟩ := q_CB (p := p) (s := s) (args := args) (na := As.length) (d2 := d2) (mc2 := mc2) (ms2 := ms2) (d := d) (mc := mc) (ms := ms) hok2 hts hd
  have hAs : ∀ x ∈ Value.ref b :: As, q_vcl h x := by
    intro x hx
    rcases List.mem_cons.mp hx with rfl | hx
    · exact hst _ (by show _ ∈ st; rw [hst']; simp)
    · exact hst x (by show _ ∈ st; rw [hst']; simp [hx])
  have hpre : PreS s H (q_Pc g D cA ρ h H.size (.ref b :: As)) (.ref (ρ b) :: As.map (q_vz ρ)) := ⟨q_Pc_blind, fun U hU hWm => q_Pc_at hS hAs U hU hWm⟩
  have hstk : (F0 m pc rls (st.map (q_vz ρ))).stack = (As.map (q_vz ρ)).reverse ++ .ref (ρ b) :: rest.map (q_vz ρ) := by
    show st.map (q_vz ρ) = _
    rw [hst', List.map_append, List.map_cons, List.map_reverse]; rfl
  have hM := hCt D cA ρ H.size
  refine q_run_go (aa := (Value.ref (ρ b) :: As.map (q_vz ρ)).toArray) hB hS he' hpc (fun x hx => by rw [hst']; simp [hx]) hk hn hmv hm1 hm2 ?_ hR hX2
  rw [hret] at f6 f7
  rcases hw with hw | ⟨host, hw⟩
  · exact vx_runI (As := As.map (q_vz ρ)) (rest := rest.map (q_vz ρ)) (n := As.length) (Ts := q_tb) (ws := q_w M2) ⟨hx, hb, hml, hown, hts⟩ hM ⟨⟨f1, f2, f3, f4, f5, f6, f7, hts _ c3, c4, q_par c5, hts _ (q_gw_in hw rfl)⟩, c2, hts _ c1⟩ hpre rfl (List.length_map _) hlh.1 hstk (lv_room (q_cat8 hcat)) hdg ⟨hk, hn⟩
  · exact vx_runIN (As := As.map (q_vz ρ)) (rest := rest.map (q_vz ρ)) (n := As.length) (Ts := q_tb) (ws := q_w M2) (host := host) ⟨hx, hb, hml, hown, hts⟩ hM ⟨⟨⟨f1, f2, f3, f4, f5, f6⟩, f7, hts _ c3, c4, q_par c5, q_Xn hX (q_gw_in2 hw) rfl rfl⟩, c2, hts _ c1⟩ hpre rfl (List.length_map _) hlh.1 hstk (lv_room (q_cat8 hcat)) hdg ⟨hk, hn⟩
end QCALLS
