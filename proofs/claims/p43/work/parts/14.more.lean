/-! FURTHER RULES: throws, comparisons of constants, switches, JDK's own, views -/
theorem q_objI : Jvm.Cond.instanceMethod Lib.objectInit ∈ q_tb := List.mem_filter.mpr ⟨by decide +kernel, rfl⟩
theorem q_objC : Jvm.Cond.code Lib.objectInit ⟨#[0xb1]⟩ 1 none ∈ q_tb := List.mem_filter.mpr ⟨by decide +kernel, rfl⟩
theorem q_mmaxS : Jvm.Cond.static Lib.Math.max.name ∈ q_tb := List.mem_filter.mpr ⟨by decide +kernel, rfl⟩
theorem q_mmaxC : Jvm.Cond.code Lib.Math.max.name Lib.Math.max.code 2 (some .int) ∈ q_tb := List.mem_filter.mpr ⟨by decide +kernel, rfl⟩
theorem q_mminS : Jvm.Cond.static Lib.Math.min.name ∈ q_tb := List.mem_filter.mpr ⟨by decide +kernel, rfl⟩
theorem q_mminC : Jvm.Cond.code Lib.Math.min.name Lib.Math.min.code 2 (some .int) ∈ q_tb := List.mem_filter.mpr ⟨by decide +kernel, rfl⟩
theorem q_mIni : Jvm.Cond.initialized "java/lang/Math" ∈ q_tb := List.mem_filter.mpr ⟨by decide +kernel, rfl⟩
theorem q_acN : Jvm.Cond.native arraycopyName ∈ q_tb := List.mem_filter.mpr ⟨by decide +kernel, rfl⟩
theorem q_acS : Jvm.Cond.static arraycopyName ∈ q_tb := List.mem_filter.mpr ⟨by decide +kernel, rfl⟩
theorem q_acI : Jvm.Cond.initialized "java/lang/System" ∈ q_tb := List.mem_filter.mpr ⟨by decide +kernel, rfl⟩
section QMORE
variable {g : q_G} {M : q_M} {d mc ms : Nat} {h0 : q_H} {mv : List Nat} {Q : (Option Value ⊕ String) → q_H → Prop} {k n pos pc ln a1 a2 w1 w2 a ci v idx L j : Nat} {ls : List (Option Value)} {r st rest : List Value} {h : q_H}
abbrev q_exn : List String := ["java/lang/RuntimeException", "java/lang/Exception"]
def q_thr (own : String) (ic : Nat) (E : String) : Bool := (vx_atS own ic E q_exn).all fun w => (decide (w ∈ lw_tbl) && (goodWord w || q_isN w)) && vx_ot w
theorem q_thr_at {own E : String} {ic : Nat} {ρ : Nat → Nat} {A : Nat → Prop} {s : State} {H : Heap} {args : Array Value} (h : q_thr own ic E = true) (hts : ∀ w ∈ q_tb, w.before args s = true) (hX : q_Ext g ρ A s H) :
    (∀ w ∈ vx_atS own ic E q_exn, w.before args s = true) ∧ ∀ w ∈ vx_atS own ic E q_exn, vx_ot w = true := by
  unfold q_thr at h
  rw [List.all_eq_true] at h
  refine ⟨fun w hw => ?_, fun w hw => ?_⟩
  · have h1 := h w hw
    simp only [Bool.and_eq_true, Bool.or_eq_true, decide_eq_true_eq] at h1
    rcases h1.1.2 with h2 | h2
    · exact hts w (List.mem_filter.mpr ⟨h1.1.1, h2⟩)
    · exact q_Xn hX h1.1.1 h2 (q_isN_on h2)
  · have h1 := h w hw
    simp only [Bool.and_eq_true] at h1
    exact h1.2
/-- a new exception is thrown, and leaves the method -/
theorem q_o_throwS {E text : String} {ik is ic l0 l1 l2 l3 l4 x0 x1 x2 x3 x4 x5 x6 x7 x8 x9 u0 u1 u2 u3 u4 u5 u6 u7 u8 u9 : Nat} (hok : q_okM M = true) (he0 : q_nth M.2.2.2.2.1 pos = some (pc, .new ik, l0, x0, x1, u0, u1)) (he1 : q_nth M.2.2.2.2.1 (pos + 1) = some (pc + 3, .dup, l1, x2, x3, u2, u3)) (he2 : q_nth M.2.2.2.2.1 (pos + 2) = some (pc + 4, .ldc is, l2, x4, x5, u4, u5)) (he3 : q_nth M.2.2.2.2.1 (pos + 3) = some (pc + 6, .invokespecial ic, l3, x6, x7, u6, u7)) (he4 : q_nth M.2.2.2.2.1 (pos + 4) = some (pc + 9, .athrow, l4, x8, x9, u8, u9))
    (hw : q_gw u0 u1 = some (.classLink M.1.cls ik E)) (hini : Jvm.Cond.initialized E ∈ q_tb) (hmsg : (M.1.cls, is, text) ∈ q_msg) (hthr : q_thr M.1.cls ic E = true) (hfit : Bundle.fit E = true) (hfits : ∀ n ∈ q_exn, Bundle.fit n = true)
    (hd : 6 ≤ d) (hcat : (r.map fun v => v.category).sum ≤ 8) (hk : k + 1 ≤ mc) (hn : n + 6 ≤ ms) (hQ : Q (.inr E) h) : q_J g M d mc ms h0 mv Q k n (pos, ls, r, h) := by
  intro p e s m args below meth cd D cA ρ0 ρ A H locs rls en hen hB hS
  cases he0.symm.trans hen
  obtain ⟨d0, -, hl0, -⟩ := q_at hok he0
  obtain ⟨d1, -, hl1, -⟩ := q_at hok he1
  obtain ⟨d2, -, hl2, -⟩ := q_at hok he2
  obtain ⟨d3, -, hl3, -⟩ := q_at hok he3
  obtain ⟨d4, -, hl4, -⟩ := q_at hok he4
  obtain rfl := hl0 (Nat.succ_ne_zero _)
  obtain rfl := hl1 (Nat.succ_ne_zero _)
  obtain rfl := hl2 (Nat.succ_ne_zero _)
  obtain rfl := hl3 (Nat.succ_ne_zero _)
  obtain rfl := hl4 (Nat.succ_ne_zero _)
  obtain ⟨hx, hb, hr, hml, hts, hown, hlk, hnm, hxt⟩ := id hB
  obtain ⟨hK, hW, hVS, hX, hC, hst, hls, hlh, hag, hag2, hA, hnx0⟩ := id hS
  obtain ⟨hat, hgood⟩ := q_thr_at hthr hts hX
  obtain ⟨e1, e2, e3, e4, e5, e6, e7, e8, e9, e10, e11, e12, e13, e14, e15, e16, e17, e18, e19⟩ := id hX
  obtain ⟨sa, hsa⟩ := e10 _ hmsg
  refine vx_throwS (names := q_exn) (A := A) hx hb e1 hown hfit hfits (hts _ (q_gw_in hw rfl)) (hts _ hini) hsa hat (fun w hw9 => ?_) e12 e13 hVS (hlh.1.trans hml.symm) d0 d1 d2 d3 d4 (fun x hx9 => absurd (hxt x hx9) id) ?_ ?_ hk hn hlk (fun t ha9 hz hq => ?_) hVS.2.2 hk hn
  · rcases List.mem_cons.mp hw9 with rfl | hw9
    · rfl
    · rcases List.mem_cons.mp hw9 with rfl | hw9
      · rfl
      · exact hgood w hw9
  · show 2 + 3 < d
    omega
  · have := q_cat8 (ρ := ρ) hcat
    show ((r.map (q_vz ρ)).map fun v => v.category).sum + (13 * (2 + 1) + 43) ≤ 64 * d
    omega
  · obtain ⟨ws, f1, f2, hP, hD⟩ := hW
    refine ⟨h, ρ, hQ, hag, hag2, ⟨ws, f1, f2, hP.kept (fun k9 q9 h9 => hq _ (hP k9 q9 h9).lt), hD⟩, va_K.moved ha9 hK, hC, hnx0.1, hnx0.2, ⟨Nat.le_trans hVS.1 hz, fun q9 h1 h2 => ?_⟩⟩
    rw [hq q9 (Nat.lt_of_lt_of_le h1 hVS.1)]
    exact hVS.2.1 q9 h1 h2
/-- a new exception is thrown, and leaves the method -/
theorem q_o_throwSW {E text : String} {ik is ic l0 l1 l2 l3 l4 x0 x1 x2 x3 x4 x5 x6 x7 x8 x9 u0 u1 u2 u3 u4 u5 u6 u7 u8 u9 : Nat} (hok : q_okM M = true) (he0 : q_nth M.2.2.2.2.1 pos = some (pc, .new ik, l0, x0, x1, u0, u1)) (he1 : q_nth M.2.2.2.2.1 (pos + 1) = some (pc + 3, .dup, l1, x2, x3, u2, u3)) (he2 : q_nth M.2.2.2.2.1 (pos + 2) = some (pc + 4, .ldc_w is, l2, x4, x5, u4, u5)) (he3 : q_nth M.2.2.2.2.1 (pos + 3) = some (pc + 7, .invokespecial ic, l3, x6, x7, u6, u7)) (he4 : q_nth M.2.2.2.2.1 (pos + 4) = some (pc + 10, .athrow, l4, x8, x9, u8, u9))
    (hw : q_gw u0 u1 = some (.classLink M.1.cls ik E)) (hini : Jvm.Cond.initialized E ∈ q_tb) (hmsg : (M.1.cls, is, text) ∈ q_msg) (hthr : q_thr M.1.cls ic E = true) (hfit : Bundle.fit E = true) (hfits : ∀ n ∈ q_exn, Bundle.fit n = true)
    (hd : 6 ≤ d) (hcat : (r.map fun v => v.category).sum ≤ 8) (hk : k + 1 ≤ mc) (hn : n + 6 ≤ ms) (hQ : Q (.inr E) h) : q_J g M d mc ms h0 mv Q k n (pos, ls, r, h) := by
  intro p e s m args below meth cd D cA ρ0 ρ A H locs rls en hen hB hS
  cases he0.symm.trans hen
  obtain ⟨d0, -, hl0, -⟩ := q_at hok he0
  obtain ⟨d1, -, hl1, -⟩ := q_at hok he1
  obtain ⟨d2, -, hl2, -⟩ := q_at hok he2
  obtain ⟨d3, -, hl3, -⟩ := q_at hok he3
  obtain ⟨d4, -, hl4, -⟩ := q_at hok he4
  obtain rfl := hl0 (Nat.succ_ne_zero _)
  obtain rfl := hl1 (Nat.succ_ne_zero _)
  obtain rfl := hl2 (Nat.succ_ne_zero _)
  obtain rfl := hl3 (Nat.succ_ne_zero _)
  obtain rfl := hl4 (Nat.succ_ne_zero _)
  obtain ⟨hx, hb, hr, hml, hts, hown, hlk, hnm, hxt⟩ := id hB
  obtain ⟨hK, hW, hVS, hX, hC, hst, hls, hlh, hag, hag2, hA, hnx0⟩ := id hS
  obtain ⟨hat, hgood⟩ := q_thr_at hthr hts hX
  obtain ⟨e1, e2, e3, e4, e5, e6, e7, e8, e9, e10, e11, e12, e13, e14, e15, e16, e17, e18, e19⟩ := id hX
  obtain ⟨sa, hsa⟩ := e10 _ hmsg
  refine vx_throwSW (names := q_exn) (A := A) hx hb e1 hown hfit hfits (hts _ (q_gw_in hw rfl)) (hts _ hini) hsa hat (fun w hw9 => ?_) e12 e13 hVS (hlh.1.trans hml.symm) d0 d1 d2 d3 d4 (fun x hx9 => absurd (hxt x hx9) id) ?_ ?_ hk hn hlk (fun t ha9 hz hq => ?_) hVS.2.2 hk hn
  · rcases List.mem_cons.mp hw9 with rfl | hw9
    · rfl
    · rcases List.mem_cons.mp hw9 with rfl | hw9
      · rfl
      · exact hgood w hw9
  · show 2 + 3 < d
    omega
  · have := q_cat8 (ρ := ρ) hcat
    show ((r.map (q_vz ρ)).map fun v => v.category).sum + (13 * (2 + 1) + 43) ≤ 64 * d
    omega
  · obtain ⟨ws, f1, f2, hP, hD⟩ := hW
    refine ⟨h, ρ, hQ, hag, hag2, ⟨ws, f1, f2, hP.kept (fun k9 q9 h9 => hq _ (hP k9 q9 h9).lt), hD⟩, va_K.moved ha9 hK, hC, hnx0.1, hnx0.2, ⟨Nat.le_trans hVS.1 hz, fun q9 h1 h2 => ?_⟩⟩
    rw [hq q9 (Nat.lt_of_lt_of_le h1 hVS.1)]
    exact hVS.2.1 q9 h1 h2
theorem q_inj {ρ ρ0 : Nat → Nat} {A : Nat → Prop} {s : State} {H : Heap} (hX : q_Ext g ρ0 A s H) (hag2 : ∀ a, a < 400 → ρ a = ρ0 a) {x y : Nat} (hx : x < 49) (hy : y < 49) (h : ρ x = ρ y) : x = y := by
  rw [hag2 x (by omega), hag2 y (by omega)] at h
  exact hX.2.2.2.1 x y hx hy h
theorem q_o_acmp_eq {off : Int} {x y : Nat} (hok : q_okM M = true) (he : q_nth M.2.2.2.2.1 pos = some (pc, .if_acmp .eq off, ln, a1, a2, w1, w2)) (hx4 : x < 49) (hy4 : y < 49)
    (hT : x = y → q_J g M d mc ms h0 mv Q k n (a1, ls, r, h)) (hF : ¬ x = y → q_J g M d mc ms h0 mv Q k n (pos + 1, ls, r, h)) : q_J g M d mc ms h0 mv Q k n (pos, ls, .ref y :: .ref x :: r, h) := by
  obtain rfl : ln = 3 := (q_at hok he).2.2.1 (Nat.succ_ne_zero _)
  intro p e s m args below meth cd D cA ρ0 ρ A H locs rls en hen hB hS
  cases he.symm.trans hen
  obtain ⟨hd, hnx, -, ho2⟩ := q_at hok he
  obtain ⟨en', he', hpc⟩ := hnx rfl
  obtain ⟨hx, hb, hr, hml, hts, hown, hlk, hnm, hxt⟩ := id hB
  obtain ⟨hK, hW, hVS, hX, hC, hst, hls, hlh, hag, hag2, hA, hnx0⟩ := id hS
  have ho2 : q_tgt M.2.2.2.2.1 pc a1 off = true := ho2
  unfold q_tgt at ho2
  cases hq : q_nth M.2.2.2.2.1 a1 with
  | none => rw [hq] at ho2; cases ho2
  | some et =>
  rw [hq] at ho2
  have htg : (pc : Int) + off = (et.1 : Int) := by simpa using ho2
  refine lv_acmp_eq (rx := some (ρ x)) (ry := some (ρ y)) hx hb hd htg (fun hz => ?_) (fun hz => ?_)
  · exact hT (q_inj hX hag2 hx4 hy4 (Option.some.inj hz)) p e s m args below meth cd D cA ρ0 ρ A H locs rls et hq hB ⟨hK, hW, hVS, hX, hC, q_tl (q_tl hst), hls, hlh, hag, hag2, hA, hnx0⟩
  · have h9 := hF (fun hz2 => hz (by rw [hz2])) p e s m args below meth cd D cA ρ0 ρ A H locs rls en' he' hB ⟨hK, hW, hVS, hX, hC, q_tl (q_tl hst), hls, hlh, hag, hag2, hA, hnx0⟩
    rw [hpc] at h9
    exact h9
theorem q_o_acmp_ne {off : Int} {x y : Nat} (hok : q_okM M = true) (he : q_nth M.2.2.2.2.1 pos = some (pc, .if_acmp .ne off, ln, a1, a2, w1, w2)) (hx4 : x < 49) (hy4 : y < 49)
    (hT : ¬ x = y → q_J g M d mc ms h0 mv Q k n (a1, ls, r, h)) (hF : x = y → q_J g M d mc ms h0 mv Q k n (pos + 1, ls, r, h)) : q_J g M d mc ms h0 mv Q k n (pos, ls, .ref y :: .ref x :: r, h) := by
  obtain rfl : ln = 3 := (q_at hok he).2.2.1 (Nat.succ_ne_zero _)
  intro p e s m args below meth cd D cA ρ0 ρ A H locs rls en hen hB hS
  cases he.symm.trans hen
  obtain ⟨hd, hnx, -, ho2⟩ := q_at hok he
  obtain ⟨en', he', hpc⟩ := hnx rfl
  obtain ⟨hx, hb, hr, hml, hts, hown, hlk, hnm, hxt⟩ := id hB
  obtain ⟨hK, hW, hVS, hX, hC, hst, hls, hlh, hag, hag2, hA, hnx0⟩ := id hS
  have ho2 : q_tgt M.2.2.2.2.1 pc a1 off = true := ho2
  unfold q_tgt at ho2
  cases hq : q_nth M.2.2.2.2.1 a1 with
  | none => rw [hq] at ho2; cases ho2
  | some et =>
  rw [hq] at ho2
  have htg : (pc : Int) + off = (et.1 : Int) := by simpa using ho2
  refine lv_acmp_ne (rx := some (ρ x)) (ry := some (ρ y)) hx hb hd htg (fun hz => ?_) (fun hz => ?_)
  · exact hT (fun hz2 => hz (by rw [hz2])) p e s m args below meth cd D cA ρ0 ρ A H locs rls et hq hB ⟨hK, hW, hVS, hX, hC, q_tl (q_tl hst), hls, hlh, hag, hag2, hA, hnx0⟩
  · have h9 := hF (q_inj hX hag2 hx4 hy4 (Option.some.inj hz)) p e s m args below meth cd D cA ρ0 ρ A H locs rls en' he' hB ⟨hK, hW, hVS, hX, hC, q_tl (q_tl hst), hls, hlh, hag, hag2, hA, hnx0⟩
    rw [hpc] at h9
    exact h9
/-- a switch: its targets' places -/
def q_swok (tab : List q_En) (pc : Nat) (dflt lo hi : Int) (offs : Array Int) (dp : Nat) (tg : List Nat) : Bool :=
  q_tgt tab pc dp dflt && (decide (hi = lo + (offs.size : Int) - 1) && (decide (tg.length = offs.size) && (List.range offs.size).all fun i => match q_nth tg i, offs[i]? with
    | some t, some off => q_tgt tab pc t off
    | _, _ => false))
theorem q_tgt_of {tab : List q_En} {pc a1 : Nat} {off : Int} (h : q_tgt tab pc a1 off = true) : ∃ et, q_nth tab a1 = some et ∧ (pc : Int) + off = (et.1 : Int) := by
  unfold q_tgt at h
  cases hq : q_nth tab a1 with
  | none => rw [hq] at h; cases h
  | some et => rw [hq] at h; exact ⟨et, rfl, by simpa using h⟩
theorem q_o_sw {dflt lo hi : Int} {offs : Array Int} {x : Int32} {dp : Nat} (tg : List Nat) (hok : q_okM M = true) (he : q_nth M.2.2.2.2.1 pos = some (pc, .tableswitch dflt lo hi offs, ln, a1, a2, w1, w2)) (hc : q_swok M.2.2.2.2.1 pc dflt lo hi offs dp tg = true)
    (hin : ∀ i t, q_nth tg i = some t → x.toInt = lo + (i : Int) → q_J g M d mc ms h0 mv Q k n (t, ls, r, h)) (hout : x.toInt < lo ∨ hi < x.toInt → q_J g M d mc ms h0 mv Q k n (dp, ls, r, h)) : q_J g M d mc ms h0 mv Q k n (pos, ls, .int x :: r, h) := by
  intro p e s m args below meth cd D cA ρ0 ρ A H locs rls en hen hB hS
  cases he.symm.trans hen
  obtain ⟨hd, -, -, -⟩ := q_at hok he
  obtain ⟨hx, hb, hr, hml, hts, hown, hlk, hnm, hxt⟩ := id hB
  obtain ⟨hK, hW, hVS, hX, hC, hst, hls, hlh, hag, hag2, hA, hnx0⟩ := id hS
  unfold q_swok at hc
  simp only [Bool.and_eq_true, decide_eq_true_eq, List.all_eq_true] at hc
  obtain ⟨c1, c2, c3, c4⟩ := hc
  have hS' : q_Sit g M.2.2.1 D cA ρ0 ρ h0 h mv A s H locs ls rls r := ⟨hK, hW, hVS, hX, hC, q_tl hst, hls, hlh, hag, hag2, hA, hnx0⟩
  by_cases h1 : x.toInt < lo ∨ hi < x.toInt
  · obtain ⟨et, hq, htg⟩ := q_tgt_of c1
    exact lv_tableOut hx hb hd h1 htg (hout h1 p e s m args below meth cd D cA ρ0 ρ A H locs rls et hq hB hS')
  · have h2 : ¬ x.toInt < lo := fun z => h1 (Or.inl z)
    have h3 : ¬ hi < x.toInt := fun z => h1 (Or.inr z)
    obtain ⟨i, hi9⟩ : ∃ i : Nat, x.toInt = lo + (i : Int) := ⟨(x.toInt - lo).toNat, by omega⟩
    have hil : i < offs.size := by omega
    have h4 := c4 i (List.mem_range.mpr hil)
    cases hq1 : q_nth tg i with
    | none => rw [hq1] at h4; cases h4
    | some t =>
    cases hq2 : offs[i]? with
    | none => rw [hq1, hq2] at h4; cases h4
    | some off =>
    rw [hq1, hq2] at h4
    obtain ⟨et, hq, htg⟩ := q_tgt_of h4
    exact lv_tableIn hx hb hd h2 h3 (by rw [show (x.toInt - lo).toNat = i by omega]; exact hq2) htg (hin i t hq1 hi9 p e s m args below meth cd D cA ρ0 ρ A H locs rls et hq hB hS')
theorem q_o_objInit (hok : q_okM M = true) (he : q_nth M.2.2.2.2.1 pos = some (pc, .invokespecial idx, ln, a1, a2, w1, w2)) (hw : q_gw w1 w2 = some (.methodLink M.1.cls idx Lib.objectInit)) (hd1 : 1 ≤ d) (hcat : (r.map fun v => v.category).sum ≤ 8)
    (hJ : q_J g M d mc ms h0 mv Q k n (pos + 1, ls, r, h)) : q_J g M d mc ms h0 mv Q k n (pos, ls, .ref a :: r, h) := by
  obtain rfl : ln = 3 := (q_at hok he).2.2.1 (Nat.succ_ne_zero _)
  intro p e s m args below meth cd D cA ρ0 ρ A H locs rls en hen hB hS
  cases he.symm.trans hen
  obtain ⟨hd, hnx, -, ho2⟩ := q_at hok he
  obtain ⟨en', he', hpc⟩ := hnx rfl
  obtain ⟨hx, hb, hr, hml, hts, hown, hlk, hnm, hxt⟩ := id hB
  obtain ⟨hK, hW, hVS, hX, hC, hst, hls, hlh, hag, hag2, hA, hnx0⟩ := id hS
  have h9 := hJ p e s m args below meth cd D cA ρ0 ρ A H locs rls en' he' hB ⟨hK, hW, hVS, hX, hC, q_tl hst, hls, hlh, hag, hag2, hA, hnx0⟩
  rw [hpc] at h9
  refine W.objInit hx hb hown (hts _ (q_gw_in hw rfl)) (hts _ q_objI) (hts _ q_objC) (g := F0 m pc rls (q_vz ρ (.ref a) :: r.map (q_vz ρ))) rfl (by show rls.size = _; rw [hlh.1, hml]) rfl hd hd1 ?_ h9
  have := q_cat8 (ρ := ρ) hcat
  show 2 * 0 + ((r.map (q_vz ρ)).map fun v => v.category).sum + 12 ≤ 64 * d
  omega
def q_max (x y : Int32) : Int32 := if x < y then y else x
theorem q_o_mmax {x y : Int32} (hok : q_okM M = true) (he : q_nth M.2.2.2.2.1 pos = some (pc, .invokestatic idx, ln, a1, a2, w1, w2)) (hw : q_gw w1 w2 = some (.methodLink M.1.cls idx Lib.Math.max.name)) (hd1 : 1 ≤ d) (hcat : (r.map fun v => v.category).sum ≤ 8) (hk : k ≤ mc) (hn : n ≤ ms)
    (hJ : q_J g M d mc ms h0 mv Q k n (pos + 1, ls, .int (q_max x y) :: r, h)) : q_J g M d mc ms h0 mv Q k n (pos, ls, .int y :: .int x :: r, h) := by
  obtain rfl : ln = 3 := (q_at hok he).2.2.1 (Nat.succ_ne_zero _)
  intro p e s m args below meth cd D cA ρ0 ρ A H locs rls en hen hB hS
  cases he.symm.trans hen
  obtain ⟨hd, hnx, -, ho2⟩ := q_at hok he
  obtain ⟨en', he', hpc⟩ := hnx rfl
  obtain ⟨hx, hb, hr, hml, hts, hown, hlk, hnm, hxt⟩ := id hB
  obtain ⟨hK, hW, hVS, hX, hC, hst, hls, hlh, hag, hag2, hA, hnx0⟩ := id hS
  have h9 := hJ p e s m args below meth cd D cA ρ0 ρ A H locs rls en' he' hB ⟨hK, hW, hVS, hX, hC, q_cl1 q_vcl_i (q_tl (q_tl hst)), hls, hlh, hag, hag2, hA, hnx0⟩
  rw [hpc] at h9
  have := q_cat8 (ρ := ρ) hcat
  exact va_mmax hx hb (hml.trans hlh.1.symm) hown (hts _ (q_gw_in hw rfl)) (hts _ q_mmaxS) (hts _ q_mIni) (hts _ q_mmaxC) hd1 (by show _ ≤ 64 * d; omega) hk hn hd h9
def q_min (x y : Int32) : Int32 := if y < x then y else x
theorem q_o_mmin {x y : Int32} (hok : q_okM M = true) (he : q_nth M.2.2.2.2.1 pos = some (pc, .invokestatic idx, ln, a1, a2, w1, w2)) (hw : q_gw w1 w2 = some (.methodLink M.1.cls idx Lib.Math.min.name)) (hd1 : 1 ≤ d) (hcat : (r.map fun v => v.category).sum ≤ 8) (hk : k ≤ mc) (hn : n ≤ ms)
    (hJ : q_J g M d mc ms h0 mv Q k n (pos + 1, ls, .int (q_min x y) :: r, h)) : q_J g M d mc ms h0 mv Q k n (pos, ls, .int y :: .int x :: r, h) := by
  obtain rfl : ln = 3 := (q_at hok he).2.2.1 (Nat.succ_ne_zero _)
  intro p e s m args below meth cd D cA ρ0 ρ A H locs rls en hen hB hS
  cases he.symm.trans hen
  obtain ⟨hd, hnx, -, ho2⟩ := q_at hok he
  obtain ⟨en', he', hpc⟩ := hnx rfl
  obtain ⟨hx, hb, hr, hml, hts, hown, hlk, hnm, hxt⟩ := id hB
  obtain ⟨hK, hW, hVS, hX, hC, hst, hls, hlh, hag, hag2, hA, hnx0⟩ := id hS
  have h9 := hJ p e s m args below meth cd D cA ρ0 ρ A H locs rls en' he' hB ⟨hK, hW, hVS, hX, hC, q_cl1 q_vcl_i (q_tl (q_tl hst)), hls, hlh, hag, hag2, hA, hnx0⟩
  rw [hpc] at h9
  have := q_cat8 (ρ := ρ) hcat
  exact va_mmin hx hb (hml.trans hlh.1.symm) hown (hts _ (q_gw_in hw rfl)) (hts _ q_mminS) (hts _ q_mIni) (hts _ q_mminC) hd1 (by show _ ≤ 64 * d; omega) hk hn hd h9
/-- the first c places of a row are those of another one -/
def q_cp {α : Type} (f g : Nat → α) (c : Nat) : Nat → α := fun j => bif Nat.blt j c then f j else g j
theorem q_cp_lt {α : Type} {f g : Nat → α} {c j : Nat} (h : j < c) : q_cp f g c j = f j := by unfold q_cp; rw [Nat.blt_eq.mpr h, cond_true]
theorem q_cp_ge {α : Type} {f g : Nat → α} {c j : Nat} (h : c ≤ j) : q_cp f g c j = g j := by
  unfold q_cp
  cases hb : Nat.blt j c with
  | true => exact absurd (Nat.blt_eq.mp hb) (by omega)
  | false => rfl
theorem q_o_copy {b L2 c : Nat} {nn : Int32} (hok : q_okM M = true) (he : q_nth M.2.2.2.2.1 pos = some (pc, .invokestatic idx, ln, a1, a2, w1, w2)) (hw : q_gw w1 w2 = some (.methodLink M.1.cls idx arraycopyName)) (hd1 : 1 ≤ d) (hcat : (r.map fun v => v.category).sum ≤ 8)
    (ha : 400 ≤ a) (hsh : q_sh h a = (1, 0, L)) (hb4 : 400 ≤ b) (hsb : q_sh h b = (1, 0, L2)) (hnn : nn = nI c) (hc1 : c ≤ L) (hc2 : c ≤ L2) (hc3 : c < 2147483648)
    (hJ : q_J g M d mc ms h0 mv Q k n (pos + 1, ls, r, (q_nx h, q_sh h, q_ur (q_I h) b (q_cp (q_I h a) (q_I h b) c), q_R h, q_E h, q_L h))) : q_J g M d mc ms h0 mv Q k n (pos, ls, .int nn :: .int 0 :: .ref b :: .int 0 :: .ref a :: r, h) := by
  obtain rfl : ln = 3 := (q_at hok he).2.2.1 (Nat.succ_ne_zero _)
  intro p e s m args below meth cd D cA ρ0 ρ A H locs rls en hen hB hS
  cases he.symm.trans hen
  obtain ⟨hd, hnx, -, ho2⟩ := q_at hok he
  obtain ⟨en', he', hpc⟩ := hnx rfl
  obtain ⟨hx, hb, hr, hml, hts, hown, hlk, hnm, hxt⟩ := id hB
  obtain ⟨hK, hW, hVS, hX, hC, hst, hls, hlh, hag, hag2, hA, hnx0⟩ := id hS
  have ha2 : a < q_nx h := q_lt hC hsh (by decide)
  have hb2 : b < q_nx h := q_lt hC hsb (by decide)
  obtain ⟨ws, e9, f1, f2, hP, hD, hat, hcr⟩ := q_Wd_at hW ha ha2
  obtain ⟨ws2, e8, g1, g2, hP2, hD2, hat2, hcr2⟩ := q_Wd_at hW hb4 hb2
  obtain ⟨ws, f1, f2, hP, hD⟩ := hW
  have f1 : ws.length + 400 = q_nx h := f1
  have look : ∀ z, 400 ≤ z → z < q_nx h → ∃ e, ws[z - 400]? = some (ρ z, e) ∧ q_cr cA ρ h z e (q_sh h z) := by
    intro z z1 z2
    have hk9 : z - 400 < ws.length := by omega
    have he9 : ws[z - 400]? = some ws[z - 400] := List.getElem?_eq_getElem hk9
    obtain ⟨y1, y2⟩ := f2 _ _ he9
    rw [show 400 + (z - 400) = z by omega] at y1 y2
    exact ⟨ws[z - 400].2, by rw [he9, ← y1], y2⟩
  obtain ⟨ea, hea, hca⟩ := look a ha ha2
  obtain ⟨eb, heb, hcb⟩ := look b hb4 hb2
  rw [hsh] at hca
  rw [hsb] at hcb
  have hca : ea = _ := hca
  have hcb : eb = _ := hcb
  rw [hca] at hea
  rw [hcb] at heb
  subst hnn
  have := q_cat8 (ρ := ρ) hcat
  refine va_copyi hx hb (hml.trans hlh.1.symm) hown (hts _ (q_gw_in hw rfl)) (hts _ q_acN) (hts _ q_acS) (hts _ q_acI) hK hP hD hVS (a - 400) (b - 400) 0 0 hea heb rfl rfl rfl (by decide) (by decide) (nI_pos (by omega)) ?_ ?_ (fun _ _ => rfl) hd1 ?_ hd (fun H1 locs1 hP1 hD1 hS1 => ?_)
  · rw [nI_clamp (by omega)]; show 0 + c ≤ L; omega
  · rw [nI_clamp (by omega)]; show 0 + c ≤ L2; omega
  · show ((r.map (q_vz ρ)).map fun v => v.category).sum + (nativeFrameWords "java/lang/System" "arraycopy" 5 + 11) ≤ 64 * d
    have h7 : nativeFrameWords "java/lang/System" "arraycopy" 5 ≤ 40 := by decide +kernel
    omega
  rw [nI_clamp (by omega)] at hP1 hD1
  have hfun : va_cpy (q_I h a) (q_I h b) (Int32.toNatClampNeg 0) (Int32.toNatClampNeg 0) c = q_cp (q_I h a) (q_I h b) c := by
    funext j
    show (if 0 ≤ j ∧ j < 0 + c then q_I h a (0 + (j - 0)) else q_I h b j) = _
    by_cases hj : j < c
    · rw [if_pos ⟨Nat.zero_le _, by omega⟩, q_cp_lt hj]; simp
    · rw [if_neg (by omega), q_cp_ge (by omega)]
  rw [hfun] at hP1 hD1
  have hW1 : q_Wd D cA ρ (q_nx h, q_sh h, q_ur (q_I h) b (q_cp (q_I h a) (q_I h b) c), q_R h, q_E h, q_L h) A H1 := by
    refine q_Wd_set f1 f2 hb4 hb2 rfl rfl (fun z hz => ⟨q_ur_n _ _ _ hz, rfl, rfl, rfl⟩) ?_ hP1 hD1
    show q_cr cA ρ _ b _ (q_sh h b)
    rw [hsb]
    show (Sum.inl (cA 0, L2, Sum.inl (q_cp (q_I h a) (q_I h b) c)) : va_E) = Sum.inl (cA 0, L2, Sum.inl (q_ur (q_I h) b (q_cp (q_I h a) (q_I h b) c) b))
    rw [q_ur_s]
  have h9 := hJ p e s m args below meth cd D cA ρ0 ρ A H1 locs1 rls en' he' hB ⟨hK, hW1, hS1, hX, hC, q_tl (q_tl (q_tl (q_tl (q_tl hst)))), hls, hlh, hag, hag2, hA, hnx0⟩
  rw [hpc] at h9
  exact h9
/-- the same world, seen as another heap -/
theorem q_view {h' : q_H} {mv2 : List Nat} (hv : ∀ D cA ρ A H, q_clo h → q_Wd D cA ρ h A H → ∃ ρ', q_Wd D cA ρ' h' A H ∧ (∀ a, a < 400 → ρ' a = ρ a) ∧ (∀ a, a < q_nx h' → a ∉ mv2 → ρ' a = ρ a)) (hclo : q_clo h → q_clo h') (hn1 : 400 ≤ q_nx h') (hn2 : q_nx h0 ≤ q_nx h')
    (hmv : ∀ x ∈ mv2, x ∈ mv) (hst9 : ∀ a, Value.ref a ∈ st → a < q_nx h' ∧ a ∉ mv2) (hls9 : ∀ i a, q_nth ls i = some (some (.ref a)) → a < q_nx h' ∧ a ∉ mv2) (hJ : q_J g M d mc ms h0 mv Q k n (pos, ls, st, h')) : q_J g M d mc ms h0 mv Q k n (pos, ls, st, h) := by
  intro p e s m args below meth cd D cA ρ0 ρ A H locs rls en hen hB hS
  obtain ⟨hK, hW, hVS, hX, hC, hst, hls, hlh, hag, hag2, hA, hnx0⟩ := id hS
  obtain ⟨ρ', hW', r1, r2⟩ := hv D cA ρ A H hC hW
  have h9 := hJ p e s m args below meth cd D cA ρ0 ρ' A H locs rls en hen hB ⟨hK, hW', hVS, hX, hclo hC, fun v hv a ha => (hst9 a (by rw [← ha]; exact hv)).1, fun i v hv a ha => (hls9 i a (by rw [hv, ha])).1, q_lh_ren (fun i a ha => r2 a (hls9 i a ha).1 (hls9 i a ha).2) hlh, fun a ha hm => ?_, fun a ha => (r1 a ha).trans (hag2 a ha), hA, hn1, hn2⟩
  · have hmap : st.map (q_vz ρ') = st.map (q_vz ρ) := q_map_ren fun v hv a ha => r2 a (hst9 a (by rw [← ha]; exact hv)).1 (hst9 a (by rw [← ha]; exact hv)).2
    rw [show ((pos, ls, st, h') : q_C).2.2.1 = st from rfl, hmap] at h9
    exact h9
  · rw [r2 a (Nat.lt_of_lt_of_le ha hn2) (fun z => hm (hmv a z))]
    exact hag a ha hm
end QMORE
