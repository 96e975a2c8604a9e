/-! THE LAW'S HELPERS: a call each, its exceptions caught (printed by wip/gen/genH.py) -/
/-- what a helper answers: 0 and the answer put by; or the number of the exception -/
def q_hQ (cs : List String) (conv : Int32 → Int64) (L : Nat → Nat → Int64) (o2 : Option Value ⊕ String) (I' : Nat → Nat → Int32) (E' : Nat → Nat → Option Nat) : (Option Value ⊕ String) → q_H → Prop := fun o h' => (∃ v : Int32, o2 = .inl (some (.int v)) ∧ o = .inl (some (.int 0)) ∧ h' = q_hp (q_XL (q_u2 L 528 0 (conv v))) I' E') ∨ ∃ (E : String) (i : Nat), o2 = .inr E ∧ q_nth cs i = some E ∧ o = .inl (some (.int (nI (i + 1)))) ∧ h' = q_hp (q_XL L) I' E'
def q_cvZ (v : Int32) : Int64 := if v = 0 then 0 else 1
def q_r45 (l : List (Option Value)) : Bool := l.all fun v => match v with
  | some (.ref a) => Nat.beq a 400 || Nat.beq a 528
  | _ => true
theorem q_r45_of {ls : List (Option Value)} {mv : List Nat} (h : q_r45 ls = true) (h4 : 400 ∉ mv) (h5 : 528 ∉ mv) : ∀ i a, q_nth ls i = some (some (.ref a)) → a ∉ mv := by
  intro i a hi
  rw [q_nth_eq] at hi
  have h1 : (Nat.beq a 400 || Nat.beq a 528) = true := List.all_eq_true.mp h _ (List.mem_of_getElem? hi)
  simp only [Bool.or_eq_true] at h1
  rcases h1 with h1 | h1
  · rw [Nat.eq_of_beq_eq_true h1]; exact h4
  · rw [Nat.eq_of_beq_eq_true h1]; exact h5
theorem q_catc {ls : List (Option Value)} {i : Nat} (h : (q_nth ls i = none ∨ q_nth ls i = some none) ∧ (ls.all fun v => match v with | some u => Nat.beq u.category 1 | none => true) = true) : ∀ j u, q_nth ls j = some (some u) → j ≠ i ∧ u.category = 1 := by
  intro j u hj
  refine ⟨fun e => ?_, ?_⟩
  · rw [e] at hj
    rcases h.1 with h1 | h1 <;> (rw [h1] at hj; cases hj)
  · rw [q_nth_eq] at hj
    have := List.all_eq_true.mp h.2 _ (List.mem_of_getElem? hj)
    exact Nat.eq_of_beq_eq_true this
theorem okB_L_feed : q_okB m_L_feed = true := by decide +kernel
theorem cw_L_feed : Jvm.Cond.codeWith m_L_feed.1 m_L_feed.2.1 m_L_feed.2.2.1 m_L_feed.2.2.2.1 [(0, 16, 19, 13)] ∈ q_tb := q_gw_in (k := 4) (i := 171) (by decide +kernel) rfl
set_option maxHeartbeats 4000000 in
theorem cth_feed {g : q_G} {L : Nat → Nat → Int64} {I I' : Nat → Nat → Int32} {E E' : Nat → Nat → Option Nat} {mc ms : Nat} {mv2 : List Nat} {o2 : Option Value ⊕ String} {x1 x2 x3 x4 x5 : Int32} (hm400 : 400 ∉ mv2) (hm528 : 528 ∉ mv2)
    (hCt : q_Ct g m_X12_feed 410 mc ms mv2 [.ref 400, .int x1, .int x2, .int x3, .int x4, .int x5] (q_hp (q_XL L) I E) (fun o h' => o = o2 ∧ h' = q_hp (q_XL L) I' E')) (hres : (∃ v : Int32, o2 = .inl (some (.int v))) ∨ ∃ E, o2 = .inr E ∧ E ∈ (["java/lang/IllegalStateException"] : List String)) :
    q_CtH g m_L_feed [(0, 16, 19, 13)] 411 mc ms mv2 [.ref 400, .int x1, .int x2, .int x3, .int x4, .int x5, .ref 528] (q_hp (q_XL L) I E) (q_hQ ["java/lang/IllegalStateException"] Int32.toInt64 L o2 I' E') := by
  refine q_CtH_of (by decide +kernel) rfl (Nat.le_of_ble_eq_true rfl) ?_ _ rfl rfl
  refine k_go 8 (c' := (8, [some (.ref 400), some (.int x1), some (.int x2), some (.int x3), some (.int x4), some (.int x5), some (.ref 528), none], [.int x5, .int x4, .int x3, .int x2, .int x1, .ref 400, .int 0, .ref 528], q_hp (q_XL L) I E)) okB_L_feed rfl ?_
  have hls : ∀ i a, q_nth ([some (.ref 400), some (.int x1), some (.int x2), some (.int x3), some (.int x4), some (.int x5), some (.ref 528), none] : List (Option Value)) i = some (some (.ref a)) → a ∉ mv2 := q_r45_of rfl hm400 hm528
  refine k_callV (h := q_hp (q_XL L) I E) (M2 := m_X12_feed) (b := 400) (As := [.int x1, .int x2, .int x3, .int x4, .int x5]) (rest := [.int 0, .ref 528]) okB_L_feed ok_X12_feed rfl (Or.inl rfl) cv_X12_feed (by decide) rfl (show vwCl[10]? = some _ from rfl) rfl hCt (Nat.le_refl _) (Nat.le_of_ble_eq_true rfl) (by omega) (by omega) (by decide) (fun _ h => h) hls (fun a ha => by
    simp only [List.mem_cons, List.not_mem_nil, or_false, reduceCtorEq, false_or, Value.ref.injEq] at ha
    rw [ha]; exact hm528) rfl (fun v h' hq => ?_) (fun E h' hq => ?_)
  · obtain ⟨e1, e2⟩ := hq
    subst e2
    rcases hres with ⟨x, e⟩ | ⟨E, e, -⟩
    · rw [e] at e1; cases e1
      refine k_go 1 (c' := (10, [some (.ref 400), some (.int x1), some (.int x2), some (.int x3), some (.int x4), some (.int x5), some (.ref 528), none], [.long x.toInt64, .int 0, .ref 528], q_hp (q_XL L) I' E')) okB_L_feed rfl ?_
      refine k_o_last (a := 528) (L := 1) (j := 0) okB_L_feed rfl (by decide) rfl rfl (by decide) (by decide) ?_
      refine k_go 2 (c' := (16, [some (.ref 400), some (.int x1), some (.int x2), some (.int x3), some (.int x4), some (.int x5), some (.ref 528), none], [.int 0], q_hp (q_XL (q_u2 L 528 0 x.toInt64)) I' E')) okB_L_feed rfl ?_
      exact k_o_iret okB_L_feed rfl rfl rfl (by omega) (by omega) (Or.inl ⟨x, e, rfl, rfl⟩)
    · rw [e] at e1; cases e1
  · obtain ⟨e1, e2⟩ := hq
    subst e2
    rcases hres with ⟨x, e⟩ | ⟨E9, e, hE⟩
    · rw [e] at e1; cases e1
    · rw [e] at e1; cases e1
      simp only [List.mem_cons, List.not_mem_nil, or_false] at hE
      rcases hE with rfl
      · refine k_catch (name := "java/lang/IllegalStateException") (hp := 12) okB_L_feed [] ⟨0, 16, 19, 13⟩ [] rfl (fun z hz => absurd hz List.not_mem_nil) rfl (by decide) (q_gw_in (k := 4) (i := 172) (by decide +kernel) rfl) (q_gw_in2 (k := 4) (i := 179) (by decide +kernel)) (Nat.le_of_ble_eq_true rfl) (q_catc ⟨Or.inr rfl, rfl⟩) rfl ?_
        refine k_go 1 (c' := (14, [some (.ref 400), some (.int x1), some (.int x2), some (.int x3), some (.int x4), some (.int x5), some (.ref 528), none], [.int 1], q_hp (q_XL L) I' E')) okB_L_feed rfl ?_
        exact k_o_iret okB_L_feed rfl rfl rfl (by omega) (by omega) (Or.inr ⟨_, 0, e, rfl, rfl, rfl⟩)
theorem okB_L_trim : q_okB m_L_trim = true := by decide +kernel
theorem cw_L_trim : Jvm.Cond.codeWith m_L_trim.1 m_L_trim.2.1 m_L_trim.2.2.1 m_L_trim.2.2.2.1 [(0, 9, 12, 19)] ∈ q_tb := q_gw_in (k := 5) (i := 10) (by decide +kernel) rfl
set_option maxHeartbeats 4000000 in
theorem cth_trim {g : q_G} {L : Nat → Nat → Int64} {I I' : Nat → Nat → Int32} {E E' : Nat → Nat → Option Nat} {mc ms : Nat} {mv2 : List Nat} {o2 : Option Value ⊕ String} {x1 : Int32} (hm400 : 400 ∉ mv2) (hm528 : 528 ∉ mv2)
    (hCt : q_Ct g m_X12_trim 410 mc ms mv2 [.ref 400, .int x1] (q_hp (q_XL L) I E) (fun o h' => o = o2 ∧ h' = q_hp (q_XL L) I' E')) (hres : (∃ v : Int32, o2 = .inl (some (.int v))) ∨ ∃ E, o2 = .inr E ∧ E ∈ (["java/lang/IllegalArgumentException"] : List String)) :
    q_CtH g m_L_trim [(0, 9, 12, 19)] 411 mc ms mv2 [.ref 400, .int x1, .ref 528] (q_hp (q_XL L) I E) (q_hQ ["java/lang/IllegalArgumentException"] Int32.toInt64 L o2 I' E') := by
  refine q_CtH_of (by decide +kernel) rfl (Nat.le_of_ble_eq_true rfl) ?_ _ rfl rfl
  refine k_go 4 (c' := (4, [some (.ref 400), some (.int x1), some (.ref 528), none], [.int x1, .ref 400, .int 0, .ref 528], q_hp (q_XL L) I E)) okB_L_trim rfl ?_
  have hls : ∀ i a, q_nth ([some (.ref 400), some (.int x1), some (.ref 528), none] : List (Option Value)) i = some (some (.ref a)) → a ∉ mv2 := q_r45_of rfl hm400 hm528
  refine k_callV (h := q_hp (q_XL L) I E) (M2 := m_X12_trim) (b := 400) (As := [.int x1]) (rest := [.int 0, .ref 528]) okB_L_trim ok_X12_trim rfl (Or.inl rfl) cv_X12_trim (by decide) rfl (show vwCl[10]? = some _ from rfl) rfl hCt (Nat.le_refl _) (Nat.le_of_ble_eq_true rfl) (by omega) (by omega) (by decide) (fun _ h => h) hls (fun a ha => by
    simp only [List.mem_cons, List.not_mem_nil, or_false, reduceCtorEq, false_or, Value.ref.injEq] at ha
    rw [ha]; exact hm528) rfl (fun v h' hq => ?_) (fun E h' hq => ?_)
  · obtain ⟨e1, e2⟩ := hq
    subst e2
    rcases hres with ⟨x, e⟩ | ⟨E, e, -⟩
    · rw [e] at e1; cases e1
      refine k_go 1 (c' := (6, [some (.ref 400), some (.int x1), some (.ref 528), none], [.long x.toInt64, .int 0, .ref 528], q_hp (q_XL L) I' E')) okB_L_trim rfl ?_
      refine k_o_last (a := 528) (L := 1) (j := 0) okB_L_trim rfl (by decide) rfl rfl (by decide) (by decide) ?_
      refine k_go 2 (c' := (12, [some (.ref 400), some (.int x1), some (.ref 528), none], [.int 0], q_hp (q_XL (q_u2 L 528 0 x.toInt64)) I' E')) okB_L_trim rfl ?_
      exact k_o_iret okB_L_trim rfl rfl rfl (by omega) (by omega) (Or.inl ⟨x, e, rfl, rfl⟩)
    · rw [e] at e1; cases e1
  · obtain ⟨e1, e2⟩ := hq
    subst e2
    rcases hres with ⟨x, e⟩ | ⟨E9, e, hE⟩
    · rw [e] at e1; cases e1
    · rw [e] at e1; cases e1
      simp only [List.mem_cons, List.not_mem_nil, or_false] at hE
      rcases hE with rfl
      · refine k_catch_n (name := "java/lang/IllegalArgumentException") (hp := 8) okB_L_trim [] ⟨0, 9, 12, 19⟩ [] rfl (fun z hz => absurd hz List.not_mem_nil) rfl (by decide) (q_gw_in (k := 5) (i := 11) (by decide +kernel) rfl) (q_gw_in2 (k := 5) (i := 18) (by decide +kernel)) (Nat.le_of_ble_eq_true rfl) (q_catc ⟨Or.inr rfl, rfl⟩) rfl ?_
        refine k_go 1 (c' := (10, [some (.ref 400), some (.int x1), some (.ref 528), none], [.int 1], q_hp (q_XL L) I' E')) okB_L_trim rfl ?_
        exact k_o_iret okB_L_trim rfl rfl rfl (by omega) (by omega) (Or.inr ⟨_, 0, e, rfl, rfl, rfl⟩)
theorem okB_L_holdsBale : q_okB m_L_holdsBale = true := by decide +kernel
theorem cw_L_holdsBale : Jvm.Cond.codeWith m_L_holdsBale.1 m_L_holdsBale.2.1 m_L_holdsBale.2.2.1 m_L_holdsBale.2.2.2.1 [(0, 16, 19, 25)] ∈ q_tb := q_gw_in (k := 5) (i := 34) (by decide +kernel) rfl
set_option maxHeartbeats 4000000 in
theorem cth_holdsBale {g : q_G} {L : Nat → Nat → Int64} {I I' : Nat → Nat → Int32} {E E' : Nat → Nat → Option Nat} {mc ms : Nat} {mv2 : List Nat} {o2 : Option Value ⊕ String} {x1 : Int32} (hm400 : 400 ∉ mv2) (hm528 : 528 ∉ mv2)
    (hCt : q_Ct g m_X12_holdsBale 410 mc ms mv2 [.ref 400, .int x1] (q_hp (q_XL L) I E) (fun o h' => o = o2 ∧ h' = q_hp (q_XL L) I' E')) (hres : (∃ v : Int32, o2 = .inl (some (.int v))) ∨ ∃ E, o2 = .inr E ∧ E ∈ (["java/lang/IndexOutOfBoundsException"] : List String)) :
    q_CtH g m_L_holdsBale [(0, 16, 19, 25)] 411 mc ms mv2 [.ref 400, .int x1, .ref 528] (q_hp (q_XL L) I E) (q_hQ ["java/lang/IndexOutOfBoundsException"] q_cvZ L o2 I' E') := by
  refine q_CtH_of (by decide +kernel) rfl (Nat.le_of_ble_eq_true rfl) ?_ _ rfl rfl
  refine k_go 4 (c' := (4, [some (.ref 400), some (.int x1), some (.ref 528), none], [.int x1, .ref 400, .int 0, .ref 528], q_hp (q_XL L) I E)) okB_L_holdsBale rfl ?_
  have hls : ∀ i a, q_nth ([some (.ref 400), some (.int x1), some (.ref 528), none] : List (Option Value)) i = some (some (.ref a)) → a ∉ mv2 := q_r45_of rfl hm400 hm528
  refine k_callV (h := q_hp (q_XL L) I E) (M2 := m_X12_holdsBale) (b := 400) (As := [.int x1]) (rest := [.int 0, .ref 528]) okB_L_holdsBale ok_X12_holdsBale rfl (Or.inl rfl) cv_X12_holdsBale (by decide) rfl (show vwCl[10]? = some _ from rfl) rfl hCt (Nat.le_refl _) (Nat.le_of_ble_eq_true rfl) (by omega) (by omega) (by decide) (fun _ h => h) hls (fun a ha => by
    simp only [List.mem_cons, List.not_mem_nil, or_false, reduceCtorEq, false_or, Value.ref.injEq] at ha
    rw [ha]; exact hm528) rfl (fun v h' hq => ?_) (fun E h' hq => ?_)
  · obtain ⟨e1, e2⟩ := hq
    subst e2
    rcases hres with ⟨x, e⟩ | ⟨E, e, -⟩
    · rw [e] at e1; cases e1
      refine k_if 1 (P := x = 0) (a := (8, [some (.ref 400), some (.int x1), some (.ref 528), none], [.int 0, .ref 528], q_hp (q_XL L) I' E')) (b := (6, [some (.ref 400), some (.int x1), some (.ref 528), none], [.int 0, .ref 528], q_hp (q_XL L) I' E')) okB_L_holdsBale rfl (fun hx => ?_) (fun hx => ?_)
      · refine k_go 1 (c' := (9, [some (.ref 400), some (.int x1), some (.ref 528), none], [.long 0, .int 0, .ref 528], q_hp (q_XL L) I' E')) okB_L_holdsBale rfl ?_
        refine k_o_last (a := 528) (L := 1) (j := 0) okB_L_holdsBale rfl (by decide) rfl rfl (by decide) (by decide) ?_
        refine k_go 2 (c' := (15, [some (.ref 400), some (.int x1), some (.ref 528), none], [.int 0], q_hp (q_XL (q_u2 L 528 0 0)) I' E')) okB_L_holdsBale rfl ?_
        exact k_o_iret okB_L_holdsBale rfl rfl rfl (by omega) (by omega) (Or.inl ⟨x, e, rfl, by unfold q_cvZ; rw [if_pos hx]⟩)
      · refine k_go 2 (c' := (9, [some (.ref 400), some (.int x1), some (.ref 528), none], [.long 1, .int 0, .ref 528], q_hp (q_XL L) I' E')) okB_L_holdsBale rfl ?_
        refine k_o_last (a := 528) (L := 1) (j := 0) okB_L_holdsBale rfl (by decide) rfl rfl (by decide) (by decide) ?_
        refine k_go 2 (c' := (15, [some (.ref 400), some (.int x1), some (.ref 528), none], [.int 0], q_hp (q_XL (q_u2 L 528 0 1)) I' E')) okB_L_holdsBale rfl ?_
        exact k_o_iret okB_L_holdsBale rfl rfl rfl (by omega) (by omega) (Or.inl ⟨x, e, rfl, by unfold q_cvZ; rw [if_neg hx]⟩)
    · rw [e] at e1; cases e1
  · obtain ⟨e1, e2⟩ := hq
    subst e2
    rcases hres with ⟨x, e⟩ | ⟨E9, e, hE⟩
    · rw [e] at e1; cases e1
    · rw [e] at e1; cases e1
      simp only [List.mem_cons, List.not_mem_nil, or_false] at hE
      rcases hE with rfl
      · refine k_catch_n (name := "java/lang/IndexOutOfBoundsException") (hp := 11) okB_L_holdsBale [] ⟨0, 16, 19, 25⟩ [] rfl (fun z hz => absurd hz List.not_mem_nil) rfl (by decide) (q_gw_in (k := 5) (i := 35) (by decide +kernel) rfl) (q_gw_in2 (k := 5) (i := 46) (by decide +kernel)) (Nat.le_of_ble_eq_true rfl) (q_catc ⟨Or.inr rfl, rfl⟩) rfl ?_
        refine k_go 1 (c' := (13, [some (.ref 400), some (.int x1), some (.ref 528), none], [.int 1], q_hp (q_XL L) I' E')) okB_L_holdsBale rfl ?_
        exact k_o_iret okB_L_holdsBale rfl rfl rfl (by omega) (by omega) (Or.inr ⟨_, 0, e, rfl, rfl, rfl⟩)
theorem okB_L_placeOf : q_okB m_L_placeOf = true := by decide +kernel
theorem cw_L_placeOf : Jvm.Cond.codeWith m_L_placeOf.1 m_L_placeOf.2.1 m_L_placeOf.2.2.1 m_L_placeOf.2.2.2.1 [(0, 9, 12, 25), (0, 9, 15, 13)] ∈ q_tb := q_gw_in (k := 5) (i := 62) (by decide +kernel) rfl
set_option maxHeartbeats 4000000 in
theorem cth_placeOf {g : q_G} {L : Nat → Nat → Int64} {I I' : Nat → Nat → Int32} {E E' : Nat → Nat → Option Nat} {mc ms : Nat} {mv2 : List Nat} {o2 : Option Value ⊕ String} {x1 : Int32} (hm400 : 400 ∉ mv2) (hm528 : 528 ∉ mv2)
    (hCt : q_Ct g m_X12_placeOf 410 mc ms mv2 [.ref 400, .int x1] (q_hp (q_XL L) I E) (fun o h' => o = o2 ∧ h' = q_hp (q_XL L) I' E')) (hres : (∃ v : Int32, o2 = .inl (some (.int v))) ∨ ∃ E, o2 = .inr E ∧ E ∈ (["java/lang/IndexOutOfBoundsException", "java/lang/IllegalStateException"] : List String)) :
    q_CtH g m_L_placeOf [(0, 9, 12, 25), (0, 9, 15, 13)] 411 mc ms mv2 [.ref 400, .int x1, .ref 528] (q_hp (q_XL L) I E) (q_hQ ["java/lang/IndexOutOfBoundsException", "java/lang/IllegalStateException"] Int32.toInt64 L o2 I' E') := by
  refine q_CtH_of (by decide +kernel) rfl (Nat.le_of_ble_eq_true rfl) ?_ _ rfl rfl
  refine k_go 4 (c' := (4, [some (.ref 400), some (.int x1), some (.ref 528), none], [.int x1, .ref 400, .int 0, .ref 528], q_hp (q_XL L) I E)) okB_L_placeOf rfl ?_
  have hls : ∀ i a, q_nth ([some (.ref 400), some (.int x1), some (.ref 528), none] : List (Option Value)) i = some (some (.ref a)) → a ∉ mv2 := q_r45_of rfl hm400 hm528
  refine k_callV (h := q_hp (q_XL L) I E) (M2 := m_X12_placeOf) (b := 400) (As := [.int x1]) (rest := [.int 0, .ref 528]) okB_L_placeOf ok_X12_placeOf rfl (Or.inl rfl) cv_X12_placeOf (by decide) rfl (show vwCl[10]? = some _ from rfl) rfl hCt (Nat.le_refl _) (Nat.le_of_ble_eq_true rfl) (by omega) (by omega) (by decide) (fun _ h => h) hls (fun a ha => by
    simp only [List.mem_cons, List.not_mem_nil, or_false, reduceCtorEq, false_or, Value.ref.injEq] at ha
    rw [ha]; exact hm528) rfl (fun v h' hq => ?_) (fun E h' hq => ?_)
  · obtain ⟨e1, e2⟩ := hq
    subst e2
    rcases hres with ⟨x, e⟩ | ⟨E, e, -⟩
    · rw [e] at e1; cases e1
      refine k_go 1 (c' := (6, [some (.ref 400), some (.int x1), some (.ref 528), none], [.long x.toInt64, .int 0, .ref 528], q_hp (q_XL L) I' E')) okB_L_placeOf rfl ?_
      refine k_o_last (a := 528) (L := 1) (j := 0) okB_L_placeOf rfl (by decide) rfl rfl (by decide) (by decide) ?_
      refine k_go 2 (c' := (15, [some (.ref 400), some (.int x1), some (.ref 528), none], [.int 0], q_hp (q_XL (q_u2 L 528 0 x.toInt64)) I' E')) okB_L_placeOf rfl ?_
      exact k_o_iret okB_L_placeOf rfl rfl rfl (by omega) (by omega) (Or.inl ⟨x, e, rfl, rfl⟩)
    · rw [e] at e1; cases e1
  · obtain ⟨e1, e2⟩ := hq
    subst e2
    rcases hres with ⟨x, e⟩ | ⟨E9, e, hE⟩
    · rw [e] at e1; cases e1
    · rw [e] at e1; cases e1
      simp only [List.mem_cons, List.not_mem_nil, or_false] at hE
      rcases hE with rfl | rfl
      · refine k_catch_n (name := "java/lang/IndexOutOfBoundsException") (hp := 8) okB_L_placeOf [] ⟨0, 9, 12, 25⟩ [⟨0, 9, 15, 13⟩] rfl (fun z hz => absurd hz List.not_mem_nil) rfl (by decide) (q_gw_in (k := 5) (i := 35) (by decide +kernel) rfl) (q_gw_in2 (k := 5) (i := 46) (by decide +kernel)) (Nat.le_of_ble_eq_true rfl) (q_catc ⟨Or.inr rfl, rfl⟩) rfl ?_
        refine k_go 1 (c' := (10, [some (.ref 400), some (.int x1), some (.ref 528), none], [.int 1], q_hp (q_XL L) I' E')) okB_L_placeOf rfl ?_
        exact k_o_iret okB_L_placeOf rfl rfl rfl (by omega) (by omega) (Or.inr ⟨_, 0, e, rfl, rfl, rfl⟩)
      · refine k_catch_n (name := "java/lang/IllegalStateException") (hp := 11) okB_L_placeOf [⟨0, 9, 12, 25⟩] ⟨0, 9, 15, 13⟩ [] rfl (fun z hz => by
          simp only [List.mem_cons, List.not_mem_nil, or_false] at hz
          rcases hz with rfl
          · exact ⟨by decide, "java/lang/IndexOutOfBoundsException", q_gw_in (k := 5) (i := 35) (by decide +kernel) rfl, by decide⟩) rfl (by decide) (q_gw_in (k := 4) (i := 172) (by decide +kernel) rfl) (q_gw_in2 (k := 4) (i := 179) (by decide +kernel)) (Nat.le_of_ble_eq_true rfl) (q_catc ⟨Or.inr rfl, rfl⟩) rfl ?_
        refine k_go 1 (c' := (13, [some (.ref 400), some (.int x1), some (.ref 528), none], [.int 2], q_hp (q_XL L) I' E')) okB_L_placeOf rfl ?_
        exact k_o_iret okB_L_placeOf rfl rfl rfl (by omega) (by omega) (Or.inr ⟨_, 1, e, rfl, rfl, rfl⟩)
theorem okB_L_sizeOf : q_okB m_L_sizeOf = true := by decide +kernel
theorem cw_L_sizeOf : Jvm.Cond.codeWith m_L_sizeOf.1 m_L_sizeOf.2.1 m_L_sizeOf.2.2.1 m_L_sizeOf.2.2.2.1 [(0, 9, 12, 25), (0, 9, 15, 13)] ∈ q_tb := q_gw_in (k := 5) (i := 74) (by decide +kernel) rfl
set_option maxHeartbeats 4000000 in
theorem cth_sizeOf {g : q_G} {L : Nat → Nat → Int64} {I I' : Nat → Nat → Int32} {E E' : Nat → Nat → Option Nat} {mc ms : Nat} {mv2 : List Nat} {o2 : Option Value ⊕ String} {x1 : Int32} (hm400 : 400 ∉ mv2) (hm528 : 528 ∉ mv2)
    (hCt : q_Ct g m_X12_sizeOf 410 mc ms mv2 [.ref 400, .int x1] (q_hp (q_XL L) I E) (fun o h' => o = o2 ∧ h' = q_hp (q_XL L) I' E')) (hres : (∃ v : Int32, o2 = .inl (some (.int v))) ∨ ∃ E, o2 = .inr E ∧ E ∈ (["java/lang/IndexOutOfBoundsException", "java/lang/IllegalStateException"] : List String)) :
    q_CtH g m_L_sizeOf [(0, 9, 12, 25), (0, 9, 15, 13)] 411 mc ms mv2 [.ref 400, .int x1, .ref 528] (q_hp (q_XL L) I E) (q_hQ ["java/lang/IndexOutOfBoundsException", "java/lang/IllegalStateException"] Int32.toInt64 L o2 I' E') := by
  refine q_CtH_of (by decide +kernel) rfl (Nat.le_of_ble_eq_true rfl) ?_ _ rfl rfl
  refine k_go 4 (c' := (4, [some (.ref 400), some (.int x1), some (.ref 528), none], [.int x1, .ref 400, .int 0, .ref 528], q_hp (q_XL L) I E)) okB_L_sizeOf rfl ?_
  have hls : ∀ i a, q_nth ([some (.ref 400), some (.int x1), some (.ref 528), none] : List (Option Value)) i = some (some (.ref a)) → a ∉ mv2 := q_r45_of rfl hm400 hm528
  refine k_callV (h := q_hp (q_XL L) I E) (M2 := m_X12_sizeOf) (b := 400) (As := [.int x1]) (rest := [.int 0, .ref 528]) okB_L_sizeOf ok_X12_sizeOf rfl (Or.inl rfl) cv_X12_sizeOf (by decide) rfl (show vwCl[10]? = some _ from rfl) rfl hCt (Nat.le_refl _) (Nat.le_of_ble_eq_true rfl) (by omega) (by omega) (by decide) (fun _ h => h) hls (fun a ha => by
    simp only [List.mem_cons, List.not_mem_nil, or_false, reduceCtorEq, false_or, Value.ref.injEq] at ha
    rw [ha]; exact hm528) rfl (fun v h' hq => ?_) (fun E h' hq => ?_)
  · obtain ⟨e1, e2⟩ := hq
    subst e2
    rcases hres with ⟨x, e⟩ | ⟨E, e, -⟩
    · rw [e] at e1; cases e1
      refine k_go 1 (c' := (6, [some (.ref 400), some (.int x1), some (.ref 528), none], [.long x.toInt64, .int 0, .ref 528], q_hp (q_XL L) I' E')) okB_L_sizeOf rfl ?_
      refine k_o_last (a := 528) (L := 1) (j := 0) okB_L_sizeOf rfl (by decide) rfl rfl (by decide) (by decide) ?_
      refine k_go 2 (c' := (15, [some (.ref 400), some (.int x1), some (.ref 528), none], [.int 0], q_hp (q_XL (q_u2 L 528 0 x.toInt64)) I' E')) okB_L_sizeOf rfl ?_
      exact k_o_iret okB_L_sizeOf rfl rfl rfl (by omega) (by omega) (Or.inl ⟨x, e, rfl, rfl⟩)
    · rw [e] at e1; cases e1
  · obtain ⟨e1, e2⟩ := hq
    subst e2
    rcases hres with ⟨x, e⟩ | ⟨E9, e, hE⟩
    · rw [e] at e1; cases e1
    · rw [e] at e1; cases e1
      simp only [List.mem_cons, List.not_mem_nil, or_false] at hE
      rcases hE with rfl | rfl
      · refine k_catch_n (name := "java/lang/IndexOutOfBoundsException") (hp := 8) okB_L_sizeOf [] ⟨0, 9, 12, 25⟩ [⟨0, 9, 15, 13⟩] rfl (fun z hz => absurd hz List.not_mem_nil) rfl (by decide) (q_gw_in (k := 5) (i := 35) (by decide +kernel) rfl) (q_gw_in2 (k := 5) (i := 46) (by decide +kernel)) (Nat.le_of_ble_eq_true rfl) (q_catc ⟨Or.inr rfl, rfl⟩) rfl ?_
        refine k_go 1 (c' := (10, [some (.ref 400), some (.int x1), some (.ref 528), none], [.int 1], q_hp (q_XL L) I' E')) okB_L_sizeOf rfl ?_
        exact k_o_iret okB_L_sizeOf rfl rfl rfl (by omega) (by omega) (Or.inr ⟨_, 0, e, rfl, rfl, rfl⟩)
      · refine k_catch_n (name := "java/lang/IllegalStateException") (hp := 11) okB_L_sizeOf [⟨0, 9, 12, 25⟩] ⟨0, 9, 15, 13⟩ [] rfl (fun z hz => by
          simp only [List.mem_cons, List.not_mem_nil, or_false] at hz
          rcases hz with rfl
          · exact ⟨by decide, "java/lang/IndexOutOfBoundsException", q_gw_in (k := 5) (i := 35) (by decide +kernel) rfl, by decide⟩) rfl (by decide) (q_gw_in (k := 4) (i := 172) (by decide +kernel) rfl) (q_gw_in2 (k := 4) (i := 179) (by decide +kernel)) (Nat.le_of_ble_eq_true rfl) (q_catc ⟨Or.inr rfl, rfl⟩) rfl ?_
        refine k_go 1 (c' := (13, [some (.ref 400), some (.int x1), some (.ref 528), none], [.int 2], q_hp (q_XL L) I' E')) okB_L_sizeOf rfl ?_
        exact k_o_iret okB_L_sizeOf rfl rfl rfl (by omega) (by omega) (Or.inr ⟨_, 1, e, rfl, rfl, rfl⟩)
theorem okB_L_ropesOf : q_okB m_L_ropesOf = true := by decide +kernel
theorem cw_L_ropesOf : Jvm.Cond.codeWith m_L_ropesOf.1 m_L_ropesOf.2.1 m_L_ropesOf.2.2.1 m_L_ropesOf.2.2.2.1 [(0, 9, 12, 25), (0, 9, 15, 13)] ∈ q_tb := q_gw_in (k := 5) (i := 81) (by decide +kernel) rfl
set_option maxHeartbeats 4000000 in
theorem cth_ropesOf {g : q_G} {L : Nat → Nat → Int64} {I I' : Nat → Nat → Int32} {E E' : Nat → Nat → Option Nat} {mc ms : Nat} {mv2 : List Nat} {o2 : Option Value ⊕ String} {x1 : Int32} (hm400 : 400 ∉ mv2) (hm528 : 528 ∉ mv2)
    (hCt : q_Ct g m_X12_ropesOf 410 mc ms mv2 [.ref 400, .int x1] (q_hp (q_XL L) I E) (fun o h' => o = o2 ∧ h' = q_hp (q_XL L) I' E')) (hres : (∃ v : Int32, o2 = .inl (some (.int v))) ∨ ∃ E, o2 = .inr E ∧ E ∈ (["java/lang/IndexOutOfBoundsException", "java/lang/IllegalStateException"] : List String)) :
    q_CtH g m_L_ropesOf [(0, 9, 12, 25), (0, 9, 15, 13)] 411 mc ms mv2 [.ref 400, .int x1, .ref 528] (q_hp (q_XL L) I E) (q_hQ ["java/lang/IndexOutOfBoundsException", "java/lang/IllegalStateException"] Int32.toInt64 L o2 I' E') := by
  refine q_CtH_of (by decide +kernel) rfl (Nat.le_of_ble_eq_true rfl) ?_ _ rfl rfl
  refine k_go 4 (c' := (4, [some (.ref 400), some (.int x1), some (.ref 528), none], [.int x1, .ref 400, .int 0, .ref 528], q_hp (q_XL L) I E)) okB_L_ropesOf rfl ?_
  have hls : ∀ i a, q_nth ([some (.ref 400), some (.int x1), some (.ref 528), none] : List (Option Value)) i = some (some (.ref a)) → a ∉ mv2 := q_r45_of rfl hm400 hm528
  refine k_callV (h := q_hp (q_XL L) I E) (M2 := m_X12_ropesOf) (b := 400) (As := [.int x1]) (rest := [.int 0, .ref 528]) okB_L_ropesOf ok_X12_ropesOf rfl (Or.inl rfl) cv_X12_ropesOf (by decide) rfl (show vwCl[10]? = some _ from rfl) rfl hCt (Nat.le_refl _) (Nat.le_of_ble_eq_true rfl) (by omega) (by omega) (by decide) (fun _ h => h) hls (fun a ha => by
    simp only [List.mem_cons, List.not_mem_nil, or_false, reduceCtorEq, false_or, Value.ref.injEq] at ha
    rw [ha]; exact hm528) rfl (fun v h' hq => ?_) (fun E h' hq => ?_)
  · obtain ⟨e1, e2⟩ := hq
    subst e2
    rcases hres with ⟨x, e⟩ | ⟨E, e, -⟩
    · rw [e] at e1; cases e1
      refine k_go 1 (c' := (6, [some (.ref 400), some (.int x1), some (.ref 528), none], [.long x.toInt64, .int 0, .ref 528], q_hp (q_XL L) I' E')) okB_L_ropesOf rfl ?_
      refine k_o_last (a := 528) (L := 1) (j := 0) okB_L_ropesOf rfl (by decide) rfl rfl (by decide) (by decide) ?_
      refine k_go 2 (c' := (15, [some (.ref 400), some (.int x1), some (.ref 528), none], [.int 0], q_hp (q_XL (q_u2 L 528 0 x.toInt64)) I' E')) okB_L_ropesOf rfl ?_
      exact k_o_iret okB_L_ropesOf rfl rfl rfl (by omega) (by omega) (Or.inl ⟨x, e, rfl, rfl⟩)
    · rw [e] at e1; cases e1
  · obtain ⟨e1, e2⟩ := hq
    subst e2
    rcases hres with ⟨x, e⟩ | ⟨E9, e, hE⟩
    · rw [e] at e1; cases e1
    · rw [e] at e1; cases e1
      simp only [List.mem_cons, List.not_mem_nil, or_false] at hE
      rcases hE with rfl | rfl
      · refine k_catch_n (name := "java/lang/IndexOutOfBoundsException") (hp := 8) okB_L_ropesOf [] ⟨0, 9, 12, 25⟩ [⟨0, 9, 15, 13⟩] rfl (fun z hz => absurd hz List.not_mem_nil) rfl (by decide) (q_gw_in (k := 5) (i := 35) (by decide +kernel) rfl) (q_gw_in2 (k := 5) (i := 46) (by decide +kernel)) (Nat.le_of_ble_eq_true rfl) (q_catc ⟨Or.inr rfl, rfl⟩) rfl ?_
        refine k_go 1 (c' := (10, [some (.ref 400), some (.int x1), some (.ref 528), none], [.int 1], q_hp (q_XL L) I' E')) okB_L_ropesOf rfl ?_
        exact k_o_iret okB_L_ropesOf rfl rfl rfl (by omega) (by omega) (Or.inr ⟨_, 0, e, rfl, rfl, rfl⟩)
      · refine k_catch_n (name := "java/lang/IllegalStateException") (hp := 11) okB_L_ropesOf [⟨0, 9, 12, 25⟩] ⟨0, 9, 15, 13⟩ [] rfl (fun z hz => by
          simp only [List.mem_cons, List.not_mem_nil, or_false] at hz
          rcases hz with rfl
          · exact ⟨by decide, "java/lang/IndexOutOfBoundsException", q_gw_in (k := 5) (i := 35) (by decide +kernel) rfl, by decide⟩) rfl (by decide) (q_gw_in (k := 4) (i := 172) (by decide +kernel) rfl) (q_gw_in2 (k := 4) (i := 179) (by decide +kernel)) (Nat.le_of_ble_eq_true rfl) (q_catc ⟨Or.inr rfl, rfl⟩) rfl ?_
        refine k_go 1 (c' := (13, [some (.ref 400), some (.int x1), some (.ref 528), none], [.int 2], q_hp (q_XL L) I' E')) okB_L_ropesOf rfl ?_
        exact k_o_iret okB_L_ropesOf rfl rfl rfl (by omega) (by omega) (Or.inr ⟨_, 1, e, rfl, rfl, rfl⟩)
theorem okB_L_ageOf : q_okB m_L_ageOf = true := by decide +kernel
theorem cw_L_ageOf : Jvm.Cond.codeWith m_L_ageOf.1 m_L_ageOf.2.1 m_L_ageOf.2.2.1 m_L_ageOf.2.2.2.1 [(0, 9, 12, 25), (0, 9, 15, 13)] ∈ q_tb := q_gw_in (k := 5) (i := 88) (by decide +kernel) rfl
set_option maxHeartbeats 4000000 in
theorem cth_ageOf {g : q_G} {L : Nat → Nat → Int64} {I I' : Nat → Nat → Int32} {E E' : Nat → Nat → Option Nat} {mc ms : Nat} {mv2 : List Nat} {o2 : Option Value ⊕ String} {x1 : Int32} (hm400 : 400 ∉ mv2) (hm528 : 528 ∉ mv2)
    (hCt : q_Ct g m_X12_ageOf 410 mc ms mv2 [.ref 400, .int x1] (q_hp (q_XL L) I E) (fun o h' => o = o2 ∧ h' = q_hp (q_XL L) I' E')) (hres : (∃ v : Int32, o2 = .inl (some (.int v))) ∨ ∃ E, o2 = .inr E ∧ E ∈ (["java/lang/IndexOutOfBoundsException", "java/lang/IllegalStateException"] : List String)) :
    q_CtH g m_L_ageOf [(0, 9, 12, 25), (0, 9, 15, 13)] 411 mc ms mv2 [.ref 400, .int x1, .ref 528] (q_hp (q_XL L) I E) (q_hQ ["java/lang/IndexOutOfBoundsException", "java/lang/IllegalStateException"] Int32.toInt64 L o2 I' E') := by
  refine q_CtH_of (by decide +kernel) rfl (Nat.le_of_ble_eq_true rfl) ?_ _ rfl rfl
  refine k_go 4 (c' := (4, [some (.ref 400), some (.int x1), some (.ref 528), none], [.int x1, .ref 400, .int 0, .ref 528], q_hp (q_XL L) I E)) okB_L_ageOf rfl ?_
  have hls : ∀ i a, q_nth ([some (.ref 400), some (.int x1), some (.ref 528), none] : List (Option Value)) i = some (some (.ref a)) → a ∉ mv2 := q_r45_of rfl hm400 hm528
  refine k_callV (h := q_hp (q_XL L) I E) (M2 := m_X12_ageOf) (b := 400) (As := [.int x1]) (rest := [.int 0, .ref 528]) okB_L_ageOf ok_X12_ageOf rfl (Or.inl rfl) cv_X12_ageOf (by decide) rfl (show vwCl[10]? = some _ from rfl) rfl hCt (Nat.le_refl _) (Nat.le_of_ble_eq_true rfl) (by omega) (by omega) (by decide) (fun _ h => h) hls (fun a ha => by
    simp only [List.mem_cons, List.not_mem_nil, or_false, reduceCtorEq, false_or, Value.ref.injEq] at ha
    rw [ha]; exact hm528) rfl (fun v h' hq => ?_) (fun E h' hq => ?_)
  · obtain ⟨e1, e2⟩ := hq
    subst e2
    rcases hres with ⟨x, e⟩ | ⟨E, e, -⟩
    · rw [e] at e1; cases e1
      refine k_go 1 (c' := (6, [some (.ref 400), some (.int x1), some (.ref 528), none], [.long x.toInt64, .int 0, .ref 528], q_hp (q_XL L) I' E')) okB_L_ageOf rfl ?_
      refine k_o_last (a := 528) (L := 1) (j := 0) okB_L_ageOf rfl (by decide) rfl rfl (by decide) (by decide) ?_
      refine k_go 2 (c' := (15, [some (.ref 400), some (.int x1), some (.ref 528), none], [.int 0], q_hp (q_XL (q_u2 L 528 0 x.toInt64)) I' E')) okB_L_ageOf rfl ?_
      exact k_o_iret okB_L_ageOf rfl rfl rfl (by omega) (by omega) (Or.inl ⟨x, e, rfl, rfl⟩)
    · rw [e] at e1; cases e1
  · obtain ⟨e1, e2⟩ := hq
    subst e2
    rcases hres with ⟨x, e⟩ | ⟨E9, e, hE⟩
    · rw [e] at e1; cases e1
    · rw [e] at e1; cases e1
      simp only [List.mem_cons, List.not_mem_nil, or_false] at hE
      rcases hE with rfl | rfl
      · refine k_catch_n (name := "java/lang/IndexOutOfBoundsException") (hp := 8) okB_L_ageOf [] ⟨0, 9, 12, 25⟩ [⟨0, 9, 15, 13⟩] rfl (fun z hz => absurd hz List.not_mem_nil) rfl (by decide) (q_gw_in (k := 5) (i := 35) (by decide +kernel) rfl) (q_gw_in2 (k := 5) (i := 46) (by decide +kernel)) (Nat.le_of_ble_eq_true rfl) (q_catc ⟨Or.inr rfl, rfl⟩) rfl ?_
        refine k_go 1 (c' := (10, [some (.ref 400), some (.int x1), some (.ref 528), none], [.int 1], q_hp (q_XL L) I' E')) okB_L_ageOf rfl ?_
        exact k_o_iret okB_L_ageOf rfl rfl rfl (by omega) (by omega) (Or.inr ⟨_, 0, e, rfl, rfl, rfl⟩)
      · refine k_catch_n (name := "java/lang/IllegalStateException") (hp := 11) okB_L_ageOf [⟨0, 9, 12, 25⟩] ⟨0, 9, 15, 13⟩ [] rfl (fun z hz => by
          simp only [List.mem_cons, List.not_mem_nil, or_false] at hz
          rcases hz with rfl
          · exact ⟨by decide, "java/lang/IndexOutOfBoundsException", q_gw_in (k := 5) (i := 35) (by decide +kernel) rfl, by decide⟩) rfl (by decide) (q_gw_in (k := 4) (i := 172) (by decide +kernel) rfl) (q_gw_in2 (k := 4) (i := 179) (by decide +kernel)) (Nat.le_of_ble_eq_true rfl) (q_catc ⟨Or.inr rfl, rfl⟩) rfl ?_
        refine k_go 1 (c' := (13, [some (.ref 400), some (.int x1), some (.ref 528), none], [.int 2], q_hp (q_XL L) I' E')) okB_L_ageOf rfl ?_
        exact k_o_iret okB_L_ageOf rfl rfl rfl (by omega) (by omega) (Or.inr ⟨_, 1, e, rfl, rfl, rfl⟩)
theorem okB_L_isInLoft : q_okB m_L_isInLoft = true := by decide +kernel
theorem cw_L_isInLoft : Jvm.Cond.codeWith m_L_isInLoft.1 m_L_isInLoft.2.1 m_L_isInLoft.2.2.1 m_L_isInLoft.2.2.2.1 [(0, 16, 19, 25), (0, 16, 22, 13)] ∈ q_tb := q_gw_in (k := 5) (i := 95) (by decide +kernel) rfl
set_option maxHeartbeats 4000000 in
theorem cth_isInLoft {g : q_G} {L : Nat → Nat → Int64} {I I' : Nat → Nat → Int32} {E E' : Nat → Nat → Option Nat} {mc ms : Nat} {mv2 : List Nat} {o2 : Option Value ⊕ String} {x1 : Int32} (hm400 : 400 ∉ mv2) (hm528 : 528 ∉ mv2)
    (hCt : q_Ct g m_X12_isInLoft 410 mc ms mv2 [.ref 400, .int x1] (q_hp (q_XL L) I E) (fun o h' => o = o2 ∧ h' = q_hp (q_XL L) I' E')) (hres : (∃ v : Int32, o2 = .inl (some (.int v))) ∨ ∃ E, o2 = .inr E ∧ E ∈ (["java/lang/IndexOutOfBoundsException", "java/lang/IllegalStateException"] : List String)) :
    q_CtH g m_L_isInLoft [(0, 16, 19, 25), (0, 16, 22, 13)] 411 mc ms mv2 [.ref 400, .int x1, .ref 528] (q_hp (q_XL L) I E) (q_hQ ["java/lang/IndexOutOfBoundsException", "java/lang/IllegalStateException"] q_cvZ L o2 I' E') := by
  refine q_CtH_of (by decide +kernel) rfl (Nat.le_of_ble_eq_true rfl) ?_ _ rfl rfl
  refine k_go 4 (c' := (4, [some (.ref 400), some (.int x1), some (.ref 528), none], [.int x1, .ref 400, .int 0, .ref 528], q_hp (q_XL L) I E)) okB_L_isInLoft rfl ?_
  have hls : ∀ i a, q_nth ([some (.ref 400), some (.int x1), some (.ref 528), none] : List (Option Value)) i = some (some (.ref a)) → a ∉ mv2 := q_r45_of rfl hm400 hm528
  refine k_callV (h := q_hp (q_XL L) I E) (M2 := m_X12_isInLoft) (b := 400) (As := [.int x1]) (rest := [.int 0, .ref 528]) okB_L_isInLoft ok_X12_isInLoft rfl (Or.inl rfl) cv_X12_isInLoft (by decide) rfl (show vwCl[10]? = some _ from rfl) rfl hCt (Nat.le_refl _) (Nat.le_of_ble_eq_true rfl) (by omega) (by omega) (by decide) (fun _ h => h) hls (fun a ha => by
    simp only [List.mem_cons, List.not_mem_nil, or_false, reduceCtorEq, false_or, Value.ref.injEq] at ha
    rw [ha]; exact hm528) rfl (fun v h' hq => ?_) (fun E h' hq => ?_)
  · obtain ⟨e1, e2⟩ := hq
    subst e2
    rcases hres with ⟨x, e⟩ | ⟨E, e, -⟩
    · rw [e] at e1; cases e1
      refine k_if 1 (P := x = 0) (a := (8, [some (.ref 400), some (.int x1), some (.ref 528), none], [.int 0, .ref 528], q_hp (q_XL L) I' E')) (b := (6, [some (.ref 400), some (.int x1), some (.ref 528), none], [.int 0, .ref 528], q_hp (q_XL L) I' E')) okB_L_isInLoft rfl (fun hx => ?_) (fun hx => ?_)
      · refine k_go 1 (c' := (9, [some (.ref 400), some (.int x1), some (.ref 528), none], [.long 0, .int 0, .ref 528], q_hp (q_XL L) I' E')) okB_L_isInLoft rfl ?_
        refine k_o_last (a := 528) (L := 1) (j := 0) okB_L_isInLoft rfl (by decide) rfl rfl (by decide) (by decide) ?_
        refine k_go 2 (c' := (18, [some (.ref 400), some (.int x1), some (.ref 528), none], [.int 0], q_hp (q_XL (q_u2 L 528 0 0)) I' E')) okB_L_isInLoft rfl ?_
        exact k_o_iret okB_L_isInLoft rfl rfl rfl (by omega) (by omega) (Or.inl ⟨x, e, rfl, by unfold q_cvZ; rw [if_pos hx]⟩)
      · refine k_go 2 (c' := (9, [some (.ref 400), some (.int x1), some (.ref 528), none], [.long 1, .int 0, .ref 528], q_hp (q_XL L) I' E')) okB_L_isInLoft rfl ?_
        refine k_o_last (a := 528) (L := 1) (j := 0) okB_L_isInLoft rfl (by decide) rfl rfl (by decide) (by decide) ?_
        refine k_go 2 (c' := (18, [some (.ref 400), some (.int x1), some (.ref 528), none], [.int 0], q_hp (q_XL (q_u2 L 528 0 1)) I' E')) okB_L_isInLoft rfl ?_
        exact k_o_iret okB_L_isInLoft rfl rfl rfl (by omega) (by omega) (Or.inl ⟨x, e, rfl, by unfold q_cvZ; rw [if_neg hx]⟩)
    · rw [e] at e1; cases e1
  · obtain ⟨e1, e2⟩ := hq
    subst e2
    rcases hres with ⟨x, e⟩ | ⟨E9, e, hE⟩
    · rw [e] at e1; cases e1
    · rw [e] at e1; cases e1
      simp only [List.mem_cons, List.not_mem_nil, or_false] at hE
      rcases hE with rfl | rfl
      · refine k_catch_n (name := "java/lang/IndexOutOfBoundsException") (hp := 11) okB_L_isInLoft [] ⟨0, 16, 19, 25⟩ [⟨0, 16, 22, 13⟩] rfl (fun z hz => absurd hz List.not_mem_nil) rfl (by decide) (q_gw_in (k := 5) (i := 35) (by decide +kernel) rfl) (q_gw_in2 (k := 5) (i := 46) (by decide +kernel)) (Nat.le_of_ble_eq_true rfl) (q_catc ⟨Or.inr rfl, rfl⟩) rfl ?_
        refine k_go 1 (c' := (13, [some (.ref 400), some (.int x1), some (.ref 528), none], [.int 1], q_hp (q_XL L) I' E')) okB_L_isInLoft rfl ?_
        exact k_o_iret okB_L_isInLoft rfl rfl rfl (by omega) (by omega) (Or.inr ⟨_, 0, e, rfl, rfl, rfl⟩)
      · refine k_catch_n (name := "java/lang/IllegalStateException") (hp := 14) okB_L_isInLoft [⟨0, 16, 19, 25⟩] ⟨0, 16, 22, 13⟩ [] rfl (fun z hz => by
          simp only [List.mem_cons, List.not_mem_nil, or_false] at hz
          rcases hz with rfl
          · exact ⟨by decide, "java/lang/IndexOutOfBoundsException", q_gw_in (k := 5) (i := 35) (by decide +kernel) rfl, by decide⟩) rfl (by decide) (q_gw_in (k := 4) (i := 172) (by decide +kernel) rfl) (q_gw_in2 (k := 4) (i := 179) (by decide +kernel)) (Nat.le_of_ble_eq_true rfl) (q_catc ⟨Or.inr rfl, rfl⟩) rfl ?_
        refine k_go 1 (c' := (16, [some (.ref 400), some (.int x1), some (.ref 528), none], [.int 2], q_hp (q_XL L) I' E')) okB_L_isInLoft rfl ?_
        exact k_o_iret okB_L_isInLoft rfl rfl rfl (by omega) (by omega) (Or.inr ⟨_, 1, e, rfl, rfl, rfl⟩)
theorem okB_L_ropeLeads : q_okB m_L_ropeLeads = true := by decide +kernel
theorem cw_L_ropeLeads : Jvm.Cond.codeWith m_L_ropeLeads.1 m_L_ropeLeads.2.1 m_L_ropeLeads.2.2.1 m_L_ropeLeads.2.2.2.1 [(0, 17, 20, 25), (0, 17, 24, 13)] ∈ q_tb := q_gw_in (k := 5) (i := 102) (by decide +kernel) rfl
set_option maxHeartbeats 4000000 in
theorem cth_ropeLeads {g : q_G} {L : Nat → Nat → Int64} {I I' : Nat → Nat → Int32} {E E' : Nat → Nat → Option Nat} {mc ms : Nat} {mv2 : List Nat} {o2 : Option Value ⊕ String} {x1 x2 : Int32} (hm400 : 400 ∉ mv2) (hm528 : 528 ∉ mv2)
    (hCt : q_Ct g m_X12_ropeLeads 410 mc ms mv2 [.ref 400, .int x1, .int x2] (q_hp (q_XL L) I E) (fun o h' => o = o2 ∧ h' = q_hp (q_XL L) I' E')) (hres : (∃ v : Int32, o2 = .inl (some (.int v))) ∨ ∃ E, o2 = .inr E ∧ E ∈ (["java/lang/IndexOutOfBoundsException", "java/lang/IllegalStateException"] : List String)) :
    q_CtH g m_L_ropeLeads [(0, 17, 20, 25), (0, 17, 24, 13)] 411 mc ms mv2 [.ref 400, .int x1, .int x2, .ref 528] (q_hp (q_XL L) I E) (q_hQ ["java/lang/IndexOutOfBoundsException", "java/lang/IllegalStateException"] q_cvZ L o2 I' E') := by
  refine q_CtH_of (by decide +kernel) rfl (Nat.le_of_ble_eq_true rfl) ?_ _ rfl rfl
  refine k_go 5 (c' := (5, [some (.ref 400), some (.int x1), some (.int x2), some (.ref 528), none], [.int x2, .int x1, .ref 400, .int 0, .ref 528], q_hp (q_XL L) I E)) okB_L_ropeLeads rfl ?_
  have hls : ∀ i a, q_nth ([some (.ref 400), some (.int x1), some (.int x2), some (.ref 528), none] : List (Option Value)) i = some (some (.ref a)) → a ∉ mv2 := q_r45_of rfl hm400 hm528
  refine k_callV (h := q_hp (q_XL L) I E) (M2 := m_X12_ropeLeads) (b := 400) (As := [.int x1, .int x2]) (rest := [.int 0, .ref 528]) okB_L_ropeLeads ok_X12_ropeLeads rfl (Or.inl rfl) cv_X12_ropeLeads (by decide) rfl (show vwCl[10]? = some _ from rfl) rfl hCt (Nat.le_refl _) (Nat.le_of_ble_eq_true rfl) (by omega) (by omega) (by decide) (fun _ h => h) hls (fun a ha => by
    simp only [List.mem_cons, List.not_mem_nil, or_false, reduceCtorEq, false_or, Value.ref.injEq] at ha
    rw [ha]; exact hm528) rfl (fun v h' hq => ?_) (fun E h' hq => ?_)
  · obtain ⟨e1, e2⟩ := hq
    subst e2
    rcases hres with ⟨x, e⟩ | ⟨E, e, -⟩
    · rw [e] at e1; cases e1
      refine k_if 1 (P := x = 0) (a := (9, [some (.ref 400), some (.int x1), some (.int x2), some (.ref 528), none], [.int 0, .ref 528], q_hp (q_XL L) I' E')) (b := (7, [some (.ref 400), some (.int x1), some (.int x2), some (.ref 528), none], [.int 0, .ref 528], q_hp (q_XL L) I' E')) okB_L_ropeLeads rfl (fun hx => ?_) (fun hx => ?_)
      · refine k_go 1 (c' := (10, [some (.ref 400), some (.int x1), some (.int x2), some (.ref 528), none], [.long 0, .int 0, .ref 528], q_hp (q_XL L) I' E')) okB_L_ropeLeads rfl ?_
        refine k_o_last (a := 528) (L := 1) (j := 0) okB_L_ropeLeads rfl (by decide) rfl rfl (by decide) (by decide) ?_
        refine k_go 2 (c' := (19, [some (.ref 400), some (.int x1), some (.int x2), some (.ref 528), none], [.int 0], q_hp (q_XL (q_u2 L 528 0 0)) I' E')) okB_L_ropeLeads rfl ?_
        exact k_o_iret okB_L_ropeLeads rfl rfl rfl (by omega) (by omega) (Or.inl ⟨x, e, rfl, by unfold q_cvZ; rw [if_pos hx]⟩)
      · refine k_go 2 (c' := (10, [some (.ref 400), some (.int x1), some (.int x2), some (.ref 528), none], [.long 1, .int 0, .ref 528], q_hp (q_XL L) I' E')) okB_L_ropeLeads rfl ?_
        refine k_o_last (a := 528) (L := 1) (j := 0) okB_L_ropeLeads rfl (by decide) rfl rfl (by decide) (by decide) ?_
        refine k_go 2 (c' := (19, [some (.ref 400), some (.int x1), some (.int x2), some (.ref 528), none], [.int 0], q_hp (q_XL (q_u2 L 528 0 1)) I' E')) okB_L_ropeLeads rfl ?_
        exact k_o_iret okB_L_ropeLeads rfl rfl rfl (by omega) (by omega) (Or.inl ⟨x, e, rfl, by unfold q_cvZ; rw [if_neg hx]⟩)
    · rw [e] at e1; cases e1
  · obtain ⟨e1, e2⟩ := hq
    subst e2
    rcases hres with ⟨x, e⟩ | ⟨E9, e, hE⟩
    · rw [e] at e1; cases e1
    · rw [e] at e1; cases e1
      simp only [List.mem_cons, List.not_mem_nil, or_false] at hE
      rcases hE with rfl | rfl
      · refine k_catch (name := "java/lang/IndexOutOfBoundsException") (hp := 12) okB_L_ropeLeads [] ⟨0, 17, 20, 25⟩ [⟨0, 17, 24, 13⟩] rfl (fun z hz => absurd hz List.not_mem_nil) rfl (by decide) (q_gw_in (k := 5) (i := 35) (by decide +kernel) rfl) (q_gw_in2 (k := 5) (i := 46) (by decide +kernel)) (Nat.le_of_ble_eq_true rfl) (q_catc ⟨Or.inr rfl, rfl⟩) rfl ?_
        refine k_go 1 (c' := (14, [some (.ref 400), some (.int x1), some (.int x2), some (.ref 528), none], [.int 1], q_hp (q_XL L) I' E')) okB_L_ropeLeads rfl ?_
        exact k_o_iret okB_L_ropeLeads rfl rfl rfl (by omega) (by omega) (Or.inr ⟨_, 0, e, rfl, rfl, rfl⟩)
      · refine k_catch (name := "java/lang/IllegalStateException") (hp := 15) okB_L_ropeLeads [⟨0, 17, 20, 25⟩] ⟨0, 17, 24, 13⟩ [] rfl (fun z hz => by
          simp only [List.mem_cons, List.not_mem_nil, or_false] at hz
          rcases hz with rfl
          · exact ⟨by decide, "java/lang/IndexOutOfBoundsException", q_gw_in (k := 5) (i := 35) (by decide +kernel) rfl, by decide⟩) rfl (by decide) (q_gw_in (k := 4) (i := 172) (by decide +kernel) rfl) (q_gw_in2 (k := 4) (i := 179) (by decide +kernel)) (Nat.le_of_ble_eq_true rfl) (q_catc ⟨Or.inr rfl, rfl⟩) rfl ?_
        refine k_go 1 (c' := (17, [some (.ref 400), some (.int x1), some (.int x2), some (.ref 528), none], [.int 2], q_hp (q_XL L) I' E')) okB_L_ropeLeads rfl ?_
        exact k_o_iret okB_L_ropeLeads rfl rfl rfl (by omega) (by omega) (Or.inr ⟨_, 1, e, rfl, rfl, rfl⟩)
theorem okB_L_holdSame : q_okB m_L_holdSame = true := by decide +kernel
theorem cw_L_holdSame : Jvm.Cond.codeWith m_L_holdSame.1 m_L_holdSame.2.1 m_L_holdSame.2.2.1 m_L_holdSame.2.2.2.1 [(0, 17, 20, 25)] ∈ q_tb := q_gw_in (k := 5) (i := 111) (by decide +kernel) rfl
set_option maxHeartbeats 4000000 in
theorem cth_holdSame {g : q_G} {L : Nat → Nat → Int64} {I I' : Nat → Nat → Int32} {E E' : Nat → Nat → Option Nat} {mc ms : Nat} {mv2 : List Nat} {o2 : Option Value ⊕ String} {x1 x2 : Int32} (hm400 : 400 ∉ mv2) (hm528 : 528 ∉ mv2)
    (hCt : q_Ct g m_X12_holdSame 410 mc ms mv2 [.ref 400, .int x1, .int x2] (q_hp (q_XL L) I E) (fun o h' => o = o2 ∧ h' = q_hp (q_XL L) I' E')) (hres : (∃ v : Int32, o2 = .inl (some (.int v))) ∨ ∃ E, o2 = .inr E ∧ E ∈ (["java/lang/IndexOutOfBoundsException"] : List String)) :
    q_CtH g m_L_holdSame [(0, 17, 20, 25)] 411 mc ms mv2 [.ref 400, .int x1, .int x2, .ref 528] (q_hp (q_XL L) I E) (q_hQ ["java/lang/IndexOutOfBoundsException"] q_cvZ L o2 I' E') := by
  refine q_CtH_of (by decide +kernel) rfl (Nat.le_of_ble_eq_true rfl) ?_ _ rfl rfl
  refine k_go 5 (c' := (5, [some (.ref 400), some (.int x1), some (.int x2), some (.ref 528), none], [.int x2, .int x1, .ref 400, .int 0, .ref 528], q_hp (q_XL L) I E)) okB_L_holdSame rfl ?_
  have hls : ∀ i a, q_nth ([some (.ref 400), some (.int x1), some (.int x2), some (.ref 528), none] : List (Option Value)) i = some (some (.ref a)) → a ∉ mv2 := q_r45_of rfl hm400 hm528
  refine k_callV (h := q_hp (q_XL L) I E) (M2 := m_X12_holdSame) (b := 400) (As := [.int x1, .int x2]) (rest := [.int 0, .ref 528]) okB_L_holdSame ok_X12_holdSame rfl (Or.inl rfl) cv_X12_holdSame (by decide) rfl (show vwCl[10]? = some _ from rfl) rfl hCt (Nat.le_refl _) (Nat.le_of_ble_eq_true rfl) (by omega) (by omega) (by decide) (fun _ h => h) hls (fun a ha => by
    simp only [List.mem_cons, List.not_mem_nil, or_false, reduceCtorEq, false_or, Value.ref.injEq] at ha
    rw [ha]; exact hm528) rfl (fun v h' hq => ?_) (fun E h' hq => ?_)
  · obtain ⟨e1, e2⟩ := hq
    subst e2
    rcases hres with ⟨x, e⟩ | ⟨E, e, -⟩
    · rw [e] at e1; cases e1
      refine k_if 1 (P := x = 0) (a := (9, [some (.ref 400), some (.int x1), some (.int x2), some (.ref 528), none], [.int 0, .ref 528], q_hp (q_XL L) I' E')) (b := (7, [some (.ref 400), some (.int x1), some (.int x2), some (.ref 528), none], [.int 0, .ref 528], q_hp (q_XL L) I' E')) okB_L_holdSame rfl (fun hx => ?_) (fun hx => ?_)
      · refine k_go 1 (c' := (10, [some (.ref 400), some (.int x1), some (.int x2), some (.ref 528), none], [.long 0, .int 0, .ref 528], q_hp (q_XL L) I' E')) okB_L_holdSame rfl ?_
        refine k_o_last (a := 528) (L := 1) (j := 0) okB_L_holdSame rfl (by decide) rfl rfl (by decide) (by decide) ?_
        refine k_go 2 (c' := (16, [some (.ref 400), some (.int x1), some (.int x2), some (.ref 528), none], [.int 0], q_hp (q_XL (q_u2 L 528 0 0)) I' E')) okB_L_holdSame rfl ?_
        exact k_o_iret okB_L_holdSame rfl rfl rfl (by omega) (by omega) (Or.inl ⟨x, e, rfl, by unfold q_cvZ; rw [if_pos hx]⟩)
      · refine k_go 2 (c' := (10, [some (.ref 400), some (.int x1), some (.int x2), some (.ref 528), none], [.long 1, .int 0, .ref 528], q_hp (q_XL L) I' E')) okB_L_holdSame rfl ?_
        refine k_o_last (a := 528) (L := 1) (j := 0) okB_L_holdSame rfl (by decide) rfl rfl (by decide) (by decide) ?_
        refine k_go 2 (c' := (16, [some (.ref 400), some (.int x1), some (.int x2), some (.ref 528), none], [.int 0], q_hp (q_XL (q_u2 L 528 0 1)) I' E')) okB_L_holdSame rfl ?_
        exact k_o_iret okB_L_holdSame rfl rfl rfl (by omega) (by omega) (Or.inl ⟨x, e, rfl, by unfold q_cvZ; rw [if_neg hx]⟩)
    · rw [e] at e1; cases e1
  · obtain ⟨e1, e2⟩ := hq
    subst e2
    rcases hres with ⟨x, e⟩ | ⟨E9, e, hE⟩
    · rw [e] at e1; cases e1
    · rw [e] at e1; cases e1
      simp only [List.mem_cons, List.not_mem_nil, or_false] at hE
      rcases hE with rfl
      · refine k_catch (name := "java/lang/IndexOutOfBoundsException") (hp := 12) okB_L_holdSame [] ⟨0, 17, 20, 25⟩ [] rfl (fun z hz => absurd hz List.not_mem_nil) rfl (by decide) (q_gw_in (k := 5) (i := 35) (by decide +kernel) rfl) (q_gw_in2 (k := 5) (i := 46) (by decide +kernel)) (Nat.le_of_ble_eq_true rfl) (q_catc ⟨Or.inr rfl, rfl⟩) rfl ?_
        refine k_go 1 (c' := (14, [some (.ref 400), some (.int x1), some (.int x2), some (.ref 528), none], [.int 1], q_hp (q_XL L) I' E')) okB_L_holdSame rfl ?_
        exact k_o_iret okB_L_holdSame rfl rfl rfl (by omega) (by omega) (Or.inr ⟨_, 0, e, rfl, rfl, rfl⟩)
theorem okB_L_ropesBetween : q_okB m_L_ropesBetween = true := by decide +kernel
theorem cw_L_ropesBetween : Jvm.Cond.codeWith m_L_ropesBetween.1 m_L_ropesBetween.2.1 m_L_ropesBetween.2.2.1 m_L_ropesBetween.2.2.2.1 [(0, 10, 13, 25), (0, 10, 17, 13)] ∈ q_tb := q_gw_in (k := 5) (i := 119) (by decide +kernel) rfl
set_option maxHeartbeats 4000000 in
theorem cth_ropesBetween {g : q_G} {L : Nat → Nat → Int64} {I I' : Nat → Nat → Int32} {E E' : Nat → Nat → Option Nat} {mc ms : Nat} {mv2 : List Nat} {o2 : Option Value ⊕ String} {x1 x2 : Int32} (hm400 : 400 ∉ mv2) (hm528 : 528 ∉ mv2)
    (hCt : q_Ct g m_X12_ropesBetween 410 mc ms mv2 [.ref 400, .int x1, .int x2] (q_hp (q_XL L) I E) (fun o h' => o = o2 ∧ h' = q_hp (q_XL L) I' E')) (hres : (∃ v : Int32, o2 = .inl (some (.int v))) ∨ ∃ E, o2 = .inr E ∧ E ∈ (["java/lang/IndexOutOfBoundsException", "java/lang/IllegalStateException"] : List String)) :
    q_CtH g m_L_ropesBetween [(0, 10, 13, 25), (0, 10, 17, 13)] 411 mc ms mv2 [.ref 400, .int x1, .int x2, .ref 528] (q_hp (q_XL L) I E) (q_hQ ["java/lang/IndexOutOfBoundsException", "java/lang/IllegalStateException"] Int32.toInt64 L o2 I' E') := by
  refine q_CtH_of (by decide +kernel) rfl (Nat.le_of_ble_eq_true rfl) ?_ _ rfl rfl
  refine k_go 5 (c' := (5, [some (.ref 400), some (.int x1), some (.int x2), some (.ref 528), none], [.int x2, .int x1, .ref 400, .int 0, .ref 528], q_hp (q_XL L) I E)) okB_L_ropesBetween rfl ?_
  have hls : ∀ i a, q_nth ([some (.ref 400), some (.int x1), some (.int x2), some (.ref 528), none] : List (Option Value)) i = some (some (.ref a)) → a ∉ mv2 := q_r45_of rfl hm400 hm528
  refine k_callV (h := q_hp (q_XL L) I E) (M2 := m_X12_ropesBetween) (b := 400) (As := [.int x1, .int x2]) (rest := [.int 0, .ref 528]) okB_L_ropesBetween ok_X12_ropesBetween rfl (Or.inl rfl) cv_X12_ropesBetween (by decide) rfl (show vwCl[10]? = some _ from rfl) rfl hCt (Nat.le_refl _) (Nat.le_of_ble_eq_true rfl) (by omega) (by omega) (by decide) (fun _ h => h) hls (fun a ha => by
    simp only [List.mem_cons, List.not_mem_nil, or_false, reduceCtorEq, false_or, Value.ref.injEq] at ha
    rw [ha]; exact hm528) rfl (fun v h' hq => ?_) (fun E h' hq => ?_)
  · obtain ⟨e1, e2⟩ := hq
    subst e2
    rcases hres with ⟨x, e⟩ | ⟨E, e, -⟩
    · rw [e] at e1; cases e1
      refine k_go 1 (c' := (7, [some (.ref 400), some (.int x1), some (.int x2), some (.ref 528), none], [.long x.toInt64, .int 0, .ref 528], q_hp (q_XL L) I' E')) okB_L_ropesBetween rfl ?_
      refine k_o_last (a := 528) (L := 1) (j := 0) okB_L_ropesBetween rfl (by decide) rfl rfl (by decide) (by decide) ?_
      refine k_go 2 (c' := (16, [some (.ref 400), some (.int x1), some (.int x2), some (.ref 528), none], [.int 0], q_hp (q_XL (q_u2 L 528 0 x.toInt64)) I' E')) okB_L_ropesBetween rfl ?_
      exact k_o_iret okB_L_ropesBetween rfl rfl rfl (by omega) (by omega) (Or.inl ⟨x, e, rfl, rfl⟩)
    · rw [e] at e1; cases e1
  · obtain ⟨e1, e2⟩ := hq
    subst e2
    rcases hres with ⟨x, e⟩ | ⟨E9, e, hE⟩
    · rw [e] at e1; cases e1
    · rw [e] at e1; cases e1
      simp only [List.mem_cons, List.not_mem_nil, or_false] at hE
      rcases hE with rfl | rfl
      · refine k_catch (name := "java/lang/IndexOutOfBoundsException") (hp := 9) okB_L_ropesBetween [] ⟨0, 10, 13, 25⟩ [⟨0, 10, 17, 13⟩] rfl (fun z hz => absurd hz List.not_mem_nil) rfl (by decide) (q_gw_in (k := 5) (i := 35) (by decide +kernel) rfl) (q_gw_in2 (k := 5) (i := 46) (by decide +kernel)) (Nat.le_of_ble_eq_true rfl) (q_catc ⟨Or.inr rfl, rfl⟩) rfl ?_
        refine k_go 1 (c' := (11, [some (.ref 400), some (.int x1), some (.int x2), some (.ref 528), none], [.int 1], q_hp (q_XL L) I' E')) okB_L_ropesBetween rfl ?_
        exact k_o_iret okB_L_ropesBetween rfl rfl rfl (by omega) (by omega) (Or.inr ⟨_, 0, e, rfl, rfl, rfl⟩)
      · refine k_catch (name := "java/lang/IllegalStateException") (hp := 12) okB_L_ropesBetween [⟨0, 10, 13, 25⟩] ⟨0, 10, 17, 13⟩ [] rfl (fun z hz => by
          simp only [List.mem_cons, List.not_mem_nil, or_false] at hz
          rcases hz with rfl
          · exact ⟨by decide, "java/lang/IndexOutOfBoundsException", q_gw_in (k := 5) (i := 35) (by decide +kernel) rfl, by decide⟩) rfl (by decide) (q_gw_in (k := 4) (i := 172) (by decide +kernel) rfl) (q_gw_in2 (k := 4) (i := 179) (by decide +kernel)) (Nat.le_of_ble_eq_true rfl) (q_catc ⟨Or.inr rfl, rfl⟩) rfl ?_
        refine k_go 1 (c' := (14, [some (.ref 400), some (.int x1), some (.int x2), some (.ref 528), none], [.int 2], q_hp (q_XL L) I' E')) okB_L_ropesBetween rfl ?_
        exact k_o_iret okB_L_ropesBetween rfl rfl rfl (by omega) (by omega) (Or.inr ⟨_, 1, e, rfl, rfl, rfl⟩)
theorem okB_L_make : q_okB m_L_make = true := by decide +kernel
theorem cw_L_make : Jvm.Cond.codeWith m_L_make.1 m_L_make.2.1 m_L_make.2.2.1 m_L_make.2.2.2.1 [(0, 12, 15, 25), (0, 12, 19, 19), (0, 12, 23, 13)] ∈ q_tb := q_gw_in (k := 5) (i := 130) (by decide +kernel) rfl
set_option maxHeartbeats 4000000 in
theorem cth_make {g : q_G} {L : Nat → Nat → Int64} {I I' : Nat → Nat → Int32} {E E' : Nat → Nat → Option Nat} {mc ms : Nat} {mv2 : List Nat} {o2 : Option Value ⊕ String} {x1 x2 x3 : Int32} (hm400 : 400 ∉ mv2) (hm528 : 528 ∉ mv2)
    (hCt : q_Ct g m_X12_make 410 mc ms mv2 [.ref 400, .int x1, .int x2, .int x3] (q_hp (q_XL L) I E) (fun o h' => o = o2 ∧ h' = q_hp (q_XL L) I' E')) (hres : (∃ v : Int32, o2 = .inl (some (.int v))) ∨ ∃ E, o2 = .inr E ∧ E ∈ (["java/lang/IndexOutOfBoundsException", "java/lang/IllegalArgumentException", "java/lang/IllegalStateException"] : List String)) :
    q_CtH g m_L_make [(0, 12, 15, 25), (0, 12, 19, 19), (0, 12, 23, 13)] 411 mc ms mv2 [.ref 400, .int x1, .int x2, .int x3, .ref 528] (q_hp (q_XL L) I E) (q_hQ ["java/lang/IndexOutOfBoundsException", "java/lang/IllegalArgumentException", "java/lang/IllegalStateException"] Int32.toInt64 L o2 I' E') := by
  refine q_CtH_of (by decide +kernel) rfl (Nat.le_of_ble_eq_true rfl) ?_ _ rfl rfl
  refine k_go 6 (c' := (6, [some (.ref 400), some (.int x1), some (.int x2), some (.int x3), some (.ref 528), none], [.int x3, .int x2, .int x1, .ref 400, .int 0, .ref 528], q_hp (q_XL L) I E)) okB_L_make rfl ?_
  have hls : ∀ i a, q_nth ([some (.ref 400), some (.int x1), some (.int x2), some (.int x3), some (.ref 528), none] : List (Option Value)) i = some (some (.ref a)) → a ∉ mv2 := q_r45_of rfl hm400 hm528
  refine k_callV (h := q_hp (q_XL L) I E) (M2 := m_X12_make) (b := 400) (As := [.int x1, .int x2, .int x3]) (rest := [.int 0, .ref 528]) okB_L_make ok_X12_make rfl (Or.inl rfl) cv_X12_make (by decide) rfl (show vwCl[10]? = some _ from rfl) rfl hCt (Nat.le_refl _) (Nat.le_of_ble_eq_true rfl) (by omega) (by omega) (by decide) (fun _ h => h) hls (fun a ha => by
    simp only [List.mem_cons, List.not_mem_nil, or_false, reduceCtorEq, false_or, Value.ref.injEq] at ha
    rw [ha]; exact hm528) rfl (fun v h' hq => ?_) (fun E h' hq => ?_)
  · obtain ⟨e1, e2⟩ := hq
    subst e2
    rcases hres with ⟨x, e⟩ | ⟨E, e, -⟩
    · rw [e] at e1; cases e1
      refine k_go 1 (c' := (8, [some (.ref 400), some (.int x1), some (.int x2), some (.int x3), some (.ref 528), none], [.long x.toInt64, .int 0, .ref 528], q_hp (q_XL L) I' E')) okB_L_make rfl ?_
      refine k_o_last (a := 528) (L := 1) (j := 0) okB_L_make rfl (by decide) rfl rfl (by decide) (by decide) ?_
      refine k_go 2 (c' := (20, [some (.ref 400), some (.int x1), some (.int x2), some (.int x3), some (.ref 528), none], [.int 0], q_hp (q_XL (q_u2 L 528 0 x.toInt64)) I' E')) okB_L_make rfl ?_
      exact k_o_iret okB_L_make rfl rfl rfl (by omega) (by omega) (Or.inl ⟨x, e, rfl, rfl⟩)
    · rw [e] at e1; cases e1
  · obtain ⟨e1, e2⟩ := hq
    subst e2
    rcases hres with ⟨x, e⟩ | ⟨E9, e, hE⟩
    · rw [e] at e1; cases e1
    · rw [e] at e1; cases e1
      simp only [List.mem_cons, List.not_mem_nil, or_false] at hE
      rcases hE with rfl | rfl | rfl
      · refine k_catch (name := "java/lang/IndexOutOfBoundsException") (hp := 10) okB_L_make [] ⟨0, 12, 15, 25⟩ [⟨0, 12, 19, 19⟩, ⟨0, 12, 23, 13⟩] rfl (fun z hz => absurd hz List.not_mem_nil) rfl (by decide) (q_gw_in (k := 5) (i := 35) (by decide +kernel) rfl) (q_gw_in2 (k := 5) (i := 46) (by decide +kernel)) (Nat.le_of_ble_eq_true rfl) (q_catc ⟨Or.inr rfl, rfl⟩) rfl ?_
        refine k_go 1 (c' := (12, [some (.ref 400), some (.int x1), some (.int x2), some (.int x3), some (.ref 528), none], [.int 1], q_hp (q_XL L) I' E')) okB_L_make rfl ?_
        exact k_o_iret okB_L_make rfl rfl rfl (by omega) (by omega) (Or.inr ⟨_, 0, e, rfl, rfl, rfl⟩)
      · refine k_catch (name := "java/lang/IllegalArgumentException") (hp := 13) okB_L_make [⟨0, 12, 15, 25⟩] ⟨0, 12, 19, 19⟩ [⟨0, 12, 23, 13⟩] rfl (fun z hz => by
          simp only [List.mem_cons, List.not_mem_nil, or_false] at hz
          rcases hz with rfl
          · exact ⟨by decide, "java/lang/IndexOutOfBoundsException", q_gw_in (k := 5) (i := 35) (by decide +kernel) rfl, by decide⟩) rfl (by decide) (q_gw_in (k := 5) (i := 11) (by decide +kernel) rfl) (q_gw_in2 (k := 5) (i := 18) (by decide +kernel)) (Nat.le_of_ble_eq_true rfl) (q_catc ⟨Or.inr rfl, rfl⟩) rfl ?_
        refine k_go 1 (c' := (15, [some (.ref 400), some (.int x1), some (.int x2), some (.int x3), some (.ref 528), none], [.int 2], q_hp (q_XL L) I' E')) okB_L_make rfl ?_
        exact k_o_iret okB_L_make rfl rfl rfl (by omega) (by omega) (Or.inr ⟨_, 1, e, rfl, rfl, rfl⟩)
      · refine k_catch (name := "java/lang/IllegalStateException") (hp := 16) okB_L_make [⟨0, 12, 15, 25⟩, ⟨0, 12, 19, 19⟩] ⟨0, 12, 23, 13⟩ [] rfl (fun z hz => by
          simp only [List.mem_cons, List.not_mem_nil, or_false] at hz
          rcases hz with rfl | rfl
          · exact ⟨by decide, "java/lang/IndexOutOfBoundsException", q_gw_in (k := 5) (i := 35) (by decide +kernel) rfl, by decide⟩
          · exact ⟨by decide, "java/lang/IllegalArgumentException", q_gw_in (k := 5) (i := 11) (by decide +kernel) rfl, by decide⟩) rfl (by decide) (q_gw_in (k := 4) (i := 172) (by decide +kernel) rfl) (q_gw_in2 (k := 4) (i := 179) (by decide +kernel)) (Nat.le_of_ble_eq_true rfl) (q_catc ⟨Or.inr rfl, rfl⟩) rfl ?_
        refine k_go 1 (c' := (18, [some (.ref 400), some (.int x1), some (.int x2), some (.int x3), some (.ref 528), none], [.int 3], q_hp (q_XL L) I' E')) okB_L_make rfl ?_
        exact k_o_iret okB_L_make rfl rfl rfl (by omega) (by omega) (Or.inr ⟨_, 2, e, rfl, rfl, rfl⟩)
theorem okB_L_tie : q_okB m_L_tie = true := by decide +kernel
theorem cw_L_tie : Jvm.Cond.codeWith m_L_tie.1 m_L_tie.2.1 m_L_tie.2.2.1 m_L_tie.2.2.2.1 [(0, 12, 15, 25), (0, 12, 19, 13)] ∈ q_tb := q_gw_in (k := 5) (i := 140) (by decide +kernel) rfl
set_option maxHeartbeats 4000000 in
theorem cth_tie {g : q_G} {L : Nat → Nat → Int64} {I I' : Nat → Nat → Int32} {E E' : Nat → Nat → Option Nat} {mc ms : Nat} {mv2 : List Nat} {o2 : Option Value ⊕ String} {x1 x2 x3 : Int32} (hm400 : 400 ∉ mv2) (hm528 : 528 ∉ mv2)
    (hCt : q_Ct g m_X12_tie 410 mc ms mv2 [.ref 400, .int x1, .int x2, .int x3] (q_hp (q_XL L) I E) (fun o h' => o = o2 ∧ h' = q_hp (q_XL L) I' E')) (hres : (∃ v : Int32, o2 = .inl (some (.int v))) ∨ ∃ E, o2 = .inr E ∧ E ∈ (["java/lang/IndexOutOfBoundsException", "java/lang/IllegalStateException"] : List String)) :
    q_CtH g m_L_tie [(0, 12, 15, 25), (0, 12, 19, 13)] 411 mc ms mv2 [.ref 400, .int x1, .int x2, .int x3, .ref 528] (q_hp (q_XL L) I E) (q_hQ ["java/lang/IndexOutOfBoundsException", "java/lang/IllegalStateException"] Int32.toInt64 L o2 I' E') := by
  refine q_CtH_of (by decide +kernel) rfl (Nat.le_of_ble_eq_true rfl) ?_ _ rfl rfl
  refine k_go 6 (c' := (6, [some (.ref 400), some (.int x1), some (.int x2), some (.int x3), some (.ref 528), none], [.int x3, .int x2, .int x1, .ref 400, .int 0, .ref 528], q_hp (q_XL L) I E)) okB_L_tie rfl ?_
  have hls : ∀ i a, q_nth ([some (.ref 400), some (.int x1), some (.int x2), some (.int x3), some (.ref 528), none] : List (Option Value)) i = some (some (.ref a)) → a ∉ mv2 := q_r45_of rfl hm400 hm528
  refine k_callV (h := q_hp (q_XL L) I E) (M2 := m_X12_tie) (b := 400) (As := [.int x1, .int x2, .int x3]) (rest := [.int 0, .ref 528]) okB_L_tie ok_X12_tie rfl (Or.inl rfl) cv_X12_tie (by decide) rfl (show vwCl[10]? = some _ from rfl) rfl hCt (Nat.le_refl _) (Nat.le_of_ble_eq_true rfl) (by omega) (by omega) (by decide) (fun _ h => h) hls (fun a ha => by
    simp only [List.mem_cons, List.not_mem_nil, or_false, reduceCtorEq, false_or, Value.ref.injEq] at ha
    rw [ha]; exact hm528) rfl (fun v h' hq => ?_) (fun E h' hq => ?_)
  · obtain ⟨e1, e2⟩ := hq
    subst e2
    rcases hres with ⟨x, e⟩ | ⟨E, e, -⟩
    · rw [e] at e1; cases e1
      refine k_go 1 (c' := (8, [some (.ref 400), some (.int x1), some (.int x2), some (.int x3), some (.ref 528), none], [.long x.toInt64, .int 0, .ref 528], q_hp (q_XL L) I' E')) okB_L_tie rfl ?_
      refine k_o_last (a := 528) (L := 1) (j := 0) okB_L_tie rfl (by decide) rfl rfl (by decide) (by decide) ?_
      refine k_go 2 (c' := (17, [some (.ref 400), some (.int x1), some (.int x2), some (.int x3), some (.ref 528), none], [.int 0], q_hp (q_XL (q_u2 L 528 0 x.toInt64)) I' E')) okB_L_tie rfl ?_
      exact k_o_iret okB_L_tie rfl rfl rfl (by omega) (by omega) (Or.inl ⟨x, e, rfl, rfl⟩)
    · rw [e] at e1; cases e1
  · obtain ⟨e1, e2⟩ := hq
    subst e2
    rcases hres with ⟨x, e⟩ | ⟨E9, e, hE⟩
    · rw [e] at e1; cases e1
    · rw [e] at e1; cases e1
      simp only [List.mem_cons, List.not_mem_nil, or_false] at hE
      rcases hE with rfl | rfl
      · refine k_catch (name := "java/lang/IndexOutOfBoundsException") (hp := 10) okB_L_tie [] ⟨0, 12, 15, 25⟩ [⟨0, 12, 19, 13⟩] rfl (fun z hz => absurd hz List.not_mem_nil) rfl (by decide) (q_gw_in (k := 5) (i := 35) (by decide +kernel) rfl) (q_gw_in2 (k := 5) (i := 46) (by decide +kernel)) (Nat.le_of_ble_eq_true rfl) (q_catc ⟨Or.inr rfl, rfl⟩) rfl ?_
        refine k_go 1 (c' := (12, [some (.ref 400), some (.int x1), some (.int x2), some (.int x3), some (.ref 528), none], [.int 1], q_hp (q_XL L) I' E')) okB_L_tie rfl ?_
        exact k_o_iret okB_L_tie rfl rfl rfl (by omega) (by omega) (Or.inr ⟨_, 0, e, rfl, rfl, rfl⟩)
      · refine k_catch (name := "java/lang/IllegalStateException") (hp := 13) okB_L_tie [⟨0, 12, 15, 25⟩] ⟨0, 12, 19, 13⟩ [] rfl (fun z hz => by
          simp only [List.mem_cons, List.not_mem_nil, or_false] at hz
          rcases hz with rfl
          · exact ⟨by decide, "java/lang/IndexOutOfBoundsException", q_gw_in (k := 5) (i := 35) (by decide +kernel) rfl, by decide⟩) rfl (by decide) (q_gw_in (k := 4) (i := 172) (by decide +kernel) rfl) (q_gw_in2 (k := 4) (i := 179) (by decide +kernel)) (Nat.le_of_ble_eq_true rfl) (q_catc ⟨Or.inr rfl, rfl⟩) rfl ?_
        refine k_go 1 (c' := (15, [some (.ref 400), some (.int x1), some (.int x2), some (.int x3), some (.ref 528), none], [.int 2], q_hp (q_XL L) I' E')) okB_L_tie rfl ?_
        exact k_o_iret okB_L_tie rfl rfl rfl (by omega) (by omega) (Or.inr ⟨_, 1, e, rfl, rfl, rfl⟩)
theorem okB_L_follow : q_okB m_L_follow = true := by decide +kernel
theorem cw_L_follow : Jvm.Cond.codeWith m_L_follow.1 m_L_follow.2.1 m_L_follow.2.2.1 m_L_follow.2.2.2.1 [(0, 12, 15, 25), (0, 12, 19, 13)] ∈ q_tb := q_gw_in (k := 5) (i := 153) (by decide +kernel) rfl
set_option maxHeartbeats 4000000 in
theorem cth_follow {g : q_G} {L : Nat → Nat → Int64} {I I' : Nat → Nat → Int32} {E E' : Nat → Nat → Option Nat} {mc ms : Nat} {mv2 : List Nat} {o2 : Option Value ⊕ String} {x1 x2 x3 : Int32} (hm400 : 400 ∉ mv2) (hm528 : 528 ∉ mv2)
    (hCt : q_Ct g m_X12_follow 410 mc ms mv2 [.ref 400, .int x1, .int x2, .int x3] (q_hp (q_XL L) I E) (fun o h' => o = o2 ∧ h' = q_hp (q_XL L) I' E')) (hres : (∃ v : Int32, o2 = .inl (some (.int v))) ∨ ∃ E, o2 = .inr E ∧ E ∈ (["java/lang/IndexOutOfBoundsException", "java/lang/IllegalStateException"] : List String)) :
    q_CtH g m_L_follow [(0, 12, 15, 25), (0, 12, 19, 13)] 411 mc ms mv2 [.ref 400, .int x1, .int x2, .int x3, .ref 528] (q_hp (q_XL L) I E) (q_hQ ["java/lang/IndexOutOfBoundsException", "java/lang/IllegalStateException"] Int32.toInt64 L o2 I' E') := by
  refine q_CtH_of (by decide +kernel) rfl (Nat.le_of_ble_eq_true rfl) ?_ _ rfl rfl
  refine k_go 6 (c' := (6, [some (.ref 400), some (.int x1), some (.int x2), some (.int x3), some (.ref 528), none], [.int x3, .int x2, .int x1, .ref 400, .int 0, .ref 528], q_hp (q_XL L) I E)) okB_L_follow rfl ?_
  have hls : ∀ i a, q_nth ([some (.ref 400), some (.int x1), some (.int x2), some (.int x3), some (.ref 528), none] : List (Option Value)) i = some (some (.ref a)) → a ∉ mv2 := q_r45_of rfl hm400 hm528
  refine k_callV (h := q_hp (q_XL L) I E) (M2 := m_X12_follow) (b := 400) (As := [.int x1, .int x2, .int x3]) (rest := [.int 0, .ref 528]) okB_L_follow ok_X12_follow rfl (Or.inl rfl) cv_X12_follow (by decide) rfl (show vwCl[10]? = some _ from rfl) rfl hCt (Nat.le_refl _) (Nat.le_of_ble_eq_true rfl) (by omega) (by omega) (by decide) (fun _ h => h) hls (fun a ha => by
    simp only [List.mem_cons, List.not_mem_nil, or_false, reduceCtorEq, false_or, Value.ref.injEq] at ha
    rw [ha]; exact hm528) rfl (fun v h' hq => ?_) (fun E h' hq => ?_)
  · obtain ⟨e1, e2⟩ := hq
    subst e2
    rcases hres with ⟨x, e⟩ | ⟨E, e, -⟩
    · rw [e] at e1; cases e1
      refine k_go 1 (c' := (8, [some (.ref 400), some (.int x1), some (.int x2), some (.int x3), some (.ref 528), none], [.long x.toInt64, .int 0, .ref 528], q_hp (q_XL L) I' E')) okB_L_follow rfl ?_
      refine k_o_last (a := 528) (L := 1) (j := 0) okB_L_follow rfl (by decide) rfl rfl (by decide) (by decide) ?_
      refine k_go 2 (c' := (17, [some (.ref 400), some (.int x1), some (.int x2), some (.int x3), some (.ref 528), none], [.int 0], q_hp (q_XL (q_u2 L 528 0 x.toInt64)) I' E')) okB_L_follow rfl ?_
      exact k_o_iret okB_L_follow rfl rfl rfl (by omega) (by omega) (Or.inl ⟨x, e, rfl, rfl⟩)
    · rw [e] at e1; cases e1
  · obtain ⟨e1, e2⟩ := hq
    subst e2
    rcases hres with ⟨x, e⟩ | ⟨E9, e, hE⟩
    · rw [e] at e1; cases e1
    · rw [e] at e1; cases e1
      simp only [List.mem_cons, List.not_mem_nil, or_false] at hE
      rcases hE with rfl | rfl
      · refine k_catch (name := "java/lang/IndexOutOfBoundsException") (hp := 10) okB_L_follow [] ⟨0, 12, 15, 25⟩ [⟨0, 12, 19, 13⟩] rfl (fun z hz => absurd hz List.not_mem_nil) rfl (by decide) (q_gw_in (k := 5) (i := 35) (by decide +kernel) rfl) (q_gw_in2 (k := 5) (i := 46) (by decide +kernel)) (Nat.le_of_ble_eq_true rfl) (q_catc ⟨Or.inr rfl, rfl⟩) rfl ?_
        refine k_go 1 (c' := (12, [some (.ref 400), some (.int x1), some (.int x2), some (.int x3), some (.ref 528), none], [.int 1], q_hp (q_XL L) I' E')) okB_L_follow rfl ?_
        exact k_o_iret okB_L_follow rfl rfl rfl (by omega) (by omega) (Or.inr ⟨_, 0, e, rfl, rfl, rfl⟩)
      · refine k_catch (name := "java/lang/IllegalStateException") (hp := 13) okB_L_follow [⟨0, 12, 15, 25⟩] ⟨0, 12, 19, 13⟩ [] rfl (fun z hz => by
          simp only [List.mem_cons, List.not_mem_nil, or_false] at hz
          rcases hz with rfl
          · exact ⟨by decide, "java/lang/IndexOutOfBoundsException", q_gw_in (k := 5) (i := 35) (by decide +kernel) rfl, by decide⟩) rfl (by decide) (q_gw_in (k := 4) (i := 172) (by decide +kernel) rfl) (q_gw_in2 (k := 4) (i := 179) (by decide +kernel)) (Nat.le_of_ble_eq_true rfl) (q_catc ⟨Or.inr rfl, rfl⟩) rfl ?_
        refine k_go 1 (c' := (15, [some (.ref 400), some (.int x1), some (.int x2), some (.int x3), some (.ref 528), none], [.int 2], q_hp (q_XL L) I' E')) okB_L_follow rfl ?_
        exact k_o_iret okB_L_follow rfl rfl rfl (by omega) (by omega) (Or.inr ⟨_, 1, e, rfl, rfl, rfl⟩)
theorem okB_L_drop : q_okB m_L_drop = true := by decide +kernel
theorem cw_L_drop : Jvm.Cond.codeWith m_L_drop.1 m_L_drop.2.1 m_L_drop.2.2.1 m_L_drop.2.2.2.1 [(0, 9, 12, 25), (0, 9, 15, 13)] ∈ q_tb := q_gw_in (k := 5) (i := 162) (by decide +kernel) rfl
set_option maxHeartbeats 4000000 in
theorem cth_drop {g : q_G} {L : Nat → Nat → Int64} {I I' : Nat → Nat → Int32} {E E' : Nat → Nat → Option Nat} {mc ms : Nat} {mv2 : List Nat} {o2 : Option Value ⊕ String} {x1 : Int32} (hm400 : 400 ∉ mv2) (hm528 : 528 ∉ mv2)
    (hCt : q_Ct g m_X12_drop 410 mc ms mv2 [.ref 400, .int x1] (q_hp (q_XL L) I E) (fun o h' => o = o2 ∧ h' = q_hp (q_XL L) I' E')) (hres : (∃ v : Int32, o2 = .inl (some (.int v))) ∨ ∃ E, o2 = .inr E ∧ E ∈ (["java/lang/IndexOutOfBoundsException", "java/lang/IllegalStateException"] : List String)) :
    q_CtH g m_L_drop [(0, 9, 12, 25), (0, 9, 15, 13)] 411 mc ms mv2 [.ref 400, .int x1, .ref 528] (q_hp (q_XL L) I E) (q_hQ ["java/lang/IndexOutOfBoundsException", "java/lang/IllegalStateException"] Int32.toInt64 L o2 I' E') := by
  refine q_CtH_of (by decide +kernel) rfl (Nat.le_of_ble_eq_true rfl) ?_ _ rfl rfl
  refine k_go 4 (c' := (4, [some (.ref 400), some (.int x1), some (.ref 528), none], [.int x1, .ref 400, .int 0, .ref 528], q_hp (q_XL L) I E)) okB_L_drop rfl ?_
  have hls : ∀ i a, q_nth ([some (.ref 400), some (.int x1), some (.ref 528), none] : List (Option Value)) i = some (some (.ref a)) → a ∉ mv2 := q_r45_of rfl hm400 hm528
  refine k_callV (h := q_hp (q_XL L) I E) (M2 := m_X12_drop) (b := 400) (As := [.int x1]) (rest := [.int 0, .ref 528]) okB_L_drop ok_X12_drop rfl (Or.inl rfl) cv_X12_drop (by decide) rfl (show vwCl[10]? = some _ from rfl) rfl hCt (Nat.le_refl _) (Nat.le_of_ble_eq_true rfl) (by omega) (by omega) (by decide) (fun _ h => h) hls (fun a ha => by
    simp only [List.mem_cons, List.not_mem_nil, or_false, reduceCtorEq, false_or, Value.ref.injEq] at ha
    rw [ha]; exact hm528) rfl (fun v h' hq => ?_) (fun E h' hq => ?_)
  · obtain ⟨e1, e2⟩ := hq
    subst e2
    rcases hres with ⟨x, e⟩ | ⟨E, e, -⟩
    · rw [e] at e1; cases e1
      refine k_go 1 (c' := (6, [some (.ref 400), some (.int x1), some (.ref 528), none], [.long x.toInt64, .int 0, .ref 528], q_hp (q_XL L) I' E')) okB_L_drop rfl ?_
      refine k_o_last (a := 528) (L := 1) (j := 0) okB_L_drop rfl (by decide) rfl rfl (by decide) (by decide) ?_
      refine k_go 2 (c' := (15, [some (.ref 400), some (.int x1), some (.ref 528), none], [.int 0], q_hp (q_XL (q_u2 L 528 0 x.toInt64)) I' E')) okB_L_drop rfl ?_
      exact k_o_iret okB_L_drop rfl rfl rfl (by omega) (by omega) (Or.inl ⟨x, e, rfl, rfl⟩)
    · rw [e] at e1; cases e1
  · obtain ⟨e1, e2⟩ := hq
    subst e2
    rcases hres with ⟨x, e⟩ | ⟨E9, e, hE⟩
    · rw [e] at e1; cases e1
    · rw [e] at e1; cases e1
      simp only [List.mem_cons, List.not_mem_nil, or_false] at hE
      rcases hE with rfl | rfl
      · refine k_catch_n (name := "java/lang/IndexOutOfBoundsException") (hp := 8) okB_L_drop [] ⟨0, 9, 12, 25⟩ [⟨0, 9, 15, 13⟩] rfl (fun z hz => absurd hz List.not_mem_nil) rfl (by decide) (q_gw_in (k := 5) (i := 35) (by decide +kernel) rfl) (q_gw_in2 (k := 5) (i := 46) (by decide +kernel)) (Nat.le_of_ble_eq_true rfl) (q_catc ⟨Or.inr rfl, rfl⟩) rfl ?_
        refine k_go 1 (c' := (10, [some (.ref 400), some (.int x1), some (.ref 528), none], [.int 1], q_hp (q_XL L) I' E')) okB_L_drop rfl ?_
        exact k_o_iret okB_L_drop rfl rfl rfl (by omega) (by omega) (Or.inr ⟨_, 0, e, rfl, rfl, rfl⟩)
      · refine k_catch_n (name := "java/lang/IllegalStateException") (hp := 11) okB_L_drop [⟨0, 9, 12, 25⟩] ⟨0, 9, 15, 13⟩ [] rfl (fun z hz => by
          simp only [List.mem_cons, List.not_mem_nil, or_false] at hz
          rcases hz with rfl
          · exact ⟨by decide, "java/lang/IndexOutOfBoundsException", q_gw_in (k := 5) (i := 35) (by decide +kernel) rfl, by decide⟩) rfl (by decide) (q_gw_in (k := 4) (i := 172) (by decide +kernel) rfl) (q_gw_in2 (k := 4) (i := 179) (by decide +kernel)) (Nat.le_of_ble_eq_true rfl) (q_catc ⟨Or.inr rfl, rfl⟩) rfl ?_
        refine k_go 1 (c' := (13, [some (.ref 400), some (.int x1), some (.ref 528), none], [.int 2], q_hp (q_XL L) I' E')) okB_L_drop rfl ?_
        exact k_o_iret okB_L_drop rfl rfl rfl (by omega) (by omega) (Or.inr ⟨_, 1, e, rfl, rfl, rfl⟩)
theorem okB_L_work : q_okB m_L_work = true := by decide +kernel
theorem cw_L_work : Jvm.Cond.codeWith m_L_work.1 m_L_work.2.1 m_L_work.2.2.1 m_L_work.2.2.2.1 [(0, 9, 12, 19), (0, 9, 15, 13)] ∈ q_tb := q_gw_in (k := 5) (i := 170) (by decide +kernel) rfl
set_option maxHeartbeats 4000000 in
theorem cth_work {g : q_G} {L : Nat → Nat → Int64} {I I' : Nat → Nat → Int32} {E E' : Nat → Nat → Option Nat} {mc ms : Nat} {mv2 : List Nat} {o2 : Option Value ⊕ String} {x1 : Int32} (hm400 : 400 ∉ mv2) (hm528 : 528 ∉ mv2)
    (hCt : q_Ct g m_X12_work 410 mc ms mv2 [.ref 400, .int x1] (q_hp (q_XL L) I E) (fun o h' => o = o2 ∧ h' = q_hp (q_XL L) I' E')) (hres : (∃ v : Int32, o2 = .inl (some (.int v))) ∨ ∃ E, o2 = .inr E ∧ E ∈ (["java/lang/IllegalArgumentException", "java/lang/IllegalStateException"] : List String)) :
    q_CtH g m_L_work [(0, 9, 12, 19), (0, 9, 15, 13)] 411 mc ms mv2 [.ref 400, .int x1, .ref 528] (q_hp (q_XL L) I E) (q_hQ ["java/lang/IllegalArgumentException", "java/lang/IllegalStateException"] Int32.toInt64 L o2 I' E') := by
  refine q_CtH_of (by decide +kernel) rfl (Nat.le_of_ble_eq_true rfl) ?_ _ rfl rfl
  refine k_go 4 (c' := (4, [some (.ref 400), some (.int x1), some (.ref 528), none], [.int x1, .ref 400, .int 0, .ref 528], q_hp (q_XL L) I E)) okB_L_work rfl ?_
  have hls : ∀ i a, q_nth ([some (.ref 400), some (.int x1), some (.ref 528), none] : List (Option Value)) i = some (some (.ref a)) → a ∉ mv2 := q_r45_of rfl hm400 hm528
  refine k_callV (h := q_hp (q_XL L) I E) (M2 := m_X12_work) (b := 400) (As := [.int x1]) (rest := [.int 0, .ref 528]) okB_L_work ok_X12_work rfl (Or.inl rfl) cv_X12_work (by decide) rfl (show vwCl[10]? = some _ from rfl) rfl hCt (Nat.le_refl _) (Nat.le_of_ble_eq_true rfl) (by omega) (by omega) (by decide) (fun _ h => h) hls (fun a ha => by
    simp only [List.mem_cons, List.not_mem_nil, or_false, reduceCtorEq, false_or, Value.ref.injEq] at ha
    rw [ha]; exact hm528) rfl (fun v h' hq => ?_) (fun E h' hq => ?_)
  · obtain ⟨e1, e2⟩ := hq
    subst e2
    rcases hres with ⟨x, e⟩ | ⟨E, e, -⟩
    · rw [e] at e1; cases e1
      refine k_go 1 (c' := (6, [some (.ref 400), some (.int x1), some (.ref 528), none], [.long x.toInt64, .int 0, .ref 528], q_hp (q_XL L) I' E')) okB_L_work rfl ?_
      refine k_o_last (a := 528) (L := 1) (j := 0) okB_L_work rfl (by decide) rfl rfl (by decide) (by decide) ?_
      refine k_go 2 (c' := (15, [some (.ref 400), some (.int x1), some (.ref 528), none], [.int 0], q_hp (q_XL (q_u2 L 528 0 x.toInt64)) I' E')) okB_L_work rfl ?_
      exact k_o_iret okB_L_work rfl rfl rfl (by omega) (by omega) (Or.inl ⟨x, e, rfl, rfl⟩)
    · rw [e] at e1; cases e1
  · obtain ⟨e1, e2⟩ := hq
    subst e2
    rcases hres with ⟨x, e⟩ | ⟨E9, e, hE⟩
    · rw [e] at e1; cases e1
    · rw [e] at e1; cases e1
      simp only [List.mem_cons, List.not_mem_nil, or_false] at hE
      rcases hE with rfl | rfl
      · refine k_catch_n (name := "java/lang/IllegalArgumentException") (hp := 8) okB_L_work [] ⟨0, 9, 12, 19⟩ [⟨0, 9, 15, 13⟩] rfl (fun z hz => absurd hz List.not_mem_nil) rfl (by decide) (q_gw_in (k := 5) (i := 11) (by decide +kernel) rfl) (q_gw_in2 (k := 5) (i := 18) (by decide +kernel)) (Nat.le_of_ble_eq_true rfl) (q_catc ⟨Or.inr rfl, rfl⟩) rfl ?_
        refine k_go 1 (c' := (10, [some (.ref 400), some (.int x1), some (.ref 528), none], [.int 1], q_hp (q_XL L) I' E')) okB_L_work rfl ?_
        exact k_o_iret okB_L_work rfl rfl rfl (by omega) (by omega) (Or.inr ⟨_, 0, e, rfl, rfl, rfl⟩)
      · refine k_catch_n (name := "java/lang/IllegalStateException") (hp := 11) okB_L_work [⟨0, 9, 12, 19⟩] ⟨0, 9, 15, 13⟩ [] rfl (fun z hz => by
          simp only [List.mem_cons, List.not_mem_nil, or_false] at hz
          rcases hz with rfl
          · exact ⟨by decide, "java/lang/IllegalArgumentException", q_gw_in (k := 5) (i := 11) (by decide +kernel) rfl, by decide⟩) rfl (by decide) (q_gw_in (k := 4) (i := 172) (by decide +kernel) rfl) (q_gw_in2 (k := 4) (i := 179) (by decide +kernel)) (Nat.le_of_ble_eq_true rfl) (q_catc ⟨Or.inr rfl, rfl⟩) rfl ?_
        refine k_go 1 (c' := (13, [some (.ref 400), some (.int x1), some (.ref 528), none], [.int 2], q_hp (q_XL L) I' E')) okB_L_work rfl ?_
        exact k_o_iret okB_L_work rfl rfl rfl (by omega) (by omega) (Or.inr ⟨_, 1, e, rfl, rfl, rfl⟩)
theorem okB_L_usedAfter : q_okB m_L_usedAfter = true := by decide +kernel
theorem cw_L_usedAfter : Jvm.Cond.codeWith m_L_usedAfter.1 m_L_usedAfter.2.1 m_L_usedAfter.2.2.1 m_L_usedAfter.2.2.2.1 [(0, 9, 12, 19), (0, 9, 15, 13)] ∈ q_tb := q_gw_in (k := 5) (i := 183) (by decide +kernel) rfl
set_option maxHeartbeats 4000000 in
theorem cth_usedAfter {g : q_G} {L : Nat → Nat → Int64} {I I' : Nat → Nat → Int32} {E E' : Nat → Nat → Option Nat} {mc ms : Nat} {mv2 : List Nat} {o2 : Option Value ⊕ String} {x1 : Int32} (hm400 : 400 ∉ mv2) (hm528 : 528 ∉ mv2)
    (hCt : q_Ct g m_X12_usedAfter 410 mc ms mv2 [.ref 400, .int x1] (q_hp (q_XL L) I E) (fun o h' => o = o2 ∧ h' = q_hp (q_XL L) I' E')) (hres : (∃ v : Int32, o2 = .inl (some (.int v))) ∨ ∃ E, o2 = .inr E ∧ E ∈ (["java/lang/IllegalArgumentException", "java/lang/IllegalStateException"] : List String)) :
    q_CtH g m_L_usedAfter [(0, 9, 12, 19), (0, 9, 15, 13)] 411 mc ms mv2 [.ref 400, .int x1, .ref 528] (q_hp (q_XL L) I E) (q_hQ ["java/lang/IllegalArgumentException", "java/lang/IllegalStateException"] Int32.toInt64 L o2 I' E') := by
  refine q_CtH_of (by decide +kernel) rfl (Nat.le_of_ble_eq_true rfl) ?_ _ rfl rfl
  refine k_go 4 (c' := (4, [some (.ref 400), some (.int x1), some (.ref 528), none], [.int x1, .ref 400, .int 0, .ref 528], q_hp (q_XL L) I E)) okB_L_usedAfter rfl ?_
  have hls : ∀ i a, q_nth ([some (.ref 400), some (.int x1), some (.ref 528), none] : List (Option Value)) i = some (some (.ref a)) → a ∉ mv2 := q_r45_of rfl hm400 hm528
  refine k_callV (h := q_hp (q_XL L) I E) (M2 := m_X12_usedAfter) (b := 400) (As := [.int x1]) (rest := [.int 0, .ref 528]) okB_L_usedAfter ok_X12_usedAfter rfl (Or.inl rfl) cv_X12_usedAfter (by decide) rfl (show vwCl[10]? = some _ from rfl) rfl hCt (Nat.le_refl _) (Nat.le_of_ble_eq_true rfl) (by omega) (by omega) (by decide) (fun _ h => h) hls (fun a ha => by
    simp only [List.mem_cons, List.not_mem_nil, or_false, reduceCtorEq, false_or, Value.ref.injEq] at ha
    rw [ha]; exact hm528) rfl (fun v h' hq => ?_) (fun E h' hq => ?_)
  · obtain ⟨e1, e2⟩ := hq
    subst e2
    rcases hres with ⟨x, e⟩ | ⟨E, e, -⟩
    · rw [e] at e1; cases e1
      refine k_go 1 (c' := (6, [some (.ref 400), some (.int x1), some (.ref 528), none], [.long x.toInt64, .int 0, .ref 528], q_hp (q_XL L) I' E')) okB_L_usedAfter rfl ?_
      refine k_o_last (a := 528) (L := 1) (j := 0) okB_L_usedAfter rfl (by decide) rfl rfl (by decide) (by decide) ?_
      refine k_go 2 (c' := (15, [some (.ref 400), some (.int x1), some (.ref 528), none], [.int 0], q_hp (q_XL (q_u2 L 528 0 x.toInt64)) I' E')) okB_L_usedAfter rfl ?_
      exact k_o_iret okB_L_usedAfter rfl rfl rfl (by omega) (by omega) (Or.inl ⟨x, e, rfl, rfl⟩)
    · rw [e] at e1; cases e1
  · obtain ⟨e1, e2⟩ := hq
    subst e2
    rcases hres with ⟨x, e⟩ | ⟨E9, e, hE⟩
    · rw [e] at e1; cases e1
    · rw [e] at e1; cases e1
      simp only [List.mem_cons, List.not_mem_nil, or_false] at hE
      rcases hE with rfl | rfl
      · refine k_catch_n (name := "java/lang/IllegalArgumentException") (hp := 8) okB_L_usedAfter [] ⟨0, 9, 12, 19⟩ [⟨0, 9, 15, 13⟩] rfl (fun z hz => absurd hz List.not_mem_nil) rfl (by decide) (q_gw_in (k := 5) (i := 11) (by decide +kernel) rfl) (q_gw_in2 (k := 5) (i := 18) (by decide +kernel)) (Nat.le_of_ble_eq_true rfl) (q_catc ⟨Or.inr rfl, rfl⟩) rfl ?_
        refine k_go 1 (c' := (10, [some (.ref 400), some (.int x1), some (.ref 528), none], [.int 1], q_hp (q_XL L) I' E')) okB_L_usedAfter rfl ?_
        exact k_o_iret okB_L_usedAfter rfl rfl rfl (by omega) (by omega) (Or.inr ⟨_, 0, e, rfl, rfl, rfl⟩)
      · refine k_catch_n (name := "java/lang/IllegalStateException") (hp := 11) okB_L_usedAfter [⟨0, 9, 12, 19⟩] ⟨0, 9, 15, 13⟩ [] rfl (fun z hz => by
          simp only [List.mem_cons, List.not_mem_nil, or_false] at hz
          rcases hz with rfl
          · exact ⟨by decide, "java/lang/IllegalArgumentException", q_gw_in (k := 5) (i := 11) (by decide +kernel) rfl, by decide⟩) rfl (by decide) (q_gw_in (k := 4) (i := 172) (by decide +kernel) rfl) (q_gw_in2 (k := 4) (i := 179) (by decide +kernel)) (Nat.le_of_ble_eq_true rfl) (q_catc ⟨Or.inr rfl, rfl⟩) rfl ?_
        refine k_go 1 (c' := (13, [some (.ref 400), some (.int x1), some (.ref 528), none], [.int 2], q_hp (q_XL L) I' E')) okB_L_usedAfter rfl ?_
        exact k_o_iret okB_L_usedAfter rfl rfl rfl (by omega) (by omega) (Or.inr ⟨_, 1, e, rfl, rfl, rfl⟩)
