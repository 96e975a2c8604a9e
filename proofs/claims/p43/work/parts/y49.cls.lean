/-! THE CLASS'S OBJECTS AND THE LAW'S, in one heap -/
abbrev q_e0 : Nat → q_Sh := fun _ => (9, 0, 0)
abbrev q_r0 : Nat → Nat → Option Nat := fun _ _ => none
/-- the class's shapes and references at rest -/
def z_Cls (h : q_H) : Prop := 492 ≤ q_nx h ∧ ∀ a, a < 492 → q_sh h a = q_shX 1 1 1 q_e0 a ∧ ∀ j, q_R h a j = q_R0 a j
def z_Sep (h : q_H) : Prop := ∀ a j b, 492 ≤ a → q_R h a j = some b → b < 400 ∨ 492 ≤ b
def q_olt : Option Nat → Bool
  | some b => Nat.blt b 492
  | none => true
theorem q_rr_lt : ∀ {l : List (Option Nat)} {j b : Nat}, l.all q_olt = true → q_rr l j = some b → b < 492
  | [], _, _, _, h => by cases h
  | x :: t, 0, b, hl, h => by
    rw [List.all_cons, Bool.and_eq_true] at hl
    have h : x = some b := h
    rw [h] at hl
    exact Nat.blt_eq.mp hl.1
  | x :: t, j + 1, b, hl, h => by
    rw [List.all_cons, Bool.and_eq_true] at hl
    exact q_rr_lt (l := t) (j := j) hl.2 h
theorem q_RC_lt {a j b : Nat} (h : q_RC a j = some b) : b < 492 := by
  unfold q_RC at h
  simp only [cond_eq_ite] at h
  repeat' split at h
  all_goals first
    | exact q_rr_lt (by decide) h
    | cases h
theorem q_R0_lt {a j b : Nat} (h : q_R0 a j = some b) : b < 492 := by
  unfold q_R0 q_RX at h
  cases hb : Nat.blt a 492 with
  | true => rw [hb, cond_true] at h; exact q_RC_lt h
  | false => rw [hb, cond_false] at h; cases h
/-- some rows of the class have changed -/
def q_jI (h : q_H) (l : List (Nat × (Nat → Int32))) : q_H := (q_nx h, q_sh h, q_ws (q_I h) l, q_R h, q_E h, q_L h)
def q_l492 (l : List (Nat × (Nat → Int32))) : Bool := l.all fun q => Nat.blt q.1 492
theorem q_ws_hi {I : Nat → Nat → Int32} {a : Nat} (ha : 492 ≤ a) : ∀ {l : List (Nat × (Nat → Int32))}, q_l492 l = true → q_ws I l a = I a
  | [], _ => rfl
  | q :: t, h => by
    unfold q_l492 at h
    rw [List.all_cons, Bool.and_eq_true] at h
    have h1 := Nat.blt_eq.mp h.1
    show q_ur (q_ws I t) q.1 q.2 a = I a
    rw [q_ur_n _ _ _ (by omega)]
    exact q_ws_hi ha (l := t) h.2
abbrev q_XR (L : Nat → Nat → Int64) : q_Am := (1, 1, 1, 499, 492, q_e0, q_r0, L)
section ZCLS
variable {g : q_G} {M : q_M} {d mc ms : Nat} {h h' : q_H} {mv : List Nat} {As : List Value} {l : List (Nat × (Nat → Int32))} {o : Option Value ⊕ String}
theorem z_cut (hC : z_Cls h) : q_cut h 492 = q_hp (q_XR (q_L h)) (q_I h) (q_E h) := by
  obtain ⟨h1, h2⟩ := hC
  have e1 : (fun a => if a < 492 then q_sh h a else (9, 0, 0)) = q_aS (q_XR (q_L h)) := by
    funext a
    by_cases ha : a < 492
    · rw [if_pos ha]; exact (h2 a ha).1
    · rw [if_neg ha]
      show _ = q_shX 1 1 1 q_e0 a
      unfold q_shX
      rw [q_beqN (by omega), cond_false, q_beqN (by omega), cond_false, show Nat.blt a 492 = false from Bool.eq_false_iff.mpr (fun hb => ha (Nat.blt_eq.mp hb)), cond_false]
  have e2 : (fun a j => if a < 492 then q_R h a j else none) = q_aR (q_XR (q_L h)) := by
    funext a j
    by_cases ha : a < 492
    · rw [if_pos ha]; exact (h2 a ha).2 j
    · rw [if_neg ha]
      show _ = q_RX 499 q_r0 a j
      unfold q_RX
      rw [show Nat.blt a 492 = false from Bool.eq_false_iff.mpr (fun hb => ha (Nat.blt_eq.mp hb)), cond_false]
  show (492, (fun a => if a < 492 then q_sh h a else (9, 0, 0)), q_I h, (fun a j => if a < 492 then q_R h a j else none), q_E h, q_L h) = _
  rw [e1, e2]
theorem z_join (hC : z_Cls h) (hl : q_l492 l = true) : q_join 492 492 h (q_hp (q_XR (q_L h)) (q_ws (q_I h) l) (q_ws (q_E h) [])) = q_jI h l := by
  obtain ⟨h1, h2⟩ := hC
  have e0 : 492 + (q_nx h - 492) = q_nx h := by omega
  have ea : ∀ a, ¬ a < 492 → a - 492 + 492 = a := fun a ha => by omega
  have e1 : (fun a => if a < 492 then q_aS (q_XR (q_L h)) a else q_sh h (a - 492 + 492)) = q_sh h := by
    funext a
    by_cases ha : a < 492
    · rw [if_pos ha]; exact (h2 a ha).1.symm
    · rw [if_neg ha, ea a ha]
  have e2 : (fun a => if a < 492 then q_ws (q_I h) l a else q_I h (a - 492 + 492)) = q_ws (q_I h) l := by
    funext a
    by_cases ha : a < 492
    · rw [if_pos ha]
    · rw [if_neg ha, ea a ha, q_ws_hi (by omega) hl]
  have e3 : (fun a => if a < 492 then q_aR (q_XR (q_L h)) a else (fun j => (q_R h (a - 492 + 492) j).map (q_sft 492 492))) = q_R h := by
    funext a
    by_cases ha : a < 492
    · rw [if_pos ha]
      funext j
      exact ((h2 a ha).2 j).symm
    · rw [if_neg ha, ea a ha]
      funext j
      cases q_R h a j with
      | none => rfl
      | some b =>
        show some (q_sft 492 492 b) = some b
        unfold q_sft
        split
        · rfl
        · next hn => exact congrArg some (Nat.sub_add_cancel (Nat.le_of_not_lt hn))
  have e4 : (fun a => if a < 492 then q_E h a else q_E h (a - 492 + 492)) = q_E h := by
    funext a
    by_cases ha : a < 492
    · rw [if_pos ha]
    · rw [if_neg ha, ea a ha]
  have e5 : (fun a => if a < 492 then q_L h a else q_L h (a - 492 + 492)) = q_L h := by
    funext a
    by_cases ha : a < 492
    · rw [if_pos ha]
    · rw [if_neg ha, ea a ha]
  show (492 + (q_nx h - 492), (fun a => if a < 492 then q_aS (q_XR (q_L h)) a else q_sh h (a - 492 + 492)), (fun a => if a < 492 then q_ws (q_I h) l a else q_I h (a - 492 + 492)), (fun a => if a < 492 then q_aR (q_XR (q_L h)) a else (fun j => (q_R h (a - 492 + 492) j).map (q_sft 492 492))), (fun a => if a < 492 then q_E h a else q_E h (a - 492 + 492)), (fun a => if a < 492 then q_L h a else q_L h (a - 492 + 492))) = q_jI h l
  rw [e0, e1, e2, e3, e4, e5]
  rfl
/-- a method of the class, called by the law -/
theorem z_call (hC : z_Cls h) (hS : z_Sep h) (hl : q_l492 l = true) (hAs : ∀ b, Value.ref b ∈ As → b < 492) (hmv : ∀ x ∈ mv, 400 ≤ x) (hCt : q_Ct g M d mc ms mv As (q_hp (q_XR (q_L h)) (q_I h) (q_E h)) (fun o' h' => o' = o ∧ h' = q_hp (q_XR (q_L h)) (q_ws (q_I h) l) (q_ws (q_E h) []))) :
    q_Ct g M d mc ms mv As h (fun o' h' => o' = o ∧ h' = q_jI h l) := by
  rw [← z_cut hC] at hCt
  refine q_Ct_mono (q_frame (B := 492) (B' := 492) (mv2 := mv) (by omega) hC.1 (fun a j b ha hb => q_R0_lt (((hC.2 a ha).2 j).symm.trans hb)) hAs (fun a j b ha hb hlt hm => ?_) (fun a _ ham => ⟨ham, fun _ => rfl⟩) (fun o' h1 hQ => by rw [hQ.2]) hCt) (fun o' h2 hq => ?_)
  · rcases hS a j b ha hb with h3 | h3
    · have := hmv b hm; omega
    · omega
  · obtain ⟨h1, ⟨q1, q2⟩, q3⟩ := hq
    refine ⟨q1, ?_⟩
    rw [q3, q2]
    exact z_join hC hl
theorem z_Cls_jI (hC : z_Cls h) : z_Cls (q_jI h l) := hC
theorem z_Sep_jI (hS : z_Sep h) : z_Sep (q_jI h l) := hS
theorem q_shX_no {a : Nat} (ha : a < 492) : q_shX 1 1 1 q_e0 a ≠ (0, 12, 0) ∧ q_shX 1 1 1 q_e0 a ≠ (0, 11, 0) ∧ ((q_shX 1 1 1 q_e0 a).1 = 3 → (q_shX 1 1 1 q_e0 a).2.1 ≠ 6) := by
  have hk : ((List.range 492).all fun a => decide (q_shX 1 1 1 q_e0 a ≠ (0, 12, 0)) && decide (q_shX 1 1 1 q_e0 a ≠ (0, 11, 0)) && (decide ((q_shX 1 1 1 q_e0 a).1 ≠ 3) || decide ((q_shX 1 1 1 q_e0 a).2.1 ≠ 6))) = true := by decide +kernel
  rw [List.all_eq_true] at hk
  have h1 := hk a (List.mem_range.mpr ha)
  simp only [Bool.and_eq_true, Bool.or_eq_true, decide_eq_true_eq] at h1
  exact ⟨h1.1.1, h1.1.2, fun e => h1.2.resolve_left (fun n => n e)⟩
theorem z_Cls_fr (hC : z_Cls h) (e : z_fr h h') : z_Cls h' := by
  refine ⟨Nat.le_trans hC.1 e.1, fun a ha => ?_⟩
  obtain ⟨c1, c2⟩ := hC.2 a ha
  obtain ⟨d1, -, -, -, d5, -⟩ := e.2 a (Nat.lt_of_lt_of_le ha hC.1)
  obtain ⟨n1, n2, n3⟩ := q_shX_no ha
  rw [← c1] at n1 n3
  exact ⟨d1.trans c1, fun j => by rw [d5 n1 n3]; exact c2 j⟩
/-- the class's rows stay as they are -/
theorem z_I_fr (hC : z_Cls h) (e : z_fr h h') {a : Nat} (ha : a < 492) : q_I h' a = q_I h a ∧ q_E h' a = q_E h a := by
  obtain ⟨c1, c2⟩ := hC.2 a ha
  obtain ⟨d1, d2, -, d4, -⟩ := e.2 a (Nat.lt_of_lt_of_le ha hC.1)
  obtain ⟨n1, n2, n3⟩ := q_shX_no ha
  rw [← c1] at n1 n2
  exact ⟨d4 n1 n2, d2.1⟩
theorem z_Sep_fr (hC : z_Cls h) (hS : z_Sep h) (e : z_fr h h') : z_Sep h' := fun a j b ha hb => by
  have h3 := (e.2 0 (by have := hC.1; omega)).2.1.2
  rcases h3 a j b hb with h | h | h
  · exact hS a j b ha h
  · exact h
  · exact Or.inr (Nat.le_trans hC.1 h)
/-- what is said of the law's own objects stays said -/
theorem z_RB_jI {H m hf s : Nat} {pn : m_Rr} {X : m_CB} (hl : q_l492 l = true) (hX : z_RB H m hf pn h s X) : z_RB H m hf pn (q_jI h l) s X := by
  obtain ⟨hL, Y, ν, hl0, ll, hkL, hR, hB⟩ := hX
  refine ⟨hL, Y, ν, hl0, ll, hkL, hR, ?_⟩
  obtain ⟨b1, b2, b3⟩ := hB
  have es : q_I (q_jI h l) s = q_I h s := q_ws_hi b1.1.1.1 hl
  have eb : ∀ x ∈ hl0 ++ ll, q_I (q_jI h l) x = q_I h x := fun x hx => q_ws_hi (b1.2.1 x hx).1.1.1 hl
  refine ⟨?_, ?_, ?_⟩
  · obtain ⟨o1, o2, o3, o4, o5, o6, o7, o8, o9⟩ := b1
    refine ⟨o1, o2, o3, o4, o5, ⟨(congrFun es 4).trans o6.1, o6.2⟩, fun x hx => ?_, fun x hx => ?_, o9⟩
    · rw [eb x (List.mem_append_right _ hx)]; exact o7 x hx
    · rw [eb x hx]; exact o8 x hx
  · rw [es]
    exact z_YR_cg b2 (fun b hb h0 j _ => by rw [eb _ (z_YR_mem b2 hR.2.2.1 hR.2.2.2.1.2.1 hb h0)]) (fun b hb h0 => rfl)
  · rw [es]; exact b3
theorem z_Rows_jI {s ns : Nat} {W : Nat → Nat → Int32} (hl : q_l492 l = true) (hS : z_Rows h s ns W) : z_Rows (q_jI h l) s ns W := by
  obtain ⟨b, b1, b2, b4, b5⟩ := hS
  refine ⟨b, b1, b2, b4, fun k hk => ?_⟩
  obtain ⟨v, v1, v2, v3⟩ := b5 k hk
  exact ⟨v, v1, v2, fun j hj => (congrFun (q_ws_hi v2.1.1 hl) j).trans (v3 j hj)⟩
end ZCLS
