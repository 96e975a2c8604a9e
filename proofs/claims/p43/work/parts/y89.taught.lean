/-! THE TEXT TAUGHT: taught walked -/
/-- the class's rows are others -/
def z_jm (h : q_H) (I' : Nat → Nat → Int32) (E' : Nat → Nat → Option Nat) (L' : Nat → Nat → Int64) : q_H := (q_nx h, q_sh h, fun a => if a < 492 then I' a else q_I h a, q_R h, fun a => if a < 492 then E' a else q_E h a, fun a => if a < 492 then L' a else q_L h a)
section TAUGHT
variable {g : q_G} {M : q_M} {d mc ms : Nat} {h h1 h' : q_H} {mv : List Nat} {As : List Value} {a k n p w z : Nat} {l : List Int32}
theorem z_join2 (hC : z_Cls h) {I' : Nat → Nat → Int32} {E' : Nat → Nat → Option Nat} {L' : Nat → Nat → Int64} : q_join 492 492 h (q_hp (q_XR L') I' E') = z_jm h I' E' L' := by
  obtain ⟨h1, h2⟩ := hC
  have e0 : 492 + (q_nx h - 492) = q_nx h := by omega
  have ea : ∀ a, ¬ a < 492 → a - 492 + 492 = a := fun a ha => by omega
  have e1 : (fun a => if a < 492 then q_aS (q_XR L') a else q_sh h (a - 492 + 492)) = q_sh h := by
    funext a
    by_cases ha : a < 492
    · rw [if_pos ha]; exact (h2 a ha).1.symm
    · rw [if_neg ha, ea a ha]
  have e2 : (fun a => if a < 492 then I' a else q_I h (a - 492 + 492)) = (fun a => if a < 492 then I' a else q_I h a) := by
    funext a
    by_cases ha : a < 492
    · rw [if_pos ha, if_pos ha]
    · rw [if_neg ha, if_neg ha, ea a ha]
  have e3 : (fun a => if a < 492 then q_aR (q_XR L') a else (fun j => (q_R h (a - 492 + 492) j).map (q_sft 492 492))) = q_R h := by
    funext a
    by_cases ha : a < 492
    · rw [if_pos ha]
      funext j
      exact ((h2 a ha).2 j).symm
    · rw [if_neg ha, ea a ha]
      funext j
      cases q_R h a j with
      | none => rfl
      | some b =>
        show some (q_sft 492 492 b) = some b
        unfold q_sft
        split
        · rfl
        · next hn => exact congrArg some (Nat.sub_add_cancel (Nat.le_of_not_lt hn))
  have e4 : (fun a => if a < 492 then E' a else q_E h (a - 492 + 492)) = (fun a => if a < 492 then E' a else q_E h a) := by
    funext a
    by_cases ha : a < 492
    · rw [if_pos ha, if_pos ha]
    · rw [if_neg ha, if_neg ha, ea a ha]
  have e5 : (fun a => if a < 492 then L' a else q_L h (a - 492 + 492)) = (fun a => if a < 492 then L' a else q_L h a) := by
    funext a
    by_cases ha : a < 492
    · rw [if_pos ha, if_pos ha]
    · rw [if_neg ha, if_neg ha, ea a ha]
  show (492 + (q_nx h - 492), (fun a => if a < 492 then q_aS (q_XR L') a else q_sh h (a - 492 + 492)), (fun a => if a < 492 then I' a else q_I h (a - 492 + 492)), (fun a => if a < 492 then q_aR (q_XR L') a else (fun j => (q_R h (a - 492 + 492) j).map (q_sft 492 492))), (fun a => if a < 492 then E' a else q_E h (a - 492 + 492)), (fun a => if a < 492 then L' a else q_L h (a - 492 + 492))) = z_jm h I' E' L'
  rw [e0, e1, e2, e3, e4, e5]
  rfl
/-- a method of the class that moves its plans, called by the law -/
theorem z_callT {P : (Option Value ⊕ String) → Prop} {R : (Nat → Nat → Int32) → (Nat → Nat → Option Nat) → Prop} (hC : z_Cls h) (hS : z_Sep h) (hAs : ∀ b, Value.ref b ∈ As → b < 492) (hmv : ∀ x ∈ mv, 400 ≤ x)
    (hCt : q_Ct g M d mc ms mv As (q_hp (q_XR (q_L h)) (q_I h) (q_E h)) (fun o' h' => P o' ∧ ∃ I' E' L', h' = q_hp (q_XR L') I' E' ∧ R I' E')) :
    q_Ct g M d mc ms mv As h (fun o' h' => P o' ∧ ∃ I' E' L', R I' E' ∧ h' = z_jm h I' E' L') := by
  rw [← z_cut hC] at hCt
  refine q_Ct_mono (q_frame (B := 492) (B' := 492) (mv2 := mv) (by omega) hC.1 (fun a j b ha hb => q_R0_lt (((hC.2 a ha).2 j).symm.trans hb)) hAs (fun a j b ha hb hlt hm => ?_) (fun a _ ham => ⟨ham, fun _ => rfl⟩) (fun o' h1 hQ => by obtain ⟨-, I', E', L', e, -⟩ := hQ; rw [e]) hCt) (fun o' h2 hq => ?_)
  · rcases hS a j b ha hb with h3 | h3
    · have := hmv b hm; omega
    · omega
  · obtain ⟨h1, ⟨q1, I', E', L', q2, q4⟩, q3⟩ := hq
    refine ⟨q1, I', E', L', q4, ?_⟩
    rw [q3, q2]
    exact z_join2 hC
theorem q_asb {As : List Value} (h : (As.all fun v => match v with | .ref b => Nat.blt b 492 | _ => true) = true) : ∀ b, Value.ref b ∈ As → b < 492 := fun b hb => Nat.blt_eq.mp (List.all_eq_true.mp h _ hb)
theorem ta_as : ∀ x ∈ q_mvC, 400 ≤ x := fun x hx => by
  have := List.mem_range'_1.mp hx
  omega
/-- only the class's numbers, its tape and the row w have changed -/
def ta_D (h h1 : q_H) (w : Nat) : Prop := q_nx h1 = q_nx h ∧ q_sh h1 = q_sh h ∧ q_R h1 = q_R h ∧ q_E h1 = q_E h ∧ q_L h1 = q_L h ∧ ∀ a, a ≠ 400 → a ≠ 401 → a ≠ w → q_I h1 a = q_I h a
def ta_A (h : q_H) (a : Nat) (l : List Int32) : Prop := z_Cls h ∧ z_Sep h ∧ 492 ≤ a ∧ tx_S h a l ∧ tx_as l ∧ l.length ≤ 1400
theorem ta_D_rfl : ta_D h h w := ⟨rfl, rfl, rfl, rfl, rfl, fun _ _ _ _ => rfl⟩
theorem ta_D_jI {f f2 : Nat → Int32} (e : ta_D h h1 w) : ta_D h (q_jI h1 [(400, f), (401, f2)]) w := by
  obtain ⟨e1, e2, e3, e4, e5, e6⟩ := e
  refine ⟨e1, e2, e3, e4, e5, fun a h0 h2 h3 => ?_⟩
  show q_ur (q_ur (q_I h1) 401 f2) 400 f a = _
  rw [q_ur_n _ _ _ h0, q_ur_n _ _ _ h2]
  exact e6 a h0 h2 h3
theorem ta_D_j1 {f : Nat → Int32} (e : ta_D h h1 w) : ta_D h (q_jI h1 [(400, f)]) w := by
  obtain ⟨e1, e2, e3, e4, e5, e6⟩ := e
  refine ⟨e1, e2, e3, e4, e5, fun a h0 h2 h3 => ?_⟩
  show q_ur (q_I h1) 400 f a = _
  rw [q_ur_n _ _ _ h0]
  exact e6 a h0 h2 h3
theorem ta_D_pI {j : Nat} {x : Int32} (e : ta_D h h1 w) : ta_D h (q_pI h1 w j x) w := by
  obtain ⟨e1, e2, e3, e4, e5, e6⟩ := e
  exact ⟨e1, e2, e3, e4, e5, fun a h0 h2 h3 => (z_I_a _ _ _ _ _ h3).trans (e6 a h0 h2 h3)⟩
theorem ta_obj (hA : ta_A h a l) : q_sh h a = (0, 13, 0) := by
  obtain ⟨-, -, a1, hS, -⟩ := hA
  rcases hS with ⟨⟨-, h3⟩, -⟩ | ⟨-, h3, -⟩
  · omega
  · exact h3
theorem ta_A_D (hA : ta_A h a l) (hs : q_sh h w = (1, 0, 5)) (e : ta_D h h1 w) : ta_A h1 a l := by
  obtain ⟨hC, hS, a1, hT, hl, hn⟩ := hA
  obtain ⟨e1, e2, e3, e4, e5, e6⟩ := e
  refine ⟨⟨by rw [e1]; exact hC.1, fun a ha => by rw [e2, e3]; exact hC.2 a ha⟩, fun a j b ha hb => hS a j b ha (by rw [← e3]; exact hb), a1, ?_, hl, hn⟩
  rcases hT with ⟨⟨-, h3⟩, -⟩ | ⟨⟨t1, t2⟩, t3, t4, v, v1, ⟨v2, v3⟩, v4, v5, v6⟩
  · omega
  · have hv : 492 ≤ v := by
      rcases hS a 0 v a1 v1 with h | h <;> omega
    have hav : a ≠ w := fun e => by rw [e, hs] at t3; cases t3
    have hvw : v ≠ w := fun e => by rw [e, hs] at v4; cases v4
    refine Or.inr ⟨⟨t1, by rw [e1]; exact t2⟩, by rw [e2]; exact t3, by rw [e6 a (by omega) (by omega) hav]; exact t4, v, by rw [e3]; exact v1, ⟨v2, by rw [e1]; exact v3⟩, by rw [e2]; exact v4, v5, fun j hj => by rw [e6 v (by omega) (by omega) hvw]; exact v6 j hj⟩
theorem ta_A_new (hA : ta_A h a l) : ta_A (q_new h (1, 0, 5)) a l := by
  obtain ⟨hC, hS, a1, hT, hl, hn⟩ := hA
  have e := z_fr_ext (z_ext_new h (1, 0, 5))
  exact ⟨z_Cls_fr hC e, z_Sep_fr hC hS e, a1, tx_S_ext (z_ext_new _ _) hT, hl, hn⟩
theorem ta_cF (hC : z_Cls h) (hS : z_Sep h) (hd : 7 ≤ d) (hd2 : d < 2048) {X : Nat → Int32} (h7 : q_I h 400 7 = nI z) (hz : z ≤ 1980) (hk : k + 1 ≤ mc) (hn : n + 6 ≤ ms) {C : Nat → Nat → Int32 → q_H → Prop}
    (hCc : ∀ f : Nat → Int32, f 7 = nI (z + 20) → (∀ j, j ≠ 7 → f j = q_I h 400 j) → C (k + 1) (n + 6) (nI (z + 20)) (q_jI h [(400, f), (401, m_ru (q_I h 401) (fun v => (m_yb X v).toInt8.toInt32.toInt8.toInt32) z 20)])) :
    q_cI g m_X12_feed [] d mc ms [.ref 400, .int (X 0), .int (X 1), .int (X 2), .int (X 3), .int (X 4)] h k n True C := by
  obtain ⟨f, f1, f2, f3⟩ := ta_feed (hb := q_I h 400) (tp := q_I h 401) (X := X) hz h7
  have hct := z_call (g := g) hC hS (l := [(400, f), (401, m_ru (q_I h 401) (fun v => (m_yb X v).toInt8.toInt32.toInt8.toInt32) z 20)]) rfl (As := [.ref 400, .int (X 0), .int (X 1), .int (X 2), .int (X 3), .int (X 4)]) (q_asb rfl) (fun x hx => absurd hx List.not_mem_nil) (ct_X12_feed_400 (d := d - 1) (L := q_L h) (I := q_I h) (E := q_E h) (by omega) f1)
  refine q_cI_of (fun x h' => x = nI (z + 20) ∧ h' = q_jI h [(400, f), (401, m_ru (q_I h 401) (fun v => (m_yb X v).toInt8.toInt32.toInt8.toInt32) z 20)]) (q_Ct_mono hct (fun o h' hq => ⟨_, hq.1, rfl, hq.2⟩)) (by omega) (q_lcle (by omega) (by omega)) hk hn trivial (fun x h' hp => ?_)
  rw [hp.1, hp.2]
  exact hCc f f2 f3
theorem ta_cR (hC : z_Cls h) (hS : z_Sep h) (hd : 7 ≤ d) (hd2 : d < 2048) {x : Nat} (h7 : q_I h 400 7 = nI z) (hx : x ≤ z) (hz : z < 2 ^ 31) (hk : k + 1 ≤ mc) (hn : n + 6 ≤ ms) {C : Nat → Nat → Int32 → q_H → Prop}
    (hCc : C (k + 1) (n + 6) (nI x) (q_jI h [(400, q_up (q_I h 400) 7 (nI x))])) :
    q_cI g m_X12_trim [] d mc ms [.ref 400, .int (nI x)] h k n True C := by
  have hct := z_call (g := g) hC hS (l := [(400, q_up (q_I h 400) 7 (nI x))]) rfl (As := [.ref 400, .int (nI x)]) (q_asb rfl) (fun x hx => absurd hx List.not_mem_nil) (ct_X12_trim_400 (d := d - 1) (L := q_L h) (I := q_I h) (E := q_E h) (by omega) (ta_trim hx hz h7))
  refine q_cI_of (fun y h' => y = nI x ∧ h' = q_jI h [(400, q_up (q_I h 400) 7 (nI x))]) (q_Ct_mono hct (fun o h' hq => ⟨_, hq.1, rfl, hq.2⟩)) (by omega) (q_lcle (by omega) (by omega)) hk hn trivial (fun y h' hp => ?_)
  rw [hp.1, hp.2]
  exact hCc
end TAUGHT
