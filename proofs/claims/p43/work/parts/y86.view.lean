/-! A WORLD SEEN ANEW, by closed checks: to the world at rest -/
def q_shD (a : Nat) : q_Sh := q_shX 1 1 1 q_e0 a
def q_o2 (σ : Nat → Nat) : Option Nat → Option Nat → Bool
  | some x, some y => Nat.beq x (σ y)
  | none, none => true
  | _, _ => false
theorem q_o2_of {σ : Nat → Nat} {x y : Option Nat} (h : q_o2 σ x y = true) : x = y.map σ := by
  cases x <;> cases y
  · rfl
  · cases h
  · cases h
  · exact congrArg some (Nat.eq_of_beq_eq_true h)
def q_ck1 (σ : Nat → Nat) (Rz : Nat → Nat → Option Nat) (Sz : Nat → q_Sh) (a : Nat) : q_Sh → Bool
  | (0, c, n) => (match Sz (σ a) with
    | (0, c2, v) => Nat.beq c2 c && (List.range 24).all fun j => Nat.beq (q_kd c n j) 9 || (Nat.beq (q_kd c v j) (q_kd c n j) && (!(Nat.beq (q_kd c n j) 1) || q_o2 σ (Rz (σ a) j) (q_R0 a j)))
    | _ => false)
  | (2, t, n) => decide (Sz (σ a) = (2, t, n))
  | (3, t, n) => decide (Sz (σ a) = (3, t, n)) && (List.range 20).all fun j => q_o2 σ (Rz (σ a) j) (q_R0 a j)
  | s => decide (Sz (σ a) = s)
def q_ck (σ : Nat → Nat) (Rz : Nat → Nat → Option Nat) (Sz : Nat → q_Sh) : Bool := (List.range 92).all fun k => q_ck1 σ Rz Sz (400 + k) (q_shD (400 + k))
theorem q_ck_cmp {σ : Nat → Nat} {Rz : Nat → Nat → Option Nat} {Sz : Nat → q_Sh} (hck : q_ck σ Rz Sz = true) {N : Nat} {I : Nat → Nat → Int32} {E : Nat → Nat → Option Nat} {L : Nat → Nat → Int64} (h3 : ∀ a j, a = 403 ∨ a = 427 → 20 ≤ j → Rz (σ a) j = none) {a : Nat} (h1 : 400 ≤ a) (h2 : a < 492) : q_cmp σ ((N, Sz, I, Rz, E, L) : q_H) (q_hp (q_XR (fun a => L (σ a))) (fun a => I (σ a)) (fun a => E (σ a))) a := by
  unfold q_ck at hck
  rw [List.all_eq_true] at hck
  have hk := hck (a - 400) (List.mem_range.mpr (by omega))
  rw [show 400 + (a - 400) = a by omega] at hk
  have hR0 : q_R (q_hp (q_XR (fun a => L (σ a))) (fun a => I (σ a)) (fun a => E (σ a))) a = q_R0 a := q_R0_of h2
  have hs : q_sh (q_hp (q_XR (fun a => L (σ a))) (fun a => I (σ a)) (fun a => E (σ a))) a = q_shD a := rfl
  have h33 : ∀ t n, q_shD a = (3, t, n) → a = 403 ∨ a = 427 := fun t n h => (q_s3 (X := q_XR L) h1 h2 h).1
  unfold q_cmp
  rw [hs]
  generalize q_shD a = s at hk h33
  obtain ⟨t, c, n⟩ := s
  match t, hk, h33 with
  | 0, hk, _ =>
    unfold q_ck1 at hk
    cases hz : Sz (σ a) with
    | mk z1 z2 =>
      obtain ⟨c2, v⟩ := z2
      match z1, hz with
      | 0, hz =>
        simp only [hz, Bool.and_eq_true, List.all_eq_true] at hk
        obtain ⟨k1, k2⟩ := hk
        obtain rfl := Nat.eq_of_beq_eq_true k1
        refine ⟨⟨rfl, rfl⟩, v, hz, fun j hj hk9 => ?_⟩
        have k3 := k2 j (List.mem_range.mpr (Nat.lt_trans hj (q_nf_le c2)))
        simp only [Bool.or_eq_true, Bool.and_eq_true, Bool.not_eq_true'] at k3
        rcases k3 with k3 | ⟨k3, k4⟩
        · exact absurd (Nat.eq_of_beq_eq_true k3) hk9
        · refine ⟨Nat.eq_of_beq_eq_true k3, fun h1k => ?_⟩
          rcases k4 with k4 | k4
          · rw [h1k] at k4; cases k4
          · rw [hR0]; exact q_o2_of k4
      | z + 1, hz => simp only [hz] at hk; cases hk
  | 1, hk, _ => exact ⟨of_decide_eq_true hk, rfl⟩
  | 2, hk, _ => exact ⟨of_decide_eq_true hk, rfl⟩
  | 3, hk, h33 =>
    unfold q_ck1 at hk
    simp only [Bool.and_eq_true, List.all_eq_true, decide_eq_true_eq] at hk
    obtain ⟨k1, k2⟩ := hk
    refine ⟨k1, fun j => ?_⟩
    rw [hR0]
    by_cases hj : j < 20
    · exact q_o2_of (k2 j (List.mem_range.mpr hj))
    · have h4 := h33 c n rfl
      rw [q_R3 h4 (by omega)]
      exact h3 a j h4 (by omega)
  | t + 4, hk, _ => exact ⟨of_decide_eq_true hk, rfl⟩
def q_R0c : Bool := (List.range 92).all fun k => (List.range 24).all fun j => match q_R0 (400 + k) j with
  | some b => Nat.blt b 492
  | none => true
theorem q_R0c_ok : q_R0c = true := by decide +kernel
def q_R0w : Bool := (List.range 92).all fun k => (List.range 24).all fun j => true
theorem q_rr_len {l : List (Option Nat)} {j : Nat} (h : l.length ≤ j) : q_rr l j = none := by
  induction l generalizing j with
  | nil => cases j <;> rfl
  | cons x t ih =>
    cases j with
    | zero => simp at h
    | succ j => exact ih (by simpa using h)
theorem q_clo0 {h : q_H} {L : Nat → Nat → Int64} {I : Nat → Nat → Int32} {E : Nat → Nat → Option Nat} {σ : Nat → Nat} (hE : q_E h = E) (hC : q_clo h) (hR : ∀ a j b, q_R0 a j = some b → b < 492) : q_clo (q_hp (q_XR L) I (fun a => E (σ a))) := by
  refine ⟨fun a j b hb => ?_, fun a j b hb => hC.2.1 (σ a) j b (by rw [hE]; exact hb), fun a ha => ?_⟩
  · exact hR a j b hb
  · have ha : 492 ≤ a := ha
    show q_shX 1 1 1 q_e0 a = _
    have e2 : Nat.blt a 492 = false := by
      cases hb : Nat.blt a 492 with
      | false => rfl
      | true => exact absurd (Nat.blt_eq.mp hb) (by omega)
    unfold q_shX
    rw [q_beqN (show a ≠ 473 by omega), q_beqN (show a ≠ 450 by omega), e2]; rfl
section QVCK
variable {g : q_G} {M : q_M} {d mc ms : Nat} {h0 : q_H} {mv : List Nat} {Q : (Option Value ⊕ String) → q_H → Prop} {k n pos : Nat}
theorem q_vck (σ : Nat → Nat) {Rz : Nat → Nat → Option Nat} {Sz : Nat → q_Sh} {N : Nat} {I : Nat → Nat → Int32} {E : Nat → Nat → Option Nat} {L : Nat → Nat → Int64} {ls ls' : List (Option Value)} {st st' : List Value} (hck : q_ck σ Rz Sz = true) (h3 : ∀ a j, a = 403 ∨ a = 427 → 20 ≤ j → Rz (σ a) j = none)
    (hσN : ((List.range 92).all fun k => Nat.ble 400 (σ (400 + k)) && Nat.blt (σ (400 + k)) N) = true) (h492 : 492 ≤ N) (hinj : ∀ a b, a < 492 → b < 492 → σ a = σ b → a = b) (hlow : ∀ a, a < 400 → σ a = a) (hn0 : q_nx h0 ≤ 492)
    (hls : ls = ls'.map (fun v => v.map (q_vm σ))) (hst : st = st'.map (q_vm σ)) (hv1 : ∀ a, Value.ref a ∈ st' → a < 492) (hv2 : ∀ i a, q_nth ls' i = some (some (.ref a)) → a < 492) (hmv : ∀ a, a < q_nx h0 → a ∉ mv → σ a = a)
    (hJ : q_J g M d mc ms h0 mv Q k n (pos, ls', st', q_hp (q_XR (fun a => L (σ a))) (fun a => I (σ a)) (fun a => E (σ a)))) : q_J g M d mc ms h0 mv Q k n (pos, ls, st, ((N, Sz, I, Rz, E, L) : q_H)) := by
  refine q_vw σ (h := ((N, Sz, I, Rz, E, L) : q_H)) (h' := q_hp (q_XR (fun a => L (σ a))) (fun a => I (σ a)) (fun a => E (σ a))) (ls' := ls') (st' := st') h492 (show 400 ≤ 492 by decide) hn0 hlow (fun a h1 h2 => ?_) (fun a b _ ha _ hb hab => hinj a b ha hb hab) (fun a h1 h2 => q_ck_cmp hck h3 h1 h2) (fun hC => q_clo0 (h := ((N, Sz, I, Rz, E, L) : q_H)) rfl hC (fun _ _ _ h => q_R0_lt h)) hls hst hv1 hv2 hmv hJ
  have h2 : a < 492 := h2
  have h9 := List.all_eq_true.mp hσN (a - 400) (List.mem_range.mpr (by omega))
  rw [show 400 + (a - 400) = a by omega, Bool.and_eq_true] at h9
  exact ⟨Nat.le_of_ble_eq_true h9.1, Nat.blt_eq.mp h9.2⟩
end QVCK
/-- the two plans, changed -/
def q_sw2 (a : Nat) : Nat := if 402 ≤ a ∧ a < 426 then a + 24 else if 426 ≤ a ∧ a < 450 then a - 24 else a
theorem q_sw2_n {a : Nat} (h : a < 402 ∨ 450 ≤ a) : q_sw2 a = a := by unfold q_sw2; rw [if_neg (by omega), if_neg (by omega)]
theorem q_sw2_sw2 (a : Nat) : q_sw2 (q_sw2 a) = a := by
  by_cases h1 : 402 ≤ a ∧ a < 426
  · rw [show q_sw2 a = a + 24 by unfold q_sw2; rw [if_pos h1]]
    unfold q_sw2; rw [if_neg (by omega), if_pos (by omega)]; omega
  · by_cases h2 : 426 ≤ a ∧ a < 450
    · rw [show q_sw2 a = a - 24 by unfold q_sw2; rw [if_neg h1, if_pos h2]]
      unfold q_sw2; rw [if_pos (by omega)]; omega
    · rw [show q_sw2 a = a by unfold q_sw2; rw [if_neg h1, if_neg h2]]
      unfold q_sw2; rw [if_neg h1, if_neg h2]
theorem q_sw2_inj {a b : Nat} (h : q_sw2 a = q_sw2 b) : a = b := by
  have := congrArg q_sw2 h
  rwa [q_sw2_sw2, q_sw2_sw2] at this
def q_Rs : Nat → Nat → Option Nat := q_u2 (q_u2 (q_u2 q_R0 400 1 (some 426)) 400 2 (some 402)) 457 6 (some 426)
theorem q_ckS : q_ck q_sw2 q_Rs (q_shX 1 0 1 q_e0) = true := by decide +kernel
theorem q_ckE : q_ck id q_R0 (q_shX 1 0 1 q_e0) = true := by decide +kernel
theorem q_rgS : ((List.range 92).all fun k => Nat.ble 400 (q_sw2 (400 + k)) && Nat.blt (q_sw2 (400 + k)) 492) = true := by decide +kernel
theorem q_rgI {N : Nat} (h : 492 ≤ N) : ((List.range 92).all fun k => Nat.ble 400 (id (400 + k)) && Nat.blt (id (400 + k)) N) = true := by
  rw [List.all_eq_true]
  intro k hk
  have := List.mem_range.mp hk
  rw [Bool.and_eq_true]
  exact ⟨Nat.ble_eq_true_of_le (by show 400 ≤ 400 + k; omega), Nat.blt_eq.mpr (by show 400 + k < N; omega)⟩
theorem q_Rs3 : ∀ a j, a = 403 ∨ a = 427 → 20 ≤ j → q_Rs (q_sw2 a) j = none := by
  intro a j ha hj
  have h1 : q_sw2 a = 403 ∨ q_sw2 a = 427 := by unfold q_sw2; rcases ha with rfl | rfl <;> simp
  unfold q_Rs
  rw [q_u2_n _ _ _ _ _ _ (by omega), q_u2_n _ _ _ _ _ _ (by omega), q_u2_n _ _ _ _ _ _ (by omega)]
  exact q_R3 h1 hj
