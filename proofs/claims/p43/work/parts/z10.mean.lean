/-! THE CLASS'S meanSize -/
section
variable {g : q_G} {M : q_M} {d mc ms : Nat} {h0 : q_H} {mv : List Nat} {Q : (Option Value ⊕ String) → q_H → Prop} {k n pos pc ln a1 a2 w1 w2 : Nat} {ls : List (Option Value)} {st r : List Value} {h : q_H}
theorem q_o_i2d {x : Int32} (hok : q_okM M = true) (he : q_nth M.2.2.2.2.1 pos = some (pc, .i2d, ln, a1, a2, w1, w2))
    (hJ : q_J g M d mc ms h0 mv Q k n (pos + 1, ls, (.double (FP.i2d x) :: r), h)) : q_J g M d mc ms h0 mv Q k n (pos, ls, (.int x :: r), h) := by
  obtain rfl : ln = 1 := (q_at hok he).2.2.1 (Nat.succ_ne_zero _)
  exact q_stk (st' := (.double (FP.i2d x) :: r)) hok he rfl (fun p e R s m args below meth cd H locs cells slots Qz rls ρ hx hb hd hown hts hl kk => lv_i2d hx hb hd kk) (fun h1 h2 => q_cl1 q_vcl_d (q_tl h1)) hJ
theorem q_o_dconst0 (hok : q_okM M = true) (he : q_nth M.2.2.2.2.1 pos = some (pc, .dconst 0, ln, a1, a2, w1, w2))
    (hJ : q_J g M d mc ms h0 mv Q k n (pos + 1, ls, (.double FP.dconst0 :: r), h)) : q_J g M d mc ms h0 mv Q k n (pos, ls, r, h) := by
  obtain rfl : ln = 1 := (q_at hok he).2.2.1 (Nat.succ_ne_zero _)
  exact q_stk (st' := (.double FP.dconst0 :: r)) hok he rfl (fun p e R s m args below meth cd H locs cells slots Qz rls ρ hx hb hd hown hts hl kk => lv_dconst0 hx hb hd kk) (fun h1 h2 => q_cl1 q_vcl_d h1) hJ
theorem q_o_ddiv {x y : UInt64} (hok : q_okM M = true) (he : q_nth M.2.2.2.2.1 pos = some (pc, .ddiv, ln, a1, a2, w1, w2)) (hne : vf_n64 (FP.ddiv x y))
    (hJ : q_J g M d mc ms h0 mv Q k n (pos + 1, ls, (.double (FP.ddiv x y) :: r), h)) : q_J g M d mc ms h0 mv Q k n (pos, ls, (.double y :: .double x :: r), h) := by
  obtain rfl : ln = 1 := (q_at hok he).2.2.1 (Nat.succ_ne_zero _)
  exact q_stk (st' := (.double (FP.ddiv x y) :: r)) hok he rfl (fun p e R s m args below meth cd H locs cells slots Qz rls ρ hx hb hd hown hts hl kk => lv_ddiv hx hb hd hne kk) (fun h1 h2 => q_cl1 q_vcl_d (q_tl (q_tl h1))) hJ
end
/-- no quotient of these is a NaN -/
def q_dvc : Bool := (List.range 129).all fun u => (List.range 201).all fun c => Nat.beq c 0 || decide (FP.ddiv (FP.i2d (nI u)) (FP.i2d (nI c)) &&& 0x7fffffffffffffff ≤ 0x7ff0000000000000)
set_option maxRecDepth 100000 in
theorem q_dvc_ok : q_dvc = true := by decide +kernel
theorem q_dv {u c : Nat} (hu : u ≤ 128) (hc : c ≤ 200) (h0 : c ≠ 0) : vf_n64 (FP.ddiv (FP.i2d (nI u)) (FP.i2d (nI c))) := by
  have h1 := List.all_eq_true.mp q_dvc_ok u (List.mem_range.mpr (by omega))
  have h2 := List.all_eq_true.mp h1 c (List.mem_range.mpr (by omega))
  rw [Bool.or_eq_true] at h2
  rcases h2 with h2 | h2
  · exact absurd (Nat.eq_of_beq_eq_true h2) h0
  · have h3 : FP.ddiv (FP.i2d (nI u)) (FP.i2d (nI c)) &&& 0x7fffffffffffffff ≤ 0x7ff0000000000000 := of_decide_eq_true h2
    exact h3
/-- the answer -/
def q_mean (u c : Nat) : UInt64 := if c = 0 then FP.dconst0 else FP.ddiv (FP.i2d (nI u)) (FP.i2d (nI c))
theorem q_nI0 {c : Nat} (hc : c ≤ 200) : nI c = 0 ↔ c = 0 := by
  constructor
  · intro h
    have h1 : (nI c).toNatClampNeg = (0 : Int32).toNatClampNeg := by rw [h]
    rw [nI_clamp (by omega)] at h1
    exact h1
  · intro h; rw [h]; rfl
theorem m_sm_c1 {p : Nat → Prop} [DecidablePred p] : ∀ n : Nat, ∃ k, k ≤ n ∧ m_sm p (fun _ => 1) n = nI k := by
  intro n
  induction n with
  | zero => exact ⟨0, Nat.le_refl _, rfl⟩
  | succ n ih =>
    obtain ⟨k, k1, k2⟩ := ih
    rw [m_sm, k2]
    by_cases h : p n
    · rw [if_pos h, nI_1]; exact ⟨k + 1, by omega, rfl⟩
    · rw [if_neg h, show (0 : Int32) = nI 0 from rfl, nI_add]; exact ⟨k, by omega, rfl⟩
set_option maxHeartbeats 4000000 in
theorem ct_X12_meanSize {g : q_G} {L : Nat → Nat → Int64} {d : Nat} (hd : 4 ≤ d) {I : Nat → Nat → Int32} {E : Nat → Nat → Option Nat} {c u1 u2 : Nat} (hc : c ≤ 200) (h1 : u1 ≤ 64) (h2 : u2 ≤ 64) (c1 : f_X2_baleCount (I 457) (I 465) = some (nI c)) (c2 : I 457 8 = nI u1) (c3 : f_X5_usedCount (I 465) (I 466) = some (nI u2)) :
    q_Ct g m_X12_meanSize d 0 0 [] [.ref 400] (q_hp (q_XR L) I E) (fun o h' => o = .inl (some (.double (q_mean (u1 + u2) c))) ∧ h' = q_hp (q_XR L) I E) := by
  refine q_Ct_of ok_X12_meanSize (Nat.le_of_ble_eq_true rfl) ?_ _ rfl rfl
  change q_J g m_X12_meanSize d 0 0 _ [] _ 0 0 (q_kc (q_XR L) I E 0 [some (.ref 400), none] [] [] [])
  refine q_blk 2 [] (c' := q_kc (q_XR L) I E 2 [some (.ref 400), none] [.ref 457] [] []) ok_X12_meanSize rfl q_cn ?_
  refine q_kV (M2 := m_X2_baleCount) (As := []) (b := 457) (v2 := some (.int (nI c))) ok_X12_meanSize ok_X2_baleCount cv_X2_baleCount (ct_X2_baleCount_457 (d := 1) (Nat.le_refl _) c1) rfl rfl (by first | exact Or.inl rfl | exact Or.inr ⟨_, rfl⟩) rfl rfl rfl rfl (Nat.le_trans (by decide) hd) (Nat.le_of_ble_eq_true rfl) (Nat.le_of_ble_eq_true rfl) (Nat.le_of_ble_eq_true rfl) (fun x hx => absurd hx List.not_mem_nil) (q_nmL0 _) (q_nmS0 _) rfl (pos' := 3) (st' := [.int (nI c)]) (lI' := []) (lE' := []) rfl rfl rfl rfl ?_
  refine q_blf 2 [] (a := q_kc (q_XR L) I E 8 [some (.ref 400), some (.int (nI c))] [] [] []) (b := q_kc (q_XR L) I E 6 [some (.ref 400), some (.int (nI c))] [] [] []) (P := ¬ nI c = 0) ok_X12_meanSize rfl q_cn (fun hz => ?_) (fun hz => ?_)
  · have hz : c ≠ 0 := fun e => hz ((q_nI0 hc).mpr e)
    refine q_blk 6 [] (c' := q_kc (q_XR L) I E 14 [some (.ref 400), some (.int (nI c))] [.ref 465, .int ((I 457) 8)] [] []) ok_X12_meanSize rfl q_cn ?_
    refine q_kV (M2 := m_X5_usedCount) (As := []) (b := 465) (v2 := some (.int (nI u2))) ok_X12_meanSize ok_X5_usedCount cv_X5_usedCount (ct_X5_usedCount_465 (d := 2) (Nat.le_refl _) c3) rfl rfl (by first | exact Or.inl rfl | exact Or.inr ⟨_, rfl⟩) rfl rfl rfl rfl (Nat.le_trans (by decide) hd) (Nat.le_of_ble_eq_true rfl) (Nat.le_of_ble_eq_true rfl) (Nat.le_of_ble_eq_true rfl) (fun x hx => absurd hx List.not_mem_nil) (q_nmL0 _) (q_nmS0 _) rfl (pos' := 15) (st' := [.int (nI u2), .int ((I 457) 8)]) (lI' := []) (lE' := []) rfl rfl rfl rfl ?_
    change q_J g m_X12_meanSize d 0 0 _ [] _ 0 0 (15, [some (.ref 400), some (.int (nI c))], [.int (nI u2), .int ((I 457) 8)], q_hp (q_XR L) I E)
    rw [c2]
    refine q_go 1 (c' := (16, [some (.ref 400), some (.int (nI c))], [.int (nI u1 + nI u2)], q_hp (q_XR L) I E)) ok_X12_meanSize rfl ?_
    rw [nI_add]
    refine q_o_i2d ok_X12_meanSize rfl ?_
    refine q_go 1 (c' := (18, [some (.ref 400), some (.int (nI c))], [.int (nI c), .double (FP.i2d (nI (u1 + u2)))], q_hp (q_XR L) I E)) ok_X12_meanSize rfl ?_
    refine q_o_i2d ok_X12_meanSize rfl ?_
    refine q_o_ddiv ok_X12_meanSize rfl (q_dv (by omega) hc hz) ?_
    exact q_o_dret ok_X12_meanSize rfl rfl (Nat.le_refl _) (Nat.le_refl _) ⟨by unfold q_mean; rw [if_neg hz], rfl⟩
  · have hz : c = 0 := (q_nI0 hc).mp (Decidable.not_not.mp hz)
    refine q_o_dconst0 ok_X12_meanSize rfl ?_
    exact q_o_dret ok_X12_meanSize rfl rfl (Nat.le_refl _) (Nat.le_refl _) ⟨by unfold q_mean; rw [if_pos hz], rfl⟩
