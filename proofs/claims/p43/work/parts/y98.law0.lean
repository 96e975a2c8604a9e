/-! THE LAW, from its entry to its loop -/
section LAW0
variable {xt : List ExceptionTableEntry} {g : q_G} {mc ms : Nat} {mv : List Nat} {Q : q_Po}
abbrev la_l0 : List (Option Value) := [some (.ref 52), none, none, none, none, none, none, none, none, none, none, none, none, none, none, none, none, none, none, none, none, none, none, none]
abbrev la_l3 (s : Nat) : List (Option Value) := [some (.ref 52), none, some (.ref s), some (.ref 400), none, none, none, none, none, none, none, none, none, none, none, none, none, none, none, none, none, none, none, none]
abbrev la_K (xt : List ExceptionTableEntry) (g : q_G) (mc ms : Nat) (mv : List Nat) (Q : q_Po) (k n : Nat) (c : q_C) : Prop := q_K g m_L_lw xt 2048 mc ms q_h00 mv Q k n c
theorem la_16 {k n s : Nat} {x : Int32} {h : q_H} (hx : x = 0) (hK : la_K xt g mc ms mv Q k n (19, la_l3 s, [], h)) : la_K xt g mc ms mv Q k n (16, la_l3 s, [.int x], h) :=
  w_L_lw_16 (by decide) ⟨fun _ => hK, fun hn => absurd hx hn⟩
set_option maxRecDepth 20000 in
/-- the text is taught -/
theorem la_15 {k n s a : Nat} {hx : q_H} {H hf up pr ns : Nat} {R : Nat → Nat → Nat} (hmv : ∀ x ∈ q_mvC, x ∈ mv) (hk : k + 100 ≤ mc) (hn : n + 600 ≤ ms) (hb : (0 < H ∧ H ≤ 6) ∧ (8 ≤ hf ∧ hf ≤ 32) ∧ up ≤ 29 ∧ pr ≤ 3) (hns : ns ≤ 12) (hR : ∀ k, k < ns → zp_Ln H (R k)) (hA : ta_A hx a (zs_all hf pr up H R ns))
    (hs : 492 ≤ s) (hSim : z_Sim hx s [] [] (List.replicate H none)) (hI : q_I hx s 3 = nI hf ∧ q_I hx s 4 = nI up ∧ q_I hx s 5 = nI pr ∧ ∀ j, 7 ≤ j → q_I hx s j = 0) (hd : ∀ k, k < 2 → q_R hx s k ≠ q_R hx s 2) (hRw : z_Rows hx s ns (fun k => zp_w (R k)))
    (h7 : q_I hx 400 7 = nI 0) (hT : ∀ j, j < 2000 → ∃ b, b < 128 ∧ q_I hx 401 j = nI b) {st0 sh0 sw0 sp0 ss0 sr0 sa0 sd0 : m_Rr} (hR0 : m_R 0 16 16 [] (q_I hx 457) (q_I hx 459) (q_I hx 460) (q_I hx 461) (q_I hx 462) (q_I hx 463) (q_I hx 464) (q_I hx 465) (q_I hx 466) (q_I hx 470) (q_I hx 471) st0 sh0 sw0 sp0 ss0 sr0 sa0 sd0)
    (hK : ∀ h', la_R 0 h' s → la_K xt g mc ms mv Q (k + 100) (n + 600) (19, la_l3 s, [], h')) : la_K xt g mc ms mv Q k n (15, la_l3 s, [.ref a, .ref 400], hx) := by
  have ha := hA.2.2.1
  refine k_callS (M2 := m_L_taught) (As := [.ref 400, .ref a]) (rest := []) (mv2 := q_mvC) okB_L_lw ok_L_taught rfl (Or.inl rfl) cs_L_taught (ta_taught (d := 1000) (by decide) (by decide) hA ⟨hb.2.1.1, by omega⟩ (by omega) (by omega) hb.1 hns hR la_begS h7 (by decide) hT) (by decide) (show 59 + 64 * 1000 ≤ q_lc 2048 by decide) hk hn (Nat.le_of_ble_eq_true rfl) hmv (fun i b hi hm => ?_) (fun _ hb => by cases hb) rfl (fun v h' hq => ?_) (fun E h' hq => by cases hq.1)
  · have hm2 := List.mem_range'_1.mp hm
    rw [q_nth_eq] at hi
    have h9 := List.mem_of_getElem? hi
    simp at h9
    rcases h9 with h9 | h9 | h9 <;> (have h8 : @Eq Nat b _ := h9; omega)
  · obtain ⟨e, r, -⟩ := la_start hA.1 hA.2.1 hSim hI hd hRw hR0 hb.1 (by omega) (by omega) hns hq
    cases e
    exact la_16 rfl (hK _ r)
end LAW0
