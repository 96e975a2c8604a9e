/-! THE LAW'S BEGINNING: what the walk from its entry to its loop needs -/
theorem zs_told_as {q : Nat → Nat} (hq : zp_Ln 6 q) : tx_as (zs_told q) := tx_asA (to_dl hq).2 (to_tl hq (i := q 6) (by have := hq.2.2.2.2.2.2.1; omega)).2
theorem zs_hooks_as : ∀ (n k : Nat), k + n ≤ 100 → tx_as (zs_hooks k n)
  | 0, _, _ => fun x hx => by cases hx
  | n + 1, k, h => tx_asA (tx_asC (a := 254) (by decide)) (tx_asA (tx_asD (by omega)) (tx_asA (tx_asC (a := 255) (by decide)) (zs_hooks_as n (k + 1) (by omega))))
theorem zs_lines_as {Q : Nat → Nat → Nat} : ∀ (n k : Nat), (∀ j, k ≤ j → j < k + n → zp_Ln 6 (Q j)) → tx_as (zs_lines Q k n)
  | 0, _, _ => fun x hx => by cases hx
  | n + 1, k, h => tx_asA (zs_told_as (h k (Nat.le_refl _) (by omega))) (tx_asA (tx_asC (a := 253) (by decide)) (zs_lines_as n (k + 1) (fun j h1 h2 => h j (by omega) (by omega))))
theorem zs_all_as {hf pr m H ns : Nat} {Q : Nat → Nat → Nat} (h1 : hf < 100) (h2 : pr < 100) (h3 : m < 100) (hH : H ≤ 6) (hQ : ∀ j, j < ns → zp_Ln 6 (Q j)) : tx_as (zs_all hf pr m H Q ns) :=
  tx_asA (tx_asA (tx_asC (a := 250) (by decide)) (tx_asA (tx_asD h1) (tx_asA (tx_asC (a := 251) (by decide)) (tx_asA (tx_asD h2) (tx_asA (tx_asC (a := 252) (by decide)) (tx_asA (tx_asD h3) (tx_asC (a := 253) (by decide)))))))) (tx_asA (zs_hooks_as H 0 (by omega)) (zs_lines_as ns 0 (fun j _ hj => hQ j (by omega))))
theorem la_begS {up : Nat} {bn ly lo lr hk : m_Rr} : ∀ qn : m_Rr, qn 1 = nI up → ∃ r, f_X2_begin qn bn ly lo lr hk = some r := fun qn _ => ⟨_, rfl⟩
/-- the moved heap, cut behind the class's ids -/
def fl_B0 (h : q_H) : q_H := (492, q_sh (fl_H h), q_I (fl_H h), q_R (fl_H h), q_E (fl_H h), q_L (fl_H h))
theorem fl_B {h hb : q_H} {b L : Nat} {l : List Int32} (h4 : 400 ≤ q_nx hb) (hB : tx_B hb h b L l) : tx_B (fl_B0 h) (fl_H h) (b + 92) L l := by
  obtain ⟨b0, b1, ⟨b2, b3⟩, b4, b5, b6, v, ⟨v1, v2⟩, v3, v4, v5, v6, v7⟩ := hB
  obtain ⟨e1, e2, e3⟩ := fl_row (h := h) (a := b) (by omega)
  obtain ⟨f1, f2, -⟩ := fl_row (h := h) (a := v) (by omega)
  have n0 : q_nx (fl_B0 h) = 492 := rfl
  have n1 : q_nx (fl_H h) = q_nx h + 92 := rfl
  have hnx : 400 ≤ q_nx h := by omega
  refine ⟨⟨by omega, fun a _ => ⟨rfl, rfl, rfl, ⟨rfl, fun _ _ _ e => Or.inl e⟩, rfl⟩⟩, by omega, ⟨by omega, by omega⟩, e1.trans b4, by rw [e2]; exact b5, by rw [e2]; exact b6, v + 92, ⟨by omega, by omega⟩, by rw [e3, v3]; exact congrArg some (fl_u4 (by omega)), f1.trans v4, v5, fun j hj => by rw [f2]; exact v6 j hj, fun j hj => by rw [f2]; exact v7 j hj⟩
def be_P (hb : q_H) (b s : Nat) (h' : q_H) : Prop := ∃ H hf up pr ns Q, ((0 < H ∧ H ≤ 6) ∧ (8 ≤ hf ∧ hf ≤ 32) ∧ up ≤ 29 ∧ pr ≤ 3) ∧ ns ≤ 12 ∧ (∀ k, k < ns → zp_Ln H (Q k)) ∧ be_F h' s H hf up pr ∧ be_G h' s ns Q ∧ ∃ L, tx_B hb h' b L (zs_all hf pr up H Q ns) ∧ L ≤ 2 * (zs_all hf pr up H Q ns).length + 18
theorem be_barnP {g : q_G} {d b : Nat} {h hb : q_H} (hd : 9 ≤ d) (hd2 : d < 2048) (hg : g.2.length < 2147483648) (h4 : q_nx hb = 400) (hB : tx_B hb h b 16 []) : q_Ct g m_L_barn d 12000 31000 [] [.ref 52, .ref b] h (fun o h' => ∃ s, o = .inl (some (.ref s)) ∧ be_P hb b s h') :=
  q_Ct_mono (be_barn hd hd2 hg h4 hB) (fun o h' hq => by
    obtain ⟨s, H, hf, up, pr, ns, Q, e, r⟩ := hq
    exact ⟨s, e, H, hf, up, pr, ns, Q, r⟩)
theorem la_hi {h h' : q_H} (e : z_ext h h') : la_S h h' := ⟨e.1, fun a _ ha => ⟨(e.2 a ha).1, (e.2 a ha).2.1, (e.2 a ha).2.2.1⟩⟩
theorem fl_I4 {h : q_H} {a : Nat} (ha : a < 492) : q_I (fl_H h) a = q_I q_Z12_22 a := if_pos ha
theorem fl_Z7 : q_I q_Z12_22 400 7 = nI 0 := by decide +kernel
