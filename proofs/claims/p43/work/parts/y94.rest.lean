/-! THE REST STATE OF THE LAW, at its beginning -/
abbrev la_X (I : Nat → m_Rr) : m_CB := (I 457, I 459, I 460, I 461, I 462, I 463, I 464, I 465, I 466, I 467, I 468, I 469, I 470, I 471, I 472, I 490, I 491)
/-- no bale is older than there were copyings -/
def lc_Ag (bn ly ag : m_Rr) : Prop := ∃ p, p < 2 ^ 30 ∧ bn 12 = nI p ∧ ∀ b, b < 128 → ¬ ly b = 0 → ∃ a, a ≤ p ∧ ag b = nI a
/-- class and law between two doings -/
def la_R (G : Nat) (h : q_H) (s : Nat) : Prop := z_Cls h ∧ z_Sep h ∧ ∃ (H m hf ns oc : Nat) (mp : m_Rr) (Q : Nat → Nat → Nat), (0 < H ∧ H ≤ 6) ∧ m_Pl H m hf (q_I h 402) mp ∧ (hf ≤ 32 ∧ m ≤ 64) ∧ (q_I h 402 4 = nI ns ∧ ns ≤ 12) ∧ (q_I h 402 5 = nI oc ∧ oc ≤ 400) ∧
  (∀ k, k < ns → z_Tld H oc (q_E h 404) (q_I h 405) (q_tR (q_I h) 406) (q_tR (q_E h) 406) k (zp_w (Q k))) ∧ z_Rows h s ns (fun k => zp_w (Q k)) ∧ z_RB H m hf (q_I h 402) h s (la_X (q_I h)) ∧ m_Cn G (q_I h 457) ∧ z_Cn h s G ∧ lc_Ag (q_I h 457) (q_I h 459) (q_I h 462)
def fl_z (b hi : Nat) (v : Int32) : Bool := (List.range hi).all fun j => decide (q_I q_Z12_22 b j = v)
theorem fl_z_of {b hi : Nat} {v : Int32} (h : fl_z b hi v = true) : ∀ j, j < hi → q_I q_Z12_22 b j = v := fun j hj => of_decide_eq_true (List.all_eq_true.mp h j (List.mem_range.mpr hj))
theorem fl_z459 : fl_z 459 128 0 = true := by decide +kernel
theorem fl_z463 : fl_z 463 128 0 = true := by decide +kernel
theorem fl_z466 : fl_z 466 64 (-1) = true := by decide +kernel
theorem fl_z470 : fl_z 470 6 (-1) = true := by decide +kernel
set_option maxRecDepth 100000 in
theorem fl_z401 : fl_z 401 2000 0 = true := by decide +kernel
theorem fl_R0 : m_R 0 16 16 [] (q_I q_Z12_22 457) (q_I q_Z12_22 459) (q_I q_Z12_22 460) (q_I q_Z12_22 461) (q_I q_Z12_22 462) (q_I q_Z12_22 463) (q_I q_Z12_22 464) (q_I q_Z12_22 465) (q_I q_Z12_22 466) (q_I q_Z12_22 470) (q_I q_Z12_22 471) (fun _ => 0) (fun _ => -1) (fun _ => 0) (q_I q_Z12_22 460) (q_I q_Z12_22 461) (q_I q_Z12_22 463) (q_I q_Z12_22 462) (fun _ => 0) :=
  m_R_0 (by decide) (by decide) (by decide) (fun b hb => fl_z_of fl_z459 b hb) (fun b _ => rfl) (fun b _ => ⟨rfl, rfl, rfl, rfl⟩) ⟨fun b hb => ⟨0, by decide, fl_z_of fl_z463 b hb, fun r hr => absurd hr (by omega)⟩, fun k _ => Or.inr ⟨0, by decide, rfl⟩⟩ (by decide +kernel) (by decide +kernel) ⟨by decide +kernel, by decide +kernel, by decide +kernel, by decide +kernel, by decide +kernel, by decide +kernel⟩ (by decide +kernel) (by decide +kernel) (fun q hq => fl_z_of fl_z466 q hq) (fun i hi => fl_z_of fl_z470 i hi) (fun i _ => rfl)
section REST
variable {g : q_G} {h h1 h' : q_H} {s H m hf pr up ns a : Nat} {Q : Nat → Nat → Nat}
theorem fl_Cls (hN : 400 ≤ q_nx h) : z_Cls (fl_H h) := ⟨by show 492 ≤ q_nx h + 92; omega, fun a ha => ⟨if_pos ha, fun j => congrFun (if_pos ha : (if a < 492 then q_R0 a else (fun j => (q_R h (a - 92) j).map fl_u)) = q_R0 a) j⟩⟩
theorem fl_Sep : z_Sep (fl_H h) := fun a j b ha hb => by
  have hb : (if a < 492 then q_R0 a else (fun j => (q_R h (a - 92) j).map fl_u)) j = some b := hb
  rw [if_neg (by omega)] at hb
  cases hq : q_R h (a - 92) j with
  | none => simp [hq] at hb
  | some c =>
    have hb : some (fl_u c) = some b := by simpa [hq] using hb
    cases hb
    unfold fl_u
    split <;> omega
theorem fl_row (ha : 400 ≤ a) : q_sh (fl_H h) (a + 92) = q_sh h a ∧ q_I (fl_H h) (a + 92) = q_I h a ∧ ∀ j, q_R (fl_H h) (a + 92) j = (q_R h a j).map fl_u := by
  have hn : ¬ a + 92 < 492 := by omega
  have e : a + 92 - 92 = a := by omega
  refine ⟨(if_neg hn).trans (congrArg (q_sh h) e), (if_neg hn).trans (congrArg (q_I h) e), fun j => ?_⟩
  show (if a + 92 < 492 then q_R0 (a + 92) else (fun j => (q_R h (a + 92 - 92) j).map fl_u)) j = _
  rw [if_neg hn, e]
theorem fl_u4 {b : Nat} (hb : 400 ≤ b) : fl_u b = b + 92 := by
  unfold fl_u
  rw [if_neg (by omega)]
theorem fl_Sim (hF : be_F h s H hf up pr) (hH : H < 65536) : z_Sim (fl_H h) (s + 92) [] [] (List.replicate H none) ∧ (q_I (fl_H h) (s + 92) 3 = nI hf ∧ q_I (fl_H h) (s + 92) 4 = nI up ∧ q_I (fl_H h) (s + 92) 5 = nI pr ∧ ∀ j, 7 ≤ j → q_I (fl_H h) (s + 92) j = 0) ∧ ∀ k, k < 2 → q_R (fl_H h) (s + 92) k ≠ q_R (fl_H h) (s + 92) 2 := by
  obtain ⟨⟨s1, s2⟩, s3, ⟨i3, i4, i5, i7⟩, a, b, c, ⟨a1, ⟨a2, a3⟩, a4⟩, ⟨b1, ⟨b2, b3⟩, b4⟩, ⟨c1, ⟨⟨c2, c3⟩, c4⟩, c5⟩, n1, n2, n3⟩ := hF
  obtain ⟨f1, f2, f3⟩ := fl_row (h := h) s1
  have r0 : q_R (fl_H h) (s + 92) 0 = some (a + 92) := by rw [f3, a1]; exact congrArg some (fl_u4 a2)
  have r1 : q_R (fl_H h) (s + 92) 1 = some (b + 92) := by rw [f3, b1]; exact congrArg some (fl_u4 b2)
  have r2 : q_R (fl_H h) (s + 92) 2 = some (c + 92) := by rw [f3, c1]; exact congrArg some (fl_u4 c2)
  refine ⟨⟨⟨by omega, by show s + 92 < q_nx h + 92; omega⟩, f1.trans s3, ⟨a + 92, r0, ⟨by omega, by show a + 92 < q_nx h + 92; omega⟩, (fl_row a2).1.trans a4, by decide, fun i x hx => by simp at hx⟩, ⟨b + 92, r1, ⟨by omega, by show b + 92 < q_nx h + 92; omega⟩, (fl_row b2).1.trans b4, by decide, fun i x hx => by simp at hx⟩, ⟨c + 92, r2, ⟨by omega, by show c + 92 < q_nx h + 92; omega⟩, by rw [List.length_replicate]; exact (fl_row c2).1.trans c4, by rw [List.length_replicate]; exact hH, fun i x hx => ?_⟩⟩, ⟨by rw [f2]; exact i3, by rw [f2]; exact i4, by rw [f2]; exact i5, fun j hj => by rw [f2]; exact i7 j hj⟩, fun k hk => ?_⟩
  · have hx2 := List.mem_of_getElem? hx
    rw [(List.mem_replicate.mp hx2).2, (fl_row c2).2.2, c5]
    rfl
  · rw [r2]
    rcases (show k = 0 ∨ k = 1 by omega) with rfl | rfl
    · rw [r0]; intro e; cases e; exact n2 rfl
    · rw [r1]; intro e; cases e; exact n3 rfl
theorem fl_Rows (hs : 400 ≤ s) (hG : be_G h s ns Q) : z_Rows (fl_H h) (s + 92) ns (fun k => zp_w (Q k)) := by
  obtain ⟨r, r1, ⟨r2, r3⟩, r4, r5⟩ := hG
  refine ⟨r + 92, by rw [(fl_row hs).2.2, r1]; exact congrArg some (fl_u4 r2), ⟨by omega, by show r + 92 < q_nx h + 92; omega⟩, (fl_row r2).1.trans r4, fun k hk => ?_⟩
  obtain ⟨v, v1, ⟨v2, v3⟩, v4, v5⟩ := r5 k hk
  exact ⟨v + 92, by rw [(fl_row r2).2.2, v1]; exact congrArg some (fl_u4 v2), ⟨⟨by omega, by show v + 92 < q_nx h + 92; omega⟩, (fl_row v2).1.trans v4⟩, fun j hj => by rw [(fl_row v2).2.1]; exact v5 j hj⟩
/-- the law's own rows are the same -/
def la_S (h h' : q_H) : Prop := q_nx h ≤ q_nx h' ∧ ∀ a, 492 ≤ a → a < q_nx h → q_sh h' a = q_sh h a ∧ q_I h' a = q_I h a ∧ q_R h' a = q_R h a
theorem la_S_Sim {hk : List (Option Nat)} (e : la_S h h') (hS : z_Sim h s [] [] hk) : z_Sim h' s [] [] hk := by
  obtain ⟨⟨s1, s2⟩, s3, ⟨a, a1, ⟨a2, a3⟩, a4, a5, a6⟩, ⟨b, b1, ⟨b2, b3⟩, b4, b5, b6⟩, c, c1, ⟨c2, c3⟩, c4, c5, c6⟩ := hS
  obtain ⟨e1, -, e3⟩ := e.2 s s1 s2
  obtain ⟨f1, -, f3⟩ := e.2 a a2 a3
  obtain ⟨g1, -, g3⟩ := e.2 b b2 b3
  obtain ⟨k1, -, k3⟩ := e.2 c c2 c3
  have hn := e.1
  exact ⟨⟨s1, by omega⟩, e1.trans s3, ⟨a, by rw [e3]; exact a1, ⟨a2, by omega⟩, f1.trans a4, a5, fun i x hx => by rw [f3]; exact a6 i x hx⟩, ⟨b, by rw [e3]; exact b1, ⟨b2, by omega⟩, g1.trans b4, b5, fun i x hx => by rw [g3]; exact b6 i x hx⟩, c, by rw [e3]; exact c1, ⟨c2, by omega⟩, k1.trans c4, c5, fun i x hx => by rw [k3]; exact c6 i x hx⟩
theorem la_S_Rows {W : Nat → Nat → Int32} (e : la_S h h') (hs : 492 ≤ s ∧ s < q_nx h) (hR : z_Rows h s ns W) : z_Rows h' s ns W := by
  obtain ⟨b, b1, ⟨b2, b3⟩, b4, b5⟩ := hR
  have hn := e.1
  obtain ⟨e1, -, e3⟩ := e.2 b b2 b3
  refine ⟨b, by rw [(e.2 s hs.1 hs.2).2.2]; exact b1, ⟨b2, by omega⟩, e1.trans b4, fun k hk => ?_⟩
  obtain ⟨v, v1, ⟨⟨v2, v3⟩, v4⟩, v5⟩ := b5 k hk
  obtain ⟨f1, f2, -⟩ := e.2 v v2 v3
  exact ⟨v, by rw [e3]; exact v1, ⟨⟨v2, by omega⟩, f1.trans v4⟩, fun j hj => by rw [f2]; exact v5 j hj⟩
end REST
