/-! HELP for contracts of the law's own methods: heaps that grow, rows of bales -/
section ZHELP
variable {g : q_G} {M : q_M} {d mc ms : Nat} {h h' h0 : q_H} {mv : List Nat} {Q : q_Po} {k n : Nat} {c : q_C} {As : List Value}
theorem q_J_ofK (hd : d ≠ 2048) (hK : q_K g M [] d mc ms h0 mv Q k n c) : q_J g M d mc ms h0 mv Q k n c := by
  intro p e s m args below meth cd D cA ρ0 ρ A H locs rls en hen hB hS
  have hr : q_rk d mc ms = q_rm d mc ms := by
    unfold q_rk q_rm q_lc
    rw [q_beqN hd]; rfl
  obtain ⟨b1, b2, b3, b4, b5, b6, b7, b8, b9⟩ := hB
  have h9 := hK p e s m args below meth cd D cA ρ0 ρ A H locs rls en hen ⟨b1, b2, b3, b4, b5, b6, b7, b8, List.eq_nil_iff_forall_not_mem.mpr (fun x hx => b9 x hx)⟩ hS
  rw [hr] at h9
  exact h9
theorem q_CtK (hok : q_okM M = true) (hd : d ≠ 2048) (hlen : (q_ent As).length ≤ M.2.2.1) (hK : q_K g M [] d mc ms h mv Q 0 0 (0, q_ent As ++ List.replicate (M.2.2.1 - (q_ent As).length) none, [], h)) (en : q_En) (h0 : q_nth M.2.2.2.2.1 0 = some en) (hpc : en.1 = 0) : q_Ct g M d mc ms mv As h Q :=
  q_Ct_of hok hlen (q_J_ofK hd hK) en h0 hpc
/-- references that are written lead to what is the law's own, or new, or outside -/
def z_sp (h h' : q_H) : Prop := ∀ a j b, q_R h' a j = some b → q_R h a j = some b ∨ (b < 400 ∨ 492 ≤ b) ∨ q_nx h ≤ b
theorem z_sp_rfl {h : q_H} : z_sp h h := fun _ _ _ e => Or.inl e
theorem z_sp_trans {h1 h2 h3 : q_H} (hn : q_nx h1 ≤ q_nx h2) (a : z_sp h1 h2) (b : z_sp h2 h3) : z_sp h1 h3 := fun x j c e => by
  rcases b x j c e with e | e | e
  · exact a x j c e
  · exact Or.inr (Or.inl e)
  · exact Or.inr (Or.inr (Nat.le_trans hn e))
theorem z_sp_new {h : q_H} {s : q_Sh} : z_sp h (q_new h s) := fun a j b e => by
  by_cases ha : a = q_nx h
  · have e : q_ur (q_R h) (q_nx h) (fun _ => none) a j = some b := e
    rw [ha, q_ur_s] at e
    cases e
  · have e : q_ur (q_R h) (q_nx h) (fun _ => none) a j = some b := e
    rw [q_ur_n _ _ _ ha] at e
    exact Or.inl e
theorem z_sp_pI {h h1 : q_H} {a j : Nat} {x : Int32} (e : z_sp h h1) : z_sp h (q_pI h1 a j x) := e
theorem z_sp_pR {h h1 : q_H} {a j : Nat} {x : Option Nat} (e : z_sp h h1) (hx : ∀ b, x = some b → 492 ≤ b ∨ q_nx h ≤ b) : z_sp h (q_pR h1 a j x) := fun a2 j2 b h2 => by
  have h2 : q_u2 (q_R h1) a j x a2 j2 = some b := h2
  rw [q_u2_of] at h2
  split at h2
  · exact Or.inr ((hx b h2).imp Or.inr id)
  · exact e a2 j2 b h2
/-- h' has all that h has -/
def z_ext (h h' : q_H) : Prop := q_nx h ≤ q_nx h' ∧ ∀ a, a < q_nx h → q_sh h' a = q_sh h a ∧ q_I h' a = q_I h a ∧ q_R h' a = q_R h a ∧ (q_E h' a = q_E h a ∧ z_sp h h') ∧ q_L h' a = q_L h a
theorem z_ext_refl (h : q_H) : z_ext h h := ⟨Nat.le_refl _, fun _ _ => ⟨rfl, rfl, rfl, ⟨rfl, z_sp_rfl⟩, rfl⟩⟩
theorem z_ext_trans {h1 h2 h3 : q_H} (a : z_ext h1 h2) (b : z_ext h2 h3) : z_ext h1 h3 := by
  refine ⟨Nat.le_trans a.1 b.1, fun x hx => ?_⟩
  obtain ⟨a1, a2, a3, a4, a5⟩ := a.2 x hx
  obtain ⟨b1, b2, b3, b4, b5⟩ := b.2 x (Nat.lt_of_lt_of_le hx a.1)
  exact ⟨b1.trans a1, b2.trans a2, b3.trans a3, ⟨b4.1.trans a4.1, z_sp_trans a.1 a4.2 b4.2⟩, b5.trans a5⟩
theorem z_ext_new (h : q_H) (s : q_Sh) : z_ext h (q_new h s) := by
  refine ⟨Nat.le_succ _, fun x hx => ?_⟩
  have hne : x ≠ q_nx h := by omega
  exact ⟨q_ur_n _ _ _ hne, q_ur_n _ _ _ hne, q_ur_n _ _ _ hne, ⟨q_ur_n _ _ _ hne, z_sp_new⟩, q_ur_n _ _ _ hne⟩
/-- what is written into a new id leaves the elder ones -/
theorem z_ext_pI {h1 : q_H} {a j : Nat} {x : Int32} (e : z_ext h h1) (ha : q_nx h ≤ a) : z_ext h (q_pI h1 a j x) := by
  refine ⟨e.1, fun b hb => ?_⟩
  obtain ⟨e1, e2, e3, e4, e5⟩ := e.2 b hb
  exact ⟨e1, (q_u2_row _ _ _ _ _ (by omega)).trans e2, e3, ⟨e4.1, z_sp_pI e4.2⟩, e5⟩
theorem z_ext_pR {h1 : q_H} {a j : Nat} {x : Option Nat} (e : z_ext h h1) (ha : q_nx h ≤ a) (hx : ∀ b, x = some b → 492 ≤ b ∨ q_nx h ≤ b) : z_ext h (q_pR h1 a j x) := by
  refine ⟨e.1, fun b hb => ?_⟩
  obtain ⟨e1, e2, e3, e4, e5⟩ := e.2 b hb
  exact ⟨e1, e2, (q_u2_row _ _ _ _ _ (by omega)).trans e3, ⟨e4.1, z_sp_pR e4.2 hx⟩, e5⟩
/-- the same with one that lies outside -/
theorem z_ext_pRc {h1 : q_H} {a j c : Nat} (e : z_ext h h1) (ha : q_nx h ≤ a) (hc : c < 400) : z_ext h (q_pR h1 a j (some c)) := by
  refine ⟨e.1, fun b hb => ?_⟩
  obtain ⟨e1, e2, e3, e4, e5⟩ := e.2 b hb
  refine ⟨e1, e2, (q_u2_row _ _ _ _ _ (by omega)).trans e3, ⟨e4.1, fun a2 j2 b2 h2 => ?_⟩, e5⟩
  have h2 : q_u2 (q_R h1) a j (some c) a2 j2 = some b2 := h2
  rw [q_u2_of] at h2
  split at h2
  · cases h2; exact Or.inr (Or.inl (Or.inl hc))
  · exact e4.2 a2 j2 b2 h2
theorem z_sh_new (h : q_H) (s : q_Sh) : q_sh (q_new h s) (q_nx h) = s := q_ur_s _ _ _
theorem z_R_s (h : q_H) (a j : Nat) (x : Option Nat) : q_R (q_pR h a j x) a j = x := q_u2_s _ _ _ _
theorem z_R_j (h : q_H) (a j i : Nat) (x : Option Nat) (hi : i ≠ j) : q_R (q_pR h a j x) a i = q_R h a i := q_u2_j _ _ _ _ _ _ hi
theorem z_R_a (h : q_H) (a b j : Nat) (x : Option Nat) (hb : b ≠ a) : q_R (q_pR h a j x) b = q_R h b := q_u2_row _ _ _ _ _ hb
theorem z_I_s (h : q_H) (a j : Nat) (x : Int32) : q_I (q_pI h a j x) a j = x := q_u2_s _ _ _ _
theorem z_I_j (h : q_H) (a j i : Nat) (x : Int32) (hi : i ≠ j) : q_I (q_pI h a j x) a i = q_I h a i := q_u2_j _ _ _ _ _ _ hi
theorem z_I_a (h : q_H) (a b j : Nat) (x : Int32) (hb : b ≠ a) : q_I (q_pI h a j x) b = q_I h b := q_u2_row _ _ _ _ _ hb
/-- a row of bales, none of them null -/
def z_Ar (h : q_H) (a : Nat) (l : List Nat) : Prop := (492 ≤ a ∧ a < q_nx h) ∧ q_sh h a = (3, 6, l.length) ∧ q_s16 l.length ∧ ∀ (i x : Nat), l[i]? = some x → q_R h a i = some x
/-- a row of bales, some of them null -/
def z_Ao (h : q_H) (a : Nat) (l : List (Option Nat)) : Prop := (492 ≤ a ∧ a < q_nx h) ∧ q_sh h a = (3, 6, l.length) ∧ q_s16 l.length ∧ ∀ (i : Nat) (x : Option Nat), l[i]? = some x → q_R h a i = x
def z_Bal (h : q_H) (x : Nat) : Prop := (492 ≤ x ∧ x < q_nx h) ∧ q_sh h x = (0, 11, 0)
theorem z_Ar_ext {a : Nat} {l : List Nat} (e : z_ext h h') (ha : z_Ar h a l) : z_Ar h' a l := by
  obtain ⟨⟨a1, a2⟩, a3, a4, a5⟩ := ha
  obtain ⟨e1, e2, e3, -, -⟩ := e.2 a a2
  exact ⟨⟨a1, Nat.lt_of_lt_of_le a2 e.1⟩, e1.trans a3, a4, fun i x hx => by rw [e3]; exact a5 i x hx⟩
theorem z_Ao_ext {a : Nat} {l : List (Option Nat)} (e : z_ext h h') (ha : z_Ao h a l) : z_Ao h' a l := by
  obtain ⟨⟨a1, a2⟩, a3, a4, a5⟩ := ha
  obtain ⟨e1, e2, e3, -, -⟩ := e.2 a a2
  exact ⟨⟨a1, Nat.lt_of_lt_of_le a2 e.1⟩, e1.trans a3, a4, fun i x hx => by rw [e3]; exact a5 i x hx⟩
theorem z_Bal_ext {x : Nat} (e : z_ext h h') (hx : z_Bal h x) : z_Bal h' x := by
  obtain ⟨⟨a1, a2⟩, a3⟩ := hx
  exact ⟨⟨a1, Nat.lt_of_lt_of_le a2 e.1⟩, (e.2 x a2).1.trans a3⟩
theorem z_4 {a : Nat} (h : 492 ≤ a) : 400 ≤ a := by omega
theorem z_2 {L : Nat} (h : q_s16 L) : L < 2147483648 := Nat.lt_trans h (by decide)
/-- sums over a list of bales -/
def z_sum (f : Nat → Int32) : List Nat → Int32
  | [] => 0
  | x :: t => f x + z_sum f t
theorem z_sum_app (f : Nat → Int32) : ∀ l m : List Nat, z_sum f (l ++ m) = z_sum f l + z_sum f m
  | [], m => by show z_sum f m = 0 + z_sum f m; rw [Int32.zero_add]
  | x :: t, m => by show f x + z_sum f (t ++ m) = f x + z_sum f t + z_sum f m; rw [z_sum_app f t m, Int32.add_assoc]
theorem z_sum_take (f : Nat → Int32) {l : List Nat} {i x : Nat} (hx : l[i]? = some x) : z_sum f (l.take (i + 1)) = z_sum f (l.take i) + f x := by
  rw [List.take_succ, hx, z_sum_app]
  show _ + (f x + 0) = _
  rw [Int32.add_zero]
end ZHELP
section ZLEAF
variable {g : q_G} {d : Nat} {h : q_H} {a x : Nat} {l : List Nat}
theorem z_below (hd : 1 ≤ d) (hd2 : d ≠ 2048) {v m : Int32} (hm : ¬ m = 0) : q_Ct g m_L_below d 0 0 [] [.int v, .int m] h (fun o h' => ∃ y, o = .inl (some (.int y)) ∧ y = (v &&& 2147483647) - (v &&& 2147483647) / m * m ∧ h' = h) :=
  q_CtK ok_L_below hd2 (Nat.le_of_ble_eq_true rfl) (w_L_below_0 hd ⟨hm, rfl, ⟨Nat.le_refl _, Nat.le_refl _⟩, _, rfl, rfl, rfl⟩) _ rfl rfl
theorem z_used (hd : 1 ≤ d) (hd2 : d ≠ 2048) (ha : z_Ar h a l) (hb : ∀ x ∈ l, z_Bal h x) : q_Ct g m_X14_used d 0 0 [] [.ref a] h (fun o h' => ∃ y, o = .inl (some (.int y)) ∧ y = z_sum (fun x => q_I h x 0) l ∧ h' = h) := by
  obtain ⟨⟨a1, a2⟩, a3, a4, a5⟩ := ha
  refine q_CtK ok_X14_used hd2 (Nat.le_of_ble_eq_true rfl) ?_ _ rfl rfl
  have key : ∀ n i, i + n = l.length → q_K g m_X14_used [] d 0 0 h [] (fun o h' => ∃ y, o = .inl (some (.int y)) ∧ y = z_sum (fun x => q_I h x 0) l ∧ h' = h) 0 0 (9, [none, some (.int (z_sum (fun x => q_I h x 0) (l.take i))), some (.ref a), some (.int (nI l.length)), some (.int (nI i)), none], [], h) := by
    intro n
    induction n with
    | zero =>
      intro i hi
      obtain rfl : i = l.length := by omega
      refine w_X14_used_9 hd ⟨fun _ => ⟨rfl, ⟨Nat.le_refl _, Nat.le_refl _⟩, _, rfl, ?_, rfl⟩, fun hn => absurd (Int32.le_refl _) hn⟩
      rw [List.take_length]
    | succ n ih =>
      intro i hi
      have hil : i < l.length := by omega
      have hx : l[i]? = some l[i] := List.getElem?_eq_getElem hil
      have hB := hb _ (List.getElem_mem hil)
      refine w_X14_used_9 hd ⟨fun hle => absurd hle (nI_ge hil (z_2 a4)), fun _ => ⟨i, l.length, rfl, ⟨z_4 a1, a3, hil, a4⟩, l[i], a5 i _ hx, ⟨z_4 hB.1.1, hB.2⟩, ?_⟩⟩
      rw [nI_1]
      have := ih (i + 1) (by omega)
      rw [z_sum_take _ hx] at this
      exact this
  refine w_X14_used_0 hd ⟨l.length, ⟨z_4 a1, a3⟩, ?_⟩
  exact key l.length 0 (by omega)
theorem z_isIn (hd : 1 ≤ d) (hd2 : d ≠ 2048) (ha : z_Ar h a l) (hb : ∀ x ∈ l, 400 ≤ x) (hx4 : 400 ≤ x) : q_Ct g m_X14_isIn d 0 0 [] [.ref a, .ref x] h (fun o h' => ∃ y, o = .inl (some (.int y)) ∧ y = (if x ∈ l then 1 else 0) ∧ h' = h) := by
  obtain ⟨⟨a1, a2⟩, a3, a4, a5⟩ := ha
  refine q_CtK ok_X14_isIn hd2 (Nat.le_of_ble_eq_true rfl) ?_ _ rfl rfl
  have key : ∀ n i, i + n = l.length → x ∉ l.take i → q_K g m_X14_isIn [] d 0 0 h [] (fun o h' => ∃ y, o = .inl (some (.int y)) ∧ y = (if x ∈ l then 1 else 0) ∧ h' = h) 0 0 (7, [none, some (.ref x), some (.ref a), some (.int (nI l.length)), some (.int (nI i)), none], [], h) := by
    intro n
    induction n with
    | zero =>
      intro i hi hni
      obtain rfl : i = l.length := by omega
      rw [List.take_length] at hni
      exact w_X14_isIn_7 hd ⟨fun _ => ⟨rfl, ⟨Nat.le_refl _, Nat.le_refl _⟩, _, rfl, by rw [if_neg hni], rfl⟩, fun hn => absurd (Int32.le_refl _) hn⟩
    | succ n ih =>
      intro i hi hni
      have hil : i < l.length := by omega
      have hx : l[i]? = some l[i] := List.getElem?_eq_getElem hil
      refine w_X14_isIn_7 hd ⟨fun hle => absurd hle (nI_ge hil (z_2 a4)), fun _ => ⟨i, l.length, rfl, ⟨z_4 a1, a3, hil, a4⟩, l[i], a5 i _ hx, hb _ (List.getElem_mem hil), hx4, fun hne => ?_, fun he => ?_⟩⟩
      · rw [nI_1]
        refine ih (i + 1) (by omega) (fun hm => ?_)
        rw [List.take_succ, hx] at hm
        rcases List.mem_append.mp hm with hm | hm
        · exact hni hm
        · exact hne (by simpa using (List.mem_singleton.mp hm).symm)
      · exact ⟨rfl, ⟨Nat.le_refl _, Nat.le_refl _⟩, _, rfl, by rw [if_pos (by rw [← he]; exact List.getElem_mem hil)], rfl⟩
  refine w_X14_isIn_0 hd ⟨l.length, ⟨z_4 a1, a3⟩, ?_⟩
  exact key l.length 0 (by omega) (by simp)
theorem z_with (hd : 1 ≤ d) (hd2 : d ≠ 2048) (ha : z_Ar h a l) (hb : ∀ x ∈ l, z_Bal h x) (hx : z_Bal h x) (hl : q_s16 (l.length + 1)) : q_Ct g m_X14_with d 1 (l.length + 1) [] [.ref a, .ref x] h (fun o h' => ∃ b, o = .inl (some (.ref b)) ∧ b = q_nx h ∧ q_nx h' = q_nx h + 1 ∧ z_ext h h' ∧ z_Ar h' b (l ++ [x])) := by
  obtain ⟨⟨a1, a2⟩, a3, a4, a5⟩ := id ha
  refine q_CtK ok_X14_with hd2 (Nat.le_of_ble_eq_true rfl) ?_ _ rfl rfl
  have key : ∀ n i (h1 : q_H), i + n = l.length → z_ext h h1 → q_nx h1 = q_nx h + 1 → q_sh h1 (q_nx h) = (3, 6, l.length + 1) → (∀ j y, j < i → l[j]? = some y → q_R h1 (q_nx h) j = some y) →
      q_K g m_X14_with [] d 1 (l.length + 1) h [] (fun o h' => ∃ b, o = .inl (some (.ref b)) ∧ b = q_nx h ∧ q_nx h' = q_nx h + 1 ∧ z_ext h h' ∧ z_Ar h' b (l ++ [x])) 1 (0 + (l.length + 1)) (8, [some (.ref a), some (.ref x), some (.ref (q_nx h)), some (.int (nI i))], [], h1) := by
    intro n
    induction n with
    | zero =>
      intro i h1 hi he hn hs hr
      obtain rfl : i = l.length := by omega
      obtain ⟨⟨b1, b2⟩, b3, b4, b5⟩ := z_Ar_ext he ha
      have hxB := z_Bal_ext he hx
      refine w_X14_with_8 hd ⟨l.length, ⟨z_4 b1, b3⟩, fun _ => ⟨l.length, ⟨z_4 b1, b3⟩, l.length, l.length + 1, rfl, ⟨by omega, hs, by omega, hl⟩, ⟨z_4 hxB.1.1, hxB.2⟩, ⟨Nat.le_refl _, by omega⟩, _, rfl, rfl, hn, z_ext_pR he (Nat.le_refl _) (fun b e => Or.inl (Option.some.inj e ▸ hx.1.1)), ⟨by omega, by show q_nx h < q_nx h1; omega⟩, by rw [List.length_append]; exact hs, by rw [List.length_append]; exact hl, fun i y hy => ?_⟩, fun hn => absurd (Int32.le_refl _) hn⟩
      by_cases hil : i < l.length
      · rw [List.getElem?_append_left hil] at hy
        rw [z_R_j _ _ _ _ _ (by omega)]
        exact hr i y hil hy
      · rw [List.getElem?_append_right (by omega)] at hy
        have h9 := (List.getElem?_eq_some_iff.mp hy).1
        obtain rfl : i = l.length := by simp at h9; omega
        rw [Nat.sub_self] at hy
        cases hy
        exact z_R_s _ _ _ _
    | succ n ih =>
      intro i h1 hi he hn hs hr
      have hil : i < l.length := by omega
      have hy : l[i]? = some l[i] := List.getElem?_eq_getElem hil
      obtain ⟨⟨b1, b2⟩, b3, b4, b5⟩ := z_Ar_ext he ha
      have hB := z_Bal_ext he (hb _ (List.getElem_mem hil))
      refine w_X14_with_8 hd ⟨l.length, ⟨z_4 b1, b3⟩, fun hle => absurd hle (nI_ge hil (z_2 a4)), fun _ => ⟨i, l.length, rfl, ⟨z_4 b1, b3, hil, b4⟩, l[i], b5 i _ hy, i, l.length + 1, rfl, ⟨by omega, hs, by omega, hl⟩, ⟨z_4 hB.1.1, hB.2⟩, ?_⟩⟩
      rw [nI_1]
      refine ih (i + 1) _ (by omega) (z_ext_pR he (Nat.le_refl _) (fun b e => Or.inl (Option.some.inj e ▸ hB.1.1))) hn hs (fun j y hj hjy => ?_)
      by_cases hji : j = i
      · subst hji
        rw [z_R_s]
        exact hy.symm.trans hjy
      · rw [z_R_j _ _ _ _ _ hji]
        exact hr j y (by omega) hjy
  refine w_X14_with_0 hd ⟨l.length, ⟨z_4 a1, a3⟩, l.length + 1, by rw [nI_1], hl, ⟨Nat.le_refl _, by omega⟩, ?_⟩
  exact key l.length 0 _ (by omega) (z_ext_new _ _) rfl (z_sh_new _ _) (fun j y hj _ => absurd hj (Nat.not_lt_zero _))
end ZLEAF
theorem q_lcle {d d2 : Nat} (h : d2 + 1 ≤ d) (hd : d < 2048) : 59 + 64 * d2 ≤ q_lc d := by
  unfold q_lc
  rw [q_beqN (show d ≠ 2048 by omega), cond_false]
  omega
