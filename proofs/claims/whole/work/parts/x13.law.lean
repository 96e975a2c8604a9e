/-! THE LAW: its state between two calls, its calls -/
abbrev q_mvL : List Nat := List.range' 402 137
abbrev q_LK (xt : List ExceptionTableEntry) (g : q_G) (k n : Nat) (c : q_C) : Prop := q_K g m_L_law xt 2048 601024 7293033 q_h00 q_mvL (fun o _ => o = .inl (some (.int 1))) k n c
abbrev q_ll (i : Nat) : List (Option Value) := [some (.ref 52), some (.ref 400), some (.ref 492), some (.ref 528), some (.int (nI i)), none, none, none, none]
/-- what is the same of two objects between two calls: G bounds the counters -/
def q_RL (G : Nat) (I : Nat → m_Rr) (E : Nat → Nat → Option Nat) : Prop := ∃ (H m hf ns oc : Nat) (h : List Nat),
  m_Pn H m hf ns oc (I 402) (I 405) (E 404) (q_tR I 406) (q_tR E 406) (I 499) (I 500) (I 501) (I 502) (I 503) (I 504) (I 505) (I 506) (I 507) ∧
  m_R H m hf h (I 457) (I 459) (I 460) (I 461) (I 462) (I 463) (I 464) (I 465) (I 466) (I 470) (I 471) (I 512) (I 513) (I 514) (I 515) (I 516) (I 517) (I 518) (I 519) ∧
  m_Cn G (I 457) ∧ m_Tp (I 400) (I 401) (I 492) (I 493)
theorem m_Cn_mono {G G' : Nat} {bn : m_Rr} (h : m_Cn G bn) (hG : G ≤ G') : m_Cn G' bn := by
  obtain ⟨g, p, h1, h2, h3, h4⟩ := h
  exact ⟨g, p, h1, h2, by omega, by omega⟩
theorem m_Cn_cnt {G : Nat} {bn bn' : m_Rr} (h : m_Cn G bn) (hc : m_cnt bn bn') : m_Cn (G + 100) bn' := m_Cn_mono (m_Cn_1 h hc) (by omega)
theorem m_Tp_mdk {hb tp md md' mt : m_Rr} (h : m_Tp hb tp md mt) (hm : m_mdk md md') : m_Tp hb tp md' mt := by
  obtain ⟨⟨z, z1, z2, z3⟩, h2, h3⟩ := h
  exact ⟨⟨z, z1, z2, (hm 2 (by decide) (by decide)).trans z3⟩, h2, h3.trans (hm 3 (by decide) (by decide)).symm⟩
theorem q_tR_same {α : Type} {I I' : Nat → Nat → α} {B : Nat} (h : ∀ a, B ≤ a → a < B + 20 → I' a = I a) : q_tR I' B = q_tR I B := by
  funext j
  unfold q_tR
  cases hb : Nat.blt j 20 with
  | true => rw [cond_true, cond_true]; exact h _ (by omega) (by have := Nat.blt_eq.mp hb; omega)
  | false => rw [cond_false, cond_false]; exact h _ (Nat.le_refl _) (by omega)
/-- the rows that a call leaves as they are -/
def q_lk9 (l : List (Nat × (Nat → Int32))) : Bool := l.all fun q => Nat.ble 457 q.1 && (!(Nat.beq q.1 493) && (Nat.blt q.1 499 || Nat.blt 507 q.1))
theorem q_lk9_of {I : Nat → Nat → Int32} {a : Nat} : ∀ {l : List (Nat × (Nat → Int32))}, q_lk9 l = true → (a < 457 ∨ a = 493 ∨ (499 ≤ a ∧ a ≤ 507)) → q_ws I l a = I a
  | [], _, _ => rfl
  | q :: t, h, ha => by
    unfold q_lk9 at h
    rw [List.all_cons, Bool.and_eq_true, Bool.and_eq_true, Bool.and_eq_true, Bool.or_eq_true, Bool.not_eq_true'] at h
    obtain ⟨⟨h1, h2, h3⟩, h4⟩ := h
    have h1 := Nat.le_of_ble_eq_true h1
    have h2 : q.1 ≠ 493 := fun e => by rw [e] at h2; cases h2
    show q_ur (q_ws I t) q.1 q.2 a = I a
    have hne : a ≠ q.1 := by
      rcases h3 with h3 | h3 <;> have := Nat.blt_eq.mp h3 <;> omega
    rw [q_ur_n _ _ _ hne]
    exact q_lk9_of (l := t) h4 ha
/-- the same again, behind a call of each -/
theorem q_RL_st {G' : Nat} {I : Nat → m_Rr} {E : Nat → Nat → Option Nat} {H m hf ns oc : Nat} {l1 l2 : List (Nat × (Nat → Int32))} {h' : List Nat}
    (hP : m_Pn H m hf ns oc (I 402) (I 405) (E 404) (q_tR I 406) (q_tR E 406) (I 499) (I 500) (I 501) (I 502) (I 503) (I 504) (I 505) (I 506) (I 507)) (hT : m_Tp (I 400) (I 401) (I 492) (I 493)) (k1 : q_lk9 l1 = true) (k2 : q_lk9 l2 = true) (I' : Nat → m_Rr) (hI' : I' = q_ws (q_ws I l1) l2)
    (hR : m_R H m hf h' (I' 457) (I' 459) (I' 460) (I' 461) (I' 462) (I' 463) (I' 464) (I' 465) (I' 466) (I' 470) (I' 471) (I' 512) (I' 513) (I' 514) (I' 515) (I' 516) (I' 517) (I' 518) (I' 519)) (hC : m_Cn G' (I' 457)) (hm : m_mdk (I 492) (I' 492)) : q_RL G' I' E := by
  have hs : ∀ a, (a < 457 ∨ a = 493 ∨ (499 ≤ a ∧ a ≤ 507)) → I' a = I a := fun a ha => by rw [hI', q_lk9_of k2 ha, q_lk9_of k1 ha]
  refine ⟨H, m, hf, ns, oc, h', ?_, hR, hC, ?_⟩
  · rw [hs 402 (by omega), hs 405 (by omega), hs 499 (by omega), hs 500 (by omega), hs 501 (by omega), hs 502 (by omega), hs 503 (by omega), hs 504 (by omega), hs 505 (by omega), hs 506 (by omega), hs 507 (by omega), q_tR_same (I' := I') (I := I) (B := 406) (fun a h1 h2 => hs a (by omega))]
    exact hP
  · rw [hs 400 (by omega), hs 401 (by omega), hs 493 (by omega)]
    exact m_Tp_mdk hT hm
/-- the rows of the tape -/
def q_lkT (l : List (Nat × (Nat → Int32))) : Bool := l.all fun q => (Nat.beq q.1 400 || Nat.beq q.1 401) || (Nat.beq q.1 492 || Nat.beq q.1 493)
theorem q_lkT_of {I : Nat → Nat → Int32} {a : Nat} (h4 : a ≠ 400) (h5 : a ≠ 401) (h6 : a ≠ 492) (h7 : a ≠ 493) : ∀ {l : List (Nat × (Nat → Int32))}, q_lkT l = true → q_ws I l a = I a
  | [], _ => rfl
  | q :: t, h => by
    unfold q_lkT at h
    rw [List.all_cons, Bool.and_eq_true, Bool.or_eq_true, Bool.or_eq_true, Bool.or_eq_true] at h
    show q_ur (q_ws I t) q.1 q.2 a = I a
    have hne : a ≠ q.1 := by
      rcases h.1 with (e | e) | (e | e) <;> (rw [Nat.eq_of_beq_eq_true e]; assumption)
    rw [q_ur_n _ _ _ hne]
    exact q_lkT_of h4 h5 h6 h7 (l := t) h.2
theorem q_RL_tp {G : Nat} {I : Nat → m_Rr} {E : Nat → Nat → Option Nat} {H m hf ns oc : Nat} {l1 l2 : List (Nat × (Nat → Int32))} {h : List Nat}
    (hP : m_Pn H m hf ns oc (I 402) (I 405) (E 404) (q_tR I 406) (q_tR E 406) (I 499) (I 500) (I 501) (I 502) (I 503) (I 504) (I 505) (I 506) (I 507))
    (hR : m_R H m hf h (I 457) (I 459) (I 460) (I 461) (I 462) (I 463) (I 464) (I 465) (I 466) (I 470) (I 471) (I 512) (I 513) (I 514) (I 515) (I 516) (I 517) (I 518) (I 519)) (hC : m_Cn G (I 457)) (k1 : q_lkT l1 = true) (k2 : q_lkT l2 = true) (I' : Nat → m_Rr) (hI' : I' = q_ws (q_ws I l1) l2) (hT : m_Tp (I' 400) (I' 401) (I' 492) (I' 493)) : q_RL (G + 100) I' E := by
  have hs : ∀ a, a ≠ 400 → a ≠ 401 → a ≠ 492 → a ≠ 493 → I' a = I a := fun a h4 h5 h6 h7 => by rw [hI', q_lkT_of h4 h5 h6 h7 k2, q_lkT_of h4 h5 h6 h7 k1]
  refine ⟨H, m, hf, ns, oc, h, ?_, ?_, ?_, hT⟩
  · rw [hs 402 (by decide) (by decide) (by decide) (by decide), hs 405 (by decide) (by decide) (by decide) (by decide), hs 499 (by decide) (by decide) (by decide) (by decide), hs 500 (by decide) (by decide) (by decide) (by decide), hs 501 (by decide) (by decide) (by decide) (by decide), hs 502 (by decide) (by decide) (by decide) (by decide), hs 503 (by decide) (by decide) (by decide) (by decide), hs 504 (by decide) (by decide) (by decide) (by decide), hs 505 (by decide) (by decide) (by decide) (by decide), hs 506 (by decide) (by decide) (by decide) (by decide), hs 507 (by decide) (by decide) (by decide) (by decide), q_tR_same (I' := I') (I := I) (B := 406) (fun a h1 h2 => hs a (by omega) (by omega) (by omega) (by omega))]
    exact hP
  · rw [hs 457 (by decide) (by decide) (by decide) (by decide), hs 459 (by decide) (by decide) (by decide) (by decide), hs 460 (by decide) (by decide) (by decide) (by decide), hs 461 (by decide) (by decide) (by decide) (by decide), hs 462 (by decide) (by decide) (by decide) (by decide), hs 463 (by decide) (by decide) (by decide) (by decide), hs 464 (by decide) (by decide) (by decide) (by decide), hs 465 (by decide) (by decide) (by decide) (by decide), hs 466 (by decide) (by decide) (by decide) (by decide), hs 470 (by decide) (by decide) (by decide) (by decide), hs 471 (by decide) (by decide) (by decide) (by decide), hs 512 (by decide) (by decide) (by decide) (by decide), hs 513 (by decide) (by decide) (by decide) (by decide), hs 514 (by decide) (by decide) (by decide) (by decide), hs 515 (by decide) (by decide) (by decide) (by decide), hs 516 (by decide) (by decide) (by decide) (by decide), hs 517 (by decide) (by decide) (by decide) (by decide), hs 518 (by decide) (by decide) (by decide) (by decide), hs 519 (by decide) (by decide) (by decide) (by decide)]
    exact hR
  · rw [hs 457 (by decide) (by decide) (by decide) (by decide)]
    exact m_Cn_mono hC (by omega)
def q_hA (cs : List String) (conv : Int32 → Int64) (w : Nat → Nat → Int64) (o2 : Option Value ⊕ String) (kv : Int32) (w' : Nat → Nat → Int64) : Prop := (∃ x : Int32, o2 = .inl (some (.int x)) ∧ kv = 0 ∧ w' = q_u2 w 528 0 (conv x)) ∨ ∃ (e : String) (j : Nat), o2 = .inr e ∧ q_nth cs j = some e ∧ kv = nI (j + 1) ∧ w' = w
theorem q_nth_nd {es : List String} (hnd : es.Nodup) {i j : Nat} {e : String} (h1 : es[i]? = some e) (h2 : q_nth es j = some e) : i = j := by
  rw [q_nth_eq] at h2
  obtain ⟨hi, h1⟩ := List.getElem?_eq_some_iff.mp h1
  obtain ⟨hj, h2⟩ := List.getElem?_eq_some_iff.mp h2
  exact (List.getElem_inj hnd).mp (h1.trans h2.symm)
theorem q_an_I {es : List String} {r : Int32 ⊕ String} {b th kv : Int32} {w w' : Nat → Nat → Int64} (hA : q_hA es Int32.toInt64 w (q_oI r) kv w') (hm : m_an es r b th) (hnd : es.Nodup) (h9 : es.length ≤ 9) : th = kv ∧ (kv = 0 → w' 528 0 = b.toInt64) := by
  cases r with
  | inl x =>
    obtain ⟨m1, m2⟩ := hm
    rcases hA with ⟨y, a1, a2, a3⟩ | ⟨e, j, a1, -⟩
    · cases a1
      exact ⟨m1.trans a2.symm, fun _ => by rw [a3, ← m2]; exact q_u2_s _ _ _ _⟩
    · cases a1
  | inr e =>
    obtain ⟨i, m1, m2⟩ := hm
    rcases hA with ⟨y, a1, -⟩ | ⟨e', j, a1, a2, a3, a4⟩
    · cases a1
    · cases a1
      obtain rfl := q_nth_nd hnd m1 a2
      have hi := (List.getElem?_eq_some_iff.mp m1).1
      refine ⟨m2.trans a3.symm, fun h0 => ?_⟩
      rw [a3] at h0
      exact absurd ((q_nI0 (by omega)).mp h0) (by omega)
theorem q_an_Z {es : List String} {r : Bool ⊕ String} {b : Bool} {th kv : Int32} {w w' : Nat → Nat → Int64} (hA : q_hA es q_cvZ w (q_oZ r) kv w') (hm : m_anB es r b th) (hnd : es.Nodup) (h9 : es.length ≤ 9) : th = kv ∧ (kv = 0 → w' 528 0 = if q_bz b = 0 then 0 else 1) := by
  cases r with
  | inl x =>
    obtain ⟨m1, m2⟩ := hm
    rcases hA with ⟨y, a1, a2, a3⟩ | ⟨e, j, a1, -⟩
    · cases a1
      exact ⟨m1.trans a2.symm, fun _ => by rw [a3, ← m2]; exact q_u2_s _ _ _ _⟩
    · cases a1
  | inr e =>
    obtain ⟨i, m1, m2⟩ := hm
    rcases hA with ⟨y, a1, -⟩ | ⟨e', j, a1, a2, a3, a4⟩
    · cases a1
    · cases a1
      obtain rfl := q_nth_nd hnd m1 a2
      have hi := (List.getElem?_eq_some_iff.mp m1).1
      refine ⟨m2.trans a3.symm, fun h0 => ?_⟩
      rw [a3] at h0
      exact absurd ((q_nI0 (by omega)).mp h0) (by omega)
section
variable {xt : List ExceptionTableEntry} {g : q_G} {k n : Nat} {I I' : Nat → Nat → Int32} {E E' : Nat → Nat → Option Nat} {L : Nat → Nat → Int64} {pos pc idx ln a1 a2 w1 w2 d2 mc2 ms2 : Nat} {mv2 : List Nat} {ls : List (Option Value)} {st rest As : List Value}
/-- a call of an object's method that returns a value -/
theorem k_lv {M2 : q_M} {b ci v : Nat} {C : String} {T : u_T} {N : Nat} {val : Value} (he : q_nth m_L_law.2.2.2.2.1 pos = some (pc, .invokevirtual idx, ln, a1, a2, w1, w2)) (hw : q_lk m_L_law idx M2.1 (q_gw w1 w2)) (hok2 : q_okM M2 = true) (hcv : q_cvP M2 As.length) (hb4 : Nat.ble 400 b = true) (hbs : q_aS (q_XL L) b = (0, ci, v)) (hcl : vwCl[ci]? = some (C, T, N)) (hC2 : C = M2.1.cls)
    (hCt : q_Ct g M2 d2 mc2 ms2 mv2 (.ref b :: As) (q_hp (q_XL L) I E) (fun o h' => o = .inl (some val) ∧ h' = q_hp (q_XL L) I' E')) (hd : d2 ≤ 1300) (hk : k + mc2 ≤ 601024) (hn : n + ms2 ≤ 7293033) (hcat : (rest.map fun v => v.category).sum ≤ 8) (hmv : ∀ x ∈ mv2, x ∈ q_mvL) (hm1 : q_nmL mv2 ls = true) (hm2 : q_nmS mv2 rest = true) (hst' : st = As.reverse ++ .ref b :: rest)
    (hJ : q_LK xt g (k + mc2) (n + ms2) (pos + 1, ls, val :: rest, q_hp (q_XL L) I' E')) : q_LK xt g k n (pos, ls, st, q_hp (q_XL L) I E) := by
  refine k_callV (h := q_hp (q_XL L) I E) (b := b) okB_L_law hok2 he hw hcv (Nat.le_of_ble_eq_true hb4) hbs hcl hC2 hCt (by omega) (show 59 + 64 * d2 ≤ 84000 by omega) hk hn hcat hmv (q_nmL_of hm1) (q_nmS_of hm2) hst' (fun v3 h3 hq => ?_) (fun E3 h3 hq => by cases hq.1)
  obtain ⟨e1, e2⟩ := hq
  cases e1
  rw [e2]
  exact hJ
/-- a call of a helper -/
theorem k_lh {Mh : q_M} {hh : List (Nat × Nat × Nat × Nat)} {cs : List String} {conv : Int32 → Int64} {o2 : Option Value ⊕ String} (he : q_nth m_L_law.2.2.2.2.1 pos = some (pc, .invokestatic idx, ln, a1, a2, w1, w2)) (hw : q_gw w1 w2 = some (.methodLink m_L_law.1.cls idx Mh.1)) (hcw : Jvm.Cond.codeWith Mh.1 Mh.2.1 Mh.2.2.1 Mh.2.2.2.1 hh ∈ q_tb) (hcs : q_csP Mh As.length) (hmx : Nat.ble Mh.2.2.1 40 = true)
    (hCt : q_CtH g Mh hh 411 mc2 ms2 mv2 As (q_hp (q_XL L) I E) (q_hQ cs conv L o2 I' E')) (hk : k + mc2 ≤ 601024) (hn : n + ms2 ≤ 7293033) (hcat : (rest.map fun v => v.category).sum ≤ 8) (hmv : ∀ x ∈ mv2, x ∈ q_mvL) (hm1 : q_nmL mv2 ls = true) (hm2 : q_nmS mv2 rest = true) (hst' : st = As.reverse ++ rest)
    (hJ : ∀ (kv : Int32) (L' : Nat → Nat → Int64), q_hA cs conv L o2 kv L' → q_LK xt g (k + mc2) (n + ms2) (pos + 1, ls, .int kv :: rest, q_hp (q_XL L') I' E')) : q_LK xt g k n (pos, ls, st, q_hp (q_XL L) I E) := by
  refine k_callH okB_L_law he hw hcw hcs (Nat.le_of_ble_eq_true hmx) hCt (by decide) (show 59 + 64 * 411 ≤ 84000 by decide) hk hn hcat hmv (q_nmL_of hm1) (q_nmS_of hm2) hst' (fun v3 h3 hq => ?_) (fun E3 h3 hq => ?_)
  · rcases hq with ⟨x, b1, b2, b3⟩ | ⟨e, j, b1, b2, b3, b4⟩
    · cases b2; subst b3
      exact hJ 0 _ (Or.inl ⟨x, b1, rfl, rfl⟩)
    · cases b3; subst b4
      exact hJ _ _ (Or.inr ⟨e, j, b1, b2, rfl, rfl⟩)
  · rcases hq with ⟨x, b1, b2, b3⟩ | ⟨e, j, b1, b2, b3, b4⟩
    · cases b2
    · cases b3
/-- a number of the script -/
theorem k_la {i c : Nat} {x : Int32} (he : q_nth m_L_law.2.2.2.2.1 pos = some (pc, .iaload, ln, a1, a2, w1, w2)) (hx : x = nI c) (hi : i + c < g.2.length) (hL : g.2.length ≤ 3072) {h : q_H}
    (hJ : q_LK xt g k n (pos + 1, ls, .int (g.2.getD (i + c) 0) :: rest, h)) : q_LK xt g k n (pos, ls, .int (nI i + x) :: .ref 52 :: rest, h) :=
  k_o_xscr (j := i + c) okB_L_law he (by rw [hx, nI_add]) hi (by omega) hJ
end
theorem ct_X15_thrownL {g : q_G} {L : Nat → Nat → Int64} {I : Nat → Nat → Int32} {E : Nat → Nat → Option Nat} : q_Ct g m_X15_thrown 1 0 0 [] [.ref 492] (q_hp (q_XL L) I E) (fun o h' => o = .inl (some (.int (I 492 0))) ∧ h' = q_hp (q_XL L) I E) :=
  ct_X15_thrown_492 (g := g) (t := 1) (r := 1) (z := 499) (N := 529) (ext := q_e0) (rx := q_r0) (L := L) (d := 1) (Nat.le_refl _) (I := I) (E := E) rfl
theorem q_lgc {x : Int64} : lg_cmp x x = 0 := (lg_cmp_eq x x).mpr rfl
theorem q_oI_res {r : Int32 ⊕ String} {es : List String} (hm : ∃ b th, m_an es r b th) : (∃ v : Int32, q_oI r = .inl (some (.int v))) ∨ ∃ E, q_oI r = .inr E ∧ E ∈ es := by
  obtain ⟨b, th, hm⟩ := hm
  cases r with
  | inl x => exact Or.inl ⟨x, rfl⟩
  | inr e => obtain ⟨i, h1, -⟩ := hm; exact Or.inr ⟨e, rfl, List.mem_of_getElem? h1⟩
theorem q_oZ_res {r : Bool ⊕ String} {es : List String} (hm : ∃ b th, m_anB es r b th) : (∃ v : Int32, q_oZ r = .inl (some (.int v))) ∨ ∃ E, q_oZ r = .inr E ∧ E ∈ es := by
  obtain ⟨b, th, hm⟩ := hm
  cases r with
  | inl x => exact Or.inl ⟨_, rfl⟩
  | inr e => obtain ⟨i, h1, -⟩ := hm; exact Or.inr ⟨e, rfl, List.mem_of_getElem? h1⟩
