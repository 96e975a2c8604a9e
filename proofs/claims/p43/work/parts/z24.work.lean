/-! THE LAW'S LOOP: what would be; a step at a time, on both -/
abbrev la_l24 (s : Nat) (v4 v5 : Int32) : List (Option Value) := [some (.ref 52), none, some (.ref s), some (.ref 400), some (.int v4), some (.int v5), none, none, none, none, none, none, none, none, none, none, none, none, none, none, none, none, none, none]
abbrev la_l202 (s : Nat) (v4 v5 v11 v12 v13 v14 v15 : Int32) : List (Option Value) := [some (.ref 52), none, some (.ref s), some (.ref 400), some (.int v4), some (.int v5), none, none, none, none, none, some (.int v11), some (.int v12), some (.int v13), some (.int v14), some (.int v15), none, none, none, none, none, none, none, none]
abbrev la_l302 (s : Nat) (v4 v5 : Int32) (v15 v16 v17 : Nat) (v18 : Int32) : List (Option Value) := [some (.ref 52), none, some (.ref s), some (.ref 400), some (.int v4), some (.int v5), none, none, none, none, none, none, none, none, none, some (.ref v15), some (.ref v16), some (.ref v17), some (.int v18), none, none, none, none, none]
/-- once worked: every third time three rows are made, and more is done -/
def la_FX (xt : List ExceptionTableEntry) (g : q_G) (mc ms : Nat) (mv : List Nat) (Q : q_Po) (s : Nat) (v4 v5 : Int32) (k n : Nat) (h : q_H) : Prop :=
  ¬ (3 : Int32) = 0 ∧ (((v5 - v5 / (3 : Int32) * (3 : Int32)) ≤ 0 → (∃ L9, v4 = nI L9 ∧ q_s16 L9 ∧ (k + 1 ≤ mc ∧ n + L9 ≤ ms) ∧ (∃ L10, v4 = nI L10 ∧ q_s16 L10 ∧ ((k + 1) + 1 ≤ mc ∧ (n + L9) + L10 ≤ ms) ∧ (∃ L11, v4 = nI L11 ∧ q_s16 L11 ∧ (((k + 1) + 1) + 1 ≤ mc ∧ ((n + L9) + L10) + L11 ≤ ms) ∧ la_K xt g mc ms mv Q (((k + 1) + 1) + 1) (((n + L9) + L10) + L11) (302, la_l302 s v4 v5 (q_nx h) (q_nx (q_new h (1, 0, L9))) (q_nx (q_new (q_new h (1, 0, L9)) (1, 0, L10))) 0, [], q_new (q_new (q_new h (1, 0, L9)) (1, 0, L10)) (1, 2, L11)))))) ∧ (¬ (v5 - v5 / (3 : Int32) * (3 : Int32)) ≤ 0 → la_K xt g mc ms mv Q k n (24, la_l24 s v4 (v5 + 1), [], h)))
section LAWORK
variable {xt : List ExceptionTableEntry} {g : q_G} {mc ms : Nat} {mv : List Nat} {Qp : q_Po} {H m hf ns oc G nb s k n p st : Nat} {Q : Nat → Nat → Nat} {pn nu : m_Rr} {od : Nat → Option Nat} {T1 : Nat → m_Rr} {K1 : Nat → Nat → Option Nat} {h h' : q_H} {v4 v5 v6 v11 v13 : Int32} {v7 : Int64} {mq pd po pq pr ps pt pe pc : m_Rr} {Y Y0 : m_SB}
theorem la_RB_lk (e : la_lk h h') (hR : m_RB H m hf (la_X (q_I h)) Y) : m_RB H m hf (la_X (q_I h')) Y := by
  obtain ⟨hL, hR⟩ := hR
  exact ⟨hL, la_m_lk e hR⟩
theorem la_D_Y (hD : la_D H m hf ns Q pn nu od T1 K1 G h s) : ∃ Y, m_RB H m hf (la_X (q_I h)) Y := by
  obtain ⟨⟨c, pl, rows, ⟨hL, Y, ν, hl, ll, hkL, hR, hB⟩, hN⟩, hA⟩ := hD
  exact ⟨Y, hL, hR⟩
theorem la_D_Ct (hD : la_D H m hf ns Q pn nu od T1 K1 G h s) : lc_Ct G (q_I h 457) := by
  obtain ⟨⟨c, pl, rows, ⟨hL, Y, ν, hl, ll, hkL, hR, hB⟩, hN⟩, hA⟩ := hD
  exact la_Ct hB hN
theorem la_D_Sim (hD : la_D H m hf ns Q pn nu od T1 K1 G h s) : 492 ≤ s ∧ s < q_nx h ∧ q_sh h s = (0, 12, 0) := la_RB_s hD.1.2.2.2.1
theorem la_D_Pl (hD : la_D H m hf ns Q pn nu od T1 K1 G h s) : la_Pl pn nu od T1 K1 h := hD.1.2.1
theorem lw_nm {l : List (Option Value)} (hl : ∀ a : Nat, some (Value.ref a) ∈ l → a < 471 ∨ 489 ≤ a) : (∀ i a, q_nth l i = some (some (.ref a)) → a ∉ [471, 472]) ∧ ∀ i a, q_nth l i = some (some (.ref a)) → a ∉ [487, 488] := by
  refine ⟨fun i a hi hm => ?_, fun i a hi hm => ?_⟩
  · rw [q_nth_eq] at hi
    have h1 := hl a (List.mem_of_getElem? hi)
    have hm : @Eq Nat a 471 ∨ @Eq Nat a 472 := by simpa using hm
    omega
  · rw [q_nth_eq] at hi
    have h1 := hl a (List.mem_of_getElem? hi)
    have hm : @Eq Nat a 487 ∨ @Eq Nat a 488 := by simpa using hm
    omega
theorem lw_go1 {X X' : m_CB} {ok : Bool} (h : m_ps pn nu od T1 K1 X = some (ok, X')) : m_gC pn nu od T1 K1 (nI 1) 4096 X 0 0 = some (if ok = true then 1 else 0, X') := by
  rw [show nI 1 = (1 : Int32) from rfl]
  exact lc_go1 h
/-- one step, of the class and by hand -/
theorem lw_work (hT : la_St H m hf ns oc Q pn nu od T1 K1) (hD : la_D H m hf ns Q pn nu od T1 K1 G h s) (hG : G < 2 ^ 28) (hPn : m_Pn H m hf ns oc pn nu od T1 K1 mq pd po pq pr ps pt pe pc) (hpos : 0 < ns) (hX : m_RB H m hf (la_X (q_I h)) Y) {V : Prop} (hV : V) {C : Nat → Nat → Int32 → Int32 → q_H → Prop} (hk : k + 103 ≤ mc) (hn : n + 12437 ≤ ms)
    (hC : ∀ k' n' ok Y' x y h', k' ≤ k + 103 → n' ≤ n + 12437 → ((ok = true ∧ x = 1) ∨ (ok = false ∧ x = 0)) → m_go mq pd po pq pr ps pt pe pc Y = some (ok, Y') → m_RB H m hf (la_X (q_I h')) Y' → la_D H m hf ns Q pn nu od T1 K1 (G + 2) h' s → (q_I h' 457 12 = q_I h 457 12 ∨ q_I h' 457 12 = q_I h 457 12 + 1) → (q_I h' 457 11 = q_I h 457 11 ∨ (ok = false ∧ q_I h' 457 11 = q_I h 457 11 + 1)) → C k' n' x y h') :
    q_cI g m_X12_work [471, 472] 2048 mc ms [.ref 400, .int (nI 1)] h k n V (fun k n x h => (400 ≤ s ∧ q_sh h s = (0, 12, 0)) ∧ q_cI g m_X14_work [] 2048 mc ms [.ref s, .int (nI 1)] h k n True (fun k n y h => C k n x y h)) := by
  obtain ⟨hD0, hA⟩ := id hD
  obtain ⟨⟨c1, c2⟩, pl, rows, hRB, hN⟩ := id hD0
  obtain ⟨⟨H0, H6⟩, ⟨hf32, hm64⟩, ⟨mp, hP⟩, ⟨q4, hns12⟩, ⟨q5, hoc⟩, hTl⟩ := id hT
  obtain ⟨o2, o3, o1⟩ := la_D_Sim hD
  obtain ⟨g0, p0, q0, t1, t2, t3, t4, t5, t6, t7⟩ := la_D_Ct hD
  have t1' : (la_X (q_I h)).1 10 = nI g0 := t1
  obtain ⟨ok, X', Y', y1, y2, y3, -, y5, y6⟩ := m_step hPn hX hpos t1' (by omega)
  have hA' := lc_stepA hPn hX hA (p0 := p0) t2 (by omega) hpos t1' (by omega) y1
  have h11 := lc_step11 hPn hX hpos t1' (by omega) y1
  have z1 : m_gC pn nu od T1 K1 (nI 1) 4096 (la_X (q_I h)) 0 0 = some (if ok = true then 1 else 0, X') := lw_go1 y1
  obtain ⟨N, hN⟩ : ∃ N : Nat, N = 1 := ⟨1, rfl⟩
  rw [← hN] at z1 ⊢
  have eW := lc_fwork (N := N) (X := la_X (q_I h)) (X' := X') (pn := pn) (nu := nu) (od := od) (T1 := T1) (K1 := K1) hpos q4 (by omega) (by omega) (by omega) z1
  have eM := la_wk (N := N) (r0 := (.inl (if ok = true then 1 else 0), X')) pl eW
  have hD1 := la_D0_j (l := [(457, X'.1), (459, X'.2.1), (460, X'.2.2.1), (461, X'.2.2.2.1), (462, X'.2.2.2.2.1), (463, X'.2.2.2.2.2.1), (464, X'.2.2.2.2.2.2.1), (465, X'.2.2.2.2.2.2.2.1), (466, X'.2.2.2.2.2.2.2.2.1), (467, X'.2.2.2.2.2.2.2.2.2.1), (468, X'.2.2.2.2.2.2.2.2.2.2.1), (469, X'.2.2.2.2.2.2.2.2.2.2.2.1), (470, X'.2.2.2.2.2.2.2.2.2.2.2.2.1), (471, X'.2.2.2.2.2.2.2.2.2.2.2.2.2.1), (472, X'.2.2.2.2.2.2.2.2.2.2.2.2.2.2.1), (490, X'.2.2.2.2.2.2.2.2.2.2.2.2.2.2.2.1), (491, X'.2.2.2.2.2.2.2.2.2.2.2.2.2.2.2.2)]) rfl rfl hD0
  refine q_cI_of (fun x h5 => x = (if ok = true then 1 else 0) ∧ h5 = q_jI h [(457, X'.1), (459, X'.2.1), (460, X'.2.2.1), (461, X'.2.2.2.1), (462, X'.2.2.2.2.1), (463, X'.2.2.2.2.2.1), (464, X'.2.2.2.2.2.2.1), (465, X'.2.2.2.2.2.2.2.1), (466, X'.2.2.2.2.2.2.2.2.1), (467, X'.2.2.2.2.2.2.2.2.2.1), (468, X'.2.2.2.2.2.2.2.2.2.2.1), (469, X'.2.2.2.2.2.2.2.2.2.2.2.1), (470, X'.2.2.2.2.2.2.2.2.2.2.2.2.1), (471, X'.2.2.2.2.2.2.2.2.2.2.2.2.2.1), (472, X'.2.2.2.2.2.2.2.2.2.2.2.2.2.2.1), (490, X'.2.2.2.2.2.2.2.2.2.2.2.2.2.2.2.1), (491, X'.2.2.2.2.2.2.2.2.2.2.2.2.2.2.2.2)]) (q_Ct_mono (lq_work (d := 1000) (by decide) c1 c2 eM) (fun o h5 hq => ⟨_, hq.1, rfl, hq.2⟩)) (by decide) (show 59 + 64 * 1000 ≤ q_lc 2048 by decide) (by omega) (by omega) hV (fun x h5 hp => ?_)
  obtain ⟨ex, q2⟩ := hp
  have eX5 : la_X (q_I h5) = X' := by rw [q2]; rfl
  have eA5 : lc_Ag (q_I h5 457) (q_I h5 459) (q_I h5 462) := by rw [q2]; exact hA'
  rw [← q2] at hD1
  have hS5 : q_sh h5 s = (0, 12, 0) := by rw [q2]; exact o1
  refine ⟨⟨z_4 o2, hS5⟩, ?_⟩
  have hw := z_workC (g0 := g) (d := 1000) (N := N) (by decide) (by decide) hP q4 hpos (by omega) q5 hoc hTl hf32 hm64 (by omega) hD1.2.2.1 hD1.2.2.2.1 t1' (by omega) hD1.2.2.2.2
  refine q_cI_of _ hw (by decide) (show 59 + 64 * 1000 ≤ q_lc 2048 by decide) (by omega) (by omega) trivial (fun y h6 hp => ?_)
  obtain ⟨X6, e1, e2, f6, e4, N6⟩ := hp
  rw [z1] at e1
  cases e1
  have eX : la_X (q_I h6) = X' := (la_X_e (fun a ha => (z_I_fr hD1.1.1 f6 ha).1)).trans eX5
  have hD6 : la_D H m hf ns Q pn nu od T1 K1 (G + 2) h6 s := by
    refine ⟨?_, ?_⟩
    · rw [eX]
      exact la_D0_fr hD1 f6 e2 (z_Cn_mono N6 (by omega))
    · rw [(z_I_fr hD1.1.1 f6 (show 457 < 492 by decide)).1, (z_I_fr hD1.1.1 f6 (show 459 < 492 by decide)).1, (z_I_fr hD1.1.1 f6 (show 462 < 492 by decide)).1]
      exact eA5
  have e57 : q_I h6 457 = X'.1 := congrArg Prod.fst eX
  refine hC _ _ ok Y' x _ h6 (by omega) (by omega) ?_ y2 (by rw [eX]; exact y3) hD6 (by rw [e57]; exact y6) (by rw [e57]; exact h11)
  rw [ex]
  cases ok with
  | true => exact Or.inl ⟨rfl, rfl⟩
  | false => exact Or.inr ⟨rfl, rfl⟩
end LAWORK
