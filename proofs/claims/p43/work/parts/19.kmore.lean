/-! further rules: rows filled, steps, constants' texts, what throws -/
def q_fil (L : Nat) (v : Int32) (r : Nat → Int32) : Nat → Int32 := fun i => bif Nat.blt i L then v else r i
theorem q_fil_lt {L i : Nat} {v : Int32} {r : Nat → Int32} (h : i < L) : q_fil L v r i = v := by unfold q_fil; rw [Nat.blt_eq.mpr h, cond_true]
theorem q_fil_ge {L i : Nat} {v : Int32} {r : Nat → Int32} (h : L ≤ i) : q_fil L v r i = r i := by
  unfold q_fil
  cases hb : Nat.blt i L with
  | true => exact absurd (Nat.blt_eq.mp hb) (by omega)
  | false => rfl
theorem q_fil_0 {v : Int32} {r : Nat → Int32} : q_fil 0 v r = r := by funext i; exact q_fil_ge (Nat.zero_le _)
theorem q_fil_s {L : Nat} {v : Int32} {r : Nat → Int32} : q_up (q_fil L v r) L v = q_fil (L + 1) v r := by
  funext i
  unfold q_up
  by_cases h : i = L
  · subst h; rw [q_beqS, cond_true, q_fil_lt (by omega)]
  · rw [q_beqN h, cond_false]
    rcases Nat.lt_or_ge i L with h1 | h1
    · rw [q_fil_lt h1, q_fil_lt (by omega)]
    · rw [q_fil_ge h1, q_fil_ge (by omega)]
theorem ct_fill {g : q_G} {X : q_Am} {d : Nat} (hd : 1 ≤ d) {I : Nat → Nat → Int32} {E : Nat → Nat → Option Nat} {a L : Nat} {v : Int32} (ha : Nat.ble 400 a = true) (hsh : q_aS X a = (1, 0, L)) (hL : Nat.blt L 65536 = true) :
    q_Ct g m_J7_fill_53178 d 0 0 [] [.ref a, .int v] (q_hp X I E) (fun o h' => o = .inl none ∧ h' = q_hp X (q_ws I [(a, q_fil L v (I a))]) (q_ws E [])) := by
  have ha := Nat.le_of_ble_eq_true ha
  have hL := q_L31 hL
  refine q_Ct_of ok_J7_fill_53178 (Nat.le_of_ble_eq_true rfl) ?_ _ rfl rfl
  refine q_go 3 (c' := (3, [some (.ref a), some (.int v), some (.int 0), none], [.ref a], q_hp X I E)) ok_J7_fill_53178 rfl ?_
  refine q_o_alenI (h := q_hp X I E) ok_J7_fill_53178 rfl ha hsh ?_
  refine q_go 1 (c' := (5, [some (.ref a), some (.int v), some (.int (nI 0)), some (.int (nI L))], [], q_hp X (q_ur I a (q_fil 0 v (I a))) E)) ok_J7_fill_53178 (by rw [q_fil_0, q_ur_id]; rfl) ?_
  have key : ∀ n i, i + n = L → q_J g m_J7_fill_53178 d 0 0 (q_hp X I E) [] (fun o h' => o = .inl none ∧ h' = q_hp X (q_ws I [(a, q_fil L v (I a))]) (q_ws E [])) 0 0 (5, [some (.ref a), some (.int v), some (.int (nI i)), some (.int (nI L))], [], q_hp X (q_ur I a (q_fil i v (I a))) E) := by
    intro n
    induction n with
    | zero =>
      intro i hi
      obtain rfl : i = L := by omega
      refine q_if 3 (P := nI i ≤ nI i) (a := (14, [some (.ref a), some (.int v), some (.int (nI i)), some (.int (nI i))], [], q_hp X (q_ur I a (q_fil i v (I a))) E)) (b := (8, [some (.ref a), some (.int v), some (.int (nI i)), some (.int (nI i))], [], q_hp X (q_ur I a (q_fil i v (I a))) E)) ok_J7_fill_53178 rfl (fun _ => ?_) (fun h => absurd (nI_le (Nat.le_refl _) hL) h)
      exact q_o_vret ok_J7_fill_53178 rfl rfl (Nat.le_refl _) (Nat.le_refl _) ⟨rfl, rfl⟩
    | succ n ih =>
      intro i hi
      refine q_if 3 (P := nI L ≤ nI i) (a := (14, [some (.ref a), some (.int v), some (.int (nI i)), some (.int (nI L))], [], q_hp X (q_ur I a (q_fil i v (I a))) E)) (b := (8, [some (.ref a), some (.int v), some (.int (nI i)), some (.int (nI L))], [], q_hp X (q_ur I a (q_fil i v (I a))) E)) ok_J7_fill_53178 rfl (fun h => absurd h (nI_ge (by omega) hL)) (fun _ => ?_)
      refine q_go 3 (c' := (11, [some (.ref a), some (.int v), some (.int (nI i)), some (.int (nI L))], [.int v, .int (nI i), .ref a], q_hp X (q_ur I a (q_fil i v (I a))) E)) ok_J7_fill_53178 rfl ?_
      refine q_o_iast (h := q_hp X (q_ur I a (q_fil i v (I a))) E) (L := L) (j := i) ok_J7_fill_53178 rfl ha hsh rfl (by omega) hL ?_
      dsimp only [q_nx, q_sh, q_I, q_R, q_E, q_L]
      refine q_go 2 (c' := (5, [some (.ref a), some (.int v), some (.int (nI i + 1)), some (.int (nI L))], [], q_hp X (q_u2 (q_ur I a (q_fil i v (I a))) a i v) E)) ok_J7_fill_53178 rfl ?_
      have e1 : q_u2 (q_ur I a (q_fil i v (I a))) a i v = q_ur I a (q_fil (i + 1) v (I a)) := by
        rw [← q_fil_s, show q_u2 (q_ur I a (q_fil i v (I a))) a i v = q_ur (q_ur I a (q_fil i v (I a))) a (q_up (q_ur I a (q_fil i v (I a)) a) i v) from rfl, q_ur_ss, q_ur_s]
      rw [e1, ← nI_succ]
      exact ih (i + 1) (by omega)
  exact key L 0 (by omega)
/-- the steps -/
theorem q_isSt_ok (X : q_Am) {B j : Nat} (hB : B = 406 ∨ B = 430) (hj : j < 20) : q_aS X (B + j) = (0, 8, 0) ∧ 400 ≤ B + j := by
  rcases hB with rfl | rfl <;>
  (match j, hj with
    | 0, _ | 1, _ | 2, _ | 3, _ | 4, _ | 5, _ | 6, _ | 7, _ | 8, _ | 9, _ | 10, _ | 11, _ | 12, _ | 13, _ | 14, _ | 15, _ | 16, _ | 17, _ | 18, _ | 19, _ => exact ⟨rfl, Nat.le_of_ble_eq_true rfl⟩
    | z + 20, hz => exact absurd hz (by omega))
theorem q_told (X : q_Am) {a B j : Nat} (hP : (a = 403 ∧ B = 406) ∨ (a = 427 ∧ B = 430)) (hj : j < 20) : q_aR X a j = some (B + j) := by
  rcases hP with ⟨rfl, rfl⟩ | ⟨rfl, rfl⟩ <;>
  (match j, hj with
    | 0, _ | 1, _ | 2, _ | 3, _ | 4, _ | 5, _ | 6, _ | 7, _ | 8, _ | 9, _ | 10, _ | 11, _ | 12, _ | 13, _ | 14, _ | 15, _ | 16, _ | 17, _ | 18, _ | 19, _ => rfl
    | z + 20, hz => exact absurd hz (by omega))
def q_nin {α : Type} (B : Nat) (l : List (Nat × α)) : Bool := l.all fun p => Nat.blt p.1 B || Nat.ble (B + 20) p.1
theorem q_wsT0 {α : Type} {I : Nat → Nat → α} {l : List (Nat × (Nat → α))} {B j f : Nat} (hj : j < 20) (h : q_nin B l = true) : q_ws I l (B + j) f = I (B + j) f := by
  induction l with
  | nil => rfl
  | cons p t ih =>
    unfold q_nin at h
    simp only [List.all_cons, Bool.and_eq_true, Bool.or_eq_true] at h
    show q_ur (q_ws I t) p.1 p.2 (B + j) f = _
    rw [q_ur_n]
    · exact ih (by unfold q_nin; exact h.2)
    · rcases h.1 with h1 | h1
      · have := Nat.blt_eq.mp h1; omega
      · have := Nat.le_of_ble_eq_true h1; omega
theorem q_inISE : Jvm.Cond.initialized "java/lang/IllegalStateException" ∈ q_tb := List.mem_filter.mpr ⟨by decide +kernel, rfl⟩
theorem q_inIAE : Jvm.Cond.initialized "java/lang/IllegalArgumentException" ∈ q_tb := List.mem_filter.mpr ⟨by decide +kernel, rfl⟩
theorem q_inIOB : Jvm.Cond.initialized "java/lang/IndexOutOfBoundsException" ∈ q_tb := List.mem_filter.mpr ⟨by decide +kernel, rfl⟩
theorem q_fitISE : Bundle.fit "java/lang/IllegalStateException" = true := by decide +kernel
theorem q_fitIAE : Bundle.fit "java/lang/IllegalArgumentException" = true := by decide +kernel
theorem q_fitIOB : Bundle.fit "java/lang/IndexOutOfBoundsException" = true := by decide +kernel
theorem q_fits : ∀ n ∈ q_exn, Bundle.fit n = true := by decide +kernel
section QKMORE
variable {g : q_G} {M M2 : q_M} {d mc ms d2 mc2 ms2 : Nat} {h0 : q_H} {mv mv2 : List Nat} {Q : (Option Value ⊕ String) → q_H → Prop} {k n pos pos' pc ln a1 a2 w1 w2 a ci v idx L j b B : Nat} {ls ls' : List (Option Value)} {r st st' As rest : List Value} {h : q_H}
variable {X X2 : q_Am} {I : Nat → Nat → Int32} {E : Nat → Nat → Option Nat} {lI lI' l2I : List (Nat × (Nat → Int32))} {lE lE' l2E : List (Nat × (Nat → Option Nat))} {i x : Int32}
theorem q_ktold (hok : q_okM M = true) (he : q_nth M.2.2.2.2.1 pos = some (pc, .aaload, ln, a1, a2, w1, w2)) (hP : (a = 403 ∧ B = 406) ∨ (a = 427 ∧ B = 430)) (hix : q_ix i 20 = some j) (hp : pos + 1 = pos')
    (hJ : q_J g M d mc ms h0 mv Q k n (q_kc X I E pos' ls (.ref (B + j) :: r) lI lE)) : q_J g M d mc ms h0 mv Q k n (q_kc X I E pos ls (.int i :: .ref a :: r) lI lE) := by
  subst hp
  have h1 := q_told X hP (q_ix_lt hix)
  have hs : q_aS X a = (3, 4, 20) ∧ 400 ≤ a := by rcases hP with ⟨rfl, rfl⟩ | ⟨rfl, rfl⟩ <;> exact ⟨rfl, by decide⟩
  refine q_o_aaldR (h := q_hp X (q_ws I lI) (q_ws E lE)) hok he hs.2 hs.1 (q_ix_eq hix) (q_ix_lt hix) (by decide) ?_
  have hq2 : q_R (q_hp X (q_ws I lI) (q_ws E lE)) a j = some (B + j) := h1
  rw [hq2]
  exact hJ
theorem q_kgT (hok : q_okM M = true) (he : q_nth M.2.2.2.2.1 pos = some (pc, .getfield idx, ln, ci, a2, w1, w2)) (hB : B = 406 ∨ B = 430) (hj : j < 20) (hci : ci = 8) (hkd : q_kd 8 0 a2 = 0) (hx : q_ws I lI (B + j) a2 = x) (hp : pos + 1 = pos')
    (hJ : q_J g M d mc ms h0 mv Q k n (q_kc X I E pos' ls (.int x :: r) lI lE)) : q_J g M d mc ms h0 mv Q k n (q_kc X I E pos ls (.ref (B + j) :: r) lI lE) := by
  subst hp; subst hci; subst hx
  obtain ⟨h1, h2⟩ := q_isSt_ok X hB hj
  exact q_o_getI (h := q_hp X (q_ws I lI) (q_ws E lE)) hok he h2 h1 (by decide) hkd hJ
theorem q_kgK {o : Option Nat} (hok : q_okM M = true) (he : q_nth M.2.2.2.2.1 pos = some (pc, .getfield idx, ln, ci, a2, w1, w2)) (hB : B = 406 ∨ B = 430) (hj : j < 20) (hci : ci = 8) (hkd : q_kd 8 0 a2 = 2) (hx : q_ws E lE (B + j) a2 = o) (hp : pos + 1 = pos')
    (hn : o = none → q_J g M d mc ms h0 mv Q k n (q_kc X I E pos' ls (.null :: r) lI lE)) (hs : ∀ b, o = some b → b < 49 → q_J g M d mc ms h0 mv Q k n (q_kc X I E pos' ls (.ref b :: r) lI lE)) : q_J g M d mc ms h0 mv Q k n (q_kc X I E pos ls (.ref (B + j) :: r) lI lE) := by
  subst hp; subst hci; subst hx
  obtain ⟨h1, h2⟩ := q_isSt_ok X hB hj
  refine q_clo_J (fun hC => ?_)
  refine q_o_getE (h := q_hp X (q_ws I lI) (q_ws E lE)) hok he h2 h1 (by decide) hkd ?_
  have hq2 : q_E (q_hp X (q_ws I lI) (q_ws E lE)) (B + j) a2 = q_ws E lE (B + j) a2 := rfl
  cases hq : q_ws E lE (B + j) a2 with
  | none => rw [hq2, hq]; exact hn hq
  | some b => rw [hq2, hq]; exact hs b hq (hC.2.1 _ a2 b hq)
theorem q_kxt (hok : q_okM M = true) (he : q_nth M.2.2.2.2.1 pos = some (pc, .getfield idx, ln, a1, a2, w1, w2)) (hb : b < 49) (hw : q_gw w1 w2 = some (.fieldLink M.1.cls idx "HayBarn$Sign" "text" "Ljava/lang/String;") ∨ ∃ host, q_gw w1 w2 = some (.fieldLinkNest M.1.cls idx "HayBarn$Sign" "text" "Ljava/lang/String;" host)) (hp : pos + 1 = pos')
    (hJ : q_J g M d mc ms h0 mv Q k n (q_kc X I E pos' ls (.ref (100 + b) :: r) lI lE)) : q_J g M d mc ms h0 mv Q k n (q_kc X I E pos ls (.ref b :: r) lI lE) := by
  subst hp
  rcases hw with hw | hw
  · exact q_o_xtext (ref := "") (h := q_hp X (q_ws I lI) (q_ws E lE)) hok he hb (Or.inl hw) hJ
  · exact q_o_xtext (ref := "") (h := q_hp X (q_ws I lI) (q_ws E lE)) hok he hb (Or.inr hw) hJ
def q_okstr (x : Nat) : Option Unit := if q_isStr x = true ∧ x < 300 then some () else none
theorem q_sok {x : Nat} {u : Unit} (h : q_okstr x = some u) : q_isStr x = true ∧ x < 300 := by
  unfold q_okstr at h
  split at h
  · assumption
  · cases h
theorem q_isSs {b : Nat} (h : b < 49) : q_isStr (100 + b) = true ∧ 100 + b < 300 := by
  refine ⟨?_, by omega⟩
  unfold q_isStr
  rw [Nat.ble_eq_true_of_le (show 100 ≤ 100 + b by omega), show Nat.blt (100 + b) 149 = true from Nat.blt_eq.mpr (by omega)]
  rfl
theorem q_Jwd {k2 n2 : Nat} {c : q_C} (hk : k ≤ k2) (hn : n ≤ n2) (hJ : q_J g M d mc ms h0 mv Q k2 n2 c) : q_J g M d mc ms h0 mv Q k n c := by
  intro p e s m args below meth cd D cA ρ0 ρ A H locs rls en hen hB hS
  exact W.widen hk hn (hJ p e s m args below meth cd D cA ρ0 ρ A H locs rls en hen hB hS)
end QKMORE
