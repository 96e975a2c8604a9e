/-! TEACHING, by hand: the class's, the model's -/
theorem q_ws_rng {α : Type} {I : Nat → α} {lo hi a : Nat} : ∀ {l : List (Nat × α)}, (l.all fun q => Nat.ble lo q.1 && Nat.blt q.1 hi) = true → (a < lo ∨ hi ≤ a) → q_ws I l a = I a
  | [], _, _ => rfl
  | q :: t, h, ha => by
    rw [List.all_cons, Bool.and_eq_true, Bool.and_eq_true] at h
    have h1 := Nat.le_of_ble_eq_true h.1.1
    have h2 := Nat.blt_eq.mp h.1.2
    show q_ur (q_ws I t) q.1 q.2 a = I a
    rw [q_ur_n _ _ _ (by omega)]
    exact q_ws_rng h.2 ha
abbrev q_mvC : List Nat := List.range' 402 48
theorem q_mvC_sw {a : Nat} (h : a ∉ q_mvC) : q_sw2 a = a := q_sw2_n (by
  have : ¬ (402 ≤ a ∧ a < 402 + 48) := fun h2 => h (List.mem_range'_1.mpr h2)
  omega)
abbrev q_XP (L : Nat → Nat → Int64) : q_Am := (1, 0, 1, 499, 492, q_e0, q_r0, L)
theorem q_ref9 {l : List (Option Value)} {N : Nat} (h : (l.all fun v => match v with | some (.ref a) => Nat.blt a N | _ => true) = true) : ∀ i a, q_nth l i = some (some (.ref a)) → a < N := by
  intro i a hi
  rw [q_nth_eq] at hi
  have h1 := List.all_eq_true.mp h _ (List.mem_of_getElem? hi)
  exact Nat.blt_eq.mp h1
set_option maxHeartbeats 4000000 in
theorem ctb_X2_begin {g : q_G} {L : Nat → Nat → Int64} {d : Nat} (hd : 3 ≤ d) {I : Nat → Nat → Int32} {E : Nat → Nat → Option Nat} {r0 : (Nat → Int32) × (Nat → Int32) × (Nat → Int32) × (Nat → Int32) × (Nat → Int32)} (hf : f_X2_begin (I 426) (I 457) (I 459) (I 465) (I 466) (I 470) = some r0) :
    q_Ct g m_X2_begin d 0 0 q_mvC [.ref 457, .ref 426] ((492, q_aS (q_XP L), I, q_u2 (q_u2 (q_aR (q_XP L)) 400 1 (some 426)) 400 2 (some 402), E, L) : q_H) (fun o h' => o = .inl none ∧ h' = q_hp (q_XR (fun a => L (q_sw2 a))) (q_ws (fun a => I (q_sw2 a)) [(457, r0.1), (459, r0.2.1), (465, r0.2.2.1), (466, r0.2.2.2.1), (470, r0.2.2.2.2)]) (q_ws (fun a => E (q_sw2 a)) [])) := by
  rw [f_X2_begin] at hf
  refine q_Ct_of ok_X2_begin (Nat.le_of_ble_eq_true rfl) ?_ _ rfl rfl
  refine q_go 2 (c' := (2, [some (.ref 457), some (.ref 426)], [.ref 426, .ref 457], ((492, q_aS (q_XP L), I, q_u2 (q_u2 (q_aR (q_XP L)) 400 1 (some 426)) 400 2 (some 402), E, L) : q_H))) ok_X2_begin rfl ?_
  refine q_o_putR (h := ((492, q_aS (q_XP L), I, q_u2 (q_u2 (q_aR (q_XP L)) 400 1 (some 426)) 400 2 (some 402), E, L) : q_H)) (v := 0) ok_X2_begin rfl (by decide) rfl (by decide) rfl ?_
  refine q_vck q_sw2 (Rz := q_Rs) (Sz := q_shX 1 0 1 q_e0) (N := 492) (I := I) (E := E) (L := L) (ls' := [some (.ref 457), some (.ref 402)]) (st' := []) q_ckS q_Rs3 q_rgS (Nat.le_refl _) (fun a b _ _ h => q_sw2_inj h) (fun a ha => q_sw2_n (by omega)) (Nat.le_refl _) rfl rfl (fun a ha => absurd ha List.not_mem_nil) (q_ref9 rfl) (fun a _ hm => q_mvC_sw hm) ?_
  have e1 : q_sw2 402 = 426 := rfl
  have e2 : q_sw2 457 = 457 := rfl
  have e3 : q_sw2 459 = 459 := rfl
  have e4 : q_sw2 465 = 465 := rfl
  have e5 : q_sw2 466 = 466 := rfl
  have e6 : q_sw2 470 = 470 := rfl
  generalize hI9 : (fun a => I (q_sw2 a)) = I9
  generalize hE9 : (fun a => E (q_sw2 a)) = E9
  generalize hL9 : (fun a => L (q_sw2 a)) = L9
  rw [show I 426 = I9 402 by rw [← hI9]; rfl, show I 457 = I9 457 by rw [← hI9]; rfl, show I 459 = I9 459 by rw [← hI9]; rfl, show I 465 = I9 465 by rw [← hI9]; rfl, show I 466 = I9 466 by rw [← hI9]; rfl, show I 470 = I9 470 by rw [← hI9]; rfl] at hf
  change q_J g m_X2_begin d 0 0 _ _ _ 0 0 (q_kc (q_XR L9) I9 E9 3 [some (.ref 457), some (.ref 402)] [] [] [])
  refine q_blk 2 [] (c' := q_kc (q_XR L9) I9 E9 5 [some (.ref 457), some (.ref 402)] [.ref 458] [] []) ok_X2_begin rfl q_cn ?_
  obtain ⟨r1, hr1, hf⟩ := q_bd hf
  refine q_kV (M2 := m_X1_clear) (As := []) (b := 458) (v2 := none) ok_X2_begin ok_X1_clear cv_X1_clear (ct_X1_clear_458 (d := 2) (Nat.le_refl _) hr1) rfl rfl (Or.inl rfl) rfl rfl rfl rfl (Nat.le_trans (Nat.le_of_ble_eq_true rfl) hd) (Nat.le_of_ble_eq_true rfl) (Nat.le_of_ble_eq_true rfl) (Nat.le_of_ble_eq_true rfl) (fun x hx => absurd hx List.not_mem_nil) (q_nmL0 _) (q_nmS0 _) rfl (pos' := 6) (st' := []) (lI' := [(459, r1)]) (lE' := []) rfl rfl (q_mgw rfl rfl) rfl ?_
  refine q_blk 4 [] (c' := q_kc (q_XR L9) I9 E9 10 [some (.ref 457), some (.ref 402)] [.int ((I9 402) 1), .ref 465] [(459, r1)] []) ok_X2_begin rfl q_cn ?_
  obtain ⟨r2, hr2, hf⟩ := q_bd hf
  refine q_kV (M2 := m_X5_clear) (As := [.int ((I9 402) 1)]) (b := 465) (v2 := none) ok_X2_begin ok_X5_clear cv_X5_clear (ct_X5_clear_465 (d := 2) (Nat.le_refl _) hr2) rfl rfl (Or.inl rfl) rfl rfl rfl rfl (Nat.le_trans (Nat.le_of_ble_eq_true rfl) hd) (Nat.le_of_ble_eq_true rfl) (Nat.le_of_ble_eq_true rfl) (Nat.le_of_ble_eq_true rfl) (fun x hx => absurd hx List.not_mem_nil) (q_nmL0 _) (q_nmS0 _) rfl (pos' := 11) (st' := []) (lI' := [(459, r1), (465, r2.1), (466, r2.2)]) (lE' := []) rfl rfl (q_mgw rfl rfl) rfl ?_
  refine q_blk 3 [] (c' := q_kc (q_XR L9) I9 E9 14 [some (.ref 457), some (.ref 402)] [.int (-1 : Int32), .ref 470] [(459, r1), (465, r2.1), (466, r2.2)] []) ok_X2_begin rfl q_cn ?_
  refine q_kS (M2 := m_J7_fill_53178) (As := [.ref 470, .int (-1 : Int32)]) (v2 := none) ok_X2_begin ok_J7_fill_53178 cs_J7_fill_53178 (ct_fill (d := 1) (a := 470) (L := 6) (Nat.le_refl _) rfl rfl rfl) rfl rfl (Or.inl rfl) (Nat.le_trans (Nat.le_of_ble_eq_true rfl) hd) (Nat.le_of_ble_eq_true rfl) (Nat.le_of_ble_eq_true rfl) (Nat.le_of_ble_eq_true rfl) (fun x hx => absurd hx List.not_mem_nil) (q_nmL0 _) (q_nmS0 _) rfl (pos' := 15) (st' := []) (lI' := [(459, r1), (465, r2.1), (466, r2.2), (470, (q_fil 6 (-1 : Int32) (I9 470)))]) (lE' := []) rfl rfl (q_mgw rfl rfl) rfl ?_
  refine q_blk 24 [] (c' := q_kc (q_XR L9) I9 E9 39 [some (.ref 457), some (.ref 402)] [] [(457, (q_up (q_up (q_up (q_up (q_up (q_up (q_up (q_up (I9 457) 7 (0 : Int32)) 8 (0 : Int32)) 9 (0 : Int32)) 10 (0 : Int32)) 11 (0 : Int32)) 12 (0 : Int32)) 13 (0 : Int32)) 14 (0 : Int32))), (459, r1), (465, r2.1), (466, r2.2), (470, (q_fil 6 (-1 : Int32) (I9 470)))] []) ok_X2_begin rfl q_cn ?_
  cases hf
  exact q_krv ok_X2_begin rfl rfl (Nat.le_of_ble_eq_true rfl) (Nat.le_of_ble_eq_true rfl) ⟨rfl, q_hpe (q_pdw [457, 459, 465, 466, 470] rfl rfl) (q_pdw [] rfl rfl)⟩
set_option maxHeartbeats 4000000 in
theorem ct_X12_teach {g : q_G} {L : Nat → Nat → Int64} {d : Nat} (hd : 404 ≤ d) {I : Nat → Nat → Int32} {E : Nat → Nat → Option Nat} {err p : Int32} {qn qu rd hn tk ts tl tv : Nat → Int32} {qd tg : Nat → Option Nat} {T : Nat → Nat → Int32} {K : Nat → Nat → Option Nat}
    (hf : f_X7_read (I 401) (I 426) (I 429) (I 450) (I 451) (I 452) (I 454) (I 455) (I 456) (E 428) (E 453) (fun j => I (430 + j)) (fun j => E (430 + j)) (I 400 7) = some (err, qn, qu, rd, hn, tk, ts, tl, tv, qd, tg, T, K)) (hp : f_X7_position rd tk ts = some p)
    {bn ly lo lr hk : Nat → Int32} (hb : err = 0 → f_X2_begin qn (I 457) (I 459) (I 465) (I 466) (I 470) = some (bn, ly, lo, lr, hk)) :
    q_Ct g m_X12_teach d 0 0 q_mvC [.ref 400] (q_hp (q_XR L) I E) (fun o h' => o = .inl (some (.int err)) ∧ ∃ I' E' L', h' = q_hp (q_XR L') I' E' ∧ I' 400 = q_up (q_up (I 400) 8 p) 7 0 ∧ I' 401 = I 401 ∧ (∀ a, a ≠ 457 → a ≠ 459 → a ≠ 465 → a ≠ 466 → a ≠ 470 → 457 ≤ a → I' a = I a ∧ E' a = E a) ∧
      ((err ≠ 0 ∧ (∀ a, 402 ≤ a → a < 426 → I' a = I a ∧ E' a = E a) ∧ I' 457 = I 457 ∧ I' 459 = I 459 ∧ I' 465 = I 465 ∧ I' 466 = I 466 ∧ I' 470 = I 470) ∨
       (err = 0 ∧ I' 402 = qn ∧ I' 405 = qu ∧ E' 404 = qd ∧ (∀ j, j < 20 → I' (406 + j) = T j ∧ E' (406 + j) = K j) ∧ I' 457 = bn ∧ I' 459 = ly ∧ I' 465 = lo ∧ I' 466 = lr ∧ I' 470 = hk))) := by
  refine q_Ct_of ok_X12_teach (Nat.le_of_ble_eq_true rfl) ?_ _ rfl rfl
  change q_J g m_X12_teach d 0 0 _ _ _ 0 0 (q_kc (q_XR L) I E 0 [some (.ref 400), none, none] [] [] [])
  refine q_blk 6 [] (c' := q_kc (q_XR L) I E 6 [some (.ref 400), none, none] [.ref 426, .int ((I 400) 7), .ref 450] [] []) ok_X12_teach rfl q_cn ?_
  have hct := ct_X7_read_450_426 (g := g) (t := 1) (m := 1) (z := 499) (N := 492) (ext := q_e0) (rx := q_r0) (L := L) (d := 402) (Nat.le_refl _) (I := I) (E := E) (T2 := fun j => I (430 + j)) (K2 := fun j => E (430 + j)) (x1 := (I 400) 7) hf
  rw [q_tW_self (I := I) (B := 430), q_tW_self (I := E) (B := 430)] at hct
  refine q_callV (h := q_hp (q_XR L) I E) (M2 := m_X7_read) (b := 450) (As := [.int ((I 400) 7), .ref 426]) (rest := []) ok_X12_teach ok_X7_read rfl (by first | exact Or.inl rfl | exact Or.inr ⟨_, rfl⟩) cv_X7_read (by decide) rfl (show vwCl[6]? = some _ from rfl) rfl hct (Nat.le_trans (by decide) hd) (Nat.le_refl _) (Nat.le_refl _) (Nat.le_of_ble_eq_true rfl) (fun x hx => absurd hx List.not_mem_nil) (fun _ _ _ => List.not_mem_nil) (fun _ _ => List.not_mem_nil) rfl (fun v h' hq => ?_) (fun E9 h' hq => by cases hq.1)
  obtain ⟨e1, e2⟩ := hq
  cases e1
  subst e2
  have key : ∀ (I2 : Nat → Nat → Int32) (E2 : Nat → Nat → Option Nat), (∀ a, a < 426 → I2 a = I a ∧ E2 a = E a) → (∀ a, 457 ≤ a → I2 a = I a ∧ E2 a = E a) → I2 426 = qn → I2 429 = qu → E2 428 = qd → (∀ j, j < 20 → I2 (430 + j) = T j ∧ E2 (430 + j) = K j) → I2 450 = rd → I2 452 = tk → I2 454 = ts →
      q_J g m_X12_teach d 0 0 (q_hp (q_XR L) I E) q_mvC (fun o h' => o = .inl (some (.int err)) ∧ ∃ I' E' L', h' = q_hp (q_XR L') I' E' ∧ I' 400 = q_up (q_up (I 400) 8 p) 7 0 ∧ I' 401 = I 401 ∧ (∀ a, a ≠ 457 → a ≠ 459 → a ≠ 465 → a ≠ 466 → a ≠ 470 → 457 ≤ a → I' a = I a ∧ E' a = E a) ∧
      ((err ≠ 0 ∧ (∀ a, 402 ≤ a → a < 426 → I' a = I a ∧ E' a = E a) ∧ I' 457 = I 457 ∧ I' 459 = I 459 ∧ I' 465 = I 465 ∧ I' 466 = I 466 ∧ I' 470 = I 470) ∨
       (err = 0 ∧ I' 402 = qn ∧ I' 405 = qu ∧ E' 404 = qd ∧ (∀ j, j < 20 → I' (406 + j) = T j ∧ E' (406 + j) = K j) ∧ I' 457 = bn ∧ I' 459 = ly ∧ I' 465 = lo ∧ I' 466 = lr ∧ I' 470 = hk))) 0 0 (7, [some (.ref 400), none, none], [.int err], q_hp (q_XP L) I2 E2) := by
    intro I2 E2 hlo hhi h426 h429 h428 hT h450 h452 h454
    change q_J g m_X12_teach d 0 0 _ _ _ 0 0 (q_kc (q_XP L) I2 E2 7 [some (.ref 400), none, none] [.int err] [] [])
    refine q_blk 4 [] (c' := q_kc (q_XP L) I2 E2 11 [some (.ref 400), some (.int err), none] [.ref 450, .ref 400] [] []) ok_X12_teach rfl q_cn ?_
    have hp' : f_X7_position (I2 450) (I2 452) (I2 454) = some p := by rw [h450, h452, h454]; exact hp
    refine q_kV (M2 := m_X7_position) (As := []) (b := 450) (v2 := some (.int p)) ok_X12_teach ok_X7_position cv_X7_position (ct_X7_position_450 (d := 2) (Nat.le_refl _) hp') rfl rfl (by first | exact Or.inl rfl | exact Or.inr ⟨_, rfl⟩) rfl rfl rfl rfl (Nat.le_trans (by decide) hd) (Nat.le_of_ble_eq_true rfl) (Nat.le_of_ble_eq_true rfl) (Nat.le_of_ble_eq_true rfl) (fun x hx => absurd hx List.not_mem_nil) (q_nmL0 _) (q_nmS0 _) rfl (pos' := 12) (st' := [.int p, .ref 400]) (lI' := []) (lE' := []) rfl rfl rfl rfl ?_
    refine q_blf 5 [] (a := q_kc (q_XP L) I2 E2 33 [some (.ref 400), some (.int err), none] [] [(400, q_up (q_up (I2 400) 8 p) 7 0)] []) (b := q_kc (q_XP L) I2 E2 18 [some (.ref 400), some (.int err), none] [] [(400, q_up (q_up (I2 400) 8 p) 7 0)] []) (P := ¬ err = 0) ok_X12_teach rfl q_cn (fun h1 => ?_) (fun h1 => ?_)
    · refine q_vck id (Rz := q_R0) (Sz := q_shX 1 0 1 q_e0) (N := 492) (I := q_ws I2 [(400, q_up (q_up (I2 400) 8 p) 7 0)]) (E := q_ws E2 []) (L := L) (ls' := [some (.ref 400), some (.int err), none]) (st' := []) q_ckE (fun a j ha hj => q_R3 ha hj) (q_rgI (Nat.le_refl _)) (Nat.le_refl _) (fun a b _ _ h => h) (fun a _ => rfl) (Nat.le_refl _) rfl rfl (fun a ha => absurd ha List.not_mem_nil) (q_ref9 rfl) (fun a _ _ => rfl) ?_
      refine q_go 1 (c' := (34, [some (.ref 400), some (.int err), none], [.int err], q_hp (q_XR (fun a => L (id a))) (fun a => q_ws I2 [(400, q_up (q_up (I2 400) 8 p) 7 0)] (id a)) (fun a => q_ws E2 [] (id a)))) ok_X12_teach rfl ?_
      have hr : ∀ a, a ≠ 400 → q_ws I2 [(400, q_up (q_up (I2 400) 8 p) 7 0)] (id a) = I2 a := fun a ha => q_ur_n _ _ _ ha
      refine q_o_iret ok_X12_teach rfl rfl rfl (Nat.le_refl _) (Nat.le_refl _) ⟨rfl, _, _, _, rfl, ?_, ?_, fun a _ _ _ _ _ ha => ?_, Or.inl ⟨h1, fun a ha1 ha2 => ?_, ?_, ?_, ?_, ?_, ?_⟩⟩
      · show q_up (q_up (I2 400) 8 p) 7 0 = _
        rw [(hlo 400 (by decide)).1]
      · exact (hr 401 (by decide)).trans (hlo 401 (by decide)).1
      · exact ⟨(hr a (by omega)).trans (hhi a ha).1, (hhi a ha).2⟩
      · exact ⟨(hr a (by omega)).trans (hlo a ha2).1, (hlo a ha2).2⟩
      · exact (hr 457 (by decide)).trans (hhi 457 (by decide)).1
      · exact (hr 459 (by decide)).trans (hhi 459 (by decide)).1
      · exact (hr 465 (by decide)).trans (hhi 465 (by decide)).1
      · exact (hr 466 (by decide)).trans (hhi 466 (by decide)).1
      · exact (hr 470 (by decide)).trans (hhi 470 (by decide)).1
    · have h1 : err = 0 := Decidable.not_not.mp h1
      refine q_blk 6 [] (c' := q_kc (q_XP L) I2 E2 24 [some (.ref 400), some (.int err), some (.ref 402)] [.ref 426, .ref 400] [(400, q_up (q_up (I2 400) 8 p) 7 0)] []) ok_X12_teach rfl q_cn ?_
      have hr : ∀ a, a ≠ 400 → q_ws I2 [(400, q_up (q_up (I2 400) 8 p) 7 0)] a = I2 a := fun a ha => q_ur_n _ _ _ ha
      have hr4 : q_ws I2 [(400, q_up (q_up (I2 400) 8 p) 7 0)] 400 = q_up (q_up (I2 400) 8 p) 7 0 := q_ur_s _ _ _
      change q_J g m_X12_teach d 0 0 _ _ _ 0 0 (24, [some (.ref 400), some (.int err), some (.ref 402)], [.ref 426, .ref 400], q_hp (q_XP L) (q_ws I2 [(400, q_up (q_up (I2 400) 8 p) 7 0)]) E2)
      generalize q_ws I2 [(400, q_up (q_up (I2 400) 8 p) 7 0)] = I3 at hr hr4
      refine q_o_putR (h := q_hp (q_XP L) I3 E2) (v := 0) ok_X12_teach rfl (by decide) rfl (by decide) rfl ?_
      refine q_go 2 (c' := (27, [some (.ref 400), some (.int err), some (.ref 402)], [.ref 402, .ref 400], ((492, q_aS (q_XP L), I3, q_u2 (q_aR (q_XP L)) 400 1 (some 426), E2, L) : q_H))) ok_X12_teach rfl ?_
      refine q_o_putR (h := ((492, q_aS (q_XP L), I3, q_u2 (q_aR (q_XP L)) 400 1 (some 426), E2, L) : q_H)) (v := 0) ok_X12_teach rfl (by decide) rfl (by decide) rfl ?_
      refine q_less (ls' := [some (.ref 400), some (.int err), none]) (q_sb2 (q_sb2 (q_sb1 q_sb0))) ?_
      refine q_go 1 (c' := (29, [some (.ref 400), some (.int err), none], [.ref 400], ((492, q_aS (q_XP L), I3, q_u2 (q_u2 (q_aR (q_XP L)) 400 1 (some 426)) 400 2 (some 402), E2, L) : q_H))) ok_X12_teach rfl ?_
      refine q_o_getR (v := 0) (h := ((492, q_aS (q_XP L), I3, q_u2 (q_u2 (q_aR (q_XP L)) 400 1 (some 426)) 400 2 (some 402), E2, L) : q_H)) ok_X12_teach rfl (by decide) rfl (by decide) rfl ?_
      refine q_go 1 (c' := (31, [some (.ref 400), some (.int err), none], [.ref 400, .ref 457], ((492, q_aS (q_XP L), I3, q_u2 (q_u2 (q_aR (q_XP L)) 400 1 (some 426)) 400 2 (some 402), E2, L) : q_H))) ok_X12_teach rfl ?_
      refine q_o_getR (v := 0) (h := ((492, q_aS (q_XP L), I3, q_u2 (q_u2 (q_aR (q_XP L)) 400 1 (some 426)) 400 2 (some 402), E2, L) : q_H)) ok_X12_teach rfl (by decide) rfl (by decide) rfl ?_
      have hb' : f_X2_begin (I3 426) (I3 457) (I3 459) (I3 465) (I3 466) (I3 470) = some (bn, ly, lo, lr, hk) := by
        rw [hr 426 (by decide), hr 457 (by decide), hr 459 (by decide), hr 465 (by decide), hr 466 (by decide), hr 470 (by decide), h426, (hhi 457 (by decide)).1, (hhi 459 (by decide)).1, (hhi 465 (by decide)).1, (hhi 466 (by decide)).1, (hhi 470 (by decide)).1]
        exact hb h1
      refine q_callV (h := ((492, q_aS (q_XP L), I3, q_u2 (q_u2 (q_aR (q_XP L)) 400 1 (some 426)) 400 2 (some 402), E2, L) : q_H)) (M2 := m_X2_begin) (b := 457) (As := [.ref 426]) (rest := []) ok_X12_teach ok_X2_begin rfl (by first | exact Or.inl rfl | exact Or.inr ⟨_, rfl⟩) cv_X2_begin (by decide) rfl (show vwCl[1]? = some _ from rfl) rfl (ctb_X2_begin (d := 3) (Nat.le_refl _) hb') (Nat.le_trans (by decide) hd) (Nat.le_refl _) (Nat.le_refl _) (Nat.le_of_ble_eq_true rfl) (fun x hx => hx) (q_nmL_of rfl) (fun a ha => absurd ha List.not_mem_nil) rfl (fun v h' hq => ?_) (fun E9 h' hq => by cases hq.1)
      obtain ⟨e1, e2⟩ := hq
      cases e1
      subst e2
      have hs : ∀ a, 450 ≤ a → a ≠ 457 → a ≠ 459 → a ≠ 465 → a ≠ 466 → a ≠ 470 → q_ws (fun a => I3 (q_sw2 a)) [(457, bn), (459, ly), (465, lo), (466, lr), (470, hk)] a = I3 a := by
        intro a ha n1 n2 n3 n4 n5
        show q_ur (q_ur (q_ur (q_ur (q_ur (fun a => I3 (q_sw2 a)) 470 hk) 466 lr) 465 lo) 459 ly) 457 bn a = I3 a
        rw [q_ur_n _ _ _ n1, q_ur_n _ _ _ n2, q_ur_n _ _ _ n3, q_ur_n _ _ _ n4, q_ur_n _ _ _ n5, q_sw2_n (by omega)]
      have hl : ∀ a, a < 450 → q_ws (fun a => I3 (q_sw2 a)) [(457, bn), (459, ly), (465, lo), (466, lr), (470, hk)] a = I3 (q_sw2 a) := fun a ha => q_ws_rng (lo := 450) (hi := 480) rfl (Or.inl ha)
      have hsj : ∀ j, j < 20 → q_sw2 (406 + j) = 430 + j := fun j hj => by unfold q_sw2; rw [if_pos (by omega)]; omega
      refine q_go 1 (c' := (34, [some (.ref 400), some (.int err), none], [.int err], q_hp (q_XR (fun a => L (q_sw2 a))) (q_ws (fun a => I3 (q_sw2 a)) [(457, bn), (459, ly), (465, lo), (466, lr), (470, hk)]) (q_ws (fun a => E2 (q_sw2 a)) []))) ok_X12_teach rfl ?_
      refine q_o_iret ok_X12_teach rfl rfl rfl (Nat.le_refl _) (Nat.le_refl _) ⟨rfl, _, _, _, rfl, ?_, ?_, fun a n1 n2 n3 n4 n5 ha => ?_, Or.inr ⟨h1, ?_, ?_, ?_, fun j hj => ?_, rfl, rfl, rfl, rfl, rfl⟩⟩
      · refine (hl 400 (by decide)).trans ?_
        rw [show q_sw2 400 = 400 from rfl, hr4, (hlo 400 (by decide)).1]
      · refine (hl 401 (by decide)).trans ?_
        rw [show q_sw2 401 = 401 from rfl, hr 401 (by decide)]
        exact (hlo 401 (by decide)).1
      · refine ⟨(hs a (by omega) n1 n2 n3 n4 n5).trans ((hr a (by omega)).trans (hhi a ha).1), ?_⟩
        show E2 (q_sw2 a) = E a
        rw [q_sw2_n (by omega)]
        exact (hhi a ha).2
      · refine (hl 402 (by decide)).trans ?_
        rw [show q_sw2 402 = 426 from rfl, hr 426 (by decide)]
        exact h426
      · refine (hl 405 (by decide)).trans ?_
        rw [show q_sw2 405 = 429 from rfl, hr 429 (by decide)]
        exact h429
      · exact h428
      · refine ⟨(hl (406 + j) (by omega)).trans ?_, ?_⟩
        · rw [hsj j hj, hr _ (by omega)]
          exact (hT j hj).1
        · show E2 (q_sw2 (406 + j)) = K j
          rw [hsj j hj]
          exact (hT j hj).2
  refine key _ _ (fun a ha => ⟨?_, ?_⟩) (fun a ha => ⟨?_, ?_⟩) rfl rfl rfl (fun j hj => ⟨?_, ?_⟩) rfl rfl rfl
  · exact (q_ws_rng (lo := 426) (hi := 457) rfl (Or.inl ha)).trans (q_tW_out (Or.inl (by omega)))
  · exact (q_ws_rng (lo := 426) (hi := 457) rfl (Or.inl ha)).trans (q_tW_out (Or.inl (by omega)))
  · exact (q_ws_rng (lo := 426) (hi := 457) rfl (Or.inr ha)).trans (q_tW_out (Or.inr (by omega)))
  · exact (q_ws_rng (lo := 426) (hi := 457) rfl (Or.inr ha)).trans (q_tW_out (Or.inr (by omega)))
  · funext f
    exact (q_wsT0 (B := 430) hj rfl).trans (congrFun (q_tW_in hj) f)
  · funext f
    exact (q_wsT0 (B := 430) hj rfl).trans (congrFun (q_tW_in hj) f)
