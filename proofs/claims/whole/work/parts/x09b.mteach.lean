/-! the model's teaching, by hand -/
set_option maxHeartbeats 4000000 in
theorem ct_X15_teach {g : q_G} {L : Nat → Nat → Int64} {d : Nat} (hd : 408 ≤ d) {I : Nat → Nat → Int32} {E : Nat → Nat → Option Nat} {err : Int32} {md kn mf mm mr me mp pd po pq pr ps pt pe pc pw : Nat → Int32}
    (hf : f_X15_read (q_up (q_up (I 492) 0 0) 3 (-1)) (I 493) (I 494) (I 495) (I 496) (I 497) (I 498) q_mp0 (fun _ => 0) (fun _ => 0) (fun _ => 0) (fun _ => 0) (fun _ => 0) (fun _ => 0) (fun _ => 0) (fun _ => 0) (fun _ => 0) = some (err, md, kn, mf, mm, mr, me, mp, pd, po, pq, pr, ps, pt, pe, pc, pw))
    {st sh sw : Nat → Int32} (hb : f_X14_begin (I 512) (I 513) (I 514) = some (st, sh, sw)) :
    q_Ct g m_X15_teach d 10 1360 q_mvM [.ref 492] (q_hp (q_XL L) I E) (fun o h' => ∃ I' E' L', h' = q_hp (q_XL L') I' E' ∧ L' 528 = L 528 ∧ (∀ a, a < 492 → I' a = I a ∧ E' a = E a) ∧ I' 493 = I 493 ∧ I' 492 = q_up md 2 0 ∧
      ((0 < err ∧ o = .inl (some (.int err)) ∧ ∀ a, 499 ≤ a → a < 529 → I' a = I a) ∨
       (¬ 0 < err ∧ o = .inl (some (.int 0)) ∧ I' 499 = mp ∧ I' 500 = pd ∧ I' 501 = po ∧ I' 502 = pq ∧ I' 503 = pr ∧ I' 504 = ps ∧ I' 505 = pt ∧ I' 506 = pe ∧ I' 507 = pc ∧ I' 512 = st ∧ I' 513 = sh ∧ I' 514 = sw ∧ ∀ a, 515 ≤ a → a < 529 → I' a = I a))) := by
  refine q_Ct_of ok_X15_teach (Nat.le_of_ble_eq_true rfl) ?_ _ rfl rfl
  change q_J g m_X15_teach d 10 1360 _ _ _ 0 0 (q_kc (q_XL L) I E 0 [some (.ref 492), none] [] [] [])
  refine q_blk 7 [] (c' := q_kc (q_XL L) I E 7 [some (.ref 492), none] [.ref 492] [(492, q_up (q_up (I 492) 0 0) 3 (-1))] []) ok_X15_teach rfl q_cn ?_
  refine q_callV (h := q_hp (q_XL L) (q_ws I [(492, q_up (q_up (I 492) 0 0) 3 (-1))]) (q_ws E [])) (M2 := m_X15_read) (b := 492) (As := []) (rest := []) ok_X15_teach ok_X15_read rfl (by first | exact Or.inl rfl | exact Or.inr ⟨_, rfl⟩) cv_X15_read (by decide) rfl (show vwCl[13]? = some _ from rfl) rfl (ctn_X15_read (t := 1) (r := 1) (ext := q_e0) (rx := q_r0) (L := L) (d := 406) (Nat.le_refl _) (I := q_ws I [(492, q_up (q_up (I 492) 0 0) 3 (-1))]) (E := q_ws E []) hf) (Nat.le_trans (by decide) hd) (Nat.le_of_ble_eq_true rfl) (Nat.le_of_ble_eq_true rfl) (Nat.le_of_ble_eq_true rfl) (fun x hx => absurd hx List.not_mem_nil) (fun _ _ _ => List.not_mem_nil) (fun _ _ => List.not_mem_nil) rfl (fun v h' hq => ?_) (fun E9 h' hq => by cases hq.1)
  obtain ⟨e1, I1, E1, L1, hsame, hE529, e2⟩ := hq
  cases e1
  subst e2
  have key : ∀ (I2 : Nat → Nat → Int32) (E2 : Nat → Nat → Option Nat), L1 528 = L 528 → (∀ a, a < 492 → I2 a = I a ∧ E2 a = E a) → I2 493 = I 493 → I2 492 = md → (∀ a, 499 ≤ a → a < 529 → I2 a = I a) → I2 529 = mp → I2 530 = pd → I2 531 = po → I2 532 = pq → I2 533 = pr → I2 534 = ps → I2 535 = pt → I2 536 = pe → I2 537 = pc →
      q_J g m_X15_teach d 10 1360 (q_hp (q_XL L) I E) q_mvM (fun o h' => ∃ I' E' L', h' = q_hp (q_XL L') I' E' ∧ L' 528 = L 528 ∧ (∀ a, a < 492 → I' a = I a ∧ E' a = E a) ∧ I' 493 = I 493 ∧ I' 492 = q_up md 2 0 ∧
      ((0 < err ∧ o = .inl (some (.int err)) ∧ ∀ a, 499 ≤ a → a < 529 → I' a = I a) ∨
       (¬ 0 < err ∧ o = .inl (some (.int 0)) ∧ I' 499 = mp ∧ I' 500 = pd ∧ I' 501 = po ∧ I' 502 = pq ∧ I' 503 = pr ∧ I' 504 = ps ∧ I' 505 = pt ∧ I' 506 = pe ∧ I' 507 = pc ∧ I' 512 = st ∧ I' 513 = sh ∧ I' 514 = sw ∧ ∀ a, 515 ≤ a → a < 529 → I' a = I a))) 10 1360 (8, [some (.ref 492), none], [.int err], q_hp (1, 1, 0, 529, 539, q_pE q_e0, q_pR q_r0, L1) I2 E2) := by
    intro I2 E2 hL5 hlo h493 h492 hhi n0 n1 n2 n3 n4 n5 n6 n7 n8
    change q_J g m_X15_teach d 10 1360 _ _ _ 10 1360 (q_kc (1, 1, 0, 529, 539, q_pE q_e0, q_pR q_r0, L1) I2 E2 8 [some (.ref 492), none] [.int err] [] [])
    refine q_blf 5 [] (a := q_kc (1, 1, 0, 529, 539, q_pE q_e0, q_pR q_r0, L1) I2 E2 16 [some (.ref 492), some (.int err)] [] [(492, q_up (I2 492) 2 0)] []) (b := q_kc (1, 1, 0, 529, 539, q_pE q_e0, q_pR q_r0, L1) I2 E2 14 [some (.ref 492), some (.int err)] [] [(492, q_up (I2 492) 2 0)] []) (P := err ≤ 0) ok_X15_teach rfl q_cn (fun h1 => ?_) (fun h1 => ?_)
    · have h1 : ¬ 0 < err := Int32.not_lt.mpr h1
      refine q_blk 3 [] (c' := q_kc (1, 1, 0, 529, 539, q_pE q_e0, q_pR q_r0, L1) I2 E2 19 [some (.ref 492), some (.int err)] [.ref 529, .ref 492] [(492, q_up (I2 492) 2 0)] []) ok_X15_teach rfl q_cn ?_
      have hr : ∀ a, a ≠ 492 → q_ws I2 [(492, q_up (I2 492) 2 0)] a = I2 a := fun a ha => q_ur_n _ _ _ ha
      have hr4 : q_ws I2 [(492, q_up (I2 492) 2 0)] 492 = q_up md 2 0 := by rw [← h492]; exact q_ur_s _ _ _
      change q_J g m_X15_teach d 10 1360 _ _ _ 10 1360 (19, [some (.ref 492), some (.int err)], [.ref 529, .ref 492], q_hp (1, 1, 0, 529, 539, q_pE q_e0, q_pR q_r0, L1) (q_ws I2 [(492, q_up (I2 492) 2 0)]) E2)
      generalize q_ws I2 [(492, q_up (I2 492) 2 0)] = I3 at hr hr4
      refine q_o_putR (h := q_hp (1, 1, 0, 529, 539, q_pE q_e0, q_pR q_r0, L1) I3 E2) (v := 0) ok_X15_teach rfl (by decide) rfl (by decide) rfl ?_
      refine q_vck q_mv3 (Rz := q_Rm) (Sz := q_shX 1 1 0 (q_pE q_e0)) (N := 539) (I := I3) (E := E2) (L := L1) (ls' := [some (.ref 492), some (.int err)]) (st' := []) q_ckM q_Rm3 q_rgM (by decide) (fun a b ha hb h => q_mv3_inj ha hb h) (fun a ha => by unfold q_mv3; rw [if_neg (by omega)]) (Nat.le_refl _) rfl rfl (fun a ha => absurd ha List.not_mem_nil) (q_ref9 rfl) (fun a _ hm => q_mvM_mv hm) ?_
      have hm1 : ∀ a, a < 499 ∨ 509 ≤ a → q_mv3 a = a := fun a ha => by unfold q_mv3; rw [if_neg (by omega)]
      generalize hI9 : (fun a => I3 (q_mv3 a)) = I9
      generalize hE9 : (fun a => E2 (q_mv3 a)) = E9
      generalize hL9 : (fun a => L1 (q_mv3 a)) = L9
      have hL8 : L9 528 = L 528 := by rw [← hL9]; exact hL5
      have hI : ∀ a, I9 a = I3 (q_mv3 a) := fun a => by rw [← hI9]
      have hE : ∀ a, E9 a = E2 (q_mv3 a) := fun a => by rw [← hE9]
      change q_J g m_X15_teach d 10 1360 _ _ _ 10 1360 (q_kc (q_XL L9) I9 E9 20 [some (.ref 492), some (.int err)] [] [] [])
      refine q_blk 2 [] (c' := q_kc (q_XL L9) I9 E9 22 [some (.ref 492), some (.int err)] [.ref 512] [] []) ok_X15_teach rfl q_cn ?_
      have hb' : f_X14_begin (I9 512) (I9 513) (I9 514) = some (st, sh, sw) := by
        rw [hI 512, hI 513, hI 514, hm1 512 (by decide), hm1 513 (by decide), hm1 514 (by decide), hr 512 (by decide), hr 513 (by decide), hr 514 (by decide), hhi 512 (by decide) (by decide), hhi 513 (by decide) (by decide), hhi 514 (by decide) (by decide)]
        exact hb
      refine q_kV (M2 := m_X14_begin) (As := []) (b := 512) (v2 := none) ok_X15_teach ok_X14_begin cv_X14_begin (ct_X14_begin_512 (d := 1) (Nat.le_refl _) hb') rfl rfl (by first | exact Or.inl rfl | exact Or.inr ⟨_, rfl⟩) rfl rfl rfl rfl (Nat.le_trans (by decide) hd) (Nat.le_of_ble_eq_true rfl) (Nat.le_of_ble_eq_true rfl) (Nat.le_of_ble_eq_true rfl) (fun x hx => absurd hx List.not_mem_nil) (q_nmL0 _) (q_nmS0 _) rfl (pos' := 23) (st' := []) (lI' := [(512, st), (513, sh), (514, sw)]) (lE' := []) rfl rfl (q_mgw rfl rfl) rfl ?_
      refine q_blk 1 [] (c' := q_kc (q_XL L9) I9 E9 24 [some (.ref 492), some (.int err)] [.int 0] [(512, st), (513, sh), (514, sw)] []) ok_X15_teach rfl q_cn ?_
      have hs : ∀ a, a < 512 ∨ 515 ≤ a → q_ws I9 [(512, st), (513, sh), (514, sw)] a = I9 a := fun a ha => q_ws_rng (lo := 512) (hi := 515) rfl ha
      refine q_kri ok_X15_teach rfl rfl rfl (Nat.le_of_ble_eq_true rfl) (Nat.le_of_ble_eq_true rfl) ⟨_, _, _, rfl, hL8, fun a ha => ⟨?_, ?_⟩, ?_, ?_, Or.inr ⟨h1, rfl, ?_, ?_, ?_, ?_, ?_, ?_, ?_, ?_, ?_, rfl, rfl, rfl, fun a ha1 ha2 => ?_⟩⟩
      · rw [hs a (by omega), hI, hm1 a (by omega), hr a (by omega)]; exact (hlo a ha).1
      · show E9 a = _
        rw [hE, hm1 a (by omega)]; exact (hlo a ha).2
      · rw [hs 493 (by decide), hI, hm1 493 (by decide), hr 493 (by decide)]; exact h493
      · rw [hs 492 (by decide), hI, hm1 492 (by decide)]; exact hr4
      · rw [hs 499 (by decide), hI]; exact (hr 529 (by decide)).trans n0
      · rw [hs 500 (by decide), hI]; exact (hr 530 (by decide)).trans n1
      · rw [hs 501 (by decide), hI]; exact (hr 531 (by decide)).trans n2
      · rw [hs 502 (by decide), hI]; exact (hr 532 (by decide)).trans n3
      · rw [hs 503 (by decide), hI]; exact (hr 533 (by decide)).trans n4
      · rw [hs 504 (by decide), hI]; exact (hr 534 (by decide)).trans n5
      · rw [hs 505 (by decide), hI]; exact (hr 535 (by decide)).trans n6
      · rw [hs 506 (by decide), hI]; exact (hr 536 (by decide)).trans n7
      · rw [hs 507 (by decide), hI]; exact (hr 537 (by decide)).trans n8
      · rw [hs a (by omega), hI, hm1 a (by omega), hr a (by omega)]; exact hhi a (by omega) ha2
    · have h1 : 0 < err := Int32.not_le.mp h1
      have hr : ∀ a, a ≠ 492 → q_ws I2 [(492, q_up (I2 492) 2 0)] (id a) = I2 a := fun a ha => q_ur_n _ _ _ ha
      refine q_vck id (Rz := q_RX 529 (q_pR q_r0)) (Sz := q_shX 1 1 0 (q_pE q_e0)) (N := 539) (I := q_ws I2 [(492, q_up (I2 492) 2 0)]) (E := q_ws E2 []) (L := L1) (ls' := [some (.ref 492), some (.int err)]) (st' := []) q_ckN q_Rn3 (q_rgI (by decide)) (by decide) (fun a b _ _ h => h) (fun a _ => rfl) (Nat.le_refl _) rfl rfl (fun a ha => absurd ha List.not_mem_nil) (q_ref9 rfl) (fun a _ _ => rfl) ?_
      refine q_go 1 (c' := (15, [some (.ref 492), some (.int err)], [.int err], q_hp (q_XL (fun a => L1 (id a))) (fun a => q_ws I2 [(492, q_up (I2 492) 2 0)] (id a)) (fun a => q_ws E2 [] (id a)))) ok_X15_teach rfl ?_
      refine q_o_iret ok_X15_teach rfl rfl rfl (Nat.le_refl _) (Nat.le_refl _) ⟨_, _, _, rfl, hL5, fun a ha => ⟨?_, ?_⟩, ?_, ?_, Or.inl ⟨h1, rfl, fun a ha1 ha2 => ?_⟩⟩
      · exact (hr a (by omega)).trans (hlo a ha).1
      · exact (hlo a ha).2
      · exact (hr 493 (by decide)).trans h493
      · show q_up (I2 492) 2 0 = _
        rw [h492]
      · exact (hr a (by omega)).trans (hhi a ha1 ha2)
  have hw : ∀ a, a ≠ 492 → q_ws I [(492, q_up (q_up (I 492) 0 0) 3 (-1))] a = I a := fun a ha => q_ur_n _ _ _ ha
  refine key _ _ (hsame 528 (by decide)).2.2 (fun a ha => ⟨?_, ?_⟩) ?_ rfl (fun a ha1 ha2 => ?_) rfl rfl rfl rfl rfl rfl rfl rfl rfl
  · refine (q_ws_rng (lo := 492) (hi := 539) rfl (Or.inl ha)).trans ?_
    exact ((hsame a (by omega)).1).trans (hw a (by omega))
  · exact (hsame a (by omega)).2.1
  · exact ((hsame 493 (by decide)).1).trans (hw 493 (by decide))
  · have hx : ∀ l : List (Nat × (Nat → Int32)), (l.all fun q => Nat.blt q.1 499 || Nat.ble 529 q.1) = true → q_ws I1 l a = I1 a := by
      intro l
      induction l with
      | nil => intro _; rfl
      | cons q t ih =>
        intro h
        rw [List.all_cons, Bool.and_eq_true, Bool.or_eq_true] at h
        show q_ur (q_ws I1 t) q.1 q.2 a = I1 a
        have hne : a ≠ q.1 := by
          rcases h.1 with h9 | h9
          · have := Nat.blt_eq.mp h9; omega
          · have := Nat.le_of_ble_eq_true h9; omega
        rw [q_ur_n _ _ _ hne]
        exact ih h.2
    exact (hx _ rfl).trans (((hsame a ha2).1).trans (hw a (by omega)))
