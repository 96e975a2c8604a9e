/-! rows filled, barns begun: over any heap -/
def q_hF (h : q_H) (a L : Nat) (v : Int32) : q_H := (q_nx h, q_sh h, q_ur (q_I h) a (q_fil L v (q_I h a)), q_R h, q_E h, q_L h)
theorem q_hF_0 {h : q_H} {a : Nat} {v : Int32} : q_hF h a 0 v = h := by unfold q_hF; rw [q_fil_0, q_ur_id]
theorem q_hF_s {h : q_H} {a i : Nat} {v : Int32} : q_hI (q_hF h a i v) a i v = q_hF h a (i + 1) v := by
  unfold q_hI q_hF
  show (q_nx h, q_sh h, q_u2 (q_ur (q_I h) a (q_fil i v (q_I h a))) a i v, q_R h, q_E h, q_L h) = _
  rw [← q_fil_s, show q_u2 (q_ur (q_I h) a (q_fil i v (q_I h a))) a i v = q_ur (q_ur (q_I h) a (q_fil i v (q_I h a))) a (q_up (q_ur (q_I h) a (q_fil i v (q_I h a)) a) i v) from rfl, q_ur_ss, q_ur_s]
theorem ctn_fill {g : q_G} {d : Nat} (hd : 1 ≤ d) {h : q_H} {a L : Nat} {v : Int32} (ha : 400 ≤ a) (hsh : q_sh h a = (1, 0, L)) (hL : Nat.blt L 65536 = true) : q_Ct g m_J7_fill_53178 d 0 0 [] [.ref a, .int v] h (fun o h' => o = .inl none ∧ h' = q_hF h a L v) := by
  have hL := q_L31 hL
  refine q_Ct_of ok_J7_fill_53178 (Nat.le_of_ble_eq_true rfl) ?_ _ rfl rfl
  refine q_go 3 (c' := (3, [some (.ref a), some (.int v), some (.int 0), none], [.ref a], h)) ok_J7_fill_53178 rfl ?_
  refine q_o_alenI (h := h) ok_J7_fill_53178 rfl ha hsh ?_
  refine q_go 1 (c' := (5, [some (.ref a), some (.int v), some (.int (nI 0)), some (.int (nI L))], [], q_hF h a 0 v)) ok_J7_fill_53178 (by rw [q_hF_0]; rfl) ?_
  have key : ∀ n i, i + n = L → q_J g m_J7_fill_53178 d 0 0 h [] (fun o h' => o = .inl none ∧ h' = q_hF h a L v) 0 0 (5, [some (.ref a), some (.int v), some (.int (nI i)), some (.int (nI L))], [], q_hF h a i v) := by
    intro n
    induction n with
    | zero =>
      intro i hi
      obtain rfl : i = L := by omega
      refine q_if 3 (P := nI i ≤ nI i) (a := (14, [some (.ref a), some (.int v), some (.int (nI i)), some (.int (nI i))], [], q_hF h a i v)) (b := (8, [some (.ref a), some (.int v), some (.int (nI i)), some (.int (nI i))], [], q_hF h a i v)) ok_J7_fill_53178 rfl (fun _ => ?_) (fun h => absurd (nI_le (Nat.le_refl _) hL) h)
      exact q_o_vret ok_J7_fill_53178 rfl rfl (Nat.le_refl _) (Nat.le_refl _) ⟨rfl, rfl⟩
    | succ n ih =>
      intro i hi
      refine q_if 3 (P := nI L ≤ nI i) (a := (14, [some (.ref a), some (.int v), some (.int (nI i)), some (.int (nI L))], [], q_hF h a i v)) (b := (8, [some (.ref a), some (.int v), some (.int (nI i)), some (.int (nI L))], [], q_hF h a i v)) ok_J7_fill_53178 rfl (fun h => absurd h (nI_ge (by omega) hL)) (fun _ => ?_)
      refine q_go 3 (c' := (11, [some (.ref a), some (.int v), some (.int (nI i)), some (.int (nI L))], [.int v, .int (nI i), .ref a], q_hF h a i v)) ok_J7_fill_53178 rfl ?_
      refine q_o_iast (h := q_hF h a i v) (L := L) (j := i) ok_J7_fill_53178 rfl ha hsh rfl (by omega) hL ?_
      change q_J g m_J7_fill_53178 d 0 0 h [] _ 0 0 (12, [some (.ref a), some (.int v), some (.int (nI i)), some (.int (nI L))], [], q_hI (q_hF h a i v) a i v)
      refine q_go 2 (c' := (5, [some (.ref a), some (.int v), some (.int (nI i + 1)), some (.int (nI L))], [], q_hI (q_hF h a i v) a i v)) ok_J7_fill_53178 rfl ?_
      rw [q_hF_s, ← nI_succ]
      exact ih (i + 1) (by omega)
  exact key L 0 (by omega)
theorem ctn_X1_clear {g : q_G} {d : Nat} (hd : 2 ≤ d) {h : q_H} {a l : Nat} (ha : 400 ≤ a) (hsh : q_sh h a = (0, 0, 0)) (hR : q_R h a 0 = some l) (hl : 400 ≤ l) (hls : q_sh h l = (1, 0, 128)) : q_Ct g m_X1_clear d 0 0 [] [.ref a] h (fun o h' => o = .inl none ∧ h' = q_hF h l 128 0) := by
  refine q_Ct_of ok_X1_clear (Nat.le_of_ble_eq_true rfl) ?_ _ rfl rfl
  refine q_go 1 (c' := (1, [some (.ref a)], [.ref a], h)) ok_X1_clear rfl ?_
  refine q_o_getR (h := h) ok_X1_clear rfl ha hsh (by decide) rfl ?_
  rw [hR]
  refine q_go 1 (c' := (3, [some (.ref a)], [.int 0, .ref l], h)) ok_X1_clear rfl ?_
  refine q_callS (M2 := m_J7_fill_53178) (As := [.ref l, .int 0]) (rest := []) ok_X1_clear ok_J7_fill_53178 rfl (by first | exact Or.inl rfl | exact Or.inr ⟨_, rfl⟩) cs_J7_fill_53178 (ctn_fill (d := 1) (Nat.le_refl _) hl hls rfl) hd (Nat.le_refl _) (Nat.le_refl _) (Nat.le_of_ble_eq_true rfl) (fun x hx => absurd hx List.not_mem_nil) (fun _ _ _ => List.not_mem_nil) (fun _ _ => List.not_mem_nil) rfl (fun v h' hq => ?_) (fun E9 h' hq => by cases hq.1)
  obtain ⟨e1, e2⟩ := hq
  cases e1; subst e2
  exact q_o_vret ok_X1_clear rfl rfl (Nat.le_refl _) (Nat.le_refl _) ⟨rfl, rfl⟩
abbrev q_F_X5_clear (a l : Nat) (x : Int32) (h : q_H) : q_H := q_hI (q_hI (q_hF h l 64 (-1)) a 1 (q_min (q_max x 0) 64)) a 2 0
theorem ctn_X5_clear {g : q_G} {d : Nat} (hd : 2 ≤ d) {h : q_H} {a l : Nat} {x : Int32} (ha : 400 ≤ a) (hsh : q_sh h a = (0, 4, 0)) (hR : q_R h a 0 = some l) (hl : 400 ≤ l) (hls : q_sh h l = (1, 0, 64)) : q_Ct g m_X5_clear d 0 0 [] [.ref a, .int x] h (fun o h' => o = .inl none ∧ h' = q_F_X5_clear a l x h) := by
  refine q_Ct_of ok_X5_clear (Nat.le_of_ble_eq_true rfl) ?_ _ rfl rfl
  refine q_go 1 (c' := (1, [some (.ref a), some (.int x)], [.ref a], h)) ok_X5_clear rfl ?_
  refine q_o_getR (h := h) ok_X5_clear rfl ha hsh (by decide) rfl ?_
  rw [hR]
  refine q_go 1 (c' := (3, [some (.ref a), some (.int x)], [.int (-1), .ref l], h)) ok_X5_clear rfl ?_
  refine q_callS (M2 := m_J7_fill_53178) (As := [.ref l, .int (-1)]) (rest := []) ok_X5_clear ok_J7_fill_53178 rfl (by first | exact Or.inl rfl | exact Or.inr ⟨_, rfl⟩) cs_J7_fill_53178 (ctn_fill (d := 1) (Nat.le_refl _) hl hls rfl) hd (Nat.le_refl _) (Nat.le_refl _) (Nat.le_of_ble_eq_true rfl) (fun x hx => absurd hx List.not_mem_nil) (fun _ _ _ => List.not_mem_nil) (fun _ _ => List.not_mem_nil) rfl (fun v h' hq => ?_) (fun E9 h' hq => by cases hq.1)
  obtain ⟨e1, e2⟩ := hq
  cases e1; subst e2
  refine q_go 3 (c' := (7, [some (.ref a), some (.int x)], [.int 0, .int x, .ref a], q_hF h l 64 (-1))) ok_X5_clear rfl ?_
  refine q_o_mmax ok_X5_clear rfl rfl (Nat.le_trans (by decide) hd) (Nat.le_of_ble_eq_true rfl) (Nat.le_refl _) (Nat.le_refl _) ?_
  refine q_go 1 (c' := (9, [some (.ref a), some (.int x)], [.int 64, .int (q_max x 0), .ref a], q_hF h l 64 (-1))) ok_X5_clear rfl ?_
  refine q_o_mmin ok_X5_clear rfl rfl (Nat.le_trans (by decide) hd) (Nat.le_of_ble_eq_true rfl) (Nat.le_refl _) (Nat.le_refl _) ?_
  refine q_o_putI (h := q_hF h l 64 (-1)) ok_X5_clear rfl ha hsh (show 0 < 2 by decide) rfl ?_
  refine q_go 2 (c' := (13, [some (.ref a), some (.int x)], [.int 0, .ref a], q_hI (q_hF h l 64 (-1)) a 1 (q_min (q_max x 0) 64))) ok_X5_clear rfl ?_
  refine q_o_putI (h := q_hI (q_hF h l 64 (-1)) a 1 (q_min (q_max x 0) 64)) ok_X5_clear rfl ha hsh (show 0 < 2 by decide) rfl ?_
  exact q_o_vret ok_X5_clear rfl rfl (Nat.le_refl _) (Nat.le_refl _) ⟨rfl, rfl⟩
def q_b1 (a p l : Nat) (h : q_H) : q_H := q_hF (q_hR h a 6 p) l 128 0
def q_b2 (a p l o r : Nat) (h : q_H) : q_H := q_F_X5_clear o r (q_I (q_b1 a p l h) p 1) (q_b1 a p l h)
def q_b3 (a p l o r k : Nat) (h : q_H) : q_H := q_hF (q_b2 a p l o r h) k 6 (-1)
abbrev q_F_X2_begin (a p l o r k : Nat) (h : q_H) : q_H := q_hI (q_hI (q_hI (q_hI (q_hI (q_hI (q_hI (q_hI (q_b3 a p l o r k h) a 7 0) a 8 0) a 9 0) a 10 0) a 11 0) a 12 0) a 13 0) a 14 0
theorem ctn_X2_begin {g : q_G} {d : Nat} (hd : 3 ≤ d) {h : q_H} {a p b l o r k : Nat} (ha : 400 ≤ a) (hsh : q_sh h a = (0, 1, 0)) (hp : 400 ≤ p) (hps : q_sh h p = (0, 5, 0)) (hb : 400 ≤ b) (hbs : q_sh h b = (0, 0, 0)) (hl : 400 ≤ l) (hls : q_sh h l = (1, 0, 128)) (ho : 400 ≤ o) (hos : q_sh h o = (0, 4, 0)) (hr : 400 ≤ r) (hrs : q_sh h r = (1, 0, 64)) (hk : 400 ≤ k) (hks : q_sh h k = (1, 0, 6))
    (r0 : q_R h a 0 = some b) (r1 : q_R h a 1 = some o) (r3 : q_R h a 3 = some k) (rb : q_R h b 0 = some l) (ro : q_R h o 0 = some r) (ab : a ≠ b) (ao : a ≠ o) : q_Ct g m_X2_begin d 0 0 [] [.ref a, .ref p] h (fun o' h' => o' = .inl none ∧ h' = q_F_X2_begin a p l o r k h) := by
  have ra : ∀ j, j ≠ 6 → q_u2 (q_R h) a 6 (some p) a j = q_R h a j := fun j hj => q_u2_j _ _ _ _ _ _ hj
  refine q_Ct_of ok_X2_begin (Nat.le_of_ble_eq_true rfl) ?_ _ rfl rfl
  refine q_go 2 (c' := (2, [some (.ref a), some (.ref p)], [.ref p, .ref a], h)) ok_X2_begin rfl ?_
  refine q_o_putR (h := h) ok_X2_begin rfl ha hsh (show 0 < 2 by decide) rfl ?_
  refine q_go 1 (c' := (4, [some (.ref a), some (.ref p)], [.ref a], q_hR h a 6 p)) ok_X2_begin rfl ?_
  refine q_o_getR (h := q_hR h a 6 p) ok_X2_begin rfl ha hsh (by decide) rfl ?_
  rw [show q_R (q_hR h a 6 p) a 0 = some b from (ra 0 (by decide)).trans r0]
  refine q_callV (h := q_hR h a 6 p) (M2 := m_X1_clear) (b := b) (As := []) (rest := []) ok_X2_begin ok_X1_clear rfl (by first | exact Or.inl rfl | exact Or.inr ⟨_, rfl⟩) cv_X1_clear hb hbs (show vwCl[0]? = some _ from rfl) rfl (ctn_X1_clear (d := 2) (Nat.le_refl _) hb hbs (show q_u2 (q_R h) a 6 (some p) b 0 = some l from (q_u2_n _ _ _ _ _ _ (Ne.symm ab)).trans rb) hl hls) hd (Nat.le_refl _) (Nat.le_refl _) (Nat.le_of_ble_eq_true rfl) (fun x hx => absurd hx List.not_mem_nil) (fun _ _ _ => List.not_mem_nil) (fun _ _ => List.not_mem_nil) rfl (fun v h' hq => ?_) (fun E9 h' hq => by cases hq.1)
  obtain ⟨e1, e2⟩ := hq
  cases e1; subst e2
  refine q_go 1 (c' := (7, [some (.ref a), some (.ref p)], [.ref a], q_b1 a p l h)) ok_X2_begin rfl ?_
  refine q_o_getR (h := q_b1 a p l h) ok_X2_begin rfl ha hsh (by decide) rfl ?_
  rw [show q_R (q_b1 a p l h) a 1 = some o from (ra 1 (by decide)).trans r1]
  refine q_go 1 (c' := (9, [some (.ref a), some (.ref p)], [.ref p, .ref o], q_b1 a p l h)) ok_X2_begin rfl ?_
  refine q_o_getI (h := q_b1 a p l h) ok_X2_begin rfl hp hps (by decide) rfl ?_
  refine q_callV (h := q_b1 a p l h) (M2 := m_X5_clear) (b := o) (As := [.int (q_I (q_b1 a p l h) p 1)]) (rest := []) ok_X2_begin ok_X5_clear rfl (by first | exact Or.inl rfl | exact Or.inr ⟨_, rfl⟩) cv_X5_clear ho hos (show vwCl[4]? = some _ from rfl) rfl (ctn_X5_clear (d := 2) (Nat.le_refl _) ho hos (show q_u2 (q_R h) a 6 (some p) o 0 = some r from (q_u2_n _ _ _ _ _ _ (Ne.symm ao)).trans ro) hr hrs) hd (Nat.le_refl _) (Nat.le_refl _) (Nat.le_of_ble_eq_true rfl) (fun x hx => absurd hx List.not_mem_nil) (fun _ _ _ => List.not_mem_nil) (fun _ _ => List.not_mem_nil) rfl (fun v h' hq => ?_) (fun E9 h' hq => by cases hq.1)
  obtain ⟨e1, e2⟩ := hq
  cases e1; subst e2
  refine q_go 1 (c' := (12, [some (.ref a), some (.ref p)], [.ref a], q_b2 a p l o r h)) ok_X2_begin rfl ?_
  refine q_o_getR (h := q_b2 a p l o r h) ok_X2_begin rfl ha hsh (by decide) rfl ?_
  rw [show q_R (q_b2 a p l o r h) a 3 = some k from (ra 3 (by decide)).trans r3]
  refine q_go 1 (c' := (14, [some (.ref a), some (.ref p)], [.int (-1), .ref k], q_b2 a p l o r h)) ok_X2_begin rfl ?_
  refine q_callS (M2 := m_J7_fill_53178) (As := [.ref k, .int (-1)]) (rest := []) ok_X2_begin ok_J7_fill_53178 rfl (by first | exact Or.inl rfl | exact Or.inr ⟨_, rfl⟩) cs_J7_fill_53178 (ctn_fill (d := 1) (Nat.le_refl _) hk hks rfl) (Nat.le_trans (by decide) hd) (Nat.le_refl _) (Nat.le_refl _) (Nat.le_of_ble_eq_true rfl) (fun x hx => absurd hx List.not_mem_nil) (fun _ _ _ => List.not_mem_nil) (fun _ _ => List.not_mem_nil) rfl (fun v h' hq => ?_) (fun E9 h' hq => by cases hq.1)
  obtain ⟨e1, e2⟩ := hq
  cases e1; subst e2
  refine q_go 2 (c' := (17, [some (.ref a), some (.ref p)], [.int 0, .ref a], (q_b3 a p l o r k h))) ok_X2_begin rfl ?_
  refine q_o_putI (h := (q_b3 a p l o r k h)) ok_X2_begin rfl ha hsh (show 0 < 2 by decide) rfl ?_
  refine q_go 2 (c' := (20, [some (.ref a), some (.ref p)], [.int 0, .ref a], (q_hI (q_b3 a p l o r k h) a 7 0))) ok_X2_begin rfl ?_
  refine q_o_putI (h := (q_hI (q_b3 a p l o r k h) a 7 0)) ok_X2_begin rfl ha hsh (show 0 < 2 by decide) rfl ?_
  refine q_go 2 (c' := (23, [some (.ref a), some (.ref p)], [.int 0, .ref a], (q_hI (q_hI (q_b3 a p l o r k h) a 7 0) a 8 0))) ok_X2_begin rfl ?_
  refine q_o_putI (h := (q_hI (q_hI (q_b3 a p l o r k h) a 7 0) a 8 0)) ok_X2_begin rfl ha hsh (show 0 < 2 by decide) rfl ?_
  refine q_go 2 (c' := (26, [some (.ref a), some (.ref p)], [.int 0, .ref a], (q_hI (q_hI (q_hI (q_b3 a p l o r k h) a 7 0) a 8 0) a 9 0))) ok_X2_begin rfl ?_
  refine q_o_putI (h := (q_hI (q_hI (q_hI (q_b3 a p l o r k h) a 7 0) a 8 0) a 9 0)) ok_X2_begin rfl ha hsh (show 0 < 2 by decide) rfl ?_
  refine q_go 2 (c' := (29, [some (.ref a), some (.ref p)], [.int 0, .ref a], (q_hI (q_hI (q_hI (q_hI (q_b3 a p l o r k h) a 7 0) a 8 0) a 9 0) a 10 0))) ok_X2_begin rfl ?_
  refine q_o_putI (h := (q_hI (q_hI (q_hI (q_hI (q_b3 a p l o r k h) a 7 0) a 8 0) a 9 0) a 10 0)) ok_X2_begin rfl ha hsh (show 0 < 2 by decide) rfl ?_
  refine q_go 2 (c' := (32, [some (.ref a), some (.ref p)], [.int 0, .ref a], (q_hI (q_hI (q_hI (q_hI (q_hI (q_b3 a p l o r k h) a 7 0) a 8 0) a 9 0) a 10 0) a 11 0))) ok_X2_begin rfl ?_
  refine q_o_putI (h := (q_hI (q_hI (q_hI (q_hI (q_hI (q_b3 a p l o r k h) a 7 0) a 8 0) a 9 0) a 10 0) a 11 0)) ok_X2_begin rfl ha hsh (show 0 < 2 by decide) rfl ?_
  refine q_go 2 (c' := (35, [some (.ref a), some (.ref p)], [.int 0, .ref a], (q_hI (q_hI (q_hI (q_hI (q_hI (q_hI (q_b3 a p l o r k h) a 7 0) a 8 0) a 9 0) a 10 0) a 11 0) a 12 0))) ok_X2_begin rfl ?_
  refine q_o_putI (h := (q_hI (q_hI (q_hI (q_hI (q_hI (q_hI (q_b3 a p l o r k h) a 7 0) a 8 0) a 9 0) a 10 0) a 11 0) a 12 0)) ok_X2_begin rfl ha hsh (show 0 < 2 by decide) rfl ?_
  refine q_go 2 (c' := (38, [some (.ref a), some (.ref p)], [.int 0, .ref a], (q_hI (q_hI (q_hI (q_hI (q_hI (q_hI (q_hI (q_b3 a p l o r k h) a 7 0) a 8 0) a 9 0) a 10 0) a 11 0) a 12 0) a 13 0))) ok_X2_begin rfl ?_
  refine q_o_putI (h := (q_hI (q_hI (q_hI (q_hI (q_hI (q_hI (q_hI (q_b3 a p l o r k h) a 7 0) a 8 0) a 9 0) a 10 0) a 11 0) a 12 0) a 13 0)) ok_X2_begin rfl ha hsh (show 0 < 2 by decide) rfl ?_
  exact q_o_vret ok_X2_begin rfl rfl (Nat.le_refl _) (Nat.le_refl _) ⟨rfl, rfl⟩
