/-! the plan that is read: ids 529 to 538 -/
def q_pE (ext : Nat → q_Sh) : Nat → q_Sh := fun a => bif Nat.blt a 539 then (bif Nat.blt a 530 then (0, 11, 0) else (bif Nat.blt a 534 then (1, 0, 20) else (bif Nat.blt a 537 then (1, 0, 21) else (bif Nat.blt a 538 then (1, 0, 800) else (1, 0, 400))))) else ext a
def q_pR (rx : Nat → Nat → Option Nat) : Nat → Nat → Option Nat := fun a => bif Nat.blt a 539 then (bif Nat.blt a 530 then (fun j => q_rr [none, none, none, none, none, none, some 530, some 531, some 532, some 533, some 534, some 535, some 536, some 537, none, some 538] j) else (fun _ => none)) else rx a
def q_sixc : Bool := (List.range 256).all fun c => (q_str 180).all fun v => decide ((v = (nI c).toInt8.toInt32) ↔ (v = nI c))
theorem q_sixc_ok : q_sixc = true := by decide +kernel
theorem q_sidx_out {c : Int32} : ∀ (l : List Int32) (k : Nat), (∀ v ∈ l, ¬ v = c) → q_sidx l k c = -1
  | [], k, _ => rfl
  | v :: t, k, h => by
    unfold q_sidx
    rw [if_neg (h v List.mem_cons_self)]
    exact q_sidx_out t (k + 1) (fun x hx => h x (List.mem_cons_of_mem _ hx))
theorem q_180lo : ∀ v ∈ q_str 180, ¬ v < 0 ∧ ¬ (255 : Int32) < v := by decide
section QSIDX
variable {g : q_G} {M : q_M} {d mc ms : Nat} {h0 : q_H} {mv : List Nat} {Q : (Option Value ⊕ String) → q_H → Prop} {k n pos pos' pc ln a1 a2 w1 w2 idx : Nat} {ls : List (Option Value)} {r : List Value} {h : q_H}
variable {X : q_Am} {I : Nat → Nat → Int32} {E : Nat → Nat → Option Nat} {lI : List (Nat × (Nat → Int32))} {lE : List (Nat × (Nat → Option Nat))} {i : Int32}
theorem ct_cenc (hd : 1 ≤ d) : q_Ct g m_J1_canEncode_9a6ad d 0 0 [] [.int i] h (fun o h' => o = .inl (some (.int (if i < 0 then 0 else if (255 : Int32) < i then 0 else 1))) ∧ h' = h) := by
  refine q_Ct_of ok_J1_canEncode_9a6ad (Nat.le_of_ble_eq_true rfl) ?_ _ rfl rfl
  refine q_if 2 (P := i < 0) (a := (7, [some (.int i)], [], h)) (b := (2, [some (.int i)], [], h)) ok_J1_canEncode_9a6ad rfl (fun h1 => ?_) (fun h1 => ?_)
  · refine q_go 1 (c' := (8, [some (.int i)], [.int 0], h)) ok_J1_canEncode_9a6ad rfl ?_
    exact q_o_iret ok_J1_canEncode_9a6ad rfl rfl rfl (Nat.le_refl _) (Nat.le_refl _) ⟨by rw [if_pos h1], rfl⟩
  · refine q_if 3 (P := (255 : Int32) < i) (a := (7, [some (.int i)], [], h)) (b := (5, [some (.int i)], [], h)) ok_J1_canEncode_9a6ad rfl (fun h2 => ?_) (fun h2 => ?_)
    · refine q_go 1 (c' := (8, [some (.int i)], [.int 0], h)) ok_J1_canEncode_9a6ad rfl ?_
      exact q_o_iret ok_J1_canEncode_9a6ad rfl rfl rfl (Nat.le_refl _) (Nat.le_refl _) ⟨by rw [if_neg h1, if_pos h2], rfl⟩
    · refine q_go 2 (c' := (8, [some (.int i)], [.int 1], h)) ok_J1_canEncode_9a6ad rfl ?_
      exact q_o_iret ok_J1_canEncode_9a6ad rfl rfl rfl (Nat.le_refl _) (Nat.le_refl _) ⟨by rw [if_neg h1, if_neg h2], rfl⟩
theorem ct_ichar (hd : 1 ≤ d) {c : Nat} (hc : c < 256) : q_Ct g m_J1_indexOfChar_4cfef d 0 0 [] [.ref 280, .int (nI c), .int (nI 0), .int (nI 13)] h (fun o h' => o = .inl (some (.int (q_sidx (q_str 180) 0 (nI c)))) ∧ h' = h) := by
  refine q_Ct_of ok_J1_indexOfChar_4cfef (Nat.le_of_ble_eq_true rfl) ?_ _ rfl rfl
  refine q_go 5 (c' := (5, [some (.ref 280), some (.int (nI c)), some (.int (nI 0)), some (.int (nI 13)), some (.int (nI c).toInt8.toInt32), some (.int (nI 0))], [], h)) ok_J1_indexOfChar_4cfef rfl ?_
  have hck : ∀ v ∈ q_str 180, (v = (nI c).toInt8.toInt32 ↔ v = nI c) := by
    have h1 := List.all_eq_true.mp q_sixc_ok c (List.mem_range.mpr hc)
    intro v hv
    have h2 := List.all_eq_true.mp h1 v hv
    simpa using h2
  have key : ∀ n j, j + n = 13 → q_J g m_J1_indexOfChar_4cfef d 0 0 h [] (fun o h' => o = .inl (some (.int (q_sidx ((q_str 180).drop j) j (nI c)))) ∧ h' = h) 0 0 (5, [some (.ref 280), some (.int (nI c)), some (.int (nI 0)), some (.int (nI 13)), some (.int (nI c).toInt8.toInt32), some (.int (nI j))], [], h) := by
    intro n
    induction n with
    | zero =>
      intro j hj
      obtain rfl : j = 13 := by omega
      refine q_if 3 (P := nI 13 ≤ nI 13) (a := (17, [some (.ref 280), some (.int (nI c)), some (.int (nI 0)), some (.int (nI 13)), some (.int (nI c).toInt8.toInt32), some (.int (nI 13))], [], h)) (b := (8, [some (.ref 280), some (.int (nI c)), some (.int (nI 0)), some (.int (nI 13)), some (.int (nI c).toInt8.toInt32), some (.int (nI 13))], [], h)) ok_J1_indexOfChar_4cfef rfl (fun _ => ?_) (fun h => absurd (nI_le (Nat.le_refl _) (by decide)) h)
      refine q_go 1 (c' := (18, [some (.ref 280), some (.int (nI c)), some (.int (nI 0)), some (.int (nI 13)), some (.int (nI c).toInt8.toInt32), some (.int (nI 13))], [.int (-1)], h)) ok_J1_indexOfChar_4cfef rfl ?_
      exact q_o_iret ok_J1_indexOfChar_4cfef rfl rfl rfl (Nat.le_refl _) (Nat.le_refl _) ⟨rfl, rfl⟩
    | succ n ih =>
      intro j hj
      have hjl : j < (q_str 180).length := by show j < 13; omega
      have hdrop : (q_str 180).drop j = (q_str 180).getD j 0 :: (q_str 180).drop (j + 1) := by
        rw [List.getD_eq_getElem?_getD, List.getElem?_eq_getElem hjl]
        exact List.drop_eq_getElem_cons hjl
      refine q_if 3 (P := nI 13 ≤ nI j) (a := (17, [some (.ref 280), some (.int (nI c)), some (.int (nI 0)), some (.int (nI 13)), some (.int (nI c).toInt8.toInt32), some (.int (nI j))], [], h)) (b := (8, [some (.ref 280), some (.int (nI c)), some (.int (nI 0)), some (.int (nI 13)), some (.int (nI c).toInt8.toInt32), some (.int (nI j))], [], h)) ok_J1_indexOfChar_4cfef rfl (fun h => absurd h (nI_ge (by omega) (by decide))) (fun _ => ?_)
      refine q_go 2 (c' := (10, [some (.ref 280), some (.int (nI c)), some (.int (nI 0)), some (.int (nI 13)), some (.int (nI c).toInt8.toInt32), some (.int (nI j))], [.int (nI j), .ref 280], h)) ok_J1_indexOfChar_4cfef rfl ?_
      refine q_o_xsbyte (b := 180) ok_J1_indexOfChar_4cfef rfl rfl (by decide) rfl hjl (by decide) ?_
      have hm := hck _ (q_getD_mem hjl)
      refine q_if 2 (P := ¬ (q_str 180).getD j 0 = (nI c).toInt8.toInt32) (a := (15, [some (.ref 280), some (.int (nI c)), some (.int (nI 0)), some (.int (nI 13)), some (.int (nI c).toInt8.toInt32), some (.int (nI j))], [], h)) (b := (13, [some (.ref 280), some (.int (nI c)), some (.int (nI 0)), some (.int (nI 13)), some (.int (nI c).toInt8.toInt32), some (.int (nI j))], [], h)) ok_J1_indexOfChar_4cfef rfl (fun h1 => ?_) (fun h1 => ?_)
      · refine q_go 2 (c' := (5, [some (.ref 280), some (.int (nI c)), some (.int (nI 0)), some (.int (nI 13)), some (.int (nI c).toInt8.toInt32), some (.int (nI j + 1))], [], h)) ok_J1_indexOfChar_4cfef rfl ?_
        rw [← nI_succ]
        have h3 := ih (j + 1) (by omega)
        rw [hdrop]
        unfold q_sidx
        rw [if_neg (fun e => h1 (hm.mpr e))]
        exact h3
      · refine q_go 1 (c' := (14, [some (.ref 280), some (.int (nI c)), some (.int (nI 0)), some (.int (nI 13)), some (.int (nI c).toInt8.toInt32), some (.int (nI j))], [.int (nI j)], h)) ok_J1_indexOfChar_4cfef rfl ?_
        refine q_o_iret ok_J1_indexOfChar_4cfef rfl rfl rfl (Nat.le_refl _) (Nat.le_refl _) ⟨?_, rfl⟩
        rw [hdrop]
        unfold q_sidx
        rw [if_pos (hm.mp (Classical.not_not.mp h1))]
  exact key 13 0 rfl
theorem ct_lidx (hd : 2 ≤ d) : q_Ct g m_J1_indexOf_4cfef d 0 0 [] [.ref 280, .int i, .int 0, .int (nI 13)] h (fun o h' => o = .inl (some (.int (q_sidx (q_str 180) 0 i))) ∧ h' = h) := by
  refine q_Ct_of ok_J1_indexOf_4cfef (Nat.le_of_ble_eq_true rfl) ?_ _ rfl rfl
  refine q_go 1 (c' := (1, [some (.ref 280), some (.int i), some (.int 0), some (.int (nI 13))], [.int i], h)) ok_J1_indexOf_4cfef rfl ?_
  refine q_callS (M2 := m_J1_canEncode_9a6ad) (As := [.int i]) (rest := []) ok_J1_indexOf_4cfef ok_J1_canEncode_9a6ad rfl (Or.inl rfl) cs_J1_canEncode_9a6ad (ct_cenc (d := 1) (Nat.le_refl _)) hd (Nat.le_refl _) (Nat.le_refl _) (Nat.le_of_ble_eq_true rfl) (fun x hx => absurd hx List.not_mem_nil) (fun _ _ _ => List.not_mem_nil) (fun _ _ => List.not_mem_nil) rfl (fun v h' hq => ?_) (fun E9 h' hq => by cases hq.1)
  obtain ⟨e1, e2⟩ := hq
  cases e1; subst e2
  refine q_if 1 (P := ¬ (if i < 0 then (0 : Int32) else if (255 : Int32) < i then 0 else 1) = 0) (a := (5, [some (.ref 280), some (.int i), some (.int 0), some (.int (nI 13))], [], h')) (b := (3, [some (.ref 280), some (.int i), some (.int 0), some (.int (nI 13))], [], h')) ok_J1_indexOf_4cfef rfl (fun h1 => ?_) (fun h1 => ?_)
  · have hi0 : ¬ i < 0 := fun h2 => h1 (by rw [if_pos h2])
    have hi1 : ¬ (255 : Int32) < i := fun h2 => h1 (by rw [if_neg hi0, if_pos h2])
    obtain ⟨c, hc, rfl⟩ := nI_of2 (M := 255) (n := 255) (by decide) hi0 (Int32.not_lt.mp hi1)
    refine q_go 2 (c' := (7, [some (.ref 280), some (.int (nI c)), some (.int 0), some (.int (nI 13))], [.int 0, .int 0], h')) ok_J1_indexOf_4cfef rfl ?_
    refine q_o_mmax ok_J1_indexOf_4cfef rfl rfl (by omega) (Nat.le_of_ble_eq_true rfl) (Nat.le_refl _) (Nat.le_refl _) ?_
    rw [show q_max (0 : Int32) 0 = nI 0 from by decide]
    refine q_go 3 (c' := (11, [some (.ref 280), some (.int (nI c)), some (.int (nI 0)), some (.int (nI 13))], [.ref 280, .int (nI 13)], h')) ok_J1_indexOf_4cfef rfl ?_
    refine q_o_xslen (b := 180) ok_J1_indexOf_4cfef rfl rfl (by decide) ?_
    refine q_o_mmin ok_J1_indexOf_4cfef rfl rfl (by omega) (Nat.le_of_ble_eq_true rfl) (Nat.le_refl _) (Nat.le_refl _) ?_
    rw [show q_min (nI 13) (nI (q_str 180).length) = nI 13 from by decide]
    refine q_if 4 (P := nI 0 < nI 13) (a := (19, [some (.ref 280), some (.int (nI c)), some (.int (nI 0)), some (.int (nI 13))], [], h')) (b := (17, [some (.ref 280), some (.int (nI c)), some (.int (nI 0)), some (.int (nI 13))], [], h')) ok_J1_indexOf_4cfef rfl (fun _ => ?_) (fun h2 => absurd (by decide) h2)
    refine q_go 4 (c' := (23, [some (.ref 280), some (.int (nI c)), some (.int (nI 0)), some (.int (nI 13))], [.int (nI 13), .int (nI 0), .int (nI c), .ref 280], h')) ok_J1_indexOf_4cfef rfl ?_
    refine q_callS (M2 := m_J1_indexOfChar_4cfef) (As := [.ref 280, .int (nI c), .int (nI 0), .int (nI 13)]) (rest := []) ok_J1_indexOf_4cfef ok_J1_indexOfChar_4cfef rfl (Or.inl rfl) cs_J1_indexOfChar_4cfef (ct_ichar (d := 1) (Nat.le_refl _) (by omega)) hd (Nat.le_refl _) (Nat.le_refl _) (Nat.le_of_ble_eq_true rfl) (fun x hx => absurd hx List.not_mem_nil) (fun _ _ _ => List.not_mem_nil) (fun _ _ => List.not_mem_nil) rfl (fun v h9 hq => ?_) (fun E9 h' hq => by cases hq.1)
    obtain ⟨e1, e2⟩ := hq
    cases e1; subst e2
    exact q_o_iret ok_J1_indexOf_4cfef rfl rfl rfl (Nat.le_refl _) (Nat.le_refl _) ⟨rfl, rfl⟩
  · have hout : ∀ v ∈ q_str 180, ¬ v = i := by
      intro v hv e
      subst e
      obtain ⟨h2, h3⟩ := q_180lo v hv
      rw [if_neg h2, if_neg h3] at h1
      exact h1 (by decide)
    refine q_go 1 (c' := (4, [some (.ref 280), some (.int i), some (.int 0), some (.int (nI 13))], [.int (-1)], h')) ok_J1_indexOf_4cfef rfl ?_
    exact q_o_iret ok_J1_indexOf_4cfef rfl rfl rfl (Nat.le_refl _) (Nat.le_refl _) ⟨by rw [q_sidx_out _ _ hout], rfl⟩
theorem ct_sidx2 (hd : 3 ≤ d) : q_Ct g m_J0_indexOf_7cf53 d 0 0 [] [.ref 180, .int i, .int 0] h (fun o h' => o = .inl (some (.int (q_sidx (q_str 180) 0 i))) ∧ h' = h) := by
  refine q_Ct_of ok_J0_indexOf_7cf53 (Nat.le_of_ble_eq_true rfl) ?_ _ rfl rfl
  refine q_go 1 (c' := (1, [some (.ref 180), some (.int i), some (.int 0)], [.ref 180], h)) ok_J0_indexOf_7cf53 rfl ?_
  refine q_callX (M2 := m_J0_isLatin1_aae02) (As := []) (rest := []) ok_J0_indexOf_7cf53 ok_J0_isLatin1_aae02 rfl (Or.inl rfl) cv_J0_isLatin1_aae02 (by decide) (q_strO rfl) rfl (ct_latin (d := 1) (Nat.le_refl _) ⟨rfl, by decide⟩) (by omega) (Nat.le_refl _) (Nat.le_refl _) (Nat.le_of_ble_eq_true rfl) (fun x hx => absurd hx List.not_mem_nil) (fun _ _ _ => List.not_mem_nil) (fun _ _ => List.not_mem_nil) rfl (fun v h' hq => ?_) (fun E9 h' hq => by cases hq.1)
  obtain ⟨e1, e2⟩ := hq
  cases e1; subst e2
  refine q_if 1 (P := (1 : Int32) = 0) (a := (11, [some (.ref 180), some (.int i), some (.int 0)], [], h')) (b := (3, [some (.ref 180), some (.int i), some (.int 0)], [], h')) ok_J0_indexOf_7cf53 rfl (fun h => absurd h (by decide)) (fun _ => ?_)
  refine q_go 1 (c' := (4, [some (.ref 180), some (.int i), some (.int 0)], [.ref 180], h')) ok_J0_indexOf_7cf53 rfl ?_
  refine q_o_xvalue ok_J0_indexOf_7cf53 rfl rfl (by decide) rfl ?_
  refine q_go 3 (c' := (8, [some (.ref 180), some (.int i), some (.int 0)], [.ref 180, .int 0, .int i, .ref 280], h')) ok_J0_indexOf_7cf53 rfl ?_
  refine q_callX (M2 := m_J0_length_8abf5) (As := []) (rest := [.int 0, .int i, .ref 280]) ok_J0_indexOf_7cf53 ok_J0_length_8abf5 rfl (Or.inl rfl) cv_J0_length_8abf5 (by decide) (q_strO rfl) rfl (ct_slen (d := 2) (Nat.le_refl _) ⟨rfl, by decide⟩) hd (Nat.le_refl _) (Nat.le_refl _) (Nat.le_of_ble_eq_true rfl) (fun x hx => absurd hx List.not_mem_nil) (fun _ _ _ => List.not_mem_nil) (fun _ _ => List.not_mem_nil) rfl (fun v h9 hq => ?_) (fun E9 h' hq => by cases hq.1)
  obtain ⟨e1, e2⟩ := hq
  cases e1; subst e2
  refine q_callS (M2 := m_J1_indexOf_4cfef) (As := [.ref 280, .int i, .int 0, .int (nI 13)]) (rest := []) ok_J0_indexOf_7cf53 ok_J1_indexOf_4cfef rfl (Or.inl rfl) cs_J1_indexOf_4cfef (ct_lidx (d := 2) (Nat.le_refl _)) hd (Nat.le_refl _) (Nat.le_refl _) (Nat.le_of_ble_eq_true rfl) (fun x hx => absurd hx List.not_mem_nil) (fun _ _ _ => List.not_mem_nil) (fun _ _ => List.not_mem_nil) rfl (fun v h9 hq => ?_) (fun E9 h' hq => by cases hq.1)
  obtain ⟨e1, e2⟩ := hq
  cases e1; subst e2
  refine q_go 1 (c' := (18, [some (.ref 180), some (.int i), some (.int 0)], [.int (q_sidx (q_str 180) 0 i)], h9)) ok_J0_indexOf_7cf53 rfl ?_
  exact q_o_iret ok_J0_indexOf_7cf53 rfl rfl rfl (Nat.le_refl _) (Nat.le_refl _) ⟨rfl, rfl⟩
theorem ct_sidx (hd : 4 ≤ d) : q_Ct g m_J0_indexOf_0f7a4 d 0 0 [] [.ref 180, .int i] h (fun o h' => o = .inl (some (.int (q_sidx (q_str 180) 0 i))) ∧ h' = h) := by
  refine q_Ct_of ok_J0_indexOf_0f7a4 (Nat.le_of_ble_eq_true rfl) ?_ _ rfl rfl
  refine q_go 3 (c' := (3, [some (.ref 180), some (.int i)], [.int 0, .int i, .ref 180], h)) ok_J0_indexOf_0f7a4 rfl ?_
  refine q_callX (M2 := m_J0_indexOf_7cf53) (As := [.int i, .int 0]) (rest := []) ok_J0_indexOf_0f7a4 ok_J0_indexOf_7cf53 rfl (Or.inl rfl) cv_J0_indexOf_7cf53 (by decide) (q_strO rfl) rfl (ct_sidx2 (d := 3) (Nat.le_refl _)) hd (Nat.le_refl _) (Nat.le_refl _) (Nat.le_of_ble_eq_true rfl) (fun x hx => absurd hx List.not_mem_nil) (fun _ _ _ => List.not_mem_nil) (fun _ _ => List.not_mem_nil) rfl (fun v h9 hq => ?_) (fun E9 h' hq => by cases hq.1)
  obtain ⟨e1, e2⟩ := hq
  cases e1; subst e2
  exact q_o_iret ok_J0_indexOf_0f7a4 rfl rfl rfl (Nat.le_refl _) (Nat.le_refl _) ⟨rfl, rfl⟩
theorem q_ksidx (hok : q_okM M = true) (he : q_nth M.2.2.2.2.1 pos = some (pc, .invokevirtual idx, ln, a1, a2, w1, w2)) (hw : q_lk M idx m_J0_indexOf_0f7a4.1 (q_gw w1 w2)) (hd : 6 ≤ d) (hcat : (r.map fun v => v.category).sum ≤ 8) (hk : k ≤ mc) (hn : n ≤ ms) (hp : pos + 1 = pos')
    (hJ : q_J g M d mc ms h0 mv Q k n (q_kc X I E pos' ls (.int (q_sidx (q_str 180) 0 i) :: r) lI lE)) : q_J g M d mc ms h0 mv Q k n (q_kc X I E pos ls (.int i :: .ref 180 :: r) lI lE) := by
  subst hp
  refine q_callX (h := q_hp X (q_ws I lI) (q_ws E lE)) (M2 := m_J0_indexOf_0f7a4) (As := [.int i]) (rest := r) hok ok_J0_indexOf_0f7a4 he hw cv_J0_indexOf_0f7a4 (by decide) (q_strO rfl) rfl (ct_sidx (d := 4) (Nat.le_refl _)) (by omega) hk hn hcat (fun x hx => absurd hx List.not_mem_nil) (fun _ _ _ => List.not_mem_nil) (fun _ _ => List.not_mem_nil) rfl (fun v h' hq => ?_) (fun E9 h' hq => by cases hq.1)
  obtain ⟨e1, e2⟩ := hq
  cases e1; subst e2
  exact hJ
end QSIDX
