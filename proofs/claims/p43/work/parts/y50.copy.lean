/-! BYTES COPIED, byte rows cloned -/
def q_by (x : Int32) : Prop := fits .byte (.int x) = true
theorem q_vmC : Jvm.Cond.sameMethod "[B" "java/lang/Object" "clone" "()Ljava/lang/Object;" ∈ q_tb := List.mem_filter.mpr ⟨by decide +kernel, rfl⟩
theorem q_natC : Jvm.Cond.native ⟨"java/lang/Object", "clone", "()Ljava/lang/Object;"⟩ ∈ q_tb := List.mem_filter.mpr ⟨by decide +kernel, rfl⟩
theorem q_insC : Jvm.Cond.instanceMethod ⟨"java/lang/Object", "clone", "()Ljava/lang/Object;"⟩ ∈ q_tb := List.mem_filter.mpr ⟨by decide +kernel, rfl⟩
theorem q_selC : Jvm.Cond.selects "[B" ⟨"[B", "clone", "()Ljava/lang/Object;"⟩ ⟨"java/lang/Object", "clone", "()Ljava/lang/Object;"⟩ ∈ q_tb := List.mem_filter.mpr ⟨by decide +kernel, rfl⟩
theorem q_casC : Jvm.Cond.castable "[B" "java/lang/Cloneable" ∈ lw_tbl := by decide +kernel
/-- a byte row that is a clone of a's -/
def q_cln (h : q_H) (a L : Nat) : q_H := (q_nx h + 1, q_ur (q_sh h) (q_nx h) (1, 1, L), q_ur (q_I h) (q_nx h) (q_I h a), q_ur (q_R h) (q_nx h) (fun _ => none), q_ur (q_E h) (q_nx h) (fun _ => none), q_ur (q_L h) (q_nx h) (fun _ => 0))
/-- bytes of f are written into b's -/
def q_cpy (h : q_H) (f : Nat → Int32) (b sp dp c : Nat) : q_H := (q_nx h, q_sh h, q_ur (q_I h) b (va_cpy f (q_I h b) sp dp c), q_R h, q_E h, q_L h)
theorem q_Sit_cln {g : q_G} {nL : Nat} {D : va_G} {cA : Nat → ClassId} {ρ0 ρ : Nat → Nat} {h0 h : q_H} {mv : List Nat} {A : Nat → Prop} {s : State} {H H1 : Heap} {locs : List Loc} {ls : List (Option Value)} {rls : Array Slot} {st r : List Value} {ws : va_W} {q : Nat} {a0 L : Nat}
    (hS : q_Sit g nL D cA ρ0 ρ h0 h mv A s H locs ls rls st) (h1 : ws.length + 400 = q_nx h) (h2 : ∀ (k : Nat) (q : Nat × va_E), ws[k]? = some q → q.1 = ρ (400 + k) ∧ q_cr cA ρ h (400 + k) q.2 (q_sh h (400 + k)))
    (hP : va_P D vwCl (ws ++ [(q, .inl (cA 1, L, .inl (q_I h a0)))]) H1) (hD : va_D A (ws ++ [(q, .inl (cA 1, L, .inl (q_I h a0)))])) (hVS1 : va_S A s.heap H1 locs) (hr : ∀ v ∈ r, q_vcl h v) :
    q_Sit g nL D cA ρ0 (q_ur ρ (q_nx h) q) h0 (q_cln h a0 L) mv A s H1 locs ls rls (.ref (q_nx h) :: r) := by
  obtain ⟨hK, hW, hVS, hX, hC, hst, hls, hlh, hag, hag2, hA, hn1, hn2⟩ := hS
  refine ⟨hK, ⟨ws ++ [(q, .inl (cA 1, L, .inl (q_I h a0)))], by simp only [List.length_append, List.length_cons, List.length_nil]; show _ = q_nx h + 1; omega, fun k x hx => ?_, hP, hD⟩, hVS1, hX, (q_clo_new hC : q_clo (q_new h (1, 1, L))), ?_, fun i v hv => (q_vcl_new (sN := (1, 1, L)) (hls i v hv) : q_vcl (q_new h (1, 1, L)) v), ?_, fun a ha hm => ?_, fun a ha => ?_, hA, Nat.le_succ_of_le hn1, Nat.le_succ_of_le hn2⟩
  · by_cases hk : k < ws.length
    · rw [List.getElem?_append_left hk] at hx
      obtain ⟨e1, e2⟩ := h2 k x hx
      have hne : 400 + k ≠ q_nx h := by omega
      refine ⟨by rw [q_ur_n _ _ _ hne]; exact e1, ?_⟩
      rw [show q_sh (q_cln h a0 L) (400 + k) = q_sh h (400 + k) from q_ur_n _ _ _ hne]
      refine q_cr_ren (q_ur_n _ _ _ hne) (q_ur_n _ _ _ hne) (q_ur_n _ _ _ hne) (q_ur_n _ _ _ hne) (fun b hb => ?_) e2
      rcases hb with ⟨j, hb⟩ | ⟨j, hb⟩
      · exact q_ur_n _ _ _ (Nat.ne_of_lt (hC.1 _ _ _ hb))
      · exact q_ur_n _ _ _ (Nat.ne_of_lt (Nat.lt_of_lt_of_le (hC.2.1 _ _ _ hb) (Nat.le_trans (by decide) hn1)))
    · have hk2 : k = ws.length := by
        have := (List.getElem?_eq_some_iff.mp hx).1
        simp only [List.length_append, List.length_cons, List.length_nil] at this
        omega
      rw [hk2, List.getElem?_append_right (Nat.le_refl _), Nat.sub_self] at hx
      cases hx
      have hk3 : 400 + k = q_nx h := by omega
      rw [hk3]
      refine ⟨(q_ur_s _ _ _).symm, ?_⟩
      rw [show q_sh (q_cln h a0 L) (q_nx h) = (1, 1, L) from q_ur_s _ _ _]
      show (Sum.inl (cA 1, L, Sum.inl (q_I h a0)) : va_E) = Sum.inl (cA 1, L, Sum.inl (q_ur (q_I h) (q_nx h) (q_I h a0) (q_nx h)))
      rw [q_ur_s]
  · exact q_cl1 (fun z hz => by cases hz; exact Nat.lt_succ_self _) (fun v hv => (q_vcl_new (sN := (1, 1, L)) (hr v hv) : q_vcl (q_new h (1, 1, L)) v))
  · exact q_lh_ren (fun i a ha => q_ur_n _ _ _ (Nat.ne_of_lt (hls i _ ha a rfl))) hlh
  · rw [q_ur_n _ _ _ (Nat.ne_of_lt (Nat.lt_of_lt_of_le ha hn2))]; exact hag a ha hm
  · rw [q_ur_n _ _ _ (Nat.ne_of_lt (Nat.lt_of_lt_of_le ha hn1))]; exact hag2 a ha
section KCOPY
variable {g : q_G} {xt : List ExceptionTableEntry} {M : q_M} {d mc ms : Nat} {h0 : q_H} {mv : List Nat} {Q : (Option Value ⊕ String) → q_H → Prop} {k n pos pc ln a1 a2 w1 w2 idx a b L L2 sp dp c : Nat} {ls : List (Option Value)} {st r : List Value} {h : q_H}
theorem k_o_copyB (hok : q_okB M = true) (he : q_nth M.2.2.2.2.1 pos = some (pc, .invokestatic idx, ln, a1, a2, w1, w2)) (hw : q_gw w1 w2 = some (.methodLink M.1.cls idx arraycopyName)) (hd1 : 1 ≤ d) (hcat : (r.map fun v => v.category).sum ≤ 8)
    (ha : 400 ≤ a) (hsh : q_sh h a = (1, 1, L)) (hb4 : 400 ≤ b) (hsb : q_sh h b = (1, 1, L2)) (hc1 : sp + c ≤ L) (hc2 : dp + c ≤ L2) (hL : L < 2147483648) (hL2 : L2 < 2147483648) (hf : ∀ i, i < c → q_by (q_I h a (sp + i)))
    (hJ : q_K g M xt d mc ms h0 mv Q k n (pos + 1, ls, r, q_cpy h (q_I h a) b sp dp c)) : q_K g M xt d mc ms h0 mv Q k n (pos, ls, .int (nI c) :: .int (nI dp) :: .ref b :: .int (nI sp) :: .ref a :: r, h) := by
  obtain rfl : ln = 3 := (q_atB hok he).2.2.1 (Nat.succ_ne_zero _)
  intro p e s m args below meth cd D cA ρ0 ρ A H locs rls en hen hB hS
  cases he.symm.trans hen
  obtain ⟨hd, hnx, -, ho2⟩ := q_atB hok he
  obtain ⟨en', he', hpc⟩ := hnx rfl
  obtain ⟨hx, hb, hr, hml, hts, hown, hlk, hnm, hxt⟩ := id hB
  obtain ⟨hK, hW, hVS, hX, hC, hst, hls, hlh, hag, hag2, hA, hnx0⟩ := id hS
  have ha2 : a < q_nx h := q_lt hC hsh (by decide)
  have hb2 : b < q_nx h := q_lt hC hsb (by decide)
  obtain ⟨ws, f1, f2, hP, hD⟩ := hW
  have f1 : ws.length + 400 = q_nx h := f1
  have look : ∀ z, 400 ≤ z → z < q_nx h → ∃ e, ws[z - 400]? = some (ρ z, e) ∧ q_cr cA ρ h z e (q_sh h z) := by
    intro z z1 z2
    have hk9 : z - 400 < ws.length := by omega
    have he9 : ws[z - 400]? = some ws[z - 400] := List.getElem?_eq_getElem hk9
    obtain ⟨y1, y2⟩ := f2 _ _ he9
    rw [show 400 + (z - 400) = z by omega] at y1 y2
    exact ⟨ws[z - 400].2, by rw [he9, ← y1], y2⟩
  obtain ⟨ea, hea, hca⟩ := look a ha ha2
  obtain ⟨eb, heb, hcb⟩ := look b hb4 hb2
  rw [hsh] at hca
  rw [hsb] at hcb
  have hca : ea = _ := hca
  have hcb : eb = _ := hcb
  rw [hca] at hea
  rw [hcb] at heb
  have hc16 : c < 2147483648 := by omega
  have := q_cat8 (ρ := ρ) hcat
  refine va_copyi hx hb (hml.trans hlh.1.symm) hown (hts _ (q_gw_in hw rfl)) (hts _ q_acN) (hts _ q_acS) (hts _ q_acI) hK hP hD hVS (a - 400) (b - 400) 1 1 hea heb rfl rfl rfl (nI_pos (by omega)) (nI_pos (by omega)) (nI_pos (by omega)) ?_ ?_ (fun i hi => ?_) hd1 ?_ hd (fun H1 locs1 hP1 hD1 hS1 => ?_)
  · rw [nI_clamp (by omega), nI_clamp (by omega)]; exact hc1
  · rw [nI_clamp (by omega), nI_clamp (by omega)]; exact hc2
  · rw [nI_clamp (by omega)] at hi ⊢
    exact hf i hi
  · show ((r.map (q_vz ρ)).map fun v => v.category).sum + (nativeFrameWords "java/lang/System" "arraycopy" 5 + 11) ≤ q_lc d
    have h64 := q_lc64 hd1
    have h7 : nativeFrameWords "java/lang/System" "arraycopy" 5 ≤ 40 := by decide +kernel
    omega
  rw [nI_clamp (by omega), nI_clamp (by omega), nI_clamp (by omega)] at hP1 hD1
  have hW1 : q_Wd D cA ρ (q_cpy h (q_I h a) b sp dp c) A H1 := by
    refine q_Wd_set f1 f2 hb4 hb2 rfl rfl (fun z hz => ⟨q_ur_n _ _ _ hz, rfl, rfl, rfl⟩) ?_ hP1 hD1
    show q_cr cA ρ _ b _ (q_sh h b)
    rw [hsb]
    show (Sum.inl (cA 1, L2, Sum.inl (va_cpy (q_I h a) (q_I h b) sp dp c)) : va_E) = Sum.inl (cA 1, L2, Sum.inl (q_ur (q_I h) b (va_cpy (q_I h a) (q_I h b) sp dp c) b))
    rw [q_ur_s]
  have h9 := hJ p e s m args below meth cd D cA ρ0 ρ A H1 locs1 rls en' he' hB ⟨hK, hW1, hS1, hX, hC, q_tl (q_tl (q_tl (q_tl (q_tl hst)))), hls, hlh, hag, hag2, hA, hnx0⟩
  rw [hpc] at h9
  exact h9
/-- the same out of a text that stands outside -/
theorem k_o_copyS (hok : q_okB M = true) (he : q_nth M.2.2.2.2.1 pos = some (pc, .invokestatic idx, ln, a1, a2, w1, w2)) (hw : q_gw w1 w2 = some (.methodLink M.1.cls idx arraycopyName)) (hd1 : 1 ≤ d) (hcat : (r.map fun v => v.category).sum ≤ 8)
    (ha : q_isStr a = true) (ha3 : a < 300) (hb4 : 400 ≤ b) (hsb : q_sh h b = (1, 1, L2)) (hc1 : sp + c ≤ (q_str a).length) (hc2 : dp + c ≤ L2) (hL : (q_str a).length < 2147483648) (hL2 : L2 < 2147483648) (hf : ∀ i, i < c → q_by ((q_str a).getD (sp + i) 0))
    (hJ : q_K g M xt d mc ms h0 mv Q k n (pos + 1, ls, r, q_cpy h (fun j => (q_str a).getD j 0) b sp dp c)) : q_K g M xt d mc ms h0 mv Q k n (pos, ls, .int (nI c) :: .int (nI dp) :: .ref b :: .int (nI sp) :: .ref (100 + a) :: r, h) := by
  obtain rfl : ln = 3 := (q_atB hok he).2.2.1 (Nat.succ_ne_zero _)
  intro p e s m args below meth cd D cA ρ0 ρ A H locs rls en hen hB hS
  cases he.symm.trans hen
  obtain ⟨hd, hnx, -, ho2⟩ := q_atB hok he
  obtain ⟨en', he', hpc⟩ := hnx rfl
  obtain ⟨hx, hb, hr, hml, hts, hown, hlk, hnm, hxt⟩ := id hB
  obtain ⟨hK, hW, hVS, hX, hC, hst, hls, hlh, hag, hag2, hA, hnx0⟩ := id hS
  have hb2 : b < q_nx h := q_lt hC hsb (by decide)
  obtain ⟨ws, f1, f2, hP, hD⟩ := hW
  have f1 : ws.length + 400 = q_nx h := f1
  have hk9 : b - 400 < ws.length := by omega
  have he9 : ws[b - 400]? = some ws[b - 400] := List.getElem?_eq_getElem hk9
  obtain ⟨y1, y2⟩ := f2 _ _ he9
  rw [show 400 + (b - 400) = b by omega] at y1 y2
  rw [hsb] at y2
  have y2 : ws[b - 400].2 = _ := y2
  have heb : ws[b - 400]? = some (ρ b, .inl (cA 1, L2, .inl (q_I h b))) := by rw [he9, ← y1, ← y2]
  have hc16 : c < 2147483648 := by omega
  have h8 := q_cat8 (ρ := ρ) hcat
  have hT := (hX.2.2.2.2.2.2.2.2.1 a ha).2.2.2
  rw [← hag2 (100 + a) (by omega)] at hT
  obtain ⟨scr, g1, g2, g3, g4, -, g6, g7⟩ := hT
  have hal : ρ (100 + a) < s.heap.size := (Array.getElem?_eq_some_iff.mp g1).1
  have hh7 : nativeFrameWords "java/lang/System" "arraycopy" 5 ≤ 40 := by decide +kernel
  have h64 := q_lc64 hd1
  intro T hTh X
  have hc0 : H[ρ (100 + a)]? = some scr := by rw [hVS.2.1 _ hal g7]; exact g1
  have hc1' : H[ρ b]? = some (vp_cell (cA 1) (L2, .inl (q_I h b))) := hP (b - 400) _ heb
  obtain ⟨gs6, k0, hk0, cm0, hkk0⟩ := g2
  obtain ⟨-, k1, hk1, cm1, hkk1⟩ := (hK.2 1 (cA 1, .byte) rfl).1 L2 (fun j => .int (q_I h b j))
  have ni : ∀ z : Nat, z < 2147483648 → (nI z).toInt = z := fun z hz => by
    have h9 := nI_clamp hz
    have hp : ¬ nI z < 0 := nI_pos hz
    have hz0 : (0 : Int) ≤ (nI z).toInt := by
      have := Int32.not_lt.mp hp
      simpa using Int32.le_iff_toInt_le.mp this
    have : (nI z).toInt.toNat = z := h9
    omega
  obtain ⟨vm', X', step⟩ := X.arraycopy hx hown (hts _ (q_gw_in hw rfl)) (hts _ q_acN) (hts _ q_acS) (hts _ q_acI) (src := ρ (100 + a)) (dst := ρ b) (cs := scr) (cd := vp_cell (cA 1) (L2, .inl (q_I h b))) (srcPos := nI sp) (destPos := nI dp) (n := nI c) (by rw [hTh]; exact hc0) (by rw [hTh]; exact hc1')
    gs6 (fun _ h => by cases h) g3 (fun h => by cases h) hk0 hk1 hkk0 hkk1 (by simp [refKind]) (nI_pos (by omega)) (nI_pos (by omega)) (nI_pos (by omega))
    (by rw [ni sp (by omega), ni c (by omega)]; omega)
    (by rw [ni dp (by omega), ni c (by omega)]; show ¬ _ > ((arrV (cA 1) L2 (fun j => .int (q_I h b j))).slots.size : Int); rw [arrV_size]; omega)
    (fun vm₁ _ i hi => by
      rw [nI_clamp (by omega)] at hi ⊢
      have e : scr.slots.getD (sp + i) .null = .int ((q_str a).getD (sp + i) 0) := by
        rw [Array.getD_eq_getD_getElem?, g6 _ (by omega)]
        rfl
      refine ⟨?_, ?_⟩
      · rw [e]
        exact hf i hi
      · rw [e]
        exact trivial)
    (g := F0 m pc rls (.int (nI c) :: .int (nI dp) :: .ref (ρ b) :: .int (nI sp) :: .ref (ρ (100 + a)) :: r.map (q_vz ρ))) rfl (by rw [hml]; exact hlh.1) (rest := r.map (q_vz ρ)) rfl (by rw [hb]; exact hd) hd1 (by show 2 * 0 + _ + _ ≤ q_lc d; omega)
  have e1 : copied scr (vp_cell (cA 1) (L2, .inl (q_I h b))) (nI sp) (nI dp) (nI c) = vp_cell (cA 1) (L2, .inl (va_cpy (fun j => (q_str a).getD j 0) (q_I h b) sp dp c)) := by
    have e2 := va_copiedX (fun z => .int z) scr (cA 1) (n1 := L2) (sp := sp) (dp := dp) (n := c) (fun j => (q_str a).getD j 0) (q_I h b) g6 (by omega)
    unfold copied
    rw [nI_clamp (by omega), nI_clamp (by omega), nI_clamp (by omega)]
    exact e2
  rw [e1] at X' step
  have hl : ρ b < H.size := (Array.getElem?_eq_some_iff.mp hc1').1
  have hheap : ((T.setVm vm').setCell (ρ b) (vp_cell (cA 1) (L2, .inl (va_cpy (fun j => (q_str a).getD j 0) (q_I h b) sp dp c)))).heap = H.setIfInBounds (ρ b) (vp_cell (cA 1) (L2, .inl (va_cpy (fun j => (q_str a).getD j 0) (q_I h b) sp dp c))) := by rw [← hTh]; rfl
  have oq : ∀ q : Nat, q ≠ ρ b → (H.setIfInBounds (ρ b) (vp_cell (cA 1) (L2, .inl (va_cpy (fun j => (q_str a).getD j 0) (q_I h b) sp dp c))))[q]? = H[q]? := fun q hq => by simp [Array.getElem?_setIfInBounds, Ne.symm hq]
  have hP1 := hP.set hD heb (e := .inl (cA 1, L2, .inl (va_cpy (fun j => (q_str a).getD j 0) (q_I h b) sp dp c))) (show (H.setIfInBounds (ρ b) _)[ρ b]? = some _ by simp [Array.getElem?_setIfInBounds, hl]) oq
  have hD1 := hD.set (e := .inl (cA 1, L2, .inl (va_cpy (fun j => (q_str a).getD j 0) (q_I h b) sp dp c))) heb
  have hW1 : q_Wd D cA ρ (q_cpy h (fun j => (q_str a).getD j 0) b sp dp c) A (H.setIfInBounds (ρ b) (vp_cell (cA 1) (L2, .inl (va_cpy (fun j => (q_str a).getD j 0) (q_I h b) sp dp c)))) := by
    refine q_Wd_set f1 f2 hb4 hb2 rfl rfl (fun z hz => ⟨q_ur_n _ _ _ hz, rfl, rfl, rfl⟩) ?_ hP1 hD1
    show q_cr cA ρ _ b _ (q_sh h b)
    rw [hsb]
    show (Sum.inl (cA 1, L2, Sum.inl (va_cpy (fun j => (q_str a).getD j 0) (q_I h b) sp dp c)) : va_E) = Sum.inl (cA 1, L2, Sum.inl (q_ur (q_I h) b (va_cpy (fun j => (q_str a).getD j 0) (q_I h b) sp dp c) b))
    rw [q_ur_s]
  have h9 := fun (locs1 : List Loc) (hS1 : va_S A s.heap (H.setIfInBounds (ρ b) (vp_cell (cA 1) (L2, .inl (va_cpy (fun j => (q_str a).getD j 0) (q_I h b) sp dp c)))) locs1) => hJ p e s m args below meth cd D cA ρ0 ρ A _ locs1 rls en' he' hB ⟨hK, hW1, hS1, hX, hC, q_tl (q_tl (q_tl (q_tl (q_tl hst)))), hls, hlh, hag, hag2, hA, hnx0⟩
  simp only [hpc] at h9
  obtain ⟨t, b1, b2⟩ := h9 _ (by
    refine ⟨by simp; exact hVS.1, fun q x1 x2 => ?_, fun q hq => ?_⟩
    · rw [oq q (fun e => x2 (by rw [e]; exact hD.2 (b - 400) _ heb))]
      exact hVS.2.1 q x1 x2
    · rcases List.mem_append.mp hq with h | h
      · exact hVS.2.2 q h
      · obtain ⟨z, -, hz⟩ := List.mem_map.mp h
        rw [← hz]
        exact hD.2 (b - 400) _ heb) _ hheap X'
  exact ⟨t, step t b1, b2⟩
theorem k_o_cloneB {pc2 idx2 a3 a4 w3 w4 : Nat} {ln2 : Nat} (hok : q_okB M = true) (he : q_nth M.2.2.2.2.1 pos = some (pc, .invokevirtual idx, ln, a1, a2, w1, w2)) (hw : q_gw w1 w2 = some (.methodLink M.1.cls idx ⟨"[B", "clone", "()Ljava/lang/Object;"⟩)) (he2 : q_nth M.2.2.2.2.1 (pos + 1) = some (pc2, .checkcast idx2, ln2, a3, a4, w3, w4)) (hw2 : q_gw w3 w4 = some (.classLink M.1.cls idx2 "[B")) (hd1 : 1 ≤ d) (hcat : (r.map fun v => v.category).sum ≤ 8)
    (ha : 400 ≤ a) (hsh : q_sh h a = (1, 1, L)) (hf : ∀ i, i < L → q_by (q_I h a i)) (hk : k + 1 ≤ mc) (hn : n + L ≤ ms)
    (hJ : q_K g M xt d mc ms h0 mv Q (k + 1) (n + L) (pos + 2, ls, .ref (q_nx h) :: r, q_cln h a L)) : q_K g M xt d mc ms h0 mv Q k n (pos, ls, .ref a :: r, h) := by
  obtain rfl : ln = 3 := (q_atB hok he).2.2.1 (Nat.succ_ne_zero _)
  obtain rfl : ln2 = 3 := (q_atB hok he2).2.2.1 (Nat.succ_ne_zero _)
  intro p e s m args below meth cd D cA ρ0 ρ A H locs rls en hen hB hS
  cases he.symm.trans hen
  obtain ⟨hd, hnx, -, ho2⟩ := q_atB hok he
  obtain ⟨en', he', hpc⟩ := hnx rfl
  obtain rfl : en' = (pc2, .checkcast idx2, 3, a3, a4, w3, w4) := Option.some.inj (he'.symm.trans he2)
  obtain ⟨hd2, hnx2, -, ho3⟩ := q_atB hok he2
  obtain ⟨en3, he3, hpc3⟩ := hnx2 rfl
  obtain ⟨hx, hb, hr, hml, hts, hown, hlk, hnm, hxt⟩ := id hB
  obtain ⟨hK, hW, hVS, hX, hC, hst, hls, hlh, hag, hag2, hA, hnx0⟩ := id hS
  have ha2 : a < q_nx h := q_lt hC hsh (by decide)
  obtain ⟨ws, f1, f2, hP, hD⟩ := id hW
  have f1 : ws.length + 400 = q_nx h := f1
  have hk9 : a - 400 < ws.length := by omega
  have he9 : ws[a - 400]? = some ws[a - 400] := List.getElem?_eq_getElem hk9
  obtain ⟨y1, y2⟩ := f2 _ _ he9
  rw [show 400 + (a - 400) = a by omega] at y1 y2
  rw [hsh] at y2
  have y2 : ws[a - 400].2 = _ := y2
  have hea : ws[a - 400]? = some (ρ a, .inl (cA 1, L, .inl (q_I h a))) := by rw [he9, ← y1, ← y2]
  have h8 := q_cat8 (ρ := ρ) hcat
  have h64 := q_lc64 hd1
  have hpc : pc2 = pc + 3 := hpc
  have hnmB := (hK.2 1 (cA 1, .byte) rfl).2
  refine va_clone hx hb (hml.trans hlh.1.symm) hown (hts _ (q_gw_in hw rfl)) (hts _ q_vmC) (hts _ q_natC) (hts _ q_insC) (hts _ q_selC) (hX.2.2.2.2.2.2.2.2.2.2.2.2.2.2.2.2.2.2 _ q_casC rfl) hK hP hD hVS hA (a - 400) 1 hea rfl hnmB (fun i v hv => ?_) hd1 (by show _ + 14 ≤ q_lc d; omega) hk hn hd (fun q H1 hK1 hP1 hD1 hS1 => ?_)
  · have hi : i < L := by
      rcases Nat.lt_or_ge i L with hl | hl
      · exact hl
      · have h9 : (arrV (cA 1) L (fun j => .int (q_I h a j))).slots[i]? = some v := hv
        rw [Array.getElem?_eq_none (by rw [arrV_size]; exact hl)] at h9
        cases h9
    have h9 : (arrV (cA 1) L (fun j => .int (q_I h a j))).slots[i]? = some v := hv
    rw [arrV_read _ _ hi] at h9
    cases h9
    exact hf i hi
  rw [← hpc]
  refine va_castA hx hb hown (hts _ (q_gw_in hw2 rfl)) hP1 ws.length (List.getElem?_concat_length) hnmB hd2 ?_
  have h9 := hJ p e s m args below meth cd D cA ρ0 (q_ur ρ (q_nx h) q) A H1 locs rls en3 he3 hB (q_Sit_cln (r := r) hS f1 f2 hP1 hD1 hS1 (q_tl hst))
  rw [hpc3, List.map_cons, q_map_new (q_tl hst)] at h9
  rw [show q_vz (q_ur ρ (q_nx h) q) (.ref (q_nx h)) = .ref q from congrArg Value.ref (q_ur_s _ _ _)] at h9
  exact h9
end KCOPY
