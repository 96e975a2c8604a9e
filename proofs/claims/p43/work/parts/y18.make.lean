/-! CONTRACTS of the law's barn, eight: a bale is made -/
section ZMAKE
variable {g : q_G} {d : Nat} {h : q_H} {s c i L up : Nat} {hl ll : List Nat} {hk : List (Option Nat)} {size u : Int32} {B : Nat}
/-- a new bale and its ropes -/
def z_nwb (h h' : q_H) (size : Int32) (L : Nat) : Prop := z_ext h h' ∧ q_nx h' = q_nx h + 2 ∧ q_sh h' (q_nx h) = (0, 11, 0) ∧ (q_I h' (q_nx h) 0 = size ∧ ∀ j, j ≠ 0 → q_I h' (q_nx h) j = 0) ∧ q_R h' (q_nx h) 4 = some (q_nx h + 1) ∧ q_sh h' (q_nx h + 1) = (3, 6, L) ∧ ∀ j, q_R h' (q_nx h + 1) j = none
theorem z_newB (hd : 1 ≤ d) (hd2 : d ≠ 2048) (h4 : 400 ≤ q_nx h) (hL : q_s16 L) : q_Ct g m_X13_init d 1 L [] [.ref (q_nx h), .int size, .int (nI L)] (q_new h (0, 11, 0)) (fun o h' => o = .inl none ∧ z_nwb h h' size L) := by
  refine q_CtK ok_X13_init hd2 (Nat.le_of_ble_eq_true rfl) ?_ _ rfl rfl
  have hne : q_nx h ≠ q_nx h + 1 := by omega
  have hne2 : q_nx h + 1 ≠ q_nx h := by omega
  have hsh : q_sh (q_new (q_pI (q_new h (0, 11, 0)) (q_nx h) 0 size) (3, 6, L)) (q_nx h) = (0, 11, 0) := (q_ur_n _ _ _ hne).trans (z_sh_new h _)
  refine w_X13_init_0 hd ⟨⟨h4, z_sh_new h _⟩, L, rfl, hL, ⟨by omega, by omega⟩, ⟨h4, hsh⟩, ⟨by omega, by omega⟩, rfl, ?_⟩
  refine ⟨z_ext_pR (z_ext_trans (z_ext_pI (z_ext_new h _) (Nat.le_refl _)) (z_ext_new _ _)) (Nat.le_refl _) (fun b e => Or.inr (by rw [← Option.some.inj e]; exact Nat.le_succ _)), rfl, hsh, ⟨?_, fun j hj => ?_⟩, z_R_s _ _ _ _, z_sh_new (q_pI (q_new h (0, 11, 0)) (q_nx h) 0 size) (3, 6, L), fun j => ?_⟩
  · show q_ur (q_u2 (q_I (q_new h (0, 11, 0))) (q_nx h) 0 size) (q_nx h + 1) _ (q_nx h) 0 = size
    rw [q_ur_n _ _ _ hne, q_u2_s]
  · show q_ur (q_u2 (q_I (q_new h (0, 11, 0))) (q_nx h) 0 size) (q_nx h + 1) _ (q_nx h) j = 0
    rw [q_ur_n _ _ _ hne, q_u2_j _ _ _ _ _ _ hj]
    exact congrFun (q_ur_s _ _ _) j
  · rw [z_R_a _ _ _ _ _ hne2]
    exact congrFun (q_ur_s _ _ _) j
/-- a bale was made: it lies last in the half, and hook i holds it -/
def z_Mk (h h' : q_H) (s c : Nat) (hl ll : List Nat) (hk : List (Option Nat)) (i : Nat) (size u : Int32) (L : Nat) : Prop :=
  (q_nx h + 2 ≤ q_nx h' ∧ ∀ a, a < q_nx h → q_sh h' a = q_sh h a ∧ (q_E h' a = q_E h a ∧ z_sp h h') ∧ q_L h' a = q_L h a ∧ q_I h' a = q_I h a ∧ (a ≠ s → a ≠ c → q_R h' a = q_R h a)) ∧
  z_Sim h' s (hl ++ [q_nx h]) ll (hk.set i (some (q_nx h))) ∧ ((∀ k, k ≠ 0 → q_R h' s k = q_R h s k) ∧ ∃ b, q_R h' s 0 = some b ∧ q_nx h + 2 ≤ b) ∧
  q_sh h' (q_nx h) = (0, 11, 0) ∧ (q_I h' (q_nx h) 0 = size ∧ q_I h' (q_nx h) 1 = 0 ∧ q_I h' (q_nx h) 2 = u ∧ q_I h' (q_nx h) 3 = 0) ∧ q_R h' (q_nx h) 4 = some (q_nx h + 1) ∧ q_sh h' (q_nx h + 1) = (3, 6, L) ∧ ∀ j, q_R h' (q_nx h + 1) j = none
theorem z_Ao_set {a : Nat} {v : Option Nat} (ha : z_Ao h a hk) (hi : i < hk.length) : z_Ao (q_pR h a i v) a (hk.set i v) := by
  obtain ⟨a1, a2, a3, a4⟩ := ha
  refine ⟨a1, by rw [List.length_set]; exact a2, by rw [List.length_set]; exact a3, fun j x hx => ?_⟩
  by_cases hj : j = i
  · subst hj
    rw [List.getElem?_set_self hi] at hx
    cases hx
    exact z_R_s _ _ _ _
  · rw [List.getElem?_set_ne (fun e => hj e.symm)] at hx
    rw [z_R_j _ _ _ _ _ hj]
    exact a4 j x hx
set_option maxHeartbeats 1000000 in
theorem z_make21 {h0 : q_H} {MC MS kk nn : Nat} {Q : q_Po} (hd : 2 ≤ d) (hd2 : d < 2048) (hS : z_Sim h s hl ll hk) (hb : ∀ x ∈ hl, z_Bal h x) (hh : q_s16 (hl.length + 1)) (hc : q_R h s 2 = some c) (hlc : q_R h s 1 ≠ some c) (hi : i < hk.length) (hL : q_s16 L) (hmc : kk + 3 ≤ MC) (hms : nn + 5 + L + (hl.length + 1) ≤ MS)
    (hQ : ∀ hF, z_Mk h hF s c hl ll hk i size (z_sum (fun x => q_I h x 0) hl) L → Q (.inl (some (.int 1))) hF) :
    q_K g m_X14_make [] d MC MS h0 [] Q kk nn (21, [some (.ref s), some (.int (nI i)), some (.int size), some (.int (nI L)), none], [], h) := by
  obtain ⟨⟨s1, s2⟩, s3, ⟨a, a1, a2⟩, ⟨b0, b1, b2⟩, c', c1, c2⟩ := id hS
  obtain rfl : c' = c := Option.some.inj (c1.symm.trans hc)
  have h5 : q_nf 11 = 5 := by decide
  have h492 : 492 ≤ q_nx h := Nat.le_trans s1 (Nat.le_of_lt s2)
  refine w_X14_make_21 (by omega) ⟨⟨by omega, by omega⟩, ?_⟩
  refine q_cV_of (fun h' => z_nwb h h' size L) (z_newB (d := d - 1) (by omega) (by omega) (by omega) hL) (by omega) (q_lcle (by omega) (by omega)) (by omega) (by omega) trivial (fun h1 hp => ?_)
  obtain ⟨e1, n1, sx, ⟨i0, ij⟩, rx, sr, rn⟩ := hp
  have hS1 := z_Sim_ext e1 hS
  have a2' := z_Ar_ext e1 a2
  have hR1 : q_R h1 s 0 = some a := by rw [(e1.2 s s2).2.2.1]; exact a1
  refine ⟨⟨z_4 s1, hS1.2.1⟩, a, hR1, ?_⟩
  refine q_cI_of (fun y h' => y = z_sum (fun x => q_I h1 x 0) hl ∧ h' = h1) (z_used (d := d - 1) (by omega) (by omega) a2' (fun x hx => z_Bal_ext e1 (hb x hx))) (by omega) (q_lcle (by omega) (by omega)) (by omega) (by omega) trivial (fun u h2 hp => ?_)
  obtain ⟨p1, p2⟩ := hp
  subst p2
  have hsum : z_sum (fun x => q_I h2 x 0) hl = z_sum (fun x => q_I h x 0) hl := by
    have : ∀ l : List Nat, (∀ y ∈ l, z_Bal h y) → z_sum (fun x => q_I h2 x 0) l = z_sum (fun x => q_I h x 0) l := by
      intro l
      induction l with
      | nil => intro _; rfl
      | cons z t ih =>
        intro hu
        show q_I h2 z 0 + _ = q_I h z 0 + _
        rw [(e1.2 z (hu z List.mem_cons_self).1.2).2.1, ih (fun y hy => hu y (List.mem_cons_of_mem _ hy))]
    exact this hl hb
  rw [hsum] at p1
  have hxB : 400 ≤ q_nx h ∧ q_sh h2 (q_nx h) = (0, 11, 0) := ⟨by omega, sx⟩
  have e3 : z_ext h (q_pI h2 (q_nx h) 2 u) := z_ext_pI e1 (Nat.le_refl _)
  refine ⟨hxB, ⟨z_4 s1, hS1.2.1⟩, a, hR1, ?_⟩
  refine q_cR_of (fun b h' => b = q_nx h2 ∧ q_nx h' = q_nx h2 + 1 ∧ z_ext (q_pI h2 (q_nx h) 2 u) h' ∧ z_Ar h' b (hl ++ [q_nx h])) (z_with (h := q_pI h2 (q_nx h) 2 u) (d := d - 1) (by omega) (by omega) a2' (fun x hx => (show z_Bal h2 x from z_Bal_ext e1 (hb x hx))) ⟨⟨h492, by show q_nx h < q_nx h2; omega⟩, sx⟩ hh) (by omega) (q_lcle (by omega) (by omega)) (by omega) (by omega) trivial (fun b h4 hp => ?_)
  obtain ⟨q1, q2, q3, q4⟩ := hp
  have e4 := z_ext_trans e3 q3
  have hS4 := z_Sim_ext e4 hS
  have c4 := z_Ao_ext e4 c2
  have b4 := z_Ar_ext e4 b2
  have hcs : c' ≠ s := z_ne_s s3 c2.2.1
  have hx2 : q_nx h < q_nx h2 := by omega
  obtain ⟨x1, x2, x3, x4, x5⟩ := q3.2 (q_nx h) hx2
  obtain ⟨y1, y2, y3, y4, y5⟩ := q3.2 (q_nx h + 1) (by show q_nx h + 1 < q_nx h2; omega)
  have hbc : b ≠ c' := by
    have := c2.1.2
    omega
  have hb0c : b0 ≠ c' := fun e => hlc (by rw [b1, e])
  have hbs : b ≠ s := by omega
  have hxs : q_nx h ≠ s := by omega
  have hxc : q_nx h ≠ c' := by have := c2.1.2; omega
  have hRs : ∀ k, q_R (q_pR (q_pR h4 s 0 (some b)) c' i (some (q_nx h))) s k = q_R (q_pR h4 s 0 (some b)) s k := fun k => by rw [z_R_a _ _ _ _ _ hcs.symm]
  have hRs4 : ∀ k, k ≠ 0 → q_R (q_pR h4 s 0 (some b)) s k = q_R h s k := fun k hk => by rw [z_R_j _ _ _ _ _ hk, (e4.2 s s2).2.2.1]
  refine ⟨⟨z_4 s1, hS4.2.1⟩, ⟨z_4 s1, hS4.2.1⟩, c', (hRs4 2 (by decide)).trans c1, i, hk.length, rfl, ⟨z_4 c2.1.1, c4.2.1, hi, c2.2.2.1⟩, ⟨hxB.1, x1.trans sx⟩, rfl, ⟨by omega, by omega⟩, hQ _ ?_⟩
  refine ⟨⟨?_, fun z hz => ?_⟩, ⟨hS4.1, hS4.2.1, ⟨b, (hRs 0).trans (z_R_s _ _ _ _), z_Ar_pR hbc (z_Ar_pRs hS4.2.1 q4)⟩, ⟨b0, ((hRs 1).trans (hRs4 1 (by decide))).trans b1, z_Ar_pR hb0c (z_Ar_pRs hS4.2.1 b4)⟩, c', ((hRs 2).trans (hRs4 2 (by decide))).trans c1, z_Ao_set (z_Ao_pRs hS4.2.1 c4) hi⟩, ⟨fun k hk => (hRs k).trans (hRs4 k hk), b, (hRs 0).trans (z_R_s _ _ _ _), by omega⟩, x1.trans sx, ⟨?_, ?_, ?_, ?_⟩, ?_, y1.trans sr, fun j => ?_⟩
  · show q_nx h + 2 ≤ q_nx h4; omega
  · obtain ⟨z1, z2, z3, z4, z5⟩ := e4.2 z hz
    exact ⟨z1, ⟨z4.1, z_sp_pR (z_sp_pR z4.2 (fun x e => Or.inr (by have e := Option.some.inj e; omega))) (fun x e => Or.inr (Nat.le_of_eq (Option.some.inj e)))⟩, z5, z2, fun h1 h2 => by rw [z_R_a _ _ _ _ _ h2, z_R_a _ _ _ _ _ h1, z3]⟩
  · show q_I h4 (q_nx h) 0 = size
    rw [x2, z_I_j _ _ _ _ _ (by decide), i0]
  · show q_I h4 (q_nx h) 1 = 0
    rw [x2, z_I_j _ _ _ _ _ (by decide), ij 1 (by decide)]
  · show q_I h4 (q_nx h) 2 = _
    rw [x2, z_I_s, p1]
  · show q_I h4 (q_nx h) 3 = 0
    rw [x2, z_I_j _ _ _ _ _ (by decide), ij 3 (by decide)]
  · rw [z_R_a _ _ _ _ _ hxc, z_R_a _ _ _ _ _ hxs, x3]
    exact rx
  · have h1 : q_nx h + 1 ≠ s := by omega
    have h2 : q_nx h + 1 ≠ c' := by have := c2.1.2; omega
    rw [z_R_a _ _ _ _ _ h2, z_R_a _ _ _ _ _ h1, y3]
    exact rn j
/-- what making a bale answers and leaves -/
def z_mkR (h h' : q_H) (s c : Nat) (hl ll : List Nat) (hk : List (Option Nat)) (up i : Nat) (size : Int32) (L : Nat) (y : Int32) (σ : z_St) : Prop :=
  (z_sum (fun x => q_I h x 0) hl + size ≤ q_I h s 3 ∧ y = 1 ∧ z_Mk h h' s c hl ll hk i size (z_sum (fun x => q_I h x 0) hl) L) ∨
  (¬ z_sum (fun x => q_I h x 0) hl + size ≤ q_I h s 3 ∧ ∃ h1, z_Cp h h1 s hk (fun x => x ∈ hl ++ ll) hl σ ∧
    ((z_sum (fun x => q_I h1 x 0) σ.1 + size ≤ q_I h s 3 ∧ y = 1 ∧ z_Mk h1 h' s c σ.1 σ.2.1 hk i size (z_sum (fun x => q_I h1 x 0) σ.1) L) ∨
     (¬ z_sum (fun x => q_I h1 x 0) σ.1 + size ≤ q_I h s 3 ∧ y = 0 ∧ h' = h1)))
set_option maxHeartbeats 1000000 in
theorem z_makeC {σ : z_St} (hd : 5 ≤ d) (hd2 : d < 2048) (hO : z_OK h s hl ll hk up) (hc : q_R h s 2 = some c) (hi : i < hk.length) (hL : q_s16 L) (hB : (hl ++ ll).length ≤ B) (hupB : up ≤ B) (hBs : q_s16 (B + 1)) (hσ : σ = z_copy (z_rp h) up (q_I h s 5) hl ll hk (q_I h) (q_I h s 11)) :
    q_Ct g m_X14_make d (5 + 3 * hl.length) (3 * B * hl.length + (6 + L + B)) [] [.ref s, .int (nI i), .int size, .int (nI L)] h (fun o h' => ∃ y, o = .inl (some (.int y)) ∧ z_mkR h h' s c hl ll hk up i size L y σ) := by
  obtain ⟨hI, hw⟩ := z_Iv_copy (rp := z_rp h) (prom := q_I h s 5) (hk := hk) (z_OK_Iv hO (q := q_I h s 11)) hO.2.2.2.2.2.1.2
  rw [← hσ] at hI
  have hBl : ∀ l : List Nat, l.Nodup → (∀ x ∈ l, x ∈ hl ++ ll) → l.length ≤ B := fun l h1 h2 => Nat.le_trans (z_OK_B hO l h1 h2) hB
  obtain ⟨o1, o2, o3, o4, o5, o6, o7, o8, o9a, o9b, o9c⟩ := id hO
  obtain ⟨⟨s1, s2⟩, s3, ⟨a, a1, a2⟩, ⟨b0, b1, b2⟩, c', c1, c2⟩ := id o1
  obtain rfl : c' = c := Option.some.inj (c1.symm.trans hc)
  have hB16 : B + 1 < 65536 := hBs
  have hlB : hl.length ≤ B := by rw [List.length_append] at hB; omega
  have hs1 : 400 ≤ s ∧ q_sh h s = (0, 12, 0) := ⟨z_4 s1, s3⟩
  obtain ⟨n1, n2, n3⟩ := List.nodup_append.mp o5
  refine q_CtK ok_X14_make (by omega) (Nat.le_of_ble_eq_true rfl) ?_ _ rfl rfl
  refine w_X14_make_0 (by omega) ⟨hs1, a, a1, ?_⟩
  refine q_cI_of (fun y h' => y = z_sum (fun x => q_I h x 0) hl ∧ h' = h) (z_used (d := d - 1) (by omega) (by omega) a2 (fun x hx => (o2 x (List.mem_append_left _ hx)).1)) (by omega) (q_lcle (by omega) (by omega)) (by omega) (by omega) trivial (fun y h1 hp => ?_)
  obtain ⟨p1, p2⟩ := hp
  subst p1 p2
  refine ⟨hs1, fun hle => ?_, fun hnle => ⟨hs1, ?_⟩⟩
  · refine w_X14_make_11 (by omega) ⟨hs1, a, a1, ?_⟩
    refine q_cI_of (fun y h' => y = z_sum (fun x => q_I h1 x 0) hl ∧ h' = h1) (z_used (d := d - 1) (by omega) (by omega) a2 (fun x hx => (o2 x (List.mem_append_left _ hx)).1)) (by omega) (q_lcle (by omega) (by omega)) (by omega) (by omega) trivial (fun y h2 hp => ?_)
    obtain ⟨p1, p2⟩ := hp
    subst p1 p2
    refine ⟨hs1, fun _ => ?_, fun hn => absurd hle hn⟩
    exact z_make21 (by omega) hd2 o1 (fun x hx => (o2 x (List.mem_append_left _ hx)).1) (by show hl.length + 1 < 65536; omega) c1 (fun e => o9c 1 (by decide) (e.trans c1.symm)) hi hL (by omega) (by omega) (fun hF hM => ⟨1, rfl, Or.inl ⟨hle, rfl, hM⟩⟩)
  · have hcp := z_copyC (g := g) (d := d - 1) (B := B) (by omega) (by omega) o1 o2 o3 o4 ⟨fun x hx => List.mem_append_left _ hx, n1⟩ ⟨fun x hx => ⟨List.mem_append_right _ hx, fun hm => n3 x hm x hx rfl⟩, n2⟩ o6.1 o6.2 hupB hBl (Nat.lt_trans (Nat.lt_succ_self _) hBs) o7 o8
    rw [← hσ] at hcp
    refine q_cI_of (fun y h' => y = nI hl.length - nI σ.2.2.1.length ∧ z_Cp h1 h' s hk (fun x => x ∈ hl ++ ll) hl σ) hcp (by omega) (q_lcle (by omega) (by omega)) (by omega) (by omega) trivial (fun y h2 hp => ?_)
    obtain ⟨-, hC⟩ := hp
    obtain ⟨k1, k2, k3, k4, k5, k6⟩ := id hC
    obtain ⟨⟨t1, t2⟩, t3, ⟨aa, aa1, aa2⟩, ⟨bb, bb1, bb2⟩, cc, cc1, cc2⟩ := id k3
    have hs2 : 400 ≤ s ∧ q_sh h2 s = (0, 12, 0) := ⟨z_4 t1, t3⟩
    have hσU : ∀ x ∈ σ.1, x ∈ hl ++ ll := fun x hx => hI.2.2.2.1 x (hI.2.2.1.1 x (hI.1.1 x hx))
    have hσl : σ.1.length ≤ B := hBl _ hI.1.2 hσU
    have hc2 : q_R h2 s 2 = some c' := (k6 2 (by decide)).trans c1
    have hpl : q_I h2 s 3 = q_I h1 s 3 := k5.2.2.2.2 3 (by decide) (by decide) (by decide) (by decide)
    refine w_X14_make_11 (by omega) ⟨hs2, aa, aa1, ?_⟩
    refine q_cI_of (fun y h' => y = z_sum (fun x => q_I h2 x 0) σ.1 ∧ h' = h2) (z_used (d := d - 1) (by omega) (by omega) aa2 (fun x hx => (k2 x (hσU x hx)).1)) (by omega) (q_lcle (by omega) (by omega)) (by omega) (by omega) trivial (fun y h3 hp => ?_)
    obtain ⟨p1, p2⟩ := hp
    subst p1 p2
    refine ⟨hs2, fun hle => ?_, fun hn => ⟨rfl, ⟨by omega, by omega⟩, 0, rfl, Or.inr ⟨hnle, h3, hC, Or.inr ⟨by rw [← hpl]; exact hn, rfl, rfl⟩⟩⟩⟩
    refine z_make21 (by omega) hd2 k3 (fun x hx => (k2 x (hσU x hx)).1) (by show σ.1.length + 1 < 65536; omega) hc2 (fun e => ?_) hi hL (by omega) (by omega) (fun hF hM => ⟨1, rfl, Or.inr ⟨hnle, h3, hC, Or.inl ⟨by rw [← hpl]; exact hle, rfl, hM⟩⟩⟩)
    rcases (k1.2 s s2).2.2.2.2.2 rfl 1 with e2 | ⟨b, e2, hb⟩
    · rw [e2] at e
      exact o9c 1 (by decide) (e.trans c1.symm)
    · have h9 := c2.1.2
      have h8 : b = c' := Option.some.inj (e2.symm.trans e)
      omega
end ZMAKE
