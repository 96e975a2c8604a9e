/-! THE CLASS AND THE LAW'S BARN, one: a bale is taken over -/
section ZLOCK
variable {m : Nat} {oly sz ss pn mp ol : m_Rr} {X0 X : m_XT} {Y0 Y : m_YT} {l h : List Nat} {ν : Nat → Nat} {σ : z_St} {os : List Nat}
theorem z_rows_u {f : m_Rr} {l l' : List Nat} (h1 : ∀ i x, l[i]? = some x → f i = nI x ∧ x < 2147483648) (h2 : ∀ i x, l'[i]? = some x → f i = nI x ∧ x < 2147483648) (hl : l.length = l'.length) : l = l' := by
  refine List.ext_getElem hl (fun i a b => ?_)
  have x1 := h1 i _ (List.getElem?_eq_getElem a)
  have x2 := h2 i _ (List.getElem?_eq_getElem b)
  exact (nI_eq x1.2 x2.2).mp (x1.1.symm.trans x2.1)
/-- the state of the law's copying is that of the class -/
def z_Ys (ν : Nat → Nat) (oly sz : m_Rr) (l h : List Nat) (X : m_XT) (σ : z_St) : Prop :=
  σ.1 = h.map ν ∧ σ.2.2.1 = l.map ν ∧ (σ.2.1.Nodup ∧ ∀ x, x ∈ σ.2.1 ↔ ∃ b, b < 128 ∧ X.2.1 b = 2 ∧ x = ν b) ∧
  (∀ b, b < 128 → ¬ oly b = 0 → σ.2.2.2.1 (ν b) 0 = sz b ∧ σ.2.2.2.1 (ν b) 1 = X.2.2.2.1 b ∧ σ.2.2.2.1 (ν b) 2 = X.2.2.1 b ∧ σ.2.2.2.1 (ν b) 3 = (if X.2.1 b = 2 then 1 else 0)) ∧ σ.2.2.2.2 = X.1 13
theorem z_CT_h (hT : m_CT m oly sz ss X0 Y0 l h X Y) : h.length ≤ 128 ∧ (∀ b ∈ h, b < 128) := by
  obtain ⟨⟨hQ, -, -, -, ⟨hnd, hmem, -⟩, -⟩, -⟩ := hT
  have h8 : ∀ b ∈ h, b < 128 := fun b hb => hQ.2.2.2.1 b ((hmem b).mp hb).1
  exact ⟨m_pig 128 h hnd h8, h8⟩
theorem z_CT_u {l' h' : List Nat} {Y' : m_YT} (hT : m_CT m oly sz ss X0 Y0 l h X Y) (hT' : m_CT m oly sz ss X0 Y0 l' h' X Y') : l = l' ∧ h = h' := by
  obtain ⟨a1, a2⟩ := z_CT_h hT
  obtain ⟨b1, b2⟩ := z_CT_h hT'
  obtain ⟨⟨hQ, -, -, ⟨h7, -⟩, ⟨-, -, hR⟩, -⟩, -⟩ := hT
  obtain ⟨⟨hQ', -, -, ⟨h7', -⟩, ⟨-, -, hR'⟩, -⟩, -⟩ := hT'
  have q1 := m_Q_len hQ
  have q2 := m_Q_len hQ'
  refine ⟨z_rows_u (f := X.2.2.2.2.2.2.2.1) (fun i x hx => ⟨(hQ.2.2.2.2.1 i x hx).1, by have := hQ.2.2.2.1 x (List.mem_of_getElem? hx); omega⟩) (fun i x hx => ⟨(hQ'.2.2.2.2.1 i x hx).1, by have := hQ'.2.2.2.1 x (List.mem_of_getElem? hx); omega⟩) ?_,
    z_rows_u (f := X.2.2.2.2.2.2.2.2.2) (fun i x hx => ⟨(hR i x hx).1, by have := a2 x (List.mem_of_getElem? hx); omega⟩) (fun i x hx => ⟨(hR' i x hx).1, by have := b2 x (List.mem_of_getElem? hx); omega⟩) ?_⟩
  · exact (nI_eq (by omega) (by omega)).mp (hQ.1.symm.trans hQ'.1)
  · exact (nI_eq (by omega) (by omega)).mp (h7.symm.trans h7')
theorem z_sum_tot {f : Nat → Nat → Int32} : ∀ h : List Nat, (∀ b ∈ h, f (ν b) 0 = sz b) → z_sum (fun y => f y 0) (h.map ν) = m_tot sz h
  | [], _ => rfl
  | b :: t, hb => by
    show f (ν b) 0 + z_sum (fun y => f y 0) (t.map ν) = sz b + m_tot sz t
    rw [hb b List.mem_cons_self, z_sum_tot t (fun c hc => hb c (List.mem_cons_of_mem _ hc))]
/-- where the loft's cells are empty, by hand and in the class -/
theorem z_emp_lr {f : Nat → Nat → Int32} {ll : List Nat} {lr ly pl : m_Rr} {sw sp : m_Rr} (hLf : m_Lf m lr sw sp ss) (hss : ∀ b, b < 128 → ss b = sz b) (hsp : ∀ b, b < 128 → sp b = pl b) (hsw : ∀ b, b < 128 → (sw b = 2 ↔ ly b = 2))
    (hll : ∀ x, x ∈ ll ↔ ∃ b, b < 128 ∧ ly b = 2 ∧ x = ν b) (hf : ∀ b, b < 128 → ly b = 2 → f (ν b) 0 = sz b ∧ f (ν b) 2 = pl b) :
    ∀ q, q < m → (z_emp (fun x => (f x 2).toNatClampNeg) (fun x => (f x 0).toNatClampNeg) ll q = true ↔ lr q = -1) := by
  intro q hq
  obtain ⟨h64, h1, h2⟩ := hLf
  have hcov : ∀ b, b < 128 → ly b = 2 → ∃ p s, (f (ν b) 2).toNatClampNeg = p ∧ (f (ν b) 0).toNatClampNeg = s ∧ p + s ≤ m ∧ ∀ q, p ≤ q → q < p + s → lr q = nI b := fun b hb hl => by
    obtain ⟨p, s, e1, e2, e3, e4, e5⟩ := h1 b (by omega) ((hsw b hb).mpr hl)
    obtain ⟨f1, f2⟩ := hf b hb hl
    exact ⟨p, s, by rw [f2, ← hsp b hb, e1, nI_clamp (by omega)], by rw [f1, ← hss b hb, e2, nI_clamp (by omega)], e4, e5⟩
  unfold z_emp
  rw [List.all_eq_true]
  constructor
  · intro ha
    rcases h2 q hq with e | ⟨b, b1, b2, b3, p, s, e1, e2, e3, e4, e5⟩
    · exact e
    · have hl := (hsw b b1).mp b2
      obtain ⟨f1, f2⟩ := hf b b1 hl
      have g1 : (f (ν b) 2).toNatClampNeg = p := by rw [f2, ← hsp b b1, e1, nI_clamp (by omega)]
      have g2 : (f (ν b) 0).toNatClampNeg = s := by rw [f1, ← hss b b1, e2, nI_clamp (by omega)]
      have h9 : (!(decide ((f (ν b) 2).toNatClampNeg ≤ q) && decide (q < (f (ν b) 2).toNatClampNeg + (f (ν b) 0).toNatClampNeg))) = true := ha (ν b) ((hll _).mpr ⟨b, b1, hl, rfl⟩)
      rw [decide_eq_true (show (f (ν b) 2).toNatClampNeg ≤ q by rw [g1]; exact e4), decide_eq_true (show q < (f (ν b) 2).toNatClampNeg + (f (ν b) 0).toNatClampNeg by rw [g1, g2]; exact e5)] at h9
      cases h9
  · intro e x hx
    obtain ⟨b, b1, b2, rfl⟩ := (hll x).mp hx
    obtain ⟨p, s, g1, g2, g3, g4⟩ := hcov b b1 b2
    show (!(decide ((f (ν b) 2).toNatClampNeg ≤ q) && decide (q < (f (ν b) 2).toNatClampNeg + (f (ν b) 0).toNatClampNeg))) = true
    by_cases k1 : (f (ν b) 2).toNatClampNeg ≤ q
    · by_cases k2 : q < (f (ν b) 2).toNatClampNeg + (f (ν b) 0).toNatClampNeg
      · rw [g1] at k1
        rw [g1, g2] at k2
        have := g4 q k1 k2
        rw [e] at this
        exact absurd this.symm (m_nI_m1 (by omega))
      · rw [decide_eq_true k1, decide_eq_false k2]; rfl
    · rw [decide_eq_false k1]; rfl
set_option maxHeartbeats 2000000 in
/-- one bale is taken over, on all sides in step -/
theorem z_takeT (hν : ∀ b c, b < 128 → c < 128 → ¬ oly b = 0 → ¬ oly c = 0 → ν b = ν c → b = c) (hH : m_TH m oly sz ss pn mp ol) (hss : ∀ b, b < 128 → ss b = sz b) (hT : m_CT m oly sz ss X0 Y0 l h X Y) (hlo : X.2.2.2.2.1 1 = nI m) (hY : z_Ys ν oly sz l h X σ) (hos : ∀ x, x ∈ os ↔ ∃ b, b < 128 ∧ oly b = 1 ∧ x = ν b)
    {c : Int32} {o : Option Nat} (hc : (c = -1 ∧ o = none) ∨ ∃ b, b < 128 ∧ ¬ oly b = 0 ∧ c = nI b ∧ o = some (ν b)) :
    ∃ t h' X' Y', m_tC pn sz c X = some X' ∧ m_tR mp ss ol c Y = some Y' ∧ m_CT m oly sz ss X0 Y0 (l ++ t) h' X' Y' ∧ z_Ys ν oly sz (l ++ t) h' X' (z_tk m (pn 2) os σ o) ∧ (∀ b, b < 128 → oly b = 1 → c = nI b → b ∈ l ++ t) := by
  obtain ⟨t, h', X', Y', a1, a2, a3, a4⟩ := m_takeT hH hT (c := c) (hc.imp (fun h => h.1) (fun ⟨b, h1, _, h3, _⟩ => ⟨b, h1, h3⟩))
  refine ⟨t, h', X', Y', a1, a2, a3, ?_, a4⟩
  have same : m_tC pn sz c X = some X → z_tk m (pn 2) os σ o = σ → z_Ys ν oly sz (l ++ t) h' X' (z_tk m (pn 2) os σ o) := fun e1 e2 => by
    obtain rfl : X' = X := Option.some.inj (a1.symm.trans e1)
    obtain ⟨u1, u2⟩ := z_CT_u hT a3
    rw [← u1, ← u2, e2]
    exact hY
  rcases hc with ⟨rfl, rfl⟩ | ⟨b, hb, hb0, rfl, rfl⟩
  · exact same m_tkc_1 rfl
  obtain ⟨⟨hQ, hLy, hps, ⟨h7, h8, h13⟩, ⟨hnd, hmem, hRw⟩, hLf, hlo1, hlo2⟩, -⟩ := id hT
  obtain ⟨s1, s2, ⟨s3, s3b⟩, s4, s5⟩ := id hY
  obtain ⟨y1, y2, y3, y4, y5⟩ := hLy.2 b hb
  have htkn : ¬ (ν b ∈ os ∧ ν b ∉ σ.2.2.1) → z_tk m (pn 2) os σ (some (ν b)) = σ := fun hn => by rw [z_tk]; rw [if_neg hn]
  by_cases ho : ¬ oly b = 1
  · have hbl : b ∉ l := fun hm => ho (hLy.1 b hm)
    refine same (m_tkc_no hb (by rw [y1 hbl]; exact ho)) (htkn (fun hx => ?_))
    obtain ⟨c, c1, c2, c3⟩ := (hos _).mp hx.1
    have := hν b c hb c1 hb0 (by rw [c2]; decide) c3
    rw [← this] at c2
    exact ho c2
  have ho : oly b = 1 := Classical.not_not.mp ho
  by_cases hbl : b ∈ l
  · exact same (m_tkc_in hb ((hQ.2.2.2.2.2.1 b hb).mp hbl)) (htkn (fun hx => hx.2 (by rw [s2]; exact List.mem_map_of_mem hbl)))
  have hxo : ν b ∈ os := (hos _).mpr ⟨b, hb, ho, rfl⟩
  have hinl : ∀ c ∈ l, c < 128 ∧ ¬ oly c = 0 := fun c hc => ⟨hQ.2.2.2.1 c hc, by rw [hLy.1 c hc]; decide⟩
  have hxt : ν b ∉ σ.2.2.1 := fun hm => by
    rw [s2] at hm
    obtain ⟨c, c1, c2⟩ := List.mem_map.mp hm
    have := hν b c hb (hinl c c1).1 hb0 (hinl c c1).2 c2.symm
    rw [← this] at c1
    exact hbl c1
  have hly2 : ∀ c, c < 128 → X.2.1 c = 2 → ¬ oly c = 0 := fun c hc h2 => by
    by_cases hcl : c ∈ l
    · rw [hLy.1 c hcl]; decide
    · rw [← (hLy.2 c hc).1 hcl, h2]; decide
  have hlyb : X.2.1 b = 1 := (y1 hbl).trans ho
  have hbh : b ∉ h := fun e => hbl ((hmem b).mp e).1
  have hsw : ∀ c, c < 128 → (Y.2.2.2.2.2.1 c = 2 ↔ X.2.1 c = 2) := fun c hc => by
    obtain ⟨z1, z2, z3, z4, z5⟩ := hLy.2 c hc
    by_cases hcl : c ∈ l
    · rw [z5 hcl]
    · by_cases hco : oly c = 1
      · rw [z4 hco hcl, z1 hcl, hco]
        exact ⟨fun h => absurd h (by decide), fun h => absurd h (by decide)⟩
      · rw [z3 hco, z1 hcl]
  obtain ⟨k1, k2, k3, k4, k5, k6, k7, k8⟩ := id hH
  obtain ⟨s, t1, t2, t3, t4⟩ := k3 b hb ho
  obtain ⟨l', li', nr', nd', md', mq', mi', q1, q2, q3, q4, q5, q6, q7, q8, q9⟩ := m_Q_add (x := 0) hQ hb (by decide)
  rw [if_neg hbl] at q4
  subst q4
  rw [show decide (b ∉ l) = true by simpa using hbl] at q1
  obtain ⟨hl128, hl8⟩ := z_CT_h hT
  have hk64 : h.length < 64 := by
    have := k4 (h ++ [b]) (List.nodup_append.mpr ⟨hnd, by simp, fun x hx y hy e => by rw [List.mem_singleton.mp hy] at e; rw [e] at hx; exact hbh hx⟩) (fun x hx => by
      rcases List.mem_append.mp hx with hx | hx
      · have := ((hmem x).mp hx).1
        exact ⟨hQ.2.2.2.1 x this, hLy.1 x this⟩
      · rw [List.mem_singleton.mp hx]; exact ⟨hb, ho⟩)
    simp at this
    omega
  obtain ⟨n0, n1, n2, n3⟩ := s4 b hb hb0
  have hemp := z_emp_lr (f := σ.2.2.2.1) (ν := ν) hLf hss (fun c hc => (hps c hc).1) hsw s3b (fun c hc h2 => ⟨(s4 c hc (hly2 c hc h2)).1, (s4 c hc (hly2 c hc h2)).2.2.1⟩)
  have hgap := z_gap_g (w := s) hemp (by omega) (by omega) (by omega)
  have hgf : z_gf σ.2.1 σ.2.2.2.1 m (σ.2.2.2.1 (ν b) 0) = m_o (m_g m X.2.2.2.2.2.1 s (m + 1) 0) := by
    unfold z_gf
    rw [n0, t3]
    exact hgap
  have hgC : f_X5_gapFor X.2.2.2.2.1 X.2.2.2.2.2.1 (sz b) = some (m_o (m_g m X.2.2.2.2.2.1 s (m + 1) 0)) := by
    rw [t3, ← hgap]
    exact z_gapFor hemp k8 hlo (by omega) (by omega)
  have hg2 : ∀ p, m_g m X.2.2.2.2.2.1 s (m + 1) 0 = some p → p + s ≤ m := fun p e => (m_g_some _ _ _ e).1
  have e1 := m_tkc_new (pn := pn) (pl := X.2.2.1) (ag := X.2.2.2.1) (rw := X.2.2.2.2.2.2.2.2.2) (sz := sz) (lo := X.2.2.2.2.1) (lr := X.2.2.2.2.2.1) (bn := X.1) hb hlyb q1 hgC h7 hk64 (fun p e => by have := hg2 p e; omega)
  have hm1 : m_tC pn sz (nI b) X = _ := e1
  have htk : z_tk m (pn 2) os σ (some (ν b)) = (if ¬ (if σ.2.2.2.1 (ν b) 1 < pn 2 then -1 else z_gf σ.2.1 σ.2.2.2.1 m (σ.2.2.2.1 (ν b) 0)) < 0 then
        (σ.1, σ.2.1 ++ [ν b], σ.2.2.1 ++ [ν b], q_u2 (q_u2 σ.2.2.2.1 (ν b) 2 (z_gf σ.2.1 σ.2.2.2.1 m (σ.2.2.2.1 (ν b) 0))) (ν b) 3 1, σ.2.2.2.2 + 1)
      else (σ.1 ++ [ν b], σ.2.1, σ.2.2.1 ++ [ν b], q_u2 (q_u2 σ.2.2.2.1 (ν b) 2 (z_sum (fun y => σ.2.2.2.1 y 0) σ.1)) (ν b) 1 (σ.2.2.2.1 (ν b) 1 + 1), σ.2.2.2.2)) := by
    rw [z_tk]
    rw [if_pos ⟨hxo, hxt⟩]
  rw [hgf, n1] at htk
  have hne : ∀ c, c < 128 → ¬ oly c = 0 → c ≠ b → ν c ≠ ν b := fun c hc h0 hcb e => hcb (hν c b hc hb h0 hb0 e)
  have hl' : ∀ {X'' : m_XT} {l2 h2 : List Nat} {Y2 : m_YT}, m_CT m oly sz ss X0 Y0 l2 h2 X'' Y2 → X''.2.2.2.2.2.2.1 = li' → X''.2.2.2.2.2.2.2.1 = nr' → l2 = l ++ [b] := fun {X'' l2 h2 Y2} hT2 r1 r2 => by
    have w := hT2.1.1
    rw [r1, r2] at w
    have w1 := m_Q_len w
    have w2 := m_Q_len q3
    exact z_rows_u (f := nr') (fun i x hx => ⟨(w.2.2.2.2.1 i x hx).1, by have := w.2.2.2.1 x (List.mem_of_getElem? hx); omega⟩) (fun i x hx => ⟨(q3.2.2.2.2.1 i x hx).1, by have := q3.2.2.2.1 x (List.mem_of_getElem? hx); omega⟩) ((nI_eq (by omega) (by omega)).mp (w.1.symm.trans q3.1))
  obtain ⟨h'l, h'8⟩ := z_CT_h a3
  have h'R := a3.1.2.2.2.2.1.2.2
  have h'7 := a3.1.2.2.2.1.1
  cases hg : (if X.2.2.2.1 b < pn 2 then none else m_g m X.2.2.2.2.2.1 s (m + 1) 0) with
  | none =>
    rw [hg] at hm1
    have hX' := Option.some.inj (a1.symm.trans hm1)
    have hcond : ¬ ¬ (if X.2.2.2.1 b < pn 2 then (-1 : Int32) else m_o (m_g m X.2.2.2.2.2.1 s (m + 1) 0)) < 0 := by
      intro hcc
      by_cases ha : X.2.2.2.1 b < pn 2
      · rw [if_pos ha] at hcc; exact hcc (by decide)
      · rw [if_neg ha] at hcc hg
        rw [hg] at hcc
        exact hcc (by decide)
    rw [if_neg hcond] at htk
    rw [htk]
    have hlt : l ++ t = l ++ [b] := hl' a3 (by rw [hX']) (by rw [hX'])
    have hh' : h' = h ++ [b] := by
      refine z_rows_u (f := X'.2.2.2.2.2.2.2.2.2) (fun i x hx => ⟨(h'R i x hx).1, by have := h'8 x (List.mem_of_getElem? hx); omega⟩) (fun i x hx => ?_) ?_
      · rw [hX']
        show q_up X.2.2.2.2.2.2.2.2.2 h.length (nI b) i = nI x ∧ _
        have hx9 := (List.getElem?_eq_some_iff.mp hx).1
        rw [List.length_append] at hx9
        have hx9 : i < h.length + 1 := hx9
        by_cases hi : i < h.length
        · rw [List.getElem?_append_left hi] at hx
          rw [m_up_n (by omega)]
          exact ⟨(hRw i x hx).1, by have := hl8 x (List.mem_of_getElem? hx); omega⟩
        · obtain rfl : i = h.length := by omega
          rw [List.getElem?_append_right (Nat.le_refl _), Nat.sub_self] at hx
          cases hx
          rw [m_up_s]
          exact ⟨rfl, by omega⟩
      · rw [List.length_append]
        show h'.length = h.length + 1
        have e7 : X'.1 7 = nI (h.length + 1) := by
          rw [hX']
          show q_up (q_up X.1 7 (nI (h.length + 1))) 8 (X.1 8 + sz b) 7 = _
          rw [m_up_n (by decide), m_up_s]
        exact (nI_eq (by omega) (by omega)).mp (h'7.symm.trans e7)
    rw [hlt, hh', hX']
    have hsum : z_sum (fun y => σ.2.2.2.1 y 0) σ.1 = X.1 8 := by
      rw [s1, z_sum_tot h (fun c hc => (s4 c (hl8 c hc) (hinl c ((hmem c).mp hc).1).2).1), h8]
    refine ⟨by rw [s1, List.map_append]; rfl, by rw [s2, List.map_append]; rfl, ⟨s3, s3b⟩, fun c hc hc0 => ?_, ?_⟩
    · obtain ⟨z0, z1, z2, z3⟩ := s4 c hc hc0
      by_cases hcb : c = b
      · subst hcb
        show q_u2 (q_u2 σ.2.2.2.1 (ν c) 2 (z_sum (fun y => σ.2.2.2.1 y 0) σ.1)) (ν c) 1 (X.2.2.2.1 c + 1) (ν c) 0 = sz c ∧ q_u2 (q_u2 σ.2.2.2.1 (ν c) 2 (z_sum (fun y => σ.2.2.2.1 y 0) σ.1)) (ν c) 1 (X.2.2.2.1 c + 1) (ν c) 1 = q_up X.2.2.2.1 c (X.2.2.2.1 c + 1) c ∧ q_u2 (q_u2 σ.2.2.2.1 (ν c) 2 (z_sum (fun y => σ.2.2.2.1 y 0) σ.1)) (ν c) 1 (X.2.2.2.1 c + 1) (ν c) 2 = q_up X.2.2.1 c (X.1 8) c ∧ q_u2 (q_u2 σ.2.2.2.1 (ν c) 2 (z_sum (fun y => σ.2.2.2.1 y 0) σ.1)) (ν c) 1 (X.2.2.2.1 c + 1) (ν c) 3 = (if X.2.1 c = 2 then 1 else 0)
        rw [q_u2_s, m_up_s, m_up_s, q_u2_j _ _ _ _ _ _ (by decide), q_u2_j _ _ _ _ _ _ (by decide), q_u2_j _ _ _ _ _ _ (by decide), q_u2_s, q_u2_j _ _ _ _ _ _ (by decide), q_u2_j _ _ _ _ _ _ (by decide), hsum]
        exact ⟨z0, rfl, rfl, z3⟩
      · show q_u2 (q_u2 σ.2.2.2.1 (ν b) 2 (z_sum (fun y => σ.2.2.2.1 y 0) σ.1)) (ν b) 1 (X.2.2.2.1 b + 1) (ν c) 0 = sz c ∧ q_u2 (q_u2 σ.2.2.2.1 (ν b) 2 (z_sum (fun y => σ.2.2.2.1 y 0) σ.1)) (ν b) 1 (X.2.2.2.1 b + 1) (ν c) 1 = q_up X.2.2.2.1 b (X.2.2.2.1 b + 1) c ∧ q_u2 (q_u2 σ.2.2.2.1 (ν b) 2 (z_sum (fun y => σ.2.2.2.1 y 0) σ.1)) (ν b) 1 (X.2.2.2.1 b + 1) (ν c) 2 = q_up X.2.2.1 b (X.1 8) c ∧ q_u2 (q_u2 σ.2.2.2.1 (ν b) 2 (z_sum (fun y => σ.2.2.2.1 y 0) σ.1)) (ν b) 1 (X.2.2.2.1 b + 1) (ν c) 3 = (if X.2.1 c = 2 then 1 else 0)
        rw [q_u2_row _ _ _ _ _ (hne c hc hc0 hcb), q_u2_row _ _ _ _ _ (hne c hc hc0 hcb), m_up_n hcb, m_up_n hcb]
        exact ⟨z0, z1, z2, z3⟩
    · show σ.2.2.2.2 = q_up (q_up X.1 7 (nI (h.length + 1))) 8 (X.1 8 + sz b) 13
      rw [m_up_n (by decide), m_up_n (by decide)]
      exact s5
  | some p =>
    rw [hg] at hm1
    have ha : ¬ X.2.2.2.1 b < pn 2 := fun ha => by rw [if_pos ha] at hg; cases hg
    rw [if_neg ha] at hg htk
    rw [hg] at htk
    have hps := hg2 p hg
    have hcond : ¬ m_o (some p) < 0 := nI_pos (by omega)
    rw [if_pos hcond] at htk
    have hm1 : m_tC pn sz (nI b) X = (f_X5_lay X.2.2.2.2.1 X.2.2.2.2.2.1 (nI b) (nI p) (sz b)).bind fun r => some (q_up X.1 13 (X.1 13 + 1), q_up X.2.1 b 2, q_up X.2.2.1 b (nI p), X.2.2.2.1, r.1, r.2, li', nr', nd', X.2.2.2.2.2.2.2.2.2) := hm1
    rw [t3, m_lay k8 hlo (by omega), Option.bind_some] at hm1
    have hX' := Option.some.inj (a1.symm.trans hm1)
    rw [htk]
    have hlt : l ++ t = l ++ [b] := hl' a3 (by rw [hX']) (by rw [hX'])
    have hh' : h' = h := by
      refine z_rows_u (f := X.2.2.2.2.2.2.2.2.2) (fun i x hx => ⟨by have := (h'R i x hx).1; rw [hX'] at this; exact this, by have := h'8 x (List.mem_of_getElem? hx); omega⟩) (fun i x hx => ⟨(hRw i x hx).1, by have := hl8 x (List.mem_of_getElem? hx); omega⟩) ?_
      have e7 : X'.1 7 = nI h.length := by
        rw [hX']
        show q_up X.1 13 (X.1 13 + 1) 7 = _
        rw [m_up_n (by decide)]
        exact h7
      exact (nI_eq (by omega) (by omega)).mp (h'7.symm.trans e7)
    rw [hlt, hh', hX']
    have hlyc : ∀ c, q_up X.2.1 b 2 c = 2 ↔ X.2.1 c = 2 ∨ c = b := fun c => by
      by_cases hcb : c = b
      · subst hcb; rw [m_up_s]; exact ⟨fun _ => Or.inr rfl, fun _ => rfl⟩
      · rw [m_up_n hcb]; exact ⟨Or.inl, fun h => h.resolve_right hcb⟩
    have hxl : ν b ∉ σ.2.1 := fun hm => by
      obtain ⟨c, c1, c2, c3⟩ := (s3b _).mp hm
      have := hν b c hb c1 hb0 (hly2 c c1 c2) c3
      rw [← this, hlyb] at c2
      exact absurd c2 (by decide)
    refine ⟨s1, by rw [s2, List.map_append]; rfl, ⟨List.nodup_append.mpr ⟨s3, by simp, fun x hx y hy e => by rw [List.mem_singleton.mp hy] at e; rw [e] at hx; exact hxl hx⟩, fun x => ?_⟩, fun c hc hc0 => ?_, ?_⟩
    · show x ∈ σ.2.1 ++ [ν b] ↔ ∃ c, c < 128 ∧ q_up X.2.1 b 2 c = 2 ∧ x = ν c
      rw [List.mem_append, s3b, List.mem_singleton]
      constructor
      · rintro (⟨c, c1, c2, c3⟩ | e)
        · exact ⟨c, c1, (hlyc c).mpr (Or.inl c2), c3⟩
        · exact ⟨b, hb, m_up_s, e⟩
      · rintro ⟨c, c1, c2, c3⟩
        rcases (hlyc c).mp c2 with c2 | c2
        · exact Or.inl ⟨c, c1, c2, c3⟩
        · rw [c2] at c3; exact Or.inr c3
    · obtain ⟨z0, z1, z2, z3⟩ := s4 c hc hc0
      by_cases hcb : c = b
      · subst hcb
        show q_u2 (q_u2 σ.2.2.2.1 (ν c) 2 (nI p)) (ν c) 3 1 (ν c) 0 = sz c ∧ q_u2 (q_u2 σ.2.2.2.1 (ν c) 2 (nI p)) (ν c) 3 1 (ν c) 1 = X.2.2.2.1 c ∧ q_u2 (q_u2 σ.2.2.2.1 (ν c) 2 (nI p)) (ν c) 3 1 (ν c) 2 = q_up X.2.2.1 c (nI p) c ∧ q_u2 (q_u2 σ.2.2.2.1 (ν c) 2 (nI p)) (ν c) 3 1 (ν c) 3 = (if q_up X.2.1 c 2 c = 2 then 1 else 0)
        rw [q_u2_s, m_up_s, m_up_s, q_u2_j _ _ _ _ _ _ (by decide), q_u2_j _ _ _ _ _ _ (by decide), q_u2_j _ _ _ _ _ _ (by decide), q_u2_j _ _ _ _ _ _ (by decide), q_u2_j _ _ _ _ _ _ (by decide), q_u2_s]
        exact ⟨z0, z1, rfl, rfl⟩
      · show q_u2 (q_u2 σ.2.2.2.1 (ν b) 2 (nI p)) (ν b) 3 1 (ν c) 0 = sz c ∧ q_u2 (q_u2 σ.2.2.2.1 (ν b) 2 (nI p)) (ν b) 3 1 (ν c) 1 = X.2.2.2.1 c ∧ q_u2 (q_u2 σ.2.2.2.1 (ν b) 2 (nI p)) (ν b) 3 1 (ν c) 2 = q_up X.2.2.1 b (nI p) c ∧ q_u2 (q_u2 σ.2.2.2.1 (ν b) 2 (nI p)) (ν b) 3 1 (ν c) 3 = (if q_up X.2.1 b 2 c = 2 then 1 else 0)
        rw [q_u2_row _ _ _ _ _ (hne c hc hc0 hcb), q_u2_row _ _ _ _ _ (hne c hc hc0 hcb), m_up_n hcb, m_up_n hcb]
        exact ⟨z0, z1, z2, z3⟩
    · show σ.2.2.2.2 + 1 = q_up X.1 13 (X.1 13 + 1) 13
      rw [m_up_s, s5]
end ZLOCK
