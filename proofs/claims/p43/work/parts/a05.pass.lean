/-! MATH: the second pass as it is, and the places that are filled in -/
def m_along {α : Type} (R : α → α → Prop) (o o' : Option α) : Prop := ∀ r, o = some r → ∃ r', o' = some r' ∧ R r r'
theorem m_rlS {α : Type} {R : α → α → Prop} {a b : α} (h : R a b) : m_along R (some a) (some b) := fun r e => by cases e; exact ⟨b, rfl, h⟩
theorem m_rlB {α β : Type} {R : β → β → Prop} {o : Option α} {f f' : α → Option β} (h : ∀ x, m_along R (f x) (f' x)) : m_along R (o.bind f) (o.bind f') := fun r e => by
  cases ho : o with
  | none => rw [ho] at e; cases e
  | some x => rw [ho] at e; exact h x r e
theorem m_rlP {α β : Type} {R1 : α → α → Prop} {R : β → β → Prop} {o o' : Option α} {f f' : α → Option β} (ho : m_along R1 o o') (h : ∀ x x', R1 x x' → m_along R (f x) (f' x')) : m_along R (o.bind f) (o'.bind f') := fun r e => by
  cases hx : o with
  | none => rw [hx] at e; cases e
  | some x =>
    rw [hx] at e
    obtain ⟨x', e1, e2⟩ := ho x hx
    rw [e1]
    exact h x x' e2 r e
theorem m_rlI {α : Type} {R : α → α → Prop} {c : Prop} [Decidable c] {a b a' b' : Option α} (ha : m_along R a a') (hb : m_along R b b') : m_along R (if c then a else b) (if c then a' else b') := by split <;> assumption
/-- the plan's numbers agree where the second pass looks -/
def m_n5 (c mq mq' : m_Rr) : Prop := (∀ j, j < 5 → mq' j = mq j) ∧ ∀ j, 5 ≤ j → mq' j = c j
theorem m_n5_up {c mq mq' : m_Rr} {i : Nat} {x : Int32} (hi : i < 5) (h : m_n5 c mq mq') : m_n5 c (q_up mq i x) (q_up mq' i x) := ⟨fun j hj => by
  by_cases e : j = i
  · rw [e, m_up_s, m_up_s]
  · rw [m_up_n e, m_up_n e]; exact h.1 j hj, fun j hj => (m_up_n (by omega)).trans (h.2 j hj)⟩
def m_V5 (c : m_Rr) (V V' : m_V) : Prop := V'.1 = V.1 ∧ V'.2.2 = V.2.2 ∧ m_n5 c V.2.1 V'.2.1
section
variable {mt kn mf mm mr me mq mq' pd po pq pr c : m_Rr}
theorem m_eo_5 {V V' : m_V} (h : m_V5 c V V') (i : Nat) : m_along (fun r r' => r'.1 = r.1 ∧ m_V5 c r.2 r'.2) (m_eo mt kn mf mm mr V i) (m_eo mt kn mf mm mr V' i) := by
  obtain ⟨ve, mq, pd, po, pq, pr⟩ := V
  obtain ⟨ve', mq', pd', po', pq', pr'⟩ := V'
  obtain ⟨h1, h2, h3⟩ := h
  have h1 : ve' = ve := h1
  have h2 : (pd', po', pq', pr') = (pd, po, pq, pr) := h2
  have h3 : m_n5 c mq mq' := h3
  obtain ⟨e1, e2, e3, e4⟩ : pd' = pd ∧ po' = po ∧ pq' = pq ∧ pr' = pr := by
    simp only [Prod.mk.injEq] at h2
    exact h2
  subst h1; subst e1; subst e2; subst e3; subst e4
  have m0 := h3.1 0 (by decide)
  have m4 := h3.1 4 (by decide)
  unfold m_eo f_X15_errorOf
  refine m_rlB (fun j => m_rlI (m_rlS ⟨rfl, rfl, rfl, h3⟩) (m_rlI ?_ (m_rlI ?_ (m_rlI ?_ (m_rlI ?_ (m_rlI ?_ ?_))))))
  · refine m_rlP (R1 := fun r r' => r'.1 = r.1 ∧ m_n5 c r.2 r'.2) ?_ (fun x x' hx => m_rlS ⟨hx.1, rfl, rfl, hx.2⟩)
    unfold f_X15_newHook
    rw [m0]
    exact m_rlB (fun y => m_rlI (m_rlS ⟨rfl, m_n5_up (by decide) h3⟩) (m_rlS ⟨rfl, m_n5_up (by decide) h3⟩))
  · refine m_rlB (fun j3 => m_rlP (R1 := fun r r' => r'.1 = r.1 ∧ r'.2.2 = r.2.2 ∧ m_n5 c r.2.1 r'.2.1) ?_ (fun x x' hx => m_rlS ⟨hx.1, rfl, ?_, hx.2.2⟩))
    · unfold f_X15_newStep
      rw [m4]
      exact m_rlI (m_rlB (fun y => m_rlS ⟨rfl, rfl, m_n5_up (by decide) h3⟩)) (m_rlS ⟨rfl, rfl, h3⟩)
    · show (x'.2.2, po', pq', pr') = (x.2.2, po', pq', pr')
      rw [hx.2.1]
  · refine m_rlP (R1 := fun r r' => r' = r) ?_ (fun x x' hx => by subst hx; exact m_rlS ⟨rfl, rfl, rfl, h3⟩)
    unfold f_X15_ofStep
    rw [m4]
    exact fun r e => ⟨r, e, rfl⟩
  · refine m_rlP (R1 := fun r r' => r' = r) ?_ (fun x x' hx => by subst hx; exact m_rlS ⟨rfl, rfl, rfl, h3⟩)
    unfold f_X15_ofStep
    rw [m4]
    exact fun r e => ⟨r, e, rfl⟩
  · exact m_rlB (fun x => m_rlS ⟨rfl, rfl, rfl, h3⟩)
  · refine m_rlP (R1 := fun r r' => r'.1 = r.1 ∧ r'.2.2 = r.2.2 ∧ m_n5 c r.2.1 r'.2.1) ?_ (fun x x' hx => m_rlS ⟨hx.1, rfl, ?_, hx.2.2⟩)
    · unfold f_X15_number
      rw [m4]
      exact m_rlB (fun y => m_rlB (fun w => m_rlI (m_rlB (fun _ => m_rlS ⟨rfl, rfl, m_n5_up (by decide) h3⟩)) (m_rlI (m_rlB (fun _ => m_rlS ⟨rfl, rfl, m_n5_up (by decide) h3⟩)) (m_rlI (m_rlB (fun _ => m_rlS ⟨rfl, rfl, m_n5_up (by decide) h3⟩)) (m_rlB (fun _ => m_rlB (fun _ => m_rlS ⟨rfl, rfl, h3⟩)))))))
    · show (pd', po', pq', x'.2.2) = (pd', po', pq', x.2.2)
      rw [hx.2.1]
theorem m_p2_5 {V0 V0' : m_V} (h : m_V5 c V0 V0') : ∀ t, m_along (fun r r' => r'.1 = r.1 ∧ r'.2.1 = r.2.1 ∧ m_V5 c r.2.2 r'.2.2) (m_p2 mt kn mf mm mr V0 t) (m_p2 mt kn mf mm mr V0' t) := by
  intro t
  induction t with
  | zero => exact m_rlS ⟨rfl, rfl, h⟩
  | succ t ih =>
    rw [m_p2, m_p2]
    refine m_rlP ih (fun x x' hx => ?_)
    obtain ⟨h1, h2, h3⟩ := hx
    by_cases e : x.1 = 0
    · rw [if_pos e, if_pos (h1.trans e)]
      refine m_rlP (m_eo_5 h3 t) (fun q q' hq => ?_)
      by_cases e2 : q.1 = 0
      · rw [if_pos e2, if_pos (hq.1.trans e2)]; exact m_rlS ⟨rfl, rfl, hq.2⟩
      · rw [if_neg e2, if_neg (fun y => e2 (hq.1.symm.trans y))]; exact m_rlS ⟨hq.1, rfl, hq.2⟩
    · rw [if_neg e, if_neg (fun y => e (h1.symm.trans y))]; exact m_rlS ⟨h1, h2, h3⟩
/-- the errors of the pass are above 0 -/
theorem m_eo_pos {V : m_V} {i : Nat} {e : Int32} {V' : m_V} (h : m_eo mt kn mf mm mr V i = some (e, V')) : 0 ≤ e := by
  have iN : ∀ {x a b}, m_inv (fun r : Int32 => 0 ≤ r) (f_X15_isNew mt mf mm mr x a b) := by
    intro x a b
    unfold f_X15_isNew
    exact m_invB (fun _ => m_invB (fun _ => m_invI (m_invI (m_invS (by first | decide | (dsimp only; decide))) (m_invS (by first | decide | (dsimp only; decide)))) (m_invS (by first | decide | (dsimp only; decide)))))
  have lk : ∀ {me x v}, m_inv (fun r : Int32 × m_Rr => 0 ≤ r.1) (f_X15_look mt mf mm mr me x v) := by
    intro me x v
    unfold f_X15_look
    exact m_invB (fun _ => m_invB (fun _ => m_invB (fun _ => m_invI (m_invS (by first | decide | (dsimp only; decide))) (m_invS (by first | decide | (dsimp only; decide))))))
  have iR : ∀ {x a b}, m_inv (fun r : Int32 => 0 ≤ r) (f_X15_inRange mt mf mm x a b) := by
    intro x a b
    unfold f_X15_inRange
    exact m_invB (fun _ => m_invB (fun _ => m_invI (m_invS (by first | decide | (dsimp only; decide))) (m_invS (by first | decide | (dsimp only; decide)))))
  have oS : ∀ {me mp po pq x}, m_inv (fun r : Int32 × m_Rr × m_Rr × m_Rr => 0 ≤ r.1) (f_X15_ofStep mt mf mm mr me mp po pq x) := by
    intro me mp po pq x
    unfold f_X15_ofStep
    exact m_invP lk (fun _ hy => m_invB (fun _ => m_invI (m_invB (fun _ => m_invB (fun _ => m_invS hy))) (m_invB (fun _ => m_invB (fun _ => m_invS hy)))))
  have key : m_inv (fun r : Int32 × m_V => 0 ≤ r.1) (m_eo mt kn mf mm mr V i) := by
    unfold m_eo f_X15_errorOf
    refine m_invB (fun _ => m_invI (m_invS (by first | decide | (dsimp only; decide))) (m_invI ?_ (m_invI ?_ (m_invI ?_ (m_invI ?_ (m_invI ?_ ?_))))))
    · refine m_invP (Pr := fun r => 0 ≤ r.1) ?_ (fun _ hy => m_invS hy)
      unfold f_X15_newHook
      exact m_invP iN (fun _ hy => m_invI (m_invS hy) (m_invS hy))
    · refine m_invB (fun _ => m_invP (Pr := fun r => 0 ≤ r.1) ?_ (fun _ hy => m_invS hy))
      unfold f_X15_newStep
      exact m_invI (m_invB (fun _ => m_invS (by dsimp only; decide))) (m_invS (by first | decide | (dsimp only; decide)))
    · exact m_invP oS (fun _ hy => m_invS hy)
    · exact m_invP oS (fun _ hy => m_invS hy)
    · exact m_invP lk (fun _ hy => m_invS hy)
    · refine m_invP (Pr := fun r => 0 ≤ r.1) ?_ (fun _ hy => m_invS hy)
      unfold f_X15_number
      exact m_invB (fun _ => m_invB (fun _ => m_invI (m_invP iR (fun _ hy => m_invS hy)) (m_invI (m_invP iR (fun _ hy => m_invS hy)) (m_invI (m_invP iR (fun _ hy => m_invS hy)) (m_invB (fun _ => m_invP iR (fun _ hy => m_invS hy)))))))
  exact key _ h
theorem m_p2_pos {V0 : m_V} : ∀ {t : Nat} {e : Int32} {j : Nat} {V : m_V}, m_p2 mt kn mf mm mr V0 t = some (e, j, V) → 0 ≤ e := by
  intro t
  induction t with
  | zero => intro e j V h; cases h; decide
  | succ t ih =>
    intro e j V h
    rw [m_p2] at h
    obtain ⟨x, h1, h2⟩ := q_bd h
    by_cases e0 : x.1 = 0
    · rw [if_pos e0] at h2
      obtain ⟨q, h3, h4⟩ := q_bd h2
      by_cases e1 : q.1 = 0
      · rw [if_pos e1] at h4; cases h4; decide
      · rw [if_neg e1] at h4
        have := m_eo_pos (e := q.1) (V' := q.2) h3
        cases h4; exact this
    · rw [if_neg e0] at h2
      have := ih (e := x.1) (j := x.2.1) (V := x.2.2) h1
      cases h2; exact this
/-- the second pass of the reference -/
theorem m_pass {V0 : m_V} {n : Nat} (hn : n ≤ 400) {e : Int32} {j : Nat} {Vn : m_V} (hp : m_p2 mt kn mf mm mr V0 n = some (e, j, Vn)) : ∀ (g t : Nat) (md : m_Rr) (V : m_V) (fu : Nat), t + g = n → m_p2 mt kn mf mm mr V0 t = some (0, 0, V) → md 9 = nI t → g < fu →
    ∃ md', (∀ i, i ≠ 9 → md' i = md i) ∧ ((e = 0 ∧ f_X15_read_L31 mt kn mf mm mr (nI n) fu md V.1 V.2.1 V.2.2.1 V.2.2.2.1 V.2.2.2.2.1 V.2.2.2.2.2 = some (0, 0, md', Vn)) ∨ (e ≠ 0 ∧ md' 9 = nI j ∧ f_X15_read_L31 mt kn mf mm mr (nI n) fu md V.1 V.2.1 V.2.2.1 V.2.2.2.1 V.2.2.2.2.1 V.2.2.2.2.2 = some (1, e, md', Vn))) := by
  intro g
  induction g with
  | zero =>
    intro t md V fu ht hV h9 hfu
    obtain ⟨fu, rfl⟩ : ∃ q, fu = q + 1 := ⟨fu - 1, by omega⟩
    obtain rfl : t = n := by omega
    rw [hV] at hp
    obtain ⟨rfl, rfl, rfl⟩ : 0 = e ∧ 0 = j ∧ V = Vn := by
      have := Option.some.inj hp
      exact ⟨congrArg (fun x => x.1) this, congrArg (fun x => x.2.1) this, congrArg (fun x => x.2.2) this⟩
    refine ⟨md, fun _ _ => rfl, Or.inl ⟨rfl, ?_⟩⟩
    rw [f_X15_read_L31, h9, if_pos (nI_le (Nat.le_refl _) (by omega))]
  | succ g ih =>
    intro t md V fu ht hV h9 hfu
    obtain ⟨fu, rfl⟩ : ∃ q, fu = q + 1 := ⟨fu - 1, by omega⟩
    have mono : ∀ (d : Nat) {e' : Int32} {j' : Nat} {V' : m_V} {s : Nat}, m_p2 mt kn mf mm mr V0 s = some (e', j', V') → e' ≠ 0 → m_p2 mt kn mf mm mr V0 (s + d) = some (e', j', V') := by
      intro d
      induction d with
      | zero => intro e' j' V' s h _; exact h
      | succ d ihd => intro e' j' V' s h h0; exact m_p2_err (ihd h h0) h0
    have tot : ∃ x, m_p2 mt kn mf mm mr V0 (t + 1) = some x := by
      cases hx : m_p2 mt kn mf mm mr V0 (t + 1) with
      | some x => exact ⟨x, rfl⟩
      | none =>
        exfalso
        have : ∀ d, m_p2 mt kn mf mm mr V0 (t + 1 + d) = none := by
          intro d
          induction d with
          | zero => exact hx
          | succ d ihd => rw [show t + 1 + (d + 1) = (t + 1 + d) + 1 by omega, m_p2, ihd]; rfl
        have := this g
        rw [show t + 1 + g = n by omega, hp] at this
        cases this
    obtain ⟨x, hx⟩ := tot
    have hx' := hx
    rw [m_p2, hV, Option.bind_some, if_pos rfl] at hx'
    obtain ⟨q, h3, h4⟩ := q_bd hx'
    have h3 : f_X15_errorOf mt kn mf mm mr V.1 V.2.1 V.2.2.1 V.2.2.2.1 V.2.2.2.2.1 V.2.2.2.2.2 (nI t) = some q := h3
    rw [f_X15_read_L31, h9, if_neg (nI_ge (by omega) (by omega)), h3, Option.bind_some]
    by_cases e1 : q.1 = 0
    · rw [if_pos e1] at h4
      rw [if_neg (fun y => y e1), nI_1]
      cases h4
      obtain ⟨md', w1, w2⟩ := ih (t + 1) (q_up md 9 (nI (t + 1))) q.2 fu (by omega) hx m_up_s (by omega)
      exact ⟨md', fun i hi => (w1 i hi).trans (m_up_n hi), w2⟩
    · rw [if_neg e1] at h4
      rw [if_pos e1]
      cases h4
      have h5 := mono g hx e1
      rw [show t + 1 + g = n by omega, hp] at h5
      obtain ⟨rfl, rfl, rfl⟩ : e = q.1 ∧ j = t ∧ Vn = q.2 := by
        have := Option.some.inj h5
        exact ⟨congrArg (fun x => x.1) this, congrArg (fun x => x.2.1) this, congrArg (fun x => x.2.2) this⟩
      exact ⟨md, fun _ _ => rfl, Or.inr ⟨e1, h9, rfl⟩⟩
/-- the places are filled in -/
theorem m_patch {mp pw vpc pc ve : m_Rr} {op cs t : Nat} (h16 : mp 16 = nI op) (ho : op ≤ 400) (hcs : cs ≤ 800) (ht : t ≤ 401) (hP : m_Pt vpc pc pw ve op cs t) : ∃ pc', f_X15_read_L61 ve mp pw 4096 pc 0 = some pc' ∧ ∀ j, j < cs → pc' j = vpc j := by
  have loop : ∀ (g k fu : Nat) (p : m_Rr), k + g = op → g < fu → (∀ j, j < cs → (∃ o, o < k ∧ pw o = nI j) → p j = vpc j) → (∀ j, (∀ o, o < k → pw o ≠ nI j) → p j = pc j) → ∃ pc', f_X15_read_L61 ve mp pw fu p (nI k) = some pc' ∧ (∀ j, j < cs → (∃ o, o < op ∧ pw o = nI j) → pc' j = vpc j) ∧ (∀ j, (∀ o, o < op → pw o ≠ nI j) → pc' j = pc j) := by
    intro g
    induction g with
    | zero =>
      intro k fu p hk hfu w1 w2
      obtain ⟨fu, rfl⟩ : ∃ q, fu = q + 1 := ⟨fu - 1, by omega⟩
      obtain rfl : k = op := by omega
      rw [f_X15_read_L61, h16, if_pos (nI_le (Nat.le_refl _) (by omega))]
      exact ⟨p, rfl, w1, w2⟩
    | succ g ih =>
      intro k fu p hk hfu w1 w2
      obtain ⟨fu, rfl⟩ : ∃ q, fu = q + 1 := ⟨fu - 1, by omega⟩
      obtain ⟨j, x, x1, x2, x3, x4, x5⟩ := hP.1 k (by omega)
      have hpj : p j = pc j := w2 j (fun o hok e => hP.2.1 o k hok (by omega) (e.trans x1.symm))
      rw [f_X15_read_L61, h16, if_neg (nI_ge (by omega) (by omega)), q_ix_nI (show k < 400 by omega) (by decide), Option.bind_some, Option.bind_some, x1, q_ix_nI (show j < 800 by omega) (by decide), Option.bind_some, hpj, x3, q_ix_nI (show x < 401 by omega) (by decide), Option.bind_some, Option.bind_some, nI_1]
      refine ih (k + 1) fu _ (by omega) (by omega) (fun i hi ho => ?_) (fun i ho => ?_)
      · by_cases e : i = j
        · subst e; exact m_up_s.trans x5.symm
        · rw [m_up_n e]
          obtain ⟨o, o1, o2⟩ := ho
          refine w1 i hi ⟨o, ?_, o2⟩
          rcases Nat.lt_or_ge o k with g' | g'
          · exact g'
          · obtain rfl : o = k := by omega
            exact absurd ((nI_eq (by omega) (by omega)).mp (o2.symm.trans x1)) e
      · have e : i ≠ j := fun e => ho k (by omega) (by rw [e]; exact x1)
        rw [m_up_n e]
        exact w2 i (fun o hok => ho o (by omega))
  obtain ⟨pc', l1, l2, l3⟩ := loop op 0 4096 pc (by omega) (by omega) (fun j hj h => by obtain ⟨o, o1, -⟩ := h; omega) (fun j _ => rfl)
  refine ⟨pc', l1, fun j hj => ?_⟩
  by_cases h : ∃ o, o < op ∧ pw o = nI j
  · exact l2 j hj h
  · have h' : ∀ o, o < op → pw o ≠ nI j := fun o ho e => h ⟨o, ho, e⟩
    rw [l3 j h', hP.2.2 j hj h']
end
