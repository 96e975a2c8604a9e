/-! MATH: reading changes no other number of the model -/
def m_K (md0 md : m_Rr) : Prop := ∀ j, j ≠ 9 → j ≠ 10 → md j = md0 j
theorem m_K9 {md0 md : m_Rr} {v : Int32} (h : m_K md0 md) : m_K md0 (q_up md 9 v) := fun j h1 h2 => (m_up_n h1).trans (h j h1 h2)
theorem m_K10 {md0 md : m_Rr} {v : Int32} (h : m_K md0 md) : m_K md0 (q_up md 10 v) := fun j h1 h2 => (m_up_n h2).trans (h j h1 h2)
def m_inv {α : Type} (P : α → Prop) (o : Option α) : Prop := ∀ r, o = some r → P r
theorem m_invS {α : Type} {P : α → Prop} {r : α} (h : P r) : m_inv P (some r) := fun r' e => by cases e; exact h
theorem m_invB {α β : Type} {P : β → Prop} {o : Option α} {f : α → Option β} (h : ∀ x, m_inv P (f x)) : m_inv P (o.bind f) := fun r e => by
  cases ho : o with
  | none => rw [ho] at e; cases e
  | some x => rw [ho] at e; exact h x r e
theorem m_invP {α β : Type} {P : β → Prop} {Pr : α → Prop} {o : Option α} {f : α → Option β} (ho : m_inv Pr o) (h : ∀ x, Pr x → m_inv P (f x)) : m_inv P (o.bind f) := fun r e => by
  cases hx : o with
  | none => rw [hx] at e; cases e
  | some x => rw [hx] at e; exact h x (ho x hx) r e
theorem m_invI {α : Type} {P : α → Prop} {c : Prop} [Decidable c] {a b : Option α} (ha : m_inv P a) (hb : m_inv P b) : m_inv P (if c then a else b) := by split <;> assumption
section
variable {md0 md kn mt mf mm mr mp ps pt pe pc pw : m_Rr} {rV rS rSi rT : m_TyR}
theorem m_fr_eat {c : Int32} (h : m_K md0 md) : m_inv (fun r => m_K md0 r.2) (f_X15_eat md kn c) := by
  unfold f_X15_eat
  repeat' first
    | exact m_invS (by dsimp only; first | assumption | exact m_K9 (by assumption) | exact m_K10 (by assumption) | exact m_K9 (m_K10 (by assumption)) | exact m_K10 (m_K9 (by assumption)))
    | with_reducible refine m_invI ?_ ?_
    | with_reducible refine m_invB (fun x => ?_)
theorem m_fr_eatSg {c : Int32} (h : m_K md0 md) : m_inv (fun r => m_K md0 r.2) (f_X15_eatSign md kn c) := by
  unfold f_X15_eatSign
  repeat' first
    | exact m_invS (by dsimp only; first | assumption | exact m_K9 (by assumption) | exact m_K10 (by assumption) | exact m_K9 (m_K10 (by assumption)) | exact m_K10 (m_K9 (by assumption)))
    | with_reducible refine m_invI ?_ ?_
    | with_reducible refine m_invP (m_fr_eat (by first | assumption | exact m_K9 (by assumption) | exact m_K10 (by assumption) | exact m_K9 (m_K10 (by assumption)) | exact m_K10 (m_K9 (by assumption)))) (fun x hx => ?_)
    | with_reducible refine m_invB (fun x => ?_)
theorem m_fr_eatAs {c d : Int32} (h : m_K md0 md) : m_inv (fun r => m_K md0 r.2.1) (f_X15_eatAs md kn mr c d) := by
  unfold f_X15_eatAs
  repeat' first
    | exact m_invS (by dsimp only; first | assumption | exact m_K9 (by assumption) | exact m_K10 (by assumption) | exact m_K9 (m_K10 (by assumption)) | exact m_K10 (m_K9 (by assumption)))
    | with_reducible refine m_invI ?_ ?_
    | with_reducible refine m_invP (m_fr_eat (by first | assumption | exact m_K9 (by assumption) | exact m_K10 (by assumption) | exact m_K9 (m_K10 (by assumption)) | exact m_K10 (m_K9 (by assumption)))) (fun x hx => ?_)
    | with_reducible refine m_invB (fun x => ?_)
theorem m_fr_dp (h : m_K md0 md) : m_inv (fun r => m_K md0 r.2) (f_X15_isDeeper md) := by
  unfold f_X15_isDeeper
  repeat' first
    | exact m_invS (by dsimp only; first | assumption | exact m_K9 (by assumption) | exact m_K10 (by assumption) | exact m_K9 (m_K10 (by assumption)) | exact m_K10 (m_K9 (by assumption)))
    | with_reducible refine m_invI ?_ ?_
    | with_reducible refine m_invB (fun x => ?_)
theorem m_fr_name {c : Int32} (h : m_K md0 md) : m_inv (fun r => m_K md0 r.2.1) (f_X15_isName md kn mr mp pc pw c) := by
  unfold f_X15_isName
  repeat' first
    | exact m_invS (by dsimp only; first | assumption | exact m_K9 (by assumption) | exact m_K10 (by assumption) | exact m_K9 (m_K10 (by assumption)) | exact m_K10 (m_K9 (by assumption)))
    | with_reducible refine m_invI ?_ ?_
    | with_reducible refine m_invP (m_fr_eatAs (by first | assumption | exact m_K9 (by assumption) | exact m_K10 (by assumption) | exact m_K9 (m_K10 (by assumption)) | exact m_K10 (m_K9 (by assumption)))) (fun x hx => ?_)
    | with_reducible refine m_invB (fun x => ?_)
theorem m_fr_named {c : Int32} (h : m_K md0 md) : m_inv (fun r => m_K md0 r.2.1) (f_X15_isNamed md kn mr mp pc pw c) := by
  unfold f_X15_isNamed
  repeat' first
    | exact m_invS (by dsimp only; first | assumption | exact m_K9 (by assumption) | exact m_K10 (by assumption) | exact m_K9 (m_K10 (by assumption)) | exact m_K10 (m_K9 (by assumption)))
    | with_reducible refine m_invI ?_ ?_
    | with_reducible refine m_invP (m_fr_name (by first | assumption | exact m_K9 (by assumption) | exact m_K10 (by assumption) | exact m_K9 (m_K10 (by assumption)) | exact m_K10 (m_K9 (by assumption)))) (fun x hx => ?_)
    | with_reducible refine m_invB (fun x => ?_)
abbrev m_fR1 (rS : m_TyR) : Prop := ∀ md0 md mt kn mf mm mr mp pc pw, m_K md0 md → m_inv (fun r => m_K md0 r.2.1) (rS md mt kn mf mm mr mp pc pw)
theorem m_fr_in (hS : m_fR1 rS) {w : Int32} {b : Bool} (h : m_K md0 md) : m_inv (fun r => m_K md0 r.2.1) (f_X15_isInside rS md mt kn mf mm mr mp pc pw w b) := by
  unfold f_X15_isInside
  repeat' first
    | exact m_invS (by dsimp only; first | assumption | exact m_K9 (by assumption) | exact m_K10 (by assumption) | exact m_K9 (m_K10 (by assumption)) | exact m_K10 (m_K9 (by assumption)))
    | with_reducible refine m_invI ?_ ?_
    | with_reducible refine m_invP (hS _ _ _ _ _ _ _ _ _ _ (by first | assumption | exact m_K9 (by assumption) | exact m_K10 (by assumption) | exact m_K9 (m_K10 (by assumption)) | exact m_K10 (m_K9 (by assumption)))) (fun x hx => ?_)
    | with_reducible refine m_invP (m_fr_dp (by first | assumption | exact m_K9 (by assumption) | exact m_K10 (by assumption) | exact m_K9 (m_K10 (by assumption)) | exact m_K10 (m_K9 (by assumption)))) (fun x hx => ?_)
    | with_reducible refine m_invP (m_fr_eatSg (by first | assumption | exact m_K9 (by assumption) | exact m_K10 (by assumption) | exact m_K9 (m_K10 (by assumption)) | exact m_K10 (m_K9 (by assumption)))) (fun x hx => ?_)
    | with_reducible refine m_invB (fun x => ?_)
theorem m_fr_val (hV : m_fR1 rV) (hS : m_fR1 rS) : m_fR1 (f_X15_isValue rV rS) := by
  intro md0 md mt kn mf mm mr mp pc pw h
  unfold f_X15_isValue
  repeat' first
    | exact m_invS (by dsimp only; first | assumption | exact m_K9 (by assumption) | exact m_K10 (by assumption) | exact m_K9 (m_K10 (by assumption)) | exact m_K10 (m_K9 (by assumption)))
    | with_reducible refine m_invI ?_ ?_
    | with_reducible refine m_invP (hV _ _ _ _ _ _ _ _ _ _ (by first | assumption | exact m_K9 (by assumption) | exact m_K10 (by assumption) | exact m_K9 (m_K10 (by assumption)) | exact m_K10 (m_K9 (by assumption)))) (fun x hx => ?_)
    | with_reducible refine m_invP (m_fr_in hS (by first | assumption | exact m_K9 (by assumption) | exact m_K10 (by assumption) | exact m_K9 (m_K10 (by assumption)) | exact m_K10 (m_K9 (by assumption)))) (fun x hx => ?_)
    | with_reducible refine m_invP (m_fr_dp (by first | assumption | exact m_K9 (by assumption) | exact m_K10 (by assumption) | exact m_K9 (m_K10 (by assumption)) | exact m_K10 (m_K9 (by assumption)))) (fun x hx => ?_)
    | with_reducible refine m_invP (m_fr_name (by first | assumption | exact m_K9 (by assumption) | exact m_K10 (by assumption) | exact m_K9 (m_K10 (by assumption)) | exact m_K10 (m_K9 (by assumption)))) (fun x hx => ?_)
    | with_reducible refine m_invP (m_fr_eat (by first | assumption | exact m_K9 (by assumption) | exact m_K10 (by assumption) | exact m_K9 (m_K10 (by assumption)) | exact m_K10 (m_K9 (by assumption)))) (fun x hx => ?_)
    | with_reducible refine m_invB (fun x => ?_)
theorem m_fr_proL (hc : m_fR1 (f_X15_isValue rV rS)) : ∀ (fu : Nat) (md mr mp pc pw : m_Rr), m_K md0 md → m_inv (fun r => m_K md0 r.2.1) (f_X15_isProduct_L5 rV rS mt kn mf mm fu md mr mp pc pw) := by
  intro fu
  induction fu with
  | zero => intro md mr mp pc pw h r e; cases e
  | succ fu ih =>
    intro md mr mp pc pw h
    rw [f_X15_isProduct_L5]
    repeat' first
      | exact m_invS (by dsimp only; first | assumption | exact m_K9 (by assumption) | exact m_K10 (by assumption) | exact m_K9 (m_K10 (by assumption)) | exact m_K10 (m_K9 (by assumption)))
      | with_reducible refine m_invI ?_ ?_
      | with_reducible refine m_invP (hc _ _ _ _ _ _ _ _ _ _ (by first | assumption | exact m_K9 (by assumption) | exact m_K10 (by assumption) | exact m_K9 (m_K10 (by assumption)) | exact m_K10 (m_K9 (by assumption)))) (fun x hx => ?_)
      | exact ih _ _ _ _ _ (by first | assumption | exact m_K9 (by assumption) | exact m_K10 (by assumption) | exact m_K9 (m_K10 (by assumption)) | exact m_K10 (m_K9 (by assumption)))
      | with_reducible refine m_invB (fun x => ?_)
theorem m_fr_pro (hc : m_fR1 (f_X15_isValue rV rS)) : m_fR1 (f_X15_isProduct rV rS) := by
  intro md0 md mt kn mf mm mr mp pc pw h
  unfold f_X15_isProduct
  repeat' first
    | exact m_invS (by dsimp only; first | assumption | exact m_K9 (by assumption) | exact m_K10 (by assumption) | exact m_K9 (m_K10 (by assumption)) | exact m_K10 (m_K9 (by assumption)))
    | with_reducible refine m_invI ?_ ?_
    | with_reducible refine m_invP (hc _ _ _ _ _ _ _ _ _ _ (by first | assumption | exact m_K9 (by assumption) | exact m_K10 (by assumption) | exact m_K9 (m_K10 (by assumption)) | exact m_K10 (m_K9 (by assumption)))) (fun x hx => ?_)
    | with_reducible refine m_invP (m_fr_proL hc _ _ _ _ _ _ (by first | assumption | exact m_K9 (by assumption) | exact m_K10 (by assumption) | exact m_K9 (m_K10 (by assumption)) | exact m_K10 (m_K9 (by assumption)))) (fun x hx => ?_)
    | with_reducible refine m_invB (fun x => ?_)
theorem m_fr_sumL (hc : m_fR1 (f_X15_isProduct rV rS)) : ∀ (fu : Nat) (md mr mp pc pw : m_Rr), m_K md0 md → m_inv (fun r => m_K md0 r.2.1) (f_X15_isSum_L5 rV rS mt kn mf mm fu md mr mp pc pw) := by
  intro fu
  induction fu with
  | zero => intro md mr mp pc pw h r e; cases e
  | succ fu ih =>
    intro md mr mp pc pw h
    rw [f_X15_isSum_L5]
    repeat' first
      | exact m_invS (by dsimp only; first | assumption | exact m_K9 (by assumption) | exact m_K10 (by assumption) | exact m_K9 (m_K10 (by assumption)) | exact m_K10 (m_K9 (by assumption)))
      | with_reducible refine m_invI ?_ ?_
      | with_reducible refine m_invP (hc _ _ _ _ _ _ _ _ _ _ (by first | assumption | exact m_K9 (by assumption) | exact m_K10 (by assumption) | exact m_K9 (m_K10 (by assumption)) | exact m_K10 (m_K9 (by assumption)))) (fun x hx => ?_)
      | exact ih _ _ _ _ _ (by first | assumption | exact m_K9 (by assumption) | exact m_K10 (by assumption) | exact m_K9 (m_K10 (by assumption)) | exact m_K10 (m_K9 (by assumption)))
      | with_reducible refine m_invB (fun x => ?_)
theorem m_fr_sum (hc : m_fR1 (f_X15_isProduct rV rS)) : m_fR1 (f_X15_isSum rV rS) := by
  intro md0 md mt kn mf mm mr mp pc pw h
  unfold f_X15_isSum
  repeat' first
    | exact m_invS (by dsimp only; first | assumption | exact m_K9 (by assumption) | exact m_K10 (by assumption) | exact m_K9 (m_K10 (by assumption)) | exact m_K10 (m_K9 (by assumption)))
    | with_reducible refine m_invI ?_ ?_
    | with_reducible refine m_invP (hc _ _ _ _ _ _ _ _ _ _ (by first | assumption | exact m_K9 (by assumption) | exact m_K10 (by assumption) | exact m_K9 (m_K10 (by assumption)) | exact m_K10 (m_K9 (by assumption)))) (fun x hx => ?_)
    | with_reducible refine m_invP (m_fr_sumL hc _ _ _ _ _ _ (by first | assumption | exact m_K9 (by assumption) | exact m_K10 (by assumption) | exact m_K9 (m_K10 (by assumption)) | exact m_K10 (m_K9 (by assumption)))) (fun x hx => ?_)
    | with_reducible refine m_invB (fun x => ?_)
theorem m_fr_sin (hq : m_fR1 (f_X15_isSum rV rS)) (hV : m_fR1 rSi) (hT : m_fR1 rT) : m_fR1 (f_X15_isSingle rSi rT rV rS) := by
  intro md0 md mt kn mf mm mr mp pc pw h
  unfold f_X15_isSingle
  repeat' first
    | exact m_invS (by dsimp only; first | assumption | exact m_K9 (by assumption) | exact m_K10 (by assumption) | exact m_K9 (m_K10 (by assumption)) | exact m_K10 (m_K9 (by assumption)))
    | with_reducible refine m_invI ?_ ?_
    | with_reducible refine m_invP (hq _ _ _ _ _ _ _ _ _ _ (by first | assumption | exact m_K9 (by assumption) | exact m_K10 (by assumption) | exact m_K9 (m_K10 (by assumption)) | exact m_K10 (m_K9 (by assumption)))) (fun x hx => ?_)
    | with_reducible refine m_invP (hV _ _ _ _ _ _ _ _ _ _ (by first | assumption | exact m_K9 (by assumption) | exact m_K10 (by assumption) | exact m_K9 (m_K10 (by assumption)) | exact m_K10 (m_K9 (by assumption)))) (fun x hx => ?_)
    | with_reducible refine m_invP (hT _ _ _ _ _ _ _ _ _ _ (by first | assumption | exact m_K9 (by assumption) | exact m_K10 (by assumption) | exact m_K9 (m_K10 (by assumption)) | exact m_K10 (m_K9 (by assumption)))) (fun x hx => ?_)
    | with_reducible refine m_invP (m_fr_dp (by first | assumption | exact m_K9 (by assumption) | exact m_K10 (by assumption) | exact m_K9 (m_K10 (by assumption)) | exact m_K10 (m_K9 (by assumption)))) (fun x hx => ?_)
    | with_reducible refine m_invP (m_fr_named (by first | assumption | exact m_K9 (by assumption) | exact m_K10 (by assumption) | exact m_K9 (m_K10 (by assumption)) | exact m_K10 (m_K9 (by assumption)))) (fun x hx => ?_)
    | with_reducible refine m_invP (m_fr_name (by first | assumption | exact m_K9 (by assumption) | exact m_K10 (by assumption) | exact m_K9 (m_K10 (by assumption)) | exact m_K10 (m_K9 (by assumption)))) (fun x hx => ?_)
    | with_reducible refine m_invP (m_fr_eatSg (by first | assumption | exact m_K9 (by assumption) | exact m_K10 (by assumption) | exact m_K9 (m_K10 (by assumption)) | exact m_K10 (m_K9 (by assumption)))) (fun x hx => ?_)
    | with_reducible refine m_invB (fun x => ?_)
theorem m_fr_bothL (hc : m_fR1 (f_X15_isSingle rSi rT rV rS)) : ∀ (fu : Nat) (md mr mp pc pw : m_Rr), m_K md0 md → m_inv (fun r => m_K md0 r.2.1) (f_X15_isBoth_L5 rSi rT rV rS mt kn mf mm fu md mr mp pc pw) := by
  intro fu
  induction fu with
  | zero => intro md mr mp pc pw h r e; cases e
  | succ fu ih =>
    intro md mr mp pc pw h
    rw [f_X15_isBoth_L5]
    repeat' first
      | exact m_invS (by dsimp only; first | assumption | exact m_K9 (by assumption) | exact m_K10 (by assumption) | exact m_K9 (m_K10 (by assumption)) | exact m_K10 (m_K9 (by assumption)))
      | with_reducible refine m_invI ?_ ?_
      | with_reducible refine m_invP (hc _ _ _ _ _ _ _ _ _ _ (by first | assumption | exact m_K9 (by assumption) | exact m_K10 (by assumption) | exact m_K9 (m_K10 (by assumption)) | exact m_K10 (m_K9 (by assumption)))) (fun x hx => ?_)
      | with_reducible refine m_invP (m_fr_eat (by first | assumption | exact m_K9 (by assumption) | exact m_K10 (by assumption) | exact m_K9 (m_K10 (by assumption)) | exact m_K10 (m_K9 (by assumption)))) (fun x hx => ?_)
      | exact ih _ _ _ _ _ (by first | assumption | exact m_K9 (by assumption) | exact m_K10 (by assumption) | exact m_K9 (m_K10 (by assumption)) | exact m_K10 (m_K9 (by assumption)))
      | with_reducible refine m_invB (fun x => ?_)
theorem m_fr_both (hc : m_fR1 (f_X15_isSingle rSi rT rV rS)) : m_fR1 (f_X15_isBoth rSi rT rV rS) := by
  intro md0 md mt kn mf mm mr mp pc pw h
  unfold f_X15_isBoth
  repeat' first
    | exact m_invS (by dsimp only; first | assumption | exact m_K9 (by assumption) | exact m_K10 (by assumption) | exact m_K9 (m_K10 (by assumption)) | exact m_K10 (m_K9 (by assumption)))
    | with_reducible refine m_invI ?_ ?_
    | with_reducible refine m_invP (hc _ _ _ _ _ _ _ _ _ _ (by first | assumption | exact m_K9 (by assumption) | exact m_K10 (by assumption) | exact m_K9 (m_K10 (by assumption)) | exact m_K10 (m_K9 (by assumption)))) (fun x hx => ?_)
    | with_reducible refine m_invP (m_fr_bothL hc _ _ _ _ _ _ (by first | assumption | exact m_K9 (by assumption) | exact m_K10 (by assumption) | exact m_K9 (m_K10 (by assumption)) | exact m_K10 (m_K9 (by assumption)))) (fun x hx => ?_)
    | with_reducible refine m_invB (fun x => ?_)
theorem m_fr_testL (hc : m_fR1 (f_X15_isBoth rSi rT rV rS)) : ∀ (fu : Nat) (md mr mp pc pw : m_Rr), m_K md0 md → m_inv (fun r => m_K md0 r.2.1) (f_X15_isTest_L5 rSi rT rV rS mt kn mf mm fu md mr mp pc pw) := by
  intro fu
  induction fu with
  | zero => intro md mr mp pc pw h r e; cases e
  | succ fu ih =>
    intro md mr mp pc pw h
    rw [f_X15_isTest_L5]
    repeat' first
      | exact m_invS (by dsimp only; first | assumption | exact m_K9 (by assumption) | exact m_K10 (by assumption) | exact m_K9 (m_K10 (by assumption)) | exact m_K10 (m_K9 (by assumption)))
      | with_reducible refine m_invI ?_ ?_
      | with_reducible refine m_invP (hc _ _ _ _ _ _ _ _ _ _ (by first | assumption | exact m_K9 (by assumption) | exact m_K10 (by assumption) | exact m_K9 (m_K10 (by assumption)) | exact m_K10 (m_K9 (by assumption)))) (fun x hx => ?_)
      | with_reducible refine m_invP (m_fr_eat (by first | assumption | exact m_K9 (by assumption) | exact m_K10 (by assumption) | exact m_K9 (m_K10 (by assumption)) | exact m_K10 (m_K9 (by assumption)))) (fun x hx => ?_)
      | exact ih _ _ _ _ _ (by first | assumption | exact m_K9 (by assumption) | exact m_K10 (by assumption) | exact m_K9 (m_K10 (by assumption)) | exact m_K10 (m_K9 (by assumption)))
      | with_reducible refine m_invB (fun x => ?_)
theorem m_fr_test (hc : m_fR1 (f_X15_isBoth rSi rT rV rS)) : m_fR1 (f_X15_isTest rSi rT rV rS) := by
  intro md0 md mt kn mf mm mr mp pc pw h
  unfold f_X15_isTest
  repeat' first
    | exact m_invS (by dsimp only; first | assumption | exact m_K9 (by assumption) | exact m_K10 (by assumption) | exact m_K9 (m_K10 (by assumption)) | exact m_K10 (m_K9 (by assumption)))
    | with_reducible refine m_invI ?_ ?_
    | with_reducible refine m_invP (hc _ _ _ _ _ _ _ _ _ _ (by first | assumption | exact m_K9 (by assumption) | exact m_K10 (by assumption) | exact m_K9 (m_K10 (by assumption)) | exact m_K10 (m_K9 (by assumption)))) (fun x hx => ?_)
    | with_reducible refine m_invP (m_fr_testL hc _ _ _ _ _ _ (by first | assumption | exact m_K9 (by assumption) | exact m_K10 (by assumption) | exact m_K9 (m_K10 (by assumption)) | exact m_K10 (m_K9 (by assumption)))) (fun x hx => ?_)
    | with_reducible refine m_invB (fun x => ?_)
theorem m_fr_kn : ∀ n, m_fR1 (k_P n).1 ∧ m_fR1 (k_P n).2.1 ∧ m_fR1 (k_P n).2.2.1 ∧ m_fR1 (k_P n).2.2.2 := by
  intro n
  induction n with
  | zero => exact ⟨fun _ _ _ _ _ _ _ _ _ _ _ r e => (by cases e), fun _ _ _ _ _ _ _ _ _ _ _ r e => (by cases e), fun _ _ _ _ _ _ _ _ _ _ _ r e => (by cases e), fun _ _ _ _ _ _ _ _ _ _ _ r e => (by cases e)⟩
  | succ n ih =>
    obtain ⟨i1, i2, i3, i4⟩ := ih
    have v : m_fR1 (f_X15_isValue (k_P n).1 (k_P n).2.1) := m_fr_val i1 i2
    have s : m_fR1 (f_X15_isSum (k_P n).1 (k_P n).2.1) := m_fr_sum (m_fr_pro v)
    have g : m_fR1 (f_X15_isSingle (k_P n).2.2.1 (k_P n).2.2.2 (k_P n).1 (k_P n).2.1) := m_fr_sin s i3 i4
    exact ⟨v, s, g, m_fr_test (m_fr_both g)⟩
theorem m_fr_rope (h : m_K md0 md) : m_inv (fun r => m_K md0 r.2.1) (f_X15_isRope md kn mr) := by
  unfold f_X15_isRope
  repeat' first
    | exact m_invS (by dsimp only; first | assumption | exact m_K9 (by assumption) | exact m_K10 (by assumption) | exact m_K9 (m_K10 (by assumption)) | exact m_K10 (m_K9 (by assumption)))
    | with_reducible refine m_invI ?_ ?_
    | with_reducible refine m_invP (m_fr_eatAs (by first | assumption | exact m_K9 (by assumption) | exact m_K10 (by assumption) | exact m_K9 (m_K10 (by assumption)) | exact m_K10 (m_K9 (by assumption)))) (fun x hx => ?_)
    | with_reducible refine m_invP (m_fr_eat (by first | assumption | exact m_K9 (by assumption) | exact m_K10 (by assumption) | exact m_K9 (m_K10 (by assumption)) | exact m_K10 (m_K9 (by assumption)))) (fun x hx => ?_)
    | with_reducible refine m_invB (fun x => ?_)
theorem m_fr_rest {x : Int32} (h : m_K md0 md) : m_inv (fun r => m_K md0 r.2.1) (f_X15_isRest md mt kn mf mm mr mp pc pw x) := by
  have hs : m_fR1 (f_X15_isSum (k_isValue 12) (k_isSum 12)) := (m_fr_kn 13).2.1
  unfold f_X15_isRest
  repeat' first
    | exact m_invS (by dsimp only; first | assumption | exact m_K9 (by assumption) | exact m_K10 (by assumption) | exact m_K9 (m_K10 (by assumption)) | exact m_K10 (m_K9 (by assumption)))
    | with_reducible refine m_invI ?_ ?_
    | with_reducible refine m_invP (hs _ _ _ _ _ _ _ _ _ _ (by first | assumption | exact m_K9 (by assumption) | exact m_K10 (by assumption) | exact m_K9 (m_K10 (by assumption)) | exact m_K10 (m_K9 (by assumption)))) (fun x hx => ?_)
    | with_reducible refine m_invP (m_fr_rope (by first | assumption | exact m_K9 (by assumption) | exact m_K10 (by assumption) | exact m_K9 (m_K10 (by assumption)) | exact m_K10 (m_K9 (by assumption)))) (fun x hx => ?_)
    | with_reducible refine m_invP (m_fr_eatAs (by first | assumption | exact m_K9 (by assumption) | exact m_K10 (by assumption) | exact m_K9 (m_K10 (by assumption)) | exact m_K10 (m_K9 (by assumption)))) (fun x hx => ?_)
    | with_reducible refine m_invP (m_fr_eat (by first | assumption | exact m_K9 (by assumption) | exact m_K10 (by assumption) | exact m_K9 (m_K10 (by assumption)) | exact m_K10 (m_K9 (by assumption)))) (fun x hx => ?_)
    | with_reducible refine m_invB (fun x => ?_)
theorem m_fr_step {x : Int32} (h : m_K md0 md) : m_inv (fun r => m_K md0 r.2.1) (f_X15_isStep md mt kn mf mm mr mp ps pt pe pc pw x) := by
  have hs : m_fR1 (f_X15_isTest (k_isSingle 12) (k_isTest 12) (k_isValue 12) (k_isSum 12)) := (m_fr_kn 13).2.2.2
  unfold f_X15_isStep
  repeat' first
    | exact m_invS (by dsimp only; first | assumption | exact m_K9 (by assumption) | exact m_K10 (by assumption) | exact m_K9 (m_K10 (by assumption)) | exact m_K10 (m_K9 (by assumption)))
    | with_reducible refine m_invI ?_ ?_
    | with_reducible refine m_invP (hs _ _ _ _ _ _ _ _ _ _ (by first | assumption | exact m_K9 (by assumption) | exact m_K10 (by assumption) | exact m_K9 (m_K10 (by assumption)) | exact m_K10 (m_K9 (by assumption)))) (fun x hx => ?_)
    | with_reducible refine m_invP (m_fr_rest (by first | assumption | exact m_K9 (by assumption) | exact m_K10 (by assumption) | exact m_K9 (m_K10 (by assumption)) | exact m_K10 (m_K9 (by assumption)))) (fun x hx => ?_)
    | with_reducible refine m_invP (m_fr_eatAs (by first | assumption | exact m_K9 (by assumption) | exact m_K10 (by assumption) | exact m_K9 (m_K10 (by assumption)) | exact m_K10 (m_K9 (by assumption)))) (fun x hx => ?_)
    | with_reducible refine m_invP (m_fr_eat (by first | assumption | exact m_K9 (by assumption) | exact m_K10 (by assumption) | exact m_K9 (m_K10 (by assumption)) | exact m_K10 (m_K9 (by assumption)))) (fun x hx => ?_)
    | with_reducible refine m_invB (fun x => ?_)
theorem m_fr_line (h : m_K md0 md) : m_inv (fun r => m_K md0 r.2.1) (f_X15_isLine md mt kn mf mm mr mp ps pt pe pc pw) := by
  unfold f_X15_isLine
  repeat' first
    | exact m_invS (by dsimp only; first | assumption | exact m_K9 (by assumption) | exact m_K10 (by assumption) | exact m_K9 (m_K10 (by assumption)) | exact m_K10 (m_K9 (by assumption)))
    | with_reducible refine m_invI ?_ ?_
    | with_reducible refine m_invP (m_fr_step (by first | assumption | exact m_K9 (by assumption) | exact m_K10 (by assumption) | exact m_K9 (m_K10 (by assumption)) | exact m_K10 (m_K9 (by assumption)))) (fun x hx => ?_)
    | with_reducible refine m_invP (m_fr_eatAs (by first | assumption | exact m_K9 (by assumption) | exact m_K10 (by assumption) | exact m_K9 (m_K10 (by assumption)) | exact m_K10 (m_K9 (by assumption)))) (fun x hx => ?_)
    | with_reducible refine m_invB (fun x => ?_)
theorem m_fr_barnL : ∀ (fu : Nat) (md mr mp ps pt pe pc pw : m_Rr), m_K md0 md → m_inv (fun r => m_K md0 r.2.1) (f_X15_isBarn_L0 mt kn mf mm fu md mr mp ps pt pe pc pw) := by
  intro fu
  induction fu with
  | zero => intro md mr mp ps pt pe pc pw h r e; cases e
  | succ fu ih =>
    intro md mr mp ps pt pe pc pw h
    rw [f_X15_isBarn_L0]
    repeat' first
      | exact m_invS (by dsimp only; first | assumption | exact m_K9 (by assumption) | exact m_K10 (by assumption) | exact m_K9 (m_K10 (by assumption)) | exact m_K10 (m_K9 (by assumption)))
      | with_reducible refine m_invI ?_ ?_
      | with_reducible refine m_invP (m_fr_line (by first | assumption | exact m_K9 (by assumption) | exact m_K10 (by assumption) | exact m_K9 (m_K10 (by assumption)) | exact m_K10 (m_K9 (by assumption)))) (fun x hx => ?_)
      | with_reducible refine m_invP (m_fr_eatSg (by first | assumption | exact m_K9 (by assumption) | exact m_K10 (by assumption) | exact m_K9 (m_K10 (by assumption)) | exact m_K10 (m_K9 (by assumption)))) (fun x hx => ?_)
      | exact ih _ _ _ _ _ _ _ _ (by first | assumption | exact m_K9 (by assumption) | exact m_K10 (by assumption) | exact m_K9 (m_K10 (by assumption)) | exact m_K10 (m_K9 (by assumption)))
      | with_reducible refine m_invB (fun x => ?_)
end
