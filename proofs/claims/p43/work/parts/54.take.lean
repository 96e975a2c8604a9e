/-! MATH: the loops of a copying, both sides in step -/
abbrev m_Rr : Type := Nat → Int32
abbrev m_XT : Type := m_Rr × m_Rr × m_Rr × m_Rr × m_Rr × m_Rr × m_Rr × m_Rr × m_Rr × m_Rr
abbrev m_YT : Type := Int32 × m_Rr × m_Rr × m_Rr × m_Rr × m_Rr × m_Rr × m_Rr
/-- the class: bn ly pl ag lo lr li nr nd rw -/
def m_tC (pn sz : m_Rr) (c : Int32) (X : m_XT) : Option m_XT := f_X2_takeOver pn X.1 X.2.1 X.2.2.1 sz X.2.2.2.1 X.2.2.2.2.1 X.2.2.2.2.2.1 X.2.2.2.2.2.2.1 X.2.2.2.2.2.2.2.1 X.2.2.2.2.2.2.2.2.1 X.2.2.2.2.2.2.2.2.2 c
/-- the reference: next md mq mi st sw sp sa -/
def m_tR (mp ss ol : m_Rr) (c : Int32) (Y : m_YT) : Option m_YT := f_X14_takeOver Y.2.1 mp Y.2.2.1 Y.2.2.2.1 Y.2.2.2.2.1 Y.2.2.2.2.2.1 Y.2.2.2.2.2.2.1 ss Y.2.2.2.2.2.2.2 ol c Y.1
def m_L36 (pn sz hk : m_Rr) (fu : Nat) (X : m_XT) (i : Int32) : Option m_XT := f_X2_copyHalf_L36 pn sz hk fu X.1 X.2.1 X.2.2.1 X.2.2.2.1 X.2.2.2.2.1 X.2.2.2.2.2.1 X.2.2.2.2.2.2.1 X.2.2.2.2.2.2.2.1 X.2.2.2.2.2.2.2.2.1 X.2.2.2.2.2.2.2.2.2 i
def m_L98 (pn sz rc ld : m_Rr) (b : Int32) (fu : Nat) (X : m_XT) (i : Int32) : Option m_XT := f_X2_copyHalf_L98 pn sz rc ld b fu X.1 X.2.1 X.2.2.1 X.2.2.2.1 X.2.2.2.2.1 X.2.2.2.2.2.1 X.2.2.2.2.2.2.1 X.2.2.2.2.2.2.2.1 X.2.2.2.2.2.2.2.2.1 X.2.2.2.2.2.2.2.2.2 i
def m_L59 (pn sz rc ld : m_Rr) (b : Int32) (fu : Nat) (X : m_XT) (i : Int32) : Option m_XT := f_X2_copyHalf_L59 pn sz rc ld b fu X.1 X.2.1 X.2.2.1 X.2.2.2.1 X.2.2.2.2.1 X.2.2.2.2.2.1 X.2.2.2.2.2.2.1 X.2.2.2.2.2.2.2.1 X.2.2.2.2.2.2.2.2.1 X.2.2.2.2.2.2.2.2.2 i
def m_L83 (pn sz rc ld : m_Rr) (fu : Nat) (X : m_XT) (i : Int32) : Option m_XT := f_X2_copyHalf_L83 pn sz rc ld fu X.1 X.2.1 X.2.2.1 X.2.2.2.1 X.2.2.2.2.1 X.2.2.2.2.2.1 X.2.2.2.2.2.2.1 X.2.2.2.2.2.2.2.1 X.2.2.2.2.2.2.2.2.1 X.2.2.2.2.2.2.2.2.2 i
def m_L48 (pn sz rc ld : m_Rr) (fu : Nat) (X : m_XT) (i : Int32) : Option m_XT := f_X2_copyHalf_L48 pn sz rc ld fu X.1 X.2.1 X.2.2.1 X.2.2.2.1 X.2.2.2.2.1 X.2.2.2.2.2.1 X.2.2.2.2.2.2.1 X.2.2.2.2.2.2.2.1 X.2.2.2.2.2.2.2.2.1 X.2.2.2.2.2.2.2.2.2 i
def m_L4 (mp ss sr sd ol : m_Rr) (b : Int32) (fu : Nat) (Y : m_YT) (i : Int32) : Option m_YT := f_X14_takeRopes_L4 mp ss sr sd ol b fu Y.2.1 Y.2.2.1 Y.2.2.2.1 Y.2.2.2.2.1 Y.2.2.2.2.2.1 Y.2.2.2.2.2.2.1 Y.2.2.2.2.2.2.2 Y.1 i
def m_L35 (mp sh ss ol : m_Rr) (fu : Nat) (Y : m_YT) (i : Int32) : Option m_YT := f_X14_copyAll_L35 mp sh ss ol fu Y.2.1 Y.2.2.1 Y.2.2.2.1 Y.2.2.2.2.1 Y.2.2.2.2.2.1 Y.2.2.2.2.2.2.1 Y.2.2.2.2.2.2.2 Y.1 i
def m_L62 (mp ss sr sd ol : m_Rr) (p : Int32) (fu : Nat) (Y : m_YT) (i : Int32) : Option m_YT := f_X14_copyAll_L62 mp ss sr sd ol p fu Y.2.1 Y.2.2.1 Y.2.2.2.1 Y.2.2.2.2.1 Y.2.2.2.2.2.1 Y.2.2.2.2.2.2.1 Y.2.2.2.2.2.2.2 Y.1 i
def m_L54 (mp ss sr sd ol : m_Rr) (fu : Nat) (Y : m_YT) (i : Int32) : Option m_YT := f_X14_copyAll_L54 mp ss sr sd ol fu Y.2.1 Y.2.2.1 Y.2.2.2.1 Y.2.2.2.2.1 Y.2.2.2.2.2.1 Y.2.2.2.2.2.2.1 Y.2.2.2.2.2.2.2 Y.1 i
def m_L88 (mp ss sr sd ol : m_Rr) (fu : Nat) (Y : m_YT) (i : Int32) : Option (m_Rr × m_Rr × m_Rr × m_Rr × m_Rr × m_Rr × m_Rr) := f_X14_copyAll_L88 mp ss sr sd ol fu Y.2.1 Y.2.2.1 Y.2.2.2.1 Y.2.2.2.2.1 Y.2.2.2.2.2.1 Y.2.2.2.2.2.2.1 Y.2.2.2.2.2.2.2 Y.1 i
section
variable {pn sz hk rc ld mp ss sr sd ol sh : m_Rr} {b p i : Int32} {X : m_XT} {Y : m_YT} {fu : Nat}
theorem m_L36_s : m_L36 pn sz hk (fu + 1) X i = if (6 : Int32) ≤ i then some X else (f_X2_held hk i).bind fun r => (m_tC pn sz r X).bind fun X' => m_L36 pn sz hk fu X' (i + 1) := rfl
theorem m_L98_s : m_L98 pn sz rc ld b (fu + 1) X i = (f_X1_ropes rc b).bind fun r => if r ≤ i then some X else (f_X1_lead rc ld b i).bind fun r => (m_tC pn sz r X).bind fun X' => m_L98 pn sz rc ld b fu X' (i + 1) := rfl
theorem m_L59_s : m_L59 pn sz rc ld b (fu + 1) X i = (f_X1_ropes rc b).bind fun r => if r ≤ i then some X else (f_X4_has X.2.2.2.2.2.2.2.2.1 b).bind fun r => if ¬ (q_bz r) = 0 then some X else (f_X1_lead rc ld b i).bind fun r => (m_tC pn sz r X).bind fun X' => m_L59 pn sz rc ld b fu X' (i + 1) := rfl
theorem m_L83_s : m_L83 pn sz rc ld (fu + 1) X i = if (128 : Int32) ≤ i then some X else (f_X4_length X.2.2.2.2.2.2.1).bind fun r => if r ≤ i then some X else (f_X4_at X.2.2.2.2.2.2.1 X.2.2.2.2.2.2.2.1 i).bind fun r => (m_L98 pn sz rc ld r 4096 X 0).bind fun X' => m_L83 pn sz rc ld fu X' (i + 1) := rfl
theorem m_L48_s : m_L48 pn sz rc ld (fu + 1) X i = if pn 1 ≤ i then some X else (f_X2_loftBaleFrom X.2.2.1 X.2.2.2.2.1 X.2.2.2.2.2.1 i).bind fun r => (m_L59 pn sz rc ld r 4096 X 0).bind fun X' => m_L48 pn sz rc ld fu X' (i + 1) := rfl
theorem m_L4_s : m_L4 mp ss sr sd ol b (fu + 1) Y i = (q_ix b 136).bind fun j => if sr j ≤ i then some Y else (q_ix (3 * b + i) 408).bind fun j => (m_tR mp ss ol (sd j) Y).bind fun Y' => m_L4 mp ss sr sd ol b fu Y' (i + 1) := rfl
theorem m_L35_s : m_L35 mp sh ss ol (fu + 1) Y i = if mp 0 ≤ i then some Y else (q_ix i 6).bind fun j => (m_tR mp ss ol (sh j) Y).bind fun Y' => m_L35 mp sh ss ol fu Y' (i + 1) := rfl
theorem m_trs {o : Option m_YT} : (o.bind fun r => some (r.1, r.2.1, r.2.2.1, r.2.2.2.1, r.2.2.2.2.1, r.2.2.2.2.2.1, r.2.2.2.2.2.2.1, r.2.2.2.2.2.2.2)) = o := by cases o <;> rfl
theorem m_tR4 : f_X14_takeRopes Y.2.1 mp Y.2.2.1 Y.2.2.2.1 Y.2.2.2.2.1 Y.2.2.2.2.2.1 Y.2.2.2.2.2.2.1 ss sr Y.2.2.2.2.2.2.2 sd ol b Y.1 = m_L4 mp ss sr sd ol b 4096 Y 0 := m_trs
theorem m_L62_s : m_L62 mp ss sr sd ol p (fu + 1) Y i = if (136 : Int32) ≤ i then some Y else (q_ix i 136).bind fun j => if ¬ ol j = 2 then m_L62 mp ss sr sd ol p fu Y (i + 1) else (q_ix i 136).bind fun j => if ¬ Y.2.2.2.2.2.2.1 j = p then m_L62 mp ss sr sd ol p fu Y (i + 1) else (m_L4 mp ss sr sd ol i 4096 Y 0).bind fun Y' => m_L62 mp ss sr sd ol p fu Y' (i + 1) := by
  rw [← m_tR4]; rfl
theorem m_L54_s : m_L54 mp ss sr sd ol (fu + 1) Y i = if mp 2 ≤ i then some Y else (m_L62 mp ss sr sd ol i 4096 Y 0).bind fun Y' => m_L54 mp ss sr sd ol fu Y' (i + 1) := rfl
theorem m_L88_s : m_L88 mp ss sr sd ol (fu + 1) Y i = if Y.2.1 16 ≤ i then some Y.2 else (q_ix i 136).bind fun j => (m_L4 mp ss sr sd ol (Y.2.2.1 j) 4096 Y 0).bind fun Y' => m_L88 mp ss sr sd ol fu Y' (i + 1) := by
  have : ∀ j, m_L4 mp ss sr sd ol (Y.2.2.1 j) 4096 Y 0 = f_X14_takeRopes Y.2.1 mp Y.2.2.1 Y.2.2.2.1 Y.2.2.2.2.1 Y.2.2.2.2.2.1 Y.2.2.2.2.2.2.1 ss sr Y.2.2.2.2.2.2.2 sd ol (Y.2.2.1 j) Y.1 := fun j => m_tR4.symm
  simp only [this]; rfl
end
/-- in the middle of a copying; X0, Y0: where it began -/
def m_CT (m : Nat) (oly sz ss : m_Rr) (X0 : m_XT) (Y0 : m_YT) (l h : List Nat) (X : m_XT) (Y : m_YT) : Prop :=
  m_C m oly sz ss l h X.1 X.2.1 X.2.2.1 X.2.2.2.1 X.2.2.2.2.1 X.2.2.2.2.2.1 X.2.2.2.2.2.2.1 X.2.2.2.2.2.2.2.1 X.2.2.2.2.2.2.2.2.1 X.2.2.2.2.2.2.2.2.2 Y.2.1 Y.2.2.1 Y.2.2.2.1 Y.2.2.2.2.1 Y.2.2.2.2.2.1 Y.2.2.2.2.2.2.1 Y.2.2.2.2.2.2.2 ∧ Y.1 = m_tot sz h ∧
  (∀ j, j ≠ 7 → j ≠ 8 → j ≠ 13 → X.1 j = X0.1 j) ∧ (∀ j, j ≠ 4 → Y.2.2.2.2.1 j = Y0.2.2.2.2.1 j) ∧ (∀ j, j ≠ 2 → X.2.2.2.2.1 j = X0.2.2.2.2.1 j) ∧ (∀ j, j ≠ 2 → X.2.2.2.2.2.2.1 j = X0.2.2.2.2.2.2.1 j) ∧ (∀ j, j ≠ 16 → Y.2.1 j = Y0.2.1 j) ∧ (∀ b, ¬ oly b = 1 → X.2.2.1 b = X0.2.2.1 b) ∧ (∀ b, 128 ≤ b → Y.2.2.2.2.2.1 b = Y0.2.2.2.2.2.1 b)
/-- what a copying goes by -/
def m_TH (m : Nat) (oly sz ss pn mp ol : m_Rr) : Prop :=
  (∀ b, b < 128 → ol b = oly b) ∧ (∀ b, 128 ≤ b → b < 136 → ol b = 0) ∧ (∀ b, b < 128 → oly b = 1 → ∃ s, 1 ≤ s ∧ s ≤ 64 ∧ sz b = nI s ∧ ss b = nI s) ∧ (∀ t : List Nat, t.Nodup → (∀ x ∈ t, x < 128 ∧ oly x = 1) → t.length ≤ 64) ∧ pn 2 = mp 3 ∧ mp 2 = nI m ∧ pn 1 = nI m ∧ m ≤ 64
theorem m_takeT {m : Nat} {oly sz ss pn mp ol : m_Rr} (hH : m_TH m oly sz ss pn mp ol) {X0 X : m_XT} {Y0 Y : m_YT} {l h : List Nat} (hT : m_CT m oly sz ss X0 Y0 l h X Y) {c : Int32} (hc : c = -1 ∨ ∃ b, b < 128 ∧ c = nI b) :
    ∃ t h' X' Y', m_tC pn sz c X = some X' ∧ m_tR mp ss ol c Y = some Y' ∧ m_CT m oly sz ss X0 Y0 (l ++ t) h' X' Y' ∧ (∀ b, b < 128 → oly b = 1 → c = nI b → b ∈ l ++ t) := by
  obtain ⟨k1, k2, k3, k4, k5, k6, k7, k8⟩ := hH
  obtain ⟨h1, h2, h3, h4, h5, h6, h7, h8, h9⟩ := hT
  obtain ⟨l', h', bn', ly', pl', ag', lo', lr', li', nr', nd', rw', md', mq', mi', st', sw', sp', sa', a1, a2, a3, ⟨t, a4⟩, a5, a6, a7, a8, a9, b1, b2, b3⟩ := m_take h1 k1 k3 k4 k5 k6 hc
  subst a4
  refine ⟨t, h', (bn', ly', pl', ag', lo', lr', li', nr', nd', rw'), (m_tot sz h', md', mq', mi', st', sw', sp', sa'), a1, ?_, ⟨a3, rfl, fun j x y z => (a5 j x y z).trans (h3 j x y z), fun j x => (a6 j x).trans (h4 j x), fun j x => (a7 j x).trans (h5 j x), fun j x => (a8 j x).trans (h6 j x), fun j x => (a9 j x).trans (h7 j x), fun b x => (b1 b x).trans (h8 b x), fun b x => (b3 b x).trans (h9 b x)⟩, b2⟩
  unfold m_tR
  rw [h2]
  exact a2
/-- where ropes lead, on both sides -/
def m_TG (rc ld sr sd : m_Rr) : Prop := ∀ b, b < 128 → ∃ k, k ≤ 3 ∧ rc b = nI k ∧ sr b = nI k ∧ ∀ r, r < k → sd (3 * b + r) = ld (b * 3 + r) ∧ (ld (b * 3 + r) = -1 ∨ ∃ c, c < 128 ∧ ld (b * 3 + r) = nI c)
def m_all (oly rc ld : m_Rr) (l : List Nat) (b : Nat) : Prop := ∀ k, k ≤ 3 → rc b = nI k → ∀ r, r < k → ∀ c, c < 128 → oly c = 1 → ld (b * 3 + r) = nI c → c ∈ l
theorem m_ropesT {m : Nat} {oly sz ss pn mp ol rc ld sr sd : m_Rr} (hH : m_TH m oly sz ss pn mp ol) (hG : m_TG rc ld sr sd) {X0 : m_XT} {Y0 : m_YT} {b k : Nat} (hb : b < 128) (hk3 : k ≤ 3) (hk : rc b = nI k) : ∀ (n r : Nat) (l h : List Nat) (X : m_XT) (Y : m_YT) (fu fv : Nat), r + n = k → n < fu → n < fv → m_CT m oly sz ss X0 Y0 l h X Y →
    ∃ t h' X' Y', m_L98 pn sz rc ld (nI b) fu X (nI r) = some X' ∧ m_L4 mp ss sr sd ol (nI b) fv Y (nI r) = some Y' ∧ m_CT m oly sz ss X0 Y0 (l ++ t) h' X' Y' ∧ (∀ j, r ≤ j → j < k → ∀ c, c < 128 → oly c = 1 → ld (b * 3 + j) = nI c → c ∈ l ++ t) := by
  obtain ⟨k', hk3', hk', hsk, hl⟩ := hG b hb
  obtain rfl : k = k' := (nI_eq (by omega) (by omega)).mp (hk.symm.trans hk')
  intro n
  induction n with
  | zero =>
    intro r l h X Y fu fv hrn hfu hfv hT
    obtain rfl : r = k := by omega
    obtain ⟨fu, rfl⟩ : ∃ z, fu = z + 1 := ⟨fu - 1, by omega⟩
    obtain ⟨fv, rfl⟩ : ∃ z, fv = z + 1 := ⟨fv - 1, by omega⟩
    refine ⟨[], h, X, Y, ?_, ?_, by simpa using hT, fun j h1 h2 => by omega⟩
    · rw [m_L98_s, m_ropes hb, Option.bind_some, hk, if_pos (nI_le (Nat.le_refl _) (by omega))]
    · rw [m_L4_s, q_ix_nI (by omega) (by decide), Option.bind_some, hsk, if_pos (nI_le (Nat.le_refl _) (by omega))]
  | succ n ih =>
    intro r l h X Y fu fv hrn hfu hfv hT
    obtain ⟨fu, rfl⟩ : ∃ z, fu = z + 1 := ⟨fu - 1, by omega⟩
    obtain ⟨fv, rfl⟩ : ∃ z, fv = z + 1 := ⟨fv - 1, by omega⟩
    obtain ⟨hsd, hld⟩ := hl r (by omega)
    obtain ⟨t, h', X', Y', a1, a2, a3, a4⟩ := m_takeT hH hT hld
    obtain ⟨t2, h2, X2, Y2, b1, b2, b3, b4⟩ := ih (r + 1) _ _ X' Y' fu fv (by omega) (by omega) (by omega) a3
    refine ⟨t ++ t2, h2, X2, Y2, ?_, ?_, by rw [← List.append_assoc]; exact b3, fun j h1 h3 c hc ho e => ?_⟩
    · rw [m_L98_s, m_ropes hb, Option.bind_some, hk, if_neg (nI_ge (by omega) (by omega)), m_lead hb (by omega) hk hk3, Option.bind_some, if_pos (by omega), a1, Option.bind_some, nI_1, b1]
    · rw [m_L4_s, q_ix_nI (by omega) (by decide), Option.bind_some, hsk, if_neg (nI_ge (by omega) (by omega)), show (3 : Int32) * nI b + nI r = nI (3 * b + r) from by rw [show (3 : Int32) = nI 3 from rfl, pk_mul, nI_add], q_ix_nI (by omega) (by decide), Option.bind_some, hsd, a2, Option.bind_some, nI_1, b2]
    · rw [← List.append_assoc]
      by_cases hj : j = r
      · subst hj; exact List.mem_append.mpr (Or.inl (a4 c hc ho e))
      · exact b4 j (by omega) h3 c hc ho e
theorem m_CT_no {m : Nat} {oly sz ss : m_Rr} {X0 X : m_XT} {Y0 Y : m_YT} {l h : List Nat} (hT : m_CT m oly sz ss X0 Y0 l h X Y) {b : Nat} (hb : b < 128) (ho : ¬ oly b = 1) : X.2.2.2.2.2.2.2.2.1 b = -1 := by
  have hQ := hT.1.1
  have hL := hT.1.2.1
  exact Classical.not_not.mp (fun e => ho (hL.1 b ((hQ.2.2.2.2.2.1 b hb).mpr e)))
/-- the ropes of a bale of the loft: the class looks whether the line has it -/
theorem m_ropesL {m : Nat} {oly sz ss pn mp ol rc ld sr sd : m_Rr} (hH : m_TH m oly sz ss pn mp ol) (hG : m_TG rc ld sr sd) {X0 : m_XT} {Y0 : m_YT} {b k : Nat} (hb : b < 128) (ho : ¬ oly b = 1) (hk3 : k ≤ 3) (hk : rc b = nI k) : ∀ (n r : Nat) (l h : List Nat) (X : m_XT) (Y : m_YT) (fu fv : Nat), r + n = k → n < fu → n < fv → m_CT m oly sz ss X0 Y0 l h X Y →
    ∃ t h' X' Y', m_L59 pn sz rc ld (nI b) fu X (nI r) = some X' ∧ m_L4 mp ss sr sd ol (nI b) fv Y (nI r) = some Y' ∧ m_CT m oly sz ss X0 Y0 (l ++ t) h' X' Y' ∧ (∀ j, r ≤ j → j < k → ∀ c, c < 128 → oly c = 1 → ld (b * 3 + j) = nI c → c ∈ l ++ t) := by
  obtain ⟨k', hk3', hk', hsk, hl⟩ := hG b hb
  obtain rfl : k = k' := (nI_eq (by omega) (by omega)).mp (hk.symm.trans hk')
  intro n
  induction n with
  | zero =>
    intro r l h X Y fu fv hrn hfu hfv hT
    obtain rfl : r = k := by omega
    obtain ⟨fu, rfl⟩ : ∃ z, fu = z + 1 := ⟨fu - 1, by omega⟩
    obtain ⟨fv, rfl⟩ : ∃ z, fv = z + 1 := ⟨fv - 1, by omega⟩
    refine ⟨[], h, X, Y, ?_, ?_, by simpa using hT, fun j h1 h2 => by omega⟩
    · rw [m_L59_s, m_ropes hb, Option.bind_some, hk, if_pos (nI_le (Nat.le_refl _) (by omega))]
    · rw [m_L4_s, q_ix_nI (by omega) (by decide), Option.bind_some, hsk, if_pos (nI_le (Nat.le_refl _) (by omega))]
  | succ n ih =>
    intro r l h X Y fu fv hrn hfu hfv hT
    obtain ⟨fu, rfl⟩ : ∃ z, fu = z + 1 := ⟨fu - 1, by omega⟩
    obtain ⟨fv, rfl⟩ : ∃ z, fv = z + 1 := ⟨fv - 1, by omega⟩
    obtain ⟨hsd, hld⟩ := hl r (by omega)
    obtain ⟨t, h', X', Y', a1, a2, a3, a4⟩ := m_takeT hH hT hld
    obtain ⟨t2, h2, X2, Y2, b1, b2, b3, b4⟩ := ih (r + 1) _ _ X' Y' fu fv (by omega) (by omega) (by omega) a3
    refine ⟨t ++ t2, h2, X2, Y2, ?_, ?_, by rw [← List.append_assoc]; exact b3, fun j h1 h3 c hc ho e => ?_⟩
    · rw [m_L59_s, m_ropes hb, Option.bind_some, hk, if_neg (nI_ge (by omega) (by omega)), m_lhas hb, Option.bind_some, m_CT_no hT hb ho, if_neg (by decide), m_lead hb (by omega) hk hk3, Option.bind_some, if_pos (by omega), a1, Option.bind_some, nI_1, b1]
    · rw [m_L4_s, q_ix_nI (by omega) (by decide), Option.bind_some, hsk, if_neg (nI_ge (by omega) (by omega)), show (3 : Int32) * nI b + nI r = nI (3 * b + r) from by rw [show (3 : Int32) = nI 3 from rfl, pk_mul, nI_add], q_ix_nI (by omega) (by decide), Option.bind_some, hsd, a2, Option.bind_some, nI_1, b2]
    · rw [← List.append_assoc]
      by_cases hj : j = r
      · subst hj; exact List.mem_append.mpr (Or.inl (a4 c hc ho e))
      · exact b4 j (by omega) h3 c hc ho e
/-- the hooks -/
theorem m_hooksC {pn sz hk : m_Rr} {nh : Nat} (hn : ∀ i, nh ≤ i → i < 6 → hk i = -1) {X : m_XT} : ∀ (n i fu : Nat), i + n = 6 → n < fu → nh ≤ i → m_L36 pn sz hk fu X (nI i) = some X := by
  intro n
  induction n with
  | zero =>
    intro i fu hi hfu hni
    obtain rfl : i = 6 := by omega
    obtain ⟨fu, rfl⟩ : ∃ z, fu = z + 1 := ⟨fu - 1, by omega⟩
    rw [m_L36_s, if_pos (show (6 : Int32) ≤ nI 6 from nI_le (Nat.le_refl _) (by decide))]
  | succ n ih =>
    intro i fu hi hfu hni
    obtain ⟨fu, rfl⟩ : ∃ z, fu = z + 1 := ⟨fu - 1, by omega⟩
    have e : m_tC pn sz (-1) X = some X := m_tkc_1
    rw [m_L36_s, if_neg (show ¬ (6 : Int32) ≤ nI i from nI_ge (b := 6) (by omega) (by decide)), m_held (by omega), Option.bind_some, hn i hni (by omega), e, Option.bind_some, nI_1]
    exact ih (i + 1) fu (by omega) (by omega) (by omega)
theorem m_hooksT {m : Nat} {oly sz ss pn mp ol hk sh : m_Rr} (hH : m_TH m oly sz ss pn mp ol) {X0 : m_XT} {Y0 : m_YT} {G : Nat → Prop} (hG8 : ∀ b, G b → b < 128) {nh : Nat} (hK : m_H G nh hk sh) (hp : mp 0 = nI nh) : ∀ (n i : Nat) (l h : List Nat) (X : m_XT) (Y : m_YT) (fu fv : Nat), i + n = nh → 6 - i < fu → n < fv → m_CT m oly sz ss X0 Y0 l h X Y →
    ∃ t h' X' Y', m_L36 pn sz hk fu X (nI i) = some X' ∧ m_L35 mp sh ss ol fv Y (nI i) = some Y' ∧ m_CT m oly sz ss X0 Y0 (l ++ t) h' X' Y' ∧ (∀ j, i ≤ j → j < nh → ∀ c, c < 128 → oly c = 1 → hk j = nI c → c ∈ l ++ t) := by
  have h6 := hK.1
  intro n
  induction n with
  | zero =>
    intro i l h X Y fu fv hi hfu hfv hT
    obtain rfl : i = nh := by omega
    obtain ⟨fv, rfl⟩ : ∃ z, fv = z + 1 := ⟨fv - 1, by omega⟩
    refine ⟨[], h, X, Y, m_hooksC (nh := i) (fun j h1 h2 => (hK.2 j h2).2 h1) (6 - i) i fu (by omega) hfu (Nat.le_refl _), ?_, by simpa using hT, fun j h1 h2 => by omega⟩
    rw [m_L35_s, hp, if_pos (nI_le (Nat.le_refl _) (by omega))]
  | succ n ih =>
    intro i l h X Y fu fv hi hfu hfv hT
    obtain ⟨fu, rfl⟩ : ∃ z, fu = z + 1 := ⟨fu - 1, by omega⟩
    obtain ⟨fv, rfl⟩ : ∃ z, fv = z + 1 := ⟨fv - 1, by omega⟩
    obtain ⟨hs, hc⟩ := (hK.2 i (by omega)).1 (by omega)
    obtain ⟨t, h', X', Y', a1, a2, a3, a4⟩ := m_takeT hH hT (c := hk i) (hc.imp id (fun ⟨c, x, y⟩ => ⟨c, hG8 c x, y⟩))
    obtain ⟨t2, h2, X2, Y2, b1, b2, b3, b4⟩ := ih (i + 1) _ _ X' Y' fu fv (by omega) (by omega) (by omega) a3
    refine ⟨t ++ t2, h2, X2, Y2, ?_, ?_, by rw [← List.append_assoc]; exact b3, fun j h1 h3 c hc ho e => ?_⟩
    · rw [m_L36_s, if_neg (show ¬ (6 : Int32) ≤ nI i from nI_ge (b := 6) (by omega) (by decide)), m_held (by omega), Option.bind_some, a1, Option.bind_some, nI_1, b1]
    · rw [m_L35_s, hp, if_neg (nI_ge (by omega) (by omega)), q_ix_nI (by omega) (by decide), Option.bind_some, ← hs, a2, Option.bind_some, nI_1, b2]
    · rw [← List.append_assoc]
      by_cases hj : j = i
      · rw [hj] at e; exact List.mem_append.mpr (Or.inl (a4 c hc ho e))
      · exact b4 j (by omega) h3 c hc ho e
/-- one behind the other, those that were taken over -/
theorem m_queueT {m : Nat} {oly sz ss pn mp ol rc ld sr sd : m_Rr} (hH : m_TH m oly sz ss pn mp ol) (hG : m_TG rc ld sr sd) {X0 : m_XT} {Y0 : m_YT} : ∀ (n i : Nat) (l h : List Nat) (X : m_XT) (Y : m_YT) (fu fv : Nat), i + n = 128 → n < fu → n < fv → i ≤ l.length → m_CT m oly sz ss X0 Y0 l h X Y →
    ∃ t h' X' Y', m_L83 pn sz rc ld fu X (nI i) = some X' ∧ m_L88 mp ss sr sd ol fv Y (nI i) = some Y'.2 ∧ m_CT m oly sz ss X0 Y0 (l ++ t) h' X' Y' ∧ (∀ (j b : Nat), i ≤ j → (l ++ t)[j]? = some b → m_all oly rc ld (l ++ t) b) := by
  intro n
  induction n with
  | zero =>
    intro i l h X Y fu fv hin hfu hfv hil hT
    obtain rfl : i = 128 := by omega
    obtain ⟨fu, rfl⟩ : ∃ z, fu = z + 1 := ⟨fu - 1, by omega⟩
    obtain ⟨fv, rfl⟩ : ∃ z, fv = z + 1 := ⟨fv - 1, by omega⟩
    have hlen := m_Q_len hT.1.1
    refine ⟨[], h, X, Y, ?_, ?_, by simpa using hT, fun j b h1 h2 => ?_⟩
    · rw [m_L83_s, if_pos (show (128 : Int32) ≤ nI 128 from nI_le (Nat.le_refl _) (by decide))]
    · rw [m_L88_s, hT.1.1.2.1, if_pos (nI_le hlen (by decide))]
    · have h9 := (List.getElem?_eq_some_iff.mp h2).1
      simp at h9
      omega
  | succ n ih =>
    intro i l h X Y fu fv hin hfu hfv hil hT
    obtain ⟨fu, rfl⟩ : ∃ z, fu = z + 1 := ⟨fu - 1, by omega⟩
    obtain ⟨fv, rfl⟩ : ∃ z, fv = z + 1 := ⟨fv - 1, by omega⟩
    have hQ := hT.1.1
    have hlen := m_Q_len hQ
    by_cases he : i = l.length
    · refine ⟨[], h, X, Y, ?_, ?_, by simpa using hT, fun j b h1 h2 => ?_⟩
      · rw [m_L83_s, if_neg (show ¬ (128 : Int32) ≤ nI i from nI_ge (b := 128) (by omega) (by decide)), f_X4_length, Option.bind_some, hQ.1, if_pos (nI_le (by omega) (by omega))]
      · rw [m_L88_s, hQ.2.1, if_pos (nI_le (by omega) (by omega))]
      · have h9 := (List.getElem?_eq_some_iff.mp h2).1
        simp at h9
        omega
    · have hlt : i < l.length := by omega
      obtain ⟨b, hb⟩ : ∃ b, l[i]? = some b := ⟨l[i], List.getElem?_eq_getElem hlt⟩
      have hb8 := hQ.2.2.2.1 b (List.mem_of_getElem? hb)
      obtain ⟨k, hk3, hk, -⟩ := hG b hb8
      obtain ⟨t, h', X', Y', a1, a2, a3, a4⟩ := m_ropesT hH hG hb8 hk3 hk k 0 l h X Y 4096 4096 (by omega) (by omega) (by omega) hT
      obtain ⟨t2, h2, X2, Y2, b1, b2, b3, b4⟩ := ih (i + 1) _ _ X' Y' fu fv (by omega) (by omega) (by omega) (by simp; omega) a3
      refine ⟨t ++ t2, h2, X2, Y2, ?_, ?_, by rw [← List.append_assoc]; exact b3, fun j c h1 h3 => ?_⟩
      · rw [m_L83_s, if_neg (show ¬ (128 : Int32) ≤ nI i from nI_ge (b := 128) (by omega) (by decide)), f_X4_length, Option.bind_some, hQ.1, if_neg (nI_ge hlt (by omega)), m_lat hQ.1 hlen hlt, Option.bind_some, (hQ.2.2.2.2.1 i b hb).1, show (0 : Int32) = nI 0 from rfl, a1, Option.bind_some, nI_1, b1]
      · rw [m_L88_s, hQ.2.1, if_neg (nI_ge hlt (by omega)), q_ix_nI (by omega) (by decide), Option.bind_some, (hQ.2.2.2.2.1 i b hb).2, show (0 : Int32) = nI 0 from rfl, a2, Option.bind_some, nI_1, b2]
      · rw [← List.append_assoc] at h3 ⊢
        by_cases hj : j = i
        · subst hj
          have e : (l ++ t ++ t2)[j]? = some b := by rw [List.getElem?_append_left (by simp; omega), List.getElem?_append_left hlt]; exact hb
          obtain rfl : b = c := by rw [e] at h3; exact Option.some.inj h3
          intro k' x1 x2 r x3 d x4 x5 x6
          obtain rfl : k = k' := (nI_eq (by omega) (by omega)).mp (hk.symm.trans x2)
          exact List.mem_append.mpr (Or.inl (a4 r (by omega) x3 d x4 x5 x6))
        · exact b4 j c (by omega) h3
/-- the loft: the bales that were in it, by their places -/
theorem m_loftNo {mp ss sr sd ol : m_Rr} {p : Nat} {Y : m_YT} : ∀ (n i fu : Nat), i + n = 136 → n < fu → (∀ c, i ≤ c → c < 136 → ol c = 2 → ¬ Y.2.2.2.2.2.2.1 c = nI p) → m_L62 mp ss sr sd ol (nI p) fu Y (nI i) = some Y := by
  intro n
  induction n with
  | zero =>
    intro i fu hi hfu hno
    obtain rfl : i = 136 := by omega
    obtain ⟨fu, rfl⟩ : ∃ z, fu = z + 1 := ⟨fu - 1, by omega⟩
    rw [m_L62_s, if_pos (show (136 : Int32) ≤ nI 136 from nI_le (Nat.le_refl _) (by decide))]
  | succ n ih =>
    intro i fu hi hfu hno
    obtain ⟨fu, rfl⟩ : ∃ z, fu = z + 1 := ⟨fu - 1, by omega⟩
    rw [m_L62_s, if_neg (show ¬ (136 : Int32) ≤ nI i from nI_ge (b := 136) (by omega) (by decide)), q_ix_nI (by omega) (by decide), Option.bind_some, Option.bind_some, nI_1]
    have e := ih (i + 1) fu (by omega) (by omega) (fun c h1 h2 => hno c (by omega) h2)
    by_cases ho : ol i = 2
    · rw [if_neg (fun h2 => h2 ho), if_pos (hno i (Nat.le_refl _) (by omega) ho)]; exact e
    · rw [if_pos ho]; exact e
theorem m_loftYes {mp ss sr sd ol : m_Rr} {p b : Nat} (hb : b < 136) (ho : ol b = 2) {Y Y' : m_YT} (hp : Y.2.2.2.2.2.2.1 b = nI p) (hY : m_L4 mp ss sr sd ol (nI b) 4096 Y 0 = some Y') (hno : ∀ c, c < 136 → c ≠ b → ol c = 2 → ¬ Y.2.2.2.2.2.2.1 c = nI p) (hno' : ∀ c, c < 136 → c ≠ b → ol c = 2 → ¬ Y'.2.2.2.2.2.2.1 c = nI p) : ∀ (n i fu : Nat), i + n = 136 → n < fu → i ≤ b → m_L62 mp ss sr sd ol (nI p) fu Y (nI i) = some Y' := by
  intro n
  induction n with
  | zero => intro i fu hi hfu hib; omega
  | succ n ih =>
    intro i fu hi hfu hib
    obtain ⟨fu, rfl⟩ : ∃ z, fu = z + 1 := ⟨fu - 1, by omega⟩
    rw [m_L62_s, if_neg (show ¬ (136 : Int32) ≤ nI i from nI_ge (b := 136) (by omega) (by decide)), q_ix_nI (by omega) (by decide), Option.bind_some, Option.bind_some, nI_1]
    by_cases hib2 : i = b
    · subst hib2
      rw [if_neg (fun h2 => h2 ho), if_neg (fun h2 => h2 hp), hY, Option.bind_some]
      exact m_loftNo n (i + 1) fu (by omega) (by omega) (fun c h1 h2 h3 => hno' c h2 (by omega) h3)
    · have e := ih (i + 1) fu (by omega) (by omega) (by omega)
      by_cases ho : ol i = 2
      · rw [if_neg (fun h2 => h2 ho), if_pos (hno i (by omega) hib2 ho)]; exact e
      · rw [if_pos ho]; exact e
theorem m_loftT {m : Nat} {oly sz ss pn mp ol rc ld sr sd : m_Rr} (hH : m_TH m oly sz ss pn mp ol) (hG : m_TG rc ld sr sd) {X0 : m_XT} {Y0 : m_YT} : ∀ (n p : Nat) (l h : List Nat) (X : m_XT) (Y : m_YT) (fu fv : Nat), p + n = m → n < fu → n < fv → m_CT m oly sz ss X0 Y0 l h X Y →
    ∃ t h' X' Y', m_L48 pn sz rc ld fu X (nI p) = some X' ∧ m_L54 mp ss sr sd ol fv Y (nI p) = some Y' ∧ m_CT m oly sz ss X0 Y0 (l ++ t) h' X' Y' ∧ (∀ b, b < 128 → oly b = 2 → ∀ q, p ≤ q → q < m → X0.2.2.1 b = nI q → m_all oly rc ld (l ++ t) b) := by
  obtain ⟨k1, k2, k3, k4, k5, k6, k7, k8⟩ := id hH
  intro n
  induction n with
  | zero =>
    intro p l h X Y fu fv hpn hfu hfv hT
    obtain ⟨fu, rfl⟩ : ∃ z, fu = z + 1 := ⟨fu - 1, by omega⟩
    obtain ⟨fv, rfl⟩ : ∃ z, fv = z + 1 := ⟨fv - 1, by omega⟩
    refine ⟨[], h, X, Y, ?_, ?_, by simpa using hT, fun b hb ho q h1 h2 => by omega⟩
    · rw [m_L48_s, k7, if_pos (nI_le (by omega) (by omega))]
    · rw [m_L54_s, k6, if_pos (nI_le (by omega) (by omega))]
  | succ n ih =>
    intro p l h X Y fu fv hpn hfu hfv hT
    obtain ⟨fu, rfl⟩ : ∃ z, fu = z + 1 := ⟨fu - 1, by omega⟩
    obtain ⟨fv, rfl⟩ : ∃ z, fv = z + 1 := ⟨fv - 1, by omega⟩
    obtain ⟨hQ, hLy, hps, -, -, hLf, hlo1, -⟩ := id hT.1
    have hpl := hT.2.2.2.2.2.2.2.1
    /- a bale of the old loft with this place is what the cell names -/
    have cell : ∀ c, c < 136 → ol c = 2 → Y.2.2.2.2.2.2.1 c = nI p → c < 128 ∧ oly c = 2 ∧ X.2.2.2.2.2.1 p = nI c := fun c hc ho hsp => by
      have hc8 : c < 128 := by
        rcases Nat.lt_or_ge c 128 with h1 | h1
        · exact h1
        · rw [k2 c h1 hc] at ho; exact absurd ho (by decide)
      have ho2 : oly c = 2 := (k1 c hc8).symm.trans ho
      have hsw := (hLy.2 c hc8).2.2.1 (by rw [ho2]; decide)
      obtain ⟨p', s', b1, b2, b3, b4, b5⟩ := hLf.2.1 c hc (hsw.trans ho2)
      obtain rfl : p' = p := (nI_eq (by omega) (by omega)).mp (b1.symm.trans hsp)
      exact ⟨hc8, ho2, b5 _ (Nat.le_refl _) (by omega)⟩
    have go : ∀ t h' X' Y' r, f_X2_loftBaleFrom X.2.2.1 X.2.2.2.2.1 X.2.2.2.2.2.1 (nI p) = some r → m_L59 pn sz rc ld r 4096 X 0 = some X' → m_L62 mp ss sr sd ol (nI p) 4096 Y 0 = some Y' → m_CT m oly sz ss X0 Y0 (l ++ t) h' X' Y' → (∀ b, b < 128 → oly b = 2 → X0.2.2.1 b = nI p → m_all oly rc ld (l ++ t) b) →
        ∃ t h' X' Y', m_L48 pn sz rc ld (fu + 1) X (nI p) = some X' ∧ m_L54 mp ss sr sd ol (fv + 1) Y (nI p) = some Y' ∧ m_CT m oly sz ss X0 Y0 (l ++ t) h' X' Y' ∧ (∀ b, b < 128 → oly b = 2 → ∀ q, p ≤ q → q < m → X0.2.2.1 b = nI q → m_all oly rc ld (l ++ t) b) := by
      intro t h' X' Y' r e1 e2 e3 e4 e5
      obtain ⟨t2, h2, X2, Y2, b1, b2, b3, b4⟩ := ih (p + 1) _ _ X' Y' fu fv (by omega) (by omega) (by omega) e4
      refine ⟨t ++ t2, h2, X2, Y2, ?_, ?_, by rw [← List.append_assoc]; exact b3, fun b hb ho q h1 h2 hq => ?_⟩
      · rw [m_L48_s, k7, if_neg (nI_ge (by omega) (by omega)), e1, Option.bind_some, e2, Option.bind_some, nI_1, b1]
      · rw [m_L54_s, k6, if_neg (nI_ge (by omega) (by omega)), e3, Option.bind_some, nI_1, b2]
      · rw [← List.append_assoc]
        by_cases hqp : q = p
        · subst hqp
          intro k x1 x2 r x3 d x4 x5 x6
          exact List.mem_append.mpr (Or.inl (e5 b hb ho hq k x1 x2 r x3 d x4 x5 x6))
        · exact b4 b hb ho q (by omega) h2 hq
    /- no bale begins here: nothing happens -/
    have none : ∀ r, f_X2_loftBaleFrom X.2.2.1 X.2.2.2.2.1 X.2.2.2.2.2.1 (nI p) = some r → m_L59 pn sz rc ld r 4096 X 0 = some X → (∀ c, c < 136 → ol c = 2 → ¬ Y.2.2.2.2.2.2.1 c = nI p) → ∃ t h' X' Y', m_L48 pn sz rc ld (fu + 1) X (nI p) = some X' ∧ m_L54 mp ss sr sd ol (fv + 1) Y (nI p) = some Y' ∧ m_CT m oly sz ss X0 Y0 (l ++ t) h' X' Y' ∧ (∀ b, b < 128 → oly b = 2 → ∀ q, p ≤ q → q < m → X0.2.2.1 b = nI q → m_all oly rc ld (l ++ t) b) := by
      intro r e1 e2 hno
      refine go [] h X Y r e1 e2 (m_loftNo 136 0 4096 (by omega) (by omega) (fun c _ h2 h3 => hno c h2 h3)) (by simpa using hT) (fun b hb ho hq => ?_)
      refine absurd ?_ (hno b (by omega) ((k1 b hb).trans ho))
      rw [(hps b hb).1, hpl b (by rw [ho]; decide)]; exact hq
    have e59 : m_L59 pn sz rc ld (-1) 4096 X 0 = some X := by
      rw [show (4096 : Nat) = 4095 + 1 from rfl, m_L59_s, m_ropes1, Option.bind_some, if_pos (by decide)]
    have eat : f_X5_at X.2.2.2.2.1 X.2.2.2.2.2.1 (nI p) = some (X.2.2.2.2.2.1 p) := m_loftAt hlo1 k8 (by omega)
    rcases hLf.2.2 p (by omega) with hm | ⟨b, hb, hsw, hm, p', s', hp', hs', -, hpp, -⟩
    · refine none (-1) ?_ e59 (fun c hc ho hsp => ?_)
      · unfold f_X2_loftBaleFrom
        rw [eat, Option.bind_some, if_pos hm]
      · have := (cell c hc ho hsp).2.2
        exact m_nI_m1 (by omega) (this.symm.trans hm)
    · have ebl : f_X2_loftBaleFrom X.2.2.1 X.2.2.2.2.1 X.2.2.2.2.2.1 (nI p) = some (if p' = p then nI b else -1) := by
        unfold f_X2_loftBaleFrom
        rw [eat, Option.bind_some, hm, if_neg (m_nI_m1 (by omega)), m_place hb, Option.bind_some, ← (hps b hb).1, hp']
        by_cases e : p' = p
        · rw [e, if_neg (fun h2 => h2 rfl), if_pos rfl]
        · rw [if_pos (fun h2 => e ((nI_eq (by omega) (by omega)).mp h2)), if_neg e]
      by_cases e : p' = p
      · subst e
        rw [if_pos rfl] at ebl
        obtain ⟨k, hk3, hk, -⟩ := hG b hb
        by_cases hbl : b ∈ l
        · refine none (nI b) ebl ?_ (fun c hc ho hsp => ?_)
          · rw [show (4096 : Nat) = 4095 + 1 from rfl, m_L59_s, m_ropes hb, Option.bind_some]
            by_cases hk0 : rc b ≤ 0
            · rw [if_pos hk0]
            · rw [if_neg hk0, m_lhas hb, Option.bind_some, if_pos]
              have := (hQ.2.2.2.2.2.1 b hb).mp hbl
              simp only [this, not_false_eq_true, decide_true]
              decide
          · obtain ⟨c1, c2, c3⟩ := cell c hc ho hsp
            obtain rfl : c = b := (nI_eq (by omega) (by omega)).mp (c3.symm.trans hm)
            have := hLy.1 c hbl
            rw [c2] at this
            exact absurd this (by decide)
        · have ho1 : ¬ oly b = 1 := fun ho => by
            have := (hLy.2 b hb).2.2.2.1 ho hbl
            rw [hsw] at this
            exact absurd this (by decide)
          have ho2 : oly b = 2 := ((hLy.2 b hb).2.2.1 ho1).symm.trans hsw
          obtain ⟨t, h', X', Y', a1, a2, a3, a4⟩ := m_ropesL hH hG hb ho1 hk3 hk k 0 l h X Y 4096 4096 (by omega) (by omega) (by omega) hT
          have only : ∀ c, c < 136 → c ≠ b → ol c = 2 → ¬ Y.2.2.2.2.2.2.1 c = nI p' := fun c hc hcb ho hsp => by
            obtain ⟨c1, c2, c3⟩ := cell c hc ho hsp
            exact hcb ((nI_eq (by omega) (by omega)).mp (c3.symm.trans hm))
          refine go t h' X' Y' (nI b) ebl a1 (m_loftYes (b := b) (by omega) ((k1 b hb).trans ho2) hp' a2 only (fun c hc hcb ho hsp => ?_) 136 0 4096 (by omega) (by omega) (by omega)) a3 (fun c hc ho hq => ?_)
          · have hc8 : c < 128 := by
              rcases Nat.lt_or_ge c 128 with h1 | h1
              · exact h1
              · rw [k2 c h1 hc] at ho; exact absurd ho (by decide)
            have ho3 : oly c = 2 := (k1 c hc8).symm.trans ho
            refine only c hc hcb ho ?_
            rw [(hps c hc8).1, hpl c (by rw [ho3]; decide), ← a3.2.2.2.2.2.2.2.1 c (by rw [ho3]; decide), ← (a3.1.2.2.1 c hc8).1]
            exact hsp
          · have hsp : Y.2.2.2.2.2.2.1 c = nI p' := by rw [(hps c hc).1, hpl c (by rw [ho]; decide)]; exact hq
            obtain ⟨c1, c2, c3⟩ := cell c (by omega) ((k1 c hc).trans ho) hsp
            obtain rfl : c = b := (nI_eq (by omega) (by omega)).mp (c3.symm.trans hm)
            intro k' x1 x2 r x3 d x4 x5 x6
            obtain rfl : k = k' := (nI_eq (by omega) (by omega)).mp (hk.symm.trans x2)
            exact a4 r (by omega) x3 d x4 x5 x6
      · rw [if_neg e] at ebl
        refine none (-1) ebl e59 (fun c hc ho hsp => ?_)
        obtain ⟨c1, c2, c3⟩ := cell c hc ho hsp
        obtain rfl : c = b := (nI_eq (by omega) (by omega)).mp (c3.symm.trans hm)
        exact e ((nI_eq (by omega) (by omega)).mp (hp'.symm.trans hsp))
