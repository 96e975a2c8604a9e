/-! CONTRACTS of the law's barn, ten: a step is done; work -/
section ZDONE
variable {g : q_G} {d : Nat} {h : q_H} {s v c up : Nat} {hl ll : List Nat} {hk : List (Option Nat)} {B : Nat}
def z_untie (h : q_H) (hk : List (Option Nat)) (i : Nat) (r : Int32) : Int32 × q_H := match z_ro h hk i r with
  | some (x, j) => (1, q_pR h (z_ra h x) j none)
  | none => (0, h)
def z_drop (h : q_H) (s : Nat) (o : Option Nat) (i : Nat) : Int32 × q_H := (match o with
  | some _ => 1
  | none => 0, q_pR h (z_ha h s) i none)
theorem z_tie_01 {i t : Nat} {r y : Int32} {h' : q_H} (e : (y, h') = z_tie h hk i t r) : y = 0 ∨ y = 1 := by
  unfold z_tie at e
  split at e
  · exact Or.inr (congrArg Prod.fst e)
  · exact Or.inl (congrArg Prod.fst e)
theorem z_follow_01 {i f : Nat} {r y : Int32} {h' : q_H} (e : (y, h') = z_follow h s hk i f r) : y = 0 ∨ y = 1 := by
  unfold z_follow at e
  split at e
  · split at e
    · exact Or.inr (congrArg Prod.fst e)
    · exact Or.inl (congrArg Prod.fst e)
  · exact Or.inl (congrArg Prod.fst e)
theorem z_mkR_01 {h' : q_H} {i L : Nat} {size y : Int32} {σ : z_St} (e : z_mkR h h' s c hl ll hk up i size L y σ) : y = 0 ∨ y = 1 := by
  rcases e with ⟨-, e, -⟩ | ⟨-, h1, -, ⟨-, e, -⟩ | ⟨-, e, -⟩⟩
  · exact Or.inr e
  · exact Or.inr e
  · exact Or.inl e
theorem z_nar01 {y : Int32} (h : y = 0 ∨ y = 1) : narrow .boolean (.int y) = .int y := by
  rcases h with h | h
  · subst h; rfl
  · subst h; rfl
/-- what doing a step answers and leaves -/
def z_doneR (h h' : q_H) (s v c : Nat) (hl ll : List Nat) (hk : List (Option Nat)) (up i1 i2 L : Nat) (o1 o2 : Option Nat) (y : Int32) (σ : z_St) : Prop :=
  ((q_I h v 0).toInt = 0 ∧ z_mkR h h' s c hl ll hk up i1 (q_max 1 (q_min 9 (z_sumV (q_I h) s v o2))) L y σ) ∨
  ((q_I h v 0).toInt = 1 ∧ (y, h') = z_tie h hk i1 i2 (q_I h v 3)) ∨
  ((q_I h v 0).toInt = 2 ∧ (y, h') = z_untie h hk i1 (q_I h v 3)) ∨
  ((q_I h v 0).toInt = 3 ∧ (y, h') = z_follow h s hk i1 i2 (q_I h v 3)) ∨
  (((q_I h v 0).toInt < 0 ∨ 3 < (q_I h v 0).toInt) ∧ (y, h') = z_drop h s o1 i1)
theorem z_doneR_01 {h' : q_H} {i1 i2 L : Nat} {o1 o2 : Option Nat} {y : Int32} {σ : z_St} (e : z_doneR h h' s v c hl ll hk up i1 i2 L o1 o2 y σ) : y = 0 ∨ y = 1 := by
  rcases e with ⟨-, e⟩ | ⟨-, e⟩ | ⟨-, e⟩ | ⟨-, e⟩ | ⟨-, e⟩
  · exact z_mkR_01 e
  · exact z_tie_01 e
  · unfold z_untie at e
    split at e
    · exact Or.inr (congrArg Prod.fst e)
    · exact Or.inl (congrArg Prod.fst e)
  · exact z_follow_01 e
  · cases o1 with
    | none => exact Or.inl (congrArg Prod.fst e)
    | some x => exact Or.inr (congrArg Prod.fst e)
set_option maxHeartbeats 1000000 in
theorem z_doneC {i1 i2 L : Nat} {o1 o2 : Option Nat} {σ : z_St} (hd : 6 ≤ d) (hd2 : d < 2048) (hO : z_OK h s hl ll hk up) (hc : q_R h s 2 = some c) (hv : z_Own h v) (h1 : q_I h v 1 = nI i1) (ho1 : hk[i1]? = some o1) (h2 : q_I h v 2 = nI i2) (ho2 : hk[i2]? = some o2) (h3 : q_I h v 3 = nI L) (hL : q_s16 L) (hB : (hl ++ ll).length ≤ B) (hupB : up ≤ B) (hBs : q_s16 (B + 1)) (hσ : σ = z_copy (z_rp h) up (q_I h s 5) hl ll hk (q_I h) (q_I h s 11)) :
    q_Ct g m_X14_isDone d (5 + 3 * hl.length) (3 * B * hl.length + (6 + L + B)) [] [.ref s, .ref v] h (fun o h' => ∃ y, o = .inl (some (.int y)) ∧ z_doneR h h' s v c hl ll hk up i1 i2 L o1 o2 y σ) := by
  obtain ⟨p1, p2, p3, p4, p5, p6, p7, p8, p9⟩ := id hO
  obtain ⟨⟨s1, s2⟩, s3, -, -, ⟨c', c1, c2⟩⟩ := id p1
  obtain rfl : c' = c := Option.some.inj (c1.symm.trans hc)
  have hi1 : i1 < hk.length := (List.getElem?_eq_some_iff.mp ho1).1
  have hi2 : i2 < hk.length := (List.getElem?_eq_some_iff.mp ho2).1
  have hR1 := c2.2.2.2 i1 o1 ho1
  have hU2 : ∀ x, o2 = some x → z_Bal h x := fun x e => (p2 x (p4 x (by rw [← e]; exact List.mem_of_getElem? ho2))).1
  have hs : 400 ≤ s ∧ q_sh h s = (0, 12, 0) := ⟨z_4 s1, s3⟩
  have hw : ∀ j, j < 9 → 400 ≤ v ∧ q_sh h v = (1, 0, 9) ∧ j < 9 ∧ q_s16 9 := fun j hj => ⟨z_4 hv.1.1, hv.2, hj, by decide⟩
  have hrow : 400 ≤ c' ∧ q_sh h c' = (3, 6, hk.length) ∧ i1 < hk.length ∧ q_s16 hk.length := ⟨z_4 c2.1.1, c2.2.1, hi1, c2.2.2.1⟩
  have hha : z_ha h s = c' := by unfold z_ha; rw [c1]; rfl
  refine q_CtK ok_X14_isDone (by omega) (Nat.le_of_ble_eq_true rfl) ?_ _ rfl rfl
  refine w_X14_isDone_0 (by omega) ⟨0, 9, rfl, hw 0 (by decide), ⟨fun e => ⟨1, 9, rfl, hw 1 (by decide), hs, ?_⟩, fun e => ⟨1, 9, rfl, hw 1 (by decide), 3, 9, rfl, hw 3 (by decide), 2, 9, rfl, hw 2 (by decide), hs, ?_⟩, fun e => ⟨1, 9, rfl, hw 1 (by decide), 3, 9, rfl, hw 3 (by decide), hs, ?_⟩, fun e => ⟨1, 9, rfl, hw 1 (by decide), 2, 9, rfl, hw 2 (by decide), 3, 9, rfl, hw 3 (by decide), hs, ?_⟩, trivial⟩, fun e => ⟨hs, c', c1, 1, 9, rfl, hw 1 (by decide), i1, hk.length, h1, hrow, fun x hx => ⟨hs, c', c1, 1, 9, rfl, hw 1 (by decide), i1, hk.length, h1, hrow, rfl, ⟨by omega, by omega⟩, 1, rfl, ?_⟩, fun hn => ⟨hs, c', c1, 1, 9, rfl, hw 1 (by decide), i1, hk.length, h1, hrow, rfl, ⟨by omega, by omega⟩, 0, rfl, ?_⟩⟩⟩
  · refine q_cI_of (fun y h' => y = z_sumV (q_I h) s v o2 ∧ h' = h) (z_sumC (d := d - 1) (by omega) (by omega) p1 hv h2 ho2 hU2) (by omega) (q_lcle (by omega) (by omega)) (by omega) (by omega) trivial (fun y h4 hp => ?_)
    obtain ⟨q1, q2⟩ := hp
    subst q1 q2
    refine ⟨⟨by omega, by omega⟩, ⟨by omega, by omega⟩, 3, 9, rfl, hw 3 (by decide), hs, ?_⟩
    rw [h1, h3]
    refine q_cI_of (fun y h' => z_mkR h4 h' s c' hl ll hk up i1 (q_max 1 (q_min 9 (z_sumV (q_I h4) s v o2))) L y σ) (z_makeC (d := d - 1) (B := B) (by omega) (by omega) hO c1 hi1 hL hB hupB hBs hσ) (by omega) (q_lcle (by omega) (by omega)) (by omega) (by omega) trivial (fun y h5 hp => ?_)
    exact ⟨z_nar01 (z_mkR_01 hp), ⟨by omega, by omega⟩, y, rfl, Or.inl ⟨e, hp⟩⟩
  · have e' : (q_I h v 0).toInt = 1 := e
    rw [h1, h2]
    refine q_cI_of (fun y h' => (y, h') = z_tie h hk i1 i2 (q_I h v 3)) (z_tieC (d := d - 1) (by omega) (by omega) p1 p2 p4 hi1 hi2) (by omega) (q_lcle (by omega) (by omega)) (by omega) (by omega) trivial (fun y h5 hp => ?_)
    exact ⟨z_nar01 (z_tie_01 hp), ⟨by omega, by omega⟩, y, rfl, Or.inr (Or.inl ⟨e', hp⟩)⟩
  · have e' : (q_I h v 0).toInt = 2 := e
    rw [h1]
    refine q_cI_of (fun y h' => y = (if (z_ro h hk i1 (q_I h v 3)).isSome then 1 else 0) ∧ h' = h) (z_hasRopeC (d := d - 1) (by omega) (by omega) p1 p2 p4 hi1) (by omega) (q_lcle (by omega) (by omega)) (by omega) (by omega) trivial (fun y h5 hp => ?_)
    obtain ⟨q1, q2⟩ := hp
    subst q2
    cases hro : z_ro h5 hk i1 (q_I h5 v 3) with
    | none =>
      rw [hro] at q1
      subst q1
      refine ⟨fun h0 => absurd rfl h0, fun _ => ⟨rfl, ⟨by omega, by omega⟩, 0, rfl, Or.inr (Or.inr (Or.inl ⟨e', ?_⟩))⟩⟩
      unfold z_untie; rw [hro]
    | some xj =>
      obtain ⟨x, j⟩ := xj
      rw [hro] at q1
      have q1 : y = 1 := q1
      subst q1
      obtain ⟨hix, hU, hr, hj⟩ := z_ro_some p2 p4 hro
      obtain ⟨xb, ⟨r1, r2, r3, r4⟩, -⟩ := p2 x hU
      refine ⟨fun _ => ⟨hs, c', c1, 1, 9, rfl, hw 1 (by decide), i1, hk.length, h1, hrow, x, c2.2.2.2 i1 _ hix, ⟨z_4 xb.1.1, xb.2⟩, z_ra h5 x, r1, 3, 9, rfl, hw 3 (by decide), j, z_rl h5 x, hr, ⟨z_4 r2.1, r3, hj, by show z_rl h5 x < 65536; omega⟩, rfl, ⟨by omega, by omega⟩, 1, rfl, Or.inr (Or.inr (Or.inl ⟨e', ?_⟩))⟩, fun h0 => absurd h0 (by decide)⟩
      unfold z_untie; rw [hro]
  · have e' : (q_I h v 0).toInt = 3 := e
    rw [h1, h2]
    refine q_cI_of (fun y h' => (y, h') = z_follow h s hk i1 i2 (q_I h v 3)) (z_followC (d := d - 1) (by omega) (by omega) p1 p2 p4 hi1 hi2) (by omega) (q_lcle (by omega) (by omega)) (by omega) (by omega) trivial (fun y h5 hp => ?_)
    exact ⟨z_nar01 (z_follow_01 hp), ⟨by omega, by omega⟩, y, rfl, Or.inr (Or.inr (Or.inr (Or.inl ⟨e', hp⟩)))⟩
  · refine Or.inr (Or.inr (Or.inr (Or.inr ⟨e, ?_⟩)))
    have ho : o1 = some x := hR1.symm.trans hx
    unfold z_drop
    rw [ho, hha]
  · refine Or.inr (Or.inr (Or.inr (Or.inr ⟨e, ?_⟩)))
    have ho : o1 = none := hR1.symm.trans hn
    unfold z_drop
    rw [ho, hha]
/-- a step has gone by: r more were refused -/
def z_aft (h : q_H) (s : Nat) (r : Int32) : q_H := q_pI (q_pI h s 8 (q_I h s 8 + r)) s 7 (q_I (q_pI h s 8 (q_I h s 8 + r)) s 7 + 1)
set_option maxHeartbeats 1000000 in
theorem z_workIt {h0 : q_H} {MC MS kk nn mc2 ms2 b N i : Nat} {Q : q_Po} {many done k : Int32} {due : Bool} {R : Int32 → q_H → Prop} (hd : 1 ≤ d) (hd2 : d < 2048) (hs : 400 ≤ s ∧ q_sh h s = (0, 12, 0)) (hb : q_R h s 6 = some b) (hbs : 400 ≤ b ∧ q_sh h b = (3, 7, N)) (hN : q_s16 N) (hi : q_I h s 7 - q_I h s 7 / nI N * nI N = nI i) (hiN : i < N) (hv : q_R h b i = some v) (hk : ¬ many ≤ k)
    (hdue : q_Ct g m_X14_isDue (d - 1) 0 0 [] [.ref s, .ref v] h (fun o h' => ∃ y, o = .inl (some (.int y)) ∧ y = (if due = true then 1 else 0) ∧ h' = h))
    (hdone : due = true → q_Ct g m_X14_isDone (d - 1) mc2 ms2 [] [.ref s, .ref v] h (fun o h' => ∃ y, o = .inl (some (.int y)) ∧ R y h'))
    (hR : ∀ y h', R y h' → (y = 0 ∨ y = 1) ∧ 400 ≤ s ∧ q_sh h' s = (0, 12, 0)) (hmc : kk + mc2 ≤ MC) (hms : nn + ms2 ≤ MS)
    (hC0 : due = false → q_K g m_X14_work [] d MC MS h0 [] Q kk nn (4, [some (.ref s), some (.int many), some (.int (done + 0)), some (.int (k + 1)), none, none, none], [], z_aft h s 0))
    (hC1 : due = true → ∀ y h', R y h' → q_K g m_X14_work [] d MC MS h0 [] Q (kk + mc2) (nn + ms2) (4, [some (.ref s), some (.int many), some (.int (done + y)), some (.int (k + 1)), none, none, none], [], z_aft h' s (if y = 0 then 1 else 0))) :
    q_K g m_X14_work [] d MC MS h0 [] Q kk nn (4, [some (.ref s), some (.int many), some (.int done), some (.int k), none, none, none], [], h) := by
  have hN0 : ¬ nI N = 0 := fun e => by
    have := (nI_eq (b := 0) (by have : N < 65536 := hN; omega) (by omega)).mp e
    omega
  refine w_X14_work_4 (by omega) ⟨fun hle => absurd hle hk, fun _ => ⟨hs, b, hb, hs, hs, b, hb, N, hbs, hN0, i, N, hi, ⟨hbs.1, hbs.2, hiN, hN⟩, v, hv, hs, ?_⟩⟩
  refine q_cI_of (fun y h' => y = (if due = true then 1 else 0) ∧ h' = h) hdue (by omega) (q_lcle (by omega) (by omega)) (by omega) (by omega) trivial (fun y h2 hp => ?_)
  obtain ⟨p1, p2⟩ := hp
  subst p2
  cases hdu : due with
  | false =>
    rw [hdu] at p1
    have p1 : y = 0 := p1
    subst p1
    exact ⟨fun _ => ⟨fun _ => ⟨hs, fun _ => ⟨hs, hs, hs, hC0 hdu⟩, fun h0 => absurd rfl h0⟩, fun h0 => absurd rfl h0⟩, fun h0 => absurd rfl h0⟩
  | true =>
    rw [hdu] at p1
    have p1 : y = 1 := p1
    subst p1
    refine ⟨fun h0 => absurd h0 (by decide), fun _ => ⟨hs, ?_⟩⟩
    refine q_cI_of R (hdone hdu) (by omega) (q_lcle (by omega) (by omega)) (by omega) (by omega) trivial (fun x h3 hp => ?_)
    obtain ⟨r1, r2⟩ := hR x h3 hp
    have hC := hC1 hdu x h3 hp
    rcases r1 with r1 | r1
    · subst r1
      exact ⟨fun _ => ⟨fun _ => ⟨r2, fun h0 => absurd h0 (by decide), fun _ => ⟨fun h0 => absurd rfl h0, fun _ => ⟨r2, r2, r2, hC⟩⟩⟩, fun h0 => absurd rfl h0⟩, fun h0 => absurd rfl h0⟩
    · subst r1
      exact ⟨fun h0 => absurd h0 (by decide), fun _ => ⟨fun h0 => absurd h0 (by decide), fun _ => ⟨r2, fun h0 => absurd h0 (by decide), fun _ => ⟨fun _ => ⟨r2, r2, r2, hC⟩, fun h0 => absurd h0 (by decide)⟩⟩⟩⟩
end ZDONE
