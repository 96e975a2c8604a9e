/-! CONTRACTS of the law's barn, nine: a step's sum and test -/
/-- a step's row of numbers -/
def z_Own (h : q_H) (v : Nat) : Prop := (492 ≤ v ∧ v < q_nx h) ∧ q_sh h v = (1, 0, 9)
def z_col (I : Nat → Nat → Int32) (o : Option Nat) (j : Nat) : Int32 := match o with
  | some x => I x j
  | none => 0
def z_sumV (I : Nat → Nat → Int32) (s v : Nat) (o : Option Nat) : Int32 := if I v 4 = 0 then I v 5 else if I v 4 = 1 then I s 7 - I s 7 / 7 * 7 else z_col I o 1 + I v 5
def z_dueV (I : Nat → Nat → Int32) (s v : Nat) (used nb : Int32) (o8 o1 : Option Nat) : Bool :=
  if (I v 6).toInt = 0 then true
  else if (I v 6).toInt = 1 then !decide (used ≤ I v 7)
  else if (I v 6).toInt = 2 then o8.isSome
  else if (I v 6).toInt = 3 then (match o8, o1 with
    | some x, some y => !decide (x = y)
    | _, _ => true)
  else if (I v 6).toInt = 4 then decide (I s 7 - I s 7 / 3 * 3 = I v 7 - I v 7 / 3 * 3)
  else if (I v 6).toInt = 5 then (decide (I s 3 - used < z_col I o8 0) || !decide (I v 7 ≤ I s 10))
  else (!decide (I v 7 ≤ nb) && !decide (2 ≤ z_col I o8 1))
section ZSTEP
variable {g : q_G} {d : Nat} {h : q_H} {s v : Nat} {hl ll : List Nat} {hk : List (Option Nat)}
theorem z_Own_ext {h' : q_H} (e : z_ext h h') (hv : z_Own h v) : z_Own h' v :=
  ⟨⟨hv.1.1, Nat.lt_of_lt_of_le hv.1.2 e.1⟩, (e.2 v hv.1.2).1.trans hv.2⟩
theorem z_sumC {i2 : Nat} {o2 : Option Nat} (hd : 1 ≤ d) (hd2 : d ≠ 2048) (hS : z_Sim h s hl ll hk) (hv : z_Own h v) (h2 : q_I h v 2 = nI i2) (ho : hk[i2]? = some o2) (hoB : ∀ x, o2 = some x → z_Bal h x) :
    q_Ct g m_X14_sum d 0 0 [] [.ref s, .ref v] h (fun o h' => ∃ y, o = .inl (some (.int y)) ∧ y = z_sumV (q_I h) s v o2 ∧ h' = h) := by
  obtain ⟨⟨s1, s2⟩, s3, -, -, ⟨c, c1, c2⟩⟩ := id hS
  have hi : i2 < hk.length := (List.getElem?_eq_some_iff.mp ho).1
  have hR := c2.2.2.2 i2 o2 ho
  have hs : 400 ≤ s ∧ q_sh h s = (0, 12, 0) := ⟨z_4 s1, s3⟩
  have hw : ∀ j, j < 9 → 400 ≤ v ∧ q_sh h v = (1, 0, 9) ∧ j < 9 ∧ q_s16 9 := fun j hj => ⟨z_4 hv.1.1, hv.2, hj, by decide⟩
  refine q_CtK ok_X14_sum hd2 (Nat.le_of_ble_eq_true rfl) ?_ _ rfl rfl
  refine w_X14_sum_0 hd ⟨hs, c, c1, 2, 9, rfl, hw 2 (by decide), i2, hk.length, h2, ⟨z_4 c2.1.1, c2.2.1, hi, c2.2.2.1⟩, fun x hx => ?_, fun hn => ?_⟩
  · rw [hR] at hx
    have hB := hoB x hx
    refine ⟨4, 9, rfl, hw 4 (by decide), fun h4 => ⟨4, 9, rfl, hw 4 (by decide), fun h41 => ⟨⟨z_4 hB.1.1, hB.2⟩, 5, 9, rfl, hw 5 (by decide), rfl, ⟨Nat.le_refl _, Nat.le_refl _⟩, _, rfl, ?_, rfl⟩, fun h41 => ⟨hs, by decide, rfl, ⟨Nat.le_refl _, Nat.le_refl _⟩, _, rfl, ?_, rfl⟩⟩, fun h4 => ⟨5, 9, rfl, hw 5 (by decide), rfl, ⟨Nat.le_refl _, Nat.le_refl _⟩, _, rfl, ?_, rfl⟩⟩
    · unfold z_sumV; rw [if_neg h4, if_neg h41, hx]; rfl
    · unfold z_sumV; rw [if_neg h4, if_pos h41]
    · unfold z_sumV; rw [if_pos h4]
  · rw [hR] at hn
    refine ⟨4, 9, rfl, hw 4 (by decide), fun h4 => ⟨4, 9, rfl, hw 4 (by decide), fun h41 => ⟨5, 9, rfl, hw 5 (by decide), rfl, ⟨Nat.le_refl _, Nat.le_refl _⟩, _, rfl, ?_, rfl⟩, fun h41 => ⟨hs, by decide, rfl, ⟨Nat.le_refl _, Nat.le_refl _⟩, _, rfl, ?_, rfl⟩⟩, fun h4 => ⟨5, 9, rfl, hw 5 (by decide), rfl, ⟨Nat.le_refl _, Nat.le_refl _⟩, _, rfl, ?_, rfl⟩⟩
    · unfold z_sumV; rw [if_neg h4, if_neg h41, hn]; rfl
    · unfold z_sumV; rw [if_neg h4, if_pos h41]
    · unfold z_sumV; rw [if_pos h4]
set_option maxHeartbeats 1000000 in
theorem z_dueC {i8 i1 : Nat} {o8 o1 : Option Nat} (hd : 2 ≤ d) (hd2 : d < 2048) (hS : z_Sim h s hl ll hk) (hb : ∀ x ∈ hl, z_Bal h x) (hv : z_Own h v) (h8 : q_I h v 8 = nI i8) (ho8 : hk[i8]? = some o8) (hoB : ∀ x, o8 = some x → z_Bal h x) (h1 : q_I h v 1 = nI i1) (ho1 : hk[i1]? = some o1) (hoB1 : ∀ x, o1 = some x → z_Bal h x) :
    q_Ct g m_X14_isDue d 0 0 [] [.ref s, .ref v] h (fun o h' => ∃ y, o = .inl (some (.int y)) ∧ y = (if z_dueV (q_I h) s v (z_sum (fun x => q_I h x 0) hl) (nI hl.length + nI ll.length) o8 o1 = true then 1 else 0) ∧ h' = h) := by
  obtain ⟨⟨s1, s2⟩, s3, ⟨a, a1, a2⟩, ⟨b, b1, b2⟩, c, c1, c2⟩ := id hS
  have hi : i8 < hk.length := (List.getElem?_eq_some_iff.mp ho8).1
  have hi1 : i1 < hk.length := (List.getElem?_eq_some_iff.mp ho1).1
  have hR := c2.2.2.2 i8 o8 ho8
  have hR1 := c2.2.2.2 i1 o1 ho1
  have hs : 400 ≤ s ∧ q_sh h s = (0, 12, 0) := ⟨z_4 s1, s3⟩
  have hw : ∀ j, j < 9 → 400 ≤ v ∧ q_sh h v = (1, 0, 9) ∧ j < 9 ∧ q_s16 9 := fun j hj => ⟨z_4 hv.1.1, hv.2, hj, by decide⟩
  have T : ∀ {B : Bool}, B = true → (1 : Int32) = (if B = true then 1 else 0) := fun h => by rw [if_pos h]
  have F : ∀ {B : Bool}, B = false → (0 : Int32) = (if B = true then 1 else 0) := fun h => by rw [h]; rfl
  have hle : (0 ≤ 0) ∧ (0 : Nat) ≤ 0 := ⟨Nat.le_refl _, Nat.le_refl _⟩
  have hub := fun (g : q_G) => z_used (g := g) (d := d - 1) (by omega) (by omega) a2 hb
  refine q_CtK ok_X14_isDue (by omega) (Nat.le_of_ble_eq_true rfl) ?_ _ rfl rfl
  refine w_X14_isDue_0 (by omega) ⟨7, 9, rfl, hw 7 (by decide), hs, c, c1, 8, 9, rfl, hw 8 (by decide), i8, hk.length, h8, ⟨z_4 c2.1.1, c2.2.1, hi, c2.2.2.1⟩, fun x hx => ?_, fun hn => ?_⟩
  · rw [hR] at hx
    have hB := hoB x hx
    have hxB : 400 ≤ x ∧ q_sh h x = (0, 11, 0) := ⟨z_4 hB.1.1, hB.2⟩
    refine ⟨6, 9, rfl, hw 6 (by decide), ⟨fun e => ⟨rfl, hle, _, rfl, T ?_, rfl⟩, fun e => ⟨hs, a, a1, ?_⟩, fun e => ⟨rfl, hle, _, rfl, T ?_, rfl⟩, fun e => ⟨hs, c, c1, 1, 9, rfl, hw 1 (by decide), i1, hk.length, h1, ⟨z_4 c2.1.1, c2.2.1, hi1, c2.2.2.1⟩, fun y hy => ⟨hxB.1, ?_, fun he => ⟨rfl, hle, _, rfl, F ?_, rfl⟩, fun he => ⟨rfl, hle, _, rfl, T ?_, rfl⟩⟩, fun hn => ⟨hxB.1, rfl, hle, _, rfl, T ?_, rfl⟩⟩, fun e => ⟨hs, by decide, by decide, fun he => ⟨rfl, hle, _, rfl, F ?_, rfl⟩, fun he => ⟨rfl, hle, _, rfl, T ?_, rfl⟩⟩, fun e => ⟨hs, hs, a, a1, ?_⟩, trivial⟩, fun e => ⟨hs, a, a1, hl.length, ⟨z_4 a2.1.1, a2.2.1⟩, hs, b, b1, ll.length, ⟨z_4 b2.1.1, b2.2.1⟩, fun he => ⟨rfl, hle, _, rfl, F ?_, rfl⟩, fun he => ⟨hxB, fun he2 => ⟨rfl, hle, _, rfl, F ?_, rfl⟩, fun he2 => ⟨rfl, hle, _, rfl, T ?_, rfl⟩⟩⟩⟩
    · unfold z_dueV; rw [if_pos e]
    · refine q_cI_of (fun y h' => y = z_sum (fun x => q_I h x 0) hl ∧ h' = h) (hub g) (by omega) (q_lcle (by omega) (by omega)) (by omega) (by omega) trivial (fun y h2 hp => ?_)
      obtain ⟨p1, p2⟩ := hp
      subst p1 p2
      have e' : (q_I h2 v 6).toInt = 1 := e
      refine ⟨fun he => ⟨rfl, hle, _, rfl, F ?_, rfl⟩, fun he => ⟨rfl, hle, _, rfl, T ?_, rfl⟩⟩
      · unfold z_dueV; rw [e', if_neg (by decide), if_pos rfl, decide_eq_true he]; rfl
      · unfold z_dueV; rw [e', if_neg (by decide), if_pos rfl, decide_eq_false he]; rfl
    · have e' : (q_I h v 6).toInt = 2 := e
      unfold z_dueV; rw [e', if_neg (by decide), if_neg (by decide), if_pos rfl, hx]; rfl
    · rw [hR1] at hy
      exact z_4 (hoB1 y hy).1.1
    · have e' : (q_I h v 6).toInt = 3 := e
      rw [hR1] at hy
      unfold z_dueV; rw [e', if_neg (by decide), if_neg (by decide), if_neg (by decide), if_pos rfl, hx, hy]
      show (!decide (x = y)) = false
      rw [decide_eq_true he]; rfl
    · have e' : (q_I h v 6).toInt = 3 := e
      rw [hR1] at hy
      unfold z_dueV; rw [e', if_neg (by decide), if_neg (by decide), if_neg (by decide), if_pos rfl, hx, hy]
      show (!decide (x = y)) = true
      rw [decide_eq_false he]; rfl
    · have e' : (q_I h v 6).toInt = 3 := e
      rw [hR1] at hn
      unfold z_dueV; rw [e', if_neg (by decide), if_neg (by decide), if_neg (by decide), if_pos rfl, hx, hn]
    · have e' : (q_I h v 6).toInt = 4 := e
      unfold z_dueV; rw [e', if_neg (by decide), if_neg (by decide), if_neg (by decide), if_neg (by decide), if_pos rfl]
      exact decide_eq_false he
    · have e' : (q_I h v 6).toInt = 4 := e
      unfold z_dueV; rw [e', if_neg (by decide), if_neg (by decide), if_neg (by decide), if_neg (by decide), if_pos rfl]
      exact decide_eq_true he
    · refine q_cI_of (fun y h' => y = z_sum (fun x => q_I h x 0) hl ∧ h' = h) (hub g) (by omega) (q_lcle (by omega) (by omega)) (by omega) (by omega) trivial (fun y h2 hp => ?_)
      obtain ⟨p1, p2⟩ := hp
      subst p1 p2
      have e' : (q_I h2 v 6).toInt = 5 := e
      have hcol : z_col (q_I h2) o8 0 = q_I h2 x 0 := by rw [hx]; rfl
      refine ⟨hxB, fun he => ⟨rfl, hle, _, rfl, T ?_, rfl⟩, fun he => ⟨hs, fun he2 => ⟨rfl, hle, _, rfl, F ?_, rfl⟩, fun he2 => ⟨rfl, hle, _, rfl, T ?_, rfl⟩⟩⟩
      · unfold z_dueV; rw [e', if_neg (by decide), if_neg (by decide), if_neg (by decide), if_neg (by decide), if_neg (by decide), if_pos rfl, hcol, decide_eq_true he]; rfl
      · unfold z_dueV; rw [e', if_neg (by decide), if_neg (by decide), if_neg (by decide), if_neg (by decide), if_neg (by decide), if_pos rfl, hcol, decide_eq_false he, decide_eq_true he2]; rfl
      · unfold z_dueV; rw [e', if_neg (by decide), if_neg (by decide), if_neg (by decide), if_neg (by decide), if_neg (by decide), if_pos rfl, hcol, decide_eq_false he, decide_eq_false he2]; rfl
    · unfold z_dueV; rw [if_neg (by omega), if_neg (by omega), if_neg (by omega), if_neg (by omega), if_neg (by omega), if_neg (by omega), decide_eq_true he]; rfl
    · have hcol : z_col (q_I h) o8 1 = q_I h x 1 := by rw [hx]; rfl
      unfold z_dueV; rw [if_neg (by omega), if_neg (by omega), if_neg (by omega), if_neg (by omega), if_neg (by omega), if_neg (by omega), hcol, decide_eq_false he, decide_eq_true he2]; rfl
    · have hcol : z_col (q_I h) o8 1 = q_I h x 1 := by rw [hx]; rfl
      unfold z_dueV; rw [if_neg (by omega), if_neg (by omega), if_neg (by omega), if_neg (by omega), if_neg (by omega), if_neg (by omega), hcol, decide_eq_false he, decide_eq_false he2]; rfl
  · rw [hR] at hn
    refine ⟨6, 9, rfl, hw 6 (by decide), ⟨fun e => ⟨rfl, hle, _, rfl, T ?_, rfl⟩, fun e => ⟨hs, a, a1, ?_⟩, fun e => ⟨rfl, hle, _, rfl, F ?_, rfl⟩, fun e => ⟨rfl, hle, _, rfl, T ?_, rfl⟩, fun e => ⟨hs, by decide, by decide, fun he => ⟨rfl, hle, _, rfl, F ?_, rfl⟩, fun he => ⟨rfl, hle, _, rfl, T ?_, rfl⟩⟩, fun e => ⟨hs, hs, a, a1, ?_⟩, trivial⟩, fun e => ⟨hs, a, a1, hl.length, ⟨z_4 a2.1.1, a2.2.1⟩, hs, b, b1, ll.length, ⟨z_4 b2.1.1, b2.2.1⟩, fun he => ⟨rfl, hle, _, rfl, F ?_, rfl⟩, fun he => ⟨fun he2 => absurd he2 (by decide), fun he2 => ⟨rfl, hle, _, rfl, T ?_, rfl⟩⟩⟩⟩
    · unfold z_dueV; rw [if_pos e]
    · refine q_cI_of (fun y h' => y = z_sum (fun x => q_I h x 0) hl ∧ h' = h) (hub g) (by omega) (q_lcle (by omega) (by omega)) (by omega) (by omega) trivial (fun y h2 hp => ?_)
      obtain ⟨p1, p2⟩ := hp
      subst p1 p2
      have e' : (q_I h2 v 6).toInt = 1 := e
      refine ⟨fun he => ⟨rfl, hle, _, rfl, F ?_, rfl⟩, fun he => ⟨rfl, hle, _, rfl, T ?_, rfl⟩⟩
      · unfold z_dueV; rw [e', if_neg (by decide), if_pos rfl, decide_eq_true he]; rfl
      · unfold z_dueV; rw [e', if_neg (by decide), if_pos rfl, decide_eq_false he]; rfl
    · have e' : (q_I h v 6).toInt = 2 := e
      unfold z_dueV; rw [e', if_neg (by decide), if_neg (by decide), if_pos rfl, hn]; rfl
    · have e' : (q_I h v 6).toInt = 3 := e
      unfold z_dueV; rw [e', if_neg (by decide), if_neg (by decide), if_neg (by decide), if_pos rfl, hn]
    · have e' : (q_I h v 6).toInt = 4 := e
      unfold z_dueV; rw [e', if_neg (by decide), if_neg (by decide), if_neg (by decide), if_neg (by decide), if_pos rfl]
      exact decide_eq_false he
    · have e' : (q_I h v 6).toInt = 4 := e
      unfold z_dueV; rw [e', if_neg (by decide), if_neg (by decide), if_neg (by decide), if_neg (by decide), if_pos rfl]
      exact decide_eq_true he
    · refine q_cI_of (fun y h' => y = z_sum (fun x => q_I h x 0) hl ∧ h' = h) (hub g) (by omega) (q_lcle (by omega) (by omega)) (by omega) (by omega) trivial (fun y h2 hp => ?_)
      obtain ⟨p1, p2⟩ := hp
      subst p1 p2
      have e' : (q_I h2 v 6).toInt = 5 := e
      have hcol : z_col (q_I h2) o8 0 = 0 := by rw [hn]; rfl
      refine ⟨fun he => ⟨rfl, hle, _, rfl, T ?_, rfl⟩, fun he => ⟨hs, fun he2 => ⟨rfl, hle, _, rfl, F ?_, rfl⟩, fun he2 => ⟨rfl, hle, _, rfl, T ?_, rfl⟩⟩⟩
      · unfold z_dueV; rw [e', if_neg (by decide), if_neg (by decide), if_neg (by decide), if_neg (by decide), if_neg (by decide), if_pos rfl, hcol, decide_eq_true he]; rfl
      · unfold z_dueV; rw [e', if_neg (by decide), if_neg (by decide), if_neg (by decide), if_neg (by decide), if_neg (by decide), if_pos rfl, hcol, decide_eq_false he, decide_eq_true he2]; rfl
      · unfold z_dueV; rw [e', if_neg (by decide), if_neg (by decide), if_neg (by decide), if_neg (by decide), if_neg (by decide), if_pos rfl, hcol, decide_eq_false he, decide_eq_false he2]; rfl
    · unfold z_dueV; rw [if_neg (by omega), if_neg (by omega), if_neg (by omega), if_neg (by omega), if_neg (by omega), if_neg (by omega), decide_eq_true he]; rfl
    · have hcol : z_col (q_I h) o8 1 = 0 := by rw [hn]; rfl
      unfold z_dueV; rw [if_neg (by omega), if_neg (by omega), if_neg (by omega), if_neg (by omega), if_neg (by omega), if_neg (by omega), hcol, decide_eq_false he, decide_eq_false he2]; rfl
end ZSTEP
