/-! THE CLASS'S RECKONER, over a list of orders -/
section ZRECK
def z_jn (d : Nat) (x y : Int32) : Int32 := match d with
  | 30 => x &&& y
  | 31 => x ||| y
  | 32 => q_min x y
  | 33 => q_max x y
  | 40 => x + y
  | 41 => x - y
  | 42 => x * y
  | 43 => if y = 0 then 0 else x / y
  | 44 => if y ≤ x then 0 else 1
  | 45 => if x ≤ y then 0 else 1
  | 46 => if x = y then 1 else 0
  | 47 => if y < x then 0 else 1
  | 48 => if x < y then 0 else 1
  | _ => 0
/-- one order over a stack, the topmost first -/
def z_ex (V : Nat → Int32 → Option Int32) (d : Nat) (n : Int32) (st : List Int32) : Option (List Int32) :=
  if d = 2 ∨ (20 ≤ d ∧ d ≤ 28) then (V d n).map (· :: st)
  else if d = 29 then (match st with
    | x :: r => some ((1 - x) :: r)
    | _ => none)
  else if (30 ≤ d ∧ d ≤ 33) ∨ (40 ≤ d ∧ d ≤ 48) then (match st with
    | y :: x :: r => some (z_jn d x y :: r)
    | _ => none)
  else none
def z_run (V : Nat → Int32 → Option Int32) : List (Nat × Int32) → List Int32 → Option (List Int32)
  | [], st => some st
  | q :: t, st => (z_ex V q.1 q.2 st).bind (z_run V t)
/-- the rows of the class's stack -/
def z_Rk (rk sk : m_Rr) (st : List Int32) : Prop := rk 1 = nI st.length ∧ ∀ i x, st.reverse[i]? = some x → sk i = x
variable {pn nu bn sz ag lo hk rk sk : m_Rr} {od : Nat → Option Nat}
theorem z_push {st : List Int32} {x : Int32} (h : z_Rk rk sk st) (hl : st.length < 399) : ∃ rk' sk', f_X8_push rk sk x = some (rk', sk') ∧ z_Rk rk' sk' (x :: st) := by
  refine ⟨_, _, m_push h.1 (by omega), m_up_s, fun i y hy => ?_⟩
  rw [List.reverse_cons] at hy
  have h9 := (List.getElem?_eq_some_iff.mp hy).1
  simp at h9
  by_cases hi : i < st.length
  · rw [List.getElem?_append_left (by rw [List.length_reverse]; exact hi)] at hy
    rw [m_up_n (by omega)]
    exact h.2 i y hy
  · obtain rfl : i = st.length := by omega
    rw [List.getElem?_append_right (by rw [List.length_reverse]; exact Nat.le_refl _), List.length_reverse, Nat.sub_self] at hy
    rw [m_up_s]
    exact Option.some.inj hy
theorem z_pop {st : List Int32} {x : Int32} (h : z_Rk rk sk (x :: st)) (hl : st.length < 399) : ∃ rk', f_X8_pop rk sk = some (x, rk') ∧ z_Rk rk' sk st := by
  have h1 : rk 1 = nI (st.length + 1) := h.1
  have hx : sk st.length = x := h.2 st.length x (by
    rw [List.reverse_cons, List.getElem?_append_right (by rw [List.length_reverse]; exact Nat.le_refl _), List.length_reverse, Nat.sub_self]
    rfl)
  refine ⟨_, (m_pop h1 (by omega)).trans (by rw [hx]), m_up_s, fun i y hy => ?_⟩
  have h9 := (List.getElem?_eq_some_iff.mp hy).1
  exact h.2 i y (by rw [List.reverse_cons, List.getElem?_append_left h9]; exact hy)
theorem z_joined {d : Nat} (hd : (30 ≤ d ∧ d ≤ 33) ∨ (40 ≤ d ∧ d ≤ 48)) (x y : Int32) : f_X8_joined d x y = some (z_jn d x y) := by
  have : d = 30 ∨ d = 31 ∨ d = 32 ∨ d = 33 ∨ d = 40 ∨ d = 41 ∨ d = 42 ∨ d = 43 ∨ d = 44 ∨ d = 45 ∨ d = 46 ∨ d = 47 ∨ d = 48 := by omega
  rcases this with rfl | rfl | rfl | rfl | rfl | rfl | rfl | rfl | rfl | rfl | rfl | rfl | rfl
  · rfl
  · rfl
  · rfl
  · rfl
  · rfl
  · rfl
  · rfl
  · show (if ¬ y = 0 then (q_nz y).bind fun u3 => some (x / y) else some 0) = some (if y = 0 then 0 else x / y)
    by_cases h : y = 0
    · rw [if_neg (fun h2 => h2 h), if_pos h]
    · rw [if_pos h, if_neg h]
      unfold q_nz
      rw [if_neg h]; rfl
  · show (if y ≤ x then (f_X8_one false).bind fun r6 => some r6 else (f_X8_one true).bind fun r7 => some r7) = some (if y ≤ x then 0 else 1)
    by_cases h : y ≤ x
    · rw [if_pos h, if_pos h]; rfl
    · rw [if_neg h, if_neg h]; rfl
  · show (if x ≤ y then (f_X8_one false).bind fun r6 => some r6 else (f_X8_one true).bind fun r7 => some r7) = some (if x ≤ y then 0 else 1)
    by_cases h : x ≤ y
    · rw [if_pos h, if_pos h]; rfl
    · rw [if_neg h, if_neg h]; rfl
  · show (if ¬ x = y then (f_X8_one false).bind fun r6 => some r6 else (f_X8_one true).bind fun r7 => some r7) = some (if x = y then 1 else 0)
    by_cases h : x = y
    · rw [if_neg (fun h2 => h2 h), if_pos h]; rfl
    · rw [if_pos h, if_neg h]; rfl
  · show (if y < x then (f_X8_one false).bind fun r6 => some r6 else (f_X8_one true).bind fun r7 => some r7) = some (if y < x then 0 else 1)
    by_cases h : y < x
    · rw [if_pos h, if_pos h]; rfl
    · rw [if_neg h, if_neg h]; rfl
  · show (if x < y then (f_X8_one false).bind fun r6 => some r6 else (f_X8_one true).bind fun r7 => some r7) = some (if x < y then 0 else 1)
    by_cases h : x < y
    · rw [if_pos h, if_pos h]; rfl
    · rw [if_neg h, if_neg h]; rfl
theorem z_obey {d : Nat} {n : Int32} {st st' : List Int32} (h : z_Rk rk sk st) (hl : st.length < 300) (he : z_ex (f_X8_value pn bn sz ag lo hk) d n st = some st') :
    ∃ rk' sk', f_X8_obey pn bn sz ag lo hk rk sk d n = some (rk', sk') ∧ z_Rk rk' sk' st' ∧ st'.length ≤ st.length + 1 ∧ d < 49 := by
  unfold z_ex at he
  by_cases h1 : d = 2 ∨ (20 ≤ d ∧ d ≤ 28)
  · rw [if_pos h1] at he
    have hob : f_X8_obey pn bn sz ag lo hk rk sk d n = (f_X8_value pn bn sz ag lo hk d n).bind fun r => (f_X8_push rk sk r).bind fun r => some (r.1, r.2) := by
      have : d = 2 ∨ d = 20 ∨ d = 21 ∨ d = 22 ∨ d = 23 ∨ d = 24 ∨ d = 25 ∨ d = 26 ∨ d = 27 ∨ d = 28 := by omega
      rcases this with rfl | rfl | rfl | rfl | rfl | rfl | rfl | rfl | rfl | rfl <;> rfl
    cases hv : f_X8_value pn bn sz ag lo hk d n with
    | none => rw [hv] at he; cases he
    | some x =>
      rw [hv] at he
      obtain rfl : x :: st = st' := Option.some.inj he
      obtain ⟨rk', sk', p1, p2⟩ := z_push (x := x) h (by omega)
      exact ⟨rk', sk', by rw [hob, hv, Option.bind_some, p1]; rfl, p2, Nat.le_refl _, by omega⟩
  · rw [if_neg h1] at he
    by_cases h2 : d = 29
    · subst h2
      rw [if_pos rfl] at he
      cases st with
      | nil => cases he
      | cons x r =>
        obtain rfl : (1 - x) :: r = st' := Option.some.inj he
        have hl' : r.length + 1 < 300 := hl
        obtain ⟨rk1, p1, p2⟩ := z_pop h (by omega)
        obtain ⟨rk2, sk2, p3, p4⟩ := z_push (x := 1 - x) p2 (by omega)
        refine ⟨rk2, sk2, ?_, p4, Nat.le_succ _, by decide⟩
        show ((f_X8_pop rk sk).bind fun r2 => (f_X8_push r2.2 sk ((1 : Int32) - r2.1)).bind fun r3 => some (r3.1, r3.2)) = _
        rw [p1, Option.bind_some, p3]; rfl
    · rw [if_neg h2] at he
      by_cases h3 : (30 ≤ d ∧ d ≤ 33) ∨ (40 ≤ d ∧ d ≤ 48)
      · rw [if_pos h3] at he
        cases st with
        | nil => cases he
        | cons y r =>
          cases r with
          | nil => cases he
          | cons x r =>
            obtain rfl : z_jn d x y :: r = st' := Option.some.inj he
            have hl' : r.length + 1 + 1 < 300 := hl
            obtain ⟨rk1, p1, p2⟩ := z_pop h (by show r.length + 1 < 399; omega)
            obtain ⟨rk2, p3, p4⟩ := z_pop p2 (by omega)
            obtain ⟨rk3, sk3, p5, p6⟩ := z_push (x := z_jn d x y) p4 (by omega)
            have hob : f_X8_obey pn bn sz ag lo hk rk sk d n = (f_X8_pop rk sk).bind fun r4 => (f_X8_pop r4.2 sk).bind fun r5 => (f_X8_joined d r5.1 r4.1).bind fun r6 => (f_X8_push r5.2 sk r6).bind fun r7 => some (r7.1, r7.2) := by
              have : d = 30 ∨ d = 31 ∨ d = 32 ∨ d = 33 ∨ d = 40 ∨ d = 41 ∨ d = 42 ∨ d = 43 ∨ d = 44 ∨ d = 45 ∨ d = 46 ∨ d = 47 ∨ d = 48 := by omega
              rcases this with rfl | rfl | rfl | rfl | rfl | rfl | rfl | rfl | rfl | rfl | rfl | rfl | rfl <;> rfl
            refine ⟨rk3, sk3, ?_, p6, by show r.length + 1 ≤ r.length + 1 + 1 + 1; omega, by omega⟩
            rw [hob, p1, Option.bind_some, p3, Option.bind_some, z_joined h3, Option.bind_some, p5]; rfl
      · rw [if_neg h3] at he; cases he
theorem z_reckL {i0 oc : Nat} {os : List (Nat × Int32)} (hoc : pn 5 = nI oc) (hoc4 : oc ≤ 400) (hi : i0 + os.length ≤ oc) (ho : ∀ j q, os[j]? = some q → od (i0 + j) = some q.1 ∧ nu (i0 + j) = q.2) : ∀ (n j : Nat) (rk sk : m_Rr) (st st' : List Int32) (fu : Nat), j + n = os.length → n < fu → st.length ≤ j → os.length < 300 → z_Rk rk sk st → z_run (f_X8_value pn bn sz ag lo hk) (os.drop j) st = some st' →
    ∃ rk' sk', f_X8_reckon_L5 pn nu bn sz ag lo hk od (nI i0) (nI (i0 + os.length)) fu rk sk (nI j) = some (rk', sk') ∧ z_Rk rk' sk' st' := by
  intro n
  induction n with
  | zero =>
    intro j rk sk st st' fu hj hfu hlen hl3 hR hr
    obtain rfl : j = os.length := by omega
    obtain ⟨fu, rfl⟩ : ∃ z, fu = z + 1 := ⟨fu - 1, by omega⟩
    rw [List.drop_length] at hr
    obtain rfl : st = st' := Option.some.inj hr
    refine ⟨rk, sk, ?_, hR⟩
    rw [f_X8_reckon_L5, if_neg (show ¬ (400 : Int32) ≤ nI os.length from nI_ge (b := 400) (by omega) (by decide)), nI_add, if_pos (nI_le (Nat.le_refl _) (by omega))]
  | succ n ih =>
    intro j rk sk st st' fu hj hfu hlen hl3 hR hr
    obtain ⟨fu, rfl⟩ : ∃ z, fu = z + 1 := ⟨fu - 1, by omega⟩
    obtain ⟨q, hq⟩ : ∃ q, os[j]? = some q := ⟨_, List.getElem?_eq_getElem (by omega)⟩
    obtain ⟨h1, h2⟩ := List.getElem?_eq_some_iff.mp hq
    rw [List.drop_eq_getElem_cons h1, h2] at hr
    cases hx : z_ex (f_X8_value pn bn sz ag lo hk) q.1 q.2 st with
    | none =>
      have hr' : (z_ex (f_X8_value pn bn sz ag lo hk) q.1 q.2 st).bind (z_run (f_X8_value pn bn sz ag lo hk) (os.drop (j + 1))) = some st' := hr
      rw [hx] at hr'
      cases hr'
    | some st1 =>
      have hr' : (z_ex (f_X8_value pn bn sz ag lo hk) q.1 q.2 st).bind (z_run (f_X8_value pn bn sz ag lo hk) (os.drop (j + 1))) = some st' := hr
      rw [hx, Option.bind_some] at hr'
      obtain ⟨rk1, sk1, o1, o2, o3, o4⟩ := z_obey (rk := rk) (sk := sk) hR (by omega) hx
      obtain ⟨rk2, sk2, e1, e2⟩ := ih (j + 1) rk1 sk1 st1 st' fu (by omega) (by omega) (by omega) hl3 o2 hr'
      refine ⟨rk2, sk2, ?_, e2⟩
      obtain ⟨d1, d2⟩ := ho j q hq
      have hio : f_X6_isOrder pn (nI (i0 + j)) = some true := by
        unfold f_X6_isOrder
        rw [if_neg (nI_pos (by omega)), hoc, if_neg (nI_ge (by omega) (by omega)), if_neg (show ¬ (400 : Int32) ≤ nI (i0 + j) from nI_ge (b := 400) (by omega) (by decide))]
      have hor : f_X6_order pn od (nI (i0 + j)) = some q.1 := by
        unfold f_X6_order
        rw [hio, Option.bind_some, if_neg (by decide), q_ix_nI (by omega) (by decide), Option.bind_some, d1]
        rfl
      have hon : f_X6_orderNumber pn nu (nI (i0 + j)) = some q.2 := by
        unfold f_X6_orderNumber
        rw [hio, Option.bind_some, if_neg (by decide), q_ix_nI (by omega) (by decide), Option.bind_some, d2]
      rw [f_X8_reckon_L5, if_neg (show ¬ (400 : Int32) ≤ nI j from nI_ge (b := 400) (by omega) (by decide)), nI_add, if_neg (nI_ge (by omega) (by omega)), hor, Option.bind_some]
      have he49 : ∃ u, q_e49 q.1 = some u := by
        unfold q_e49
        first | exact ⟨_, if_pos o4⟩ | (rw [Nat.blt_eq.mpr o4]; exact ⟨_, rfl⟩)
      obtain ⟨u, hu⟩ := he49
      rw [hu, Option.bind_some, hon, Option.bind_some, o1, Option.bind_some, nI_1]
      exact e1
/-- reckoned is what the orders come to -/
theorem z_reckon {i0 oc : Nat} {os : List (Nat × Int32)} {x : Int32} (hoc : pn 5 = nI oc) (hoc4 : oc ≤ 400) (hi : i0 + os.length ≤ oc) (ho : ∀ j q, os[j]? = some q → od (i0 + j) = some q.1 ∧ nu (i0 + j) = q.2) (hl3 : os.length < 300) (hr : z_run (f_X8_value pn bn sz ag lo hk) os [] = some [x]) :
    ∃ rk' sk', f_X8_reckon pn nu bn sz ag lo hk rk sk od (nI i0) (nI (i0 + os.length)) = some (x, rk', sk') := by
  obtain ⟨rk1, sk1, e1, e2⟩ := z_reckL (sz := sz) (ag := ag) (lo := lo) (hk := hk) (bn := bn) hoc hoc4 hi ho os.length 0 (q_up rk 1 0) sk [] [x] 4096 (by omega) (by omega) (Nat.zero_le _) hl3 ⟨m_up_s, fun i y hy => by simp at hy⟩ (by rw [List.drop_zero]; exact hr)
  obtain ⟨rk2, p1, -⟩ := z_pop e2 (by show (0 : Nat) < 399; decide)
  refine ⟨rk2, sk1, ?_⟩
  unfold f_X8_reckon
  rw [show (0 : Int32) = nI 0 from rfl, show q_up rk 1 (nI 0) = q_up rk 1 0 from rfl, e1, Option.bind_some, p1]; rfl
end ZRECK
