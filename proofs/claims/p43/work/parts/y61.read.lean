/-! SUMS AND TESTS THAT ARE TOLD are read, by the class alone -/
section ZREAD
abbrev zp_Ty : Type := m_Rr → m_Rr → m_Rr → (Nat → Option Nat) → Option (m_Rr × m_Rr × m_Rr × (Nat → Option Nat))
abbrev zp_Tr : Type := m_Rr → m_Rr → m_Rr → m_Rr → m_Rr → m_Rr → (Nat → Option Nat) → (Nat → Option Nat) → Int32 → Option (m_Rr × m_Rr × m_Rr × (Nat → Option Nat))
/-- the tokens by kind and value, the last one the end -/
def zp_T (tk : m_Rr) (tg : Nat → Option Nat) (tv : m_Rr) (sv : List (Nat × Int32)) : Prop := sv.length ≤ 401 ∧ tk 6 = nI sv.length ∧ ∀ (i : Nat) (q : Nat × Int32), sv[i]? = some q → tg i = some q.1 ∧ tv i = q.2 ∧ q.1 < 49
/-- the names of hooks -/
def zp_H (hn : m_Rr) (nm : List Int32) : Prop := nm.length ≤ 6 ∧ nm.Nodup ∧ ∀ (i : Nat) (v : Int32), nm[i]? = some v → hn i = v
def zo_u : m_Rr → Nat → List (Nat × Int32) → m_Rr
  | qu, _, [] => qu
  | qu, oc, q :: l => zo_u (q_up qu oc q.2) (oc + 1) l
def zo_d : (Nat → Option Nat) → Nat → List (Nat × Int32) → (Nat → Option Nat)
  | qd, _, [] => qd
  | qd, oc, q :: l => zo_d (q_up qd oc (some q.1)) (oc + 1) l
theorem zo_u_app : ∀ {l m : List (Nat × Int32)} {qu : m_Rr} {oc : Nat}, zo_u qu oc (l ++ m) = zo_u (zo_u qu oc l) (oc + l.length) m
  | [], m, qu, oc => rfl
  | q :: l, m, qu, oc => by
    show zo_u (q_up qu oc q.2) (oc + 1) (l ++ m) = zo_u (zo_u (q_up qu oc q.2) (oc + 1) l) (oc + (l.length + 1)) m
    rw [zo_u_app, show oc + 1 + l.length = oc + (l.length + 1) by omega]
theorem zo_d_app : ∀ {l m : List (Nat × Int32)} {qd : Nat → Option Nat} {oc : Nat}, zo_d qd oc (l ++ m) = zo_d (zo_d qd oc l) (oc + l.length) m
  | [], m, qd, oc => rfl
  | q :: l, m, qd, oc => by
    show zo_d (q_up qd oc (some q.1)) (oc + 1) (l ++ m) = zo_d (zo_d (q_up qd oc (some q.1)) (oc + 1) l) (oc + (l.length + 1)) m
    rw [zo_d_app, show oc + 1 + l.length = oc + (l.length + 1) by omega]
theorem zo_u_lt : ∀ {l : List (Nat × Int32)} {qu : m_Rr} {oc j : Nat}, j < oc → zo_u qu oc l j = qu j
  | [], qu, oc, j, _ => rfl
  | q :: l, qu, oc, j, h => by
    show zo_u (q_up qu oc q.2) (oc + 1) l j = _
    rw [zo_u_lt (by omega), m_up_n (by omega)]
theorem zo_d_lt : ∀ {l : List (Nat × Int32)} {qd : Nat → Option Nat} {oc j : Nat}, j < oc → zo_d qd oc l j = qd j
  | [], qd, oc, j, _ => rfl
  | q :: l, qd, oc, j, h => by
    show zo_d (q_up qd oc (some q.1)) (oc + 1) l j = _
    rw [zo_d_lt (by omega), m_up_n (by omega)]
theorem zo_at : ∀ {l : List (Nat × Int32)} {qu : m_Rr} {qd : Nat → Option Nat} {oc j : Nat} {q : Nat × Int32}, l[j]? = some q → zo_d qd oc l (oc + j) = some q.1 ∧ zo_u qu oc l (oc + j) = q.2
  | [], _, _, _, _, _, h => by cases h
  | x :: l, qu, qd, oc, 0, q, h => by
    have h : x = q := Option.some.inj h
    subst h
    show zo_d (q_up qd oc (some x.1)) (oc + 1) l oc = _ ∧ zo_u (q_up qu oc x.2) (oc + 1) l oc = _
    rw [zo_d_lt (by omega), zo_u_lt (by omega), m_up_s, m_up_s]
    exact ⟨rfl, rfl⟩
  | x :: l, qu, qd, oc, j + 1, q, h => by
    have h : l[j]? = some q := h
    show zo_d (q_up qd oc (some x.1)) (oc + 1) l (oc + (j + 1)) = _ ∧ zo_u (q_up qu oc x.2) (oc + 1) l (oc + (j + 1)) = _
    rw [show oc + (j + 1) = oc + 1 + j by omega]
    exact zo_at h
theorem zp_uu {α : Type} {f : Nat → α} {a : Nat} {x y : α} : q_up (q_up f a x) a y = q_up f a y := by
  funext j
  rw [m_up_of, m_up_of, m_up_of]
  split <;> rfl
/-- from token t to t' these orders are read -/
def zp_R (H t t' : Nat) (os : List (Nat × Int32)) (F : zp_Ty) : Prop := ∀ (qn qu rd : m_Rr) (qd : Nat → Option Nat) (oc : Nat), qn 3 = nI H → qn 5 = nI oc → oc + os.length ≤ 400 → rd 3 = nI t → rd 4 = 0 →
  F qn qu rd qd = some (q_up qn 5 (nI (oc + os.length)), zo_u qu oc os, q_up rd 3 (nI t'), zo_d qd oc os)
/-- the same of a loop that goes round k times -/
def zp_L (H t t' : Nat) (os : List (Nat × Int32)) (k : Nat) (P : Nat → m_Rr → m_Rr → m_Rr → (Nat → Option Nat) → Int32 → Option (m_Rr × m_Rr × m_Rr × (Nat → Option Nat))) : Prop := ∀ (qn qu rd : m_Rr) (qd : Nat → Option Nat) (oc fu i : Nat), k < fu → i + k < 400 → qn 3 = nI H → qn 5 = nI oc → oc + os.length ≤ 400 → rd 3 = nI t → rd 4 = 0 →
  P fu qn qu rd qd (nI i) = some (q_up qn 5 (nI (oc + os.length)), zo_u qu oc os, q_up rd 3 (nI t'), zo_d qd oc os)
variable {H t t1 t2 t' k : Nat} {tk tv hn : m_Rr} {tg : Nat → Option Nat} {sv : List (Nat × Int32)} {nm : List Int32} {os os1 os2 : List (Nat × Int32)} {rv rs r1 rt : zp_Tr} {x1 : Int32} {s : Nat} {v : Int32}
theorem zp_lt (hT : zp_T tk tg tv sv) {q : Nat × Int32} (h : sv[t]? = some q) : t < 401 ∧ t < sv.length := by
  have h1 := (List.getElem?_eq_some_iff.mp h).1
  have := hT.1
  omega
theorem zp_sign (hT : zp_T tk tg tv sv) {rd : m_Rr} (h3 : rd 3 = nI t) (h4 : rd 4 = 0) (h : sv[t]? = some (s, v)) : f_X7_sign rd tk tg = some s ∧ q_e49 s = some () ∧ s < 49 := by
  obtain ⟨l1, l2⟩ := zp_lt hT h
  have hl := hT.1
  obtain ⟨a1, a2, a3⟩ := hT.2.2 t _ h
  have he := m_e49 a3
  refine ⟨?_, he, a3⟩
  unfold f_X7_sign f_X11_sign
  rw [if_pos (by rw [h4]; decide), h3, if_neg (nI_pos (by omega)), hT.2.1, if_neg (nI_ge (by omega) (by omega)), if_neg (show ¬ (400 : Int32) < nI t from m_nlt (a := 400) (b := t) (by omega) (by decide)), q_ix_nI l1 (by decide), Option.bind_some, a1]
  show ((some s).bind _) = _
  rw [Option.bind_some, he]; rfl
theorem zp_value (hT : zp_T tk tg tv sv) (h : sv[t]? = some (s, v)) : f_X11_value tk tv (nI t) = some v := by
  obtain ⟨l1, l2⟩ := zp_lt hT h
  have hl := hT.1
  obtain ⟨a1, a2, a3⟩ := hT.2.2 t _ h
  unfold f_X11_value
  rw [if_neg (nI_pos (by omega)), hT.2.1, if_neg (nI_ge (by omega) (by omega)), if_neg (show ¬ (400 : Int32) < nI t from m_nlt (a := 400) (b := t) (by omega) (by decide)), q_ix_nI l1 (by decide), Option.bind_some, a2]
theorem zp_take (hT : zp_T tk tg tv sv) {rd : m_Rr} (h3 : rd 3 = nI t) (h4 : rd 4 = 0) (h : sv[t]? = some (s, v)) : f_X7_take rd tk tg s = some (true, q_up rd 3 (nI (t + 1))) := by
  obtain ⟨a1, a2, a3⟩ := zp_sign hT h3 h4 h
  unfold f_X7_take
  rw [a2, Option.bind_some, a1, Option.bind_some, a2, Option.bind_some, if_pos rfl, h3, nI_1]
theorem zp_ix {i : Nat} {hn : m_Rr} {v : Int32} (h1 : hn i = v) (h2 : ∀ j, j < i → hn j ≠ v) : ∀ (n h : Nat), h ≤ i → i < h + n → m_ix v hn n h = i := by
  intro n
  induction n with
  | zero => intro h a b; omega
  | succ n ih =>
    intro h a b
    rw [m_ix]
    by_cases e : h = i
    · rw [if_pos (by rw [e]; exact h1)]; exact e
    · rw [if_neg (h2 h (by omega))]
      exact ih (h + 1) (by omega) (by omega)
theorem zp_named (hN : zp_H hn nm) {qn : m_Rr} (hq : qn 3 = nI nm.length) {i : Nat} (hi : nm[i]? = some v) : f_X7_hookNamed qn hn v = some (nI i) ∧ i < 6 := by
  obtain ⟨n1, n2, n3⟩ := hN
  have hil := (List.getElem?_eq_some_iff.mp hi).1
  have h1 := n3 i v hi
  have h2 : ∀ j, j < i → hn j ≠ v := fun j hj e => by
    have hj2 : nm[j]? = some nm[j] := List.getElem?_eq_getElem (by omega)
    rw [n3 j _ hj2] at e
    rw [e] at hj2
    have := (List.getElem?_inj (i := i) (j := j) hil n2).mp (hi.trans hj2.symm)
    omega
  rw [m_hookC n1 hq, zp_ix h1 h2 nm.length 0 (by omega) (by omega), if_neg (by omega)]
  exact ⟨rfl, by omega⟩
theorem zp_hook (hT : zp_T tk tg tv sv) (hN : zp_H hn nm) {qn rd : m_Rr} (hq : qn 3 = nI nm.length) (h3 : rd 3 = nI t) (h4 : rd 4 = 0) {i : Nat} (h : sv[t]? = some (3, v)) (hi : nm[i]? = some v) : f_X7_readHook qn rd hn tk tv tg = some (nI i, q_up rd 3 (nI (t + 1))) := by
  obtain ⟨a1, a2, a3⟩ := zp_sign hT h3 h4 h
  obtain ⟨b1, b2⟩ := zp_named hN hq hi
  unfold f_X7_readHook
  rw [a1, Option.bind_some, a2, Option.bind_some, if_pos rfl, h3, zp_value hT h, Option.bind_some, b1, Option.bind_some, if_pos (m_nI_m1 (by omega)), nI_1]
  have e1 : q_max (nI i) 0 = nI i := by unfold q_max; rw [if_neg (nI_pos (by omega))]
  rw [e1]
theorem zp_rd {rd : m_Rr} (h : rd 4 = 0) {x : Int32} : q_up rd 3 x 4 = 0 := (m_up_n (by decide)).trans h
theorem zp_n3 {qn : m_Rr} (h : qn 3 = nI H) {x : Int32} : q_up qn 5 x 3 = nI H := (m_up_n (by decide)).trans h
theorem zp_qn {qn : m_Rr} {oc : Nat} (h : qn 5 = nI oc) : q_up qn 5 (nI (oc + 0)) = qn := m_up_same h
/-- an order is put down -/
theorem zp_ord {qn qu : m_Rr} {qd : Nat → Option Nat} {oc d : Nat} (hd : d < 49) (ho : oc + (os ++ [(d, v)]).length ≤ 400) : f_X6_addOrder (q_up qn 5 (nI (oc + os.length))) (zo_u qu oc os) (zo_d qd oc os) d v = some (q_up qn 5 (nI (oc + (os ++ [(d, v)]).length)), zo_u qu oc (os ++ [(d, v)]), zo_d qd oc (os ++ [(d, v)])) := by
  rw [List.length_append] at ho
  have ho : oc + (os.length + 1) ≤ 400 := ho
  rw [m_addP hd m_up_s (by omega), zp_uu, zo_u_app, zo_d_app, List.length_append]
  rfl
theorem zp_ord0 {qn qu : m_Rr} {qd : Nat → Option Nat} {oc d : Nat} (hd : d < 49) (h5 : qn 5 = nI oc) (ho : oc + [(d, v)].length ≤ 400) : f_X6_addOrder qn qu qd d v = some (q_up qn 5 (nI (oc + [(d, v)].length)), zo_u qu oc [(d, v)], zo_d qd oc [(d, v)]) := by
  have ho : oc + 1 ≤ 400 := ho
  rw [m_addP hd h5 (by omega)]; rfl
theorem zp_val_num (hT : zp_T tk tg tv sv) (h : sv[t]? = some (2, v)) : zp_R H t (t + 1) [(2, v)] (fun qn qu rd qd => f_X7_readValue rv rs qn qu rd hn tk tv qd tg x1) := by
  intro qn qu rd qd oc q3 q5 ho h3 h4
  obtain ⟨a1, a2, a3⟩ := zp_sign hT h3 h4 h
  dsimp only
  unfold f_X7_readValue
  rw [a1, Option.bind_some, a2, Option.bind_some, q_ix_nI (show 2 < 49 by decide) (by decide), Option.bind_some, if_pos (by decide), h3, zp_value hT h, Option.bind_some, zp_ord0 (by decide) q5 ho, Option.bind_some, nI_1]
theorem zp_val_pl (hT : zp_T tk tg tv sv) (hs : s = 20 ∨ s = 21 ∨ s = 22 ∨ s = 23 ∨ s = 24) (h : sv[t]? = some (s, v)) : zp_R H t (t + 1) [(s, 0)] (fun qn qu rd qd => f_X7_readValue rv rs qn qu rd hn tk tv qd tg x1) := by
  intro qn qu rd qd oc q3 q5 ho h3 h4
  obtain ⟨a1, a2, a3⟩ := zp_sign hT h3 h4 h
  dsimp only
  unfold f_X7_readValue
  rw [a1, Option.bind_some, a2, Option.bind_some, q_ix_nI a3 (by decide), Option.bind_some]
  rcases hs with rfl | rfl | rfl | rfl | rfl
  · rw [if_neg (by decide), if_pos (by decide), h3, zp_ord0 a3 q5 ho, Option.bind_some, nI_1]
  · rw [if_neg (by decide), if_neg (by decide), if_pos (by decide), h3, zp_ord0 a3 q5 ho, Option.bind_some, nI_1]
  · rw [if_neg (by decide), if_neg (by decide), if_neg (by decide), if_pos (by decide), h3, zp_ord0 a3 q5 ho, Option.bind_some, nI_1]
  · rw [if_neg (by decide), if_neg (by decide), if_neg (by decide), if_neg (by decide), if_pos (by decide), h3, zp_ord0 a3 q5 ho, Option.bind_some, nI_1]
  · rw [if_neg (by decide), if_neg (by decide), if_neg (by decide), if_neg (by decide), if_neg (by decide), if_pos (by decide), h3, zp_ord0 a3 q5 ho, Option.bind_some, nI_1]
theorem zp_val_of (hT : zp_T tk tg tv sv) (hN : zp_H hn nm) {i : Nat} {v2 v3 : Int32} (hs : s = 25 ∨ s = 26) (h : sv[t]? = some (s, v)) (h' : sv[t + 1]? = some (18, v2)) (h'' : sv[t + 2]? = some (3, v3)) (hi : nm[i]? = some v3) : zp_R nm.length t (t + 3) [(s, nI i)] (fun qn qu rd qd => f_X7_readValue rv rs qn qu rd hn tk tv qd tg x1) := by
  intro qn qu rd qd oc q3 q5 ho h3 h4
  obtain ⟨a1, a2, a3⟩ := zp_sign hT h3 h4 h
  have e1 := zp_take hT (rd := q_up rd 3 (nI (t + 1))) m_up_s (zp_rd h4) h'
  have e2 := zp_hook hT hN (rd := q_up rd 3 (nI (t + 2))) q3 m_up_s (zp_rd h4) h'' hi
  rw [zp_uu] at e1 e2
  dsimp only
  unfold f_X7_readValue
  rw [a1, Option.bind_some, a2, Option.bind_some, q_ix_nI a3 (by decide), Option.bind_some]
  rcases hs with rfl | rfl
  · rw [if_neg (by decide), if_neg (by decide), if_neg (by decide), if_neg (by decide), if_neg (by decide), if_neg (by decide), if_pos (by decide), h3, nI_1, e1, Option.bind_some, e2, Option.bind_some, zp_ord0 a3 q5 ho, Option.bind_some]
  · rw [if_neg (by decide), if_neg (by decide), if_neg (by decide), if_neg (by decide), if_neg (by decide), if_neg (by decide), if_neg (by decide), if_pos (by decide), h3, nI_1, e1, Option.bind_some, e2, Option.bind_some, zp_ord0 a3 q5 ho, Option.bind_some]
/-- products -/
abbrev zp_PL (rv rs : zp_Tr) (hn tk tv : m_Rr) (tg : Nat → Option Nat) (x1 : Int32) : Nat → m_Rr → m_Rr → m_Rr → (Nat → Option Nat) → Int32 → Option (m_Rr × m_Rr × m_Rr × (Nat → Option Nat)) := fun fu qn qu rd qd v => f_X7_readProduct_L5 rv rs hn tk tv tg x1 fu qn qu rd qd v
theorem zp_same {qn qu rd : m_Rr} {qd : Nat → Option Nat} {oc : Nat} (q5 : qn 5 = nI oc) (h3 : rd 3 = nI t) : some (qn, qu, rd, qd) = some (q_up qn 5 (nI (oc + ([] : List (Nat × Int32)).length)), zo_u qu oc [], q_up rd 3 (nI t), zo_d qd oc []) := by
  rw [show oc + ([] : List (Nat × Int32)).length = oc from rfl, m_up_same q5, m_up_same h3]; rfl
theorem zp_i400 {i k : Nat} (h : i + k < 400) : ¬ (400 : Int32) ≤ nI i := nI_ge (b := 400) (by omega) (by decide)
theorem zp_PL0 (hT : zp_T tk tg tv sv) (h : sv[t]? = some (s, v)) (h1 : s ≠ 42) (h2 : s ≠ 43) : zp_L H t t [] 0 (zp_PL rv rs hn tk tv tg x1) := by
  intro qn qu rd qd oc fu i hfu hi q3 q5 ho h3 h4
  obtain ⟨fu, rfl⟩ : ∃ z, fu = z + 1 := ⟨fu - 1, by omega⟩
  obtain ⟨a1, a2, a3⟩ := zp_sign hT h3 h4 h
  show f_X7_readProduct_L5 rv rs hn tk tv tg x1 (fu + 1) qn qu rd qd (nI i) = _
  rw [f_X7_readProduct_L5, if_neg (zp_i400 hi), a1, Option.bind_some, a2, Option.bind_some, if_neg h1, Option.bind_some, a2, Option.bind_some, if_neg h2]
  exact zp_same q5 h3
theorem zp_PL1 (hT : zp_T tk tg tv sv) (h : sv[t]? = some (s, v)) (hs : s = 42 ∨ s = 43) (hV : zp_R H (t + 1) t1 os (fun qn qu rd qd => f_X7_readValue rv rs qn qu rd hn tk tv qd tg x1)) (hL : zp_L H t1 t2 os2 k (zp_PL rv rs hn tk tv tg x1)) : zp_L H t t2 ((os ++ [(s, 0)]) ++ os2) (k + 1) (zp_PL rv rs hn tk tv tg x1) := by
  intro qn qu rd qd oc fu i hfu hi q3 q5 ho h3 h4
  obtain ⟨fu, rfl⟩ : ∃ z, fu = z + 1 := ⟨fu - 1, by omega⟩
  obtain ⟨a1, a2, a3⟩ := zp_sign hT h3 h4 h
  rw [List.length_append] at ho
  have ho2 : oc + os.length ≤ 400 := by rw [List.length_append] at ho; omega
  have e1 := hV qn qu (q_up rd 3 (nI (t + 1))) qd oc q3 q5 ho2 m_up_s (zp_rd h4)
  rw [zp_uu] at e1
  have e2 := zp_ord (v := 0) (qn := qn) (qu := qu) (qd := qd) (os := os) (oc := oc) a3 (by omega)
  have e3 := hL (q_up qn 5 (nI (oc + (os ++ [(s, 0)]).length))) (zo_u qu oc (os ++ [(s, 0)])) (q_up rd 3 (nI t1)) (zo_d qd oc (os ++ [(s, 0)])) (oc + (os ++ [(s, 0)]).length) fu (i + 1) (by omega) (by omega) (zp_n3 q3) m_up_s (by omega) m_up_s (zp_rd h4)
  rw [zp_uu, zp_uu, ← zo_u_app, ← zo_d_app, Nat.add_assoc, ← List.length_append] at e3
  have e1 : f_X7_readValue rv rs qn qu _ hn tk tv qd tg x1 = _ := e1
  show f_X7_readProduct_L5 rv rs hn tk tv tg x1 (fu + 1) qn qu rd qd (nI i) = _
  rw [f_X7_readProduct_L5, if_neg (zp_i400 hi), a1, Option.bind_some, a2, Option.bind_some]
  rcases hs with rfl | rfl
  · rw [if_pos rfl, Option.bind_some, a2, Option.bind_some, h3, nI_1, e1, Option.bind_some, e2, Option.bind_some, nI_1]
    exact e3
  · rw [if_neg (by decide), Option.bind_some, a2, Option.bind_some, if_pos rfl, Option.bind_some, a2, Option.bind_some, h3, nI_1, e1, Option.bind_some, e2, Option.bind_some, nI_1]
    exact e3
theorem zp_prod (hV : zp_R H t t1 os (fun qn qu rd qd => f_X7_readValue rv rs qn qu rd hn tk tv qd tg x1)) (hL : zp_L H t1 t2 os2 k (zp_PL rv rs hn tk tv tg x1)) (hk : k < 400) : zp_R H t t2 (os ++ os2) (fun qn qu rd qd => f_X7_readProduct rv rs qn qu rd hn tk tv qd tg x1) := by
  intro qn qu rd qd oc q3 q5 ho h3 h4
  rw [List.length_append] at ho
  have e1 := hV qn qu rd qd oc q3 q5 (by omega) h3 h4
  have e3 := hL (q_up qn 5 (nI (oc + os.length))) (zo_u qu oc os) (q_up rd 3 (nI t1)) (zo_d qd oc os) (oc + os.length) 4096 0 (by omega) (by omega) (zp_n3 q3) m_up_s (by omega) m_up_s (zp_rd h4)
  rw [zp_uu, zp_uu, ← zo_u_app, ← zo_d_app, Nat.add_assoc, ← List.length_append] at e3
  have e1 : f_X7_readValue rv rs qn qu rd hn tk tv qd tg x1 = _ := e1
  have e3 : f_X7_readProduct_L5 rv rs hn tk tv tg x1 4096 _ _ _ _ 0 = _ := e3
  show f_X7_readProduct rv rs qn qu rd hn tk tv qd tg x1 = _
  unfold f_X7_readProduct
  rw [e1, Option.bind_some, e3, Option.bind_some]
/-- sums -/
abbrev zp_SL (rv rs : zp_Tr) (hn tk tv : m_Rr) (tg : Nat → Option Nat) (x1 : Int32) : Nat → m_Rr → m_Rr → m_Rr → (Nat → Option Nat) → Int32 → Option (m_Rr × m_Rr × m_Rr × (Nat → Option Nat)) := fun fu qn qu rd qd v => f_X7_readSum_L5 rv rs hn tk tv tg x1 fu qn qu rd qd v
theorem zp_SL0 (hT : zp_T tk tg tv sv) (h : sv[t]? = some (s, v)) (h1 : s ≠ 40) (h2 : s ≠ 41) : zp_L H t t [] 0 (zp_SL rv rs hn tk tv tg x1) := by
  intro qn qu rd qd oc fu i hfu hi q3 q5 ho h3 h4
  obtain ⟨fu, rfl⟩ : ∃ z, fu = z + 1 := ⟨fu - 1, by omega⟩
  obtain ⟨a1, a2, a3⟩ := zp_sign hT h3 h4 h
  show f_X7_readSum_L5 rv rs hn tk tv tg x1 (fu + 1) qn qu rd qd (nI i) = _
  rw [f_X7_readSum_L5, if_neg (zp_i400 hi), a1, Option.bind_some, a2, Option.bind_some, if_neg h1, Option.bind_some, a2, Option.bind_some, if_neg h2]
  exact zp_same q5 h3
theorem zp_SL1 (hT : zp_T tk tg tv sv) (h : sv[t]? = some (s, v)) (hs : s = 40 ∨ s = 41) (hV : zp_R H (t + 1) t1 os (fun qn qu rd qd => f_X7_readProduct rv rs qn qu rd hn tk tv qd tg x1)) (hL : zp_L H t1 t2 os2 k (zp_SL rv rs hn tk tv tg x1)) : zp_L H t t2 ((os ++ [(s, 0)]) ++ os2) (k + 1) (zp_SL rv rs hn tk tv tg x1) := by
  intro qn qu rd qd oc fu i hfu hi q3 q5 ho h3 h4
  obtain ⟨fu, rfl⟩ : ∃ z, fu = z + 1 := ⟨fu - 1, by omega⟩
  obtain ⟨a1, a2, a3⟩ := zp_sign hT h3 h4 h
  rw [List.length_append] at ho
  have ho2 : oc + os.length ≤ 400 := by rw [List.length_append] at ho; omega
  have e1 := hV qn qu (q_up rd 3 (nI (t + 1))) qd oc q3 q5 ho2 m_up_s (zp_rd h4)
  rw [zp_uu] at e1
  have e2 := zp_ord (v := 0) (qn := qn) (qu := qu) (qd := qd) (os := os) (oc := oc) a3 (by omega)
  have e3 := hL (q_up qn 5 (nI (oc + (os ++ [(s, 0)]).length))) (zo_u qu oc (os ++ [(s, 0)])) (q_up rd 3 (nI t1)) (zo_d qd oc (os ++ [(s, 0)])) (oc + (os ++ [(s, 0)]).length) fu (i + 1) (by omega) (by omega) (zp_n3 q3) m_up_s (by omega) m_up_s (zp_rd h4)
  rw [zp_uu, zp_uu, ← zo_u_app, ← zo_d_app, Nat.add_assoc, ← List.length_append] at e3
  have e1 : f_X7_readProduct rv rs qn qu _ hn tk tv qd tg x1 = _ := e1
  show f_X7_readSum_L5 rv rs hn tk tv tg x1 (fu + 1) qn qu rd qd (nI i) = _
  rw [f_X7_readSum_L5, if_neg (zp_i400 hi), a1, Option.bind_some, a2, Option.bind_some]
  rcases hs with rfl | rfl
  · rw [if_pos rfl, Option.bind_some, a2, Option.bind_some, h3, nI_1, e1, Option.bind_some, e2, Option.bind_some, nI_1]
    exact e3
  · rw [if_neg (by decide), Option.bind_some, a2, Option.bind_some, if_pos rfl, Option.bind_some, a2, Option.bind_some, h3, nI_1, e1, Option.bind_some, e2, Option.bind_some, nI_1]
    exact e3
theorem zp_sum (hV : zp_R H t t1 os (fun qn qu rd qd => f_X7_readProduct rv rs qn qu rd hn tk tv qd tg x1)) (hL : zp_L H t1 t2 os2 k (zp_SL rv rs hn tk tv tg x1)) (hk : k < 400) : zp_R H t t2 (os ++ os2) (fun qn qu rd qd => f_X7_readSum rv rs qn qu rd hn tk tv qd tg x1) := by
  intro qn qu rd qd oc q3 q5 ho h3 h4
  rw [List.length_append] at ho
  have e1 := hV qn qu rd qd oc q3 q5 (by omega) h3 h4
  have e3 := hL (q_up qn 5 (nI (oc + os.length))) (zo_u qu oc os) (q_up rd 3 (nI t1)) (zo_d qd oc os) (oc + os.length) 4096 0 (by omega) (by omega) (zp_n3 q3) m_up_s (by omega) m_up_s (zp_rd h4)
  rw [zp_uu, zp_uu, ← zo_u_app, ← zo_d_app, Nat.add_assoc, ← List.length_append] at e3
  have e1 : f_X7_readProduct rv rs qn qu rd hn tk tv qd tg x1 = _ := e1
  have e3 : f_X7_readSum_L5 rv rs hn tk tv tg x1 4096 _ _ _ _ 0 = _ := e3
  show f_X7_readSum rv rs qn qu rd hn tk tv qd tg x1 = _
  unfold f_X7_readSum
  rw [e1, Option.bind_some, e3, Option.bind_some]
/-- a value alone is a sum -/
theorem zp_sum1 (hT : zp_T tk tg tv sv) (hV : zp_R H t t1 os (fun qn qu rd qd => f_X7_readValue rv rs qn qu rd hn tk tv qd tg x1)) (h : sv[t1]? = some (s, v)) (h0 : s ≠ 40 ∧ s ≠ 41 ∧ s ≠ 42 ∧ s ≠ 43) : zp_R H t t1 os (fun qn qu rd qd => f_X7_readSum rv rs qn qu rd hn tk tv qd tg x1) := by
  have e1 := zp_prod hV (zp_PL0 hT h h0.2.2.1 h0.2.2.2) (by omega)
  have e2 := zp_sum e1 (zp_SL0 hT h h0.1 h0.2.1) (by omega)
  rw [List.append_nil, List.append_nil] at e2
  exact e2
/-- step-step/n*n -/
theorem zp_sumM (hT : zp_T tk tg tv sv) {v1 v2 v3 v4 v5 v6 : Int32} (g0 : sv[t]? = some (20, v1)) (g1 : sv[t + 1]? = some (41, v2)) (g2 : sv[t + 2]? = some (20, v3)) (g3 : sv[t + 3]? = some (43, v4)) (g4 : sv[t + 4]? = some (2, v)) (g5 : sv[t + 5]? = some (42, v5)) (g6 : sv[t + 6]? = some (2, v)) (h : sv[t + 7]? = some (s, v6)) (h0 : s ≠ 40 ∧ s ≠ 41 ∧ s ≠ 42 ∧ s ≠ 43) :
    zp_R H t (t + 7) [(20, 0), (20, 0), (2, v), (43, 0), (2, v), (42, 0), (41, 0)] (fun qn qu rd qd => f_X7_readSum rv rs qn qu rd hn tk tv qd tg x1) := by
  have p1 := zp_prod (rv := rv) (rs := rs) (hn := hn) (x1 := x1) (H := H) (zp_val_pl hT (Or.inl rfl) g0) (zp_PL0 hT g1 (by decide) (by decide)) (by omega)
  have l2 := zp_PL1 (rv := rv) (rs := rs) (hn := hn) (x1 := x1) (H := H) hT g5 (Or.inl rfl) (zp_val_num hT g6) (zp_PL0 hT h h0.2.2.1 h0.2.2.2)
  have l1 := zp_PL1 (rv := rv) (rs := rs) (hn := hn) (x1 := x1) (H := H) hT g3 (Or.inr rfl) (zp_val_num hT g4) l2
  have p2 := zp_prod (rv := rv) (rs := rs) (hn := hn) (x1 := x1) (H := H) (zp_val_pl hT (Or.inl rfl) g2) l1 (by omega)
  have s1 := zp_SL1 (rv := rv) (rs := rs) (hn := hn) (x1 := x1) (H := H) hT g1 (Or.inr rfl) p2 (zp_SL0 hT h h0.1 h0.2.1)
  exact zp_sum p1 s1 (by omega)
/-- tests -/
abbrev zp_TS (r1 rt rv rs : zp_Tr) (hn tk tv : m_Rr) (tg : Nat → Option Nat) (x1 : Int32) : zp_Ty := fun qn qu rd qd => f_X7_readSingle r1 rt rv rs qn qu rd hn tk tv qd tg x1
theorem zp_one_has (hT : zp_T tk tg tv sv) (hN : zp_H hn nm) {i : Nat} {v3 : Int32} (h : sv[t]? = some (27, v)) (h' : sv[t + 1]? = some (3, v3)) (hi : nm[i]? = some v3) : zp_R nm.length t (t + 2) [(27, nI i)] (zp_TS r1 rt rv rs hn tk tv tg x1) := by
  intro qn qu rd qd oc q3 q5 ho h3 h4
  obtain ⟨a1, a2, a3⟩ := zp_sign hT h3 h4 h
  have e2 := zp_hook hT hN (rd := q_up rd 3 (nI (t + 1))) q3 m_up_s (zp_rd h4) h' hi
  rw [zp_uu] at e2
  show f_X7_readSingle r1 rt rv rs qn qu rd hn tk tv qd tg x1 = _
  unfold f_X7_readSingle
  rw [a1, Option.bind_some, a2, Option.bind_some, q_ix_nI a3 (by decide), Option.bind_some, if_neg (by decide), if_neg (by decide), if_pos (by decide), h3, nI_1, e2, Option.bind_some, zp_ord0 (by decide) q5 ho, Option.bind_some]
theorem zp_one_same (hT : zp_T tk tg tv sv) (hN : zp_H hn nm) {i j : Nat} {v3 v4 : Int32} (h : sv[t]? = some (28, v)) (h' : sv[t + 1]? = some (3, v3)) (hi : nm[i]? = some v3) (h'' : sv[t + 2]? = some (3, v4)) (hj : nm[j]? = some v4) : zp_R nm.length t (t + 3) [(28, nI i * 6 + nI j)] (zp_TS r1 rt rv rs hn tk tv tg x1) := by
  intro qn qu rd qd oc q3 q5 ho h3 h4
  obtain ⟨a1, a2, a3⟩ := zp_sign hT h3 h4 h
  have e2 := zp_hook hT hN (rd := q_up rd 3 (nI (t + 1))) q3 m_up_s (zp_rd h4) h' hi
  have e3 := zp_hook hT hN (rd := q_up rd 3 (nI (t + 2))) q3 m_up_s (zp_rd h4) h'' hj
  rw [zp_uu] at e2 e3
  show f_X7_readSingle r1 rt rv rs qn qu rd hn tk tv qd tg x1 = _
  unfold f_X7_readSingle
  rw [a1, Option.bind_some, a2, Option.bind_some, q_ix_nI a3 (by decide), Option.bind_some, if_neg (by decide), if_neg (by decide), if_neg (by decide), if_pos (by decide), h3, nI_1]
  unfold f_X7_readSame
  rw [e2, Option.bind_some, e3, Option.bind_some, zp_ord0 (by decide) q5 ho, Option.bind_some, Option.bind_some]
theorem zp_deep {rd : m_Rr} (hx : x1 < 8) (h3 : rd 3 = nI t) : f_X7_takeDeeper rd x1 = some (true, q_up rd 3 (nI (t + 1))) := by
  unfold f_X7_takeDeeper
  rw [if_pos hx, h3, nI_1]
theorem zp_one_not (hT : zp_T tk tg tv sv) (hx : x1 < 8) (h : sv[t]? = some (29, v)) (hV : zp_R H (t + 1) t1 os (fun qn qu rd qd => r1 qn qu rd hn tk tv qd tg (x1 + 1))) : zp_R H t t1 (os ++ [(29, 0)]) (zp_TS r1 rt rv rs hn tk tv tg x1) := by
  intro qn qu rd qd oc q3 q5 ho h3 h4
  obtain ⟨a1, a2, a3⟩ := zp_sign hT h3 h4 h
  have ho2 : oc + os.length ≤ 400 := by rw [List.length_append] at ho; omega
  have e1 := hV qn qu (q_up rd 3 (nI (t + 1))) qd oc q3 q5 ho2 m_up_s (zp_rd h4)
  rw [zp_uu] at e1
  have e1 : r1 qn qu _ hn tk tv qd tg (x1 + 1) = _ := e1
  show f_X7_readSingle r1 rt rv rs qn qu rd hn tk tv qd tg x1 = _
  unfold f_X7_readSingle
  rw [a1, Option.bind_some, a2, Option.bind_some, q_ix_nI a3 (by decide), Option.bind_some, if_pos (by decide), zp_deep hx h3, Option.bind_some, if_neg (show ¬ q_bz true = 0 by decide), e1, Option.bind_some, zp_ord (by decide) ho, Option.bind_some]
theorem zp_one_open (hT : zp_T tk tg tv sv) (hx : x1 < 8) {v2 : Int32} (h : sv[t]? = some (36, v)) (hV : zp_R H (t + 1) t1 os (fun qn qu rd qd => rt qn qu rd hn tk tv qd tg (x1 + 1))) (h' : sv[t1]? = some (37, v2)) : zp_R H t (t1 + 1) os (zp_TS r1 rt rv rs hn tk tv tg x1) := by
  intro qn qu rd qd oc q3 q5 ho h3 h4
  obtain ⟨a1, a2, a3⟩ := zp_sign hT h3 h4 h
  have e1 := hV qn qu (q_up rd 3 (nI (t + 1))) qd oc q3 q5 ho m_up_s (zp_rd h4)
  rw [zp_uu] at e1
  have e2 := zp_take hT (rd := q_up rd 3 (nI t1)) m_up_s (zp_rd h4) h'
  rw [zp_uu] at e2
  have e1 : rt qn qu _ hn tk tv qd tg (x1 + 1) = _ := e1
  show f_X7_readSingle r1 rt rv rs qn qu rd hn tk tv qd tg x1 = _
  unfold f_X7_readSingle
  rw [a1, Option.bind_some, a2, Option.bind_some, q_ix_nI a3 (by decide), Option.bind_some, if_neg (by decide), if_pos (by decide), zp_deep hx h3, Option.bind_some, if_neg (show ¬ q_bz true = 0 by decide), e1, Option.bind_some, e2, Option.bind_some]
theorem zp_rel_is (hs : s = 44 ∨ s = 45 ∨ s = 46 ∨ s = 47 ∨ s = 48) : f_X7_isRelation s = some true := by
  rcases hs with rfl | rfl | rfl | rfl | rfl <;> rfl
theorem zp_one_rel (hT : zp_T tk tg tv sv) {s0 : Nat} {v0 : Int32} (h : sv[t]? = some (s0, v0)) (hs0 : q_sw s0 ≠ 5 ∧ q_sw s0 ≠ 6 ∧ q_sw s0 ≠ 7 ∧ q_sw s0 ≠ 8) (hV : zp_R H t t1 os (fun qn qu rd qd => f_X7_readSum rv rs qn qu rd hn tk tv qd tg x1)) (h' : sv[t1]? = some (s, v)) (hs : s = 44 ∨ s = 45 ∨ s = 46 ∨ s = 47 ∨ s = 48) (hV2 : zp_R H (t1 + 1) t2 os2 (fun qn qu rd qd => f_X7_readSum rv rs qn qu rd hn tk tv qd tg x1)) : zp_R H t t2 ((os ++ os2) ++ [(s, 0)]) (zp_TS r1 rt rv rs hn tk tv tg x1) := by
  intro qn qu rd qd oc q3 q5 ho h3 h4
  obtain ⟨a1, a2, a3⟩ := zp_sign hT h3 h4 h
  have ho2 : oc + (os.length + os2.length) ≤ 400 := by rw [List.length_append, List.length_append] at ho; omega
  have e1 := hV qn qu rd qd oc q3 q5 (by omega) h3 h4
  obtain ⟨b1, b2, b3⟩ := zp_sign hT (rd := q_up rd 3 (nI t1)) m_up_s (zp_rd h4) h'
  have e3 := hV2 (q_up qn 5 (nI (oc + os.length))) (zo_u qu oc os) (q_up (q_up rd 3 (nI t1)) 3 (nI (t1 + 1))) (zo_d qd oc os) (oc + os.length) (zp_n3 q3) m_up_s (by omega) m_up_s (zp_rd (zp_rd h4))
  rw [zp_uu, zp_uu, zp_uu, ← zo_u_app, ← zo_d_app, Nat.add_assoc, ← List.length_append] at e3
  have e1 : f_X7_readSum rv rs qn qu rd hn tk tv qd tg x1 = _ := e1
  have e3 : f_X7_readSum rv rs _ _ _ hn tk tv _ tg x1 = _ := e3
  show f_X7_readSingle r1 rt rv rs qn qu rd hn tk tv qd tg x1 = _
  unfold f_X7_readSingle
  rw [a1, Option.bind_some, a2, Option.bind_some, q_ix_nI a3 (by decide), Option.bind_some, if_neg hs0.1, if_neg hs0.2.1, if_neg hs0.2.2.1, if_neg hs0.2.2.2, e1, Option.bind_some]
  dsimp only
  rw [b1, Option.bind_some, b2, Option.bind_some, zp_rel_is hs, Option.bind_some, if_neg (show ¬ q_bz true = 0 by decide), m_up_s, nI_1, zp_uu, e3, Option.bind_some, zp_ord b3 ho, Option.bind_some]
abbrev zp_BL (r1 rt rv rs : zp_Tr) (hn tk tv : m_Rr) (tg : Nat → Option Nat) (x1 : Int32) : Nat → m_Rr → m_Rr → m_Rr → (Nat → Option Nat) → Int32 → Option (m_Rr × m_Rr × m_Rr × (Nat → Option Nat)) := fun fu qn qu rd qd v => f_X7_readBoth_L5 r1 rt rv rs hn tk tv tg x1 fu qn qu rd qd v
theorem zp_BL0 (hT : zp_T tk tg tv sv) (h : sv[t]? = some (s, v)) (h1 : s ≠ 30) : zp_L H t t [] 0 (zp_BL r1 rt rv rs hn tk tv tg x1) := by
  intro qn qu rd qd oc fu i hfu hi q3 q5 ho h3 h4
  obtain ⟨fu, rfl⟩ : ∃ z, fu = z + 1 := ⟨fu - 1, by omega⟩
  obtain ⟨a1, a2, a3⟩ := zp_sign hT h3 h4 h
  show f_X7_readBoth_L5 r1 rt rv rs hn tk tv tg x1 (fu + 1) qn qu rd qd (nI i) = _
  rw [f_X7_readBoth_L5, if_neg (zp_i400 hi), a1, Option.bind_some, a2, Option.bind_some, if_neg h1]
  exact zp_same q5 h3
theorem zp_BL1 (hT : zp_T tk tg tv sv) (h : sv[t]? = some (30, v)) (hV : zp_R H (t + 1) t1 os (zp_TS r1 rt rv rs hn tk tv tg x1)) (hL : zp_L H t1 t2 os2 k (zp_BL r1 rt rv rs hn tk tv tg x1)) : zp_L H t t2 ((os ++ [(30, 0)]) ++ os2) (k + 1) (zp_BL r1 rt rv rs hn tk tv tg x1) := by
  intro qn qu rd qd oc fu i hfu hi q3 q5 ho h3 h4
  obtain ⟨fu, rfl⟩ : ∃ z, fu = z + 1 := ⟨fu - 1, by omega⟩
  obtain ⟨a1, a2, a3⟩ := zp_sign hT h3 h4 h
  rw [List.length_append] at ho
  have ho2 : oc + os.length ≤ 400 := by rw [List.length_append] at ho; omega
  have e1 := hV qn qu (q_up rd 3 (nI (t + 1))) qd oc q3 q5 ho2 m_up_s (zp_rd h4)
  rw [zp_uu] at e1
  have e2 := zp_ord (v := 0) (qn := qn) (qu := qu) (qd := qd) (os := os) (oc := oc) a3 (by omega)
  have e3 := hL (q_up qn 5 (nI (oc + (os ++ [(30, 0)]).length))) (zo_u qu oc (os ++ [(30, 0)])) (q_up rd 3 (nI t1)) (zo_d qd oc (os ++ [(30, 0)])) (oc + (os ++ [(30, 0)]).length) fu (i + 1) (by omega) (by omega) (zp_n3 q3) m_up_s (by omega) m_up_s (zp_rd h4)
  rw [zp_uu, zp_uu, ← zo_u_app, ← zo_d_app, Nat.add_assoc, ← List.length_append] at e3
  have e1 : f_X7_readSingle r1 rt rv rs qn qu _ hn tk tv qd tg x1 = _ := e1
  show f_X7_readBoth_L5 r1 rt rv rs hn tk tv tg x1 (fu + 1) qn qu rd qd (nI i) = _
  rw [f_X7_readBoth_L5, if_neg (zp_i400 hi), a1, Option.bind_some, a2, Option.bind_some, if_pos rfl, h3, nI_1, e1, Option.bind_some, e2, Option.bind_some, nI_1]
  exact e3
abbrev zp_TB (r1 rt rv rs : zp_Tr) (hn tk tv : m_Rr) (tg : Nat → Option Nat) (x1 : Int32) : zp_Ty := fun qn qu rd qd => f_X7_readBoth r1 rt rv rs qn qu rd hn tk tv qd tg x1
theorem zp_both (hV : zp_R H t t1 os (zp_TS r1 rt rv rs hn tk tv tg x1)) (hL : zp_L H t1 t2 os2 k (zp_BL r1 rt rv rs hn tk tv tg x1)) (hk : k < 400) : zp_R H t t2 (os ++ os2) (zp_TB r1 rt rv rs hn tk tv tg x1) := by
  intro qn qu rd qd oc q3 q5 ho h3 h4
  rw [List.length_append] at ho
  have e1 := hV qn qu rd qd oc q3 q5 (by omega) h3 h4
  have e3 := hL (q_up qn 5 (nI (oc + os.length))) (zo_u qu oc os) (q_up rd 3 (nI t1)) (zo_d qd oc os) (oc + os.length) 4096 0 (by omega) (by omega) (zp_n3 q3) m_up_s (by omega) m_up_s (zp_rd h4)
  rw [zp_uu, zp_uu, ← zo_u_app, ← zo_d_app, Nat.add_assoc, ← List.length_append] at e3
  have e1 : f_X7_readSingle r1 rt rv rs qn qu rd hn tk tv qd tg x1 = _ := e1
  have e3 : f_X7_readBoth_L5 r1 rt rv rs hn tk tv tg x1 4096 _ _ _ _ 0 = _ := e3
  show f_X7_readBoth r1 rt rv rs qn qu rd hn tk tv qd tg x1 = _
  unfold f_X7_readBoth
  rw [e1, Option.bind_some, e3, Option.bind_some]
abbrev zp_OL (r1 rt rv rs : zp_Tr) (hn tk tv : m_Rr) (tg : Nat → Option Nat) (x1 : Int32) : Nat → m_Rr → m_Rr → m_Rr → (Nat → Option Nat) → Int32 → Option (m_Rr × m_Rr × m_Rr × (Nat → Option Nat)) := fun fu qn qu rd qd v => f_X7_readTest_L5 r1 rt rv rs hn tk tv tg x1 fu qn qu rd qd v
theorem zp_OL0 (hT : zp_T tk tg tv sv) (h : sv[t]? = some (s, v)) (h1 : s ≠ 31) : zp_L H t t [] 0 (zp_OL r1 rt rv rs hn tk tv tg x1) := by
  intro qn qu rd qd oc fu i hfu hi q3 q5 ho h3 h4
  obtain ⟨fu, rfl⟩ : ∃ z, fu = z + 1 := ⟨fu - 1, by omega⟩
  obtain ⟨a1, a2, a3⟩ := zp_sign hT h3 h4 h
  show f_X7_readTest_L5 r1 rt rv rs hn tk tv tg x1 (fu + 1) qn qu rd qd (nI i) = _
  rw [f_X7_readTest_L5, if_neg (zp_i400 hi), a1, Option.bind_some, a2, Option.bind_some, if_neg h1]
  exact zp_same q5 h3
theorem zp_OL1 (hT : zp_T tk tg tv sv) (h : sv[t]? = some (31, v)) (hV : zp_R H (t + 1) t1 os (zp_TB r1 rt rv rs hn tk tv tg x1)) (hL : zp_L H t1 t2 os2 k (zp_OL r1 rt rv rs hn tk tv tg x1)) : zp_L H t t2 ((os ++ [(31, 0)]) ++ os2) (k + 1) (zp_OL r1 rt rv rs hn tk tv tg x1) := by
  intro qn qu rd qd oc fu i hfu hi q3 q5 ho h3 h4
  obtain ⟨fu, rfl⟩ : ∃ z, fu = z + 1 := ⟨fu - 1, by omega⟩
  obtain ⟨a1, a2, a3⟩ := zp_sign hT h3 h4 h
  rw [List.length_append] at ho
  have ho2 : oc + os.length ≤ 400 := by rw [List.length_append] at ho; omega
  have e1 := hV qn qu (q_up rd 3 (nI (t + 1))) qd oc q3 q5 ho2 m_up_s (zp_rd h4)
  rw [zp_uu] at e1
  have e2 := zp_ord (v := 0) (qn := qn) (qu := qu) (qd := qd) (os := os) (oc := oc) a3 (by omega)
  have e3 := hL (q_up qn 5 (nI (oc + (os ++ [(31, 0)]).length))) (zo_u qu oc (os ++ [(31, 0)])) (q_up rd 3 (nI t1)) (zo_d qd oc (os ++ [(31, 0)])) (oc + (os ++ [(31, 0)]).length) fu (i + 1) (by omega) (by omega) (zp_n3 q3) m_up_s (by omega) m_up_s (zp_rd h4)
  rw [zp_uu, zp_uu, ← zo_u_app, ← zo_d_app, Nat.add_assoc, ← List.length_append] at e3
  have e1 : f_X7_readBoth r1 rt rv rs qn qu _ hn tk tv qd tg x1 = _ := e1
  show f_X7_readTest_L5 r1 rt rv rs hn tk tv tg x1 (fu + 1) qn qu rd qd (nI i) = _
  rw [f_X7_readTest_L5, if_neg (zp_i400 hi), a1, Option.bind_some, a2, Option.bind_some, if_pos rfl, h3, nI_1, e1, Option.bind_some, e2, Option.bind_some, nI_1]
  exact e3
abbrev zp_TT (r1 rt rv rs : zp_Tr) (hn tk tv : m_Rr) (tg : Nat → Option Nat) (x1 : Int32) : zp_Ty := fun qn qu rd qd => f_X7_readTest r1 rt rv rs qn qu rd hn tk tv qd tg x1
theorem zp_test (hV : zp_R H t t1 os (zp_TB r1 rt rv rs hn tk tv tg x1)) (hL : zp_L H t1 t2 os2 k (zp_OL r1 rt rv rs hn tk tv tg x1)) (hk : k < 400) : zp_R H t t2 (os ++ os2) (zp_TT r1 rt rv rs hn tk tv tg x1) := by
  intro qn qu rd qd oc q3 q5 ho h3 h4
  rw [List.length_append] at ho
  have e1 := hV qn qu rd qd oc q3 q5 (by omega) h3 h4
  have e3 := hL (q_up qn 5 (nI (oc + os.length))) (zo_u qu oc os) (q_up rd 3 (nI t1)) (zo_d qd oc os) (oc + os.length) 4096 0 (by omega) (by omega) (zp_n3 q3) m_up_s (by omega) m_up_s (zp_rd h4)
  rw [zp_uu, zp_uu, ← zo_u_app, ← zo_d_app, Nat.add_assoc, ← List.length_append] at e3
  have e1 : f_X7_readBoth r1 rt rv rs qn qu rd hn tk tv qd tg x1 = _ := e1
  have e3 : f_X7_readTest_L5 r1 rt rv rs hn tk tv tg x1 4096 _ _ _ _ 0 = _ := e3
  show f_X7_readTest r1 rt rv rs qn qu rd hn tk tv qd tg x1 = _
  unfold f_X7_readTest
  rw [e1, Option.bind_some, e3, Option.bind_some]
/-- one test alone -/
theorem zp_test1 (hT : zp_T tk tg tv sv) (hV : zp_R H t t1 os (zp_TS r1 rt rv rs hn tk tv tg x1)) (h : sv[t1]? = some (s, v)) (h0 : s ≠ 30 ∧ s ≠ 31) : zp_R H t t1 os (zp_TT r1 rt rv rs hn tk tv tg x1) := by
  have e1 := zp_both hV (zp_BL0 hT h h0.1) (by omega)
  have e2 := zp_test e1 (zp_OL0 hT h h0.2) (by omega)
  rw [List.append_nil, List.append_nil] at e2
  exact e2
theorem zp_both1 (hT : zp_T tk tg tv sv) (hV : zp_R H t t1 os (zp_TS r1 rt rv rs hn tk tv tg x1)) (h : sv[t1]? = some (s, v)) (h0 : s ≠ 30) : zp_R H t t1 os (zp_TB r1 rt rv rs hn tk tv tg x1) := by
  have e1 := zp_both hV (zp_BL0 hT h h0) (by omega)
  rw [List.append_nil] at e1
  exact e1
end ZREAD
