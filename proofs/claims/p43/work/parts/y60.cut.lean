/-! A TEXT IS CUT INTO ITS WORDS, by the class alone -/
section ZCUT
/-- the class's tape holds these bytes -/
def zt_T (tp : m_Rr) (bs : List Int32) : Prop := bs.length ≤ 2000 ∧ m_By tp tp ∧ (∀ j, m_vC tp bs.length j = bs.getD j 0) ∧ ∀ j, m_vR tp bs.length j = if j < bs.length then bs.getD j 0 else -1
theorem zt_T_of {tp : m_Rr} {bs : List Int32} (h1 : bs.length ≤ 2000) (h2 : ∀ j, j < 2000 → ∃ b, b < 128 ∧ tp j = nI b) (h3 : ∀ j, j < bs.length → tp j = bs.getD j 0) : zt_T tp bs := by
  have hb : ∀ b, b < 128 → (nI b).toInt8.toInt32 = nI b := fun b hb => m_byte_of (by rw [nI_toInt (by omega)]; omega) (by rw [nI_toInt (by omega)]; omega)
  have hg : ∀ j, ¬ j < bs.length → bs.getD j 0 = 0 := fun j hj => by rw [List.getD_eq_getElem?_getD, List.getElem?_eq_none (by omega)]; rfl
  have hc : ∀ j, j < bs.length → ∃ b, b < 128 ∧ tp j = nI b ∧ m_ch tp bs.length j = b := fun j hj => by
    obtain ⟨b, b1, b2⟩ := h2 j (by omega)
    exact ⟨b, b1, b2, m_ch_lt hj b2 (by omega)⟩
  refine ⟨h1, fun j hj => ?_, fun j => ?_, fun j => ?_⟩
  · obtain ⟨b, b1, b2⟩ := h2 j hj
    exact ⟨by rw [b2, hb b b1], b, by omega, b2⟩
  · unfold m_vC
    by_cases hj : j < bs.length
    · obtain ⟨b, b1, b2, b3⟩ := hc j hj
      rw [b3, if_neg (by omega), ← h3 j hj, b2]
      exact hb b b1
    · rw [if_pos (by unfold m_ch; rw [if_neg hj]), hg j hj]
  · unfold m_vR
    by_cases hj : j < bs.length
    · obtain ⟨b, b1, b2, b3⟩ := hc j hj
      rw [b3, if_neg (by omega), if_pos hj, ← h3 j hj, b2]
    · rw [if_pos (by unfold m_ch; rw [if_neg hj]), if_neg hj]
theorem zt_run {P : Nat → Bool} : ∀ (k n e : Nat), k ≤ n → (∀ i, i < k → P (e + i) = true) → P (e + k) = false → m_run P n e = e + k := by
  intro k
  induction k with
  | zero =>
    intro n e _ _ h
    cases n with
    | zero => rfl
    | succ n => rw [m_run, if_neg (by rw [show e = e + 0 from rfl, h]; decide)]; rfl
  | succ k ih =>
    intro n e hn h1 h2
    obtain ⟨n, rfl⟩ : ∃ z, n = z + 1 := ⟨n - 1, by omega⟩
    rw [m_run, if_pos (show P e = true from h1 0 (by omega)), ih n (e + 1) (by omega) (fun i hi => by rw [show e + 1 + i = e + (i + 1) by omega]; exact h1 (i + 1) (by omega)) (by rw [show e + 1 + k = e + (k + 1) by omega]; exact h2)]
    omega
theorem zt_dr {bs : List Int32} {e i : Nat} : bs.getD (e + i) 0 = (bs.drop e).getD i 0 := by
  rw [List.getD_eq_getElem?_getD, List.getD_eq_getElem?_getD, List.getElem?_drop]
theorem zt_l {a r : List Int32} {i : Nat} (h : i < a.length) : (a ++ r).getD i 0 = a.getD i 0 := by
  rw [List.getD_eq_getElem?_getD, List.getD_eq_getElem?_getD, List.getElem?_append_left h]
theorem zt_r {a r : List Int32} : (a ++ r).getD a.length 0 = r.getD 0 0 := by
  rw [List.getD_eq_getElem?_getD, List.getD_eq_getElem?_getD, List.getElem?_append_right (Nat.le_refl _), Nat.sub_self]
theorem zt_mem {a : List Int32} {i : Nat} (h : i < a.length) : a.getD i 0 ∈ a := by
  rw [List.getD_eq_getElem?_getD, List.getElem?_eq_getElem h]
  exact List.getElem_mem h
theorem zt_len {bs a r : List Int32} {p : Nat} (h : bs.drop p = a ++ r) (ha : a ≠ []) : p + a.length + r.length = bs.length := by
  have h1 := congrArg List.length h
  rw [List.length_drop, List.length_append] at h1
  have h2 : 0 < a.length := List.length_pos_iff.mpr ha
  omega
/-- a word, and what may stand behind it -/
def zt_ch (w : List Int32) (c : Int32) : Bool := match w with
  | [] => false
  | a :: t => (!decide (a = 32) && !decide (a = 10)) && (if m_iL a = true then t.all (fun x => m_iL x || m_iD x) && (decide (t.length < 10) && !(m_iL c || m_iD c))
    else if m_iD a = true then t.all m_iD && (decide (t.length < 6) && !m_iD c)
    else match t with
      | [] => decide ((m_fnd m_SC [a, c] 49 0).getD 1 = 1) && !decide ((m_fnd m_SC [a] 49 0).getD 1 = 1)
      | [b] => !decide ((m_fnd m_SC [a, b] 49 0).getD 1 = 1)
      | _ => false)
def zt_sg (w : List Int32) : Nat := if m_iD (w.getD 0 0) = true then 2 else if (m_fnd m_SC w 49 0).getD 1 = 1 then 3 else (m_fnd m_SC w 49 0).getD 1
theorem zt_fnd {w : List Int32} : (m_fnd m_SC w 49 0).getD 1 < 49 := by
  cases h : m_fnd m_SC w 49 0 with
  | none => show 1 < 49; decide
  | some k => have := m_fnd_some h; show k < 49; omega
theorem zt_sg_lt {w : List Int32} : zt_sg w < 49 := by
  unfold zt_sg
  have := zt_fnd (w := w)
  split
  · decide
  · split
    · decide
    · exact this
variable {tp tk : m_Rr} {bs w r : List Int32} {p : Nat}
theorem zt_at (hT : zt_T tp bs) (hk : tk 5 = nI bs.length) {j : Nat} (hj : j < 2 ^ 31) : f_X11_at tp tk (nI j) = some (bs.getD j 0) := by
  rw [m_atC hT.2.1 hT.1 hk hj, hT.2.2.1]
theorem zt_W (hT : zt_T tp bs) (h : bs.drop p = w ++ r) : m_W (m_vC tp bs.length) p w.length = w := by
  refine (m_W_eq.mpr ⟨rfl, fun i hi => ?_⟩).symm
  rw [hT.2.2.1, zt_dr, h, zt_l hi]
theorem zt_W2 (hT : zt_T tp bs) {a : Int32} (h : bs.drop p = [a] ++ r) : m_W (m_vC tp bs.length) p 2 = [a, r.getD 0 0] := by
  refine ((m_W_eq (f := m_vC tp bs.length) (p := p) (len := 2) (l := [a, r.getD 0 0])).mpr ⟨rfl, fun i hi => ?_⟩).symm
  rw [hT.2.2.1, zt_dr, h]
  have : i = 0 ∨ i = 1 := by omega
  rcases this with rfl | rfl
  · rfl
  · exact zt_r (a := [a])
theorem zt_vR (hT : zt_T tp bs) (h : bs.drop p = w ++ r) {i : Nat} (hi : i < w.length) : m_vR tp bs.length (p + i) = w.getD i 0 := by
  have hw : w ≠ [] := fun e => by rw [e] at hi; exact absurd hi (Nat.not_lt_zero _)
  have hl := zt_len h hw
  rw [hT.2.2.2, if_pos (by omega), zt_dr, h, zt_l hi]
theorem zt_vRe (hT : zt_T tp bs) (h : bs.drop p = w ++ r) (hw : w ≠ []) : m_vR tp bs.length (p + w.length) = -1 ∨ m_vR tp bs.length (p + w.length) = r.getD 0 0 := by
  have hl := zt_len h hw
  rw [hT.2.2.2]
  by_cases e : p + w.length < bs.length
  · rw [if_pos e, zt_dr, h, zt_r]; exact Or.inr rfl
  · rw [if_neg e]; exact Or.inl rfl
theorem zt_tokL (hT : zt_T tp bs) (hk : tk 5 = nI bs.length) (h : bs.drop p = w ++ r) (hc : zt_ch w (r.getD 0 0) = true) : f_X11_tokenLength tp tk (nI p) = some (nI w.length) ∧ 1 ≤ w.length ∧ w.length ≤ 10 := by
  have hn1 : m_iL (-1) = false := by decide
  have hn2 : m_iD (-1) = false := by decide
  have hz := hT.1
  cases w with
  | nil => cases hc
  | cons a t =>
    have hne : a :: t ≠ [] := List.cons_ne_nil _ _
    have hl := zt_len h hne
    have hlc : (a :: t).length = t.length + 1 := rfl
    have hat : f_X11_at tp tk (nI p) = some a := by
      rw [zt_at hT hk (by omega), show p = p + 0 from rfl, zt_dr, h, zt_l (by rw [hlc]; omega)]; rfl
    unfold zt_ch at hc
    rw [Bool.and_eq_true] at hc
    obtain ⟨-, hc⟩ := hc
    unfold f_X11_tokenLength
    rw [hat, Option.bind_some, m_isLC, Option.bind_some]
    by_cases hL : m_iL a = true
    · rw [if_pos hL] at hc
      simp only [Bool.and_eq_true, Bool.not_eq_true', decide_eq_true_eq, List.all_eq_true] at hc
      obtain ⟨c1, c2, c3⟩ := hc
      have hrun : m_run (m_pW tp bs.length) (bs.length - p) p = p + (a :: t).length := by
        refine zt_run _ _ _ (by omega) (fun i hi => ?_) ?_
        · unfold m_pW
          rw [zt_vR hT h hi]
          cases i with
          | zero => show (m_iL a || m_iD a) = true; rw [hL]; rfl
          | succ i =>
            have hi2 : i < t.length := by omega
            exact c1 _ (zt_mem hi2)
        · unfold m_pW
          rcases zt_vRe hT h hne with e | e
          · rw [e]; decide
          · rw [e]; exact c3
      have hw := m_wordC hT.2.1 hT.1 hk (bs.length - p) p 4096 (by omega) (by omega)
      rw [hrun] at hw
      rw [hL, if_neg (show ¬ q_bz true = 0 by decide)]
      unfold f_X11_wordLength
      rw [hw, Option.bind_some, Option.bind_some, pk_sub (by omega), show p + (a :: t).length - p = (a :: t).length by omega]
      unfold f_X11_lengthWithin
      rw [if_neg (show ¬ (10 : Int32) < nI (a :: t).length from m_nlt (a := 10) (by omega) (by decide))]
      exact ⟨rfl, by omega, by omega⟩
    · rw [if_neg hL] at hc
      have hL0 : m_iL a = false := Bool.eq_false_iff.mpr hL
      rw [hL0, if_pos (show q_bz false = 0 from rfl), Option.bind_some, m_isDC, Option.bind_some]
      by_cases hD : m_iD a = true
      · rw [if_pos hD] at hc
        simp only [Bool.and_eq_true, Bool.not_eq_true', decide_eq_true_eq, List.all_eq_true] at hc
        obtain ⟨c1, c2, c3⟩ := hc
        have hrun : m_run (m_pD tp bs.length) (bs.length - p) p = p + (a :: t).length := by
          refine zt_run _ _ _ (by omega) (fun i hi => ?_) ?_
          · unfold m_pD
            rw [zt_vR hT h hi]
            cases i with
            | zero => exact hD
            | succ i =>
              have hi2 : i < t.length := by omega
              exact c1 _ (zt_mem hi2)
          · unfold m_pD
            rcases zt_vRe hT h hne with e | e
            · rw [e]; decide
            · rw [e]; exact c3
        have hw := m_digitC hT.2.1 hT.1 hk (bs.length - p) p 4096 (by omega) (by omega)
        rw [hrun] at hw
        rw [hD, if_neg (show ¬ q_bz true = 0 by decide)]
        unfold f_X11_digitCount
        rw [hw, Option.bind_some, Option.bind_some, pk_sub (by omega), show p + (a :: t).length - p = (a :: t).length by omega]
        unfold f_X11_lengthWithin
        rw [if_neg (show ¬ (6 : Int32) < nI (a :: t).length from m_nlt (a := 6) (by omega) (by decide))]
        exact ⟨rfl, by omega, by omega⟩
      · rw [if_neg hD] at hc
        have hD0 : m_iD a = false := Bool.eq_false_iff.mpr hD
        rw [hD0, if_pos (show q_bz false = 0 from rfl)]
        have hp20 : p < 2 ^ 20 := by omega
        obtain ⟨g1, g2⟩ := m_signC hT.2.1 hT.1 hk (len := 2) hp20 (by decide)
        rw [show (2 : Int32) = nI 2 from rfl, g1, Option.bind_some, g2, Option.bind_some]
        cases t with
        | nil =>
          simp only [Bool.and_eq_true, Bool.not_eq_true', decide_eq_true_eq, decide_eq_false_iff_not] at hc
          obtain ⟨c1, c2⟩ := hc
          rw [zt_W2 hT h, if_pos c1]
          obtain ⟨g3, g4⟩ := m_signC hT.2.1 hT.1 hk (len := 1) hp20 (by decide)
          have eW := zt_W hT h
          have eW : m_W (m_vC tp bs.length) p 1 = [a] := eW
          rw [eW] at g3 g4
          rw [show (1 : Int32) = nI 1 from rfl, g3, Option.bind_some, g4, Option.bind_some, if_neg c2]
          exact ⟨rfl, Nat.le_refl 1, Nat.le_of_ble_eq_true rfl⟩
        | cons b t =>
          cases t with
          | nil =>
            have eW := zt_W hT h
            have eW : m_W (m_vC tp bs.length) p 2 = [a, b] := eW
            have c2 : ¬ (m_fnd m_SC [a, b] 49 0).getD 1 = 1 := fun e => by
              have hc : (!decide ((m_fnd m_SC [a, b] 49 0).getD 1 = 1)) = true := hc
              rw [decide_eq_true e] at hc; cases hc
            rw [eW, if_neg c2]
            exact ⟨rfl, Nat.le_of_ble_eq_true rfl, Nat.le_of_ble_eq_true rfl⟩
          | cons b2 t => cases hc
theorem zt_tokS (hT : zt_T tp bs) (hk : tk 5 = nI bs.length) (h : bs.drop p = w ++ r) (h1 : 1 ≤ w.length) (h10 : w.length ≤ 10) : f_X11_tokenSign tp tk (nI p) (nI w.length) = some (zt_sg w) := by
  have hne : w ≠ [] := fun e => by rw [e] at h1; exact absurd h1 (by decide)
  have hl := zt_len h hne
  have hz := hT.1
  have hat : f_X11_at tp tk (nI p) = some (w.getD 0 0) := by
    rw [zt_at hT hk (by omega), show p = p + 0 from rfl, zt_dr, h, zt_l (by omega)]
  unfold f_X11_tokenSign zt_sg
  rw [hat, Option.bind_some, m_isDC, Option.bind_some]
  by_cases hD : m_iD (w.getD 0 0) = true
  · rw [hD, if_neg (show ¬ q_bz true = 0 by decide), if_pos rfl]
  · have hD0 : m_iD (w.getD 0 0) = false := Bool.eq_false_iff.mpr hD
    obtain ⟨g1, g2⟩ := m_signC hT.2.1 hT.1 hk (p := p) (len := w.length) (by omega) (by omega)
    rw [hD0, if_pos (show q_bz false = 0 from rfl), if_neg Bool.false_ne_true, g1, Option.bind_some, g2, Option.bind_some, zt_W hT h]
    by_cases e : (m_fnd m_SC w 49 0).getD 1 = 1
    · rw [if_pos e, if_pos e]
    · rw [if_neg e, if_neg e]
def zt_num (w : List Int32) (v : Int32) : Int32 := w.foldl (fun v x => v * 10 + x - 48) v
theorem zt_numL (hT : zt_T tp bs) (hk : tk 5 = nI bs.length) (h : bs.drop p = w ++ r) (h10 : w.length ≤ 10) (hp : p < 2 ^ 20) : ∀ (t : List Int32) (i fu : Nat) (v : Int32), w.drop i = t → i ≤ w.length → t.length < fu → f_X11_numberAt_L4 tp tk (nI p) (nI w.length) fu v (nI i) = some (zt_num t v) := by
  intro t
  induction t with
  | nil =>
    intro i fu v hi hi2 hfu
    obtain ⟨fu, rfl⟩ : ∃ z, fu = z + 1 := ⟨fu - 1, by have : ([] : List Int32).length = 0 := rfl; omega⟩
    have hl := congrArg List.length hi
    rw [List.length_drop] at hl
    have hl : w.length - i = 0 := hl
    rw [f_X11_numberAt_L4, if_pos (nI_le (by omega) (by omega))]; rfl
  | cons x t ih =>
    intro i fu v hi hi2 hfu
    have hlc : (x :: t).length = t.length + 1 := rfl
    obtain ⟨fu, rfl⟩ : ∃ z, fu = z + 1 := ⟨fu - 1, by omega⟩
    have hl := congrArg List.length hi
    rw [List.length_drop, hlc] at hl
    have ex : w.getD i 0 = x := by rw [show i = i + 0 from rfl, zt_dr, hi]; rfl
    have hd : w.drop (i + 1) = t := by rw [← List.drop_drop, hi]; rfl
    rw [f_X11_numberAt_L4, if_neg (nI_ge (by omega) (by omega)), nI_add, zt_at hT hk (by omega), Option.bind_some, zt_dr, h, zt_l (by omega), ex, nI_1, ih (i + 1) fu _ hd (by omega) (by omega)]
    rfl
/-- the first word that is w, counted from k -/
def zt_ix (w : List Int32) : List (List Int32) → Nat → Nat
  | [], k => k
  | x :: t, k => if x = w then k else zt_ix w t (k + 1)
theorem zt_ix_app {w : List Int32} {m : List (List Int32)} : ∀ {l : List (List Int32)} {k : Nat}, zt_ix w (l ++ m) k = if w ∈ l then zt_ix w l k else zt_ix w m (k + l.length)
  | [], k => by simp
  | x :: t, k => by
    show (if x = w then k else zt_ix w (t ++ m) (k + 1)) = if w ∈ x :: t then (if x = w then k else zt_ix w t (k + 1)) else zt_ix w m (k + (t.length + 1))
    by_cases e : x = w
    · rw [if_pos e, if_pos (by rw [e]; exact List.mem_cons_self), if_pos e]
    · rw [if_neg e, if_neg e, zt_ix_app]
      by_cases e2 : w ∈ t
      · rw [if_pos e2, if_pos (List.mem_cons_of_mem _ e2)]
      · rw [if_neg e2, if_neg (fun h => by
          rcases List.mem_cons.mp h with h | h
          · exact e h.symm
          · exact e2 h), show k + 1 + t.length = k + (t.length + 1) by omega]
def zt_val (L : List (List Int32)) (w : List Int32) : Int32 := if zt_sg w = 2 then zt_num w 0 else if zt_sg w = 3 then nI (zt_ix w L 0) else 0
/-- what is known of the words that are cut off -/
def zt_F (bs : List Int32) (tg : Nat → Option Nat) (ts tl tv : m_Rr) (L : List (List Int32)) : Prop := ∀ (i : Nat) (w : List Int32), L[i]? = some w → ∃ p r, bs.drop p = w ++ r ∧ p + w.length ≤ bs.length ∧ w.length ≤ 10 ∧ ts i = nI p ∧ tl i = nI w.length ∧ tg i = some (zt_sg w) ∧ tv i = zt_val L w
theorem zt_likeL {tg : Nat → Option Nat} {ts tl tv : m_Rr} {L : List (List Int32)} (hT : zt_T tp bs) (hk : tk 5 = nI bs.length) (h6 : tk 6 = nI L.length) (hL : L.length ≤ 400) (hF : zt_F bs tg ts tl tv L) (h : bs.drop p = w ++ r) (h1 : 1 ≤ w.length) (h10 : w.length ≤ 10) (hs : zt_sg w = 3) :
    ∀ (l : List (List Int32)) (i fu : Nat), L.drop i = l → i ≤ L.length → l.length < fu → f_X11_firstLike_L2 tp tk ts tl tg (nI p) (nI w.length) fu (nI i) = some (if w ∈ l then (1, nI (zt_ix w l i)) else (0, 0)) := by
  have hne : w ≠ [] := fun e => by rw [e] at h1; exact absurd h1 (by decide)
  have hlen := zt_len h hne
  have hz := hT.1
  intro l
  induction l with
  | nil =>
    intro i fu hi hi2 hfu
    obtain ⟨fu, rfl⟩ : ∃ z, fu = z + 1 := ⟨fu - 1, by have : ([] : List (List Int32)).length = 0 := rfl; omega⟩
    have hl := congrArg List.length hi
    rw [List.length_drop] at hl
    have hl : L.length - i = 0 := hl
    rw [f_X11_firstLike_L2, h6, if_pos (nI_le (by omega) (by omega)), if_neg List.not_mem_nil]
  | cons x t ih =>
    intro i fu hi hi2 hfu
    have hlc : (x :: t).length = t.length + 1 := rfl
    obtain ⟨fu, rfl⟩ : ∃ z, fu = z + 1 := ⟨fu - 1, by omega⟩
    have hl := congrArg List.length hi
    rw [List.length_drop, hlc] at hl
    have hix : L[i]? = some x := by
      have : (L.drop i)[0]? = some x := by rw [hi]; rfl
      rwa [List.getElem?_drop] at this
    have hd : L.drop (i + 1) = t := by rw [← List.drop_drop, hi]; rfl
    obtain ⟨q, r', f1, f2, f3, f4, f5, f6, -⟩ := hF i x hix
    have e401 : q_ix (nI i) 401 = some i := q_ix_nI (by omega) (by decide)
    have ih' := ih (i + 1) fu hd (by omega) (by omega)
    have hex : (if w ∈ x :: t then (1, nI (zt_ix w (x :: t) i)) else (0, 0)) = (if x = w then (1, nI i) else if w ∈ t then (1, nI (zt_ix w t (i + 1))) else ((0 : Nat), (0 : Int32))) := by
      show (if w ∈ x :: t then (1, nI (if x = w then i else zt_ix w t (i + 1))) else (0, 0)) = _
      by_cases e : x = w
      · rw [if_pos (by rw [e]; exact List.mem_cons_self), if_pos e, if_pos e]
      · rw [if_neg e, if_neg e]
        by_cases e2 : w ∈ t
        · rw [if_pos (List.mem_cons_of_mem _ e2), if_pos e2]
        · rw [if_neg (fun h => by
            rcases List.mem_cons.mp h with h | h
            · exact e h.symm
            · exact e2 h), if_neg e2]
    rw [hex, f_X11_firstLike_L2, h6, if_neg (nI_ge (by omega) (by omega)), if_neg (show ¬ (400 : Int32) < nI i from m_nlt (a := 400) (b := i) (by omega) (by decide)), e401, Option.bind_some, f6, nI_1]
    show (if zt_sg x = 3 then _ else _) = _
    rw [ih', Option.bind_some, Option.bind_some]
    by_cases e3 : zt_sg x = 3
    · rw [if_pos e3, f5]
      by_cases e4 : nI x.length = nI w.length
      · have e5 : x.length = w.length := (nI_eq (by omega) (by omega)).mp e4
        rw [if_neg (fun h => h e4), if_neg (by decide), f4, m_sameC hT.2.1 hT.1 hk (by omega) (by omega) (by omega), Option.bind_some, ← e5, zt_W hT f1, e5, zt_W hT h]
        by_cases e6 : x = w
        · rw [decide_eq_true e6, if_neg (show ¬ q_bz true = 0 by decide), if_pos e6]
        · rw [decide_eq_false e6, if_pos (show q_bz false = 0 from rfl), if_neg e6]
      · have e6 : ¬ x = w := fun e => e4 (by rw [e])
        rw [if_pos e4, if_pos rfl, if_neg e6]
    · have e6 : ¬ x = w := fun e => e3 (by rw [e]; exact hs)
      rw [if_neg e3, if_pos rfl, if_neg e6]
theorem zt_ix_not {w : List Int32} : ∀ {l : List (List Int32)} {k : Nat}, w ∉ l → zt_ix w l k = k + l.length
  | [], k, _ => rfl
  | x :: t, k, h => by
    show (if x = w then k else zt_ix w t (k + 1)) = k + (t.length + 1)
    rw [if_neg (fun e => h (by rw [e]; exact List.mem_cons_self)), zt_ix_not (fun h2 => h (List.mem_cons_of_mem _ h2))]
    omega
theorem zt_val_app {L m : List (List Int32)} {w : List Int32} (hw : w ∈ L) : zt_val (L ++ m) w = zt_val L w := by
  unfold zt_val
  rw [zt_ix_app, if_pos hw]
theorem zt_val_new {L : List (List Int32)} {w : List Int32} : zt_ix w (L ++ [w]) 0 = zt_ix w L 0 := by
  rw [zt_ix_app]
  by_cases h : w ∈ L
  · rw [if_pos h]
  · rw [if_neg h, zt_ix_not h]
    show (if w = w then 0 + L.length else _) = _
    rw [if_pos rfl]
theorem zt_add {tg : Nat → Option Nat} {ts tl tv : m_Rr} {L : List (List Int32)} (hT : zt_T tp bs) (hk : tk 5 = nI bs.length) (h6 : tk 6 = nI L.length) (hL : L.length < 400) (hF : zt_F bs tg ts tl tv L) (h : bs.drop p = w ++ r) (h1 : 1 ≤ w.length) (h10 : w.length ≤ 10) :
    ∃ ts' tl' tv' tg', f_X11_add tp tk ts tl tv tg (zt_sg w) (nI p) (nI w.length) = some (q_up tk 6 (nI (L.length + 1)), ts', tl', tv', tg') ∧ zt_F bs tg' ts' tl' tv' (L ++ [w]) := by
  have hne : w ≠ [] := fun e => by rw [e] at h1; exact absurd h1 (by decide)
  have hlen := zt_len h hne
  have hz := hT.1
  have e401 : q_ix (nI L.length) 401 = some L.length := q_ix_nI (by omega) (by decide)
  have he49 : q_e49 (zt_sg w) = some () := m_e49 zt_sg_lt
  have hlt : ∀ {i : Nat} {v : List Int32}, L[i]? = some v → i < L.length := fun hi => (List.getElem?_eq_some_iff.mp hi).1
  have hF' : zt_F bs (q_up tg L.length (some (zt_sg w))) (q_up ts L.length (nI p)) (q_up tl L.length (nI w.length)) tv L := fun i v hi => by
    obtain ⟨q, r', f1, f2, f3, f4, f5, f6, f7⟩ := hF i v hi
    have hn := Nat.ne_of_lt (hlt hi)
    exact ⟨q, r', f1, f2, f3, (m_up_n hn).trans f4, (m_up_n hn).trans f5, (m_up_n hn).trans f6, f7⟩
  have hval : f_X11_valueOf tp tk (q_up ts L.length (nI p)) (q_up tl L.length (nI w.length)) (q_up tg L.length (some (zt_sg w))) (zt_sg w) (nI p) (nI w.length) = some (zt_val (L ++ [w]) w) := by
    unfold f_X11_valueOf zt_val
    rw [he49, Option.bind_some]
    by_cases e2 : zt_sg w = 2
    · rw [if_pos e2, if_pos e2]
      have := zt_numL hT hk h h10 (by omega) w 0 4096 0 rfl (by omega) (by omega)
      unfold f_X11_numberAt
      rw [show nI 0 = (0 : Int32) from rfl] at this
      rw [this]; rfl
    · rw [if_neg e2, if_neg e2]
      by_cases e3 : zt_sg w = 3
      · rw [if_pos e3, if_pos e3, zt_val_new]
        have := zt_likeL hT hk h6 (by omega) hF' h h1 h10 e3 L 0 4096 rfl (by omega) (by omega)
        unfold f_X11_firstLike
        rw [show nI 0 = (0 : Int32) from rfl] at this
        rw [this, Option.bind_some]
        by_cases hm : w ∈ L
        · rw [if_pos hm, if_neg (show ¬ (1 : Nat) = 0 by decide)]; rfl
        · rw [if_neg hm, if_pos rfl, h6, zt_ix_not hm, Nat.zero_add]; rfl
      · rw [if_neg e3, if_neg e3]
  refine ⟨q_up ts L.length (nI p), q_up tl L.length (nI w.length), q_up tv L.length (zt_val (L ++ [w]) w), q_up tg L.length (some (zt_sg w)), ?_, fun i v hi => ?_⟩
  · unfold f_X11_add
    rw [he49, Option.bind_some, h6, if_neg (nI_pos (by omega)), if_neg (show ¬ (400 : Int32) < nI L.length from m_nlt (a := 400) (by omega) (by decide)), e401, Option.bind_some, Option.bind_some, Option.bind_some, hval, Option.bind_some, Option.bind_some, nI_1]
  · by_cases hn : i < L.length
    · rw [List.getElem?_append_left hn] at hi
      obtain ⟨q, r', f1, f2, f3, f4, f5, f6, f7⟩ := hF' i v hi
      exact ⟨q, r', f1, f2, f3, f4, f5, f6, by rw [m_up_n (Nat.ne_of_lt hn), f7, zt_val_app (List.mem_of_getElem? hi)]⟩
    · have hi2 := (List.getElem?_eq_some_iff.mp hi).1
      rw [List.length_append] at hi2
      have hi2 : i < L.length + 1 := hi2
      obtain rfl : i = L.length := by omega
      rw [List.getElem?_append_right (Nat.le_refl _), Nat.sub_self] at hi
      cases hi
      exact ⟨p, r, h, by omega, h10, m_up_s, m_up_s, m_up_s, m_up_s⟩
/-- a text out of words and blanks -/
def zt_fl : List (List Int32 × List Int32) → List Int32
  | [] => []
  | q :: M => q.1 ++ (q.2 ++ zt_fl M)
def zt_bl (x : Int32) : Bool := decide (x = 32) || decide (x = 10)
def zt_ok : List (List Int32 × List Int32) → Bool
  | [] => true
  | q :: M => zt_ch q.1 ((q.2 ++ zt_fl M).getD 0 0) && (q.2.all zt_bl && zt_ok M)
theorem zt_hd {M : List (List Int32 × List Int32)} (h : zt_ok M = true) : zt_bl ((zt_fl M).getD 0 0) = false := by
  cases M with
  | nil => rfl
  | cons q M =>
    unfold zt_ok at h
    rw [Bool.and_eq_true] at h
    obtain ⟨h, -⟩ := h
    obtain ⟨w, b⟩ := q
    cases w with
    | nil => cases h
    | cons a t =>
      unfold zt_ch at h
      rw [Bool.and_eq_true, Bool.and_eq_true, Bool.not_eq_true', Bool.not_eq_true'] at h
      show (decide (a = 32) || decide (a = 10)) = false
      rw [h.1.1, h.1.2]; rfl
theorem zt_split {z : Nat} (hT : zt_T tp bs) (hz : z = bs.length) : ∀ (M : List (List Int32 × List Int32)) (L : List (List Int32)) (p fu : Nat) (tk ts tl tv : m_Rr) (tg : Nat → Option Nat), bs.drop p = zt_fl M → p ≤ z → zt_ok M = true → L.length + M.length ≤ 400 → M.length < fu → tk 5 = nI z → tk 6 = nI L.length → zt_F bs tg ts tl tv L →
    ∃ tk' ts' tl' tv' tg', f_X11_split_L12 tp fu tk ts tl tv tg (nI p) (nI L.length) = some (0, nI z, tk', ts', tl', tv', tg') ∧ tk' 5 = nI z ∧ tk' 6 = nI (L.length + M.length) ∧ zt_F bs tg' ts' tl' tv' (L ++ M.map (·.1)) := by
  subst hz
  have hz2 := hT.1
  intro M
  induction M with
  | nil =>
    intro L p fu tk ts tl tv tg hp hpz hok hL hfu h5 h6 hF
    obtain ⟨fu, rfl⟩ : ∃ z, fu = z + 1 := ⟨fu - 1, by have : ([] : List (List Int32 × List Int32)).length = 0 := rfl; omega⟩
    have hl := congrArg List.length hp
    rw [List.length_drop] at hl
    have hl : bs.length - p = 0 := hl
    obtain rfl : p = bs.length := by omega
    refine ⟨tk, ts, tl, tv, tg, ?_, h5, h6, by rw [List.map_nil, List.append_nil]; exact hF⟩
    rw [f_X11_split_L12]
    split
    · rfl
    · rw [if_pos (by rw [h5]; exact Int32.le_refl _)]
  | cons q M ih =>
    intro L p fu tk ts tl tv tg hp hpz hok hL hfu h5 h6 hF
    have hlc : (q :: M).length = M.length + 1 := rfl
    obtain ⟨fu, rfl⟩ : ∃ z, fu = z + 1 := ⟨fu - 1, by omega⟩
    have hp : bs.drop p = q.1 ++ (q.2 ++ zt_fl M) := hp
    unfold zt_ok at hok
    rw [Bool.and_eq_true, Bool.and_eq_true] at hok
    obtain ⟨ok1, ok2, ok3⟩ := hok
    obtain ⟨t1, t2, t3⟩ := zt_tokL hT h5 hp ok1
    have hne : q.1 ≠ [] := fun e => by rw [e] at t2; exact absurd t2 (by decide)
    have hlen := zt_len hp hne
    obtain ⟨ts', tl', tv', tg', a1, a2⟩ := zt_add hT h5 h6 (by omega) hF hp t2 t3
    have h5' : q_up tk 6 (nI (L.length + 1)) 5 = nI bs.length := (m_up_n (by decide)).trans h5
    have hp2 : bs.drop (p + q.1.length) = q.2 ++ zt_fl M := by rw [← List.drop_drop, hp, List.drop_left]
    have hp3 : bs.drop (p + q.1.length + q.2.length) = zt_fl M := by rw [← List.drop_drop, hp2, List.drop_left]
    rw [List.length_append] at hlen
    have hrun : m_run (m_pB tp bs.length) (bs.length - (p + q.1.length)) (p + q.1.length) = p + q.1.length + q.2.length := by
      refine zt_run _ _ _ (by omega) (fun i hi => ?_) ?_
      · unfold m_pB
        rw [zt_vR hT hp2 hi]
        exact List.all_eq_true.mp ok2 _ (zt_mem hi)
      · unfold m_pB
        rw [hT.2.2.2]
        by_cases e : p + q.1.length + q.2.length < bs.length
        · rw [if_pos e, show p + q.1.length + q.2.length = p + q.1.length + q.2.length + 0 from rfl, zt_dr, hp3]
          exact zt_hd ok3
        · rw [if_neg e]; decide
    have hbl := m_blankC hT.2.1 hT.1 h5' (bs.length - (p + q.1.length)) (p + q.1.length) 4096 (by omega) (by omega)
    rw [hrun] at hbl
    obtain ⟨tk', ts2, tl2, tv2, tg2, i1, i2, i3, i4⟩ := ih (L ++ [q.1]) (p + q.1.length + q.2.length) fu (q_up tk 6 (nI (L.length + 1))) ts' tl' tv' tg' hp3 (by omega) ok3 (by rw [List.length_append]; show L.length + 1 + _ ≤ _; omega) (by omega) h5' (by rw [List.length_append]; exact m_up_s) a2
    have eL : (L ++ [q.1]).length = L.length + 1 := by rw [List.length_append]; rfl
    rw [eL] at i1 i3
    refine ⟨tk', ts2, tl2, tv2, tg2, ?_, i2, by rw [i3, hlc]; congr 1; omega, by rw [List.map_cons, show L ++ q.1 :: M.map (·.1) = (L ++ [q.1]) ++ M.map (·.1) by rw [List.append_assoc]; rfl]; exact i4⟩
    rw [f_X11_split_L12, if_neg (show ¬ (400 : Int32) ≤ nI L.length from nI_ge (b := 400) (by omega) (by decide)), h5, if_neg (nI_ge (by omega) (by omega)), t1, Option.bind_some, if_pos (nI_ne0 (by omega) (by omega)), zt_tokS hT h5 hp t2 t3, Option.bind_some, m_e49 zt_sg_lt, Option.bind_some, a1, Option.bind_some, nI_add]
    unfold f_X11_behindBlanks
    rw [hbl, Option.bind_some, Option.bind_some, nI_1]
    exact i1
/-- the whole text is cut -/
theorem zt_cut (hT : zt_T tp bs) (M : List (List Int32 × List Int32)) (b0 : List Int32) (hb0 : b0 = []) (hbs : bs = zt_fl M) (hok : zt_ok M = true) (hM : M.length ≤ 399) (tk ts tl tv : m_Rr) (tg : Nat → Option Nat) :
    ∃ tk' ts' tl' tv' tg', f_X11_split tp tk ts tl tv tg (nI bs.length) = some (tk', ts', tl', tv', tg') ∧ tk' 5 = nI bs.length ∧ tk' 6 = nI (M.length + 1) ∧ (∀ (i : Nat) (w : List Int32), (M.map (·.1))[i]? = some w → tg' i = some (zt_sg w) ∧ tv' i = zt_val (M.map (·.1)) w) ∧ tg' M.length = some 0 := by
  have hz := hT.1
  have h5 : q_up (q_up tk 5 (nI bs.length)) 6 (0 : Int32) 5 = nI bs.length := (m_up_n (by decide)).trans m_up_s
  have hrun : m_run (m_pB tp bs.length) bs.length 0 = 0 + 0 := by
    refine zt_run 0 _ _ (by omega) (fun i hi => absurd hi (Nat.not_lt_zero _)) ?_
    unfold m_pB
    rw [hT.2.2.2]
    by_cases e : 0 < bs.length
    · rw [if_pos (by omega), hbs]; exact zt_hd hok
    · rw [if_neg (by omega)]; decide
  have hbl := m_blankC hT.2.1 hT.1 h5 bs.length 0 4096 (by omega) (by omega)
  rw [hrun] at hbl
  obtain ⟨tk', ts2, tl2, tv2, tg2, i1, i2, i3, i4⟩ := zt_split hT rfl M [] 0 4096 (q_up (q_up tk 5 (nI bs.length)) 6 (0 : Int32)) ts tl tv tg (by rw [List.drop_zero]; exact hbs) (by omega) hok (by show 0 + _ ≤ _; omega) (by omega) h5 m_up_s (fun i w hi => by cases hi)
  rw [List.nil_append] at i4
  have i3 : tk' 6 = nI (0 + M.length) := i3
  rw [Nat.zero_add] at i3
  have hlt : ∀ {i : Nat} {w : List Int32}, (M.map (·.1))[i]? = some w → i < M.length := fun hi => by
    have := (List.getElem?_eq_some_iff.mp hi).1
    rwa [List.length_map] at this
  refine ⟨q_up tk' 6 (nI (M.length + 1)), q_up ts2 M.length (nI bs.length), q_up tl2 M.length 0, q_up tv2 M.length 0, q_up tg2 M.length (some 0), ?_, (m_up_n (by decide)).trans i2, m_up_s, fun i w hi => ?_, m_up_s⟩
  · unfold f_X11_split f_X11_behindBlanks
    rw [show (0 : Int32) = nI 0 from rfl] at i1 hbl ⊢
    rw [hbl, Option.bind_some, Option.bind_some]
    have i1 : f_X11_split_L12 tp 4096 (q_up (q_up tk 5 (nI bs.length)) 6 (nI 0)) ts tl tv tg (nI (0 + 0)) (nI 0) = some (0, nI bs.length, tk', ts2, tl2, tv2, tg2) := i1
    rw [i1, Option.bind_some]
    dsimp only
    rw [if_pos rfl, if_pos (show tk' 5 ≤ nI bs.length by rw [i2]; exact Int32.le_refl _), show nI 0 = (0 : Int32) from rfl, m_addE i3 (by omega) (Or.inl rfl), Option.bind_some]
  · obtain ⟨p, r, -, -, -, -, -, f6, f7⟩ := i4 i w hi
    have hn := Nat.ne_of_lt (hlt hi)
    exact ⟨(m_up_n hn).trans f6, (m_up_n hn).trans f7⟩
end ZCUT
