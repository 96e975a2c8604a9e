/-! HOW FAR, by ropes -/
/-- n ropes lead from x to y -/
def lc_pth (rp : Nat → List (Option Nat)) : Nat → Nat → Nat → Prop
  | 0, x, y => x = y
  | n + 1, x, y => ∃ z, lc_pth rp n x z ∧ some y ∈ rp z
theorem lc_pth_app {rp : Nat → List (Option Nat)} {x y : Nat} : ∀ {n m z : Nat}, lc_pth rp n x y → lc_pth rp m y z → lc_pth rp (n + m) x z
  | n, 0, z, h1, h2 => by
    have h2 : y = z := h2
    rw [← h2]; exact h1
  | n, m + 1, z, h1, ⟨w, h2, h3⟩ => ⟨w, lc_pth_app h1 h2, h3⟩
/-- what a line of reached bales says of distances: D from s on; up to i all is looked at; r ropes of the next as well -/
def lc_Dv (rp : Nat → List (Option Nat)) (s i r : Nat) (l : List Nat) (D : Nat → Nat) : Prop :=
  (l[0]? = some s ∧ D s = 0) ∧ (∀ (j k x y : Nat), j ≤ k → l[j]? = some x → l[k]? = some y → D x ≤ D y) ∧ (∀ x y, l[i]? = some x → y ∈ l → D y ≤ D x + 1) ∧
  (∀ (j x y : Nat), j < i → l[j]? = some x → some y ∈ rp x → y ∈ l ∧ D y ≤ D x + 1) ∧ (∀ x, l[i]? = some x → ∀ (r' y : Nat), r' < r → (rp x)[r']? = some (some y) → y ∈ l ∧ D y ≤ D x + 1) ∧
  ∀ y ∈ l, y = s ∨ ∃ x ∈ l, some y ∈ rp x ∧ D y = D x + 1
section LCD
variable {rp : Nat → List (Option Nat)} {s : Nat}
theorem lc_Dv_in {i r b c : Nat} {l : List Nat} {D : Nat → Nat} (h : lc_Dv rp s i r l D) (hb : l[i]? = some b) (hr : (rp b)[r]? = some (some c)) (hc : c ∈ l) : lc_Dv rp s i (r + 1) l D := by
  obtain ⟨h1, h2, h3, h4, h5, h6⟩ := h
  refine ⟨h1, h2, h3, h4, fun x hx r' y hr' hy => ?_, h6⟩
  obtain rfl : b = x := Option.some.inj (hb.symm.trans hx)
  by_cases e : r' = r
  · subst e
    obtain rfl : c = y := Option.some.inj (Option.some.inj (hr.symm.trans hy))
    exact ⟨hc, h3 b c hb hc⟩
  · exact h5 b hb r' y (by omega) hy
theorem lc_Dv_none {i r b : Nat} {l : List Nat} {D : Nat → Nat} (h : lc_Dv rp s i r l D) (hb : l[i]? = some b) (hr : (rp b)[r]? = some none) : lc_Dv rp s i (r + 1) l D := by
  obtain ⟨h1, h2, h3, h4, h5, h6⟩ := h
  refine ⟨h1, h2, h3, h4, fun x hx r' y hr' hy => ?_, h6⟩
  obtain rfl : b = x := Option.some.inj (hb.symm.trans hx)
  by_cases e : r' = r
  · subst e
    exact absurd (hr.symm.trans hy) (by simp)
  · exact h5 b hb r' y (by omega) hy
theorem lc_Dv_add {i r b c : Nat} {l : List Nat} {D D' : Nat → Nat} (h : lc_Dv rp s i r l D) (hb : l[i]? = some b) (hr : (rp b)[r]? = some (some c)) (hc : c ∉ l) (hD : ∀ x ∈ l, D' x = D x) (hDc : D' c = D b + 1) : lc_Dv rp s i (r + 1) (l ++ [c]) D' := by
  obtain ⟨⟨h1, h1'⟩, h2, h3, h4, h5, h6⟩ := h
  have hl : ∀ (j x : Nat), (l ++ [c])[j]? = some x → (j < l.length ∧ l[j]? = some x ∧ x ∈ l) ∨ (j = l.length ∧ x = c) := fun j x hj => by
    rcases Nat.lt_or_ge j l.length with hjl | hjl
    · rw [List.getElem?_append_left hjl] at hj
      exact Or.inl ⟨hjl, hj, List.mem_of_getElem? hj⟩
    · rw [List.getElem?_append_right hjl] at hj
      have h9 := (List.getElem?_eq_some_iff.mp hj).1
      simp at h9
      have h8 : j = l.length := by omega
      rw [h8, Nat.sub_self] at hj
      exact Or.inr ⟨h8, (Option.some.inj hj).symm⟩
  have hil := (List.getElem?_eq_some_iff.mp hb).1
  have hbm := List.mem_of_getElem? hb
  have h0l := (List.getElem?_eq_some_iff.mp h1).1
  have hsm := List.mem_of_getElem? h1
  have hb2 : ∀ x, (l ++ [c])[i]? = some x → x = b := fun x hx => by
    rw [List.getElem?_append_left hil, hb] at hx
    exact (Option.some.inj hx).symm
  refine ⟨⟨by rw [List.getElem?_append_left h0l]; exact h1, by rw [hD s hsm]; exact h1'⟩, fun j k x y hjk hx hy => ?_, fun x y hx hy => ?_, fun j x y hj hx hy => ?_, fun x hx r' y hr' hy => ?_, fun y hy => ?_⟩
  · rcases hl j x hx with ⟨g1, g2, g3⟩ | ⟨g1, g2⟩
    · rcases hl k y hy with ⟨k1, k2, k3⟩ | ⟨k1, k2⟩
      · rw [hD x g3, hD y k3]; exact h2 j k x y hjk g2 k2
      · rw [k2, hDc, hD x g3]; exact h3 b x hb g3
    · rcases hl k y hy with ⟨k1, k2, k3⟩ | ⟨k1, k2⟩
      · omega
      · rw [g2, k2]; exact Nat.le_refl _
  · rw [hb2 x hx, hD b hbm]
    rcases List.mem_append.mp hy with hy | hy
    · rw [hD y hy]; exact h3 b y hb hy
    · rw [List.mem_singleton.mp hy, hDc]; exact Nat.le_refl _
  · rw [List.getElem?_append_left (by omega)] at hx
    obtain ⟨g1, g2⟩ := h4 j x y hj hx hy
    exact ⟨List.mem_append_left _ g1, by rw [hD y g1, hD x (List.mem_of_getElem? hx)]; exact g2⟩
  · obtain rfl := hb2 x hx
    by_cases e : r' = r
    · subst e
      obtain rfl : c = y := Option.some.inj (Option.some.inj (hr.symm.trans hy))
      exact ⟨by simp, by rw [hDc, hD x hbm]; exact Nat.le_refl _⟩
    · obtain ⟨g1, g2⟩ := h5 x hb r' y (by omega) hy
      exact ⟨List.mem_append_left _ g1, by rw [hD y g1, hD x hbm]; exact g2⟩
  · rcases List.mem_append.mp hy with hy | hy
    · refine (h6 y hy).imp id (fun ⟨x, g1, g2, g3⟩ => ⟨x, List.mem_append_left _ g1, g2, ?_⟩)
      rw [hD y hy, hD x g1]; exact g3
    · rw [List.mem_singleton.mp hy]
      exact Or.inr ⟨b, List.mem_append_left _ hbm, List.mem_of_getElem? hr, by rw [hDc, hD b hbm]⟩
/-- all ropes of one are looked at: on to the next -/
theorem lc_Dv_next {i r b : Nat} {l : List Nat} {D : Nat → Nat} (h : lc_Dv rp s i r l D) (hb : l[i]? = some b) (hr : (rp b).length ≤ r) : lc_Dv rp s (i + 1) 0 l D := by
  obtain ⟨h1, h2, h3, h4, h5, h6⟩ := h
  refine ⟨h1, h2, fun x y hx hy => ?_, fun j x y hj hx hy => ?_, fun x hx r' y hr' => absurd hr' (Nat.not_lt_zero _), h6⟩
  · have := h2 i (i + 1) b x (Nat.le_succ i) hb hx
    have := h3 b y hb hy
    omega
  · by_cases e : j = i
    · subst e
      obtain rfl : b = x := Option.some.inj (hb.symm.trans hx)
      obtain ⟨r', hr', er⟩ := List.getElem_of_mem hy
      exact h5 b hb r' y (by omega) (by rw [List.getElem?_eq_getElem hr', er])
    · exact h4 j x y (by omega) hx hy
/-- all is looked at: D is the distance -/
theorem lc_Dv_end {i : Nat} {l : List Nat} {D : Nat → Nat} (h : lc_Dv rp s i 0 l D) (hi : l.length ≤ i) : (∀ n y, lc_pth rp n s y → y ∈ l ∧ D y ≤ n) ∧ ∀ d y, y ∈ l → D y = d → lc_pth rp d s y := by
  obtain ⟨⟨h1, h1'⟩, h2, h3, h4, h5, h6⟩ := h
  constructor
  · intro n
    induction n with
    | zero =>
      intro y hy
      have hy : s = y := hy
      rw [← hy]
      exact ⟨List.mem_of_getElem? h1, by omega⟩
    | succ n ih =>
      rintro y ⟨z, z1, z2⟩
      obtain ⟨g1, g2⟩ := ih z z1
      obtain ⟨j, hj, ej⟩ := List.getElem_of_mem g1
      obtain ⟨k1, k2⟩ := h4 j z y (by omega) (by rw [List.getElem?_eq_getElem hj, ej]) z2
      exact ⟨k1, by omega⟩
  · intro d
    induction d with
    | zero =>
      intro y hy hd
      rcases h6 y hy with e | ⟨x, g1, g2, g3⟩
      · exact e.symm
      · omega
    | succ d ih =>
      intro y hy hd
      rcases h6 y hy with e | ⟨x, g1, g2, g3⟩
      · rw [e] at hd; omega
      · exact ⟨x, ih x g1 (by omega), g2⟩
end LCD
section LCDIST
variable {H m hf : Nat} {hL : List Nat} {pn mp bn ly pl sz ag rc ld lo lr hk rw st sh sw sp ss sr sa sd : m_Rr}
/-- the rows of a line say D -/
def lc_nD (l : List Nat) (nd : m_Rr) (D : Nat → Nat) : Prop := ∀ (i x : Nat), l[i]? = some x → D x ≤ i ∧ nd x = nI (D x)
theorem lc_d_in {b i k s : Nat} (hb : b < 128) (h0 : ¬ ly b = 0) (hr : z_Yr (fun b => b) ly rc ld (lc_rp rc ld)) (hkk : rc b = nI k) (hk3 : k ≤ 3) : ∀ (n r : Nat) (l : List Nat) (D : Nat → Nat) (li nr nd md mq mi : m_Rr) (fu : Nat), r + n = k → n < fu → m_Q l li nr nd md mq mi → (∀ x ∈ l, x < 128 ∧ ¬ ly x = 0) → lc_nD l nd D → lc_Dv (lc_rp rc ld) s i r l D → l[i]? = some b →
    ∃ l' D' li' nr' nd' md' mq' mi', f_X2_followLine_L17 rc ld (nI b) fu li nr nd (nI r) = some (li', nr', nd') ∧ m_Q l' li' nr' nd' md' mq' mi' ∧ (∀ x ∈ l', x < 128 ∧ ¬ ly x = 0) ∧ lc_nD l' nd' D' ∧ lc_Dv (lc_rp rc ld) s i k l' D' ∧ l'[i]? = some b := by
  obtain ⟨hrl, hrc⟩ := z_Yr_k hr hb h0 hk3 hkk
  intro n
  induction n with
  | zero =>
    intro r l D li nr nd md mq mi fu hrn hfu hQ hG hD hV hi
    obtain rfl : r = k := by omega
    obtain ⟨fu, rfl⟩ : ∃ z, fu = z + 1 := ⟨fu - 1, by omega⟩
    refine ⟨l, D, li, nr, nd, md, mq, mi, ?_, hQ, hG, hD, hV, hi⟩
    rw [f_X2_followLine_L17, m_ropes hb, Option.bind_some, hkk, if_pos (nI_le (Nat.le_refl _) (by omega))]
  | succ n ih =>
    intro r l D li nr nd md mq mi fu hrn hfu hQ hG hD hV hi
    obtain ⟨fu, rfl⟩ : ∃ z, fu = z + 1 := ⟨fu - 1, by omega⟩
    have hil := (List.getElem?_eq_some_iff.mp hi).1
    have hlen := m_Q_len hQ
    obtain ⟨hd, hnd⟩ := hD i b hi
    have hcell := hrc r (by omega)
    have e1 : f_X2_followLine_L17 rc ld (nI b) (fu + 1) li nr nd (nI r) = (f_X4_add li nr nd (ld (b * 3 + r)) (nI (D b + 1))).bind fun r5 => f_X2_followLine_L17 rc ld (nI b) fu r5.2.1 r5.2.2.1 r5.2.2.2 (nI (r + 1)) := by
      rw [f_X2_followLine_L17, m_ropes hb, Option.bind_some, hkk, if_neg (nI_ge (by omega) (by omega)), m_lead hb (by omega) hkk hk3, Option.bind_some, if_pos (by omega), m_ropesTo hb, Option.bind_some, hnd, nI_1, nI_1]
    rcases hcell with ⟨g1, g2⟩ | ⟨c, hc, hc0, g1, g2⟩
    · obtain ⟨l2, D2, x1, x2, x3, x4, x5, x6, y1, y2⟩ := ih (r + 1) l D li nr nd md mq mi fu (by omega) (by omega) hQ hG hD (lc_Dv_none hV hi g2) hi
      exact ⟨l2, D2, x1, x2, x3, x4, x5, x6, by rw [e1, g1, m_ladd1, Option.bind_some]; exact y1, y2⟩
    · have g2 : (lc_rp rc ld b)[r]? = some (some c) := g2
      obtain ⟨l', li', nr', nd', md', mq', mi', a1, a2, a3, a4, a5, a6, a7, a8, a9⟩ := m_Q_add (x := nI (D b + 1)) hQ hc (m_nI_m1 (by omega))
      by_cases hcl : c ∈ l
      · rw [if_pos hcl] at a4
        subst a4
        rw [a9 hcl] at a1 a3
        obtain ⟨l2, D2, x1, x2, x3, x4, x5, x6, y1, y2⟩ := ih (r + 1) l' D li' nr' nd md' mq' mi' fu (by omega) (by omega) a3 hG hD (lc_Dv_in hV hi g2 hcl) hi
        exact ⟨l2, D2, x1, x2, x3, x4, x5, x6, by rw [e1, g1, a1, Option.bind_some]; exact y1, y2⟩
      · rw [if_neg hcl] at a4
        subst a4
        obtain ⟨D', hD'⟩ : ∃ D' : Nat → Nat, D' = fun x => if x = c then D b + 1 else D x := ⟨_, rfl⟩
        have hDl : ∀ x ∈ l, D' x = D x := fun x hx => by rw [hD']; exact if_neg (fun e => hcl (by rw [← e]; exact hx))
        have hDc : D' c = D b + 1 := by rw [hD']; exact if_pos rfl
        have hG' : ∀ x ∈ l ++ [c], x < 128 ∧ ¬ ly x = 0 := fun x hx => by
          rcases List.mem_append.mp hx with hx | hx
          · exact hG x hx
          · rw [List.mem_singleton.mp hx]; exact ⟨hc, hc0⟩
        have hnD' : lc_nD (l ++ [c]) nd' D' := fun j x hj => by
          rcases Nat.lt_or_ge j l.length with hjl | hjl
          · rw [List.getElem?_append_left hjl] at hj
            have hxm := List.mem_of_getElem? hj
            rw [hDl x hxm, a7 x (hG x hxm).1 (fun e => hcl (by rw [← e]; exact hxm))]
            exact hD j x hj
          · rw [List.getElem?_append_right hjl] at hj
            have h9 := (List.getElem?_eq_some_iff.mp hj).1
            simp at h9
            have h8 : j = l.length := by omega
            rw [h8, Nat.sub_self] at hj
            obtain rfl : c = x := Option.some.inj hj
            rw [hDc, a8 hcl]
            exact ⟨by omega, rfl⟩
        obtain ⟨l2, D2, x1, x2, x3, x4, x5, x6, y1, y2⟩ := ih (r + 1) (l ++ [c]) D' li' nr' nd' md' mq' mi' fu (by omega) (by omega) a3 hG' hnD' (lc_Dv_add hV hi g2 hcl hDl hDc) (by rw [List.getElem?_append_left hil]; exact hi)
        exact ⟨l2, D2, x1, x2, x3, x4, x5, x6, by rw [e1, g1, a1, Option.bind_some]; exact y1, y2⟩
theorem lc_d_out {s : Nat} (hr : z_Yr (fun b => b) ly rc ld (lc_rp rc ld)) : ∀ (n i : Nat) (l : List Nat) (D : Nat → Nat) (li nr nd md mq mi : m_Rr) (fu : Nat), i + n = 128 → n < fu → i ≤ l.length → m_Q l li nr nd md mq mi → (∀ x ∈ l, x < 128 ∧ ¬ ly x = 0) → lc_nD l nd D → lc_Dv (lc_rp rc ld) s i 0 l D →
    ∃ l' D' li' nr' nd' md' mq' mi' i', f_X2_followLine_L2 rc ld fu li nr nd (nI i) = some (li', nr', nd') ∧ m_Q l' li' nr' nd' md' mq' mi' ∧ (∀ x ∈ l', x < 128 ∧ ¬ ly x = 0) ∧ lc_nD l' nd' D' ∧ lc_Dv (lc_rp rc ld) s i' 0 l' D' ∧ l'.length ≤ i' := by
  intro n
  induction n with
  | zero =>
    intro i l D li nr nd md mq mi fu hin hfu hil hQ hG hD hV
    obtain rfl : i = 128 := by omega
    obtain ⟨fu, rfl⟩ : ∃ z, fu = z + 1 := ⟨fu - 1, by omega⟩
    have hlen := m_Q_len hQ
    refine ⟨l, D, li, nr, nd, md, mq, mi, 128, ?_, hQ, hG, hD, hV, hlen⟩
    rw [f_X2_followLine_L2, if_pos (show (128 : Int32) ≤ nI 128 from nI_le (Nat.le_refl _) (by decide))]
  | succ n ih =>
    intro i l D li nr nd md mq mi fu hin hfu hil hQ hG hD hV
    obtain ⟨fu, rfl⟩ : ∃ z, fu = z + 1 := ⟨fu - 1, by omega⟩
    have hlen := m_Q_len hQ
    by_cases he : i = l.length
    · refine ⟨l, D, li, nr, nd, md, mq, mi, i, ?_, hQ, hG, hD, hV, by omega⟩
      rw [f_X2_followLine_L2, if_neg (show ¬ (128 : Int32) ≤ nI i from nI_ge (b := 128) (by omega) (by decide)), f_X4_length, Option.bind_some, hQ.1, if_pos (nI_le (by omega) (by omega))]
    · have hlt : i < l.length := by omega
      obtain ⟨b, hb⟩ : ∃ b, l[i]? = some b := ⟨l[i], List.getElem?_eq_getElem hlt⟩
      obtain ⟨hb8, hb0⟩ := hG b (List.mem_of_getElem? hb)
      obtain ⟨k, k1, k2, k3, k4⟩ := hr b hb8 hb0
      obtain ⟨l1, D1, li', nr', nd', md', mq', mi', y1, y2, y3, y4, y5, y6⟩ := lc_d_in hb8 hb0 hr k2 k1 k 0 l D li nr nd md mq mi 4096 (by omega) (by omega) hQ hG hD hV hb
      have hV1 := lc_Dv_next y5 y6 (by rw [k3]; exact Nat.le_refl _)
      have hl1 := (List.getElem?_eq_some_iff.mp y6).1
      obtain ⟨l2, D2, x1, x2, x3, x4, x5, x6, i2, z1, z2⟩ := ih (i + 1) l1 D1 li' nr' nd' md' mq' mi' fu (by omega) (by omega) (by omega) y2 y3 y4 hV1
      refine ⟨l2, D2, x1, x2, x3, x4, x5, x6, i2, ?_, z2⟩
      rw [f_X2_followLine_L2, if_neg (show ¬ (128 : Int32) ≤ nI i from nI_ge (b := 128) (by omega) (by decide)), f_X4_length, Option.bind_some, hQ.1, if_neg (nI_ge hlt (by omega)), m_lat hQ.1 hlen hlt, Option.bind_some, (hQ.2.2.2.2.1 i b hb).1, show (0 : Int32) = nI 0 from rfl, y1, Option.bind_some, nI_1]
      exact z1
/-- what ropesBetween says of two bales -/
def lc_Far (rp : Nat → List (Option Nat)) (nb s t : Nat) (v : Int32) : Prop := (v = -1 ∧ ∀ n, ¬ lc_pth rp n s t) ∨ ∃ d, v = nI d ∧ d < nb ∧ lc_pth rp d s t ∧ ∀ n, lc_pth rp n s t → d ≤ n
theorem lc_away (hR : m_R H m hf hL bn ly pl sz ag rc ld lo lr hk rw st sh sw sp ss sr sa sd) {s t : Nat} (hs : s < 128 ∧ ¬ ly s = 0) (ht : t < 128) (li nr nd : m_Rr) : ∃ v li' nr' nd', f_X2_ropesAway rc ld li nr nd (nI s) (nI t) = some (v, li', nr', nd') ∧ lc_Far (lc_rp rc ld) (lc_nb hL ly) s t v := by
  have hr := (lc_YR hR).2.2.2.2.1
  have hQ0 := m_Q_0 (li := li) (nr := nr) (nd := nd) (md := fun _ => 0) (mq := fun _ => 0) (mi := fun _ => 0)
  obtain ⟨l', li1, nr1, nd1, md1, mq1, mi1, a1, a2, a3, a4, a5, a6, a7, a8, a9⟩ := m_Q_add (x := nI 0) hQ0 hs.1 (m_nI_m1 (by omega))
  rw [if_neg (by simp), List.nil_append] at a4
  subst a4
  have hd0 := a8 (by simp)
  obtain ⟨l2, D2, li2, nr2, nd2, md2, mq2, mi2, i2, b1, b2, b3, b4, b5, b6⟩ := lc_d_out (s := s) hr 128 0 [s] (fun _ => 0) li1 nr1 nd1 md1 mq1 mi1 4096 (by omega) (by omega) (Nat.zero_le _) a3 (fun x hx => by rw [List.mem_singleton.mp hx]; exact hs) (fun i x hx => by
    have h9 := (List.getElem?_eq_some_iff.mp hx).1
    simp at h9
    subst h9
    obtain rfl : s = x := Option.some.inj hx
    exact ⟨Nat.zero_le _, hd0⟩) ⟨⟨rfl, rfl⟩, fun _ _ _ _ _ _ _ => Nat.le_refl _, fun _ _ _ _ => Nat.zero_le _, fun j _ _ hj => absurd hj (Nat.not_lt_zero _), fun _ _ r' _ hr' => absurd hr' (Nat.not_lt_zero _), fun y hy => Or.inl (List.mem_singleton.mp hy)⟩
  obtain ⟨e1, e2⟩ := lc_Dv_end b5 b6
  refine ⟨nd2 t, li2, nr2, nd2, ?_, ?_⟩
  · unfold f_X2_ropesAway f_X4_clear
    rw [Option.bind_some, show (0 : Int32) = nI 0 from rfl]
    dsimp only
    rw [show (q_up li 2 (nI 0)) = q_up li 2 0 from rfl, a1, Option.bind_some]
    unfold f_X2_followLine
    rw [show (0 : Int32) = nI 0 from rfl, b1, Option.bind_some, Option.bind_some, m_ropesTo ht, Option.bind_some]
  · by_cases htl : t ∈ l2
    · obtain ⟨j, hj, ej⟩ := List.getElem_of_mem htl
      obtain ⟨c1, c2⟩ := b4 j t (by rw [List.getElem?_eq_getElem hj, ej])
      have := lc_nb_le hR b2.2.2.1 b3
      exact Or.inr ⟨D2 t, c2, by omega, e2 _ t htl rfl, fun n hn => (e1 n t hn).2⟩
    · have := (b2.2.2.2.2.2.1 t ht)
      refine Or.inl ⟨?_, fun n hn => htl (e1 n t hn).1⟩
      rcases Classical.em (nd2 t = -1) with e | e
      · exact e
      · exact absurd (this.mpr e) htl
end LCDIST
