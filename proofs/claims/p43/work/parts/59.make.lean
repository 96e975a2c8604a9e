/-! MATH: making a bale, on both sides -/
theorem m_pigF {f : Nat → Nat} {n : Nat} {l : List Nat} (hd : l.Nodup) (hf : ∀ x ∈ l, f x < n) (hi : ∀ x ∈ l, ∀ y ∈ l, f x = f y → x = y) : l.length ≤ n := by
  have h1 : (l.map f).Nodup := by
    clear hf
    induction l with
    | nil => exact List.nodup_nil
    | cons a t ih =>
      have hd2 := List.nodup_cons.mp hd
      rw [List.map_cons, List.nodup_cons]
      refine ⟨fun h => ?_, ih hd2.2 (fun x hx y hy => hi x (List.mem_cons_of_mem _ hx) y (List.mem_cons_of_mem _ hy))⟩
      obtain ⟨x, hx, e⟩ := List.mem_map.mp h
      have := hi x (List.mem_cons_of_mem _ hx) a List.mem_cons_self e
      exact hd2.1 (by rw [← this]; exact hx)
  have h2 := m_pig n (l.map f) h1 (fun y hy => by
    obtain ⟨x, hx, e⟩ := List.mem_map.mp hy
    rw [← e]; exact hf x hx)
  rwa [List.length_map] at h2
theorem m_least {p : Nat → Prop} : ∀ {n : Nat}, (∃ v, v < n ∧ p v) → ∃ v, v < n ∧ p v ∧ ∀ u, u < v → ¬ p u := by
  intro n
  induction n with
  | zero => rintro ⟨v, h, -⟩; omega
  | succ n ih =>
    intro h
    by_cases h2 : ∃ v, v < n ∧ p v
    · obtain ⟨v, x, y⟩ := ih h2
      exact ⟨v, by omega, y⟩
    · obtain ⟨v, h3, h4⟩ := h
      refine ⟨v, h3, h4, fun u hu hp => h2 ⟨u, by omega, hp⟩⟩
theorem m_free {m hf : Nat} {h : List Nat} {bn ly pl sz rw lr sw sp ss : m_Rr} (hv : m_Rv ly sz) (hR : m_Rh hf h bn ly pl sz rw) (hE : ∀ b, b < 128 → sw b = ly b) (hLf : m_Lf m lr sw sp ss) (hlt : m_tw (m_w sz) h < 64) : ∃ v, v < 128 ∧ ly v = 0 ∧ ∀ u, u < v → ¬ ly u = 0 := by
  apply m_least
  apply Classical.byContradiction
  intro hno
  obtain ⟨w1, w2, w3, w4⟩ := m_R_len hv hR
  obtain ⟨hnd, hmem, -⟩ := hR
  have hall : ∀ b, b < 128 → ly b ≠ 0 := fun b hb e => hno ⟨b, hb, e⟩
  have hrn : (List.range 128).Nodup := List.nodup_range
  obtain ⟨L, hL⟩ : ∃ L, L = (List.range 128).filter (fun b => decide (ly b = 2)) := ⟨_, rfl⟩
  have hLm : ∀ b, b ∈ L ↔ b < 128 ∧ ly b = 2 := fun b => by rw [hL, List.mem_filter, List.mem_range]; simp
  have hLn : L.Nodup := by rw [hL]; exact hrn.filter _
  have h1 := m_tw_in hrn hnd (fun x hx => List.mem_range.mpr ((hmem x).mp hx).1)
  have h2 := m_tw_in hrn hLn (fun x hx => List.mem_range.mpr ((hLm x).mp hx).1)
  have h3 := m_tw_add (u := fun x => if x ∈ h then 1 else 0) (v := fun x => if x ∈ L then 1 else 0) (l := List.range 128)
  rw [h1, h2, m_tw_congr (v := fun _ => 1) (fun x hx => by
    have hx8 := List.mem_range.mp hx
    rcases (hv x hx8).1 with e | e | e
    · exact absurd e (hall x hx8)
    · have a1 : x ∈ h := (hmem x).mpr ⟨hx8, e⟩
      have a2 : ¬ x ∈ L := fun hh => by have := ((hLm x).mp hh).2; rw [e] at this; exact absurd this (by decide)
      simp [a1, a2]
    · have a1 : x ∈ L := (hLm x).mpr ⟨hx8, e⟩
      have a2 : ¬ x ∈ h := fun hh => by have := ((hmem x).mp hh).2; rw [e] at this; exact absurd this (by decide)
      simp [a1, a2]), m_tw_1, List.length_range] at h3
  have h4 : L.length ≤ m := by
    have hpos : ∀ b ∈ L, ∃ p s, sp b = nI p ∧ m_w sp b = p ∧ 1 ≤ s ∧ p + s ≤ m ∧ ∀ q, p ≤ q → q < p + s → lr q = nI b := fun b hb => by
      obtain ⟨b8, b2⟩ := (hLm b).mp hb
      obtain ⟨p, s, x1, x2, x3, x4, x5⟩ := hLf.2.1 b (by omega) ((hE b b8).trans b2)
      have := hLf.1
      exact ⟨p, s, x1, m_w_nI x1 (by omega), x3, x4, x5⟩
    refine m_pigF (f := m_w sp) hLn (fun x hx => ?_) (fun x hx y hy e => ?_)
    · obtain ⟨p, s, x1, x2, x3, x4, x5⟩ := hpos x hx
      omega
    · obtain ⟨p, s, x1, x2, x3, x4, x5⟩ := hpos x hx
      obtain ⟨p', s', y1, y2, y3, y4, y5⟩ := hpos y hy
      obtain rfl : p = p' := by omega
      have e1 := x5 p (Nat.le_refl _) (by omega)
      have e2 := y5 p (Nat.le_refl _) (by omega)
      have b1 := ((hLm x).mp hx).1
      have b2 := ((hLm y).mp hy).1
      exact (nI_eq (by omega) (by omega)).mp (e1.symm.trans e2)
  have := hLf.1
  omega
theorem m_addL {ly : m_Rr} {v : Nat} (hv : v < 128) (h0 : ly v = 0) (hl : ∀ u, u < v → ¬ ly u = 0) : ∀ (n i fu : Nat), i + n = v → n < fu → f_X1_add_L2 ly fu (nI i) = some (1, nI v) := by
  intro n
  induction n with
  | zero =>
    intro i fu hi hfu
    obtain ⟨fu, rfl⟩ : ∃ z, fu = z + 1 := ⟨fu - 1, by omega⟩
    obtain rfl : i = v := by omega
    rw [f_X1_add_L2, if_neg (show ¬ (128 : Int32) ≤ nI i from nI_ge (b := 128) (by omega) (by decide)), q_ix_nI hv (by decide), Option.bind_some, if_neg (fun h => h h0)]
  | succ n ih =>
    intro i fu hi hfu
    obtain ⟨fu, rfl⟩ : ∃ z, fu = z + 1 := ⟨fu - 1, by omega⟩
    rw [f_X1_add_L2, if_neg (show ¬ (128 : Int32) ≤ nI i from nI_ge (b := 128) (by omega) (by decide)), q_ix_nI (by omega) (by decide), Option.bind_some, if_pos (hl i (by omega)), nI_1]
    exact ih (i + 1) fu (by omega) (by omega)
theorem m_makeL {sw : m_Rr} {v : Nat} (hv : v < 128) (h0 : sw v = 0) (hl : ∀ u, u < v → ¬ sw u = 0) : ∀ (n i fu : Nat), i + n = v → n < fu → f_X14_make_L29 sw fu (nI i) = some (nI v) := by
  intro n
  induction n with
  | zero =>
    intro i fu hi hfu
    obtain ⟨fu, rfl⟩ : ∃ z, fu = z + 1 := ⟨fu - 1, by omega⟩
    obtain rfl : i = v := by omega
    rw [f_X14_make_L29, q_ix_nI (by omega) (by decide), Option.bind_some, if_pos h0]
  | succ n ih =>
    intro i fu hi hfu
    obtain ⟨fu, rfl⟩ : ∃ z, fu = z + 1 := ⟨fu - 1, by omega⟩
    rw [f_X14_make_L29, q_ix_nI (by omega) (by decide), Option.bind_some, if_neg (hl i (by omega)), nI_1]
    exact ih (i + 1) fu (by omega) (by omega)
/-- the three ropes of a new bale lead to none -/
def m_3 (ld : m_Rr) (j : Nat) : m_Rr := q_up (q_up (q_up ld j (-1)) (j + 1) (-1)) (j + 2) (-1)
theorem m_3_i {ld : m_Rr} {j r : Nat} (h : r < 3) : m_3 ld j (j + r) = -1 := by
  unfold m_3
  have : r = 0 ∨ r = 1 ∨ r = 2 := by omega
  rcases this with rfl | rfl | rfl
  · rw [m_up_n (by omega), m_up_n (by omega)]; exact m_up_s
  · rw [m_up_n (by omega), m_up_s]
  · rw [m_up_s]
theorem m_3_o {ld : m_Rr} {j i : Nat} (h : i < j ∨ j + 3 ≤ i) : m_3 ld j i = ld i := by
  unfold m_3
  rw [m_up_n (by omega), m_up_n (by omega), m_up_n (by omega)]
theorem m_add37 {ld : m_Rr} {v : Nat} (hv : v < 128) : f_X1_add_L37 (nI v) 4096 ld 0 = some (m_3 ld (v * 3)) := by
  have e : ∀ r, nI v * (3 : Int32) + nI r = nI (v * 3 + r) := fun r => by rw [show (3 : Int32) = nI 3 from rfl, pk_mul, nI_add]
  have e0 := e 0
  have e1 := e 1
  have e2 := e 2
  rw [show nI 0 = 0 from rfl] at e0
  rw [show nI 1 = 1 from rfl] at e1
  rw [show nI 2 = 2 from rfl] at e2
  rw [show (4096 : Nat) = 4095 + 1 from rfl, f_X1_add_L37, if_neg (by decide), e0, q_ix_nI (by omega) (by decide), Option.bind_some,
    show (4095 : Nat) = 4094 + 1 from rfl, show (0 : Int32) + 1 = 1 from rfl, f_X1_add_L37, if_neg (by decide), e1, q_ix_nI (by omega) (by decide), Option.bind_some,
    show (4094 : Nat) = 4093 + 1 from rfl, show (1 : Int32) + 1 = 2 from rfl, f_X1_add_L37, if_neg (by decide), e2, q_ix_nI (by omega) (by decide), Option.bind_some,
    show (4093 : Nat) = 4092 + 1 from rfl, show (2 : Int32) + 1 = 3 from rfl, f_X1_add_L37, if_pos (by decide)]
  rfl
theorem m_make63 {sd : m_Rr} {v : Nat} (hv : v < 128) : f_X14_make_L63 (nI v) 4096 sd 0 = some (m_3 sd (3 * v)) := by
  have e : ∀ r, (3 : Int32) * nI v + nI r = nI (3 * v + r) := fun r => by rw [show (3 : Int32) = nI 3 from rfl, pk_mul, nI_add]
  have e0 := e 0
  have e1 := e 1
  have e2 := e 2
  rw [show nI 0 = 0 from rfl] at e0
  rw [show nI 1 = 1 from rfl] at e1
  rw [show nI 2 = 2 from rfl] at e2
  rw [show (4096 : Nat) = 4095 + 1 from rfl, f_X14_make_L63, if_neg (by decide), e0, q_ix_nI (by omega) (by decide), Option.bind_some,
    show (4095 : Nat) = 4094 + 1 from rfl, show (0 : Int32) + 1 = 1 from rfl, f_X14_make_L63, if_neg (by decide), e1, q_ix_nI (by omega) (by decide), Option.bind_some,
    show (4094 : Nat) = 4093 + 1 from rfl, show (1 : Int32) + 1 = 2 from rfl, f_X14_make_L63, if_neg (by decide), e2, q_ix_nI (by omega) (by decide), Option.bind_some,
    show (4093 : Nat) = 4092 + 1 from rfl, show (2 : Int32) + 1 = 3 from rfl, f_X14_make_L63, if_pos (by decide)]
  rfl
theorem m_Lf_congr {m : Nat} {lr sw sp ss sw' sp' ss' : m_Rr} (h : m_Lf m lr sw sp ss) (h1 : ∀ b, b < 136 → (sw' b = 2 ↔ sw b = 2)) (h2 : ∀ b, b < 136 → sw b = 2 → sp' b = sp b ∧ ss' b = ss b) : m_Lf m lr sw' sp' ss' := by
  refine ⟨h.1, fun b hb hw => ?_, fun q hq => (h.2.2 q hq).imp id (fun ⟨b, x1, x2, x3, p, s, x4, x5, x6⟩ => ⟨b, x1, (h1 b (by omega)).mpr x2, x3, p, s, by rw [(h2 b (by omega) x2).1]; exact x4, by rw [(h2 b (by omega) x2).2]; exact x5, x6⟩)⟩
  have hw2 := (h1 b hb).mp hw
  rw [(h2 b hb hw2).1, (h2 b hb hw2).2]
  exact h.2.1 b hb hw2
theorem m_hold {hk : m_Rr} {i : Nat} {x : Int32} (h : i < 6) : f_X2_hold hk (nI i) x = some (q_up hk i x) := by
  unfold f_X2_hold
  rw [if_neg (nI_pos (by omega)), if_neg (show ¬ (6 : Int32) ≤ nI i from nI_ge h (by decide)), q_ix_nI h (by decide)]; rfl
/-- a new bale, where there is room: what each side does, and the relation behind it -/
theorem m_new {H m hf : Nat} {h : List Nat} {bn ly pl sz ag rc ld lo lr hk rw st sh sw sp ss sr sa sd : m_Rr} (hR : m_R H m hf h bn ly pl sz ag rc ld lo lr hk rw st sh sw sp ss sr sa sd) {i s k : Nat} (hi : i < H) (hs1 : 1 ≤ s) (hs9 : s ≤ 9) (hk3 : k ≤ 3) (hfit : m_tw (m_w sz) h + s ≤ hf) :
    ∃ v, v < 128 ∧ f_X1_add ly pl sz ag rc ld (bn 8) (nI s) (nI k) = some (nI v, q_up ly v 1, q_up pl v (bn 8), q_up sz v (nI s), q_up ag v 0, q_up rc v (nI k), m_3 ld (v * 3)) ∧ f_X2_hold hk (nI i) (nI v) = some (q_up hk i (nI v)) ∧ f_X2_layInRow bn rw (nI v) (nI s) = some (q_up (q_up bn 7 (nI (h.length + 1))) 8 (bn 8 + nI s), q_up rw h.length (nI v)) ∧ f_X14_make_L29 sw 4096 0 = some (nI v) ∧ f_X14_make_L63 (nI v) 4096 sd 0 = some (m_3 sd (3 * v)) ∧
      m_R H m hf (h ++ [v]) (q_up (q_up bn 7 (nI (h.length + 1))) 8 (bn 8 + nI s)) (q_up ly v 1) (q_up pl v (bn 8)) (q_up sz v (nI s)) (q_up ag v 0) (q_up rc v (nI k)) (m_3 ld (v * 3)) lo lr (q_up hk i (nI v)) (q_up rw h.length (nI v)) st (q_up sh i (nI v)) (q_up sw v 1) (q_up sp v (bn 8)) (q_up ss v (nI s)) (q_up sr v (nI k)) (q_up sa v 0) (m_3 sd (3 * v)) := by
  obtain ⟨⟨hE, hZ⟩, ⟨hg1, hg2⟩, hv, hRh, ⟨hLf, hlo1, hlo2⟩, hK, hB⟩ := id hR
  obtain ⟨w1, w2, w3, w4⟩ := m_R_len hv hRh
  obtain ⟨hnd, hmem, hrw, hb7, hb8, htw, h64⟩ := id hRh
  obtain ⟨c1, c2, c3, c4, c5, c6⟩ := id hB
  obtain ⟨v, v8, v0, vl⟩ := m_free hv hRh (fun b hb => (hE b hb).1) hLf (by omega)
  have h6 := hK.1
  have hvh : v ∉ h := fun e => by have := ((hmem v).mp e).2; rw [v0] at this; exact absurd this (by decide)
  have htk : ∀ j, ¬ v ∈ h.take j := fun j e => hvh (List.mem_of_mem_take e)
  have htot : ∀ t : List Nat, v ∉ t → m_tot (q_up sz v (nI s)) t = m_tot sz t := fun t ht => by
    induction t with
    | nil => rfl
    | cons a t ih =>
      show q_up sz v (nI s) a + m_tot _ t = sz a + m_tot sz t
      rw [ih (fun x => ht (List.mem_cons_of_mem _ x)), m_up_n (fun e => ht (by rw [e]; exact List.mem_cons_self))]
  refine ⟨v, v8, ?_, m_hold (by omega), ?_, ?_, m_make63 v8, ⟨⟨fun b hb => ?_, fun b h1 h2 => ?_⟩, ⟨fun b hb => ?_, fun j hj => ?_⟩, fun b hb => ?_, ⟨?_, fun b => ?_, ?_, ?_, ?_, ?_, h64⟩, ⟨?_, hlo1, ?_⟩, ⟨hK.1, fun j hj => ⟨fun hjn => ?_, fun hjn => ?_⟩⟩, ⟨?_, ?_, ?_, ?_, ?_, ?_⟩⟩⟩
  · unfold f_X1_add
    have e := m_addL v8 v0 vl v 0 4096 (by omega) (by omega)
    rw [show nI 0 = 0 from rfl] at e
    rw [e, Option.bind_some, if_neg (show ¬ (1 : Nat) = 0 by decide), q_ix_nI v8 (by decide), Option.bind_some, Option.bind_some, Option.bind_some, Option.bind_some, Option.bind_some, m_add37 v8]; rfl
  · exact m_layInRow hb7 (by omega)
  · have e := m_makeL (sw := sw) v8 ((hE v v8).1.trans v0) (fun u hu => by rw [(hE u (by omega)).1]; exact vl u hu) v 0 4096 (by omega) (by omega)
    rwa [show nI 0 = 0 from rfl] at e
  · obtain ⟨x1, x2, x3, x4, x5⟩ := hE b hb
    by_cases e : b = v
    · subst e
      rw [m_up_s, m_up_s, m_up_s, m_up_s, m_up_s, m_up_s, m_up_s, m_up_s, m_up_s, m_up_s]
      exact ⟨rfl, rfl, rfl, rfl, rfl⟩
    · rw [m_up_n e, m_up_n e, m_up_n e, m_up_n e, m_up_n e, m_up_n e, m_up_n e, m_up_n e, m_up_n e, m_up_n e]
      exact ⟨x1, x2, x3, x4, x5⟩
  · rw [m_up_n (by omega)]; exact hZ b h1 h2
  · by_cases e : b = v
    · subst e
      refine ⟨k, hk3, m_up_s, fun r hr => ?_⟩
      rw [m_3_i (by omega), m_3_i (by omega)]
      exact ⟨rfl, Or.inl rfl⟩
    · obtain ⟨k', k1, k2, k3⟩ := hg1 b hb
      refine ⟨k', k1, by rw [m_up_n e]; exact k2, fun r hr => ?_⟩
      rw [m_3_o (by omega), m_3_o (by omega), m_up_n e]
      refine ⟨(k3 r hr).1, (k3 r hr).2.imp id (fun ⟨c, x, y, z⟩ => ⟨c, x, y, fun hz => ?_⟩)⟩
      by_cases e2 : c = v
      · subst e2; rw [m_up_s]; decide
      · rw [m_up_n e2]; exact z hz
  · by_cases e : 3 * v ≤ j ∧ j < 3 * v + 3
    · obtain ⟨r, rfl⟩ : ∃ r, j = 3 * v + r := ⟨j - 3 * v, by omega⟩
      exact Or.inl (m_3_i (by omega))
    · rw [m_3_o (by omega)]; exact hg2 j hj
  · by_cases e : b = v
    · subst e
      rw [m_up_s, m_up_s]
      exact ⟨Or.inr (Or.inl rfl), fun _ => ⟨s, hs1, hs9, rfl⟩⟩
    · rw [m_up_n e, m_up_n e]; exact hv b hb
  · exact List.nodup_append.mpr ⟨hnd, by simp, fun x hx y hy e => by rw [List.mem_singleton.mp hy] at e; rw [e] at hx; exact hvh hx⟩
  · rw [List.mem_append, List.mem_singleton, hmem]
    by_cases e : b = v
    · subst e; rw [m_up_s]; exact ⟨fun _ => ⟨v8, rfl⟩, fun _ => Or.inr rfl⟩
    · rw [m_up_n e]; exact ⟨fun z => z.resolve_right e, Or.inl⟩
  · rw [hb8, ← htot h hvh]
    refine m_Rw_a (fun j c hj => ?_) hvh
    obtain ⟨x1, x2⟩ := hrw j c hj
    exact ⟨x1, by rw [x2, htot _ (htk j)]⟩
  · rw [m_up_n (by decide), m_up_s]; simp
  · rw [m_up_s, hb8, m_tot_a, htot h hvh, m_up_s]
  · rw [m_tw_app, m_tw_congr (v := m_w sz) (fun x hx => by unfold m_w; rw [m_up_n (fun e => hvh (by rw [← e]; exact hx))])]
    have : m_w (q_up sz v (nI s)) v = s := m_w_nI m_up_s (by omega)
    show m_tw (m_w sz) h + (m_w (q_up sz v (nI s)) v + 0) ≤ hf
    omega
  · have hsv : ¬ sw v = 2 := by rw [(hE v v8).1, v0]; decide
    refine m_Lf_congr hLf (fun b hb => ?_) (fun b hb hw => ?_)
    · by_cases e : b = v
      · subst e; rw [m_up_s]; exact ⟨fun z => absurd z (by decide), fun z => absurd z hsv⟩
      · rw [m_up_n e]
    · have e : b ≠ v := fun e => hsv (by rw [← e]; exact hw)
      rw [m_up_n e, m_up_n e]; exact ⟨rfl, rfl⟩
  · rw [hlo2]
    have hsv : ¬ sw v = 2 := by rw [(hE v v8).1, v0]; decide
    refine m_sm_congr (fun b hb => ?_) (fun _ _ _ => rfl)
    by_cases e : b = v
    · subst e; rw [m_up_s]; exact ⟨fun z => absurd z hsv, fun z => absurd z (by decide)⟩
    · rw [m_up_n e]
  · obtain ⟨x1, x2⟩ := (hK.2 j hj).1 hjn
    by_cases e : j = i
    · subst e
      rw [m_up_s, m_up_s]
      exact ⟨rfl, Or.inr ⟨v, ⟨v8, by rw [m_up_s]; decide⟩, rfl⟩⟩
    · rw [m_up_n e, m_up_n e]
      refine ⟨x1, x2.imp id (fun ⟨c, ⟨y1, y2⟩, y3⟩ => ⟨c, ⟨y1, ?_⟩, y3⟩)⟩
      by_cases e2 : c = v
      · subst e2; rw [m_up_s]; decide
      · rw [m_up_n e2]; exact y2
  · rw [m_up_n (by omega)]; exact (hK.2 j hj).2 hjn
  · rw [m_up_n (by decide), m_up_n (by decide)]; exact c1
  · rw [m_up_n (by decide), m_up_n (by decide)]; exact c2
  · rw [m_up_n (by decide), m_up_n (by decide)]; exact c3
  · rw [m_up_n (by decide), m_up_n (by decide)]; exact c4
  · rw [m_up_n (by decide), m_up_n (by decide)]; exact c5
  · rw [m_up_n (by decide), m_up_n (by decide)]; exact c6
