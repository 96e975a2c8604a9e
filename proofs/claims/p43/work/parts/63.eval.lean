/-! MATH: a run of orders, on both sides -/
theorem m_evalL {H m hf : Nat} {h : List Nat} {pn mp bn ly pl sz ag rc ld lo lr hk rw st sh sw sp ss sr sa sd nu pc : m_Rr} {od : Nat → Option Nat} (hP : m_Pl H m hf pn mp) (hR : m_R H m hf h bn ly pl sz ag rc ld lo lr hk rw st sh sw sp ss sr sa sd) {i0 i1 oc b u : Nat} (hoc : pn 5 = nI oc) (hoc4 : oc ≤ 400) (hi1 : i1 ≤ oc) (hb : b ≤ 796) : ∀ (n q a t fu fv : Nat) (rk sk ms : m_Rr), i0 + q + n = i1 → n < fu → n < fv → t + n ≤ 400 → m_Cd (fun j g => g < H ∧ pc j = nI g) od nu pc n (i0 + q) a t b u → rk 1 = nI t → (∀ j, j < t → sk j = ms j) →
    ∃ rk' sk' ms', f_X8_reckon_L5 pn nu bn sz ag lo hk od (nI i0) (nI i1) fu rk sk (nI q) = some (rk', sk') ∧ f_X14_carryOut_L4 mp pc st sh sw ss sa (nI b) fv ms (nI t - 1) (nI a) = some ms' ∧ rk' 1 = nI u ∧ (∀ j, j < u → sk' j = ms' j) := by
  intro n
  induction n with
  | zero =>
    intro q a t fu fv rk sk ms hq hfu hfv ht hC hrk hsk
    obtain ⟨fu, rfl⟩ : ∃ z, fu = z + 1 := ⟨fu - 1, by omega⟩
    obtain ⟨fv, rfl⟩ : ∃ z, fv = z + 1 := ⟨fv - 1, by omega⟩
    obtain ⟨rfl, rfl⟩ := hC
    refine ⟨rk, sk, ms, ?_, ?_, hrk, hsk⟩
    · rw [f_X8_reckon_L5, nI_add]
      by_cases e : (400 : Int32) ≤ nI q
      · rw [if_pos e]
      · rw [if_neg e, if_pos (nI_le (by omega) (by omega))]
    · rw [f_X14_carryOut_L4, if_pos (nI_le (Nat.le_refl _) (by omega))]
  | succ n ih =>
    intro q a t fu fv rk sk ms hq hfu hfv ht hC hrk hsk
    obtain ⟨fu, rfl⟩ : ∃ z, fu = z + 1 := ⟨fu - 1, by omega⟩
    obtain ⟨fv, rfl⟩ : ∃ z, fv = z + 1 := ⟨fv - 1, by omega⟩
    have hab := (m_Cd_b hC).1
    obtain ⟨d, e, v, c1, c2, c3⟩ := hC
    have hb2 := m_Cd_b c3
    obtain ⟨o1, o2, o3, o4⟩ := m_O_e c2
    have c2 := id c2
    have eC : f_X8_reckon_L5 pn nu bn sz ag lo hk od (nI i0) (nI i1) (fu + 1) rk sk (nI q) = (f_X8_obey pn bn sz ag lo hk rk sk d (nu (i0 + q))).bind fun r7 => f_X8_reckon_L5 pn nu bn sz ag lo hk od (nI i0) (nI i1) fu r7.1 r7.2 (nI (q + 1)) := by
      have e1 : f_X6_isOrder pn (nI (i0 + q)) = some true := by
        unfold f_X6_isOrder
        rw [if_neg (nI_pos (by omega)), hoc, if_neg (nI_ge (by omega) (by omega)), if_neg (show ¬ (400 : Int32) ≤ nI (i0 + q) from nI_ge (b := 400) (by omega) (by decide))]
      have e2 : f_X6_order pn od (nI (i0 + q)) = some d := by
        unfold f_X6_order
        rw [e1, Option.bind_some, if_neg (by decide), q_ix_nI (by omega) (by decide), Option.bind_some, c1]; rfl
      have e3 : f_X6_orderNumber pn nu (nI (i0 + q)) = some (nu (i0 + q)) := by
        unfold f_X6_orderNumber
        rw [e1, Option.bind_some, if_neg (by decide), q_ix_nI (by omega) (by decide), Option.bind_some]
      have e4 : q_e49 d = some () := by unfold q_e49; rw [if_pos o4]
      rw [f_X8_reckon_L5, if_neg (show ¬ (400 : Int32) ≤ nI q from nI_ge (b := 400) (by omega) (by decide)), nI_add, if_neg (nI_ge (by omega) (by omega)), e2, Option.bind_some, e4, Option.bind_some, e3, Option.bind_some, nI_1]
    have q800 : q_ix (nI a) 800 = some a := q_ix_nI (by omega) (by decide)
    have hnext : i0 + q + 1 = i0 + (q + 1) := by omega
    rw [hnext] at c3
    by_cases hv : v = t + 1
    · subst hv
      obtain ⟨x, y1, y2, y3, y4⟩ := m_val hP hR c2 rfl (by omega)
      obtain ⟨rk', sk', ms', z1, z2, z3⟩ := ih (q + 1) e (t + 1) fu fv (q_up rk 1 (nI (t + 1))) (q_up sk t x) (q_up ms t x) (by omega) (by omega) (by omega) (by omega) c3 m_up_s (fun j hj => by
        by_cases ej : j = t
        · subst ej; rw [m_up_s, m_up_s]
        · rw [m_up_n ej, m_up_n ej]; exact hsk j (by omega))
      refine ⟨rk', sk', ms', ?_, ?_, z3⟩
      · rw [eC, y4, m_push hrk (by omega), Option.bind_some, Option.bind_some]; exact z1
      · rw [f_X14_carryOut_L4, if_neg (nI_ge (by omega) (by omega)), q800, Option.bind_some, y3, Option.bind_some, if_neg (nI_pos (by omega)), nI_1, y2, Option.bind_some, m_subadd, q_ix_nI (show t < 400 by omega) (by decide), Option.bind_some, nI_add, show a + 1 + (e - a - 1) = e by omega]
        rw [show nI (t + 1) - 1 = nI t from nI_pred t] at z2
        exact z2
    · by_cases hv2 : v = t
      · subst hv2
        have hc : e = a + 1 ∧ 1 ≤ v ∧ ((d = 4 ∧ pc a = 33) ∨ (d = 29 ∧ pc a = 24)) := by
          rcases c2 with ⟨h, -⟩ | ⟨h, -⟩ | ⟨h, -⟩ | ⟨h, -⟩ | ⟨-, h1, h2, h3⟩ | ⟨h, -⟩
          · exact absurd h hv
          · exact absurd h hv
          · exact absurd h hv
          · exact absurd h hv
          · exact ⟨h2, h1, h3⟩
          · omega
        clear c2
        obtain ⟨rfl, hv1, hc⟩ := hc
        obtain ⟨t, rfl⟩ : ∃ t, v = t + 1 := ⟨v - 1, by clear hc; omega⟩
        obtain ⟨g, y1, y2⟩ := m_un1 (pn := pn) (bn := bn) (sz := sz) (ag := ag) (lo := lo) (hk := hk) (sk := sk) (n := nu (i0 + q)) hc hrk (by clear hc; omega)
        clear hc
        obtain ⟨rk', sk', ms', z1, z2, z3⟩ := ih (q + 1) (a + 1) (t + 1) fu fv (q_up (q_up rk 1 (nI t)) 1 (nI (t + 1))) (q_up sk t (g (sk t))) (q_up ms t (g (ms t))) (by omega) (by omega) (by omega) (by omega) c3 m_up_s (fun j hj => by
          by_cases ej : j = t
          · subst ej; rw [m_up_s, m_up_s, hsk j hj]
          · rw [m_up_n ej, m_up_n ej]; exact hsk j hj)
        obtain ⟨w1, w2⟩ := y2 mp st sh sw ss sa ms (nI b) fv
        refine ⟨rk', sk', ms', ?_, ?_, z3⟩
        · rw [eC, y1, Option.bind_some]; exact z1
        · rw [show nI (t + 1) - 1 = nI t from nI_pred t] at z2 ⊢
          rw [f_X14_carryOut_L4, if_neg (nI_ge (by omega) (by omega)), q800, Option.bind_some, w1, Option.bind_some, if_pos (by decide)]
          rw [w2]; exact z2
      · have hc : e = a + 1 ∧ t = v + 1 ∧ 1 ≤ v ∧ ((d = 30 ∧ pc a = 25) ∨ (d = 31 ∧ pc a = 26) ∨ (d = 32 ∧ pc a = 27) ∨ (d = 33 ∧ pc a = 28) ∨ (d = 40 ∧ pc a = 34) ∨ (d = 41 ∧ pc a = 35) ∨ (d = 42 ∧ pc a = 36) ∨ (d = 43 ∧ pc a = 37) ∨ (d = 44 ∧ pc a = 38) ∨ (d = 45 ∧ pc a = 39) ∨ (d = 46 ∧ pc a = 42) ∨ (d = 47 ∧ pc a = 43) ∨ (d = 48 ∧ pc a = 44)) := by
          rcases c2 with ⟨h, -⟩ | ⟨h, -⟩ | ⟨h, -⟩ | ⟨h, -⟩ | ⟨h, -⟩ | ⟨h1, h2, h3, h4⟩
          · exact absurd h hv
          · exact absurd h hv
          · exact absurd h hv
          · exact absurd h hv
          · exact absurd h hv2
          · exact ⟨h3, h1, h2, h4⟩
        clear c2
        obtain ⟨rfl, rfl, hv1, hc⟩ := hc
        obtain ⟨y1, y2, y3, y4, y5⟩ := m_join hc
        clear hc
        obtain ⟨w, rfl⟩ : ∃ w, v = w + 1 := ⟨v - 1, by omega⟩
        obtain ⟨x, x1, x2⟩ := y1 (sk w) (sk (w + 1))
        obtain ⟨rk', sk', ms', z1, z2, z3⟩ := ih (q + 1) (a + 1) (w + 1) fu fv (q_up (q_up (q_up rk 1 (nI (w + 1))) 1 (nI w)) 1 (nI (w + 1))) (q_up sk w x) (q_up ms w x) (by omega) (by omega) (by omega) (by omega) c3 m_up_s (fun j hj => by
          by_cases ej : j = w
          · subst ej; rw [m_up_s, m_up_s]
          · rw [m_up_n ej, m_up_n ej]; exact hsk j (by omega))
        refine ⟨rk', sk', ms', ?_, ?_, z3⟩
        · rw [eC, y5, m_pop hrk (by omega), Option.bind_some, m_pop (t := w) m_up_s (by omega), Option.bind_some, x1, Option.bind_some, m_push (t := w) m_up_s (by omega), Option.bind_some, Option.bind_some]; exact z1
        · have e5 : nI (w + 1) + -1 = nI w := by rw [← Int32.sub_eq_add_neg]; exact nI_pred w
          rw [show nI (w + 1 + 1) - 1 = nI (w + 1) from nI_pred (w + 1), f_X14_carryOut_L4, if_neg (nI_ge (by omega) (by omega)), q800, Option.bind_some, y2, Option.bind_some, if_pos (by decide), if_neg y3, if_pos y4, e5, nI_1, q_ix_nI (show w < 400 by omega) (by decide), Option.bind_some, q_ix_nI (show w + 1 < 400 by omega) (by decide), Option.bind_some, ← hsk w (by omega), ← hsk (w + 1) (by omega), x2, Option.bind_some, Option.bind_some, nI_1]
          rw [show nI (w + 1) - 1 = nI w from nI_pred w] at z2
          exact z2
theorem m_eval {H m hf : Nat} {h : List Nat} {pn mp bn ly pl sz ag rc ld lo lr hk rw st sh sw sp ss sr sa sd nu pc : m_Rr} {od : Nat → Option Nat} (hP : m_Pl H m hf pn mp) (hR : m_R H m hf h bn ly pl sz ag rc ld lo lr hk rw st sh sw sp ss sr sa sd) {i0 n oc a b : Nat} (hoc : pn 5 = nI oc) (hoc4 : oc ≤ 400) (hi1 : i0 + n ≤ oc) (hb : b ≤ 796) (hC : m_Cd (fun j g => g < H ∧ pc j = nI g) od nu pc n i0 a 0 b 1) (rk sk ms : m_Rr) :
    ∃ x rk' sk' ms', f_X8_reckon pn nu bn sz ag lo hk rk sk od (nI i0) (nI (i0 + n)) = some (x, rk', sk') ∧ f_X14_carryOut mp pc ms st sh sw ss sa (nI a) (nI b) = some (x, ms') := by
  obtain ⟨rk', sk', ms', z1, z2, z3, z4⟩ := m_evalL hP hR (i0 := i0) (i1 := i0 + n) hoc hoc4 hi1 hb n 0 a 0 4096 4096 (q_up rk 1 0) sk ms (by omega) (by omega) (by omega) (by omega) hC m_up_s (fun j hj => by omega)
  refine ⟨sk' 0, q_up rk' 1 (nI 0), sk', ms', ?_, ?_⟩
  · unfold f_X8_reckon
    rw [show nI 0 = 0 from rfl] at z1
    rw [z1, Option.bind_some, m_pop (t := 0) z3 (by omega), Option.bind_some]
  · unfold f_X14_carryOut
    rw [show nI 0 - 1 = (-1 : Int32) from rfl] at z2
    rw [z2, Option.bind_some, show (0 : Int32) = nI 0 from rfl, q_ix_nI (by decide) (by decide), Option.bind_some, z4 0 (by omega)]
