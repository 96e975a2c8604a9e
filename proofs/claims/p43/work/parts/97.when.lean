/-! MATH: WHEN; the state between lines -/
/-- a step that is told, on both sides; code from below cs -/
def m_Sq (H oc cs : Nat) (od : Nat → Option Nat) (nu pc : m_Rr) (T1 : Nat → m_Rr) (K1 : Nat → Nat → Option Nat) (pd po pq pr ps pt pe : m_Rr) (k : Nat) : Prop :=
  (∃ x, x < H ∧ T1 k 1 = nI x ∧ po k = nI x) ∧
  ((K1 k 0 = some 9 ∧ pd k = 4 ∧ ∃ i0 n a b r, T1 k 4 = nI i0 ∧ T1 k 5 = nI (i0 + n) ∧ i0 + n ≤ oc ∧ ps k = nI a ∧ pt k = nI b ∧ b ≤ cs ∧ m_Cd (m_N H pc) od nu pc n i0 a 0 b 1 ∧ r ≤ 3 ∧ T1 k 3 = nI r ∧ pr k = nI r) ∨
   (K1 k 0 = some 10 ∧ pd k = 7 ∧ ∃ y, y < H ∧ T1 k 2 = nI y ∧ pq k = nI y ∧ T1 k 3 = pr k) ∨
   (K1 k 0 = some 11 ∧ pd k = 10 ∧ T1 k 3 = pr k) ∨
   (K1 k 0 = some 12 ∧ pd k = 11 ∧ ∃ y, y < H ∧ T1 k 2 = nI y ∧ pq k = nI y ∧ T1 k 3 = pr k) ∨
   (K1 k 0 = some 13 ∧ pd k = 14)) ∧
  (∃ i0 n a b, T1 k 6 = nI i0 ∧ T1 k 7 = nI (i0 + n) ∧ i0 + n ≤ oc ∧ pt k = nI a ∧ pe k = nI b ∧ b ≤ cs ∧ ((n = 0 ∧ a = b) ∨ (0 < n ∧ m_Cd (m_N H pc) od nu pc n i0 a 0 b 1)))
theorem m_Sq_Sk {H oc cs : Nat} {od : Nat → Option Nat} {nu pc : m_Rr} {T1 : Nat → m_Rr} {K1 : Nat → Nat → Option Nat} {pd po pq pr ps pt pe : m_Rr} {k : Nat} (h : m_Sq H oc cs od nu pc T1 K1 pd po pq pr ps pt pe k) (hc : cs ≤ 796) : m_Sk H oc od nu pc T1 K1 pd po pq pr ps pt pe k := by
  obtain ⟨h1, h2, i0, n, a, b, t1, t2, t3, t4, t5, t6, t7⟩ := h
  refine ⟨h1, ?_, i0, n, a, b, t1, t2, t3, t4, t5, by omega, t7⟩
  rcases h2 with ⟨x1, x2, i0, n, a, b, r, x3, x4, x5, x6, x7, x8, x9⟩ | h2
  · exact Or.inl ⟨x1, x2, i0, n, a, b, r, x3, x4, x5, x6, x7, by omega, x9⟩
  · exact Or.inr h2
theorem m_Sq_congr {H oc cs H' oc' cs' : Nat} {od od' : Nat → Option Nat} {nu pc nu' pc' : m_Rr} {T1 T1' : Nat → m_Rr} {K1 K1' : Nat → Nat → Option Nat} {pd po pq pr ps pt pe pd' po' pq' pr' ps' pt' pe' : m_Rr} {k : Nat} (h : m_Sq H oc cs od nu pc T1 K1 pd po pq pr ps pt pe k) (hH : H ≤ H') (ho : oc ≤ oc') (hc : cs ≤ cs') (hT : T1' k = T1 k) (hK : K1' k = K1 k) (e1 : pd' k = pd k) (e2 : po' k = po k) (e3 : pq' k = pq k) (e4 : pr' k = pr k) (e5 : ps' k = ps k) (e6 : pt' k = pt k) (e7 : pe' k = pe k) (hd : ∀ i, i < oc → od' i = od i ∧ nu' i = nu i) (hp : ∀ j, j < cs → pc' j = pc j) : m_Sq H' oc' cs' od' nu' pc' T1' K1' pd' po' pq' pr' ps' pt' pe' k := by
  obtain ⟨⟨x, x1, x2, x3⟩, h2, i0, n, a, b, t1, t2, t3, t4, t5, t6, t7⟩ := h
  refine ⟨⟨x, by omega, by rw [hT]; exact x2, by rw [e2]; exact x3⟩, ?_, i0, n, a, b, by rw [hT]; exact t1, by rw [hT]; exact t2, by omega, by rw [e6]; exact t4, by rw [e7]; exact t5, by omega, ?_⟩
  · rw [hK, e1, e4]
    rcases h2 with ⟨x1, x2, i0, n, a, b, r, x3, x4, x5, x6, x7, x8, x9, x10, x11, x12⟩ | ⟨x1, x2, y, x3, x4, x5, x6⟩ | ⟨x1, x2, x3⟩ | ⟨x1, x2, y, x3, x4, x5, x6⟩ | h2
    · exact Or.inl ⟨x1, x2, i0, n, a, b, r, by rw [hT]; exact x3, by rw [hT]; exact x4, by omega, by rw [e5]; exact x6, by rw [e6]; exact x7, by omega, m_Cd_pc x9 hH (fun j g1 g2 => hd j (by omega)) (fun j g1 g2 => hp j (by omega)), x10, by rw [hT]; exact x11, x12⟩
    · exact Or.inr (Or.inl ⟨x1, x2, y, by omega, by rw [hT]; exact x4, by rw [e3]; exact x5, by rw [hT]; exact x6⟩)
    · exact Or.inr (Or.inr (Or.inl ⟨x1, x2, by rw [hT]; exact x3⟩))
    · exact Or.inr (Or.inr (Or.inr (Or.inl ⟨x1, x2, y, by omega, by rw [hT]; exact x4, by rw [e3]; exact x5, by rw [hT]; exact x6⟩)))
    · exact Or.inr (Or.inr (Or.inr (Or.inr h2)))
  · rcases t7 with t7 | ⟨t7, t8⟩
    · exact Or.inl t7
    · exact Or.inr ⟨t7, m_Cd_pc t8 hH (fun j g1 g2 => hd j (by omega)) (fun j g1 g2 => hp j (by omega))⟩
/-- all that is told so far -/
def m_QL (H oc cs ns : Nat) (qn qu : m_Rr) (qd : Nat → Option Nat) (T2 : Nat → m_Rr) (K2 : Nat → Nat → Option Nat) (mq pd po pq pr ps pt pe v : m_Rr) : Prop :=
  ns ≤ 20 ∧ (∃ m hf, 8 ≤ hf ∧ hf ≤ 64 ∧ m ≤ 64 ∧ m_Pl H m hf qn mq) ∧ qn 4 = nI ns ∧ mq 4 = nI ns ∧ ∀ k, k < ns → m_Sq H oc cs qd qu v T2 K2 pd po pq pr ps pt pe k
/-- between lines, t tokens behind -/
def m_LS (mt kn mf mm : m_Rr) (n : Nat) (tg : Nat → Option Nat) (tv : m_Rr) (V0 : m_V) (t : Nat) (qn qu rd hn : m_Rr) (qd : Nat → Option Nat) (T2 : Nat → m_Rr) (K2 : Nat → Nat → Option Nat) (md mr mp ps pt pe pc pw : m_Rr) : Prop :=
  t ≤ n ∧ rd 3 = nI t ∧ md 9 = nI t ∧ md 10 = nI 0 ∧ (∀ i, t ≤ i → i ≤ n → mr i = 0) ∧ ∃ H oc cs op ns mq pd po pq pr, H ≤ 6 ∧ qn 3 = nI H ∧ qn 5 = nI oc ∧ oc ≤ t ∧ mp 14 = nI cs ∧ cs ≤ 2 * t ∧ cs ≤ 796 ∧ mp 16 = nI op ∧ op ≤ t ∧ mp 5 = nI ns ∧ ns ≤ t ∧ m_St mt kn mf mm tg tv hn V0 (mq, pd, po, pq, pr) H rd mr pc pw op cs t (fun v => m_QL H oc cs ns qn qu qd T2 K2 mq pd po pq pr ps pt pe v)
section
variable {tp mt tk ts tl tv kn mf mm hn : m_Rr} {z n : Nat} {tg : Nat → Option Nat} {V0 : m_V} {H t : Nat} {qn qu rd md mr mp pc pw : m_Rr} {qd : Nat → Option Nat} {oc cs op s : Nat} {Q Q' : m_Rr → Prop} {W : m_Rr × m_Rr × m_Rr × m_Rr × m_Rr} {T : Nat → m_Rr}
theorem m_cWE (h : rd 4 = 1) : m_cW hn tk tv tg s qn qu rd qd T = some (qn, qu, rd, qd, T) := by
  unfold m_cW
  rw [m_signE h, Option.bind_some, m_e49 (by decide), Option.bind_some, if_neg (by decide)]
theorem m_LM_when (hF : m_TF tp mt z n tk tg ts tl tv kn mf mm) (h : m_LM mt kn mf mm n tg tv hn V0 W H t qn rd md mr mp pc pw oc cs op Q) (T : Nat → m_Rr) (s : Nat) (qu : m_Rr) (qd : Nat → Option Nat) :
    ∃ qn' qu' rd' qd' T' ok8 md8, m_cW hn tk tv tg s qn qu rd qd T = some (qn', qu', rd', qd', T') ∧ f_X15_eat md kn 15 = some (ok8, md8) ∧ ((ok8 = false ∧ qn' = qn ∧ qu' = qu ∧ rd' = rd ∧ qd' = qd ∧ T' = T ∧ md8 = md) ∨
      (ok8 = true ∧ ∃ ok md' mr' mp' pc' pw', f_X15_isTest (k_isSingle 12) (k_isTest 12) (k_isValue 12) (k_isSum 12) md8 mt kn mf mm mr mp pc pw = some (ok, md', mr', mp', pc', pw') ∧ ((ok = false ∧ m_Bd n rd' md' ∧ (∀ j, j ≠ 14 → j ≠ 16 → mp' j = mp j)) ∨ (ok = true ∧ (∀ j, j ≠ 5 → qn' j = qn j) ∧ (∀ j, j ≠ 14 → j ≠ 16 → mp' j = mp j) ∧ ∃ oc' cs' op' t', t < t' ∧ oc ≤ oc' ∧ cs ≤ cs' ∧ T' = q_u2 (q_u2 T s 6 (nI oc)) s 7 (nI oc') ∧ m_LM mt kn mf mm n tg tv hn V0 W H t' qn' rd' md' mr' mp' pc' pw' oc' cs' op' (fun v => ∃ v0, Q v0 ∧ (∀ j, j < cs → v j = v0 j) ∧ (∀ i, i < oc → qd' i = qd i ∧ qu' i = qu i) ∧ m_Cd (m_N H v) qd' qu' v (oc' - oc) oc cs 0 cs' 1))))) := by
  have n400 : n ≤ 400 := hF.2.2.1
  have hTop := fun Z => (m_top (V0 := V0) (W := W) (H := H) (hn := hn) hF Z).2
  obtain ⟨ok1, rd1, md1, e1, e2, e3⟩ := m_LM_take hF h (x := 19) (c := 15) (by decide) (by decide) rfl
  obtain ⟨h1, h3, h9, h10, h0, hH, hq3, hq5, a1, a2, a3, a4, a5, hS⟩ := h
  have hn1 := m_St_n1 hS
  obtain ⟨q, s1, s2, s3, -, -, -⟩ := m_sg hF h1
  obtain ⟨b1, b2⟩ := m_signP hF h3 hn1 h1 s2
  have i15 : f_X15_eat md kn 15 = some (if q = 19 then (true, q_up md 9 (nI (t + 1))) else (false, md)) := m_eatP (x := 19) h9 (by omega) s1 s3 (by decide)
  unfold m_cW
  rw [b1, Option.bind_some, m_e49 b2, Option.bind_some, i15]
  by_cases e : q = 19
  · subst e
    rw [m_takeP hF h3 hn1 h1 s2 (by decide), if_pos rfl] at e1
    rw [i15, if_pos rfl] at e2
    obtain ⟨rfl, rfl⟩ : true = ok1 ∧ q_up rd 3 (nI (t + 1)) = rd1 := by
      have := Option.some.inj e1
      exact ⟨(Prod.mk.inj this).1, (Prod.mk.inj this).2⟩
    obtain ⟨-, rfl⟩ : true = true ∧ q_up md 9 (nI (t + 1)) = md1 := by
      have := Option.some.inj e2
      exact ⟨rfl, (Prod.mk.inj this).2⟩
    rcases e3 with ⟨f, -⟩ | ⟨-, e3⟩
    · exact absurd f (by decide)
    · obtain ⟨qn', qu', rd', qd', ok, md', mr', mp', pc', pw', g1, g2, g3, g4, g5⟩ := m_LM_ex (qu := qu) (qd := qd) hF e3 hTop
      rw [if_pos rfl, if_pos rfl, h3, nI_1, g1, Option.bind_some]
      dsimp only
      refine ⟨_, _, _, _, _, _, _, rfl, rfl, Or.inr ⟨rfl, ok, md', mr', mp', pc', pw', g2, ?_⟩⟩
      rcases g5 with ⟨rfl, g5⟩ | ⟨rfl, oc', cs', op', t', t1, t2, t3, g5⟩
      · exact Or.inl ⟨rfl, g5, g4⟩
      · have hq5' : qn' 5 = nI oc' := by
          obtain ⟨-, -, -, -, -, -, -, hq5', -⟩ := g5
          exact hq5'
        exact Or.inr ⟨rfl, g3, g4, oc', cs', op', t', by omega, t2, t3, by rw [hq5, hq5'], g5⟩
  · rw [if_neg e, if_neg e]
    exact ⟨_, _, _, _, _, _, _, rfl, rfl, Or.inl ⟨rfl, rfl, rfl, rfl, rfl, rfl, rfl⟩⟩
end
