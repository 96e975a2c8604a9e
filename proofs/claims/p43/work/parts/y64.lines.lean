/-! ALL LINES that are told are read, by the class alone -/
section ZLINES
variable {t t1 k oc i fu : Nat} {tk tv hn : m_Rr} {tg : Nat → Option Nat} {sv : List (Nat × Int32)} {nm : List Int32} {s : Nat} {v v2 : Int32} {qn qu rd : m_Rr} {qd : Nat → Option Nat} {T2 : Nat → m_Rr} {K2 : Nat → Nat → Option Nat}
theorem zp_nlt {i : Nat} (h : i ≤ 400) : ¬ (400 : Int32) < nI i := m_nlt (a := 400) (b := i) h (by decide)
/-- one setting goes by -/
theorem zp_goS (hT : zp_T tk tg tv sv) (h3 : rd 3 = nI t) (h4 : rd 4 = 0) (h : sv[t]? = some (s, v)) (hs0 : s ≠ 0) (hs : f_X7_isStep s = some false) (hi : i ≤ 400) {qn' hn' : m_Rr} (hS : f_X7_readSetting qn rd hn tk tv tg = some (qn', q_up rd 3 (nI t1), hn')) (h' : sv[t1]? = some (38, v2)) :
    f_X7_read_L18 tk tv tg (fu + 1) qn qu rd hn qd T2 K2 (nI i) = f_X7_read_L18 tk tv tg fu qn' qu (q_up rd 3 (nI (t1 + 1))) hn' qd T2 K2 (nI (i + 1)) := by
  obtain ⟨a1, a2, a3⟩ := zp_sign hT h3 h4 h
  have e := zp_take hT (rd := q_up rd 3 (nI t1)) m_up_s (zp_rd h4) h'
  rw [zp_uu] at e
  rw [f_X7_read_L18, if_neg (zp_nlt hi), a1, Option.bind_some, a2, Option.bind_some, if_neg hs0, if_neg (by rw [h4]; decide), Option.bind_some, a2, Option.bind_some, hs, Option.bind_some, if_pos (show q_bz false = 0 from rfl), hS, Option.bind_some, e, Option.bind_some, nI_1]
/-- one step's line goes by -/
theorem zp_goL (hT : zp_T tk tg tv sv) (h3 : rd 3 = nI t) (h4 : rd 4 = 0) (h : sv[t]? = some (s, v)) (hs0 : s ≠ 0) (hs : f_X7_isStep s = some true) (hi : i ≤ 400) {qn' qu' : m_Rr} {qd' : Nat → Option Nat} {T2' : Nat → m_Rr} {K2' : Nat → Nat → Option Nat} (hS : f_X7_readStep qn qu rd hn tk tv qd tg T2 K2 s = some (qn', qu', q_up rd 3 (nI t1), qd', T2', K2')) (h' : sv[t1]? = some (38, v2)) :
    f_X7_read_L18 tk tv tg (fu + 1) qn qu rd hn qd T2 K2 (nI i) = f_X7_read_L18 tk tv tg fu qn' qu' (q_up rd 3 (nI (t1 + 1))) hn qd' T2' K2' (nI (i + 1)) := by
  obtain ⟨a1, a2, a3⟩ := zp_sign hT h3 h4 h
  have e := zp_take hT (rd := q_up rd 3 (nI t1)) m_up_s (zp_rd h4) h'
  rw [zp_uu] at e
  rw [f_X7_read_L18, if_neg (zp_nlt hi), a1, Option.bind_some, a2, Option.bind_some, if_neg hs0, if_neg (by rw [h4]; decide), Option.bind_some, a2, Option.bind_some, hs, Option.bind_some, if_neg (show ¬ q_bz true = 0 by decide), Option.bind_some, a2, Option.bind_some, hS, Option.bind_some, e, Option.bind_some, nI_1]
/-- the end -/
theorem zp_goE (hT : zp_T tk tg tv sv) (h3 : rd 3 = nI t) (h4 : rd 4 = 0) (h : sv[t]? = some (0, v)) (hi : i ≤ 400) :
    f_X7_read_L18 tk tv tg (fu + 1) qn qu rd hn qd T2 K2 (nI i) = some (qn, qu, rd, hn, qd, T2, K2) := by
  obtain ⟨a1, a2, a3⟩ := zp_sign hT h3 h4 h
  rw [f_X7_read_L18, if_neg (zp_nlt hi), a1, Option.bind_some, a2, Option.bind_some, if_pos rfl]
/-- a number is set -/
theorem zp_setN (hT : zp_T tk tg tv sv) (h3 : rd 3 = nI t) (h4 : rd 4 = 0) {a : Nat} (h : sv[t]? = some (s, v)) (h' : sv[t + 1]? = some (2, nI a)) (hs : (s = 5 ∧ 8 ≤ a ∧ a ≤ 64) ∨ (s = 6 ∧ a ≤ 64) ∨ (s = 7 ∧ a ≤ 5)) :
    f_X7_readSetting qn rd hn tk tv tg = some (q_up qn (if s = 5 then 0 else if s = 6 then 1 else 2) (nI a), q_up rd 3 (nI (t + 2)), hn) := by
  obtain ⟨a1, a2, a3⟩ := zp_sign hT h3 h4 h
  unfold f_X7_readSetting
  rcases hs with ⟨rfl, h1, h2⟩ | ⟨rfl, h2⟩ | ⟨rfl, h2⟩
  · have e := zp_numb hT (rd := q_up rd 3 (nI (t + 1))) (lo := 8) (hi := 64) m_up_s (zp_rd h4) h' (m_nlt (a := a) (b := 8) h1 (by omega)) (nI_le (b := 64) h2 (by decide))
    rw [zp_uu] at e
    rw [a1, Option.bind_some, a2, Option.bind_some, q_ix_nI a3 (by decide), Option.bind_some, if_pos (by decide), h3, nI_1, e, Option.bind_some]
    rfl
  · have e := zp_numb hT (rd := q_up rd 3 (nI (t + 1))) (lo := 0) (hi := 64) m_up_s (zp_rd h4) h' (nI_pos (by omega)) (nI_le (b := 64) h2 (by decide))
    rw [zp_uu] at e
    rw [a1, Option.bind_some, a2, Option.bind_some, q_ix_nI a3 (by decide), Option.bind_some, if_neg (by decide), if_pos (by decide), h3, nI_1, e, Option.bind_some]
    rfl
  · have e := zp_numb hT (rd := q_up rd 3 (nI (t + 1))) (lo := 0) (hi := 5) m_up_s (zp_rd h4) h' (nI_pos (by omega)) (nI_le (b := 5) h2 (by decide))
    rw [zp_uu] at e
    rw [a1, Option.bind_some, a2, Option.bind_some, q_ix_nI a3 (by decide), Option.bind_some, if_neg (by decide), if_neg (by decide), if_pos (by decide), h3, nI_1, e, Option.bind_some]
    rfl
theorem zp_ixN {v : Int32} {hn : m_Rr} : ∀ (n h : Nat), (∀ j, h ≤ j → j < h + n → hn j ≠ v) → m_ix v hn n h = h + n := by
  intro n
  induction n with
  | zero => intro h _; rfl
  | succ n ih =>
    intro h a
    rw [m_ix, if_neg (a h (Nat.le_refl _) (by omega)), ih (h + 1) (fun j j1 j2 => a j (by omega) (by omega))]
    omega
/-- a hook is set -/
theorem zp_setH (hT : zp_T tk tg tv sv) (h3 : rd 3 = nI t) (h4 : rd 4 = 0) {pre : List Int32} (hN : zp_H hn pre) (hq : qn 3 = nI pre.length) (hp : pre.length < 6) (h : sv[t]? = some (8, v)) (h' : sv[t + 1]? = some (3, v2)) (hv : v2 ∉ pre) :
    f_X7_readSetting qn rd hn tk tv tg = some (q_up qn 3 (nI (pre.length + 1)), q_up rd 3 (nI (t + 2)), q_up hn pre.length v2) := by
  obtain ⟨a1, a2, a3⟩ := zp_sign hT h3 h4 h
  have e := zp_take hT (rd := q_up rd 3 (nI (t + 1))) m_up_s (zp_rd h4) h'
  rw [zp_uu] at e
  have hnn : f_X7_hookNamed qn hn v2 = some (-1) := by
    rw [m_hookC hN.1 hq, zp_ixN pre.length 0 (fun j _ hj => fun e2 => hv (by
      have hj2 : pre[j]? = some pre[j] := List.getElem?_eq_getElem (by omega)
      have := hN.2.2 j _ hj2
      rw [← e2, this]
      exact List.getElem_mem _)), Nat.zero_add, if_pos rfl]
  unfold f_X7_readSetting f_X7_readNewHook
  rw [a1, Option.bind_some, a2, Option.bind_some, q_ix_nI a3 (by decide), Option.bind_some, if_neg (by decide), if_neg (by decide), if_neg (by decide), if_pos (by decide), h3, nI_1, e, Option.bind_some, if_pos (show ¬ q_bz true = 0 by decide)]
  dsimp only
  rw [show q_up rd 3 (nI (t + 1 + 1)) 3 = nI (t + 1 + 1) from m_up_s, nI_pred, zp_value hT h', Option.bind_some, hnn, Option.bind_some, if_pos rfl, hq, if_neg (nI_pos (by omega)), if_pos (show nI pre.length < (6 : Int32) from nI_lt (b := 6) hp (by decide)), q_ix_nI hp (by decide), Option.bind_some, nI_1, Option.bind_some]
/-- the tokens of hooks, and of lines -/
def zp_hkT : List Int32 → List (Nat × Int32)
  | [] => []
  | v :: l => (8, 0) :: (3, v) :: (38, 0) :: zp_hkT l
def zp_lnT (nm : List Int32) (Q : Nat → Nat → Nat) : Nat → Nat → List (Nat × Int32)
  | _, 0 => []
  | k, n + 1 => (zp_lineT nm (Q k) ++ [(38, 0)]) ++ zp_lnT nm Q (k + 1) n
theorem zp_lineO_len {q : Nat → Nat} (h6 : q 6 ≤ 6) : (zp_lineO q).length ≤ 16 := by
  unfold zp_lineO
  rw [List.length_append]
  have h1 : (if q 0 = 0 then z_sumO (zp_w q) else []).length ≤ 7 := by
    split
    · unfold z_sumO
      split
      · exact Nat.le_of_ble_eq_true rfl
      · split
        · exact Nat.le_of_ble_eq_true rfl
        · exact Nat.le_of_ble_eq_true rfl
    · exact Nat.zero_le _
  have h2 : (z_tstO (q 6) (zp_w q)).length ≤ 9 := by
    have hc : q 6 = 0 ∨ q 6 = 1 ∨ q 6 = 2 ∨ q 6 = 3 ∨ q 6 = 4 ∨ q 6 = 5 ∨ q 6 = 6 := by omega
    rcases hc with e | e | e | e | e | e | e <;> (rw [e]; exact Nat.le_of_ble_eq_true rfl)
  omega
theorem zp_Tld_mono {H oc2 : Nat} {os : List (Nat × Int32)} {T2' : Nat → m_Rr} {K2' : Nat → Nat → Option Nat} {w : Nat → Int32} (hT : z_Tld H oc qd qu T2 K2 k w) (h1 : oc ≤ oc2) (h2 : T2' k = T2 k ∧ K2' k = K2 k) : z_Tld H oc2 (zo_d qd oc os) (zo_u qu oc os) T2' K2' k w := by
  obtain ⟨a0, a1, a2, a3, a6, a8, c0, c1, c2, c3, c6, c8, t0, t1, t3, t2, tS, i0, tT1, tT2, tT3⟩ := hT
  obtain ⟨e1, e2⟩ := h2
  have om : ∀ {i0 : Nat} {os1 : List (Nat × Int32)}, z_Ord oc qd qu i0 os1 → z_Ord oc2 (zo_d qd oc os) (zo_u qu oc os) i0 os1 := fun {i0 os1} ⟨o1, o2⟩ => ⟨by omega, fun j p hp => by
    have hj := (List.getElem?_eq_some_iff.mp hp).1
    rw [zo_d_lt (by omega), zo_u_lt (by omega)]
    exact o2 j p hp⟩
  refine ⟨a0, a1, a2, a3, a6, a8, c0, c1, c2, c3, c6, c8, ?_, ?_, ?_, ?_, ?_, i0, ?_, ?_, om tT3⟩
  · rw [e2]; exact t0
  · rw [e1]; exact t1
  · rw [e1]; exact t3
  · rw [e1]; exact t2
  · rw [e1]
    intro h
    obtain ⟨i1, x1, x2, x3⟩ := tS h
    exact ⟨i1, x1, x2, om x3⟩
  · rw [e1]; exact tT1
  · rw [e1]; exact tT2
theorem zp_isStep {a : Nat} (h : a ≤ 4) : f_X7_isStep (9 + a) = some true := by
  have hc : a = 0 ∨ a = 1 ∨ a = 2 ∨ a = 3 ∨ a = 4 := by omega
  rcases hc with rfl | rfl | rfl | rfl | rfl <;> rfl
theorem zp_allL (hT : zp_T tk tg tv sv) (hN : zp_H hn nm) {ns : Nat} {Q : Nat → Nat → Nat} (hns : ns ≤ 20) (hQ : ∀ j, j < ns → zp_Ln nm.length (Q j)) : ∀ (n k t i fu oc : Nat) (qn qu rd : m_Rr) (qd : Nat → Option Nat) (T2 : Nat → m_Rr) (K2 : Nat → Nat → Option Nat), k + n = ns → n < fu → i + n ≤ 400 → zp_sub sv t (zp_lnT nm Q k n ++ [(0, v)]) → oc + 16 * n ≤ 400 → qn 3 = nI nm.length → qn 4 = nI k → qn 5 = nI oc → rd 3 = nI t → rd 4 = 0 → (∀ j, j < k → z_Tld nm.length oc qd qu T2 K2 j (zp_w (Q j))) →
    ∃ qn' qu' rd' qd' T2' K2' oc', f_X7_read_L18 tk tv tg fu qn qu rd hn qd T2 K2 (nI i) = some (qn', qu', rd', hn, qd', T2', K2') ∧ rd' 4 = 0 ∧ (∀ j, j ≠ 4 → j ≠ 5 → qn' j = qn j) ∧ qn' 4 = nI ns ∧ qn' 5 = nI oc' ∧ oc' ≤ 400 ∧ ∀ j, j < ns → z_Tld nm.length oc' qd' qu' T2' K2' j (zp_w (Q j)) := by
  intro n
  induction n with
  | zero =>
    intro k t i fu oc qn qu rd qd T2 K2 hk hfu hi hs ho q3 q4 q5 h3 h4 hP
    obtain ⟨fu, rfl⟩ : ∃ z, fu = z + 1 := ⟨fu - 1, by omega⟩
    obtain rfl : k = ns := by omega
    exact ⟨qn, qu, rd, qd, T2, K2, oc, zp_goE hT h3 h4 (hs 0 _ rfl) (by omega), h4, fun _ _ _ => rfl, q4, q5, by omega, hP⟩
  | succ n ih =>
    intro k t i fu oc qn qu rd qd T2 K2 hk hfu hi hs ho q3 q4 q5 h3 h4 hP
    obtain ⟨fu, rfl⟩ : ∃ z, fu = z + 1 := ⟨fu - 1, by omega⟩
    have hq := hQ k (by omega)
    have hs : zp_sub sv t (((zp_lineT nm (Q k) ++ [(38, 0)]) ++ zp_lnT nm Q (k + 1) n) ++ [(0, v)]) := hs
    rw [List.append_assoc] at hs
    have hs1 := zp_sub_l hs
    have hs2 := zp_sub_r hs
    rw [List.length_append] at hs2
    have hs2 : zp_sub sv (t + ((zp_lineT nm (Q k)).length + 1)) (zp_lnT nm Q (k + 1) n ++ [(0, v)]) := hs2
    have h38 : sv[t + (zp_lineT nm (Q k)).length]? = some (38, 0) := zp_sub_r hs1 0 _ rfl
    have hln := zp_lineO_len hq.2.2.2.2.2.2.1
    obtain ⟨T2', K2', e1, e2, e3⟩ := zp_step (T2 := T2) (K2 := K2) (qu := qu) (qd := qd) hT hN hq hs1 q3 q4 (by omega) q5 (by omega) h3 h4
    have hg := zp_goL (fu := fu) (i := i) hT h3 h4 (hs 0 _ rfl) (by omega) (zp_isStep hq.1) (by omega) e1 h38
    rw [hg]
    obtain ⟨qn', qu', rd', qd', T3, K3, oc', i1, i2, i3, i4, i5, i6, i7⟩ := ih (k + 1) (t + ((zp_lineT nm (Q k)).length + 1)) (i + 1) fu (oc + (zp_lineO (Q k)).length) (q_up (q_up qn 4 (nI (k + 1))) 5 (nI (oc + (zp_lineO (Q k)).length))) (zo_u qu oc (zp_lineO (Q k))) (q_up rd 3 (nI (t + (zp_lineT nm (Q k)).length + 1))) (zo_d qd oc (zp_lineO (Q k))) T2' K2' (by omega) (by omega) (by omega) hs2 (by omega) ((m_up_n (by decide)).trans ((m_up_n (by decide)).trans q3)) ((m_up_n (by decide)).trans m_up_s) m_up_s m_up_s (zp_rd h4) (fun j hj => by
      by_cases hjk : j = k
      · subst hjk; exact e3
      · exact zp_Tld_mono (hP j (by omega)) (by omega) (e2 j hjk))
    exact ⟨qn', qu', rd', qd', T3, K3, oc', i1, i2, fun j h4' h5' => (i3 j h4' h5').trans ((m_up_n h5').trans (m_up_n h4')), i4, i5, i6, i7⟩
theorem zp_H_snoc {pre : List Int32} (hN : zp_H hn pre) (hp : pre.length < 6) (hv : v2 ∉ pre) : zp_H (q_up hn pre.length v2) (pre ++ [v2]) := by
  obtain ⟨n1, n2, n3⟩ := hN
  refine ⟨by rw [List.length_append]; exact hp, List.nodup_append.mpr ⟨n2, by simp, fun a ha b hb e => ?_⟩, fun i v hi => ?_⟩
  · rw [List.mem_singleton.mp hb] at e; rw [e] at ha; exact hv ha
  · by_cases h : i < pre.length
    · rw [List.getElem?_append_left h] at hi
      rw [m_up_n (by omega)]
      exact n3 i v hi
    · have h9 := (List.getElem?_eq_some_iff.mp hi).1
      rw [List.length_append] at h9
      have h9 : i < pre.length + 1 := h9
      obtain rfl : i = pre.length := by omega
      rw [List.getElem?_append_right (Nat.le_refl _), Nat.sub_self] at hi
      rw [m_up_s]
      exact Option.some.inj hi
/-- hooks go by -/
theorem zp_allH (hT : zp_T tk tg tv sv) : ∀ (l pre : List Int32) (t i fu : Nat) (qn rd hn : m_Rr), zp_H hn pre → (pre ++ l).length ≤ 6 → (pre ++ l).Nodup → l.length < fu → i + l.length ≤ 400 → zp_sub sv t (zp_hkT l) → qn 3 = nI pre.length → rd 3 = nI t → rd 4 = 0 →
    ∃ (fu' : Nat) (qn' rd' hn' : m_Rr), fu' + l.length = fu ∧ zp_H hn' (pre ++ l) ∧ qn' 3 = nI (pre ++ l).length ∧ (∀ j, j ≠ 3 → qn' j = qn j) ∧ rd' 3 = nI (t + (zp_hkT l).length) ∧ rd' 4 = 0 ∧ f_X7_read_L18 tk tv tg fu qn qu rd hn qd T2 K2 (nI i) = f_X7_read_L18 tk tv tg fu' qn' qu rd' hn' qd T2 K2 (nI (i + l.length)) := by
  intro l
  induction l with
  | nil =>
    intro pre t i fu qn rd hn hN hl hnd hfu hi hs q3 h3 h4
    rw [List.append_nil]
    exact ⟨fu, qn, rd, hn, rfl, hN, q3, fun _ _ => rfl, h3, h4, rfl⟩
  | cons v l ih =>
    intro pre t i fu qn rd hn hN hl hnd hfu hi hs q3 h3 h4
    have hlc : (v :: l).length = l.length + 1 := rfl
    obtain ⟨fu, rfl⟩ : ∃ z, fu = z + 1 := ⟨fu - 1, by omega⟩
    have hpl : pre.length < 6 := by rw [List.length_append] at hl; omega
    have hv : v ∉ pre := fun hm => (List.nodup_append.mp hnd).2.2 v hm v List.mem_cons_self rfl
    have hS := zp_setH hT h3 h4 hN q3 hpl (hs 0 _ rfl) (hs 1 _ rfl) hv
    rw [zp_goS hT h3 h4 (hs 0 _ rfl) (by decide) rfl (by omega) hS (hs 2 _ rfl)]
    have ea : pre ++ v :: l = (pre ++ [v]) ++ l := by rw [List.append_assoc]; rfl
    have el : (pre ++ [v]).length = pre.length + 1 := by rw [List.length_append]; rfl
    rw [ea] at hl hnd ⊢
    obtain ⟨fu', qn', rd', hn', f1, f2, f3, f4, f5, f6, f7⟩ := ih (pre ++ [v]) (t + 3) (i + 1) fu (q_up qn 3 (nI (pre.length + 1))) (q_up rd 3 (nI (t + 2 + 1))) (q_up hn pre.length v) (zp_H_snoc hN hpl hv) hl hnd (by omega) (by omega) (fun j p hp => by
      rw [show t + 3 + j = t + (j + 3) by omega]
      exact hs (j + 3) p hp) (by rw [el]; exact m_up_s) m_up_s (zp_rd h4)
    refine ⟨fu', qn', rd', hn', by omega, f2, f3, fun j hj => (f4 j hj).trans (m_up_n hj), ?_, f6, ?_⟩
    · rw [f5]
      show nI (t + 3 + (zp_hkT l).length) = nI (t + ((zp_hkT l).length + 1 + 1 + 1))
      congr 1; omega
    · rw [f7, hlc, show i + (l.length + 1) = i + 1 + l.length by omega]
def zp_allT (hf pr m : Nat) (nm : List Int32) (Q : Nat → Nat → Nat) (ns : Nat) (v : Int32) : List (Nat × Int32) := [(5, 0), (2, nI hf), (38, 0), (7, 0), (2, nI pr), (38, 0), (6, 0), (2, nI m), (38, 0)] ++ (zp_hkT nm ++ (zp_lnT nm Q 0 ns ++ [(0, v)]))
/-- the whole is read -/
theorem zp_all {hf pr m ns : Nat} {Q : Nat → Nat → Nat} (hT : zp_T tk tg tv sv) (hs : zp_sub sv 0 (zp_allT hf pr m nm Q ns v)) (h1 : 8 ≤ hf) (h2 : hf ≤ 64) (h3' : pr ≤ 5) (h4' : m ≤ 64) (hnm : nm.length ≤ 6) (hnd : nm.Nodup) (hns : ns ≤ 20) (hQ : ∀ j, j < ns → zp_Ln nm.length (Q j)) (q3 : qn 3 = 0) (q4 : qn 4 = 0) (q5 : qn 5 = 0) (h3 : rd 3 = 0) (h4 : rd 4 = 0) :
    ∃ qn' qu' rd' hn' qd' T2' K2' oc', f_X7_read_L18 tk tv tg 4096 qn qu rd hn qd T2 K2 0 = some (qn', qu', rd', hn', qd', T2', K2') ∧ rd' 4 = 0 ∧ qn' 0 = nI hf ∧ qn' 1 = nI m ∧ qn' 2 = nI pr ∧ qn' 3 = nI nm.length ∧ qn' 4 = nI ns ∧ qn' 5 = nI oc' ∧ oc' ≤ 400 ∧ ∀ j, j < ns → z_Tld nm.length oc' qd' qu' T2' K2' j (zp_w (Q j)) := by
  have b1 := zp_sub_l hs
  have b2 := zp_sub_r hs
  have b3 := zp_sub_l b2
  have b4 := zp_sub_r b2
  have b3 : zp_sub sv 9 (zp_hkT nm) := b3
  have b4 : zp_sub sv (9 + (zp_hkT nm).length) (zp_lnT nm Q 0 ns ++ [(0, v)]) := b4
  have g1 := zp_goS (fu := 4095) (i := 0) (qu := qu) (qd := qd) (T2 := T2) (K2 := K2) (t := 0) (t1 := 2) (qn := qn) (hn := hn) hT h3 h4 (b1 0 _ rfl) (by decide) rfl (by omega) (zp_setN (t := 0) hT h3 h4 (b1 0 _ rfl) (b1 1 _ rfl) (Or.inl ⟨rfl, h1, h2⟩)) (b1 2 _ rfl)
  have g2 := zp_goS (fu := 4094) (i := 1) (qu := qu) (qd := qd) (T2 := T2) (K2 := K2) (t := 3) (t1 := 5) (rd := q_up rd 3 (nI 3)) (qn := q_up qn 0 (nI hf)) (hn := hn) hT m_up_s (zp_rd h4) (b1 3 _ rfl) (by decide) rfl (by omega) (zp_setN (t := 3) hT m_up_s (zp_rd h4) (b1 3 _ rfl) (b1 4 _ rfl) (Or.inr (Or.inr ⟨rfl, h3'⟩))) (b1 5 _ rfl)
  have g3 := zp_goS (fu := 4093) (i := 2) (qu := qu) (qd := qd) (T2 := T2) (K2 := K2) (t := 6) (t1 := 8) (rd := q_up rd 3 (nI 6)) (qn := q_up (q_up qn 0 (nI hf)) 2 (nI pr)) (hn := hn) hT m_up_s (zp_rd h4) (b1 6 _ rfl) (by decide) rfl (by omega) (zp_setN (t := 6) hT m_up_s (zp_rd h4) (b1 6 _ rfl) (b1 7 _ rfl) (Or.inr (Or.inl ⟨rfl, h4'⟩))) (b1 8 _ rfl)
  rw [zp_uu] at g2 g3
  have g1 : f_X7_read_L18 tk tv tg 4096 qn qu rd hn qd T2 K2 0 = f_X7_read_L18 tk tv tg 4095 (q_up qn 0 (nI hf)) qu (q_up rd 3 (nI 3)) hn qd T2 K2 (nI 1) := g1
  have g2 : f_X7_read_L18 tk tv tg 4095 (q_up qn 0 (nI hf)) qu (q_up rd 3 (nI 3)) hn qd T2 K2 (nI 1) = f_X7_read_L18 tk tv tg 4094 (q_up (q_up qn 0 (nI hf)) 2 (nI pr)) qu (q_up rd 3 (nI 6)) hn qd T2 K2 (nI 2) := g2
  have g3 : f_X7_read_L18 tk tv tg 4094 (q_up (q_up qn 0 (nI hf)) 2 (nI pr)) qu (q_up rd 3 (nI 6)) hn qd T2 K2 (nI 2) = f_X7_read_L18 tk tv tg 4093 (q_up (q_up (q_up qn 0 (nI hf)) 2 (nI pr)) 1 (nI m)) qu (q_up rd 3 (nI 9)) hn qd T2 K2 (nI 3) := g3
  rw [g1, g2, g3]
  obtain ⟨fu', qn1, rd1, hn1, f1, f2, f3, f4, f5, f6, f7⟩ := zp_allH hT (qu := qu) (qd := qd) (T2 := T2) (K2 := K2) nm [] 9 3 4093 (q_up (q_up (q_up qn 0 (nI hf)) 2 (nI pr)) 1 (nI m)) (q_up rd 3 (nI 9)) hn ⟨Nat.zero_le _, List.nodup_nil, fun i v hi => by cases hi⟩ hnm hnd (by omega) (by omega) b3 ((m_up_n (by decide)).trans ((m_up_n (by decide)).trans ((m_up_n (by decide)).trans q3))) m_up_s (zp_rd h4)
  rw [f7]
  rw [List.nil_append] at f2 f3
  have k4 : qn1 4 = nI 0 := (f4 4 (by decide)).trans ((m_up_n (by decide)).trans ((m_up_n (by decide)).trans ((m_up_n (by decide)).trans q4)))
  have k5 : qn1 5 = nI 0 := (f4 5 (by decide)).trans ((m_up_n (by decide)).trans ((m_up_n (by decide)).trans ((m_up_n (by decide)).trans q5)))
  obtain ⟨qn', qu', rd', qd', T2', K2', oc', i1, i2, i3, i4, i5, i6, i7⟩ := zp_allL hT f2 hns hQ ns 0 (9 + (zp_hkT nm).length) (3 + nm.length) fu' 0 qn1 qu rd1 qd T2 K2 (by omega) (by omega) (by omega) b4 (by omega) f3 k4 k5 f5 f6 (fun j hj => absurd hj (Nat.not_lt_zero _))
  refine ⟨qn', qu', rd', hn1, qd', T2', K2', oc', i1, i2, ?_, ?_, ?_, ?_, i4, i5, i6, i7⟩
  · rw [i3 0 (by decide) (by decide), f4 0 (by decide), m_up_n (by decide), m_up_n (by decide), m_up_s]
  · rw [i3 1 (by decide) (by decide), f4 1 (by decide), m_up_s]
  · rw [i3 2 (by decide) (by decide), f4 2 (by decide), m_up_n (by decide), m_up_s]
  · rw [i3 3 (by decide) (by decide), f3]
end ZLINES
