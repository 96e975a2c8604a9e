/-! A LINE THAT IS TOLD is read, by the class alone -/
section ZLINE
/-- these tokens stand from t on -/
def zp_sub (sv : List (Nat × Int32)) (t : Nat) (l : List (Nat × Int32)) : Prop := ∀ (i : Nat) (q : Nat × Int32), l[i]? = some q → sv[t + i]? = some q
theorem zp_sub_l {sv l m : List (Nat × Int32)} {t : Nat} (h : zp_sub sv t (l ++ m)) : zp_sub sv t l := fun i q hq => h i q (by rw [List.getElem?_append_left (List.getElem?_eq_some_iff.mp hq).1]; exact hq)
theorem zp_sub_r {sv l m : List (Nat × Int32)} {t : Nat} (h : zp_sub sv t (l ++ m)) : zp_sub sv (t + l.length) m := fun i q hq => by
  rw [Nat.add_assoc]
  exact h (l.length + i) q (by rw [List.getElem?_append_right (by omega), show l.length + i - l.length = i by omega]; exact hq)
abbrev zp_w (q : Nat → Nat) : Nat → Int32 := fun j => nI (q j)
def zp_hk (nm : List Int32) (i : Nat) : Nat × Int32 := (3, nm.getD i 0)
def zp_Ln (H : Nat) (q : Nat → Nat) : Prop := q 0 ≤ 4 ∧ q 1 < H ∧ q 2 < H ∧ q 3 ≤ 3 ∧ q 4 ≤ 2 ∧ q 5 ≤ 5 ∧ q 6 ≤ 6 ∧ q 7 ≤ 11 ∧ q 8 < H
def zp_sumT (nm : List Int32) (q : Nat → Nat) : List (Nat × Int32) := match q 4 with
  | 0 => [(2, nI (q 5))]
  | 1 => [(20, 0), (41, 0), (20, 0), (43, 0), (2, 7), (42, 0), (2, 7)]
  | _ => [(26, 0), (18, 0), zp_hk nm (q 2), (40, 0), (2, nI (q 5))]
def zp_tstT (nm : List Int32) (q : Nat → Nat) : List (Nat × Int32) := match q 6 with
  | 0 => []
  | 1 => [(19, 0), (21, 0), (45, 0), (2, nI (q 7))]
  | 2 => [(19, 0), (27, 0), zp_hk nm (q 8)]
  | 3 => [(19, 0), (29, 0), (28, 0), zp_hk nm (q 8), zp_hk nm (q 1)]
  | 4 => [(19, 0), (20, 0), (41, 0), (20, 0), (43, 0), (2, 3), (42, 0), (2, 3), (46, 0), (2, nI (q 7 % 3))]
  | 5 => [(19, 0), (22, 0), (44, 0), (25, 0), (18, 0), zp_hk nm (q 8), (31, 0), (23, 0), (44, 0), (2, nI (q 7))]
  | _ => [(19, 0), (36, 0), (24, 0), (44, 0), (2, nI (q 7)), (37, 0), (30, 0), (26, 0), (18, 0), zp_hk nm (q 8), (47, 0), (2, 1)]
variable {t u k oc : Nat} {tk tv hn : m_Rr} {tg : Nat → Option Nat} {sv : List (Nat × Int32)} {nm : List Int32} {rv rs r1 rt : zp_Tr} {x1 : Int32} {q : Nat → Nat}
theorem zp_nm {i : Nat} (h : i < nm.length) : nm[i]? = some (nm.getD i 0) := by
  rw [List.getD_eq_getElem?_getD, List.getElem?_eq_getElem h]; rfl
theorem zp_sumW (hT : zp_T tk tg tv sv) (hN : zp_H hn nm) (hq : zp_Ln nm.length q) (h : zp_sub sv t (zp_sumT nm q ++ [(14, 0)])) :
    zp_R nm.length t (t + (zp_sumT nm q).length) (z_sumO (zp_w q)) (fun qn qu rd qd => f_X7_readSum rv rs qn qu rd hn tk tv qd tg x1) := by
  have h4 : q 4 = 0 ∨ q 4 = 1 ∨ q 4 = 2 := by have := hq.2.2.2.2.1; omega
  unfold zp_sumT at h ⊢
  unfold z_sumO zp_w
  rcases h4 with e | e | e
  · rw [e] at h ⊢
    rw [if_pos (show nI 0 = 0 from rfl)]
    exact zp_sum1 hT (zp_val_num hT (h 0 _ rfl)) (h 1 _ rfl) ⟨by decide, by decide, by decide, by decide⟩
  · rw [e] at h ⊢
    rw [if_neg (show ¬ nI 1 = 0 by decide), if_pos (show nI 1 = 1 from rfl)]
    exact zp_sumM hT (h 0 _ rfl) (h 1 _ rfl) (h 2 _ rfl) (h 3 _ rfl) (h 4 _ rfl) (h 5 _ rfl) (h 6 _ rfl) (h 7 _ rfl) ⟨by decide, by decide, by decide, by decide⟩
  · rw [e] at h ⊢
    rw [if_neg (show ¬ nI 2 = 0 by decide), if_neg (show ¬ nI 2 = 1 by decide)]
    have p1 := zp_prod (rv := rv) (rs := rs) (x1 := x1) (zp_val_of hT hN (Or.inr rfl) (h 0 _ rfl) (h 1 _ rfl) (h 2 _ rfl) (zp_nm hq.2.2.1)) (zp_PL0 hT (h 3 _ rfl) (by decide) (by decide)) (by omega)
    have p2 := zp_prod (rv := rv) (rs := rs) (hn := hn) (x1 := x1) (H := nm.length) (zp_val_num hT (h 4 _ rfl)) (zp_PL0 hT (h 5 _ rfl) (by decide) (by decide)) (by omega)
    have s1 := zp_SL1 (rv := rv) (rs := rs) (hn := hn) (x1 := x1) (H := nm.length) hT (h 3 _ rfl) (Or.inl rfl) p2 (zp_SL0 hT (h 5 _ rfl) (by decide) (by decide))
    exact zp_sum p1 s1 (by omega)
theorem zp_three {n : Nat} (hn : n ≤ 11) : nI n - nI n / 3 * 3 = nI (n % 3) := pk_rem (d := 3) (by omega) (by decide) (by decide)
set_option maxHeartbeats 1000000 in
theorem zp_tstW (hT : zp_T tk tg tv sv) (hN : zp_H hn nm) (hq : zp_Ln nm.length q) (h : zp_sub sv t (zp_tstT nm q ++ [(38, 0)])) (h0 : q 6 ≠ 0) :
    zp_R nm.length (t + 1) (t + (zp_tstT nm q).length) (z_tstO (q 6) (zp_w q)) (zp_TT (k_readSingle 12) (k_readTest 12) (k_readValue 12) (k_readSum 12) hn tk tv tg 0) := by
  have h6 : q 6 = 1 ∨ q 6 = 2 ∨ q 6 = 3 ∨ q 6 = 4 ∨ q 6 = 5 ∨ q 6 = 6 := by have := hq.2.2.2.2.2.2.1; omega
  unfold zp_tstT at h ⊢
  rcases h6 with e | e | e | e | e | e
  · rw [e] at h ⊢
    refine zp_test1 hT ?_ (h 4 _ rfl) ⟨by decide, by decide⟩
    exact zp_one_rel hT (h 1 _ rfl) ⟨by decide, by decide, by decide, by decide⟩ (zp_sum1 hT (zp_val_pl hT (by decide) (h 1 _ rfl)) (h 2 _ rfl) ⟨by decide, by decide, by decide, by decide⟩) (h 2 _ rfl) (by decide) (zp_sum1 hT (zp_val_num hT (h 3 _ rfl)) (h 4 _ rfl) ⟨by decide, by decide, by decide, by decide⟩)
  · rw [e] at h ⊢
    refine zp_test1 hT ?_ (h 3 _ rfl) ⟨by decide, by decide⟩
    exact zp_one_has hT hN (h 1 _ rfl) (h 2 _ rfl) (zp_nm hq.2.2.2.2.2.2.2.2)
  · rw [e] at h ⊢
    refine zp_test1 hT ?_ (h 5 _ rfl) ⟨by decide, by decide⟩
    refine zp_one_not (os := [(28, nI (q 8) * 6 + nI (q 1))]) hT (by decide) (h 1 _ rfl) ?_
    exact zp_one_same (r1 := k_readSingle 11) (rt := k_readTest 11) (rv := k_readValue 11) (rs := k_readSum 11) hT hN (h 2 _ rfl) (h 3 _ rfl) (zp_nm hq.2.2.2.2.2.2.2.2) (h 4 _ rfl) (zp_nm hq.2.1)
  · rw [e] at h ⊢
    refine zp_test1 hT ?_ (h 10 _ rfl) ⟨by decide, by decide⟩
    have e3 := zp_three (n := q 7) hq.2.2.2.2.2.2.2.1
    show zp_R _ _ _ [(20, 0), (20, 0), (2, 3), (43, 0), (2, 3), (42, 0), (41, 0), (2, nI (q 7) - nI (q 7) / 3 * 3), (46, 0)] _
    rw [e3]
    exact zp_one_rel hT (h 1 _ rfl) ⟨by decide, by decide, by decide, by decide⟩ (zp_sumM hT (h 1 _ rfl) (h 2 _ rfl) (h 3 _ rfl) (h 4 _ rfl) (h 5 _ rfl) (h 6 _ rfl) (h 7 _ rfl) (h 8 _ rfl) ⟨by decide, by decide, by decide, by decide⟩) (h 8 _ rfl) (by decide) (zp_sum1 hT (zp_val_num hT (h 9 _ rfl)) (h 10 _ rfl) ⟨by decide, by decide, by decide, by decide⟩)
  · rw [e] at h ⊢
    have b1 := zp_both1 (r1 := k_readSingle 12) (rt := k_readTest 12) (rv := k_readValue 12) (rs := k_readSum 12) (x1 := 0) hT (zp_one_rel hT (h 1 _ rfl) ⟨by decide, by decide, by decide, by decide⟩ (zp_sum1 hT (zp_val_pl hT (by decide) (h 1 _ rfl)) (h 2 _ rfl) ⟨by decide, by decide, by decide, by decide⟩) (h 2 _ rfl) (by decide) (zp_sum1 hT (zp_val_of hT hN (Or.inl rfl) (h 3 _ rfl) (h 4 _ rfl) (h 5 _ rfl) (zp_nm hq.2.2.2.2.2.2.2.2)) (h 6 _ rfl) ⟨by decide, by decide, by decide, by decide⟩)) (h 6 _ rfl) (by decide)
    have b2 := zp_both1 (r1 := k_readSingle 12) (rt := k_readTest 12) (rv := k_readValue 12) (rs := k_readSum 12) (hn := hn) (x1 := 0) (H := nm.length) hT (zp_one_rel hT (h 7 _ rfl) ⟨by decide, by decide, by decide, by decide⟩ (zp_sum1 hT (zp_val_pl hT (by decide) (h 7 _ rfl)) (h 8 _ rfl) ⟨by decide, by decide, by decide, by decide⟩) (h 8 _ rfl) (by decide) (zp_sum1 hT (zp_val_num hT (h 9 _ rfl)) (h 10 _ rfl) ⟨by decide, by decide, by decide, by decide⟩)) (h 10 _ rfl) (by decide)
    exact zp_test b1 (zp_OL1 hT (h 6 _ rfl) b2 (zp_OL0 hT (h 10 _ rfl) (by decide))) (by omega)
  · rw [e] at h ⊢
    have i1 := zp_test1 (r1 := k_readSingle 11) (rt := k_readTest 11) (rv := k_readValue 11) (rs := k_readSum 11) (hn := hn) (x1 := 0 + 1) (H := nm.length) hT (zp_one_rel hT (h 2 _ rfl) ⟨by decide, by decide, by decide, by decide⟩ (zp_sum1 hT (zp_val_pl hT (by decide) (h 2 _ rfl)) (h 3 _ rfl) ⟨by decide, by decide, by decide, by decide⟩) (h 3 _ rfl) (by decide) (zp_sum1 hT (zp_val_num hT (h 4 _ rfl)) (h 5 _ rfl) ⟨by decide, by decide, by decide, by decide⟩)) (h 5 _ rfl) ⟨by decide, by decide⟩
    have o1 := zp_one_open (r1 := k_readSingle 12) (rt := k_readTest 12) (rv := k_readValue 12) (rs := k_readSum 12) (x1 := 0) hT (by decide) (h 1 _ rfl) i1 (h 5 _ rfl)
    have o2 := zp_one_rel (r1 := k_readSingle 12) (rt := k_readTest 12) (rv := k_readValue 12) (rs := k_readSum 12) (x1 := 0) hT (h 7 _ rfl) ⟨by decide, by decide, by decide, by decide⟩ (zp_sum1 hT (zp_val_of hT hN (Or.inr rfl) (h 7 _ rfl) (h 8 _ rfl) (h 9 _ rfl) (zp_nm hq.2.2.2.2.2.2.2.2)) (h 10 _ rfl) ⟨by decide, by decide, by decide, by decide⟩) (h 10 _ rfl) (by decide) (zp_sum1 hT (zp_val_num hT (h 11 _ rfl)) (h 12 _ rfl) ⟨by decide, by decide, by decide, by decide⟩)
    have b1 := zp_both o1 (zp_BL1 hT (h 6 _ rfl) o2 (zp_BL0 hT (h 12 _ rfl) (by decide))) (by omega)
    have r := zp_test b1 (zp_OL0 hT (h 12 _ rfl) (by decide)) (by omega)
    rw [List.append_nil] at r
    exact r
theorem zp_numb (hT : zp_T tk tg tv sv) {rd : m_Rr} (h3 : rd 3 = nI t) (h4 : rd 4 = 0) {v lo hi : Int32} (h : sv[t]? = some (2, v)) (h1 : ¬ v < lo) (h2 : v ≤ hi) : f_X7_readNumber rd tk tv tg lo hi = some (v, q_up rd 3 (nI (t + 1))) := by
  unfold f_X7_readNumber
  rw [zp_take hT h3 h4 h, Option.bind_some, if_pos (show ¬ q_bz true = 0 by decide)]
  dsimp only
  rw [m_up_s, nI_pred, zp_value hT h, Option.bind_some, if_neg h1, if_pos h2]
theorem zp_rope (hT : zp_T tk tg tv sv) {rd : m_Rr} (h3 : rd 3 = nI t) (h4 : rd 4 = 0) {x a : Nat} {v : Int32} (h : sv[t]? = some (x, v)) (h' : sv[t + 1]? = some (2, nI a)) (ha : a ≤ 3) : f_X7_readRope rd tk tv tg x = some (nI a, q_up rd 3 (nI (t + 2))) := by
  obtain ⟨-, a2, -⟩ := zp_sign hT h3 h4 h
  have e := zp_numb hT (rd := q_up rd 3 (nI (t + 1))) (lo := 0) (hi := 3) m_up_s (zp_rd h4) h' (nI_pos (by omega)) (nI_le (b := 3) ha (by decide))
  rw [zp_uu] at e
  unfold f_X7_readRope
  rw [a2, Option.bind_some, zp_take hT h3 h4 h, Option.bind_some, e, Option.bind_some]
/-- a step's row, cleared -/
def zp_T0 (T2 : Nat → m_Rr) (k : Nat) : Nat → m_Rr := q_u2 (q_u2 (q_u2 (q_u2 (q_u2 (q_u2 (q_u2 T2 k 1 (0 : Int32)) k 2 (0 : Int32)) k 3 (0 : Int32)) k 4 (0 : Int32)) k 5 (0 : Int32)) k 6 (0 : Int32)) k 7 (0 : Int32)
theorem zp_addStep {qn : m_Rr} {T2 : Nat → m_Rr} {K2 : Nat → Nat → Option Nat} {x : Nat} (hx : x < 49) (h4 : qn 4 = nI k) (hk : k < 20) : f_X6_addStep qn T2 K2 x = some (k, q_up qn 4 (nI (k + 1)), zp_T0 T2 k, q_u2 K2 k 0 (some x)) := by
  have e1 : q_max (nI k) 0 = nI k := by unfold q_max; rw [if_neg (nI_pos (by omega))]
  have e2 : q_min (nI k) 19 = nI k := by
    unfold q_min
    by_cases e : k = 19
    · rw [e]; rfl
    · rw [if_neg (show ¬ (19 : Int32) < nI k from m_nlt (b := k) (a := 19) (by omega) (by decide))]
  have t20 : q_t20 k = some () := by unfold q_t20; rw [if_pos hk]
  unfold f_X6_addStep f_X10_clear
  rw [m_e49 hx, Option.bind_some, h4, e1, e2, q_ix_nI hk (by decide), Option.bind_some, t20, Option.bind_some, nI_1]
  rfl
def zp_bodyT (nm : List Int32) (q : Nat → Nat) : List (Nat × Int32) := match q 0 with
  | 0 => (25, 0) :: (zp_sumT nm q ++ [(14, 0), (2, nI (q 3))])
  | 1 => [(15, 0), (2, nI (q 3)), (16, 0), zp_hk nm (q 2)]
  | 2 => [(15, 0), (2, nI (q 3))]
  | 3 => [(17, 0), zp_hk nm (q 2), (15, 0), (2, nI (q 3))]
  | _ => []
def zp_lineT (nm : List Int32) (q : Nat → Nat) : List (Nat × Int32) := (9 + q 0, 0) :: zp_hk nm (q 1) :: (zp_bodyT nm q ++ zp_tstT nm q)
/-- the orders of a line -/
def zp_lineO (q : Nat → Nat) : List (Nat × Int32) := (if q 0 = 0 then z_sumO (zp_w q) else []) ++ z_tstO (q 6) (zp_w q)
theorem zp_Ord_of {os os1 os2 : List (Nat × Int32)} {qu : m_Rr} {qd : Nat → Option Nat} {n : Nat} (hn : n = (os ++ os1 ++ os2).length) : z_Ord (oc + n) (zo_d qd oc (os ++ os1 ++ os2)) (zo_u qu oc (os ++ os1 ++ os2)) (oc + os.length) os1 := by
  subst hn
  refine ⟨by rw [List.length_append, List.length_append]; omega, fun j p hj => ?_⟩
  rw [Nat.add_assoc]
  refine zo_at (l := os ++ os1 ++ os2) ?_
  have hj1 := (List.getElem?_eq_some_iff.mp hj).1
  rw [List.append_assoc, List.getElem?_append_right (by omega), show os.length + j - os.length = j by omega, List.getElem?_append_left hj1]
  exact hj
/-- behind a line's body: its test -/
theorem zp_tail (hT : zp_T tk tg tv sv) (hN : zp_H hn nm) (hq : zp_Ln nm.length q) (h : zp_sub sv u (zp_tstT nm q ++ [(38, 0)])) {rd : m_Rr} (h3 : rd 3 = nI u) (h4 : rd 4 = 0) :
    (q 6 = 0 ∧ f_X7_sign rd tk tg = some 38) ∨ (q 6 ≠ 0 ∧ f_X7_sign rd tk tg = some 19 ∧ ∀ (qn qu : m_Rr) (qd : Nat → Option Nat) (oc : Nat), qn 3 = nI nm.length → qn 5 = nI oc → oc + (z_tstO (q 6) (zp_w q)).length ≤ 400 → f_X7_readTest (k_readSingle 12) (k_readTest 12) (k_readValue 12) (k_readSum 12) qn qu (q_up rd 3 (nI (u + 1))) hn tk tv qd tg 0 = some (q_up qn 5 (nI (oc + (z_tstO (q 6) (zp_w q)).length)), zo_u qu oc (z_tstO (q 6) (zp_w q)), q_up rd 3 (nI (u + (zp_tstT nm q).length)), zo_d qd oc (z_tstO (q 6) (zp_w q)))) := by
  by_cases h6 : q 6 = 0
  · refine Or.inl ⟨h6, ?_⟩
    unfold zp_tstT at h
    rw [h6] at h
    exact (zp_sign hT h3 h4 (h 0 _ rfl)).1
  · refine Or.inr ⟨h6, ?_, fun qn qu qd oc q3 q5 ho => ?_⟩
    · have h7 : sv[u]? = some (19, 0) := by
        have hc : q 6 = 1 ∨ q 6 = 2 ∨ q 6 = 3 ∨ q 6 = 4 ∨ q 6 = 5 ∨ q 6 = 6 := by have := hq.2.2.2.2.2.2.1; omega
        unfold zp_tstT at h
        rcases hc with e | e | e | e | e | e <;> (rw [e] at h; exact h 0 _ rfl)
      exact (zp_sign hT h3 h4 h7).1
    · have e := zp_tstW hT hN hq h h6 qn qu (q_up rd 3 (nI (u + 1))) qd oc q3 q5 ho m_up_s (zp_rd h4)
      rw [zp_uu] at e
      exact e
end ZLINE
