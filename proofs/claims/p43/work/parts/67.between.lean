/-! MATH: how many ropes lie between, on both sides -/
theorem m_betw_in {G : Nat → Prop} {rc ld sr sd : Nat → Int32} (hG : m_G G rc ld sr sd) {b i k : Nat} (hb : G b) (hk : rc b = nI k) (hk3 : k ≤ 3) : ∀ (n r : Nat) (l : List Nat) (li nr nd md mq mi ol : Nat → Int32) (fu fv : Nat), r + n = k → n < fu → n < fv → m_Q l li nr nd md mq mi → (∀ x ∈ l, G x) → m_D l nd → (∀ x, x ∈ l → ol x = nd x) → l[i]? = some b →
    ∃ t li' nr' nd' md' mq' mi' ol', f_X2_followLine_L17 rc ld (nI b) fu li nr nd (nI r) = some (li', nr', nd') ∧ f_X15_between_L30 sr sd (nI b) fv md mq mi ol (nI r) = some (md', mq', mi', ol') ∧ m_Q (l ++ t) li' nr' nd' md' mq' mi' ∧ (∀ x ∈ l ++ t, G x) ∧ m_D (l ++ t) nd' ∧ (∀ x, x ∈ l ++ t → ol' x = nd' x) ∧ (∀ j, j ≠ 16 → md' j = md j) := by
  obtain ⟨hb8, k', hk3', hk', hsk, hl⟩ := hG b hb
  obtain rfl : k = k' := (nI_eq (by omega) (by omega)).mp (hk.symm.trans hk')
  intro n
  induction n with
  | zero =>
    intro r l li nr nd md mq mi ol fu fv hrn hfu hfv hQ hGl hD hO hi
    obtain rfl : r = k := by omega
    obtain ⟨fu, rfl⟩ : ∃ z, fu = z + 1 := ⟨fu - 1, by omega⟩
    obtain ⟨fv, rfl⟩ : ∃ z, fv = z + 1 := ⟨fv - 1, by omega⟩
    refine ⟨[], li, nr, nd, md, mq, mi, ol, ?_, ?_, by simpa using hQ, by simpa using hGl, by simpa using hD, by simpa using hO, fun _ _ => rfl⟩
    · rw [f_X2_followLine_L17, m_ropes hb8, Option.bind_some, hk, if_pos (nI_le (Nat.le_refl _) (by omega))]
    · rw [f_X15_between_L30, q_ix_nI (by omega) (by decide), Option.bind_some, hsk, if_pos (nI_le (Nat.le_refl _) (by omega))]
  | succ n ih =>
    intro r l li nr nd md mq mi ol fu fv hrn hfu hfv hQ hGl hD hO hi
    obtain ⟨fu, rfl⟩ : ∃ z, fu = z + 1 := ⟨fu - 1, by omega⟩
    obtain ⟨fv, rfl⟩ : ∃ z, fv = z + 1 := ⟨fv - 1, by omega⟩
    have hil := (List.getElem?_eq_some_iff.mp hi).1
    have hbl : b ∈ l := List.mem_of_getElem? hi
    obtain ⟨hsd, hld⟩ := hl r (by omega)
    obtain ⟨d, hd, hnd⟩ := hD i b hi
    have hlen := m_Q_len hQ
    have e1 : f_X2_followLine_L17 rc ld (nI b) (fu + 1) li nr nd (nI r) = (f_X4_add li nr nd (ld (b * 3 + r)) (nI (d + 1))).bind fun r5 => f_X2_followLine_L17 rc ld (nI b) fu r5.2.1 r5.2.2.1 r5.2.2.2 (nI (r + 1)) := by
      rw [f_X2_followLine_L17, m_ropes hb8, Option.bind_some, hk, if_neg (nI_ge (by omega) (by omega)), m_lead hb8 (by omega) hk hk3, Option.bind_some, if_pos (by omega), m_ropesTo hb8, Option.bind_some, hnd, nI_1, nI_1]
    have e2 : f_X15_between_L30 sr sd (nI b) (fv + 1) md mq mi ol (nI r) = if ld (b * 3 + r) = -1 then f_X15_between_L30 sr sd (nI b) fv md mq mi ol (nI (r + 1)) else (q_ix (ld (b * 3 + r)) 136).bind fun j5 => if mi j5 = 0 then (q_ix (ld (b * 3 + r)) 136).bind fun j8 => (f_X14_comeTo md mq mi (ld (b * 3 + r))).bind fun r9 => f_X15_between_L30 sr sd (nI b) fv r9.1 r9.2.1 r9.2.2 (q_up ol j8 (ol b + 1)) (nI (r + 1)) else f_X15_between_L30 sr sd (nI b) fv md mq mi ol (nI (r + 1)) := by
      rw [f_X15_between_L30, q_ix_nI (show b < 136 by omega) (by decide), Option.bind_some, hsk, if_neg (nI_ge (by omega) (by omega)), show (3 : Int32) * nI b + nI r = nI (3 * b + r) from by rw [show (3 : Int32) = nI 3 from rfl, pk_mul, nI_add], q_ix_nI (by omega) (by decide), Option.bind_some, hsd, nI_1]
      rfl
    rw [e1, e2]
    rcases hld with hm | ⟨c, hc, hm⟩
    · rw [hm, m_ladd1, if_pos rfl, Option.bind_some]
      exact ih (r + 1) l li nr nd md mq mi ol fu fv (by omega) (by omega) (by omega) hQ hGl hD hO hi
    · obtain ⟨l', li', nr', nd', md', mq', mi', a1, a2, a3, a4, a5, a6, a7, a8, a9⟩ := m_Q_add (x := nI (d + 1)) hQ (hG c hc).1 (m_nI_m1 (by omega))
      have hc8 := (hG c hc).1
      rw [hm, a1, Option.bind_some, if_neg (m_nI_m1 (by omega)), q_ix_nI (by omega) (by decide), Option.bind_some, Option.bind_some, a2, Option.bind_some]
      by_cases hcl : c ∈ l
      · rw [if_pos hcl] at a4
        subst a4
        have hnd9 := a9 hcl
        have hmi : ¬ mi c = 0 := (hQ.2.2.2.2.2.2 c (by omega)).mp hcl
        have hme : m_Q l' li' nr' nd' md mq mi := by
          obtain ⟨q1, q2, q3, q4, q5, q6, q7⟩ := a3
          obtain ⟨w1, w2, w3, w4, w5, w6, w7⟩ := hQ
          exact ⟨q1, w2, q3, q4, fun i x h => ⟨(q5 i x h).1, (w5 i x h).2⟩, q6, w7⟩
        rw [if_neg hmi]
        exact ih (r + 1) l' li' nr' nd' md mq mi ol fu fv (by omega) (by omega) (by omega) hme hGl (by rw [hnd9]; exact hD) (by rw [hnd9]; exact hO) hi
      · rw [if_neg hcl] at a4
        subst a4
        have hmi : mi c = 0 := Classical.not_not.mp (fun e => hcl ((hQ.2.2.2.2.2.2 c (by omega)).mpr e))
        rw [if_pos hmi]
        have hi2 : (l ++ [c])[i]? = some b := by rw [List.getElem?_append_left hil]; exact hi
        have hG2 : ∀ x ∈ l ++ [c], G x := fun x hx => by
          rcases List.mem_append.mp hx with hx | hx
          · exact hGl x hx
          · rw [List.mem_singleton.mp hx]; exact hc
        have hD2 : m_D (l ++ [c]) nd' := by
          intro j x hj
          by_cases hjl : j < l.length
          · rw [List.getElem?_append_left hjl] at hj
            obtain ⟨d2, h3, h4⟩ := hD j x hj
            have hxm : x ∈ l := List.mem_of_getElem? hj
            exact ⟨d2, h3, by rw [a7 x (hG x (hGl x hxm)).1 (fun e => hcl (by rw [← e]; exact hxm))]; exact h4⟩
          · have h9 := (List.getElem?_eq_some_iff.mp hj).1
            simp at h9
            obtain rfl : j = l.length := by omega
            rw [List.getElem?_append_right (Nat.le_refl _), Nat.sub_self] at hj
            cases hj
            exact ⟨d + 1, by omega, a8 hcl⟩
        have hO2 : ∀ x, x ∈ l ++ [c] → q_up ol c (ol b + 1) x = nd' x := fun x hx => by
          by_cases e : x = c
          · subst e; rw [m_up_s, a8 hcl, hO b hbl, hnd, nI_1]
          · have hxl : x ∈ l := (List.mem_append.mp hx).resolve_right (fun h => e (List.mem_singleton.mp h))
            rw [m_up_n e, hO x hxl, a7 x (hG x (hGl x hxl)).1 e]
        obtain ⟨t, x1, x2, x3, x4, x5, x6, x7, y1, y2, y3, y4, y5, y6, y7⟩ := ih (r + 1) (l ++ [c]) li' nr' nd' md' mq' mi' (q_up ol c (ol b + 1)) fu fv (by omega) (by omega) (by omega) a3 hG2 hD2 hO2 hi2
        refine ⟨[c] ++ t, x1, x2, x3, x4, x5, x6, x7, y1, y2, ?_, ?_, ?_, ?_, fun j hj => (y7 j hj).trans (a6 j hj)⟩
        · rw [← List.append_assoc]; exact y3
        · rw [← List.append_assoc]; exact y4
        · rw [← List.append_assoc]; exact y5
        · rw [← List.append_assoc]; exact y6
theorem m_betw_out {G : Nat → Prop} {rc ld sr sd : Nat → Int32} (hG : m_G G rc ld sr sd) {e : Nat} (he : e < 128) : ∀ (n i : Nat) (l : List Nat) (li nr nd md mq mi ol : Nat → Int32) (fu fv : Nat), i + n = 128 → n < fu → n < fv → i ≤ l.length → m_Q l li nr nd md mq mi → (∀ x ∈ l, G x) → m_D l nd → (∀ x, x ∈ l → ol x = nd x) → (∀ j, j < i → l[j]? ≠ some e) →
    ∃ li' nr' nd' fl v md' mq' mi' ol', f_X2_followLine_L2 rc ld fu li nr nd (nI i) = some (li', nr', nd') ∧ f_X15_between_L12 sr sd (nI e) fv md mq mi ol (nI i) = some (fl, v, md', mq', mi', ol') ∧ ((fl = 0 ∧ nd' e = -1) ∨ (fl = 1 ∧ v = nI e ∧ ol' e = nd' e)) ∧ (∀ j, j ≠ 16 → md' j = md j) := by
  intro n
  induction n with
  | zero =>
    intro i l li nr nd md mq mi ol fu fv hin hfu hfv hil hQ hGl hD hO hno
    obtain rfl : i = 128 := by omega
    obtain ⟨fu, rfl⟩ : ∃ z, fu = z + 1 := ⟨fu - 1, by omega⟩
    obtain ⟨fv, rfl⟩ : ∃ z, fv = z + 1 := ⟨fv - 1, by omega⟩
    have hlen := m_Q_len hQ
    refine ⟨li, nr, nd, 0, 0, md, mq, mi, ol, ?_, ?_, Or.inl ⟨rfl, ?_⟩, fun _ _ => rfl⟩
    · rw [f_X2_followLine_L2, if_pos (show (128 : Int32) ≤ nI 128 from nI_le (Nat.le_refl _) (by decide))]
    · rw [f_X15_between_L12, hQ.2.1, if_pos (nI_le hlen (by decide))]
    · exact Classical.not_not.mp (fun h => by
        obtain ⟨j, hj⟩ := List.getElem?_of_mem ((hQ.2.2.2.2.2.1 e he).mpr h)
        have := (List.getElem?_eq_some_iff.mp hj).1
        exact hno j (by omega) hj)
  | succ n ih =>
    intro i l li nr nd md mq mi ol fu fv hin hfu hfv hil hQ hGl hD hO hno
    obtain ⟨fu, rfl⟩ : ∃ z, fu = z + 1 := ⟨fu - 1, by omega⟩
    obtain ⟨fv, rfl⟩ : ∃ z, fv = z + 1 := ⟨fv - 1, by omega⟩
    have hlen := m_Q_len hQ
    by_cases hi : i = l.length
    · refine ⟨li, nr, nd, 0, 0, md, mq, mi, ol, ?_, ?_, Or.inl ⟨rfl, ?_⟩, fun _ _ => rfl⟩
      · rw [f_X2_followLine_L2, if_neg (show ¬ (128 : Int32) ≤ nI i from nI_ge (b := 128) (by omega) (by decide)), f_X4_length, Option.bind_some, hQ.1, if_pos (nI_le (by omega) (by omega))]
      · rw [f_X15_between_L12, hQ.2.1, if_pos (nI_le (by omega) (by omega))]
      · exact Classical.not_not.mp (fun h => by
          obtain ⟨j, hj⟩ := List.getElem?_of_mem ((hQ.2.2.2.2.2.1 e he).mpr h)
          have := (List.getElem?_eq_some_iff.mp hj).1
          exact hno j (by omega) hj)
    · have hlt : i < l.length := by omega
      obtain ⟨b, hb⟩ : ∃ b, l[i]? = some b := ⟨l[i], List.getElem?_eq_getElem hlt⟩
      have hGb := hGl b (List.mem_of_getElem? hb)
      obtain ⟨hb8, k, hk3, hk, hsk, -⟩ := hG b hGb
      have hmq := (hQ.2.2.2.2.1 i b hb).2
      by_cases hbe : b = e
      · subst hbe
        obtain ⟨t, li', nr', nd', md', mq', mi', z1, z2, z3, z4, z5, z6, z7, z8⟩ := m_reach_out hG (n + 1) i l li nr nd md mq mi (fu + 1) (fu + 1) (by omega) (by omega) (by omega) (by omega) hQ hGl hD
        refine ⟨li', nr', nd', 1, nI b, md, mq, mi, ol, z1, ?_, Or.inr ⟨rfl, rfl, ?_⟩, fun _ _ => rfl⟩
        · rw [f_X15_between_L12, hQ.2.1, if_neg (nI_ge hlt (by omega)), q_ix_nI (by omega) (by decide), Option.bind_some, hmq, if_neg (fun h => h rfl)]
        · have hm : b ∈ l := List.mem_of_getElem? hb
          rw [z8 b hm, hO b hm]
      · obtain ⟨t, li', nr', nd', md', mq', mi', ol', y1, y2, y3, y4, y5, y6, y7⟩ := m_betw_in hG hGb hk hk3 k 0 l li nr nd md mq mi ol 4096 4096 (by omega) (by omega) (by omega) hQ hGl hD hO hb
        obtain ⟨li2, nr2, nd2, fl, v, md2, mq2, mi2, ol2, z1, z2, z3, z4⟩ := ih (i + 1) (l ++ t) li' nr' nd' md' mq' mi' ol' fu fv (by omega) (by omega) (by omega) (by simp; omega) y3 y4 y5 y6 (fun j hj h => by
          rw [List.getElem?_append_left (by omega)] at h
          by_cases hji : j = i
          · subst hji; rw [hb] at h; exact hbe (Option.some.inj h)
          · exact hno j (by omega) h)
        refine ⟨li2, nr2, nd2, fl, v, md2, mq2, mi2, ol2, ?_, ?_, z3, fun j hj => (z4 j hj).trans (y7 j hj)⟩
        · rw [f_X2_followLine_L2, if_neg (show ¬ (128 : Int32) ≤ nI i from nI_ge (b := 128) (by omega) (by decide)), f_X4_length, Option.bind_some, hQ.1, if_neg (nI_ge hlt (by omega)), m_lat hQ.1 hlen hlt, Option.bind_some, (hQ.2.2.2.2.1 i b hb).1, show (0 : Int32) = nI 0 from rfl, y1, Option.bind_some, nI_1]
          exact z1
        · rw [f_X15_between_L12, hQ.2.1, if_neg (nI_ge hlt (by omega)), q_ix_nI (by omega) (by decide), Option.bind_some, hmq, if_pos (fun h => hbe ((nI_eq (by omega) (by omega)).mp h)), show (0 : Int32) = nI 0 from rfl, y2, Option.bind_some, nI_1]
          exact z2
theorem m_betw {G : Nat → Prop} {rc ld sr sd : Nat → Int32} (hG : m_G G rc ld sr sd) {s e : Nat} (hs : G s) (he : e < 128) (li nr nd md mq mi : Nat → Int32) :
    ∃ x li' nr' nd' md' mq' mi', f_X2_ropesAway rc ld li nr nd (nI s) (nI e) = some (x, li', nr', nd') ∧ f_X15_between md mq mi sr sd (nI s) (nI e) = some (x, md', mq', mi') ∧ (∀ j, j ≠ 16 → md' j = md j) := by
  have hs8 := (hG s hs).1
  obtain ⟨l', li1, nr1, nd1, md1, mq1, mi1, a1, a2, a3, a4, a5, a6, a7, a8, a9⟩ := m_Q_add (b := s) (x := nI 0) (m_Q_0 (li := li) (nr := nr) (nd := nd) (md := md) (mq := mq) (mi := mi)) hs8 (m_nI_m1 (by omega))
  rw [if_neg (by simp)] at a4
  rw [List.nil_append] at a4
  subst a4
  have hn1 := a8 (by simp)
  obtain ⟨li2, nr2, nd2, fl, v, md2, mq2, mi2, ol2, z1, z2, z3, z4⟩ := m_betw_out hG he 128 0 [s] li1 nr1 nd1 md1 mq1 mi1 (fun _ => 0) 4096 4096 (by omega) (by omega) (by omega) (by omega) a3 (fun x hx => by rw [List.mem_singleton.mp hx]; exact hs) (fun i x hx => by
    have hm := List.mem_singleton.mp (List.mem_of_getElem? hx)
    subst hm
    exact ⟨0, by omega, hn1⟩) (fun x hx => by
    have hm := List.mem_singleton.mp hx
    subst hm
    exact hn1.symm) (fun j hj => by omega)
  have eC : f_X2_ropesAway rc ld li nr nd (nI s) (nI e) = some (nd2 e, li2, nr2, nd2) := by
    unfold f_X2_ropesAway f_X4_clear
    rw [Option.bind_some, show (0 : Int32) = nI 0 from rfl, show (q_up li 2 (nI 0)) = q_up li 2 0 from rfl, a1, Option.bind_some]
    unfold f_X2_followLine
    rw [show (0 : Int32) = nI 0 from rfl, z1, Option.bind_some, Option.bind_some, m_ropesTo he, Option.bind_some]
  have eR : f_X15_between md mq mi sr sd (nI s) (nI e) = if fl = 0 then some (-1, md2, mq2, mi2) else (q_ix v 136).bind fun j17 => some (ol2 j17, md2, mq2, mi2) := by
    unfold f_X15_between f_X14_forget
    have e0 := m_forgetL (mi := mi) 136 0 4096 (by omega) (by omega)
    rw [q_fil_0] at e0
    rw [show (0 : Int32) = nI 0 from rfl, e0, Option.bind_some, Option.bind_some, show (q_up md 16 (nI 0)) = q_up md 16 0 from rfl, a2, Option.bind_some, show (fun (_ : Nat) => nI 0) = (fun _ => (0 : Int32)) from rfl, z2, Option.bind_some]
  have hmd : ∀ j, j ≠ 16 → md2 j = md j := fun j hj => (z4 j hj).trans ((a6 j hj).trans (m_up_n hj))
  rcases z3 with ⟨rfl, h2⟩ | ⟨rfl, h2, h3⟩
  · exact ⟨-1, li2, nr2, nd2, md2, mq2, mi2, by rw [eC, h2], by rw [eR, if_pos rfl], hmd⟩
  · exact ⟨nd2 e, li2, nr2, nd2, md2, mq2, mi2, eC, by rw [eR, if_neg (by decide), h2, q_ix_nI (by omega) (by decide), Option.bind_some, h3], hmd⟩
theorem m_q_ropesBetween {H m hf : Nat} {h : List Nat} {pn mp bn ly pl sz ag rc ld lo lr hk rw st sh sw sp ss sr sa sd : m_Rr} (hP : m_Pl H m hf pn mp) (hR : m_R H m hf h bn ly pl sz ag rc ld lo lr hk rw st sh sw sp ss sr sa sd) (li nr nd md mq mi : m_Rr) (x y : Int32) : ∃ r li' nr' nd' b md' mq' mi', f_X12_ropesBetween pn rc ld li nr nd hk x y = some (r, li', nr', nd') ∧ f_X15_ropesBetween md mp mq mi sh sr sd x y = some (b, md', mq', mi') ∧ m_an [m_sIO, m_sIS] r b (md' 0) ∧ m_mdk md md' := by
  obtain ⟨p0, p1, p2, p3, p4, p5, p6⟩ := id hP
  rcases m_hookQ hR.2.2.2.2.2.1.1 p5 p6 x with ⟨a1, a2⟩ | ⟨i, iH, rfl, a1, a2⟩
  · refine ⟨.inr m_sIO, li, nr, nd, 0, q_up (q_up md 0 0) 0 1, mq, mi, ?_, ?_, ⟨0, rfl, by rw [m_up_s]; rfl⟩, m_mdk_00⟩
    · unfold f_X12_ropesBetween; rw [a1]; rfl
    · unfold f_X15_ropesBetween; rw [a2]; rfl
  · rcases m_hookQ hR.2.2.2.2.2.1.1 p5 p6 y with ⟨b1, b2⟩ | ⟨j, jH, rfl, b1, b2⟩
    · refine ⟨.inr m_sIO, li, nr, nd, 0, q_up (q_up md 0 0) 0 1, mq, mi, ?_, ?_, ⟨0, rfl, by rw [m_up_s]; rfl⟩, m_mdk_00⟩
      · unfold f_X12_ropesBetween
        rw [a1, Option.bind_some]
        show ((f_X12_checkHook pn y).bind _) = _
        rw [b1]; rfl
      · unfold f_X15_ropesBetween
        rw [a2, Option.bind_some, if_neg (show ¬ q_bz true = 0 by decide), b2]; rfl
    · obtain ⟨i6, i1, i2⟩ := m_hkv hR iH
      obtain ⟨j6, j1, j2⟩ := m_hkv hR jH
      have eC : f_X12_ropesBetween pn rc ld li nr nd hk (nI i) (nI j) = (f_X12_heldBale pn hk (nI i)).bind fun r9 => q_sm r9 (fun v10 => (f_X12_heldBale pn hk (nI j)).bind fun r13 => q_sm r13 (fun v14 => (f_X2_ropesAway rc ld li nr nd v10 v14).bind fun r17 => some (.inl r17.1, r17.2.1, r17.2.2.1, r17.2.2.2)) (fun e15 => some (.inr e15, li, nr, nd))) (fun e11 => some (.inr e11, li, nr, nd)) := by
        unfold f_X12_ropesBetween
        rw [a1, Option.bind_some]
        show ((f_X12_checkHook pn (nI j)).bind _) = _
        rw [b1, Option.bind_some]; rfl
      have eR : f_X15_ropesBetween md mp mq mi sh sr sd (nI i) (nI j) = if sh i = -1 then some (0, q_up (q_up md 0 0) 0 2, mq, mi) else if ¬ sh j = -1 then (f_X15_between (q_up md 0 0) mq mi sr sd (sh i) (sh j)).bind fun r13 => some (r13.1, r13.2.1, r13.2.2.1, r13.2.2.2) else some (0, q_up (q_up md 0 0) 0 2, mq, mi) := by
        unfold f_X15_ropesBetween
        rw [a2, Option.bind_some, if_neg (show ¬ q_bz true = 0 by decide), b2, Option.bind_some, if_pos (show ¬ q_bz true = 0 by decide), q_ix_nI i6 (by decide), Option.bind_some, q_ix_nI j6 (by decide), Option.bind_some, Option.bind_some, Option.bind_some]
        rfl
      have hb : ∀ i, i < H → ∀ c, hk i = nI c → c < 128 → f_X12_heldBale pn hk (nI i) = some (.inl (nI c)) := fun i iH c hc c8 => by
        rcases m_baleQ hP hR md (nI i) with ⟨w1, w2⟩ | ⟨w1, w2⟩ | ⟨i', c', x1, x2, x3, x4, x5, x6, x7, x8, x9⟩
        · obtain ⟨q1, q2⟩ := m_hkv hR iH
          rcases m_hookQ hR.2.2.2.2.2.1.1 p5 p6 (nI i) with ⟨v1, v2⟩ | ⟨i', v0, v1, v2, v3⟩
          · unfold f_X12_checkHook at v1
            rw [if_neg (nI_pos (by omega)), p5, if_pos (nI_lt iH (by have := hR.2.2.2.2.2.1.1; omega))] at v1
            cases v1
          · unfold f_X12_heldBale at w1
            rw [v2, Option.bind_some] at w1
            have w1' : ((f_X2_held hk (nI i)).bind fun r5 => if ¬ r5 = (-1 : Int32) then some (Sum.inl r5) else some (Sum.inr m_sIS)) = some (Sum.inr m_sIO) := w1
            rw [m_held q1, Option.bind_some, hc, if_pos (m_nI_m1 (by omega))] at w1'
            cases w1'
        · obtain ⟨q1, q2⟩ := m_hkv hR iH
          rcases m_hookQ hR.2.2.2.2.2.1.1 p5 p6 (nI i) with ⟨v1, v2⟩ | ⟨i', v0, v1, v2, v3⟩
          · unfold f_X12_checkHook at v1
            rw [if_neg (nI_pos (by omega)), p5, if_pos (nI_lt iH (by have := hR.2.2.2.2.2.1.1; omega))] at v1
            cases v1
          · unfold f_X12_heldBale at w1
            rw [v2, Option.bind_some] at w1
            have w1' : ((f_X2_held hk (nI i)).bind fun r5 => if ¬ r5 = (-1 : Int32) then some (Sum.inl r5) else some (Sum.inr m_sIS)) = some (Sum.inr m_sIS) := w1
            rw [m_held q1, Option.bind_some, hc, if_pos (m_nI_m1 (by omega))] at w1'
            cases w1'
        · have h6 := hR.2.2.2.2.2.1.1
          obtain rfl : i = i' := (nI_eq (by omega) (by omega)).mp x3
          obtain rfl : c = c' := (nI_eq (by omega) (by omega)).mp (hc.symm.trans x6)
          exact x8
      have hb0 : ∀ i, i < H → hk i = -1 → f_X12_heldBale pn hk (nI i) = some (.inr m_sIS) := fun i iH hc => by
        obtain ⟨q1, q2⟩ := m_hkv hR iH
        have h6 := hR.2.2.2.2.2.1.1
        unfold f_X12_heldBale f_X12_checkHook
        rw [if_neg (nI_pos (by omega)), p5, if_pos (nI_lt iH (by omega)), Option.bind_some]
        show ((f_X2_held hk (nI i)).bind _) = _
        rw [m_held q1, Option.bind_some, hc, if_neg (by decide)]
      rcases i2 with hm | ⟨c, hc, hc0, hm⟩
      · refine ⟨.inr m_sIS, li, nr, nd, 0, q_up (q_up md 0 0) 0 2, mq, mi, ?_, ?_, ⟨1, rfl, by rw [m_up_s]; rfl⟩, m_mdk_00⟩
        · rw [eC, hb0 i iH hm]; rfl
        · rw [eR, ← i1, if_pos hm]
      · rcases j2 with hn | ⟨d, hd, hd0, hn⟩
        · refine ⟨.inr m_sIS, li, nr, nd, 0, q_up (q_up md 0 0) 0 2, mq, mi, ?_, ?_, ⟨1, rfl, by rw [m_up_s]; rfl⟩, m_mdk_00⟩
          · rw [eC, hb i iH c hm hc, Option.bind_some]
            show ((f_X12_heldBale pn hk (nI j)).bind _) = _
            rw [hb0 j jH hn]; rfl
          · rw [eR, ← i1, hm, if_neg (m_nI_m1 (by omega)), ← j1, if_neg (fun h => h hn)]
        · obtain ⟨x, li', nr', nd', md', mq', mi', z1, z2, z3⟩ := m_betw (m_G_of hR) ⟨hc, hc0⟩ hd li nr nd (q_up md 0 0) mq mi
          refine ⟨.inl x, li', nr', nd', x, md', mq', mi', ?_, ?_, ⟨by rw [z3 0 (by decide), m_up_s], rfl⟩, fun q h0 h16 => (z3 q h16).trans (m_up_n h0)⟩
          · rw [eC, hb i iH c hm hc, Option.bind_some]
            show ((f_X12_heldBale pn hk (nI j)).bind _) = _
            rw [hb j jH d hn hd, Option.bind_some]
            show ((f_X2_ropesAway rc ld li nr nd (nI c) (nI d)).bind _) = _
            rw [z1, Option.bind_some]
          · rw [eR, ← i1, hm, if_neg (m_nI_m1 (by omega)), ← j1, hn, if_pos (m_nI_m1 (by omega)), z2, Option.bind_some]
