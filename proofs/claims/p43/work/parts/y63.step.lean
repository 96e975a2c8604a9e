/-! A STEP'S LINE is read, by the class alone -/
section ZSTEPL
variable {t k oc : Nat} {tk tv hn : m_Rr} {tg : Nat → Option Nat} {sv : List (Nat × Int32)} {nm : List Int32} {q : Nat → Nat} {qn qu rd : m_Rr} {qd : Nat → Option Nat} {T2 : Nat → m_Rr} {K2 : Nat → Nat → Option Nat}
abbrev zp_SR (q : Nat → Nat) (nm : List Int32) (t k oc x : Nat) (tk tv hn : m_Rr) (tg : Nat → Option Nat) (qn qu rd : m_Rr) (qd : Nat → Option Nat) (T2 : Nat → m_Rr) (K2 : Nat → Nat → Option Nat) : Prop :=
  ∃ T2' K2', f_X7_readStep qn qu rd hn tk tv qd tg T2 K2 x = some (q_up (q_up qn 4 (nI (k + 1))) 5 (nI (oc + (zp_lineO q).length)), zo_u qu oc (zp_lineO q), q_up rd 3 (nI (t + (zp_lineT nm q).length)), zo_d qd oc (zp_lineO q), T2', K2') ∧ (∀ j, j ≠ k → T2' j = T2 j ∧ K2' j = K2 j) ∧
    z_Tld nm.length (oc + (zp_lineO q).length) (zo_d qd oc (zp_lineO q)) (zo_u qu oc (zp_lineO q)) T2' K2' k (zp_w q)
theorem zp_u2n {α : Type} {f : Nat → Nat → α} {k j : Nat} {x : α} {i : Nat} (h : j ≠ k) : q_u2 f k i x j = f j := q_u2_row _ _ _ _ _ h
theorem zp_T0n {j : Nat} (h : j ≠ k) : zp_T0 T2 k j = T2 j := by
  unfold zp_T0
  rw [zp_u2n h, zp_u2n h, zp_u2n h, zp_u2n h, zp_u2n h, zp_u2n h, zp_u2n h]
set_option maxHeartbeats 2000000 in
theorem zp_step_make (hT : zp_T tk tg tv sv) (hN : zp_H hn nm) (hq : zp_Ln nm.length q) (e0 : q 0 = 0) (h : zp_sub sv t (zp_lineT nm q ++ [(38, 0)])) (q3 : qn 3 = nI nm.length) (q4 : qn 4 = nI k) (hk : k < 20) (q5 : qn 5 = nI oc) (ho : oc + (zp_lineO q).length ≤ 400) (h3 : rd 3 = nI t) (h4 : rd 4 = 0) :
    zp_SR q nm t k oc 9 tk tv hn tg qn qu rd qd T2 K2 := by
  have t20 : q_t20 k = some () := by unfold q_t20; rw [if_pos hk]
  have g5 : q_up qn 4 (nI (k + 1)) 5 = nI oc := (m_up_n (by decide)).trans q5
  have g3 : q_up qn 4 (nI (k + 1)) 3 = nI nm.length := (m_up_n (by decide)).trans q3
  have hk20 : nI k < (20 : Int32) := nI_lt (b := 20) hk (by decide)
  have h1 : sv[t + 1]? = some (zp_hk nm (q 1)) := h 1 _ rfl
  have eh := zp_hook hT hN (rd := q_up rd 3 (nI (t + 1))) g3 m_up_s (zp_rd h4) h1 (zp_nm hq.2.1)
  rw [zp_uu] at eh
  have eA := zp_addStep (qn := qn) (T2 := T2) (K2 := K2) (x := 9) (by decide) q4 hk
  have eO : zp_lineO q = z_sumO (zp_w q) ++ z_tstO (q 6) (zp_w q) := by unfold zp_lineO; rw [if_pos e0]
  have eB : zp_bodyT nm q = (25, 0) :: (zp_sumT nm q ++ [(14, 0), (2, nI (q 3))]) := by unfold zp_bodyT; rw [e0]; rfl
  have eL : zp_lineT nm q = (9 + q 0, 0) :: zp_hk nm (q 1) :: (zp_bodyT nm q ++ zp_tstT nm q) := rfl
  rw [eB] at eL
  rw [eL] at h
  have hs : zp_sub sv (t + 3) ((zp_sumT nm q ++ [(14, 0), (2, nI (q 3))]) ++ (zp_tstT nm q ++ [(38, 0)])) := fun i p hp => by
    rw [show t + 3 + i = t + (i + 3) by omega]
    refine h (i + 3) p ?_
    show ((zp_sumT nm q ++ [(14, 0), (2, nI (q 3))]) ++ zp_tstT nm q ++ [(38, 0)])[i]? = some p
    rw [List.append_assoc]; exact hp
  have hs1 : zp_sub sv (t + 3) (zp_sumT nm q ++ [(14, 0)]) := zp_sub_l (m := (2, nI (q 3)) :: (zp_tstT nm q ++ [(38, 0)])) (fun i p hp => hs i p (by rw [← hp]; simp))
  have hs2 := zp_sub_r (zp_sub_l hs)
  obtain ⟨u, hu⟩ : ∃ u, u = t + 3 + (zp_sumT nm q).length := ⟨_, rfl⟩
  rw [← hu] at hs2
  have eT : zp_sub sv (u + 2) (zp_tstT nm q ++ [(38, 0)]) := by
    have := zp_sub_r hs
    rw [List.length_append, ← Nat.add_assoc, ← hu] at this
    exact this
  have elen : t + (zp_lineT nm q).length = u + 2 + (zp_tstT nm q).length := by
    rw [eL, hu]
    show t + ((zp_sumT nm q ++ [(14, 0), (2, nI (q 3))] ++ zp_tstT nm q).length + 1 + 1 + 1) = _
    rw [List.length_append, List.length_append]
    show t + ((zp_sumT nm q).length + 2 + (zp_tstT nm q).length + 1 + 1 + 1) = _
    omega
  have k25 : sv[t + 2]? = some (25, 0) := h 2 _ rfl
  have e25 := zp_take hT (rd := q_up rd 3 (nI (t + 2))) m_up_s (zp_rd h4) k25
  rw [zp_uu] at e25
  have ho' : oc + ((z_sumO (zp_w q)).length + (z_tstO (q 6) (zp_w q)).length) ≤ 400 := by rw [eO, List.length_append] at ho; exact ho
  have eS := zp_sumW (rv := k_readValue 12) (rs := k_readSum 12) (x1 := 0) hT hN hq hs1 (q_up qn 4 (nI (k + 1))) qu (q_up rd 3 (nI (t + 3))) qd oc g3 g5 (by omega) m_up_s (zp_rd h4)
  rw [zp_uu, ← hu] at eS
  have eS : f_X7_readSum (k_readValue 12) (k_readSum 12) (q_up qn 4 (nI (k + 1))) qu (q_up rd 3 (nI (t + 3))) hn tk tv qd tg 0 = _ := eS
  have eR := zp_rope hT (rd := q_up rd 3 (nI u)) m_up_s (zp_rd h4) (hs2 0 _ rfl) (hs2 1 _ rfl) hq.2.2.2.1
  rw [zp_uu] at eR
  have eU : zp_SR q nm t k oc 9 tk tv hn tg qn qu rd qd T2 K2 := by
    rcases zp_tail hT hN hq eT (rd := q_up rd 3 (nI (u + 2))) m_up_s (zp_rd h4) with ⟨z6, s38⟩ | ⟨z6, s19, eTT⟩
    · have eT0 : z_tstO (q 6) (zp_w q) = [] := by rw [z6]; rfl
      have eTl : (zp_tstT nm q).length = 0 := by unfold zp_tstT; rw [z6]; rfl
      rw [eTl] at elen
      refine ⟨q_u2 (q_u2 (q_u2 (q_u2 (zp_T0 T2 k) k 1 (nI (q 1))) k 4 (nI oc)) k 5 (nI (oc + (z_sumO (zp_w q)).length))) k 3 (nI (q 3)), q_u2 K2 k 0 (some 9), ?_, fun j hj => ?_, ?_⟩
      · rw [eO, eT0, List.append_nil, elen]
        unfold f_X7_readStep
        rw [m_e49 (by decide), Option.bind_some, q4, if_pos hk20, eA, Option.bind_some, t20, Option.bind_some, h3, nI_1, eh, Option.bind_some, if_pos rfl, e25, Option.bind_some, eS, Option.bind_some, eR, Option.bind_some, s38, Option.bind_some, m_e49 (by decide), Option.bind_some, if_neg (by decide)]
        dsimp only
        rw [g5, m_up_s]
      · rw [zp_u2n hj, zp_u2n hj, zp_u2n hj, zp_u2n hj, zp_u2n hj]; exact ⟨zp_T0n hj, rfl⟩
      · rw [eO, eT0]
        refine ⟨0, q 1, q 2, q 3, q 6, q 8, ⟨congrArg nI e0, by omega⟩, ⟨rfl, hq.2.1⟩, ⟨rfl, hq.2.2.1⟩, ⟨rfl, hq.2.2.2.1⟩, ⟨rfl, hq.2.2.2.2.2.2.1⟩, ⟨rfl, hq.2.2.2.2.2.2.2.2⟩, q_u2_s _ _ _ _, ?_, fun _ => q_u2_s _ _ _ _, fun e => by omega, fun _ => ⟨oc, ?_, ?_, ?_⟩, 0, ?_, ?_, ?_⟩
        · simp [q_u2_of]
        · simp [q_u2_of]
        · simp [q_u2_of]
        · exact zp_Ord_of (os := []) (os1 := z_sumO (zp_w q)) (os2 := []) rfl
        · simp [q_u2_of, zp_T0]; rfl
        · rw [z6]; simp [q_u2_of, zp_T0, z_tstO]; rfl
        · rw [z6]; exact ⟨Nat.zero_le _, fun j p hp => by cases hp⟩
    · have eT2 := eTT (q_up (q_up qn 4 (nI (k + 1))) 5 (nI (oc + (z_sumO (zp_w q)).length))) (zo_u qu oc (z_sumO (zp_w q))) (zo_d qd oc (z_sumO (zp_w q))) (oc + (z_sumO (zp_w q)).length) ((m_up_n (by decide)).trans g3) m_up_s (by omega)
      rw [zp_uu, zp_uu, zp_uu, ← zo_u_app, ← zo_d_app, Nat.add_assoc oc, ← List.length_append] at eT2
      refine ⟨q_u2 (q_u2 (q_u2 (q_u2 (q_u2 (q_u2 (zp_T0 T2 k) k 1 (nI (q 1))) k 4 (nI oc)) k 5 (nI (oc + (z_sumO (zp_w q)).length))) k 3 (nI (q 3))) k 6 (nI (oc + (z_sumO (zp_w q)).length))) k 7 (nI (oc + (z_sumO (zp_w q) ++ z_tstO (q 6) (zp_w q)).length)), q_u2 K2 k 0 (some 9), ?_, fun j hj => ?_, ?_⟩
      · rw [eO, elen]
        unfold f_X7_readStep
        rw [m_e49 (by decide), Option.bind_some, q4, if_pos hk20, eA, Option.bind_some, t20, Option.bind_some, h3, nI_1, eh, Option.bind_some, if_pos rfl, e25, Option.bind_some, eS, Option.bind_some, eR, Option.bind_some, s19, Option.bind_some, m_e49 (by decide), Option.bind_some, if_pos rfl]
        dsimp only
        rw [show q_up rd 3 (nI (u + 2)) 3 = nI (u + 2) from m_up_s, nI_1, zp_uu, eT2, Option.bind_some]
        dsimp only
        rw [g5, m_up_s, m_up_s]
      · rw [zp_u2n hj, zp_u2n hj, zp_u2n hj, zp_u2n hj, zp_u2n hj, zp_u2n hj, zp_u2n hj]; exact ⟨zp_T0n hj, rfl⟩
      · rw [eO]
        refine ⟨0, q 1, q 2, q 3, q 6, q 8, ⟨congrArg nI e0, by omega⟩, ⟨rfl, hq.2.1⟩, ⟨rfl, hq.2.2.1⟩, ⟨rfl, hq.2.2.2.1⟩, ⟨rfl, hq.2.2.2.2.2.2.1⟩, ⟨rfl, hq.2.2.2.2.2.2.2.2⟩, q_u2_s _ _ _ _, ?_, fun _ => ?_, fun e => by omega, fun _ => ⟨oc, ?_, ?_, ?_⟩, oc + (z_sumO (zp_w q)).length, ?_, ?_, ?_⟩
        · simp [q_u2_of]
        · simp [q_u2_of]
        · simp [q_u2_of]
        · simp [q_u2_of]
        · exact zp_Ord_of (os := []) (os1 := z_sumO (zp_w q)) (os2 := z_tstO (q 6) (zp_w q)) rfl
        · simp [q_u2_of]
        · simp [q_u2_of, List.length_append, Nat.add_assoc]
        · have := zp_Ord_of (os := z_sumO (zp_w q)) (os1 := z_tstO (q 6) (zp_w q)) (os2 := []) (oc := oc) (qu := qu) (qd := qd) rfl
          rw [List.append_nil] at this
          exact this
  exact eU
set_option maxHeartbeats 2000000 in
theorem zp_step_tie (hT : zp_T tk tg tv sv) (hN : zp_H hn nm) (hq : zp_Ln nm.length q) (e0 : q 0 = 1) (h : zp_sub sv t (zp_lineT nm q ++ [(38, 0)])) (q3 : qn 3 = nI nm.length) (q4 : qn 4 = nI k) (hk : k < 20) (q5 : qn 5 = nI oc) (ho : oc + (zp_lineO q).length ≤ 400) (h3 : rd 3 = nI t) (h4 : rd 4 = 0) :
    zp_SR q nm t k oc 10 tk tv hn tg qn qu rd qd T2 K2 := by
  have t20 : q_t20 k = some () := by unfold q_t20; rw [if_pos hk]
  have g5 : q_up qn 4 (nI (k + 1)) 5 = nI oc := (m_up_n (by decide)).trans q5
  have g3 : q_up qn 4 (nI (k + 1)) 3 = nI nm.length := (m_up_n (by decide)).trans q3
  have hk20 : nI k < (20 : Int32) := nI_lt (b := 20) hk (by decide)
  have h1 : sv[t + 1]? = some (zp_hk nm (q 1)) := h 1 _ rfl
  have eh := zp_hook hT hN (rd := q_up rd 3 (nI (t + 1))) g3 m_up_s (zp_rd h4) h1 (zp_nm hq.2.1)
  rw [zp_uu] at eh
  have eA := zp_addStep (qn := qn) (T2 := T2) (K2 := K2) (x := 10) (by decide) q4 hk
  have eO : zp_lineO q = z_tstO (q 6) (zp_w q) := by unfold zp_lineO; rw [if_neg (by omega)]; rfl
  have eB : zp_bodyT nm q = [(15, 0), (2, nI (q 3)), (16, 0), zp_hk nm (q 2)] := by unfold zp_bodyT; rw [e0]; rfl
  have eL : zp_lineT nm q = (9 + q 0, 0) :: zp_hk nm (q 1) :: (zp_bodyT nm q ++ zp_tstT nm q) := rfl
  rw [eB] at eL
  rw [eL] at h
  have eR := zp_rope hT (rd := q_up rd 3 (nI (t + 2))) m_up_s (zp_rd h4) (h 2 _ rfl) (h 3 _ rfl) hq.2.2.2.1
  have eK := zp_take hT (rd := q_up rd 3 (nI (t + 4))) m_up_s (zp_rd h4) (h 4 _ rfl)
  have eH := zp_hook hT hN (rd := q_up rd 3 (nI (t + 5))) g3 m_up_s (zp_rd h4) (h 5 _ rfl) (zp_nm hq.2.2.1)
  rw [zp_uu] at eR eK eH
  have eT : zp_sub sv (t + 6) (zp_tstT nm q ++ [(38, 0)]) := fun i p hp => by
    rw [show t + 6 + i = t + (i + 6) by omega]
    exact h (i + 6) p hp
  have elen : t + (zp_lineT nm q).length = t + 6 + (zp_tstT nm q).length := by
    rw [eL]
    show t + ((zp_tstT nm q).length + 1 + 1 + 1 + 1 + 1 + 1) = _
    omega
  rw [eO] at ho
  rcases zp_tail hT hN hq eT (rd := q_up rd 3 (nI (t + 6))) m_up_s (zp_rd h4) with ⟨z6, s38⟩ | ⟨z6, s19, eTT⟩
  · have eT0 : z_tstO (q 6) (zp_w q) = [] := by rw [z6]; rfl
    have eTl : (zp_tstT nm q).length = 0 := by unfold zp_tstT; rw [z6]; rfl
    rw [eTl] at elen
    refine ⟨q_u2 (q_u2 (q_u2 (zp_T0 T2 k) k 1 (nI (q 1))) k 3 (nI (q 3))) k 2 (nI (q 2)), q_u2 K2 k 0 (some 10), ?_, fun j hj => ?_, ?_⟩
    · rw [eO, eT0, elen]
      unfold f_X7_readStep
      rw [m_e49 (by decide), Option.bind_some, q4, if_pos hk20, eA, Option.bind_some, t20, Option.bind_some, h3, nI_1, eh, Option.bind_some, if_neg (by decide), if_pos rfl, eR, Option.bind_some, eK, Option.bind_some, eH, Option.bind_some, s38, Option.bind_some, m_e49 (by decide), Option.bind_some, if_neg (by decide)]
      have e9 : q_up (q_up qn 4 (nI (k + 1))) 5 (nI (oc + ([] : List (Nat × Int32)).length)) = q_up qn 4 (nI (k + 1)) := m_up_same g5
      rw [e9]
      rfl
    · rw [zp_u2n hj, zp_u2n hj, zp_u2n hj, zp_u2n hj]; exact ⟨zp_T0n hj, rfl⟩
    · rw [eO, eT0]
      refine ⟨1, q 1, q 2, q 3, q 6, q 8, ⟨congrArg nI e0, by omega⟩, ⟨rfl, hq.2.1⟩, ⟨rfl, hq.2.2.1⟩, ⟨rfl, hq.2.2.2.1⟩, ⟨rfl, hq.2.2.2.2.2.2.1⟩, ⟨rfl, hq.2.2.2.2.2.2.2.2⟩, q_u2_s _ _ _ _, ?_, fun e => ?_, fun e => ?_, fun e => by omega, 0, ?_, ?_, ?_⟩
      · simp [q_u2_of]
      · simp [q_u2_of]
      · simp [q_u2_of]
      · simp [q_u2_of, zp_T0]; rfl
      · rw [z6]; simp [q_u2_of, zp_T0, z_tstO]; rfl
      · rw [z6]; exact ⟨Nat.zero_le _, fun j p hp => by cases hp⟩
  · have eT2 := eTT (q_up qn 4 (nI (k + 1))) qu qd oc g3 g5 ho
    rw [zp_uu, zp_uu] at eT2
    refine ⟨q_u2 (q_u2 (q_u2 (q_u2 (q_u2 (zp_T0 T2 k) k 1 (nI (q 1))) k 3 (nI (q 3))) k 2 (nI (q 2))) k 6 (nI oc)) k 7 (nI (oc + (z_tstO (q 6) (zp_w q)).length)), q_u2 K2 k 0 (some 10), ?_, fun j hj => ?_, ?_⟩
    · rw [eO, elen]
      unfold f_X7_readStep
      rw [m_e49 (by decide), Option.bind_some, q4, if_pos hk20, eA, Option.bind_some, t20, Option.bind_some, h3, nI_1, eh, Option.bind_some, if_neg (by decide), if_pos rfl, eR, Option.bind_some, eK, Option.bind_some, eH, Option.bind_some, s19, Option.bind_some, m_e49 (by decide), Option.bind_some, if_pos rfl]
      dsimp only
      rw [show q_up rd 3 (nI (t + 6)) 3 = nI (t + 6) from m_up_s, nI_1, zp_uu, eT2, Option.bind_some]
      dsimp only
      rw [g5, m_up_s]
    · rw [zp_u2n hj, zp_u2n hj, zp_u2n hj, zp_u2n hj, zp_u2n hj, zp_u2n hj]; exact ⟨zp_T0n hj, rfl⟩
    · rw [eO]
      refine ⟨1, q 1, q 2, q 3, q 6, q 8, ⟨congrArg nI e0, by omega⟩, ⟨rfl, hq.2.1⟩, ⟨rfl, hq.2.2.1⟩, ⟨rfl, hq.2.2.2.1⟩, ⟨rfl, hq.2.2.2.2.2.2.1⟩, ⟨rfl, hq.2.2.2.2.2.2.2.2⟩, q_u2_s _ _ _ _, ?_, fun e => ?_, fun e => ?_, fun e => by omega, oc, ?_, ?_, ?_⟩
      · simp [q_u2_of]
      · simp [q_u2_of]
      · simp [q_u2_of]
      · simp [q_u2_of]
      · simp [q_u2_of]
      · have := zp_Ord_of (os := []) (os1 := z_tstO (q 6) (zp_w q)) (os2 := []) (oc := oc) (qu := qu) (qd := qd) rfl
        rw [List.append_nil] at this
        exact this
set_option maxHeartbeats 2000000 in
theorem zp_step_untie (hT : zp_T tk tg tv sv) (hN : zp_H hn nm) (hq : zp_Ln nm.length q) (e0 : q 0 = 2) (h : zp_sub sv t (zp_lineT nm q ++ [(38, 0)])) (q3 : qn 3 = nI nm.length) (q4 : qn 4 = nI k) (hk : k < 20) (q5 : qn 5 = nI oc) (ho : oc + (zp_lineO q).length ≤ 400) (h3 : rd 3 = nI t) (h4 : rd 4 = 0) :
    zp_SR q nm t k oc 11 tk tv hn tg qn qu rd qd T2 K2 := by
  have t20 : q_t20 k = some () := by unfold q_t20; rw [if_pos hk]
  have g5 : q_up qn 4 (nI (k + 1)) 5 = nI oc := (m_up_n (by decide)).trans q5
  have g3 : q_up qn 4 (nI (k + 1)) 3 = nI nm.length := (m_up_n (by decide)).trans q3
  have hk20 : nI k < (20 : Int32) := nI_lt (b := 20) hk (by decide)
  have h1 : sv[t + 1]? = some (zp_hk nm (q 1)) := h 1 _ rfl
  have eh := zp_hook hT hN (rd := q_up rd 3 (nI (t + 1))) g3 m_up_s (zp_rd h4) h1 (zp_nm hq.2.1)
  rw [zp_uu] at eh
  have eA := zp_addStep (qn := qn) (T2 := T2) (K2 := K2) (x := 11) (by decide) q4 hk
  have eO : zp_lineO q = z_tstO (q 6) (zp_w q) := by unfold zp_lineO; rw [if_neg (by omega)]; rfl
  have eB : zp_bodyT nm q = [(15, 0), (2, nI (q 3))] := by unfold zp_bodyT; rw [e0]; rfl
  have eL : zp_lineT nm q = (9 + q 0, 0) :: zp_hk nm (q 1) :: (zp_bodyT nm q ++ zp_tstT nm q) := rfl
  rw [eB] at eL
  rw [eL] at h
  have eR := zp_rope hT (rd := q_up rd 3 (nI (t + 2))) m_up_s (zp_rd h4) (h 2 _ rfl) (h 3 _ rfl) hq.2.2.2.1
  rw [zp_uu] at eR
  have eT : zp_sub sv (t + 4) (zp_tstT nm q ++ [(38, 0)]) := fun i p hp => by
    rw [show t + 4 + i = t + (i + 4) by omega]
    exact h (i + 4) p hp
  have elen : t + (zp_lineT nm q).length = t + 4 + (zp_tstT nm q).length := by
    rw [eL]
    show t + ((zp_tstT nm q).length + 1 + 1 + 1 + 1) = _
    omega
  rw [eO] at ho
  rcases zp_tail hT hN hq eT (rd := q_up rd 3 (nI (t + 4))) m_up_s (zp_rd h4) with ⟨z6, s38⟩ | ⟨z6, s19, eTT⟩
  · have eT0 : z_tstO (q 6) (zp_w q) = [] := by rw [z6]; rfl
    have eTl : (zp_tstT nm q).length = 0 := by unfold zp_tstT; rw [z6]; rfl
    rw [eTl] at elen
    refine ⟨q_u2 (q_u2 (zp_T0 T2 k) k 1 (nI (q 1))) k 3 (nI (q 3)), q_u2 K2 k 0 (some 11), ?_, fun j hj => ?_, ?_⟩
    · rw [eO, eT0, elen]
      unfold f_X7_readStep
      rw [m_e49 (by decide), Option.bind_some, q4, if_pos hk20, eA, Option.bind_some, t20, Option.bind_some, h3, nI_1, eh, Option.bind_some, if_neg (by decide), if_neg (by decide), if_pos rfl, eR, Option.bind_some, s38, Option.bind_some, m_e49 (by decide), Option.bind_some, if_neg (by decide)]
      have e9 : q_up (q_up qn 4 (nI (k + 1))) 5 (nI (oc + ([] : List (Nat × Int32)).length)) = q_up qn 4 (nI (k + 1)) := m_up_same g5
      rw [e9]
      rfl
    · rw [zp_u2n hj, zp_u2n hj, zp_u2n hj]; exact ⟨zp_T0n hj, rfl⟩
    · rw [eO, eT0]
      refine ⟨2, q 1, q 2, q 3, q 6, q 8, ⟨congrArg nI e0, by omega⟩, ⟨rfl, hq.2.1⟩, ⟨rfl, hq.2.2.1⟩, ⟨rfl, hq.2.2.2.1⟩, ⟨rfl, hq.2.2.2.2.2.2.1⟩, ⟨rfl, hq.2.2.2.2.2.2.2.2⟩, q_u2_s _ _ _ _, ?_, fun e => ?_, fun e => ?_, fun e => by omega, 0, ?_, ?_, ?_⟩
      · simp [q_u2_of]
      · simp [q_u2_of]
      · omega
      · simp [q_u2_of, zp_T0]; rfl
      · rw [z6]; simp [q_u2_of, zp_T0, z_tstO]; rfl
      · rw [z6]; exact ⟨Nat.zero_le _, fun j p hp => by cases hp⟩
  · have eT2 := eTT (q_up qn 4 (nI (k + 1))) qu qd oc g3 g5 ho
    rw [zp_uu, zp_uu] at eT2
    refine ⟨q_u2 (q_u2 (q_u2 (q_u2 (zp_T0 T2 k) k 1 (nI (q 1))) k 3 (nI (q 3))) k 6 (nI oc)) k 7 (nI (oc + (z_tstO (q 6) (zp_w q)).length)), q_u2 K2 k 0 (some 11), ?_, fun j hj => ?_, ?_⟩
    · rw [eO, elen]
      unfold f_X7_readStep
      rw [m_e49 (by decide), Option.bind_some, q4, if_pos hk20, eA, Option.bind_some, t20, Option.bind_some, h3, nI_1, eh, Option.bind_some, if_neg (by decide), if_neg (by decide), if_pos rfl, eR, Option.bind_some, s19, Option.bind_some, m_e49 (by decide), Option.bind_some, if_pos rfl]
      dsimp only
      rw [show q_up rd 3 (nI (t + 4)) 3 = nI (t + 4) from m_up_s, nI_1, zp_uu, eT2, Option.bind_some]
      dsimp only
      rw [g5, m_up_s]
    · rw [zp_u2n hj, zp_u2n hj, zp_u2n hj, zp_u2n hj, zp_u2n hj]; exact ⟨zp_T0n hj, rfl⟩
    · rw [eO]
      refine ⟨2, q 1, q 2, q 3, q 6, q 8, ⟨congrArg nI e0, by omega⟩, ⟨rfl, hq.2.1⟩, ⟨rfl, hq.2.2.1⟩, ⟨rfl, hq.2.2.2.1⟩, ⟨rfl, hq.2.2.2.2.2.2.1⟩, ⟨rfl, hq.2.2.2.2.2.2.2.2⟩, q_u2_s _ _ _ _, ?_, fun e => ?_, fun e => ?_, fun e => by omega, oc, ?_, ?_, ?_⟩
      · simp [q_u2_of]
      · simp [q_u2_of]
      · omega
      · simp [q_u2_of]
      · simp [q_u2_of]
      · have := zp_Ord_of (os := []) (os1 := z_tstO (q 6) (zp_w q)) (os2 := []) (oc := oc) (qu := qu) (qd := qd) rfl
        rw [List.append_nil] at this
        exact this
set_option maxHeartbeats 2000000 in
theorem zp_step_follow (hT : zp_T tk tg tv sv) (hN : zp_H hn nm) (hq : zp_Ln nm.length q) (e0 : q 0 = 3) (h : zp_sub sv t (zp_lineT nm q ++ [(38, 0)])) (q3 : qn 3 = nI nm.length) (q4 : qn 4 = nI k) (hk : k < 20) (q5 : qn 5 = nI oc) (ho : oc + (zp_lineO q).length ≤ 400) (h3 : rd 3 = nI t) (h4 : rd 4 = 0) :
    zp_SR q nm t k oc 12 tk tv hn tg qn qu rd qd T2 K2 := by
  have t20 : q_t20 k = some () := by unfold q_t20; rw [if_pos hk]
  have g5 : q_up qn 4 (nI (k + 1)) 5 = nI oc := (m_up_n (by decide)).trans q5
  have g3 : q_up qn 4 (nI (k + 1)) 3 = nI nm.length := (m_up_n (by decide)).trans q3
  have hk20 : nI k < (20 : Int32) := nI_lt (b := 20) hk (by decide)
  have h1 : sv[t + 1]? = some (zp_hk nm (q 1)) := h 1 _ rfl
  have eh := zp_hook hT hN (rd := q_up rd 3 (nI (t + 1))) g3 m_up_s (zp_rd h4) h1 (zp_nm hq.2.1)
  rw [zp_uu] at eh
  have eA := zp_addStep (qn := qn) (T2 := T2) (K2 := K2) (x := 12) (by decide) q4 hk
  have eO : zp_lineO q = z_tstO (q 6) (zp_w q) := by unfold zp_lineO; rw [if_neg (by omega)]; rfl
  have eB : zp_bodyT nm q = [(17, 0), zp_hk nm (q 2), (15, 0), (2, nI (q 3))] := by unfold zp_bodyT; rw [e0]; rfl
  have eL : zp_lineT nm q = (9 + q 0, 0) :: zp_hk nm (q 1) :: (zp_bodyT nm q ++ zp_tstT nm q) := rfl
  rw [eB] at eL
  rw [eL] at h
  have eK := zp_take hT (rd := q_up rd 3 (nI (t + 2))) m_up_s (zp_rd h4) (h 2 _ rfl)
  have eH := zp_hook hT hN (rd := q_up rd 3 (nI (t + 3))) g3 m_up_s (zp_rd h4) (h 3 _ rfl) (zp_nm hq.2.2.1)
  have eR := zp_rope hT (rd := q_up rd 3 (nI (t + 4))) m_up_s (zp_rd h4) (h 4 _ rfl) (h 5 _ rfl) hq.2.2.2.1
  rw [zp_uu] at eR eK eH
  have eT : zp_sub sv (t + 6) (zp_tstT nm q ++ [(38, 0)]) := fun i p hp => by
    rw [show t + 6 + i = t + (i + 6) by omega]
    exact h (i + 6) p hp
  have elen : t + (zp_lineT nm q).length = t + 6 + (zp_tstT nm q).length := by
    rw [eL]
    show t + ((zp_tstT nm q).length + 1 + 1 + 1 + 1 + 1 + 1) = _
    omega
  rw [eO] at ho
  rcases zp_tail hT hN hq eT (rd := q_up rd 3 (nI (t + 6))) m_up_s (zp_rd h4) with ⟨z6, s38⟩ | ⟨z6, s19, eTT⟩
  · have eT0 : z_tstO (q 6) (zp_w q) = [] := by rw [z6]; rfl
    have eTl : (zp_tstT nm q).length = 0 := by unfold zp_tstT; rw [z6]; rfl
    rw [eTl] at elen
    refine ⟨q_u2 (q_u2 (q_u2 (zp_T0 T2 k) k 1 (nI (q 1))) k 2 (nI (q 2))) k 3 (nI (q 3)), q_u2 K2 k 0 (some 12), ?_, fun j hj => ?_, ?_⟩
    · rw [eO, eT0, elen]
      unfold f_X7_readStep
      rw [m_e49 (by decide), Option.bind_some, q4, if_pos hk20, eA, Option.bind_some, t20, Option.bind_some, h3, nI_1, eh, Option.bind_some, if_neg (by decide), if_neg (by decide), if_neg (by decide), if_pos rfl, eK, Option.bind_some, eH, Option.bind_some, eR, Option.bind_some, s38, Option.bind_some, m_e49 (by decide), Option.bind_some, if_neg (by decide)]
      have e9 : q_up (q_up qn 4 (nI (k + 1))) 5 (nI (oc + ([] : List (Nat × Int32)).length)) = q_up qn 4 (nI (k + 1)) := m_up_same g5
      rw [e9]
      rfl
    · rw [zp_u2n hj, zp_u2n hj, zp_u2n hj, zp_u2n hj]; exact ⟨zp_T0n hj, rfl⟩
    · rw [eO, eT0]
      refine ⟨3, q 1, q 2, q 3, q 6, q 8, ⟨congrArg nI e0, by omega⟩, ⟨rfl, hq.2.1⟩, ⟨rfl, hq.2.2.1⟩, ⟨rfl, hq.2.2.2.1⟩, ⟨rfl, hq.2.2.2.2.2.2.1⟩, ⟨rfl, hq.2.2.2.2.2.2.2.2⟩, q_u2_s _ _ _ _, ?_, fun e => ?_, fun e => ?_, fun e => by omega, 0, ?_, ?_, ?_⟩
      · simp [q_u2_of]
      · simp [q_u2_of]
      · simp [q_u2_of]
      · simp [q_u2_of, zp_T0]; rfl
      · rw [z6]; simp [q_u2_of, zp_T0, z_tstO]; rfl
      · rw [z6]; exact ⟨Nat.zero_le _, fun j p hp => by cases hp⟩
  · have eT2 := eTT (q_up qn 4 (nI (k + 1))) qu qd oc g3 g5 ho
    rw [zp_uu, zp_uu] at eT2
    refine ⟨q_u2 (q_u2 (q_u2 (q_u2 (q_u2 (zp_T0 T2 k) k 1 (nI (q 1))) k 2 (nI (q 2))) k 3 (nI (q 3))) k 6 (nI oc)) k 7 (nI (oc + (z_tstO (q 6) (zp_w q)).length)), q_u2 K2 k 0 (some 12), ?_, fun j hj => ?_, ?_⟩
    · rw [eO, elen]
      unfold f_X7_readStep
      rw [m_e49 (by decide), Option.bind_some, q4, if_pos hk20, eA, Option.bind_some, t20, Option.bind_some, h3, nI_1, eh, Option.bind_some, if_neg (by decide), if_neg (by decide), if_neg (by decide), if_pos rfl, eK, Option.bind_some, eH, Option.bind_some, eR, Option.bind_some, s19, Option.bind_some, m_e49 (by decide), Option.bind_some, if_pos rfl]
      dsimp only
      rw [show q_up rd 3 (nI (t + 6)) 3 = nI (t + 6) from m_up_s, nI_1, zp_uu, eT2, Option.bind_some]
      dsimp only
      rw [g5, m_up_s]
    · rw [zp_u2n hj, zp_u2n hj, zp_u2n hj, zp_u2n hj, zp_u2n hj, zp_u2n hj]; exact ⟨zp_T0n hj, rfl⟩
    · rw [eO]
      refine ⟨3, q 1, q 2, q 3, q 6, q 8, ⟨congrArg nI e0, by omega⟩, ⟨rfl, hq.2.1⟩, ⟨rfl, hq.2.2.1⟩, ⟨rfl, hq.2.2.2.1⟩, ⟨rfl, hq.2.2.2.2.2.2.1⟩, ⟨rfl, hq.2.2.2.2.2.2.2.2⟩, q_u2_s _ _ _ _, ?_, fun e => ?_, fun e => ?_, fun e => by omega, oc, ?_, ?_, ?_⟩
      · simp [q_u2_of]
      · simp [q_u2_of]
      · simp [q_u2_of]
      · simp [q_u2_of]
      · simp [q_u2_of]
      · have := zp_Ord_of (os := []) (os1 := z_tstO (q 6) (zp_w q)) (os2 := []) (oc := oc) (qu := qu) (qd := qd) rfl
        rw [List.append_nil] at this
        exact this
set_option maxHeartbeats 2000000 in
theorem zp_step_drop (hT : zp_T tk tg tv sv) (hN : zp_H hn nm) (hq : zp_Ln nm.length q) (e0 : q 0 = 4) (h : zp_sub sv t (zp_lineT nm q ++ [(38, 0)])) (q3 : qn 3 = nI nm.length) (q4 : qn 4 = nI k) (hk : k < 20) (q5 : qn 5 = nI oc) (ho : oc + (zp_lineO q).length ≤ 400) (h3 : rd 3 = nI t) (h4 : rd 4 = 0) :
    zp_SR q nm t k oc 13 tk tv hn tg qn qu rd qd T2 K2 := by
  have t20 : q_t20 k = some () := by unfold q_t20; rw [if_pos hk]
  have g5 : q_up qn 4 (nI (k + 1)) 5 = nI oc := (m_up_n (by decide)).trans q5
  have g3 : q_up qn 4 (nI (k + 1)) 3 = nI nm.length := (m_up_n (by decide)).trans q3
  have hk20 : nI k < (20 : Int32) := nI_lt (b := 20) hk (by decide)
  have h1 : sv[t + 1]? = some (zp_hk nm (q 1)) := h 1 _ rfl
  have eh := zp_hook hT hN (rd := q_up rd 3 (nI (t + 1))) g3 m_up_s (zp_rd h4) h1 (zp_nm hq.2.1)
  rw [zp_uu] at eh
  have eA := zp_addStep (qn := qn) (T2 := T2) (K2 := K2) (x := 13) (by decide) q4 hk
  have eO : zp_lineO q = z_tstO (q 6) (zp_w q) := by unfold zp_lineO; rw [if_neg (by omega)]; rfl
  have eB : zp_bodyT nm q = [] := by unfold zp_bodyT; rw [e0]; rfl
  have eL : zp_lineT nm q = (9 + q 0, 0) :: zp_hk nm (q 1) :: (zp_bodyT nm q ++ zp_tstT nm q) := rfl
  rw [eB] at eL
  rw [eL] at h
  have eT : zp_sub sv (t + 2) (zp_tstT nm q ++ [(38, 0)]) := fun i p hp => by
    rw [show t + 2 + i = t + (i + 2) by omega]
    exact h (i + 2) p hp
  have elen : t + (zp_lineT nm q).length = t + 2 + (zp_tstT nm q).length := by
    rw [eL]
    show t + ((zp_tstT nm q).length + 1 + 1) = _
    omega
  rw [eO] at ho
  rcases zp_tail hT hN hq eT (rd := q_up rd 3 (nI (t + 2))) m_up_s (zp_rd h4) with ⟨z6, s38⟩ | ⟨z6, s19, eTT⟩
  · have eT0 : z_tstO (q 6) (zp_w q) = [] := by rw [z6]; rfl
    have eTl : (zp_tstT nm q).length = 0 := by unfold zp_tstT; rw [z6]; rfl
    rw [eTl] at elen
    refine ⟨q_u2 (zp_T0 T2 k) k 1 (nI (q 1)), q_u2 K2 k 0 (some 13), ?_, fun j hj => ?_, ?_⟩
    · rw [eO, eT0, elen]
      unfold f_X7_readStep
      rw [m_e49 (by decide), Option.bind_some, q4, if_pos hk20, eA, Option.bind_some, t20, Option.bind_some, h3, nI_1, eh, Option.bind_some, if_neg (by decide), if_neg (by decide), if_neg (by decide), if_neg (by decide), s38, Option.bind_some, m_e49 (by decide), Option.bind_some, if_neg (by decide)]
      have e9 : q_up (q_up qn 4 (nI (k + 1))) 5 (nI (oc + ([] : List (Nat × Int32)).length)) = q_up qn 4 (nI (k + 1)) := m_up_same g5
      rw [e9]
      rfl
    · rw [zp_u2n hj, zp_u2n hj]; exact ⟨zp_T0n hj, rfl⟩
    · rw [eO, eT0]
      refine ⟨4, q 1, q 2, q 3, q 6, q 8, ⟨congrArg nI e0, by omega⟩, ⟨rfl, hq.2.1⟩, ⟨rfl, hq.2.2.1⟩, ⟨rfl, hq.2.2.2.1⟩, ⟨rfl, hq.2.2.2.2.2.2.1⟩, ⟨rfl, hq.2.2.2.2.2.2.2.2⟩, q_u2_s _ _ _ _, ?_, fun e => ?_, fun e => ?_, fun e => by omega, 0, ?_, ?_, ?_⟩
      · simp [q_u2_of]
      · omega
      · omega
      · simp [q_u2_of, zp_T0]; rfl
      · rw [z6]; simp [q_u2_of, zp_T0, z_tstO]; rfl
      · rw [z6]; exact ⟨Nat.zero_le _, fun j p hp => by cases hp⟩
  · have eT2 := eTT (q_up qn 4 (nI (k + 1))) qu qd oc g3 g5 ho
    rw [zp_uu, zp_uu] at eT2
    refine ⟨q_u2 (q_u2 (q_u2 (zp_T0 T2 k) k 1 (nI (q 1))) k 6 (nI oc)) k 7 (nI (oc + (z_tstO (q 6) (zp_w q)).length)), q_u2 K2 k 0 (some 13), ?_, fun j hj => ?_, ?_⟩
    · rw [eO, elen]
      unfold f_X7_readStep
      rw [m_e49 (by decide), Option.bind_some, q4, if_pos hk20, eA, Option.bind_some, t20, Option.bind_some, h3, nI_1, eh, Option.bind_some, if_neg (by decide), if_neg (by decide), if_neg (by decide), if_neg (by decide), s19, Option.bind_some, m_e49 (by decide), Option.bind_some, if_pos rfl]
      dsimp only
      rw [show q_up rd 3 (nI (t + 2)) 3 = nI (t + 2) from m_up_s, nI_1, zp_uu, eT2, Option.bind_some]
      dsimp only
      rw [g5, m_up_s]
    · rw [zp_u2n hj, zp_u2n hj, zp_u2n hj, zp_u2n hj]; exact ⟨zp_T0n hj, rfl⟩
    · rw [eO]
      refine ⟨4, q 1, q 2, q 3, q 6, q 8, ⟨congrArg nI e0, by omega⟩, ⟨rfl, hq.2.1⟩, ⟨rfl, hq.2.2.1⟩, ⟨rfl, hq.2.2.2.1⟩, ⟨rfl, hq.2.2.2.2.2.2.1⟩, ⟨rfl, hq.2.2.2.2.2.2.2.2⟩, q_u2_s _ _ _ _, ?_, fun e => ?_, fun e => ?_, fun e => by omega, oc, ?_, ?_, ?_⟩
      · simp [q_u2_of]
      · omega
      · omega
      · simp [q_u2_of]
      · simp [q_u2_of]
      · have := zp_Ord_of (os := []) (os1 := z_tstO (q 6) (zp_w q)) (os2 := []) (oc := oc) (qu := qu) (qd := qd) rfl
        rw [List.append_nil] at this
        exact this
theorem zp_step (hT : zp_T tk tg tv sv) (hN : zp_H hn nm) (hq : zp_Ln nm.length q) (h : zp_sub sv t (zp_lineT nm q ++ [(38, 0)])) (q3 : qn 3 = nI nm.length) (q4 : qn 4 = nI k) (hk : k < 20) (q5 : qn 5 = nI oc) (ho : oc + (zp_lineO q).length ≤ 400) (h3 : rd 3 = nI t) (h4 : rd 4 = 0) :
    zp_SR q nm t k oc (9 + q 0) tk tv hn tg qn qu rd qd T2 K2 := by
  have hc : q 0 = 0 ∨ q 0 = 1 ∨ q 0 = 2 ∨ q 0 = 3 ∨ q 0 = 4 := by have := hq.1; omega
  rcases hc with e | e | e | e | e
  · rw [show 9 + q 0 = 9 by omega]; exact zp_step_make hT hN hq e h q3 q4 hk q5 ho h3 h4
  · rw [show 9 + q 0 = 10 by omega]; exact zp_step_tie hT hN hq e h q3 q4 hk q5 ho h3 h4
  · rw [show 9 + q 0 = 11 by omega]; exact zp_step_untie hT hN hq e h q3 q4 hk q5 ho h3 h4
  · rw [show 9 + q 0 = 12 by omega]; exact zp_step_follow hT hN hq e h q3 q4 hk q5 ho h3 h4
  · rw [show 9 + q 0 = 13 by omega]; exact zp_step_drop hT hN hq e h q3 q4 hk q5 ho h3 h4
end ZSTEPL
