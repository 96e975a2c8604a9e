/-! MATH: the questions of the face, on both sides -/
/-- the classes of exceptions that a call may throw, in the order of the law; b, th: the reference's answer and what it threw -/
def m_an (es : List String) (r : Int32 ⊕ String) (b th : Int32) : Prop := match r with
  | .inl v => th = 0 ∧ v = b
  | .inr e => ∃ i, es[i]? = some e ∧ th = nI (i + 1)
def m_anB (es : List String) (r : Bool ⊕ String) (b : Bool) (th : Int32) : Prop := match r with
  | .inl v => th = 0 ∧ v = b
  | .inr e => ∃ i, es[i]? = some e ∧ th = nI (i + 1)
/-- of the reference's numbers only what was thrown, and what was come to, has changed -/
def m_mdk (md md' : m_Rr) : Prop := ∀ j, j ≠ 0 → j ≠ 16 → md' j = md j
theorem m_mdk_0 {md : m_Rr} {x : Int32} : m_mdk md (q_up md 0 x) := fun j h0 _ => m_up_n h0
theorem m_mdk_00 {md : m_Rr} {x y : Int32} : m_mdk md (q_up (q_up md 0 x) 0 y) := fun j h0 _ => (m_up_n h0).trans (m_up_n h0)
theorem m_mdk_r {md : m_Rr} : m_mdk md md := fun _ _ _ => rfl
abbrev m_sIO : String := "java/lang/IndexOutOfBoundsException"
abbrev m_sIS : String := "java/lang/IllegalStateException"
abbrev m_sIA : String := "java/lang/IllegalArgumentException"

theorem m_G_of {H m hf : Nat} {h : List Nat} {bn ly pl sz ag rc ld lo lr hk rw st sh sw sp ss sr sa sd : m_Rr} (hR : m_R H m hf h bn ly pl sz ag rc ld lo lr hk rw st sh sw sp ss sr sa sd) : m_G (fun c => c < 128 ∧ ly c ≠ 0) rc ld sr sd := by
  obtain ⟨⟨hE, hZ⟩, ⟨hg1, hg2⟩, -⟩ := hR
  intro b hb
  obtain ⟨k, k1, k2, k3⟩ := hg1 b hb.1
  exact ⟨hb.1, k, k1, k2, by rw [(hE b hb.1).2.2.2.2]; exact k2, fun r hr => ⟨(k3 r hr).1, (k3 r hr).2.imp id (fun ⟨c, x, y, z⟩ => ⟨c, ⟨x, z hb.2⟩, y⟩)⟩⟩
theorem m_b7_of {H m hf : Nat} {h : List Nat} {bn ly pl sz ag rc ld lo lr hk rw st sh sw sp ss sr sa sd : m_Rr} (hR : m_R H m hf h bn ly pl sz ag rc ld lo lr hk rw st sh sw sp ss sr sa sd) : bn 7 = m_sm (fun i => sw i = 1) (fun _ => 1) 136 := by
  obtain ⟨⟨hE, hZ⟩, -, -, ⟨hnd, hmem, hrw, hb7, -⟩, -⟩ := hR
  rw [m_sm_half hnd (fun b => by
    rw [hmem]
    constructor
    · exact fun x => ⟨x.1, (hE b x.1).1.trans x.2⟩
    · exact fun x => ⟨x.1, (hE b x.1).1.symm.trans x.2⟩) hZ, m_tot_1, hb7]
theorem m_f_useless {H m hf : Nat} {h : List Nat} {pn mp bn ly pl sz ag rc ld lo lr hk rw st sh sw sp ss sr sa sd : m_Rr} (hP : m_Pl H m hf pn mp) (hR : m_R H m hf h bn ly pl sz ag rc ld lo lr hk rw st sh sw sp ss sr sa sd) (li nr nd md mq mi : m_Rr) : ∃ x li' nr' nd' md' mq' mi', f_X2_uselessCount bn rc ld lo li nr nd hk = some (x, li', nr', nd') ∧ f_X14_useless md mp mq mi sh sw sr sd = some (x, md', mq', mi') ∧ ∀ j, j ≠ 16 → md' j = md j := by
  obtain ⟨-, -, -, -, -, -, p6⟩ := hP
  obtain ⟨x, l, li', nr', nd', md', mq', mi', a1, a2, -, -, -, -, a7, -⟩ := m_useless (m_G_of hR) hR.2.2.2.2.2.1 p6 (m_b7_of hR) hR.2.2.2.2.1.2.2 li nr nd md mq mi
  exact ⟨x, li', nr', nd', md', mq', mi', a1, a2, a7⟩
theorem m_q_useless {H m hf : Nat} {h : List Nat} {pn mp bn ly pl sz ag rc ld lo lr hk rw st sh sw sp ss sr sa sd : m_Rr} (hP : m_Pl H m hf pn mp) (hR : m_R H m hf h bn ly pl sz ag rc ld lo lr hk rw st sh sw sp ss sr sa sd) (li nr nd md mq mi : m_Rr) : ∃ x li' nr' nd' md' mq' mi', f_X12_uselessBales bn rc ld lo li nr nd hk = some (x, li', nr', nd') ∧ f_X15_uselessBales md mp mq mi sh sw sr sd = some (x, md', mq', mi') ∧ m_mdk md md' := by
  obtain ⟨x, li', nr', nd', md', mq', mi', a1, a2, a3⟩ := m_f_useless hP hR li nr nd md mq mi
  refine ⟨x, li', nr', nd', q_up md' 0 0, mq', mi', ?_, ?_, fun j h0 h16 => (m_up_n h0).trans (a3 j h16)⟩
  · unfold f_X12_uselessBales; rw [a1]; rfl
  · unfold f_X15_uselessBales; rw [a2]; rfl

theorem m_q_hooks {H m hf : Nat} {h : List Nat} {pn mp bn ly pl sz ag rc ld lo lr hk rw st sh sw sp ss sr sa sd : m_Rr} (hP : m_Pl H m hf pn mp) (hR : m_R H m hf h bn ly pl sz ag rc ld lo lr hk rw st sh sw sp ss sr sa sd) (md : m_Rr) : ∃ x, f_X12_hooks pn = some x ∧ f_X15_hooks md mp = some (x, q_up md 0 0) := by
  obtain ⟨p0, p1, p2, p3, p4, p5, p6⟩ := hP
  obtain ⟨-, -, -, -, -, -, ⟨c1, c2, c3, c4, c5, c6⟩⟩ := hR
  exact ⟨_, congrArg some (p5.trans p6.symm), rfl⟩

theorem m_q_placesOfHalf {H m hf : Nat} {h : List Nat} {pn mp bn ly pl sz ag rc ld lo lr hk rw st sh sw sp ss sr sa sd : m_Rr} (hP : m_Pl H m hf pn mp) (hR : m_R H m hf h bn ly pl sz ag rc ld lo lr hk rw st sh sw sp ss sr sa sd) (md : m_Rr) : ∃ x, f_X12_placesOfHalf pn = some x ∧ f_X15_placesOfHalf md mp = some (x, q_up md 0 0) := by
  obtain ⟨p0, p1, p2, p3, p4, p5, p6⟩ := hP
  obtain ⟨-, -, -, -, -, -, ⟨c1, c2, c3, c4, c5, c6⟩⟩ := hR
  exact ⟨_, congrArg some (p0.trans p1.symm), rfl⟩

theorem m_q_stepsGoneBy {H m hf : Nat} {h : List Nat} {pn mp bn ly pl sz ag rc ld lo lr hk rw st sh sw sp ss sr sa sd : m_Rr} (hP : m_Pl H m hf pn mp) (hR : m_R H m hf h bn ly pl sz ag rc ld lo lr hk rw st sh sw sp ss sr sa sd) (md : m_Rr) : ∃ x, f_X12_stepsGoneBy bn = some x ∧ f_X15_stepsGoneBy md st = some (x, q_up md 0 0) := by
  obtain ⟨p0, p1, p2, p3, p4, p5, p6⟩ := hP
  obtain ⟨-, -, -, -, -, -, ⟨c1, c2, c3, c4, c5, c6⟩⟩ := hR
  exact ⟨_, congrArg some (c2), rfl⟩

theorem m_q_stepsRefused {H m hf : Nat} {h : List Nat} {pn mp bn ly pl sz ag rc ld lo lr hk rw st sh sw sp ss sr sa sd : m_Rr} (hP : m_Pl H m hf pn mp) (hR : m_R H m hf h bn ly pl sz ag rc ld lo lr hk rw st sh sw sp ss sr sa sd) (md : m_Rr) : ∃ x, f_X12_stepsRefused bn = some x ∧ f_X15_stepsRefused md st = some (x, q_up md 0 0) := by
  obtain ⟨p0, p1, p2, p3, p4, p5, p6⟩ := hP
  obtain ⟨-, -, -, -, -, -, ⟨c1, c2, c3, c4, c5, c6⟩⟩ := hR
  exact ⟨_, congrArg some (c3), rfl⟩

theorem m_q_workingHalf {H m hf : Nat} {h : List Nat} {pn mp bn ly pl sz ag rc ld lo lr hk rw st sh sw sp ss sr sa sd : m_Rr} (hP : m_Pl H m hf pn mp) (hR : m_R H m hf h bn ly pl sz ag rc ld lo lr hk rw st sh sw sp ss sr sa sd) (md : m_Rr) : ∃ x, f_X12_workingHalf bn = some x ∧ f_X15_workingHalf md st = some (x, q_up md 0 0) := by
  obtain ⟨p0, p1, p2, p3, p4, p5, p6⟩ := hP
  obtain ⟨-, -, -, -, -, -, ⟨c1, c2, c3, c4, c5, c6⟩⟩ := hR
  exact ⟨_, congrArg some (c1), rfl⟩

theorem m_q_copyings {H m hf : Nat} {h : List Nat} {pn mp bn ly pl sz ag rc ld lo lr hk rw st sh sw sp ss sr sa sd : m_Rr} (hP : m_Pl H m hf pn mp) (hR : m_R H m hf h bn ly pl sz ag rc ld lo lr hk rw st sh sw sp ss sr sa sd) (md : m_Rr) : ∃ x, f_X12_copyings bn = some x ∧ f_X15_copyings md st = some (x, q_up md 0 0) := by
  obtain ⟨p0, p1, p2, p3, p4, p5, p6⟩ := hP
  obtain ⟨-, -, -, -, -, -, ⟨c1, c2, c3, c4, c5, c6⟩⟩ := hR
  exact ⟨_, congrArg some (c4), rfl⟩

theorem m_q_balesPromoted {H m hf : Nat} {h : List Nat} {pn mp bn ly pl sz ag rc ld lo lr hk rw st sh sw sp ss sr sa sd : m_Rr} (hP : m_Pl H m hf pn mp) (hR : m_R H m hf h bn ly pl sz ag rc ld lo lr hk rw st sh sw sp ss sr sa sd) (md : m_Rr) : ∃ x, f_X12_balesPromoted bn = some x ∧ f_X15_balesPromoted md st = some (x, q_up md 0 0) := by
  obtain ⟨p0, p1, p2, p3, p4, p5, p6⟩ := hP
  obtain ⟨-, -, -, -, -, -, ⟨c1, c2, c3, c4, c5, c6⟩⟩ := hR
  exact ⟨_, congrArg some (c5), rfl⟩

theorem m_q_balesGone {H m hf : Nat} {h : List Nat} {pn mp bn ly pl sz ag rc ld lo lr hk rw st sh sw sp ss sr sa sd : m_Rr} (hP : m_Pl H m hf pn mp) (hR : m_R H m hf h bn ly pl sz ag rc ld lo lr hk rw st sh sw sp ss sr sa sd) (md : m_Rr) : ∃ x, f_X12_balesGone bn = some x ∧ f_X15_balesGone md st = some (x, q_up md 0 0) := by
  obtain ⟨p0, p1, p2, p3, p4, p5, p6⟩ := hP
  obtain ⟨-, -, -, -, -, -, ⟨c1, c2, c3, c4, c5, c6⟩⟩ := hR
  exact ⟨_, congrArg some (c6), rfl⟩

theorem m_q_usedPlaces {H m hf : Nat} {h : List Nat} {bn ly pl sz ag rc ld lo lr hk rw st sh sw sp ss sr sa sd : m_Rr} (hR : m_R H m hf h bn ly pl sz ag rc ld lo lr hk rw st sh sw sp ss sr sa sd) (md : m_Rr) : ∃ x, f_X12_usedPlaces bn = some x ∧ f_X15_usedPlaces md sw ss = some (x, q_up md 0 0) := by
  refine ⟨bn 8, rfl, ?_⟩
  unfold f_X15_usedPlaces; rw [(m_usedH hR).1]; rfl
theorem m_q_usedInLoft {H m hf : Nat} {h : List Nat} {bn ly pl sz ag rc ld lo lr hk rw st sh sw sp ss sr sa sd : m_Rr} (hR : m_R H m hf h bn ly pl sz ag rc ld lo lr hk rw st sh sw sp ss sr sa sd) (md : m_Rr) : ∃ x, f_X12_usedInLoft lo lr = some x ∧ f_X15_usedInLoft md sw ss = some (x, q_up md 0 0) := by
  obtain ⟨x, x1, x2⟩ := m_usedLoft hR.2.2.2.2.1.1 hR.2.2.2.2.1.2.1
  refine ⟨x, ?_, ?_⟩
  · unfold f_X12_usedInLoft; rw [x1]; rfl
  · unfold f_X15_usedInLoft; rw [x2]; rfl
theorem m_q_longestGap {H m hf : Nat} {h : List Nat} {pn mp bn ly pl sz ag rc ld lo lr hk rw st sh sw sp ss sr sa sd : m_Rr} (hP : m_Pl H m hf pn mp) (hR : m_R H m hf h bn ly pl sz ag rc ld lo lr hk rw st sh sw sp ss sr sa sd) (md : m_Rr) : ∃ x, f_X12_longestGap lo lr = some x ∧ f_X15_longestGap md mp sw sp ss = some (x, q_up md 0 0) := by
  obtain ⟨p0, p1, p2, p3, p4, p5, p6⟩ := hP
  obtain ⟨x, x1, x2⟩ := m_longest hR.2.2.2.2.1.1 p3 hR.2.2.2.2.1.2.1
  refine ⟨x, ?_, ?_⟩
  · unfold f_X12_longestGap; rw [x1]; rfl
  · unfold f_X15_longestGap; rw [x2]; rfl
theorem m_q_bales {H m hf : Nat} {h : List Nat} {bn ly pl sz ag rc ld lo lr hk rw st sh sw sp ss sr sa sd : m_Rr} (hR : m_R H m hf h bn ly pl sz ag rc ld lo lr hk rw st sh sw sp ss sr sa sd) (md : m_Rr) : ∃ x, f_X12_bales bn lo = some x ∧ f_X15_bales md sw = some (x, q_up md 0 0) := by
  refine ⟨bn 7 + lo 2, rfl, ?_⟩
  unfold f_X15_bales
  rw [m_bales_, ← m_b7_of hR, ← hR.2.2.2.2.1.2.2]; rfl
theorem m_q_balesInLoft {H m hf : Nat} {h : List Nat} {bn ly pl sz ag rc ld lo lr hk rw st sh sw sp ss sr sa sd : m_Rr} (hR : m_R H m hf h bn ly pl sz ag rc ld lo lr hk rw st sh sw sp ss sr sa sd) (md : m_Rr) : ∃ x, f_X12_balesInLoft lo = some x ∧ f_X15_balesInLoft md sw = some (x, q_up md 0 0) := by
  refine ⟨lo 2, rfl, ?_⟩
  unfold f_X15_balesInLoft
  rw [m_bales, ← hR.2.2.2.2.1.2.2]; rfl
/-- a number is that of a hook, or not: on both sides -/
theorem m_hookQ {H : Nat} {pn mp : m_Rr} (hH : H ≤ 6) (p5 : pn 3 = nI H) (p6 : mp 0 = nI H) (x : Int32) : (f_X12_checkHook pn x = some (.inr m_sIO) ∧ f_X15_isHook mp x = some false) ∨ ∃ i, i < H ∧ x = nI i ∧ f_X12_checkHook pn x = some (.inl ()) ∧ f_X15_isHook mp x = some true := by
  by_cases hx : x < 0
  · refine Or.inl ⟨?_, ?_⟩
    · unfold f_X12_checkHook; rw [if_pos hx]
    · unfold f_X15_isHook; rw [m_isInN hx]; rfl
  · obtain ⟨i, i1, rfl⟩ := nI_of hx
    by_cases hi : i < H
    · refine Or.inr ⟨i, hi, rfl, ?_, ?_⟩
      · unfold f_X12_checkHook; rw [if_neg hx, p5, if_pos (nI_lt hi (by omega))]
      · unfold f_X15_isHook; rw [p6, m_isInR i1 (by omega), Option.bind_some]; simp [hi]
    · refine Or.inl ⟨?_, ?_⟩
      · unfold f_X12_checkHook; rw [if_neg hx, p5, if_neg (m_nlt (by omega) i1)]
      · unfold f_X15_isHook; rw [p6, m_isInR i1 (by omega), Option.bind_some]; simp [hi]
theorem m_baleQ {H m hf : Nat} {h : List Nat} {pn mp bn ly pl sz ag rc ld lo lr hk rw st sh sw sp ss sr sa sd : m_Rr} (hP : m_Pl H m hf pn mp) (hR : m_R H m hf h bn ly pl sz ag rc ld lo lr hk rw st sh sw sp ss sr sa sd) (md : m_Rr) (x : Int32) : (f_X12_heldBale pn hk x = some (.inr m_sIO) ∧ f_X15_bale md mp sh x = some (-1, q_up md 0 1)) ∨ (f_X12_heldBale pn hk x = some (.inr m_sIS) ∧ f_X15_bale md mp sh x = some (-1, q_up md 0 2)) ∨ ∃ i c, i < H ∧ i < 6 ∧ x = nI i ∧ c < 128 ∧ ly c ≠ 0 ∧ hk i = nI c ∧ sh i = nI c ∧ f_X12_heldBale pn hk x = some (.inl (nI c)) ∧ f_X15_bale md mp sh x = some (nI c, q_up md 0 0) := by
  obtain ⟨p0, p1, p2, p3, p4, p5, p6⟩ := hP
  rcases m_hookQ hR.2.2.2.2.2.1.1 p5 p6 x with ⟨a1, a2⟩ | ⟨i, iH, rfl, a1, a2⟩
  · refine Or.inl ⟨?_, ?_⟩
    · unfold f_X12_heldBale; rw [a1]; rfl
    · unfold f_X15_bale
      rw [a2, Option.bind_some, if_neg (show ¬ ¬ q_bz false = 0 from fun h => h rfl), if_pos (by rw [m_up_s]; decide)]
  · obtain ⟨i6, i1, i2⟩ := m_hkv hR iH
    have eC : f_X12_heldBale pn hk (nI i) = if ¬ hk i = -1 then some (.inl (hk i)) else some (.inr m_sIS) := by
      unfold f_X12_heldBale
      rw [a1, Option.bind_some]
      show ((f_X2_held hk (nI i)).bind _) = _
      rw [m_held i6, Option.bind_some]
    have eR : f_X15_bale md mp sh (nI i) = if ¬ sh i = -1 then some (sh i, q_up md 0 0) else some (-1, q_up md 0 2) := by
      unfold f_X15_bale
      rw [a2, Option.bind_some, if_pos (show ¬ q_bz true = 0 by decide), q_ix_nI i6 (by decide), Option.bind_some, if_neg (show ¬ ¬ q_up md 0 0 0 = 0 from fun h => h m_up_s), if_pos (show ¬ q_up md 0 2 0 = 0 by rw [m_up_s]; decide)]
      rfl
    rcases i2 with hm | ⟨c, hc, hc0, hm⟩
    · refine Or.inr (Or.inl ⟨?_, ?_⟩)
      · rw [eC, if_neg (fun h => h hm)]
      · rw [eR, ← i1, if_neg (fun h => h hm)]
    · have hn : ¬ nI c = -1 := m_nI_m1 (by omega)
      refine Or.inr (Or.inr ⟨i, c, iH, i6, rfl, hc, hc0, hm, i1.symm.trans hm, ?_, ?_⟩)
      · rw [eC, hm, if_pos hn]
      · rw [eR, ← i1, hm, if_pos hn]

theorem m_q_placeOf {H m hf : Nat} {h : List Nat} {pn mp bn ly pl sz ag rc ld lo lr hk rw st sh sw sp ss sr sa sd : m_Rr} (hP : m_Pl H m hf pn mp) (hR : m_R H m hf h bn ly pl sz ag rc ld lo lr hk rw st sh sw sp ss sr sa sd) (md : m_Rr) (x : Int32) : ∃ r b md', f_X12_placeOf pn pl hk x = some r ∧ f_X15_placeOf md mp sh sp x = some (b, md') ∧ m_an [m_sIO, m_sIS] r b (md' 0) ∧ m_mdk md md' := by
  rcases m_baleQ hP hR md x with ⟨a1, a2⟩ | ⟨a1, a2⟩ | ⟨i, c, iH, i6, rfl, hc, -, -, -, a1, a2⟩
  · refine ⟨.inr m_sIO, 0, q_up md 0 1, ?_, ?_, ⟨0, rfl, by rw [m_up_s]; rfl⟩, m_mdk_0⟩
    · unfold f_X12_placeOf; rw [a1]; rfl
    · unfold f_X15_placeOf f_X15_of; rw [a2]; rfl
  · refine ⟨.inr m_sIS, 0, q_up md 0 2, ?_, ?_, ⟨1, rfl, by rw [m_up_s]; rfl⟩, m_mdk_0⟩
    · unfold f_X12_placeOf; rw [a1]; rfl
    · unfold f_X15_placeOf f_X15_of; rw [a2]; rfl
  · refine ⟨.inl (pl c), sp c, q_up md 0 0, ?_, ?_, ⟨m_up_s, (hR.1.1 c hc).2.1.symm⟩, m_mdk_0⟩
    · unfold f_X12_placeOf
      rw [a1, Option.bind_some]
      show (f_X1_place pl (nI c)).bind _ = _
      rw [m_place hc]; rfl
    · unfold f_X15_placeOf f_X15_of
      rw [a2, Option.bind_some, if_pos (show ¬ nI c = -1 from m_nI_m1 (by omega)), q_ix_nI (show c < 136 by omega) (by decide)]; rfl

theorem m_q_sizeOf {H m hf : Nat} {h : List Nat} {pn mp bn ly pl sz ag rc ld lo lr hk rw st sh sw sp ss sr sa sd : m_Rr} (hP : m_Pl H m hf pn mp) (hR : m_R H m hf h bn ly pl sz ag rc ld lo lr hk rw st sh sw sp ss sr sa sd) (md : m_Rr) (x : Int32) : ∃ r b md', f_X12_sizeOf pn sz hk x = some r ∧ f_X15_sizeOf md mp sh ss x = some (b, md') ∧ m_an [m_sIO, m_sIS] r b (md' 0) ∧ m_mdk md md' := by
  rcases m_baleQ hP hR md x with ⟨a1, a2⟩ | ⟨a1, a2⟩ | ⟨i, c, iH, i6, rfl, hc, -, -, -, a1, a2⟩
  · refine ⟨.inr m_sIO, 0, q_up md 0 1, ?_, ?_, ⟨0, rfl, by rw [m_up_s]; rfl⟩, m_mdk_0⟩
    · unfold f_X12_sizeOf; rw [a1]; rfl
    · unfold f_X15_sizeOf f_X15_of__2; rw [a2]; rfl
  · refine ⟨.inr m_sIS, 0, q_up md 0 2, ?_, ?_, ⟨1, rfl, by rw [m_up_s]; rfl⟩, m_mdk_0⟩
    · unfold f_X12_sizeOf; rw [a1]; rfl
    · unfold f_X15_sizeOf f_X15_of__2; rw [a2]; rfl
  · refine ⟨.inl (sz c), ss c, q_up md 0 0, ?_, ?_, ⟨m_up_s, (hR.1.1 c hc).2.2.1.symm⟩, m_mdk_0⟩
    · unfold f_X12_sizeOf
      rw [a1, Option.bind_some]
      show (f_X1_size sz (nI c)).bind _ = _
      rw [m_size hc]; rfl
    · unfold f_X15_sizeOf f_X15_of__2
      rw [a2, Option.bind_some, if_pos (show ¬ nI c = -1 from m_nI_m1 (by omega)), q_ix_nI (show c < 136 by omega) (by decide)]; rfl

theorem m_q_ropesOf {H m hf : Nat} {h : List Nat} {pn mp bn ly pl sz ag rc ld lo lr hk rw st sh sw sp ss sr sa sd : m_Rr} (hP : m_Pl H m hf pn mp) (hR : m_R H m hf h bn ly pl sz ag rc ld lo lr hk rw st sh sw sp ss sr sa sd) (md : m_Rr) (x : Int32) : ∃ r b md', f_X12_ropesOf pn rc hk x = some r ∧ f_X15_ropesOf md mp sh sr x = some (b, md') ∧ m_an [m_sIO, m_sIS] r b (md' 0) ∧ m_mdk md md' := by
  rcases m_baleQ hP hR md x with ⟨a1, a2⟩ | ⟨a1, a2⟩ | ⟨i, c, iH, i6, rfl, hc, -, -, -, a1, a2⟩
  · refine ⟨.inr m_sIO, 0, q_up md 0 1, ?_, ?_, ⟨0, rfl, by rw [m_up_s]; rfl⟩, m_mdk_0⟩
    · unfold f_X12_ropesOf; rw [a1]; rfl
    · unfold f_X15_ropesOf f_X15_of__3; rw [a2]; rfl
  · refine ⟨.inr m_sIS, 0, q_up md 0 2, ?_, ?_, ⟨1, rfl, by rw [m_up_s]; rfl⟩, m_mdk_0⟩
    · unfold f_X12_ropesOf; rw [a1]; rfl
    · unfold f_X15_ropesOf f_X15_of__3; rw [a2]; rfl
  · refine ⟨.inl (rc c), sr c, q_up md 0 0, ?_, ?_, ⟨m_up_s, (hR.1.1 c hc).2.2.2.2.symm⟩, m_mdk_0⟩
    · unfold f_X12_ropesOf
      rw [a1, Option.bind_some]
      show (f_X1_ropes rc (nI c)).bind _ = _
      rw [m_ropes hc]; rfl
    · unfold f_X15_ropesOf f_X15_of__3
      rw [a2, Option.bind_some, if_pos (show ¬ nI c = -1 from m_nI_m1 (by omega)), q_ix_nI (show c < 136 by omega) (by decide)]; rfl

theorem m_q_ageOf {H m hf : Nat} {h : List Nat} {pn mp bn ly pl sz ag rc ld lo lr hk rw st sh sw sp ss sr sa sd : m_Rr} (hP : m_Pl H m hf pn mp) (hR : m_R H m hf h bn ly pl sz ag rc ld lo lr hk rw st sh sw sp ss sr sa sd) (md : m_Rr) (x : Int32) : ∃ r b md', f_X12_ageOf pn ag hk x = some r ∧ f_X15_ageOf md mp sh sa x = some (b, md') ∧ m_an [m_sIO, m_sIS] r b (md' 0) ∧ m_mdk md md' := by
  rcases m_baleQ hP hR md x with ⟨a1, a2⟩ | ⟨a1, a2⟩ | ⟨i, c, iH, i6, rfl, hc, -, -, -, a1, a2⟩
  · refine ⟨.inr m_sIO, 0, q_up md 0 1, ?_, ?_, ⟨0, rfl, by rw [m_up_s]; rfl⟩, m_mdk_0⟩
    · unfold f_X12_ageOf; rw [a1]; rfl
    · unfold f_X15_ageOf f_X15_of__4; rw [a2]; rfl
  · refine ⟨.inr m_sIS, 0, q_up md 0 2, ?_, ?_, ⟨1, rfl, by rw [m_up_s]; rfl⟩, m_mdk_0⟩
    · unfold f_X12_ageOf; rw [a1]; rfl
    · unfold f_X15_ageOf f_X15_of__4; rw [a2]; rfl
  · refine ⟨.inl (ag c), sa c, q_up md 0 0, ?_, ?_, ⟨m_up_s, (hR.1.1 c hc).2.2.2.1.symm⟩, m_mdk_0⟩
    · unfold f_X12_ageOf
      rw [a1, Option.bind_some]
      show (f_X1_age ag (nI c)).bind _ = _
      rw [m_age hc]; rfl
    · unfold f_X15_ageOf f_X15_of__4
      rw [a2, Option.bind_some, if_pos (show ¬ nI c = -1 from m_nI_m1 (by omega)), q_ix_nI (show c < 136 by omega) (by decide)]; rfl

theorem m_q_isInLoft {H m hf : Nat} {h : List Nat} {pn mp bn ly pl sz ag rc ld lo lr hk rw st sh sw sp ss sr sa sd : m_Rr} (hP : m_Pl H m hf pn mp) (hR : m_R H m hf h bn ly pl sz ag rc ld lo lr hk rw st sh sw sp ss sr sa sd) (md : m_Rr) (x : Int32) : ∃ r b md', f_X12_isInLoft pn ly hk x = some r ∧ f_X15_isInLoft md mp sh sw x = some (b, md') ∧ m_anB [m_sIO, m_sIS] r b (md' 0) ∧ m_mdk md md' := by
  rcases m_baleQ hP hR md x with ⟨a1, a2⟩ | ⟨a1, a2⟩ | ⟨i, c, iH, i6, rfl, hc, -, -, -, a1, a2⟩
  · refine ⟨.inr m_sIO, false, q_up md 0 1, ?_, ?_, ⟨0, rfl, by rw [m_up_s]; rfl⟩, m_mdk_0⟩
    · unfold f_X12_isInLoft; rw [a1]; rfl
    · unfold f_X15_isInLoft f_X15_of__5; rw [a2]; rfl
  · refine ⟨.inr m_sIS, false, q_up md 0 2, ?_, ?_, ⟨1, rfl, by rw [m_up_s]; rfl⟩, m_mdk_0⟩
    · unfold f_X12_isInLoft; rw [a1]; rfl
    · unfold f_X15_isInLoft f_X15_of__5; rw [a2]; rfl
  · refine ⟨.inl (decide (ly c = 2)), decide (ly c = 2), q_up md 0 0, ?_, ?_, ⟨m_up_s, rfl⟩, m_mdk_0⟩
    · unfold f_X12_isInLoft
      rw [a1, Option.bind_some]
      show (f_X1_liesInLoft ly (nI c)).bind _ = _
      rw [m_loft hc]; rfl
    · unfold f_X15_isInLoft f_X15_of__5
      rw [a2, Option.bind_some, if_pos (show ¬ nI c = -1 from m_nI_m1 (by omega)), q_ix_nI (show c < 136 by omega) (by decide), Option.bind_some, Option.bind_some, (hR.1.1 c hc).1]
      by_cases e : ly c = 2
      · rw [if_neg (fun h => h e)]; simp [e]
      · rw [if_pos e]; simp [e]
theorem m_q_holdsBale {H m hf : Nat} {h : List Nat} {pn mp bn ly pl sz ag rc ld lo lr hk rw st sh sw sp ss sr sa sd : m_Rr} (hP : m_Pl H m hf pn mp) (hR : m_R H m hf h bn ly pl sz ag rc ld lo lr hk rw st sh sw sp ss sr sa sd) (md : m_Rr) (x : Int32) : ∃ r b md', f_X12_holdsBale pn hk x = some r ∧ f_X15_holdsBale md mp sh x = some (b, md') ∧ m_anB [m_sIO] r b (md' 0) ∧ m_mdk md md' := by
  obtain ⟨p0, p1, p2, p3, p4, p5, p6⟩ := hP
  rcases m_hookQ hR.2.2.2.2.2.1.1 p5 p6 x with ⟨a1, a2⟩ | ⟨i, iH, rfl, a1, a2⟩
  · refine ⟨.inr m_sIO, false, q_up (q_up md 0 0) 0 1, ?_, ?_, ⟨0, rfl, by rw [m_up_s]; rfl⟩, m_mdk_00⟩
    · unfold f_X12_holdsBale; rw [a1]; rfl
    · unfold f_X15_holdsBale; rw [a2]; rfl
  · obtain ⟨i6, i1, i2⟩ := m_hkv hR iH
    refine ⟨.inl (decide (¬ hk i = -1)), decide (¬ hk i = -1), q_up md 0 0, ?_, ?_, ⟨m_up_s, rfl⟩, m_mdk_0⟩
    · unfold f_X12_holdsBale
      rw [a1, Option.bind_some]
      show ((f_X2_held hk (nI i)).bind _) = _
      rw [m_held i6, Option.bind_some]
      by_cases e : hk i = -1
      · rw [if_pos e]; simp [e]
      · rw [if_neg e]; simp [e]
    · unfold f_X15_holdsBale
      rw [a2, Option.bind_some, if_neg (show ¬ q_bz true = 0 by decide), q_ix_nI i6 (by decide), Option.bind_some, ← i1]
      by_cases e : hk i = -1
      · rw [if_pos e]; simp [e]
      · rw [if_neg e]; simp [e]
theorem m_q_holdSame {H m hf : Nat} {h : List Nat} {pn mp bn ly pl sz ag rc ld lo lr hk rw st sh sw sp ss sr sa sd : m_Rr} (hP : m_Pl H m hf pn mp) (hR : m_R H m hf h bn ly pl sz ag rc ld lo lr hk rw st sh sw sp ss sr sa sd) (md : m_Rr) (x y : Int32) : ∃ r b md', f_X12_holdSame pn hk x y = some r ∧ f_X15_holdSame md mp sh x y = some (b, md') ∧ m_anB [m_sIO] r b (md' 0) ∧ m_mdk md md' := by
  obtain ⟨p0, p1, p2, p3, p4, p5, p6⟩ := id hP
  rcases m_hookQ hR.2.2.2.2.2.1.1 p5 p6 x with ⟨a1, a2⟩ | ⟨i, iH, rfl, a1, a2⟩
  · refine ⟨.inr m_sIO, false, q_up (q_up md 0 0) 0 1, ?_, ?_, ⟨0, rfl, by rw [m_up_s]; rfl⟩, m_mdk_00⟩
    · unfold f_X12_holdSame; rw [a1]; rfl
    · unfold f_X15_holdSame; rw [a2]; rfl
  · rcases m_hookQ hR.2.2.2.2.2.1.1 p5 p6 y with ⟨b1, b2⟩ | ⟨j, jH, rfl, b1, b2⟩
    · refine ⟨.inr m_sIO, false, q_up (q_up md 0 0) 0 1, ?_, ?_, ⟨0, rfl, by rw [m_up_s]; rfl⟩, m_mdk_00⟩
      · unfold f_X12_holdSame
        rw [a1, Option.bind_some]
        show ((f_X12_checkHook pn y).bind _) = _
        rw [b1]; rfl
      · unfold f_X15_holdSame
        rw [a2, Option.bind_some, if_neg (show ¬ q_bz true = 0 by decide), b2]; rfl
    · obtain ⟨i6, -, -⟩ := m_hkv hR iH
      obtain ⟨j6, -, -⟩ := m_hkv hR jH
      refine ⟨.inl (decide (¬ sh i = -1 ∧ sh i = sh j)), decide (¬ sh i = -1 ∧ sh i = sh j), q_up md 0 0, ?_, ?_, ⟨m_up_s, rfl⟩, m_mdk_0⟩
      · unfold f_X12_holdSame
        rw [a1, Option.bind_some]
        show ((f_X12_checkHook pn (nI j)).bind _) = _
        rw [b1, Option.bind_some]
        show ((f_X2_sameHeld hk (nI i) (nI j)).bind _) = _
        rw [m_same hR iH jH]; rfl
      · unfold f_X15_holdSame
        rw [a2, Option.bind_some, if_neg (show ¬ q_bz true = 0 by decide), b2, Option.bind_some, if_neg (show ¬ q_bz true = 0 by decide), q_ix_nI i6 (by decide), Option.bind_some, Option.bind_some, q_ix_nI j6 (by decide), Option.bind_some]
        by_cases e : sh i = -1
        · rw [if_pos e]; simp [e]
        · rw [if_neg e]
          by_cases e2 : sh i = sh j
          · rw [if_neg (fun z => z e2), decide_eq_true (show ¬ sh i = -1 ∧ sh i = sh j from ⟨e, e2⟩)]
          · rw [if_pos e2, decide_eq_false (show ¬ (¬ sh i = -1 ∧ sh i = sh j) from fun z => e2 z.2)]
theorem m_q_ropeLeads {H m hf : Nat} {h : List Nat} {pn mp bn ly pl sz ag rc ld lo lr hk rw st sh sw sp ss sr sa sd : m_Rr} (hP : m_Pl H m hf pn mp) (hR : m_R H m hf h bn ly pl sz ag rc ld lo lr hk rw st sh sw sp ss sr sa sd) (md : m_Rr) (x y : Int32) : ∃ r b md', f_X12_ropeLeads pn rc ld hk x y = some r ∧ f_X15_ropeLeads md mp sh sr sd x y = some (b, md') ∧ m_anB [m_sIO, m_sIS] r b (md' 0) ∧ m_mdk md md' := by
  rcases m_baleQ hP hR md x with ⟨a1, a2⟩ | ⟨a1, a2⟩ | ⟨i, c, iH, i6, rfl, hc, -, h1, h2, a1, a2⟩
  · refine ⟨.inr m_sIO, false, q_up md 0 1, ?_, ?_, ⟨0, rfl, by rw [m_up_s]; rfl⟩, m_mdk_0⟩
    · unfold f_X12_ropeLeads; rw [a1]; rfl
    · unfold f_X15_ropeLeads; rw [a2]; rfl
  · refine ⟨.inr m_sIS, false, q_up md 0 2, ?_, ?_, ⟨1, rfl, by rw [m_up_s]; rfl⟩, m_mdk_0⟩
    · unfold f_X12_ropeLeads; rw [a1]; rfl
    · unfold f_X15_ropeLeads; rw [a2]; rfl
  · obtain ⟨k, k1, k2, k3, k4⟩ := m_kc hR hc
    rcases m_hasB (ld := ld) hc i6 h2 k1 k2 k3 y with ⟨b1, b2, b3, b4⟩ | ⟨r, hr, rfl, b1, b2, b3, b4⟩
    · refine ⟨.inr m_sIS, false, q_up (q_up md 0 0) 0 2, ?_, ?_, ⟨1, rfl, by rw [m_up_s]; rfl⟩, m_mdk_00⟩
      · unfold f_X12_ropeLeads
        rw [a1, Option.bind_some]
        show ((f_X1_hasRope rc (nI c) y).bind _) = _
        rw [b1]; rfl
      · unfold f_X15_ropeLeads
        rw [a2, Option.bind_some, if_pos (show ¬ nI c = -1 from m_nI_m1 (by omega)), b2]; rfl
    · obtain ⟨z1, -⟩ := k4 r hr
      refine ⟨.inl (decide (¬ ld (c * 3 + r) = -1)), decide (¬ ld (c * 3 + r) = -1), q_up md 0 0, ?_, ?_, ⟨m_up_s, rfl⟩, m_mdk_0⟩
      · unfold f_X12_ropeLeads
        rw [a1, Option.bind_some]
        show ((f_X1_hasRope rc (nI c) (nI r)).bind _) = _
        rw [b1, Option.bind_some]
        first
          | rw [if_pos (show ¬ q_bz true = 0 by decide), b3, Option.bind_some]
          | rw [if_neg (show ¬ q_bz true = 0 by decide), b3, Option.bind_some]
        by_cases e : ld (c * 3 + r) = -1
        · first
            | rw [if_pos e]; simp [e]
            | rw [if_neg (fun z => z e)]; simp [e]
        · first
            | rw [if_neg e]; simp [e]
            | rw [if_pos e]; simp [e]
      · unfold f_X15_ropeLeads
        rw [a2, Option.bind_some, if_pos (show ¬ nI c = -1 from m_nI_m1 (by omega)), b2, Option.bind_some, if_neg (show ¬ q_bz true = 0 by decide), m_leadsTo i6 hc (by omega) h2, Option.bind_some, z1]
        by_cases e : ld (c * 3 + r) = -1
        · rw [if_pos e]; simp [e]
        · rw [if_neg e]; simp [e]
