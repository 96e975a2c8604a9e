/-! TYING, UNTYING, FOLLOWING, DROPPING, on both sides -/
section ZHAND
variable {h h' : q_H} {s c : Nat} {ν : Nat → Nat} {H m hf : Nat} {hL : List Nat} {pn mp bn ly pl sz ag rc ld lo lr hk rw st sh sw sp ss sr sa sd : m_Rr} {hl ll : List Nat} {hkL : List (Option Nat)}
theorem z_set_same {l : List (Option Nat)} {i : Nat} {o : Option Nat} (h : l[i]? = some o) : l.set i o = l := by
  refine List.ext_getElem? (fun j => ?_)
  by_cases hj : j = i
  · subst hj
    rw [List.getElem?_set_self (List.getElem?_eq_some_iff.mp h).1, h]
  · rw [List.getElem?_set_ne (fun e => hj e.symm)]
theorem z_B_tie (hR : m_R H m hf hL bn ly pl sz ag rc ld lo lr hk rw st sh sw sp ss sr sa sd) (hB : z_B h s ν H m hf hL pn bn ly pl sz ag rc ld hk hl ll hkL) {i t : Nat} (hi : i < H) (ht : t < H) (r : Int32) {y : Int32} (e : (y, h') = z_tie h hkL i t r) :
    ∃ ok ld' sd', f_X2_tieRope rc ld hk (nI i) r (nI t) = some (ok, ld') ∧ f_X14_tie sh sr sd (nI i) r (nI t) = some (ok, sd') ∧ m_R H m hf hL bn ly pl sz ag rc ld' lo lr hk rw st sh sw sp ss sr sa sd' ∧ (ok = true → ∃ c, c < 128 ∧ hk i = nI c ∧ sh i = nI c) ∧ z_B h' s ν H m hf hL pn bn ly pl sz ag rc ld' hk hl ll hkL ∧ y = (if ok = true then 1 else 0) := by
  obtain ⟨ok, ld', sd', t1, t2, t3, t4⟩ := m_tie hR hi ht r
  refine ⟨ok, ld', sd', t1, t2, t3, t4, ?_⟩
  obtain ⟨i6, -, -⟩ := m_hkv hR hi
  obtain ⟨j6, -, -⟩ := m_hkv hR ht
  have e1 : f_X2_tieRope rc ld hk (nI i) r (nI t) = if hk t = -1 then some (false, ld) else (f_X1_hasRope rc (hk i) r).bind fun r4 => if ¬ (q_bz r4) = 0 then (f_X1_setLead rc ld (hk i) r (hk t)).bind fun r7 => some (true, r7) else some (false, ld) := by
    unfold f_X2_tieRope
    rw [m_held i6, Option.bind_some, m_held j6, Option.bind_some]; rfl
  have no : f_X2_tieRope rc ld hk (nI i) r (nI t) = some (false, ld) → z_tie h hkL i t r = (0, h) → z_B h' s ν H m hf hL pn bn ly pl sz ag rc ld' hk hl ll hkL ∧ y = (if ok = true then 1 else 0) := fun x1 x2 => by
    have x3 := Option.some.inj (t1.symm.trans x1)
    obtain ⟨rfl, rfl⟩ := Prod.mk.inj x3
    rw [x2] at e
    obtain ⟨rfl, rfl⟩ := Prod.mk.inj e
    exact ⟨hB, rfl⟩
  rcases z_ro_cls hR hB hi r with ⟨c1, c2, c3⟩ | ⟨b, k, hb, h0, c1, c2, k1, k2, k3, ⟨a1, a2, a3, c3⟩ | ⟨j, hj, hrj, a1, a2, a3, a4, c3, c4⟩⟩
  · refine no ?_ (by unfold z_tie; rw [c3])
    rw [e1, c1, m_hasRope1]
    by_cases x : hk t = -1
    · rw [if_pos x]
    · rw [if_neg x]; rfl
  · refine no ?_ (by unfold z_tie; rw [c3])
    rw [e1, c1, a1]
    by_cases x : hk t = -1
    · rw [if_pos x]
    · rw [if_neg x]; rfl
  · rcases hB.2.1.2.2.2.2.2.1.2 t ht with ⟨d1, d2⟩ | ⟨d, hd, hd0, d1, d2⟩
    · refine no ?_ (by unfold z_tie; rw [c3, d2])
      rw [e1, if_pos d1]
    · have x1 : f_X2_tieRope rc ld hk (nI i) r (nI t) = some (true, q_up ld (b * 3 + j) (nI d)) := by
        rw [e1, d1, if_neg (m_nI_m1 (by omega)), c1, a1, Option.bind_some, if_pos (by decide), a4, Option.bind_some]
      have x3 := Option.some.inj (t1.symm.trans x1)
      obtain ⟨rfl, rfl⟩ := Prod.mk.inj x3
      have x2 : z_tie h hkL i t r = (1, q_pR h (z_ra h (ν b)) j (some (ν d))) := by unfold z_tie; rw [c3, d2]
      rw [x2] at e
      obtain ⟨rfl, rfl⟩ := Prod.mk.inj e
      exact ⟨z_B_lead hR hB hb h0 k1 k2 hj (Or.inr ⟨d, hd, hd0, rfl, rfl⟩), rfl⟩
theorem z_B_untie (hR : m_R H m hf hL bn ly pl sz ag rc ld lo lr hk rw st sh sw sp ss sr sa sd) (hB : z_B h s ν H m hf hL pn bn ly pl sz ag rc ld hk hl ll hkL) {i : Nat} (hi : i < H) (r : Int32) {y : Int32} (e : (y, h') = z_untie h hkL i r) :
    ∃ ok ld' sd', f_X2_untieRope rc ld hk (nI i) r = some (ok, ld') ∧ f_X14_untie sh sr sd (nI i) r = some (ok, sd') ∧ m_R H m hf hL bn ly pl sz ag rc ld' lo lr hk rw st sh sw sp ss sr sa sd' ∧ z_B h' s ν H m hf hL pn bn ly pl sz ag rc ld' hk hl ll hkL ∧ y = (if ok = true then 1 else 0) := by
  obtain ⟨ok, ld', sd', t1, t2, t3⟩ := m_untie hR hi r
  refine ⟨ok, ld', sd', t1, t2, t3, ?_⟩
  obtain ⟨i6, -, -⟩ := m_hkv hR hi
  have no : f_X2_untieRope rc ld hk (nI i) r = some (false, ld) → z_untie h hkL i r = (0, h) → z_B h' s ν H m hf hL pn bn ly pl sz ag rc ld' hk hl ll hkL ∧ y = (if ok = true then 1 else 0) := fun x1 x2 => by
    have x3 := Option.some.inj (t1.symm.trans x1)
    obtain ⟨rfl, rfl⟩ := Prod.mk.inj x3
    rw [x2] at e
    obtain ⟨rfl, rfl⟩ := Prod.mk.inj e
    exact ⟨hB, rfl⟩
  rcases z_ro_cls hR hB hi r with ⟨c1, c2, c3⟩ | ⟨b, k, hb, h0, c1, c2, k1, k2, k3, ⟨a1, a2, a3, c3⟩ | ⟨j, hj, hrj, a1, a2, a3, a4, c3, c4⟩⟩
  · refine no ?_ (by unfold z_untie; rw [c3])
    unfold f_X2_untieRope
    rw [m_held i6, Option.bind_some, c1, m_hasRope1]; rfl
  · refine no ?_ (by unfold z_untie; rw [c3])
    unfold f_X2_untieRope
    rw [m_held i6, Option.bind_some, c1, a1]; rfl
  · have x1 : f_X2_untieRope rc ld hk (nI i) r = some (true, q_up ld (b * 3 + j) (-1)) := by
      unfold f_X2_untieRope
      rw [m_held i6, Option.bind_some, c1, a1, Option.bind_some]
      first | rw [if_pos (by decide), a4, Option.bind_some] | rw [if_neg (by decide), a4, Option.bind_some]
    have x3 := Option.some.inj (t1.symm.trans x1)
    obtain ⟨rfl, rfl⟩ := Prod.mk.inj x3
    have x2 : z_untie h hkL i r = (1, q_pR h (z_ra h (ν b)) j none) := by unfold z_untie; rw [c3]
    rw [x2] at e
    obtain ⟨rfl, rfl⟩ := Prod.mk.inj e
    exact ⟨z_B_lead hR hB hb h0 k1 k2 hj (Or.inl ⟨rfl, rfl⟩), rfl⟩
theorem z_B_follow (hR : m_R H m hf hL bn ly pl sz ag rc ld lo lr hk rw st sh sw sp ss sr sa sd) (hB : z_B h s ν H m hf hL pn bn ly pl sz ag rc ld hk hl ll hkL) (hc : q_R h s 2 = some c) {i t : Nat} (hi : i < H) (ht : t < H) (r : Int32) {y : Int32} (e : (y, h') = z_follow h s hkL i t r) :
    ∃ ok hk' sh' hkL', f_X2_followRope rc ld hk (nI i) (nI t) r = some (ok, hk') ∧ f_X14_follow sh sr sd (nI i) (nI t) r = some (ok, sh') ∧ m_R H m hf hL bn ly pl sz ag rc ld lo lr hk' rw st sh' sw sp ss sr sa sd ∧ (ok = true → ∃ c, c < 128 ∧ hk' i = nI c ∧ sh' i = nI c) ∧ z_B h' s ν H m hf hL pn bn ly pl sz ag rc ld hk' hl ll hkL' ∧ y = (if ok = true then 1 else 0) := by
  obtain ⟨ok, hk', sh', t1, t2, t3, t4⟩ := m_follow hR hi ht r
  obtain ⟨i6, -, -⟩ := m_hkv hR hi
  obtain ⟨j6, -, -⟩ := m_hkv hR ht
  have hha : z_ha h s = c := by unfold z_ha; rw [hc]; rfl
  have no : f_X2_followRope rc ld hk (nI i) (nI t) r = some (false, hk) → z_follow h s hkL i t r = (0, h) → ∃ ok hk' sh' hkL', f_X2_followRope rc ld hk (nI i) (nI t) r = some (ok, hk') ∧ f_X14_follow sh sr sd (nI i) (nI t) r = some (ok, sh') ∧ m_R H m hf hL bn ly pl sz ag rc ld lo lr hk' rw st sh' sw sp ss sr sa sd ∧ (ok = true → ∃ c, c < 128 ∧ hk' i = nI c ∧ sh' i = nI c) ∧ z_B h' s ν H m hf hL pn bn ly pl sz ag rc ld hk' hl ll hkL' ∧ y = (if ok = true then 1 else 0) := fun x1 x2 => by
    have x3 := Option.some.inj (t1.symm.trans x1)
    obtain ⟨rfl, rfl⟩ := Prod.mk.inj x3
    rw [x2] at e
    obtain ⟨rfl, rfl⟩ := Prod.mk.inj e
    exact ⟨_, _, _, hkL, t1, t2, t3, t4, hB, rfl⟩
  rcases z_ro_cls hR hB ht r with ⟨c1, c2, c3⟩ | ⟨b, k, hb, h0, c1, c2, k1, k2, k3, ⟨a1, a2, a3, c3⟩ | ⟨j, hj, hrj, a1, a2, a3, a4, c3, c4⟩⟩
  · refine no ?_ (by unfold z_follow; rw [c3])
    unfold f_X2_followRope
    have e2 : f_X1_lead rc ld (-1) r = some (-1) := by unfold f_X1_lead; rw [m_hasRope1]; rfl
    rw [m_held j6, Option.bind_some, c1, e2, Option.bind_some, if_neg (by decide)]
  · refine no ?_ (by unfold z_follow; rw [c3])
    unfold f_X2_followRope
    rw [m_held j6, Option.bind_some, c1, a3, Option.bind_some, if_neg (by decide)]
  · have eC : f_X2_followRope rc ld hk (nI i) (nI t) r = if ¬ ld (b * 3 + j) = -1 then some (true, q_up hk i (ld (b * 3 + j))) else some (false, hk) := by
      unfold f_X2_followRope
      rw [m_held j6, Option.bind_some, c1, a3, Option.bind_some, m_hold i6, Option.bind_some]
    have eF : z_follow h s hkL i t r = (match q_R h (z_ra h (ν b)) j with
      | some z => ((1 : Int32), q_pR h c i (some z))
      | none => (0, h)) := by
      unfold z_follow
      rw [c3, hha]
      dsimp only
      cases q_R h (z_ra h (ν b)) j <;> rfl
    rcases c4 with ⟨d1, d2⟩ | ⟨d, hd, hd0, d1, d2⟩
    · refine no ?_ ?_
      · rw [eC, if_neg (fun h => h d1)]
      · rw [eF, Option.some.inj d2]
    · have hne : ¬ ld (b * 3 + j) = -1 := by rw [d1]; exact m_nI_m1 (by omega)
      have x1 := eC.trans (if_pos hne)
      have x3 := Option.some.inj (t1.symm.trans x1)
      obtain ⟨rfl, rfl⟩ := Prod.mk.inj x3
      have x2 : z_follow h s hkL i t r = (1, q_pR h c i (some (ν d))) := by rw [eF, Option.some.inj d2]
      rw [x2] at e
      obtain ⟨rfl, rfl⟩ := Prod.mk.inj e
      refine ⟨_, _, _, hkL.set i (some (ν d)), t1, t2, t3, t4, ?_, rfl⟩
      exact z_B_hook hR hB hc hi (Or.inr ⟨d, hd, hd0, d1, rfl⟩)
theorem z_B_drop (hR : m_R H m hf hL bn ly pl sz ag rc ld lo lr hk rw st sh sw sp ss sr sa sd) (hB : z_B h s ν H m hf hL pn bn ly pl sz ag rc ld hk hl ll hkL) (hc : q_R h s 2 = some c) {i : Nat} (hi : i < H) {o : Option Nat} (ho : hkL[i]? = some o) {y : Int32} (e : (y, h') = z_drop h s o i) :
    ∃ ok hk' sh' hkL', f_X2_dropBale hk (nI i) = some (ok, hk') ∧ f_X14_drop sh (nI i) = some (ok, sh') ∧ m_R H m hf hL bn ly pl sz ag rc ld lo lr hk' rw st sh' sw sp ss sr sa sd ∧ z_B h' s ν H m hf hL pn bn ly pl sz ag rc ld hk' hl ll hkL' ∧ y = (if ok = true then 1 else 0) := by
  obtain ⟨ok, hk', sh', t1, t2, t3⟩ := m_drop hR hi
  obtain ⟨i6, -, -⟩ := m_hkv hR hi
  have hha : z_ha h s = c := by unfold z_ha; rw [hc]; rfl
  have eC : f_X2_dropBale hk (nI i) = if ¬ hk i = -1 then some (true, q_up hk i (-1)) else some (false, hk) := by
    unfold f_X2_dropBale
    rw [m_held i6, Option.bind_some, m_hold i6, Option.bind_some]
  have hB' := z_B_hook (v := -1) (o := none) hR hB hc hi (Or.inl ⟨rfl, rfl⟩)
  rcases hB.2.1.2.2.2.2.2.1.2 i hi with ⟨d1, d2⟩ | ⟨d, hd, hd0, d1, d2⟩
  · obtain rfl : o = none := Option.some.inj (ho.symm.trans d2)
    have x1 := eC.trans (if_neg (fun h => h d1))
    obtain ⟨rfl, rfl⟩ := Prod.mk.inj (Option.some.inj (t1.symm.trans x1))
    have x2 : z_drop h s none i = (0, q_pR h c i none) := by unfold z_drop; rw [hha]
    rw [x2] at e
    obtain ⟨rfl, rfl⟩ := Prod.mk.inj e
    rw [m_up_same d1, z_set_same ho] at hB'
    exact ⟨_, _, _, hkL, t1, t2, t3, hB', rfl⟩
  · obtain rfl : o = some (ν d) := Option.some.inj (ho.symm.trans d2)
    have hne : ¬ hk i = -1 := by rw [d1]; exact m_nI_m1 (by omega)
    have x1 := eC.trans (if_pos hne)
    obtain ⟨rfl, rfl⟩ := Prod.mk.inj (Option.some.inj (t1.symm.trans x1))
    have x2 : z_drop h s (some (ν d)) i = (1, q_pR h c i none) := by unfold z_drop; rw [hha]
    rw [x2] at e
    obtain ⟨rfl, rfl⟩ := Prod.mk.inj e
    exact ⟨_, _, _, hkL.set i none, t1, t2, t3, hB', rfl⟩
end ZHAND
