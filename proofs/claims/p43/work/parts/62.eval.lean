/-! MATH: an order is obeyed, on both sides -/
section
variable {H m hf : Nat} {h : List Nat} {pn mp pc bn ly pl sz ag rc ld lo lr hk rw st sh sw sp ss sr sa sd : m_Rr}
theorem m_one (b : Bool) : f_X8_one b = some (if b = true then 1 else 0) := by cases b <;> rfl
theorem m_same {H m hf : Nat} {h : List Nat} {bn ly pl sz ag rc ld lo lr hk rw st sh sw sp ss sr sa sd : m_Rr} (hR : m_R H m hf h bn ly pl sz ag rc ld lo lr hk rw st sh sw sp ss sr sa sd) {i j : Nat} (hi : i < H) (hj : j < H) : f_X2_sameHeld hk (nI i) (nI j) = some (decide (¬ sh i = -1 ∧ sh i = sh j)) := by
  obtain ⟨i6, i1, i2⟩ := m_hkv hR hi
  obtain ⟨j6, j1, j2⟩ := m_hkv hR hj
  unfold f_X2_sameHeld
  rw [if_neg (nI_pos (by omega)), if_neg (show ¬ (6 : Int32) ≤ nI i from nI_ge i6 (by decide)), if_neg (nI_pos (by omega)), if_neg (show ¬ (6 : Int32) ≤ nI j from nI_ge j6 (by decide)), q_ix_nI i6 (by decide), q_ix_nI j6 (by decide)]
  simp only [Option.bind_some]
  rw [i1, j1]
  by_cases e : sh i = -1
  · rw [if_pos e]; simp [e]
  · rw [if_neg e]
    by_cases e2 : sh i = sh j
    · rw [if_neg (fun x => x e2)]; simp [e, e2]; rw [← e2]; exact e
    · rw [if_pos e2]; simp [e2]
theorem m_val (hP : m_Pl H m hf pn mp) (hR : m_R H m hf h bn ly pl sz ag rc ld lo lr hk rw st sh sw sp ss sr sa sd) {d : Nat} {n : Int32} {a e t u : Nat} (hO : m_O (fun j g => g < H ∧ pc j = nI g) pc d n a e t u) (hu : u = t + 1) (ha : a + 2 < 800) :
    ∃ x, f_X8_value pn bn sz ag lo hk d n = some x ∧ f_X14_pushed mp pc st sh sw ss sa (pc a) (nI (a + 1)) = some x ∧ f_X15_taken (pc a) = some (nI (e - a - 1)) ∧ ∀ rk sk : m_Rr, f_X8_obey pn bn sz ag lo hk rk sk d n = (f_X8_push rk sk x).bind fun r => some (r.1, r.2) := by
  obtain ⟨p0, p1, p2, p3, p4, p5, p6⟩ := id hP
  obtain ⟨hEZ, -, hv, hRh, ⟨hLf, hlo1, hlo2⟩, hK, ⟨c1, c2, c3, c4, c5, c6⟩⟩ := id hR
  obtain ⟨u1, -⟩ := m_usedH hR
  have q1 : q_ix (nI (a + 1)) 800 = some (a + 1) := q_ix_nI (by omega) (by decide)
  have fin : ∀ x, f_X8_value pn bn sz ag lo hk d n = some x → f_X14_pushed mp pc st sh sw ss sa (pc a) (nI (a + 1)) = some x → f_X15_taken (pc a) = some (nI (e - a - 1)) → (∀ rk sk : m_Rr, f_X8_obey pn bn sz ag lo hk rk sk d n = (f_X8_value pn bn sz ag lo hk d n).bind fun r => (f_X8_push rk sk r).bind fun r => some (r.1, r.2)) → ∃ x, f_X8_value pn bn sz ag lo hk d n = some x ∧ f_X14_pushed mp pc st sh sw ss sa (pc a) (nI (a + 1)) = some x ∧ f_X15_taken (pc a) = some (nI (e - a - 1)) ∧ ∀ rk sk : m_Rr, f_X8_obey pn bn sz ag lo hk rk sk d n = (f_X8_push rk sk x).bind fun r => some (r.1, r.2) :=
    fun x y1 y2 y3 y4 => ⟨x, y1, y2, y3, fun rk sk => by rw [y4, y1]; rfl⟩
  rcases hO with ⟨-, rfl, x2, x3, rfl⟩ | ⟨-, rfl, x3⟩ | ⟨-, rfl, ⟨g, g6, rfl, gH, ge⟩, x3⟩ | ⟨-, rfl, rfl, x3, f, g, f6, g6, rfl, ⟨fH, fe⟩, ⟨gH, ge⟩⟩ | ⟨y, -⟩ | ⟨y, -⟩
  · refine fin n rfl ?_ ?_ (fun _ _ => rfl)
    · rw [x2]
      show (q_ix (nI (a + 1)) 800).bind (fun j1 => some (pc j1)) = _
      rw [q1, Option.bind_some, x3]
    · rw [x2, show a + 2 - a - 1 = 1 by omega]; rfl
  · rcases x3 with ⟨rfl, x⟩ | ⟨rfl, x⟩ | ⟨rfl, x⟩ | ⟨rfl, x⟩ | ⟨rfl, x⟩
    · refine fin (bn 10) rfl ?_ (by rw [x, show a + 1 - a - 1 = 0 by omega]; rfl) (fun _ _ => rfl)
      rw [x]
      show (q_ix (nI (a + 1)) 800).bind (fun j1 => some (st 0)) = _
      rw [q1, Option.bind_some, c2]
    · refine fin (bn 8) rfl ?_ (by rw [x, show a + 1 - a - 1 = 0 by omega]; rfl) (fun _ _ => rfl)
      rw [x]
      show (q_ix (nI (a + 1)) 800).bind (fun j1 => (f_X14_used sw ss 1).bind fun r => some r) = _
      rw [q1, Option.bind_some, u1]; rfl
    · refine fin (pn 0 - bn 8) rfl ?_ (by rw [x, show a + 1 - a - 1 = 0 by omega]; rfl) (fun _ _ => rfl)
      rw [x]
      show (q_ix (nI (a + 1)) 800).bind (fun j1 => (f_X14_used sw ss 1).bind fun r => some (mp 1 - r)) = _
      rw [q1, Option.bind_some, u1, Option.bind_some, p0, p1]
    · refine fin (bn 12) rfl ?_ (by rw [x, show a + 1 - a - 1 = 0 by omega]; rfl) (fun _ _ => rfl)
      rw [x]
      show (q_ix (nI (a + 1)) 800).bind (fun j1 => some (st 3)) = _
      rw [q1, Option.bind_some, c4]
    · refine fin (bn 7 + lo 2) rfl ?_ (by rw [x, show a + 1 - a - 1 = 0 by omega]; rfl) (fun _ _ => rfl)
      rw [x]
      show (q_ix (nI (a + 1)) 800).bind (fun j1 => (f_X14_bales_ sw).bind fun r => some r) = _
      obtain ⟨hnd, hmem, hrw, hb7, hb8, htw, h64⟩ := id hRh
      rw [q1, Option.bind_some, m_bales_, hlo2, m_sm_half hnd (fun b => by
        rw [hmem]
        constructor
        · exact fun x => ⟨x.1, (hEZ.1 b x.1).1.trans x.2⟩
        · exact fun x => ⟨x.1, (hEZ.1 b x.1).1.symm.trans x.2⟩) hEZ.2, m_tot_1, hb7]; rfl
  · obtain ⟨-, g1, g2⟩ := m_hkv hR gH
    rcases x3 with ⟨rfl, x⟩ | ⟨rfl, x⟩ | ⟨rfl, x⟩
    · have eC : f_X8_value pn bn sz ag lo hk 25 (nI g) = (f_X1_size sz (hk g)).bind fun r => some r := by
        show ((f_X2_held hk (nI g)).bind fun r => (f_X1_size sz r).bind fun r => some r) = _
        rw [m_held g6]; rfl
      have eR : f_X14_pushed mp pc st sh sw ss sa (pc a) (nI (a + 1)) = if ¬ (sh g) = (-1 : Int32) then (q_ix (sh g) 136).bind fun j5 => some (ss j5) else some 0 := by
        rw [x]
        show ((q_ix (nI (a + 1)) 800).bind fun j1 => (q_ix (pc j1) 6).bind fun j2 => if ¬ (sh j2) = (-1 : Int32) then (q_ix (pc j1) 6).bind fun j4 => (q_ix (sh j4) 136).bind fun j5 => some (ss j5) else some 0) = _
        rw [q1, Option.bind_some, ge, q_ix_nI g6 (by decide), Option.bind_some, Option.bind_some]
      rcases g2 with hm | ⟨c, hc, -, hm⟩
      · refine fin 0 (by rw [eC, hm, m_size1]; rfl) ?_ (by rw [x, show a + 2 - a - 1 = 1 by omega]; rfl) (fun _ _ => rfl)
        rw [eR, ← g1, hm, if_neg (by decide)]
      · refine fin (sz c) (by rw [eC, hm, m_size hc]; rfl) ?_ (by rw [x, show a + 2 - a - 1 = 1 by omega]; rfl) (fun _ _ => rfl)
        rw [eR, ← g1, hm, if_pos (m_nI_m1 (by omega)), q_ix_nI (by omega) (by decide), Option.bind_some, (hEZ.1 c hc).2.2.1]
    · have eC : f_X8_value pn bn sz ag lo hk 26 (nI g) = (f_X1_age ag (hk g)).bind fun r => some r := by
        show ((f_X2_held hk (nI g)).bind fun r => (f_X1_age ag r).bind fun r => some r) = _
        rw [m_held g6]; rfl
      have eR : f_X14_pushed mp pc st sh sw ss sa (pc a) (nI (a + 1)) = if ¬ (sh g) = (-1 : Int32) then (q_ix (sh g) 136).bind fun j5 => some (sa j5) else some 0 := by
        rw [x]
        show ((q_ix (nI (a + 1)) 800).bind fun j1 => (q_ix (pc j1) 6).bind fun j2 => if ¬ (sh j2) = (-1 : Int32) then (q_ix (pc j1) 6).bind fun j4 => (q_ix (sh j4) 136).bind fun j5 => some (sa j5) else some 0) = _
        rw [q1, Option.bind_some, ge, q_ix_nI g6 (by decide), Option.bind_some, Option.bind_some]
      rcases g2 with hm | ⟨c, hc, -, hm⟩
      · refine fin 0 (by rw [eC, hm, m_age1]; rfl) ?_ (by rw [x, show a + 2 - a - 1 = 1 by omega]; rfl) (fun _ _ => rfl)
        rw [eR, ← g1, hm, if_neg (by decide)]
      · refine fin (ag c) (by rw [eC, hm, m_age hc]; rfl) ?_ (by rw [x, show a + 2 - a - 1 = 1 by omega]; rfl) (fun _ _ => rfl)
        rw [eR, ← g1, hm, if_pos (m_nI_m1 (by omega)), q_ix_nI (by omega) (by decide), Option.bind_some, (hEZ.1 c hc).2.2.2.1]
    · have eC : f_X8_value pn bn sz ag lo hk 27 (nI g) = if hk g = -1 then some 0 else some 1 := by
        show ((f_X2_held hk (nI g)).bind fun r => if r = (-1 : Int32) then (f_X8_one false).bind fun r4 => some r4 else (f_X8_one true).bind fun r5 => some r5) = _
        rw [m_held g6]; rfl
      have eR : f_X14_pushed mp pc st sh sw ss sa (pc a) (nI (a + 1)) = if ¬ (sh g) = (-1 : Int32) then some 1 else some 0 := by
        rw [x]
        show ((q_ix (nI (a + 1)) 800).bind fun j1 => (q_ix (pc j1) 6).bind fun j2 => if ¬ (sh j2) = (-1 : Int32) then some 1 else some 0) = _
        rw [q1, Option.bind_some, ge, q_ix_nI g6 (by decide), Option.bind_some]
      by_cases hm : hk g = -1
      · refine fin 0 (by rw [eC, if_pos hm]) ?_ (by rw [x, show a + 2 - a - 1 = 1 by omega]; rfl) (fun _ _ => rfl)
        rw [eR, ← g1, if_neg (fun z => z hm)]
      · refine fin 1 (by rw [eC, if_neg hm]) ?_ (by rw [x, show a + 2 - a - 1 = 1 by omega]; rfl) (fun _ _ => rfl)
        rw [eR, ← g1, if_pos hm]
  · have eC : f_X8_value pn bn sz ag lo hk 28 (nI (f * 6 + g)) = some (if (decide (¬ sh f = -1 ∧ sh f = sh g)) = true then 1 else 0) := by
      show ((f_X2_sameHeld hk (nI (f * 6 + g) / (6 : Int32)) (nI (f * 6 + g) - nI (f * 6 + g) / (6 : Int32) * (6 : Int32))).bind fun r6 => (f_X8_one r6).bind fun r7 => some r7) = _
      rw [show (6 : Int32) = nI 6 from rfl, pk_rem (by omega) (by decide) (by decide), pk_div (by omega) (by decide) (by decide), show (f * 6 + g) / 6 = f by omega, show (f * 6 + g) % 6 = g by omega, m_same hR fH gH, Option.bind_some, m_one]; rfl
    have eR : f_X14_pushed mp pc st sh sw ss sa (pc a) (nI (a + 1)) = if sh f = (-1 : Int32) then some 0 else if ¬ sh f = sh g then some 0 else some 1 := by
      rw [x3]
      show ((q_ix (nI (a + 1)) 800).bind fun j1 => (q_ix (pc j1) 6).bind fun j15 => if (sh j15) = (-1 : Int32) then some 0 else (q_ix (pc j1) 6).bind fun j17 => (q_ix (nI (a + 1) + (1 : Int32)) 800).bind fun j18 => (q_ix (pc j18) 6).bind fun j19 => if ¬ (sh j17) = (sh j19) then some 0 else some 1) = _
      rw [q1, Option.bind_some, fe, q_ix_nI f6 (by decide), Option.bind_some, Option.bind_some, nI_1, q_ix_nI (show a + 1 + 1 < 800 by omega) (by decide), Option.bind_some, ge, q_ix_nI g6 (by decide), Option.bind_some]
    refine fin _ eC ?_ (by rw [x3, show a + 3 - a - 1 = 2 by omega]; rfl) (fun _ _ => rfl)
    rw [eR]
    by_cases z1 : sh f = -1
    · rw [if_pos z1, if_neg (by simp [z1])]
    · rw [if_neg z1]
      by_cases z2 : sh f = sh g
      · rw [if_neg (fun z => z z2), if_pos (by rw [decide_eq_true_eq]; exact ⟨z1, z2⟩)]
      · rw [if_pos z2, if_neg (by rw [decide_eq_true_eq]; exact fun z => z2 z.2)]
  · omega
  · omega
end
theorem m_push {rk sk : m_Rr} {t : Nat} {x : Int32} (h : rk 1 = nI t) (ht : t < 400) : f_X8_push rk sk x = some (q_up rk 1 (nI (t + 1)), q_up sk t x) := by
  unfold f_X8_push
  rw [h, if_neg (nI_pos (by omega)), if_neg (show ¬ (400 : Int32) ≤ nI t from nI_ge (b := 400) ht (by decide)), q_ix_nI ht (by decide), Option.bind_some, nI_1]
theorem m_pop {rk sk : m_Rr} {t : Nat} (h : rk 1 = nI (t + 1)) (ht : t < 400) : f_X8_pop rk sk = some (sk t, q_up rk 1 (nI t)) := by
  unfold f_X8_pop
  rw [h, if_neg (nI_nle (show 0 < t + 1 by omega) (by omega)), if_pos (show nI (t + 1) ≤ (400 : Int32) from nI_le (b := 400) (by omega) (by decide)), nI_pred, m_up_s, q_ix_nI ht (by decide), Option.bind_some]
theorem m_subadd {x : Int32} : x - 1 + 1 = x := Int32.sub_add_cancel x 1
theorem m_un1 {pn bn sz ag lo hk rk sk pc : m_Rr} {n : Int32} {d a t : Nat} (h : (d = 4 ∧ pc a = 33) ∨ (d = 29 ∧ pc a = 24)) (hrk : rk 1 = nI (t + 1)) (ht : t < 400) :
    ∃ g : Int32 → Int32, f_X8_obey pn bn sz ag lo hk rk sk d n = some (q_up (q_up rk 1 (nI t)) 1 (nI (t + 1)), q_up sk t (g (sk t))) ∧ ∀ (mp st sh sw ss sa ms : m_Rr) (v2 : Int32) (fu : Nat), f_X15_taken (pc a) = some (-1) ∧ ((if (pc a) = (33 : Int32) then
    if ¬ (pc a) = (33 : Int32) then
    (q_ix (nI t) 400).bind fun j7 =>
    (q_ix (nI t) 400).bind fun j8 =>
    f_X14_carryOut_L4 mp pc st sh sw ss sa v2 fu (q_up ms j8 ((1 : Int32) - (ms j7))) (nI t) (nI a + 1)
    else
    (q_ix (nI t) 400).bind fun j9 =>
    (q_ix (nI t) 400).bind fun j10 =>
    f_X14_carryOut_L4 mp pc st sh sw ss sa v2 fu (q_up ms j10 (-(ms j9))) (nI t) (nI a + 1)
    else
    if ¬ (pc a) = (24 : Int32) then
    (q_ix (nI t + (-1)) 400).bind fun j12 =>
    (q_ix ((nI t + (-1)) + (1 : Int32)) 400).bind fun j13 =>
    (f_X15_both (pc a) (ms j12) (ms j13)).bind fun r14 =>
    (q_ix (nI t + (-1)) 400).bind fun j15 =>
    f_X14_carryOut_L4 mp pc st sh sw ss sa v2 fu (q_up ms j15 r14) (nI t + (-1)) (nI a + 1)
    else
    if ¬ (pc a) = (33 : Int32) then
    (q_ix (nI t) 400).bind fun j17 =>
    (q_ix (nI t) 400).bind fun j18 =>
    f_X14_carryOut_L4 mp pc st sh sw ss sa v2 fu (q_up ms j18 ((1 : Int32) - (ms j17))) (nI t) (nI a + 1)
    else
    (q_ix (nI t) 400).bind fun j19 =>
    (q_ix (nI t) 400).bind fun j20 =>
    f_X14_carryOut_L4 mp pc st sh sw ss sa v2 fu (q_up ms j20 (-(ms j19))) (nI t) (nI a + 1)) = f_X14_carryOut_L4 mp pc st sh sw ss sa v2 fu (q_up ms t (g (ms t))) (nI t) (nI (a + 1))) := by
  rcases h with ⟨rfl, x⟩ | ⟨rfl, x⟩
  · refine ⟨fun z => -z, ?_, fun mp st sh sw ss sa ms v2 fu => ⟨by rw [x]; rfl, ?_⟩⟩
    · show ((f_X8_pop rk sk).bind fun r44 => (f_X8_push r44.2 sk (-r44.1)).bind fun r45 => some (r45.1, r45.2)) = _
      rw [m_pop hrk ht, Option.bind_some, m_push (t := t) m_up_s ht]; rfl
    · rw [x, if_pos rfl, if_neg (fun z => z rfl), q_ix_nI ht (by decide), Option.bind_some, Option.bind_some, nI_1]
  · refine ⟨fun z => 1 - z, ?_, fun mp st sh sw ss sa ms v2 fu => ⟨by rw [x]; rfl, ?_⟩⟩
    · show ((f_X8_pop rk sk).bind fun r44 => (f_X8_push r44.2 sk ((1 : Int32) - r44.1)).bind fun r45 => some (r45.1, r45.2)) = _
      rw [m_pop hrk ht, Option.bind_some, m_push (t := t) m_up_s ht]; rfl
    · rw [x, if_neg (by decide), if_neg (by decide), if_pos (by decide), q_ix_nI ht (by decide), Option.bind_some, Option.bind_some, nI_1]
/-- what two numbers come to, on both sides -/
theorem m_join {pc : m_Rr} {d a : Nat} (h : (d = 30 ∧ pc a = 25) ∨ (d = 31 ∧ pc a = 26) ∨ (d = 32 ∧ pc a = 27) ∨ (d = 33 ∧ pc a = 28) ∨ (d = 40 ∧ pc a = 34) ∨ (d = 41 ∧ pc a = 35) ∨ (d = 42 ∧ pc a = 36) ∨ (d = 43 ∧ pc a = 37) ∨ (d = 44 ∧ pc a = 38) ∨ (d = 45 ∧ pc a = 39) ∨ (d = 46 ∧ pc a = 42) ∨ (d = 47 ∧ pc a = 43) ∨ (d = 48 ∧ pc a = 44)) :
    (∀ x y, ∃ z, f_X8_joined d x y = some z ∧ f_X15_both (pc a) x y = some z) ∧ f_X15_taken (pc a) = some (-1) ∧ ¬ pc a = 33 ∧ ¬ pc a = 24 ∧ ∀ (pn bn sz ag lo hk rk sk : m_Rr) (n : Int32), f_X8_obey pn bn sz ag lo hk rk sk d n = (f_X8_pop rk sk).bind fun r4 => (f_X8_pop r4.2 sk).bind fun r5 => (f_X8_joined d r5.1 r4.1).bind fun r6 => (f_X8_push r5.2 sk r6).bind fun r7 => some (r7.1, r7.2) := by
  rcases h with ⟨rfl, x⟩ | ⟨rfl, x⟩ | ⟨rfl, x⟩ | ⟨rfl, x⟩ | ⟨rfl, x⟩ | ⟨rfl, x⟩ | ⟨rfl, x⟩ | ⟨rfl, x⟩ | ⟨rfl, x⟩ | ⟨rfl, x⟩ | ⟨rfl, x⟩ | ⟨rfl, x⟩ | ⟨rfl, x⟩ <;> rw [x] <;> refine ⟨fun y z => ?_, rfl, by decide, by decide, fun _ _ _ _ _ _ _ _ _ => rfl⟩
  · exact ⟨_, rfl, rfl⟩
  · exact ⟨_, rfl, rfl⟩
  · exact ⟨_, rfl, rfl⟩
  · exact ⟨_, rfl, rfl⟩
  · exact ⟨_, rfl, rfl⟩
  · exact ⟨_, rfl, rfl⟩
  · exact ⟨_, rfl, rfl⟩
  · show ∃ w, (if ¬ z = 0 then (q_nz z).bind fun u3 => some (y / z) else some (0 : Int32)) = some w ∧ (if ¬ z = 0 then (q_nz z).bind fun u3 => some (y / z) else some (0 : Int32)) = some w
    by_cases e : z = 0
    · rw [if_neg (fun q => q e)]; exact ⟨_, rfl, rfl⟩
    · rw [if_pos e]; unfold q_nz; rw [if_neg e]; exact ⟨_, rfl, rfl⟩
  · show ∃ w, (if z ≤ y then (f_X8_one false).bind fun r6 => some r6 else (f_X8_one true).bind fun r7 => some r7) = some w ∧ (if z ≤ y then some (0 : Int32) else some (1 : Int32)) = some w
    by_cases e : z ≤ y
    · rw [if_pos e, if_pos e]; exact ⟨_, rfl, rfl⟩
    · rw [if_neg e, if_neg e]; exact ⟨_, rfl, rfl⟩
  · show ∃ w, (if y ≤ z then (f_X8_one false).bind fun r6 => some r6 else (f_X8_one true).bind fun r7 => some r7) = some w ∧ (if y ≤ z then some (0 : Int32) else some (1 : Int32)) = some w
    by_cases e : y ≤ z
    · rw [if_pos e, if_pos e]; exact ⟨_, rfl, rfl⟩
    · rw [if_neg e, if_neg e]; exact ⟨_, rfl, rfl⟩
  · show ∃ w, (if ¬ y = z then (f_X8_one false).bind fun r6 => some r6 else (f_X8_one true).bind fun r7 => some r7) = some w ∧ (if ¬ y = z then some (0 : Int32) else some (1 : Int32)) = some w
    by_cases e : y = z
    · rw [if_neg (fun q => q e), if_neg (fun q => q e)]; exact ⟨_, rfl, rfl⟩
    · rw [if_pos e, if_pos e]; exact ⟨_, rfl, rfl⟩
  · show ∃ w, (if z < y then (f_X8_one false).bind fun r6 => some r6 else (f_X8_one true).bind fun r7 => some r7) = some w ∧ (if z < y then some (0 : Int32) else some (1 : Int32)) = some w
    by_cases e : z < y
    · rw [if_pos e, if_pos e]; exact ⟨_, rfl, rfl⟩
    · rw [if_neg e, if_neg e]; exact ⟨_, rfl, rfl⟩
  · show ∃ w, (if y < z then (f_X8_one false).bind fun r6 => some r6 else (f_X8_one true).bind fun r7 => some r7) = some w ∧ (if y < z then some (0 : Int32) else some (1 : Int32)) = some w
    by_cases e : y < z
    · rw [if_pos e, if_pos e]; exact ⟨_, rfl, rfl⟩
    · rw [if_neg e, if_neg e]; exact ⟨_, rfl, rfl⟩
