/-! CONTRACTS of the law's barn, one: all, empty, gap -/
section ZSIM1
variable {g : q_G} {d : Nat} {h : q_H} {s : Nat} {hl ll : List Nat} {hk : List (Option Nat)}
/-- the barn by hand: where its rows lie -/
def z_Sim (h : q_H) (s : Nat) (hl ll : List Nat) (hk : List (Option Nat)) : Prop := (492 ≤ s ∧ s < q_nx h) ∧ q_sh h s = (0, 12, 0) ∧ (∃ a, q_R h s 0 = some a ∧ z_Ar h a hl) ∧ (∃ a, q_R h s 1 = some a ∧ z_Ar h a ll) ∧ ∃ a, q_R h s 2 = some a ∧ z_Ao h a hk
theorem z_Sim_ext {h' : q_H} (e : z_ext h h') (hS : z_Sim h s hl ll hk) : z_Sim h' s hl ll hk := by
  obtain ⟨⟨s1, s2⟩, s3, ⟨a, a1, a2⟩, ⟨b, b1, b2⟩, c, c1, c2⟩ := hS
  obtain ⟨e1, e2, e3, -, -⟩ := e.2 s s2
  exact ⟨⟨s1, Nat.lt_of_lt_of_le s2 e.1⟩, e1.trans s3, ⟨a, by rw [e3]; exact a1, z_Ar_ext e a2⟩, ⟨b, by rw [e3]; exact b1, z_Ar_ext e b2⟩, c, by rw [e3]; exact c1, z_Ao_ext e c2⟩
theorem z_all (hd : 2 ≤ d) (hd2 : d < 2048) (hS : z_Sim h s hl ll hk) (hb : ∀ x ∈ hl ++ ll, z_Bal h x) (hsm : q_s16 (hl.length + ll.length)) : q_Ct g m_X14_all d ll.length (ll.length * (hl.length + ll.length)) [] [.ref s] h (fun o h' => ∃ b, o = .inl (some (.ref b)) ∧ z_ext h h' ∧ z_Ar h' b (hl ++ ll) ∧ (q_R h s 0 = some b ∨ q_nx h ≤ b)) := by
  obtain ⟨⟨s1, s2⟩, s3, ⟨a, a1, a2⟩, ⟨b, b1, b2⟩, -⟩ := id hS
  refine q_CtK ok_X14_all (by omega) (Nat.le_of_ble_eq_true rfl) ?_ _ rfl rfl
  have key : ∀ n i (h1 : q_H) (c : Nat), i + n = ll.length → z_ext h h1 → z_Ar h1 c (hl ++ ll.take i) → (q_R h s 0 = some c ∨ q_nx h ≤ c) →
      q_K g m_X14_all [] d ll.length (ll.length * (hl.length + ll.length)) h [] (fun o h' => ∃ b, o = .inl (some (.ref b)) ∧ z_ext h h' ∧ z_Ar h' b (hl ++ ll) ∧ (q_R h s 0 = some b ∨ q_nx h ≤ b)) i (i * (hl.length + ll.length)) (11, [none, some (.ref c), some (.ref b), some (.int (nI ll.length)), some (.int (nI i)), none], [], h1) := by
    intro n
    induction n with
    | zero =>
      intro i h1 c hi he hc hq
      obtain rfl : i = ll.length := by omega
      rw [List.take_length] at hc
      exact w_X14_all_11 (by omega) ⟨fun _ => ⟨⟨Nat.le_refl _, Nat.le_refl _⟩, c, rfl, he, hc, hq⟩, fun hn => absurd (Int32.le_refl _) hn⟩
    | succ n ih =>
      intro i h1 c hi he hc hq
      have hil : i < ll.length := by omega
      have hy : ll[i]? = some ll[i] := List.getElem?_eq_getElem hil
      obtain ⟨⟨c1, c2⟩, c3, c4, c5⟩ := z_Ar_ext he b2
      have hlen : (hl ++ ll.take i).length = hl.length + i := by rw [List.length_append, List.length_take]; omega
      have hmem : ∀ x ∈ hl ++ ll.take i, z_Bal h1 x := fun x hx => z_Bal_ext he (hb x (by
        rcases List.mem_append.mp hx with hx | hx
        · exact List.mem_append_left _ hx
        · exact List.mem_append_right _ (List.mem_of_mem_take hx)))
      have hc5 : i * (hl.length + ll.length) + (hl.length + i + 1) ≤ (i + 1) * (hl.length + ll.length) := by rw [Nat.succ_mul]; omega
      have hc6 : (i + 1) * (hl.length + ll.length) ≤ ll.length * (hl.length + ll.length) := Nat.mul_le_mul_right _ hil
      have hw := z_with (g := g) (d := d - 1) (h := h1) (a := c) (x := ll[i]) (by omega) (by omega) hc hmem (z_Bal_ext he (hb _ (List.mem_append_right _ (List.getElem_mem hil)))) (by rw [hlen]; exact Nat.lt_of_le_of_lt (by omega) hsm)
      rw [hlen] at hw
      refine w_X14_all_11 (by omega) ⟨fun hle => absurd hle (nI_ge hil (z_2 c4)), fun _ => ⟨i, ll.length, rfl, ⟨z_4 c1, c3, hil, c4⟩, ll[i], c5 i _ hy, ?_⟩⟩
      refine q_cR_of (fun x h' => x = q_nx h1 ∧ q_nx h' = q_nx h1 + 1 ∧ z_ext h1 h' ∧ z_Ar h' x ((hl ++ ll.take i) ++ [ll[i]])) hw (by omega) (q_lcle (by omega) (by omega)) (by omega) (Nat.le_trans hc5 hc6) trivial (fun x h' hp => ?_)
      obtain ⟨p1, p2, p3, p4⟩ := hp
      rw [nI_1]
      refine k_Jwd (Nat.le_refl _) hc5 (ih (i + 1) h' x (by omega) (z_ext_trans he p3) ?_ (Or.inr (by rw [p1]; exact he.1)))
      rw [List.take_succ, hy, ← List.append_assoc]
      exact p4
  refine w_X14_all_0 (by omega) ⟨⟨z_4 s1, s3⟩, a, a1, ⟨z_4 s1, s3⟩, b, b1, ll.length, ⟨z_4 b2.1.1, b2.2.1⟩, ?_⟩
  have := key ll.length 0 h a (by omega) (z_ext_refl _) (by simpa using a2) (Or.inl a1)
  rw [Nat.zero_mul] at this
  exact this
/-- which places of the loft are empty -/
def z_emp (pl sz : Nat → Nat) (ll : List Nat) (p : Nat) : Bool := ll.all fun x => !(decide (pl x ≤ p) && decide (p < pl x + sz x))
theorem z_nar1 : vp_nar .boolean (1 : Int32) = 1 := by decide
theorem z_nar0 : vp_nar .boolean (0 : Int32) = 0 := by decide
theorem z_empty (hd : 1 ≤ d) (hd2 : d < 2048) {up : Nat} {pl sz : Nat → Nat} (hS : z_Sim h s hl ll hk) (hb : ∀ x ∈ ll, z_Bal h x) (hup : q_I h s 4 = nI up) (hsm : q_s16 up) (hpl : ∀ x ∈ ll, q_I h x 2 = nI (pl x) ∧ q_I h x 0 = nI (sz x) ∧ pl x + sz x ≤ up) :
    q_Ct g m_X14_empty d 1 up [] [.ref s] h (fun o h' => ∃ b, o = .inl (some (.ref b)) ∧ z_ext h h' ∧ (492 ≤ b ∧ q_sh h' b = (1, 2, up)) ∧ ∀ p, p < up → q_I h' b p = (if z_emp pl sz ll p then 1 else 0)) := by
  obtain ⟨⟨s1, s2⟩, s3, -, ⟨a, a1, a2⟩, -⟩ := id hS
  obtain ⟨⟨c1, c2⟩, c3, c4, c5⟩ := id a2
  have hN : 492 ≤ q_nx h := by omega
  refine q_CtK ok_X14_empty (by omega) (Nat.le_of_ble_eq_true rfl) ?_ _ rfl rfl
  have key3 : ∀ n i (h1 : q_H), i + n = ll.length → z_ext h h1 → q_sh h1 (q_nx h) = (1, 2, up) → (∀ p, p < up → q_I h1 (q_nx h) p = (if z_emp pl sz (ll.take i) p then 1 else 0)) →
      q_K g m_X14_empty [] d 1 up h [] (fun o h' => ∃ b, o = .inl (some (.ref b)) ∧ z_ext h h' ∧ (492 ≤ b ∧ q_sh h' b = (1, 2, up)) ∧ ∀ p, p < up → q_I h' b p = (if z_emp pl sz ll p then 1 else 0)) 1 (0 + up) (24, [none, some (.ref (q_nx h)), some (.ref a), some (.int (nI ll.length)), some (.int (nI i)), none, none], [], h1) := by
    intro n
    induction n with
    | zero =>
      intro i h1 hi he hs hr
      obtain rfl : i = ll.length := by omega
      rw [List.take_length] at hr
      exact w_X14_empty_24 hd ⟨fun _ => ⟨⟨Nat.le_refl _, by omega⟩, _, rfl, he, ⟨hN, hs⟩, hr⟩, fun hn => absurd (Int32.le_refl _) hn⟩
    | succ n ih =>
      intro i h1 hi he hs hr
      have hil : i < ll.length := by omega
      have hy : ll[i]? = some ll[i] := List.getElem?_eq_getElem hil
      have hmem := List.getElem_mem hil
      obtain ⟨⟨b1, b2⟩, b3, b4, b5⟩ := z_Ar_ext he a2
      obtain ⟨p1, p2, p3⟩ := hpl _ hmem
      have hB := hb _ hmem
      obtain ⟨x1, x2, x3, -, -⟩ := he.2 _ hB.1.2
      refine w_X14_empty_24 hd ⟨fun hle => absurd hle (nI_ge hil (z_2 c4)), fun _ => ⟨i, ll.length, rfl, ⟨z_4 b1, b3, hil, b4⟩, ll[i], b5 i _ hy, ?_⟩⟩
      have key4 : ∀ m q (h2 : q_H), q + m = sz ll[i] → z_ext h h2 → q_sh h2 (q_nx h) = (1, 2, up) → (∀ p, p < up → q_I h2 (q_nx h) p = (if pl ll[i] ≤ p ∧ p < pl ll[i] + q then 0 else if z_emp pl sz (ll.take i) p then 1 else 0)) →
          q_K g m_X14_empty [] d 1 up h [] (fun o h' => ∃ b, o = .inl (some (.ref b)) ∧ z_ext h h' ∧ (492 ≤ b ∧ q_sh h' b = (1, 2, up)) ∧ ∀ p, p < up → q_I h' b p = (if z_emp pl sz ll p then 1 else 0)) 1 (0 + up) (33, [none, some (.ref (q_nx h)), some (.ref a), some (.int (nI ll.length)), some (.int (nI i)), some (.ref ll[i]), some (.int (nI q))], [], h2) := by
        intro m
        induction m with
        | zero =>
          intro q h2 hq he2 hs2 hr2
          obtain rfl : q = sz ll[i] := by omega
          obtain ⟨y1, y2, y3, -, -⟩ := he2.2 _ hB.1.2
          refine w_X14_empty_33 hd ⟨⟨z_4 hB.1.1, y1.trans hB.2⟩, fun _ => ?_, fun hn => absurd (by rw [y2, p2]; exact Int32.le_refl _) hn⟩
          rw [nI_1]
          refine ih (i + 1) h2 (by omega) he2 hs2 (fun p hp => ?_)
          rw [hr2 p hp, List.take_succ, hy]
          unfold z_emp
          rw [List.all_append]
          show _ = (if ((ll.take i).all (fun x => !(decide (pl x ≤ p) && decide (p < pl x + sz x))) && ((!(decide (pl ll[i] ≤ p) && decide (p < pl ll[i] + sz ll[i]))) && true)) = true then (1 : Int32) else 0)
          by_cases hc : pl ll[i] ≤ p ∧ p < pl ll[i] + sz ll[i]
          · rw [if_pos hc, decide_eq_true hc.1, decide_eq_true hc.2, Bool.and_true, Bool.and_self, Bool.not_true, Bool.and_false, if_neg Bool.false_ne_true]
          · rw [if_neg hc]
            have h9 : (decide (pl ll[i] ≤ p) && decide (p < pl ll[i] + sz ll[i])) = false := by
              by_cases h1 : pl ll[i] ≤ p
              · rw [decide_eq_false (show ¬ p < pl ll[i] + sz ll[i] from fun h2 => hc ⟨h1, h2⟩), Bool.and_false]
              · rw [decide_eq_false h1, Bool.false_and]
            rw [h9, Bool.not_false, Bool.true_and, Bool.and_true]
        | succ m ihm =>
          intro q h2 hq he2 hs2 hr2
          obtain ⟨y1, y2, y3, -, -⟩ := he2.2 _ hB.1.2
          have hlt : q < sz ll[i] := by omega
          have h31 : up < 2147483648 := z_2 hsm
          refine w_X14_empty_33 hd ⟨⟨z_4 hB.1.1, y1.trans hB.2⟩, fun hle => absurd hle (by rw [y2, p2]; exact nI_ge hlt (by omega)), fun _ => ⟨⟨z_4 hB.1.1, y1.trans hB.2⟩, pl ll[i] + q, up, by rw [y2, p1, nI_add], ⟨by omega, hs2, by omega, hsm⟩, ?_⟩⟩
          rw [nI_1, z_nar0]
          refine ihm (q + 1) _ (by omega) (z_ext_pI he2 (Nat.le_refl _)) hs2 (fun p hp => ?_)
          by_cases hpe : p = pl ll[i] + q
          · subst hpe
            rw [z_I_s, if_pos ⟨by omega, by omega⟩]
          · rw [z_I_j _ _ _ _ _ hpe, hr2 p hp]
            by_cases hc : pl ll[i] ≤ p ∧ p < pl ll[i] + q
            · rw [if_pos hc, if_pos ⟨hc.1, by omega⟩]
            · rw [if_neg hc, if_neg (show ¬ (pl ll[i] ≤ p ∧ p < pl ll[i] + (q + 1)) by omega)]
      exact key4 (sz ll[i]) 0 h1 (by omega) he hs (fun p hp => by rw [if_neg (by omega)]; exact hr p hp)
  have key1 : ∀ n i (h1 : q_H), i + n = up → z_ext h h1 → q_sh h1 (q_nx h) = (1, 2, up) → (∀ p, p < i → q_I h1 (q_nx h) p = 1) →
      q_K g m_X14_empty [] d 1 up h [] (fun o h' => ∃ b, o = .inl (some (.ref b)) ∧ z_ext h h' ∧ (492 ≤ b ∧ q_sh h' b = (1, 2, up)) ∧ ∀ p, p < up → q_I h' b p = (if z_emp pl sz ll p then 1 else 0)) 1 (0 + up) (6, [some (.ref s), some (.ref (q_nx h)), some (.int (nI i)), none, none, none, none], [], h1) := by
    intro n
    induction n with
    | zero =>
      intro i h1 hi he hs hr
      obtain rfl : i = up := by omega
      obtain ⟨y1, y2, y3, -, -⟩ := he.2 _ s2
      obtain ⟨⟨b1, b2⟩, b3, b4, b5⟩ := z_Ar_ext he a2
      refine w_X14_empty_6 hd ⟨⟨z_4 s1, y1.trans s3⟩, fun _ => ⟨⟨z_4 s1, y1.trans s3⟩, a, by rw [y3]; exact a1, ll.length, ⟨z_4 b1, b3⟩, ?_⟩, fun hn => absurd (by rw [y2, hup]; exact Int32.le_refl _) hn⟩
      exact key3 ll.length 0 h1 (by omega) he hs (fun p hp => by rw [hr p hp]; rfl)
    | succ n ih =>
      intro i h1 hi he hs hr
      obtain ⟨y1, y2, y3, -, -⟩ := he.2 _ s2
      have hil : i < up := by omega
      refine w_X14_empty_6 hd ⟨⟨z_4 s1, y1.trans s3⟩, fun hle => absurd hle (by rw [y2, hup]; exact nI_ge hil (z_2 hsm)), fun _ => ⟨i, up, rfl, ⟨by omega, hs, hil, hsm⟩, ?_⟩⟩
      rw [nI_1, z_nar1]
      refine ih (i + 1) _ (by omega) (z_ext_pI he (Nat.le_refl _)) hs (fun p hp => ?_)
      by_cases hpi : p = i
      · subst hpi; rw [z_I_s]
      · rw [z_I_j _ _ _ _ _ hpi]; exact hr p (by omega)
  refine w_X14_empty_0 hd ⟨⟨z_4 s1, s3⟩, up, hup, hsm, ⟨Nat.le_refl _, by omega⟩, ?_⟩
  exact key1 up 0 _ (by omega) (z_ext_new _ _) (z_sh_new _ _) (fun p hp => absurd hp (Nat.not_lt_zero _))
/-- the better one of a gap and the one that is had -/
def z_nb (want best x b : Int32) : Int32 := if want = 0 then (if x ≤ best then best else x) else (if 0 ≤ best then best else if x < want then best else b)
def z_gs (e : Nat → Bool) (up : Nat) (want : Int32) : Nat → Nat → Nat → Int32 → Int32
  | 0, _, _, best => best
  | n + 1, p, b, best => if decide (p < up) && e p then z_gs e up want n (p + 1) b best else z_gs e up want n (p + 1) (p + 1) (z_nb want best (nI p - nI b) (nI b))
def z_gap (e : Nat → Bool) (up : Nat) (want : Int32) : Int32 := z_gs e up want (up + 1) 0 0 (if want ≤ 0 then 0 else -1)
set_option maxHeartbeats 1000000 in
theorem z_gapC (hd : 2 ≤ d) (hd2 : d < 2048) {up : Nat} {want : Int32} {pl sz : Nat → Nat} (hS : z_Sim h s hl ll hk) (hb : ∀ x ∈ ll, z_Bal h x) (hup : q_I h s 4 = nI up) (hsm : q_s16 up) (hpl : ∀ x ∈ ll, q_I h x 2 = nI (pl x) ∧ q_I h x 0 = nI (sz x) ∧ pl x + sz x ≤ up) (hw : 0 ≤ want) :
    q_Ct g m_X14_gap d 1 up [] [.ref s, .int want] h (fun o h' => ∃ y, o = .inl (some (.int y)) ∧ y = z_gap (z_emp pl sz ll) up want ∧ z_ext h h') := by
  obtain ⟨⟨s1, s2⟩, s3, -⟩ := id hS
  have hwn : want ≤ 0 → want = 0 := fun h => Int32.le_antisymm h hw
  have h31 : up < 65536 := hsm
  refine q_CtK ok_X14_gap (by omega) (Nat.le_of_ble_eq_true rfl) ?_ _ rfl rfl
  have key : ∀ (h1 : q_H) (em : Nat), z_ext h h1 → (492 ≤ em ∧ q_sh h1 em = (1, 2, up)) → (∀ p, p < up → q_I h1 em p = (if z_emp pl sz ll p then 1 else 0)) → ∀ n p b best, p + n = up + 1 →
      q_K g m_X14_gap [] d 1 up h [] (fun o h' => ∃ y, o = .inl (some (.int y)) ∧ y = z_gs (z_emp pl sz ll) up want n p b best ∧ z_ext h h') 1 up (13, [some (.ref s), some (.int want), some (.ref em), some (.int best), some (.int (nI b)), some (.int (nI p))], [], h1) := by
    intro h1 em he hem hev n
    obtain ⟨y1, y2, y3, -, -⟩ := he.2 _ s2
    have hsS : 400 ≤ s ∧ q_sh h1 s = (0, 12, 0) := ⟨z_4 s1, y1.trans s3⟩
    have hupS : q_I h1 s 4 = nI up := by rw [y2]; exact hup
    induction n with
    | zero =>
      intro p b best hp
      obtain rfl : p = up + 1 := by omega
      exact w_X14_gap_13 (by omega) ⟨hsS, fun _ => ⟨rfl, ⟨Nat.le_refl _, Nat.le_refl _⟩, best, rfl, rfl, he⟩, fun hn => absurd (by rw [hupS]; exact nI_lt (by omega) (by omega)) hn⟩
    | succ n ih =>
      intro p b best hp
      have hpu : p ≤ up := by omega
      have hnlt : ¬ q_I h1 s 4 < nI p := by rw [hupS]; exact nI_nlt hpu (by omega)
      have fin : ∀ best', best' = z_nb want best (nI p - nI b) (nI b) → (decide (p < up) && z_emp pl sz ll p) = false →
          q_K g m_X14_gap [] d 1 up h [] (fun o h' => ∃ y, o = .inl (some (.int y)) ∧ y = z_gs (z_emp pl sz ll) up want (n + 1) p b best ∧ z_ext h h') 1 up (13, [some (.ref s), some (.int want), some (.ref em), some (.int best'), some (.int (nI p + 1)), some (.int (nI p + 1))], [], h1) := by
        intro best' hb' hf
        rw [nI_1]
        have := ih (p + 1) (p + 1) best' (by omega)
        rw [hb'] at this ⊢
        unfold z_gs
        rw [hf, if_neg Bool.false_ne_true]
        exact this
      have chk : (decide (p < up) && z_emp pl sz ll p) = false →
        (want ≤ 0 → ((¬ want = 0 → q_K g m_X14_gap [] d 1 up h [] (fun o h' => ∃ y, o = .inl (some (.int y)) ∧ y = z_gs (z_emp pl sz ll) up want (n + 1) p b best ∧ z_ext h h') 1 up (13, [some (.ref s), some (.int want), some (.ref em), some (.int best), some (.int (nI p + 1)), some (.int (nI p + 1))], [], h1)) ∧ (want = 0 → ((nI p - nI b ≤ best → q_K g m_X14_gap [] d 1 up h [] (fun o h' => ∃ y, o = .inl (some (.int y)) ∧ y = z_gs (z_emp pl sz ll) up want (n + 1) p b best ∧ z_ext h h') 1 up (13, [some (.ref s), some (.int want), some (.ref em), some (.int best), some (.int (nI p + 1)), some (.int (nI p + 1))], [], h1)) ∧ (¬ nI p - nI b ≤ best → q_K g m_X14_gap [] d 1 up h [] (fun o h' => ∃ y, o = .inl (some (.int y)) ∧ y = z_gs (z_emp pl sz ll) up want (n + 1) p b best ∧ z_ext h h') 1 up (13, [some (.ref s), some (.int want), some (.ref em), some (.int (nI p - nI b)), some (.int (nI p + 1)), some (.int (nI p + 1))], [], h1)))))) := fun hf hw0 => ⟨fun h2 => absurd (hwn hw0) h2, fun h2 => ⟨fun h3 => fin _ (by rw [z_nb, if_pos h2, if_pos h3]) hf, fun h3 => fin _ (by rw [z_nb, if_pos h2, if_neg h3]) hf⟩⟩
      refine w_X14_gap_13 (by omega) ⟨hsS, fun hlt => absurd hlt hnlt, fun _ => ⟨hsS, fun hle => ?_, fun hnle => ?_⟩⟩
      · have hf : (decide (p < up) && z_emp pl sz ll p) = false := by
          have : ¬ p < up := fun hlt => absurd hle (by rw [hupS]; exact nI_ge hlt (by omega))
          simp [this]
        refine ⟨chk hf, fun hw1 => ?_⟩
        have hw0 : ¬ want = 0 := fun e => hw1 (by rw [e]; exact Int32.le_refl _)
        refine ⟨fun h2 => ⟨fun _ => fin _ (by rw [z_nb, if_neg hw0, if_pos h2]) hf, fun h3 => absurd h3 hw0⟩, fun h2 => ⟨fun h3 => ⟨fun _ => fin _ (by rw [z_nb, if_neg hw0, if_neg h2, if_pos h3]) hf, fun h4 => absurd h4 hw0⟩, fun h3 => ⟨fun _ => fin _ (by rw [z_nb, if_neg hw0, if_neg h2, if_neg h3]) hf, fun h4 => absurd h4 hw0⟩⟩⟩
      · have hlt : p < up := by
          rcases Nat.lt_or_ge p up with h | h
          · exact h
          · exact absurd (by rw [hupS]; exact nI_le h (by omega)) hnle
        refine ⟨p, up, rfl, ⟨z_4 hem.1, hem.2, hlt, hsm⟩, fun hz => ?_, fun hz => ?_⟩
        · have hf : (decide (p < up) && z_emp pl sz ll p) = false := by
            rw [hev p hlt] at hz
            by_cases hc : z_emp pl sz ll p = true
            · rw [if_pos hc] at hz; exact absurd hz (by decide)
            · simp [hc]
          refine ⟨chk hf, fun hw1 => ?_⟩
          have hw0 : ¬ want = 0 := fun e => hw1 (by rw [e]; exact Int32.le_refl _)
          refine ⟨fun h2 => ⟨fun _ => fin _ (by rw [z_nb, if_neg hw0, if_pos h2]) hf, fun h3 => absurd h3 hw0⟩, fun h2 => ⟨fun h3 => ⟨fun _ => fin _ (by rw [z_nb, if_neg hw0, if_neg h2, if_pos h3]) hf, fun h4 => absurd h4 hw0⟩, fun h3 => ⟨fun _ => fin _ (by rw [z_nb, if_neg hw0, if_neg h2, if_neg h3]) hf, fun h4 => absurd h4 hw0⟩⟩⟩
        · have he1 : z_emp pl sz ll p = true := by
            rw [hev p hlt] at hz
            by_cases hc : z_emp pl sz ll p = true
            · exact hc
            · rw [if_neg hc] at hz; exact absurd rfl hz
          rw [nI_1]
          have := ih (p + 1) b best (by omega)
          unfold z_gs
          rw [he1, decide_eq_true hlt, Bool.and_self, if_pos rfl]
          exact this
  refine w_X14_gap_0 (by omega) ⟨⟨z_4 s1, s3⟩, ?_⟩
  refine q_cR_of (fun b h' => z_ext h h' ∧ (492 ≤ b ∧ q_sh h' b = (1, 2, up)) ∧ ∀ p, p < up → q_I h' b p = (if z_emp pl sz ll p then 1 else 0)) (z_empty (d := d - 1) (by omega) (by omega) hS hb hup hsm hpl) (by omega) (q_lcle (by omega) (by omega)) (by omega) (by omega) trivial (fun em h1 hp => ?_)
  obtain ⟨p1, p2, p3⟩ := hp
  rw [show 0 + 1 = 1 from rfl, show 0 + up = up from Nat.zero_add _]
  refine ⟨fun h2 => ?_, fun h2 => ?_⟩
  · have := key h1 em p1 p2 p3 (up + 1) 0 0 0 (by omega)
    rw [z_gap, if_pos h2]
    exact this
  · have := key h1 em p1 p2 p3 (up + 1) 0 0 (-1) (by omega)
    rw [z_gap, if_neg h2]
    exact this
end ZSIM1
