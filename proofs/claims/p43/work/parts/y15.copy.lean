/-! CONTRACTS of the law's barn, six: copyAll -/
theorem z_rp_len (h : q_H) (x : Nat) : (z_rp h x).length = z_rl h x := by unfold z_rp; rw [List.length_map, List.length_range]
theorem z_rp_drop {h : q_H} {x j : Nat} (hj : j < z_rl h x) : (z_rp h x).drop j = q_R h (z_ra h x) j :: (z_rp h x).drop (j + 1) := by
  have e : (z_rp h x)[j]? = some (q_R h (z_ra h x) j) := by unfold z_rp; rw [List.getElem?_map, List.getElem?_range hj]; rfl
  obtain ⟨h1, h2⟩ := List.getElem?_eq_some_iff.mp e
  rw [List.drop_eq_getElem_cons h1, h2]
section ZCOPYC
variable {g : q_G} {d : Nat} {h : q_H} {s : Nat} {hk : List (Option Nat)} {U : Nat → Prop} {B up : Nat} {prom : Int32} {ol wl : List Nat}
abbrev z_KC (g : q_G) (d : Nat) (h : q_H) (s : Nat) (hk : List (Option Nat)) (U : Nat → Prop) (B : Nat) (ol : List Nat) (σf σ : z_St) (pos : Nat) (ls : List (Option Value)) (h1 : q_H) : Prop :=
  q_K g m_X14_copyAll [] d (2 + 3 * ol.length) (0 + 3 * B * ol.length) h [] (z_Qc h s hk U ol σf) (2 + 3 * σ.2.2.1.length) (0 + 3 * B * σ.2.2.1.length) (pos, ls, [], h1)
set_option maxHeartbeats 2000000 in
theorem z_copy_L120 {h1 : q_H} {a t : Nat} {σ : z_St} (hd : 4 ≤ d) (hs : q_sh h s = (0, 12, 0)) (ha : z_Ar h a ol) (hL : z_Lp h h1 s hk U up prom ol t σ) :
    z_KC g d h s hk U B ol σ σ 120 [some (.ref s), some (.ref a), none, some (.ref t), none, none, none, none, none, none, none, none, none] h1 := by
  obtain ⟨l1, ⟨r1, r2, r3, r4, r5, r6⟩, l3, l4, l5⟩ := id hL
  have ha1 := z_Ar_ch hs l1 ha
  have hle := z_Iv_le l3
  have hms : 3 * B * σ.2.2.1.length ≤ 3 * B * ol.length := Nat.mul_le_mul_left _ hle
  have hs1 : 400 ≤ s ∧ q_sh h1 s = (0, 12, 0) := ⟨z_4 r3.1.1, r3.2.1⟩
  have ha2 : 400 ≤ a ∧ q_sh h1 a = (3, 6, ol.length) := ⟨z_4 ha1.1.1, ha1.2.1⟩
  have ht2 : 400 ≤ t ∧ q_sh h1 t = (3, 6, σ.2.2.1.length) := ⟨z_4 r4.1.1, r4.2.1⟩
  refine w_X14_copyAll_120 (by omega) ⟨hs1, hs1, hs1, hs1, hs1, ol.length, ha2, σ.2.2.1.length, ht2, hs1, ol.length, ha2, σ.2.2.1.length, ht2, rfl, ⟨by omega, by omega⟩, _, rfl, rfl, z_ch_trans l1 (z_ch_trans z_ch_pIs (z_ch_trans z_ch_pIs z_ch_pIs)), r1, r3, fun x hx j hj => ?_, ⟨?_, ?_, ?_, ?_, fun k k9 k10 k11 k12 => ?_⟩, l5⟩
  · have hxs : x ≠ s := fun e => r2 (by rw [← e]; exact hx)
    rw [z_I_a _ _ _ _ _ hxs, z_I_a _ _ _ _ _ hxs, z_I_a _ _ _ _ _ hxs]
    exact r5 x hx j hj
  · rw [z_I_j _ _ _ _ _ (by decide), z_I_j _ _ _ _ _ (by decide), z_I_j _ _ _ _ _ (by decide)]
    exact r6.1
  · rw [z_I_j _ _ _ _ _ (by decide), z_I_j _ _ _ _ _ (by decide), z_I_s, l4 9 (by decide)]
  · rw [z_I_j _ _ _ _ _ (by decide), z_I_s, z_I_j _ _ _ _ _ (by decide), l4 10 (by decide)]
  · rw [z_I_s, z_I_j _ _ _ _ _ (by decide), z_I_j _ _ _ _ _ (by decide), l4 12 (by decide)]
  · rw [z_I_j _ _ _ _ _ k12, z_I_j _ _ _ _ _ k10, z_I_j _ _ _ _ _ k9]
    exact l4 k k11
set_option maxHeartbeats 2000000 in
theorem z_copy_L89 {a : Nat} (hd : 4 ≤ d) (hd2 : d < 2048) (hs : q_sh h s = (0, 12, 0)) (ha : z_Ar h a ol) (hW : z_Wf h U) (hu : ¬ U s) (h16 : up < 65536) (hupB : up ≤ B) (hB : ∀ l : List Nat, l.Nodup → (∀ x ∈ l, U x) → l.length ≤ B) (hBs : q_s16 B) :
    ∀ n k (h1 : q_H) (t : Nat) (σ : z_St), k + n = ol.length + 1 → z_Lp h h1 s hk U up prom ol t σ → z_KC g d h s hk U B ol (z_cp3 (z_rp h) up prom ol n k σ) σ 89 [some (.ref s), some (.ref a), none, some (.ref t), some (.int (nI k)), none, none, none, none, none, none, none, none] h1 := by
  have ho16 : ol.length < 65536 := ha.2.2.1
  intro n
  induction n with
  | zero =>
    intro k h1 t σ hk1 hL
    obtain ⟨l1, l2, l3, -, -⟩ := id hL
    have hle := z_Iv_le l3
    have r4 := l2.2.2.2.1
    exact w_X14_copyAll_89 (by omega) ⟨σ.2.2.1.length, ⟨z_4 r4.1.1, r4.2.1⟩, fun _ => z_copy_L120 hd hs ha hL, fun hn => absurd (nI_le (by omega) (by omega)) hn⟩
  | succ n ih =>
    intro k h1 t σ hk1 hL
    obtain ⟨l1, l2, l3, l4, l5⟩ := id hL
    have hle := z_Iv_le l3
    have r4 := l2.2.2.2.1
    by_cases hkl : k < σ.2.2.1.length
    · obtain ⟨x, hy⟩ : ∃ x, σ.2.2.1[k]? = some x := ⟨_, List.getElem?_eq_getElem hkl⟩
      have hxm := List.mem_of_getElem? hy
      have hUx : U x := l3.2.2.2.1 x (l3.2.2.1.1 x hxm)
      obtain ⟨e1, e2, e3, e4⟩ := z_rp_ch hs hu l1 hW hUx
      obtain ⟨xb, ⟨q1, q2, q3, q4⟩, -⟩ := l2.1 x hUx
      obtain ⟨xb0, ⟨w1, w2, w3, w4⟩, w5⟩ := hW x hUx
      have hc3 : z_cp3 (z_rp h) up prom ol (n + 1) k σ = z_cp3 (z_rp h) up prom ol n (k + 1) ((z_rp h x).foldl (z_tk up prom ol) σ) := by
        show (match σ.2.2.1[k]? with | none => σ | some x => z_cp3 (z_rp h) up prom ol n (k + 1) ((z_rp h x).foldl (z_tk up prom ol) σ)) = _
        rw [hy]
      have key : ∀ m j (h2 : q_H) (t2 : Nat) (σ2 : z_St), j + m = z_rl h x → z_Lp h h2 s hk U up prom ol t2 σ2 →
          z_KC g d h s hk U B ol (z_cp3 (z_rp h) up prom ol n (k + 1) (((z_rp h x).drop j).foldl (z_tk up prom ol) σ2)) σ2 103 [some (.ref s), some (.ref a), none, some (.ref t2), some (.int (nI k)), some (.ref (z_ra h x)), some (.int (nI (z_rl h x))), some (.int (nI j)), none, none, none, none, none] h2 := by
        intro m
        induction m with
        | zero =>
          intro j h2 t2 σ2 hj hL2
          obtain rfl : j = z_rl h x := by omega
          rw [List.drop_eq_nil_of_le (by rw [z_rp_len]; exact Nat.le_refl _), List.foldl_nil]
          have := ih (k + 1) h2 t2 σ2 (by omega) hL2
          rw [← nI_1] at this
          exact w_X14_copyAll_103 (by omega) ⟨fun _ => this, fun hn => absurd (Int32.le_refl _) hn⟩
        | succ m ihm =>
          intro j h2 t2 σ2 hj hL2
          have hjl : j < z_rl h x := by omega
          obtain ⟨m1, m2, m3, m4, m5⟩ := id hL2
          obtain ⟨y1, y2, y3, y4⟩ := z_rp_ch hs hu m1 hW hUx
          have hsh2 : q_sh h2 (z_ra h x) = (3, 6, z_rl h x) := (m1.2 _ w2.2).1.trans w3
          rw [z_rp_drop hjl, List.foldl_cons]
          refine w_X14_copyAll_103 (by omega) ⟨fun hle => absurd hle (nI_ge hjl (by omega)), fun _ => ⟨j, z_rl h x, rfl, ⟨z_4 w2.1, hsh2, hjl, by show z_rl h x < 65536; omega⟩, ?_⟩⟩
          rw [y3]
          refine z_tkC (K := 2) (N := 0) (F := fun t' h' k' n' => q_K g m_X14_copyAll [] d (2 + 3 * ol.length) (0 + 3 * B * ol.length) h [] (z_Qc h s hk U ol (z_cp3 (z_rp h) up prom ol n (k + 1) (((z_rp h x).drop (j + 1)).foldl (z_tk up prom ol) (z_tk up prom ol σ2 (q_R h (z_ra h x) j))))) k' n' (103, [some (.ref s), some (.ref a), none, some (.ref t'), some (.int (nI k)), some (.ref (z_ra h x)), some (.int (nI (z_rl h x))), some (.int (nI j + 1)), none, none, none, none, none], [], h'))
            hd hd2 hs hL2 ha (fun y hy => w5 j y hjl hy) h16 hupB hB hBs (Nat.le_refl _) (Nat.le_refl _) (fun t3 h3 hL3 => ?_)
          have := ihm (j + 1) h3 t3 _ (by omega) hL3
          rw [← nI_1] at this
          exact this
      rw [hc3]
      refine w_X14_copyAll_89 (by omega) ⟨σ.2.2.1.length, ⟨z_4 r4.1.1, r4.2.1⟩, fun hle => absurd hle (nI_ge hkl (by omega)), fun _ => ⟨k, σ.2.2.1.length, rfl, ⟨z_4 r4.1.1, r4.2.1, hkl, r4.2.2.1⟩, x, r4.2.2.2 k x hy, ⟨z_4 xb.1.1, xb.2⟩, z_ra h1 x, q1, z_rl h1 x, ⟨z_4 q2.1, q3⟩, ?_⟩⟩
      rw [e1, e2]
      have := key (z_rl h x) 0 h1 t σ (by omega) hL
      rw [List.drop_zero] at this
      exact this
    · have hc3 : z_cp3 (z_rp h) up prom ol (n + 1) k σ = σ := by
        show (match σ.2.2.1[k]? with | none => σ | some x => z_cp3 (z_rp h) up prom ol n (k + 1) ((z_rp h x).foldl (z_tk up prom ol) σ)) = _
        rw [List.getElem?_eq_none (by omega)]
      rw [hc3]
      exact w_X14_copyAll_89 (by omega) ⟨σ.2.2.1.length, ⟨z_4 r4.1.1, r4.2.1⟩, fun _ => z_copy_L120 hd hs ha hL, fun hn => absurd (nI_le (by omega) (by omega)) hn⟩
set_option maxHeartbeats 2000000 in
theorem z_copy_L38 {a b : Nat} (hd : 4 ≤ d) (hd2 : d < 2048) (hs : q_sh h s = (0, 12, 0)) (ha : z_Ar h a ol) (hb : z_Ar h b wl) (hwU : ∀ x ∈ wl, U x) (hW : z_Wf h U) (hu : ¬ U s) (h16 : up < 65536) (hupB : up ≤ B) (hB : ∀ l : List Nat, l.Nodup → (∀ x ∈ l, U x) → l.length ≤ B) (hBs : q_s16 B) :
    ∀ n p (h1 : q_H) (t : Nat) (σ : z_St), p + n = up → z_Lp h h1 s hk U up prom ol t σ → z_KC g d h s hk U B ol (z_cp3 (z_rp h) up prom ol (ol.length + 1) 0 (z_cp2 (z_rp h) up prom ol wl p n σ)) σ 38 [some (.ref s), some (.ref a), some (.ref b), some (.ref t), some (.int (nI p)), none, none, none, none, none, none, none, none] h1 := by
  have hw16 : wl.length < 65536 := hb.2.2.1
  intro n
  induction n with
  | zero =>
    intro p h1 t σ hp hL
    obtain rfl : p = up := by omega
    obtain ⟨l1, l2, l3, -, -⟩ := id hL
    have hs1 : 400 ≤ s ∧ q_sh h1 s = (0, 12, 0) := ⟨z_4 l2.2.2.1.1.1, l2.2.2.1.2.1⟩
    have hup1 : q_I h1 s 4 = nI p := l2.2.2.2.2.2.2.1
    exact w_X14_copyAll_38 (by omega) ⟨hs1, fun _ => z_copy_L89 hd hd2 hs ha hW hu h16 hupB hB hBs (ol.length + 1) 0 h1 t σ (by omega) hL, fun hn => absurd (by rw [hup1]; exact Int32.le_refl _) hn⟩
  | succ n ih =>
    intro p h1 t σ hp hL
    have hpu : p < up := by omega
    obtain ⟨l1, l2, l3, -, -⟩ := id hL
    have hs1 : 400 ≤ s ∧ q_sh h1 s = (0, 12, 0) := ⟨z_4 l2.2.2.1.1.1, l2.2.2.1.2.1⟩
    have hup1 : q_I h1 s 4 = nI up := l2.2.2.2.2.2.2.1
    have hb1 := z_Ar_ch hs l1 hb
    have key : ∀ m i (h2 : q_H) (t2 : Nat) (σ2 : z_St), i + m = wl.length → z_Lp h h2 s hk U up prom ol t2 σ2 →
        z_KC g d h s hk U B ol (z_cp3 (z_rp h) up prom ol (ol.length + 1) 0 (z_cp2 (z_rp h) up prom ol wl (p + 1) n ((wl.drop i).foldl (z_cw (z_rp h) up prom ol (nI p)) σ2))) σ2 49 [some (.ref s), some (.ref a), some (.ref b), some (.ref t2), some (.int (nI p)), some (.ref b), some (.int (nI wl.length)), some (.int (nI i)), none, none, none, none, none] h2 := by
      intro m
      induction m with
      | zero =>
        intro i h2 t2 σ2 hi hL2
        obtain rfl : i = wl.length := by omega
        rw [List.drop_length, List.foldl_nil]
        have := ih (p + 1) h2 t2 σ2 (by omega) hL2
        rw [← nI_1] at this
        exact w_X14_copyAll_49 (by omega) ⟨fun _ => this, fun hn => absurd (Int32.le_refl _) hn⟩
      | succ m ihm =>
        intro i h2 t2 σ2 hi hL2
        have hil : i < wl.length := by omega
        obtain ⟨m1, m2, m3, m4, m5⟩ := id hL2
        have hb2 := z_Ar_ch hs m1 hb
        rw [List.drop_eq_getElem_cons hil, List.foldl_cons]
        have hy : wl[i]? = some wl[i] := List.getElem?_eq_getElem hil
        have hUx := hwU _ (List.getElem_mem hil)
        revert hy hUx
        generalize wl[i] = x
        intro hy hUx
        obtain ⟨xb, ⟨q1, q2, q3, q4⟩, -⟩ := m2.1 x hUx
        obtain ⟨xb0, ⟨w1, w2, w3, w4⟩, w5⟩ := hW x hUx
        obtain ⟨e1, e2, e3, e4⟩ := z_rp_ch hs hu m1 hW hUx
        have hpl : q_I h2 x 2 = σ2.2.2.2.1 x 2 := m2.2.2.2.2.1 x hUx 2 (by decide)
        have hxB : 400 ≤ x ∧ q_sh h2 x = (0, 11, 0) := ⟨z_4 xb.1.1, xb.2⟩
        refine w_X14_copyAll_49 (by omega) ⟨fun hle => absurd hle (nI_ge hil (by omega)), fun _ => ⟨i, wl.length, rfl, ⟨z_4 hb2.1.1, hb2.2.1, hil, hw16⟩, x, hb2.2.2.2 i x hy, hxB, fun hne => ?_, fun he => ⟨hxB, z_ra h2 x, q1, z_rl h2 x, ⟨z_4 q2.1, q3⟩, ?_⟩⟩⟩
        · rw [hpl] at hne
          have hcw : z_cw (z_rp h) up prom ol (nI p) σ2 x = σ2 := by unfold z_cw; rw [if_neg hne]
          rw [hcw, nI_1]
          exact ihm (i + 1) h2 t2 σ2 (by omega) hL2
        · rw [hpl] at he
          have hcw : z_cw (z_rp h) up prom ol (nI p) σ2 x = (z_rp h x).foldl (z_tk up prom ol) σ2 := by unfold z_cw; rw [if_pos he]
          rw [hcw, e1, e2]
          have key68 : ∀ q j (h3 : q_H) (t3 : Nat) (σ3 : z_St), j + q = z_rl h x → z_Lp h h3 s hk U up prom ol t3 σ3 →
              z_KC g d h s hk U B ol (z_cp3 (z_rp h) up prom ol (ol.length + 1) 0 (z_cp2 (z_rp h) up prom ol wl (p + 1) n ((wl.drop (i + 1)).foldl (z_cw (z_rp h) up prom ol (nI p)) (((z_rp h x).drop j).foldl (z_tk up prom ol) σ3)))) σ3 68 [some (.ref s), some (.ref a), some (.ref b), some (.ref t3), some (.int (nI p)), some (.ref b), some (.int (nI wl.length)), some (.int (nI i)), none, some (.ref (z_ra h x)), some (.int (nI (z_rl h x))), some (.int (nI j)), none] h3 := by
            intro q
            induction q with
            | zero =>
              intro j h3 t3 σ3 hj hL3
              obtain rfl : j = z_rl h x := by omega
              rw [List.drop_eq_nil_of_le (by rw [z_rp_len]; exact Nat.le_refl _), List.foldl_nil]
              have := ihm (i + 1) h3 t3 σ3 (by omega) hL3
              refine w_X14_copyAll_68 (by omega) ⟨fun _ => ?_, fun hn => absurd (Int32.le_refl _) hn⟩
              rw [nI_1]
              exact this
            | succ q ihq =>
              intro j h3 t3 σ3 hj hL3
              have hjl : j < z_rl h x := by omega
              obtain ⟨n1, n2, n3, n4, n5⟩ := id hL3
              obtain ⟨y1, y2, y3, y4⟩ := z_rp_ch hs hu n1 hW hUx
              have hsh3 : q_sh h3 (z_ra h x) = (3, 6, z_rl h x) := (n1.2 _ w2.2).1.trans w3
              rw [z_rp_drop hjl, List.foldl_cons]
              refine w_X14_copyAll_68 (by omega) ⟨fun hle => absurd hle (nI_ge hjl (by omega)), fun _ => ⟨j, z_rl h x, rfl, ⟨z_4 w2.1, hsh3, hjl, by show z_rl h x < 65536; omega⟩, ?_⟩⟩
              rw [y3]
              refine z_tkC (K := 2) (N := 0) (F := fun t' h' k' n' => q_K g m_X14_copyAll [] d (2 + 3 * ol.length) (0 + 3 * B * ol.length) h [] (z_Qc h s hk U ol (z_cp3 (z_rp h) up prom ol (ol.length + 1) 0 (z_cp2 (z_rp h) up prom ol wl (p + 1) n ((wl.drop (i + 1)).foldl (z_cw (z_rp h) up prom ol (nI p)) (((z_rp h x).drop (j + 1)).foldl (z_tk up prom ol) (z_tk up prom ol σ3 (q_R h (z_ra h x) j))))))) k' n' (68, [some (.ref s), some (.ref a), some (.ref b), some (.ref t'), some (.int (nI p)), some (.ref b), some (.int (nI wl.length)), some (.int (nI i)), none, some (.ref (z_ra h x)), some (.int (nI (z_rl h x))), some (.int (nI j + 1)), none], [], h'))
                hd hd2 hs hL3 ha (fun y hy => w5 j y hjl hy) h16 hupB hB hBs (Nat.le_refl _) (Nat.le_refl _) (fun t4 h4 hL4 => ?_)
              have := ihq (j + 1) h4 t4 _ (by omega) hL4
              rw [nI_1]
              exact this
          have := key68 (z_rl h x) 0 h2 t2 σ2 (by omega) hL2
          rw [List.drop_zero] at this
          exact this
    refine w_X14_copyAll_38 (by omega) ⟨hs1, fun hle => absurd hle (by rw [hup1]; exact nI_ge hpu (by omega)), fun _ => ⟨wl.length, ⟨z_4 hb1.1.1, hb1.2.1⟩, ?_⟩⟩
    have := key wl.length 0 h1 t σ (by omega) hL
    rw [List.drop_zero] at this
    exact this
set_option maxHeartbeats 2000000 in
theorem z_copyC (hd : 4 ≤ d) (hd2 : d < 2048) (hS : z_Sim h s ol wl hk) (hW : z_Wf h U) (hu : ¬ U s) (hhk : ∀ x, some x ∈ hk → U x) (hol : (∀ x ∈ ol, U x) ∧ ol.Nodup) (hwl : (∀ x ∈ wl, U x ∧ x ∉ ol) ∧ wl.Nodup) (hup : q_I h s 4 = nI up) (h16 : up < 65536) (hupB : up ≤ B) (hB : ∀ l : List Nat, l.Nodup → (∀ x ∈ l, U x) → l.length ≤ B) (hBs : q_s16 B)
    (hpl : ∀ x ∈ wl, ∃ p z, q_I h x 2 = nI p ∧ q_I h x 0 = nI z ∧ p + z ≤ up) (hsz : ∀ x, U x → ∃ z, 0 < z ∧ z < 65536 ∧ q_I h x 0 = nI z) :
    q_Ct g m_X14_copyAll d (2 + 3 * ol.length) (0 + 3 * B * ol.length) [] [.ref s] h (z_Qc h s hk U ol (z_copy (z_rp h) up (q_I h s 5) ol wl hk (q_I h) (q_I h s 11))) := by
  obtain ⟨⟨s1, s2⟩, s3, ⟨a, a1, a2⟩, ⟨b, b1, b2⟩, c, c1, c2⟩ := id hS
  have hk16 : hk.length < 65536 := c2.2.2.1
  refine q_CtK ok_X14_copyAll (by omega) (Nat.le_of_ble_eq_true rfl) ?_ _ rfl rfl
  have key : ∀ m i (h1 : q_H) (t : Nat) (σ : z_St), i + m = hk.length → z_Lp h h1 s hk U up (q_I h s 5) ol t σ →
      z_KC g d h s hk U B ol (z_cp3 (z_rp h) up (q_I h s 5) ol (ol.length + 1) 0 (z_cp2 (z_rp h) up (q_I h s 5) ol wl 0 up ((hk.drop i).foldl (z_tk up (q_I h s 5) ol) σ))) σ 21 [some (.ref s), some (.ref a), some (.ref b), some (.ref t), some (.ref c), some (.int (nI hk.length)), some (.int (nI i)), none, none, none, none, none, none] h1 := by
    intro m
    induction m with
    | zero =>
      intro i h1 t σ hi hL
      obtain rfl : i = hk.length := by omega
      rw [List.drop_length, List.foldl_nil]
      exact w_X14_copyAll_21 (by omega) ⟨fun _ => z_copy_L38 hd hd2 s3 a2 b2 (fun x hx => (hwl.1 x hx).1) hW hu h16 hupB hB hBs up 0 h1 t σ (by omega) hL, fun hn => absurd (Int32.le_refl _) hn⟩
    | succ m ihm =>
      intro i h1 t σ hi hL
      have hil : i < hk.length := by omega
      obtain ⟨l1, l2, l3, l4, l5⟩ := id hL
      have hc1 := z_Ao_ch s3 l1 c2
      rw [List.drop_eq_getElem_cons hil, List.foldl_cons]
      have hy : hk[i]? = some hk[i] := List.getElem?_eq_getElem hil
      have hUx : ∀ x, hk[i] = some x → U x := fun x hx => hhk x (by rw [← hx]; exact List.getElem_mem hil)
      revert hy hUx
      generalize hk[i] = o
      intro hy hUx
      refine w_X14_copyAll_21 (by omega) ⟨fun hle => absurd hle (nI_ge hil (by omega)), fun _ => ⟨i, hk.length, rfl, ⟨z_4 hc1.1.1, hc1.2.1, hil, hk16⟩, ?_⟩⟩
      rw [hc1.2.2.2 i o hy]
      refine z_tkC (K := 2) (N := 0) (F := fun t' h' k' n' => q_K g m_X14_copyAll [] d (2 + 3 * ol.length) (0 + 3 * B * ol.length) h [] (z_Qc h s hk U ol (z_cp3 (z_rp h) up (q_I h s 5) ol (ol.length + 1) 0 (z_cp2 (z_rp h) up (q_I h s 5) ol wl 0 up ((hk.drop (i + 1)).foldl (z_tk up (q_I h s 5) ol) (z_tk up (q_I h s 5) ol σ o))))) k' n' (21, [some (.ref s), some (.ref a), some (.ref b), some (.ref t'), some (.ref c), some (.int (nI hk.length)), some (.int (nI i + 1)), none, none, none, none, none, none], [], h'))
        hd hd2 s3 hL a2 hUx h16 hupB hB hBs (Nat.le_refl _) (Nat.le_refl _) (fun t3 h3 hL3 => ?_)
      have := ihm (i + 1) h3 t3 _ (by omega) hL3
      rw [nI_1]
      exact this
  have e1 := z_ext_new h (3, 6, 0)
  have hn0 : q_nx (q_new h (3, 6, 0)) = q_nx h + 1 := rfl
  have hS1 := z_Sim_ext e1 hS
  have hrow0 : z_Ar (q_new h (3, 6, 0)) (q_nx h) [] := ⟨⟨by omega, by omega⟩, z_sh_new _ _, by decide, fun i x hx => by cases hx⟩
  have hS2 := z_Sim_pRs0 hS1 hrow0
  have hW2 := z_Wf_pRs (j := 0) (v := some (q_nx h)) hS1.2.1 hu (z_Wf_ext e1 hW)
  have e2 := z_ext_new (q_pR (q_new h (3, 6, 0)) s 0 (some (q_nx h))) (3, 6, 0)
  have hS3 := z_Sim_ext e2 hS2
  have hW3 := z_Wf_ext e2 hW2
  have hI : ∀ x, x < q_nx h → q_I (q_new (q_pR (q_new h (3, 6, 0)) s 0 (some (q_nx h))) (3, 6, 0)) x = q_I h x := fun x hx => ((e2.2 x (by show x < q_nx h + 1; omega)).2.1).trans (e1.2 x hx).2.1
  have hL0 : z_Lp h (q_new (q_pR (q_new h (3, 6, 0)) s 0 (some (q_nx h))) (3, 6, 0)) s hk U up (q_I h s 5) ol (q_nx (q_pR (q_new h (3, 6, 0)) s 0 (some (q_nx h)))) ([], wl, [], q_I h, q_I h s 11) := by
    refine ⟨z_ch_trans (z_ch_pRs (z_ch_ext e1) (Nat.le_refl _)) (z_ch_ext e2), ⟨hW3, hu, hS3, ⟨⟨?_, ?_⟩, z_sh_new _ _, (by show (0 : Nat) < 65536; decide), fun i x hx => by simp at hx⟩, fun x hx j hj => ?_, ?_, ?_, ?_⟩, ⟨⟨(fun x hx => by simp at hx), List.nodup_nil⟩, ⟨fun x hx => ⟨(hwl.1 x hx).1, Or.inr (hwl.1 x hx).2⟩, hwl.2⟩, ⟨(fun x hx => by simp at hx), List.nodup_nil⟩, hol.1, hpl, hsz⟩, fun k _ => ?_, fun k hk2 => ?_⟩
    · show 492 ≤ q_nx h + 1; omega
    · show q_nx h + 1 < q_nx h + 1 + 1; omega
    · rw [hI x (hW x hx).1.1.2]
    · rw [hI s s2]
    · rw [hI s s2]; exact hup
    · rw [hI s s2]
    · rw [hI s s2]
    · rw [(e2.2 s (by show s < q_nx h + 1; omega)).2.2.1, z_R_j _ _ _ _ _ (by omega)]
      exact congrFun (e1.2 s s2).2.2.1 k
  have hs1 : 400 ≤ s ∧ q_sh h s = (0, 12, 0) := ⟨z_4 s1, s3⟩
  have hc3 := hS3.2.2.2.2
  obtain ⟨f1, f2, f3, -, -⟩ := e1.2 c c2.1.2
  obtain ⟨g1, g2, g3, -, -⟩ := e2.2 c (by show c < q_nx h + 1; exact Nat.lt_succ_of_lt c2.1.2)
  refine w_X14_copyAll_0 (by omega) ⟨hs1, a, a1, hs1, b, b1, 0, rfl, by decide, ⟨by omega, by omega⟩, ⟨z_4 s1, hS1.2.1⟩, 0, rfl, by decide, ⟨by omega, by omega⟩, ⟨z_4 s1, hS3.2.1⟩, c, ?_, hk.length, ⟨z_4 c2.1.1, ?_⟩, ?_⟩
  · rw [(e2.2 s (by show s < q_nx h + 1; omega)).2.2.1, z_R_j _ _ _ _ _ (by decide), (e1.2 s s2).2.2.1]
    exact c1
  · rw [g1]
    exact f1.trans c2.2.1
  · have := key hk.length 0 _ _ _ (by omega) hL0
    rw [List.drop_zero] at this
    exact this
end ZCOPYC
