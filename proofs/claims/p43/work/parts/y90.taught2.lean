/-! THE TEXT TAUGHT, two: the walk -/
def ta_J (h h1 : q_H) (l : List Int32) (p : Nat) : Prop := ta_D (q_new h (1, 0, 5)) h1 (q_nx h) ∧ q_I h1 400 7 = nI p ∧ (∀ j, j ≠ 7 → q_I h1 400 j = q_I h 400 j) ∧ ta_P (q_I h1 401) (ta_L l) p
/-- the five numbers when t signs of twenty have been put in -/
def ta_K (h1 : q_H) (w : Nat) (old : Nat → Int32) (C : Nat → Int32) (t : Nat) : Prop := ∀ i, i < 5 → q_I h1 w i = ta_n (old i) C i (min 4 (t - 4 * i))
/-- what is so when the text has been taught -/
def ta_Q (h : q_H) (hf pr m H : Nat) (Q : Nat → Nat → Nat) (ns : Nat) : q_Po := fun o h' => o = .inl (some (.int 0)) ∧ ∃ (h1 : q_H) (I' : Nat → Nat → Int32) (E' : Nat → Nat → Option Nat) (L' : Nat → Nat → Int64), ta_D (q_new h (1, 0, 5)) h1 (q_nx h) ∧ h' = z_jm h1 I' E' L' ∧
  (I' 402 0 = nI hf ∧ I' 402 1 = nI m ∧ I' 402 2 = nI pr ∧ I' 402 3 = nI H ∧ I' 402 4 = nI ns) ∧ (∃ oc, I' 402 5 = nI oc ∧ oc ≤ 400 ∧ ∀ j, j < ns → z_Tld H oc (E' 404) (I' 405) (fun j => I' (406 + j)) (fun j => E' (406 + j)) j (zp_w (Q j))) ∧
  f_X2_begin (I' 402) (q_I h 457) (q_I h 459) (q_I h 465) (q_I h 466) (q_I h 470) = some (I' 457, I' 459, I' 465, I' 466, I' 470) ∧ ∀ a, a ≠ 457 → a ≠ 459 → a ≠ 465 → a ≠ 466 → a ≠ 470 → 457 ≤ a → a < 492 → I' a = q_I h a ∧ E' a = q_E h a
theorem z_Tld_c {H oc k : Nat} {od : Nat → Option Nat} {nu : m_Rr} {T1 T2 : Nat → m_Rr} {K1 K2 : Nat → Nat → Option Nat} {w : Nat → Int32} (hT : T1 k = T2 k) (hK : K1 k = K2 k) (hz : z_Tld H oc od nu T1 K1 k w) : z_Tld H oc od nu T2 K2 k w := by
  unfold z_Tld at hz ⊢
  rw [← hT, ← hK]
  exact hz
theorem ta_j20 {h : q_H} {f f2 : Nat → Int32} : q_I (q_jI h [(400, f), (401, f2)]) 400 = f := by
  show q_ur (q_ur (q_I h) 401 f2) 400 f 400 = f
  rw [q_ur_s]
theorem ta_j21 {h : q_H} {f f2 : Nat → Int32} : q_I (q_jI h [(400, f), (401, f2)]) 401 = f2 := by
  show q_ur (q_ur (q_I h) 401 f2) 400 f 401 = f2
  rw [q_ur_n _ _ _ (show (401 : Nat) ≠ 400 by decide), q_ur_s]
theorem ta_j11 {h : q_H} {f : Nat → Int32} : q_I (q_jI h [(400, f)]) 401 = q_I h 401 := by
  show q_ur (q_I h) 400 f 401 = _
  rw [q_ur_n _ _ _ (show (401 : Nat) ≠ 400 by decide)]
section TAUGHT2
variable {g : q_G} {d : Nat} {h h1 h0 : q_H} {a k n p w z hf pr m H ns t : Nat} {l : List Int32} {Q : Nat → Nat → Nat}
theorem ta_JA (hA : ta_A h a l) (hJ : ta_J h h1 l p) : ta_A h1 a l ∧ (400 ≤ q_nx h ∧ q_sh h1 (q_nx h) = (1, 0, 5)) ∧ (400 ≤ a ∧ q_sh h1 a = (0, 13, 0)) ∧ ((400 : Nat) ≤ 400 ∧ q_sh h1 400 = (0, 10, 0)) := by
  have hs : q_sh (q_new h (1, 0, 5)) (q_nx h) = (1, 0, 5) := z_sh_new _ _
  have hA1 := ta_A_D (ta_A_new hA) hs hJ.1
  have h4 : 492 ≤ q_nx h := hA.1.1
  exact ⟨hA1, ⟨by omega, (congrFun hJ.1.2.1 _).trans hs⟩, ⟨by have := hA.2.2.1; omega, ta_obj hA1⟩, Nat.le_refl _, (hA1.1.2 400 (by decide)).1⟩
/-- the text is all fed: it is cut to its length and taught -/
theorem ta_exit {x : Int32} (hd : 410 ≤ d) (hd2 : d < 2048) (hA : ta_A h a l) (hl : l = zs_all hf pr m H Q ns) (h1' : 8 ≤ hf ∧ hf ≤ 64) (h2 : pr ≤ 5) (h3 : m ≤ 64) (hH : 0 < H ∧ H ≤ 6) (hns : ns ≤ 12) (hQ : ∀ j, j < ns → zp_Ln H (Q j))
    (hB : ∀ qn : m_Rr, qn 1 = nI m → ∃ r, f_X2_begin qn (q_I h 457) (q_I h 459) (q_I h 465) (q_I h 466) (q_I h 470) = some r) (hJ : ta_J h h1 l p) (hp : l.length ≤ p) (hp2 : p ≤ 2000) (hx : x = nI p) (hk : k ≤ 90) (hn : n ≤ 560) :
    q_K g m_L_taught [] d 100 600 h q_mvC (ta_Q h hf pr m H Q ns) k n (9, [some (.ref 400), some (.ref a), some (.ref (q_nx h)), some (.int x), none], [], h1) := by
  obtain ⟨hA1, hw, hs, h4⟩ := ta_JA hA hJ
  have hnx : 492 ≤ q_nx h := hA.1.1
  have ha : 492 ≤ a := hA.2.2.1
  have hll : l.length ≤ 1400 := hA.2.2.2.2.2
  rw [hx]
  refine w_L_taught_9 (by omega) ⟨hs, ?_⟩
  refine q_cI_of (fun x h' => x = nI l.length ∧ h' = h1) (tx_len (d := d - 1) (by omega) (by omega) hA1.2.2.2.1) (by omega) (q_lcle (by omega) (by omega)) (by omega) (by omega) trivial (fun x h' hq => ?_)
  rw [hq.1, hq.2]
  refine ⟨fun _ => ⟨hs, ?_⟩, fun hc => absurd (nI_le hp (by omega)) hc⟩
  refine q_cI_of (fun x h' => x = nI l.length ∧ h' = h1) (tx_len (d := d - 1) (by omega) (by omega) hA1.2.2.2.1) (by omega) (q_lcle (by omega) (by omega)) (by omega) (by omega) trivial (fun x h' hq => ?_)
  rw [hq.1, hq.2]
  refine ⟨h4, ?_⟩
  refine ta_cR hA1.1 hA1.2.1 (by omega) hd2 hJ.2.1 hp (by omega) (by omega) (by omega) ?_
  refine ⟨h4, ?_⟩
  obtain ⟨j1, j2, j3, j4⟩ := id hJ
  have D2 : ta_D (q_new h (1, 0, 5)) (q_jI h1 [(400, q_up (q_I h1 400) 7 (nI l.length))]) (q_nx h) := ta_D_j1 j1
  have I400 : q_I (q_jI h1 [(400, q_up (q_I h1 400) 7 (nI l.length))]) 400 = q_up (q_I h1 400) 7 (nI l.length) := by
    show q_ur (q_I h1) 400 (q_up (q_I h1 400) 7 (nI l.length)) 400 = _
    rw [q_ur_s]
  have I401 : q_I (q_jI h1 [(400, q_up (q_I h1 400) 7 (nI l.length))]) 401 = q_I h1 401 := by
    show q_ur (q_I h1) 400 (q_up (q_I h1 400) 7 (nI l.length)) 401 = _
    rw [q_ur_n _ _ _ (show (401 : Nat) ≠ 400 by decide)]
  have hrow : ∀ b, 402 ≤ b → b < 492 → q_I (q_jI h1 [(400, q_up (q_I h1 400) 7 (nI l.length))]) b = q_I h b := fun b hb1 hb2 => by
    rw [D2.2.2.2.2.2 b (by omega) (by omega) (by omega), tx_n_I (by omega)]
  have hrowE : ∀ b, b < 492 → q_E (q_jI h1 [(400, q_up (q_I h1 400) 7 (nI l.length))]) b = q_E h b := fun b hb2 => by
    rw [D2.2.2.2.1]
    exact q_ur_n _ _ _ (by omega)
  generalize q_jI h1 [(400, q_up (q_I h1 400) 7 (nI l.length))] = h9 at D2 I400 I401 hrow hrowE ⊢
  have hA9 := ta_A_D (ta_A_new hA) (z_sh_new _ _) D2
  have hT : zt_T (q_I h9 401) (zs_all hf pr m H Q ns) := by
    rw [I401, ← hl]
    exact ta_T (by omega) j4 hp
  obtain ⟨qn', qu', rd', hn', tk', ts', tl', tv', qd', tg', T2', K2', oc, r1, r2, r3, r4, r5, r6, r7, r8, r9, r10⟩ := zt_read (qn := q_I h9 426) (qu := q_I h9 429) (rd := q_I h9 450) (hn := q_I h9 451) (tk := q_I h9 452) (ts := q_I h9 454) (tl := q_I h9 455) (tv := q_I h9 456) (qd := q_E h9 428) (tg := q_E h9 453) (T2 := fun j => q_I h9 (430 + j)) (K2 := fun j => q_E h9 (430 + j)) h1'.1 h1'.2 h2 h3 hH.1 hH.2 hns hQ hT
  have e7 : q_I h9 400 7 = nI (zs_all hf pr m H Q ns).length := by rw [I400, m_up_s, hl]
  rw [← e7] at r1
  have hpos : f_X7_position rd' tk' ts' = some (-1) := by
    unfold f_X7_position
    rw [if_neg (fun h => h r2)]
  obtain ⟨⟨bn, ly, lo, lr, hk⟩, hb⟩ := hB qn' r4
  have hct := ct_X12_teach (g := g) (d := d - 1) (L := q_L h9) (I := q_I h9) (E := q_E h9) (by omega) r1 hpos (bn := bn) (ly := ly) (lo := lo) (lr := lr) (hk := hk) (fun _ => by
    rw [hrow 457 (by decide) (by decide), hrow 459 (by decide) (by decide), hrow 465 (by decide) (by decide), hrow 466 (by decide) (by decide), hrow 470 (by decide) (by decide)]
    exact hb)
  have hcT := z_callT (g := g) (P := fun o => o = .inl (some (.int 0))) hA9.1 hA9.2.1 (As := [.ref 400]) (q_asb rfl) ta_as hct
  refine q_cI_of (mv2 := q_mvC) (fun x h' => x = 0 ∧ ta_Q h hf pr m H Q ns (.inl (some (.int 0))) h') (q_Ct_mono hcT (fun o h' hq => ?_)) (by omega) (q_lcle (by omega) (by omega)) (by omega) (by omega) ⟨fun x hx => hx, fun i b hi hm => ?_, fun b hb => absurd hb List.not_mem_nil⟩ (fun x h' hq => ?_)
  · obtain ⟨q1, I', E', L', ⟨t1, t2, t3, t4⟩, q2⟩ := hq
    refine ⟨0, q1, rfl, rfl, h9, I', E', L', D2, q2, ?_⟩
    rcases t4 with ⟨t4, -⟩ | ⟨-, u1, u2, u3, u4, u5, u6, u7, u8, u9⟩
    · exact absurd rfl t4
    · refine ⟨⟨by rw [u1]; exact r3, by rw [u1]; exact r4, by rw [u1]; exact r5, by rw [u1]; exact r6, by rw [u1]; exact r7⟩, ⟨oc, by rw [u1]; exact r8, r9, fun j hj => ?_⟩, ?_, fun b n1 n2 n3 n4 n5 n6 n7 => ?_⟩
      · rw [u2, u3]
        exact z_Tld_c (u4 j (by omega)).1.symm (u4 j (by omega)).2.symm (r10 j hj)
      · rw [u1, u5, u6, u7, u8, u9]; exact hb
      · obtain ⟨v1, v2⟩ := t3 b n1 n2 n3 n4 n5 n6
        exact ⟨v1.trans (hrow b (by omega) n7), v2.trans (hrowE b n7)⟩
  · have hm2 := List.mem_range'_1.mp hm
    match i, hi with
    | 0, hi => cases hi; omega
    | 1, hi => cases hi; omega
    | 2, hi => cases hi; omega
    | 3, hi => cases hi
    | 4, hi => cases hi
    | i + 5, hi => cases hi
  · obtain ⟨rfl, hq⟩ := hq
    exact ⟨rfl, ⟨by omega, by omega⟩, hq⟩
theorem ta_min {t : Nat} (ht : t < 20) : t / 4 < 5 ∧ min 4 (t - 4 * (t / 4)) = t - 4 * (t / 4) ∧ min 4 (t + 1 - 4 * (t / 4)) = t - 4 * (t / 4) + 1 ∧ 4 * (t / 4) + (t - 4 * (t / 4)) = t ∧ ∀ i, i ≠ t / 4 → min 4 (t + 1 - 4 * i) = min 4 (t - 4 * i) := by
  refine ⟨by omega, by omega, by omega, by omega, fun i hi => by omega⟩
/-- twenty signs are put in, then fed -/
theorem ta_in {old : Nat → Int32} (hd : 410 ≤ d) (hd2 : d < 2048) (hA : ta_A h a l) (hp2 : p ≤ 1980) (hk : k ≤ 90) (hn : n ≤ 560)
    (hnext : ∀ h', ta_J h h' l (p + 20) → q_K g m_L_taught [] d 100 600 h q_mvC (ta_Q h hf pr m H Q ns) (k + 1) (n + 6) (9, [some (.ref 400), some (.ref a), some (.ref (q_nx h)), some (.int (nI (p + 20))), none], [], h')) :
    ∀ n' t, t + n' = 20 → ∀ h1, ta_J h h1 l p → ta_K h1 (q_nx h) old (fun v => ta_L l (p + v)) t →
    q_K g m_L_taught [] d 100 600 h q_mvC (ta_Q h hf pr m H Q ns) k n (15, [some (.ref 400), some (.ref a), some (.ref (q_nx h)), some (.int (nI p)), some (.int (nI t))], [], h1) := by
  intro n'
  induction n' with
  | zero =>
    intro t ht h1 hJ hK
    obtain rfl : t = 20 := by omega
    obtain ⟨hA1, hw, hs, h4⟩ := ta_JA hA hJ
    have rd : ∀ {j : Nat}, j < 5 → 400 ≤ q_nx h ∧ q_sh h1 (q_nx h) = (1, 0, 5) ∧ j < 5 ∧ q_s16 5 := fun hj => ⟨hw.1, hw.2, hj, by decide⟩
    refine w_L_taught_15 (by omega) ⟨fun _ => ?_, fun hc => absurd (show (20 : Int32) ≤ nI 20 by decide) hc⟩
    refine w_L_taught_46 (by omega) ⟨0, 5, rfl, rd (by decide), 1, 5, rfl, rd (by decide), 2, 5, rfl, rd (by decide), 3, 5, rfl, rd (by decide), 4, 5, rfl, rd (by decide), h4, ?_⟩
    refine ta_cF (X := q_I h1 (q_nx h)) hA1.1 hA1.2.1 (by omega) hd2 hJ.2.1 hp2 (by omega) (by omega) (fun f f1 f2 => ?_)
    rw [show nI p + 20 = nI (p + 20) from nI_add p 20]
    refine hnext _ ⟨ta_D_jI hJ.1, ?_, fun j hj => ?_, ?_⟩
    · rw [ta_j20]; exact f1
    · rw [ta_j20]; exact (f2 j hj).trans (hJ.2.2.1 j hj)
    · rw [ta_j21]
      exact ta_P_s (old := old) (ta_LC hA.2.2.2.2.1) hJ.2.2.2 (fun i hi => by
        rw [hK i hi]
        congr 1
        omega)
  | succ n' ih =>
    intro t ht h1 hJ hK
    have ht20 : t < 20 := by omega
    obtain ⟨m1, m2, m3, m4, m5⟩ := ta_min ht20
    obtain ⟨hA1, hw, hs, h4⟩ := ta_JA hA hJ
    have hll : l.length ≤ 1400 := hA.2.2.2.2.2
    have ed : nI t / (4 : Int32) = nI (t / 4) := pk_div (d := 4) (by omega) (by decide) (by decide)
    have go : ∀ c, c = ta_L l (p + t) → q_K g m_L_taught [] d 100 600 h q_mvC (ta_Q h hf pr m H Q ns) k n (42, [some (.ref 400), some (.ref a), some (.ref (q_nx h)), some (.int (nI p)), some (.int (nI t))], [.int c, .int (q_I h1 (q_nx h) (t / 4) <<< ((8 : Int32) &&& 31)), .int (nI (t / 4)), .ref (q_nx h)], h1) := by
      intro c hc
      refine w_L_taught_42 (by omega) ⟨t / 4, 5, rfl, ⟨hw.1, hw.2, m1, by decide⟩, ?_⟩
      rw [nI_1]
      have hne4 : (400 : Nat) ≠ q_nx h := by have := hA.1.1; omega
      have hne5 : (401 : Nat) ≠ q_nx h := by have := hA.1.1; omega
      refine ih (t + 1) (by omega) _ ⟨ta_D_pI hJ.1, ?_, fun j hj => ?_, ?_⟩ (fun i hi => ?_)
      · rw [z_I_a _ _ _ _ _ hne4]; exact hJ.2.1
      · rw [z_I_a _ _ _ _ _ hne4]; exact hJ.2.2.1 j hj
      · rw [z_I_a _ _ _ _ _ hne5]; exact hJ.2.2.2
      · by_cases hi4 : i = t / 4
        · subst hi4
          rw [z_I_s, m3, hK _ m1, m2]
          show _ = ta_n (old (t / 4)) (fun v => ta_L l (p + v)) (t / 4) (t - 4 * (t / 4)) <<< ((8 : Int32) &&& 31) ||| ta_L l (p + (4 * (t / 4) + (t - 4 * (t / 4))))
          rw [m4, hc]
        · rw [z_I_j _ _ _ _ _ hi4, m5 i hi4]; exact hK i hi
    refine w_L_taught_15 (by omega) ⟨fun hc => absurd hc (nI_ge (b := 20) ht20 (by decide)), fun _ => ⟨by decide, by decide, t / 4, 5, ed, ⟨hw.1, hw.2, m1, by decide⟩, hs, ?_⟩⟩
    rw [ed, nI_add]
    refine q_cI_of (fun x h' => x = nI l.length ∧ h' = h1) (tx_len (d := d - 1) (by omega) (by omega) hA1.2.2.2.1) (by omega) (q_lcle (by omega) (by omega)) (by omega) (by omega) trivial (fun x h' hq => ?_)
    rw [hq.1, hq.2]
    refine ⟨fun hle => go 32 ?_, fun hlt => ⟨hs, ?_⟩⟩
    · have := (nI_leI (by omega) (by omega)).mp hle
      unfold ta_L
      rw [if_neg (by omega)]
    · have hlt2 : p + t < l.length := by
        rcases Nat.lt_or_ge (p + t) l.length with h | h
        · exact h
        · exact absurd (nI_le h (by omega)) hlt
      refine q_cI_of (fun x h' => x = l.getD (p + t) 0 ∧ h' = h1) (tx_chrAt (d := d - 1) (by omega) (by omega) hA1.2.2.2.1 hA.2.2.2.2.1 hlt2) (by omega) (q_lcle (by omega) (by omega)) (by omega) (by omega) trivial (fun x h' hq => ?_)
      rw [hq.1, hq.2]
      refine go _ ?_
      unfold ta_L
      rw [if_pos hlt2]
theorem ta_9 (hd : 410 ≤ d) (hd2 : d < 2048) (hA : ta_A h a l) (hl : l = zs_all hf pr m H Q ns) (h1' : 8 ≤ hf ∧ hf ≤ 64) (h2 : pr ≤ 5) (h3 : m ≤ 64) (hH : 0 < H ∧ H ≤ 6) (hns : ns ≤ 12) (hQ : ∀ j, j < ns → zp_Ln H (Q j))
    (hB : ∀ qn : m_Rr, qn 1 = nI m → ∃ r, f_X2_begin qn (q_I h 457) (q_I h 459) (q_I h 465) (q_I h 466) (q_I h 470) = some r) : ∀ n' i, i + n' = 71 → ∀ h1, ta_J h h1 l (20 * i) →
    q_K g m_L_taught [] d 100 600 h q_mvC (ta_Q h hf pr m H Q ns) (2 + i) (11 + 6 * i) (9, [some (.ref 400), some (.ref a), some (.ref (q_nx h)), some (.int (nI (20 * i))), none], [], h1) := by
  have hll : l.length ≤ 1400 := hA.2.2.2.2.2
  intro n'
  induction n' with
  | zero =>
    intro i hi h1 hJ
    exact ta_exit hd hd2 hA hl h1' h2 h3 hH hns hQ hB hJ (by omega) (by omega) rfl (by omega) (by omega)
  | succ n' ih =>
    intro i hi h1 hJ
    by_cases hc : l.length ≤ 20 * i
    · exact ta_exit hd hd2 hA hl h1' h2 h3 hH hns hQ hB hJ hc (by omega) rfl (by omega) (by omega)
    · obtain ⟨hA1, hw, hs, h4⟩ := ta_JA hA hJ
      refine w_L_taught_9 (by omega) ⟨hs, ?_⟩
      refine q_cI_of (fun x h' => x = nI l.length ∧ h' = h1) (tx_len (d := d - 1) (by omega) (by omega) hA1.2.2.2.1) (by omega) (q_lcle (by omega) (by omega)) (by omega) (by omega) trivial (fun x h' hq => ?_)
      rw [hq.1, hq.2]
      refine ⟨fun hle => absurd hle (nI_ge (by omega) (by omega)), fun _ => ?_⟩
      refine ta_in (p := 20 * i) (old := q_I h1 (q_nx h)) hd hd2 hA (by omega) (by omega) (by omega) (fun h' hJ' => ?_) 20 0 rfl h1 hJ (fun j hj => by
        rw [Nat.zero_sub, show min 4 0 = 0 from rfl]
        rfl)
      have e := ih (i + 1) (by omega) h' (by rw [show 20 * (i + 1) = 20 * i + 20 by omega]; exact hJ')
      rw [show 20 * (i + 1) = 20 * i + 20 by omega] at e
      exact e
/-- the text told is taught without error -/
theorem ta_taught (hd : 411 ≤ d) (hd2 : d < 2048) (hA : ta_A h a (zs_all hf pr m H Q ns)) (h1' : 8 ≤ hf ∧ hf ≤ 64) (h2 : pr ≤ 5) (h3 : m ≤ 64) (hH : 0 < H ∧ H ≤ 6) (hns : ns ≤ 12) (hQ : ∀ j, j < ns → zp_Ln H (Q j))
    (hB : ∀ qn : m_Rr, qn 1 = nI m → ∃ r, f_X2_begin qn (q_I h 457) (q_I h 459) (q_I h 465) (q_I h 466) (q_I h 470) = some r) (h7 : q_I h 400 7 = nI z) (hz : z < 2 ^ 31) (hT : ∀ j, j < 2000 → ∃ b, b < 128 ∧ q_I h 401 j = nI b) :
    q_Ct g m_L_taught d 100 600 q_mvC [.ref 400, .ref a] h (ta_Q h hf pr m H Q ns) := by
  have hnx : 492 ≤ q_nx h := hA.1.1
  have hAn := ta_A_new hA
  have hs4 : q_sh (q_new h (1, 0, 5)) 400 = (0, 10, 0) := (hAn.1.2 400 (by decide)).1
  refine q_CtK ok_L_taught (by omega) (Nat.le_of_ble_eq_true rfl) ?_ _ rfl rfl
  refine w_L_taught_0 (by omega) ⟨5, rfl, by decide, ⟨by omega, by omega⟩, ⟨by decide, hs4⟩, ?_⟩
  have e4 : q_I (q_new h (1, 0, 5)) 400 = q_I h 400 := tx_n_I (by omega)
  have e5 : q_I (q_new h (1, 0, 5)) 401 = q_I h 401 := tx_n_I (by omega)
  refine ta_cR (x := 0) (z := z) hAn.1 hAn.2.1 (by omega) hd2 (by rw [e4]; exact h7) (Nat.zero_le _) hz (by omega) (by omega) ?_
  refine ta_9 (by omega) hd2 hA rfl h1' h2 h3 hH hns hQ hB 71 0 rfl _ ⟨ta_D_j1 ta_D_rfl, ?_, fun j hj => ?_, ?_, fun j hj => absurd hj (Nat.not_lt_zero _)⟩
  · show q_ur (q_I (q_new h (1, 0, 5))) 400 (q_up (q_I (q_new h (1, 0, 5)) 400) 7 (nI 0)) 400 7 = _
    rw [q_ur_s, m_up_s]
  · show q_ur (q_I (q_new h (1, 0, 5))) 400 (q_up (q_I (q_new h (1, 0, 5)) 400) 7 (nI 0)) 400 j = _
    rw [q_ur_s, m_up_n hj, e4]
  · rw [ta_j11, e5]
    exact hT
end TAUGHT2
