/-! BEHIND THE TEACHING: class and law at rest -/
theorem z_RB_of {H m hf s : Nat} {hL hl ll : List Nat} {pn : m_Rr} {h : q_H} {I : Nat → m_Rr} {st sh sw sp ss sr sa sd : m_Rr} {ν : Nat → Nat} {hkL : List (Option Nat)} (hR : m_R H m hf hL (I 457) (I 459) (I 460) (I 461) (I 462) (I 463) (I 464) (I 465) (I 466) (I 470) (I 471) st sh sw sp ss sr sa sd)
    (hB : z_B h s ν H m hf hL pn (I 457) (I 459) (I 460) (I 461) (I 462) (I 463) (I 464) (I 470) hl ll hkL) : z_RB H m hf pn h s (la_X I) :=
  ⟨hL, (fun _ => 0, fun _ => 0, fun _ => 0, fun _ => 0, st, sh, sw, sp, ss, sr, sa, sd), ν, hl, ll, hkL, hR, hB⟩
section LABEG
variable {hx h' : q_H} {s H m hf pr ns : Nat} {Q : Nat → Nat → Nat} {o : Option Value ⊕ String}
theorem la_B0 {hk bn ly pl sz ag rc ld pn : m_Rr} {ν : Nat → Nat} (hSim : z_Sim hx s [] [] (List.replicate H none)) (hI : q_I hx s 3 = nI hf ∧ q_I hx s 4 = nI m ∧ q_I hx s 5 = nI pr ∧ ∀ j, 7 ≤ j → q_I hx s j = 0) (hd : ∀ k, k < 2 → q_R hx s k ≠ q_R hx s 2) (hm : m < 65536)
    (hp : pn 2 = nI pr) (hb : ∀ j, 7 ≤ j → j ≤ 14 → bn j = 0) (hly : ∀ b, b < 128 → ly b = 0) (hhk : ∀ i, i < 6 → hk i = -1) (hH : H ≤ 6) : z_B hx s ν H m hf [] pn bn ly pl sz ag rc ld hk [] [] (List.replicate H none) := by
  have hno : ∀ x, x ∉ ([] ++ [] : List Nat) := fun x hx => by cases hx
  refine ⟨⟨hSim, fun x hx => absurd hx (hno x), hno s, fun x hx => ?_, List.nodup_nil, ⟨hI.2.1, hm⟩, fun x hx => (by cases hx), fun x hx => absurd hx (hno x), fun x y hx => absurd hx (hno x), fun x hx => absurd hx (hno x), hd⟩, ⟨fun b c h1 _ h2 => absurd (hly b h1) h2, rfl, ⟨List.nodup_nil, fun x => ⟨fun h => (by cases h), fun h => ?_⟩⟩, fun b h1 h2 => absurd (hly b h1) h2, fun b h1 h2 => absurd (hly b h1) h2, ⟨List.length_replicate, fun i hi => Or.inl ⟨hhk i (by omega), ?_⟩⟩, ?_⟩, hI.1, hI.2.2.1.trans hp.symm, ?_, ?_, ?_, ?_, ?_⟩
  · cases (List.mem_replicate.mp hx).2
  · obtain ⟨b, b1, b2, -⟩ := h
    rw [hly b b1] at b2
    exact absurd b2 (by decide)
  · rw [List.getElem?_replicate, if_pos hi]
  · rw [hI.2.2.2 11 (by decide), hb 13 (by decide) (by decide)]
  · rw [hI.2.2.2 7 (by decide), hb 10 (by decide) (by decide)]
  · rw [hI.2.2.2 8 (by decide), hb 11 (by decide) (by decide)]
  · rw [hI.2.2.2 9 (by decide), hb 9 (by decide) (by decide)]
  · rw [hI.2.2.2 10 (by decide), hb 12 (by decide) (by decide)]
  · rw [hI.2.2.2 12 (by decide), hb 14 (by decide) (by decide)]
theorem la_start (hC : z_Cls hx) (hSp : z_Sep hx) (hSim : z_Sim hx s [] [] (List.replicate H none)) (hI : q_I hx s 3 = nI hf ∧ q_I hx s 4 = nI m ∧ q_I hx s 5 = nI pr ∧ ∀ j, 7 ≤ j → q_I hx s j = 0) (hd : ∀ k, k < 2 → q_R hx s k ≠ q_R hx s 2) (hRw : z_Rows hx s ns (fun k => zp_w (Q k)))
    {st0 sh0 sw0 sp0 ss0 sr0 sa0 sd0 : m_Rr} (hR0 : m_R 0 16 16 [] (q_I hx 457) (q_I hx 459) (q_I hx 460) (q_I hx 461) (q_I hx 462) (q_I hx 463) (q_I hx 464) (q_I hx 465) (q_I hx 466) (q_I hx 470) (q_I hx 471) st0 sh0 sw0 sp0 ss0 sr0 sa0 sd0) (hH : 0 < H ∧ H ≤ 6) (hf32 : hf ≤ 32) (hm64 : m ≤ 64) (hns : ns ≤ 12) (hT : ta_Q hx hf pr m H Q ns o h') : o = .inl (some (.int 0)) ∧ la_R 0 h' s ∧ la_S hx h' := by
  obtain ⟨ho, h1, I', E', L', ⟨D1, D2, D3, D4, D5, D6⟩, rfl, ⟨p0, p1, p2, p3, p4⟩, ⟨oc, q5, q6, q7⟩, hb, hoth⟩ := hT
  have hnx : 492 ≤ q_nx hx := hC.1
  have hS : la_S hx (z_jm h1 I' E' L') := by
    refine ⟨?_, fun a ha ha2 => ⟨?_, ?_, ?_⟩⟩
    · show q_nx hx ≤ q_nx h1
      rw [D1]; exact Nat.le_succ _
    · show q_sh h1 a = _
      rw [D2]; exact tx_n_sh (by omega)
    · show (if a < 492 then I' a else q_I h1 a) = _
      rw [if_neg (by omega), D6 a (by omega) (by omega) (by omega)]
      exact tx_n_I (by omega)
    · show q_R h1 a = _
      rw [D3]; exact tx_n_R (by omega)
  have hC' : z_Cls (z_jm h1 I' E' L') := by
    refine ⟨by show 492 ≤ q_nx h1; rw [D1]; exact Nat.le_succ_of_le hnx, fun a ha => ⟨?_, fun j => ?_⟩⟩
    · show q_sh h1 a = _
      rw [D2]; exact (tx_n_sh (by omega)).trans (hC.2 a ha).1
    · show q_R h1 a j = _
      rw [D3, tx_n_R (by omega)]; exact (hC.2 a ha).2 j
  have hSp' : z_Sep (z_jm h1 I' E' L') := fun a j b ha hb => by
    have hb : q_R h1 a j = some b := hb
    rw [D3] at hb
    by_cases e : a = q_nx hx
    · subst e
      have : q_ur (q_R hx) (q_nx hx) (fun _ => none) (q_nx hx) j = some b := hb
      rw [q_ur_s] at this
      cases this
    · rw [tx_n_R e] at hb; exact hSp a j b ha hb
  obtain ⟨mp, hmp⟩ : ∃ mp : m_Rr, mp = fun j => if j = 0 then nI H else if j = 1 then nI hf else if j = 2 then nI m else I' 402 2 := ⟨_, rfl⟩
  have hP : m_Pl H m hf (I' 402) mp := ⟨p0, by rw [hmp]; rfl, p1, by rw [hmp]; rfl, by rw [hmp]; rfl, p3, by rw [hmp]; rfl⟩
  obtain ⟨bn', ly', lo', lr', hk', st', sh', sw', b1, b2, b3, b4⟩ := m_begin hP hH.2 hm64 (by omega) hR0
  rw [b1] at hb
  simp only [Option.some.injEq, Prod.mk.injEq] at hb
  obtain ⟨e1, e2, e3, e4, e5⟩ := hb
  rw [f_X2_begin, f_X1_clear, Option.bind_some] at b1
  obtain ⟨r2, -, r4⟩ := q_bd b1
  simp only [Option.some.injEq, Prod.mk.injEq] at r4
  obtain ⟨g1, g2, -, -, g5⟩ := r4
  have hbn : ∀ j, 7 ≤ j → j ≤ 14 → bn' j = 0 := fun j h7 h14 => by
    rw [← g1]
    rcases (show j = 7 ∨ j = 8 ∨ j = 9 ∨ j = 10 ∨ j = 11 ∨ j = 12 ∨ j = 13 ∨ j = 14 by omega) with rfl | rfl | rfl | rfl | rfl | rfl | rfl | rfl <;> rfl
  have hly : ∀ b, b < 128 → ly' b = 0 := fun b hb => by rw [← g2]; exact q_fil_lt hb
  have hhk : ∀ i, i < 6 → hk' i = -1 := fun i hi => by rw [← g5]; exact q_fil_lt hi
  have ro : ∀ a, a ≠ 457 → a ≠ 459 → a ≠ 465 → a ≠ 466 → a ≠ 470 → 457 ≤ a → a < 492 → I' a = q_I hx a := fun a n1 n2 n3 n4 n5 n6 n7 => (hoth a n1 n2 n3 n4 n5 n6 n7).1
  have hmR : m_R H m hf [] (I' 457) (I' 459) (I' 460) (I' 461) (I' 462) (I' 463) (I' 464) (I' 465) (I' 466) (I' 470) (I' 471) st' sh' sw' sp0 ss0 sr0 sa0 sd0 := by
    rw [ro 460 (by decide) (by decide) (by decide) (by decide) (by decide) (by decide) (by decide), ro 461 (by decide) (by decide) (by decide) (by decide) (by decide) (by decide) (by decide), ro 462 (by decide) (by decide) (by decide) (by decide) (by decide) (by decide) (by decide), ro 463 (by decide) (by decide) (by decide) (by decide) (by decide) (by decide) (by decide), ro 464 (by decide) (by decide) (by decide) (by decide) (by decide) (by decide) (by decide), ro 471 (by decide) (by decide) (by decide) (by decide) (by decide) (by decide) (by decide), ← e1, ← e2, ← e3, ← e4, ← e5]
    exact b3
  have hSim' := la_S_Sim hS hSim
  obtain ⟨⟨s1, s2⟩, -⟩ := id hSim
  obtain ⟨f1, f2, f3⟩ := hS.2 s s1 s2
  have hI' : q_I (z_jm h1 I' E' L') s 3 = nI hf ∧ q_I (z_jm h1 I' E' L') s 4 = nI m ∧ q_I (z_jm h1 I' E' L') s 5 = nI pr ∧ ∀ j, 7 ≤ j → q_I (z_jm h1 I' E' L') s j = 0 := by rw [f2]; exact hI
  have hd' : ∀ k, k < 2 → q_R (z_jm h1 I' E' L') s k ≠ q_R (z_jm h1 I' E' L') s 2 := by rw [f3]; exact hd
  have hB := la_B0 (hk := I' 470) (bn := I' 457) (ly := I' 459) (pl := I' 460) (sz := I' 461) (ag := I' 462) (rc := I' 463) (ld := I' 464) (pn := I' 402) (ν := fun _ => 0) hSim' hI' hd' (by omega) p2 (by rw [← e1]; exact hbn) (by rw [← e2]; exact hly) (by rw [← e5]; exact hhk) hH.2
  have lo : ∀ a, a < 492 → q_I (z_jm h1 I' E' L') a = I' a := fun a ha => if_pos ha
  have loE : ∀ a, a < 492 → q_E (z_jm h1 I' E' L') a = E' a := fun a ha => if_pos ha
  refine ⟨ho, ⟨hC', hSp', H, m, hf, ns, oc, mp, Q, hH, by rw [lo 402 (by decide)]; exact hP, ⟨hf32, hm64⟩, ⟨by rw [lo 402 (by decide)]; exact p4, hns⟩, ⟨by rw [lo 402 (by decide)]; exact q5, q6⟩, fun k hk => ?_, la_S_Rows hS ⟨s1, s2⟩ hRw, ?_, ?_, ?_, ?_⟩, hS⟩
  · rw [loE 404 (by decide), lo 405 (by decide)]
    exact z_Tld_c (by rw [q_tR_at (by omega), lo _ (by omega)]) (by rw [q_tR_at (by omega), loE _ (by omega)]) (q7 k hk)
  · have eX : la_X (q_I (z_jm h1 I' E' L')) = la_X I' := by
      show (q_I (z_jm h1 I' E' L') 457, q_I (z_jm h1 I' E' L') 459, q_I (z_jm h1 I' E' L') 460, q_I (z_jm h1 I' E' L') 461, q_I (z_jm h1 I' E' L') 462, q_I (z_jm h1 I' E' L') 463, q_I (z_jm h1 I' E' L') 464, q_I (z_jm h1 I' E' L') 465, q_I (z_jm h1 I' E' L') 466, q_I (z_jm h1 I' E' L') 467, q_I (z_jm h1 I' E' L') 468, q_I (z_jm h1 I' E' L') 469, q_I (z_jm h1 I' E' L') 470, q_I (z_jm h1 I' E' L') 471, q_I (z_jm h1 I' E' L') 472, q_I (z_jm h1 I' E' L') 490, q_I (z_jm h1 I' E' L') 491) = (I' 457, I' 459, I' 460, I' 461, I' 462, I' 463, I' 464, I' 465, I' 466, I' 467, I' 468, I' 469, I' 470, I' 471, I' 472, I' 490, I' 491)
      rw [lo 457 (by decide), lo 459 (by decide), lo 460 (by decide), lo 461 (by decide), lo 462 (by decide), lo 463 (by decide), lo 464 (by decide), lo 465 (by decide), lo 466 (by decide), lo 467 (by decide), lo 468 (by decide), lo 469 (by decide), lo 470 (by decide), lo 471 (by decide), lo 472 (by decide), lo 490 (by decide), lo 491 (by decide)]
    rw [lo 402 (by decide), eX]
    exact z_RB_of (I := I') hmR hB
  · rw [lo 457 (by decide), ← e1]; exact b4
  · refine ⟨0, 0, 0, hI'.2.2.2 7 (by decide), hI'.2.2.2 10 (by decide), hI'.2.2.2 8 (by decide), Nat.le_refl _, hI'.2.2.2 9 (by decide), Nat.le_refl _⟩
  · refine ⟨0, by decide, ?_, fun b hb h0 => absurd ?_ h0⟩
    · rw [lo 457 (by decide), ← e1]; exact hbn 12 (by decide) (by decide)
    · rw [lo 459 (by decide), ← e2]; exact hly b hb
end LABEG
