/-! THE LAW'S LOOP: from the hooks to the steps, and through them -/
theorem lw_cmp (x : Int64) : lg_cmp x x = 0 := by simp [lg_cmp]
section LAWOULD
variable {xt : List ExceptionTableEntry} {g : q_G} {mc ms : Nat} {mv : List Nat} {Qp : q_Po} {H m hf ns oc G nb s k n p st : Nat} {Q : Nat → Nat → Nat} {pn nu : m_Rr} {od : Nat → Option Nat} {T1 : Nat → m_Rr} {K1 : Nat → Nat → Option Nat} {h h' : q_H} {v4 v5 v6 v11 v12 v13 : Int32} {v7 v8 : Int64} {mq pd po pq pr ps pt pe pc : m_Rr} {Y Y0 : m_SB}
theorem la_194 (e : v7 = v8) (hK : la_K xt g mc ms mv Qp k n (202, la_l202 s v4 v5 v11 v12 v13 0 1, [], h)) : la_K xt g mc ms mv Qp k n (194, [some (.ref 52), none, some (.ref s), some (.ref 400), some (.int v4), some (.int v5), none, none, none, none, none, some (.int v11), some (.int v12), some (.int v13), none, none, none, none, none, none, none, none, none, none], [.long v7, .long v8], h) := by
  subst e
  refine k_o_lcmp okB_L_lw rfl ?_
  rw [lw_cmp]
  exact w_L_lw_195 (by decide) ⟨fun _ => hK, fun hq => absurd rfl hq⟩
theorem la_71e (hm2 : ∀ x ∈ [487, 488], x ∈ mv) (hT : la_St H m hf ns oc Q pn nu od T1 K1) (hD : la_D H m hf ns Q pn nu od T1 K1 G h s) (hG : G < 2 ^ 28) (hPn : m_Pn H m hf ns oc pn nu od T1 K1 mq pd po pq pr ps pt pe pc) (hX : m_RB H m hf (la_X (q_I h)) Y0) (hDg : lc_Dg h v7) (hp : q_I h 457 12 = nI p) (hp2 : p < 2 ^ 29) (hk : k + 2 ≤ mc) (hn : n + 12 ≤ ms)
    (hK : ∀ h' k2 n2 v11 v13 st, la_lk h h' → k2 ≤ k + 2 → n2 ≤ n + 12 → 1 ≤ st → st ≤ 9 → (0 < ns → lc_Un (m_go mq pd po pq pr ps pt pe pc) p Y0 v11) → (0 < ns → ∃ Z, lc_it (m_go mq pd po pq pr ps pt pe pc) st Y0 = some Z ∧ lc_us Z = some v13) → la_K xt g mc ms mv Qp k2 n2 (202, la_l202 s (nI H) v5 v11 (nI st) v13 0 1, [], h')) :
    la_K xt g mc ms mv Qp k n (71, la_l71 s (nI H) v5 v6 v7 (nI H), [], h) := by
  have H6 := hT.1.2
  have q4 : ∀ {h2}, la_lk h h2 → q_I h2 402 4 = nI ns := fun {h2} e => by rw [(la_D_Pl (la_D_lk e hD)).1]; exact hT.2.2.2.1.1
  have hns12 := hT.2.2.2.1.2
  have hS := la_D_S hT hD
  obtain ⟨s1, s2, s3⟩ := la_D_Sim hD
  refine w_L_lw_71 (by decide) ⟨fun _ => ⟨la_O hS, lw_c (lk_usedPlaces (d := 1000) (by decide) hS) (by omega) (by omega) ⟨la_O hS, lw_p (lk_ifCopied (d := 1000) (by decide) hS) (by omega) (by omega) ⟨hm2, (lw_nm (fun a ha => ?_)).2, fun _ hb => by cases hb⟩ (fun x8 h5 hx8 e5 => ?_)⟩⟩, fun hq => absurd (nI_le (Nat.le_refl _) (by omega)) hq⟩
  · have ha : @Eq Nat a 52 ∨ @Eq Nat a s ∨ @Eq Nat a 400 := by simpa using ha
    omega
  have hS5 := lc_S_lk e5 hS
  refine ⟨la_O hS5, lw_p (lk_until (d := 1000) (by decide) hS5 (by omega) hPn (la_D_Pl (la_D_lk e5 hD)) (la_RB_lk e5 hX) (p := p) (by rw [e5.2.2.2.2.2 457 rfl]; exact hp) hp2) (by omega) (by omega) ⟨hm2, (lw_nm (fun a ha => ?_)).2, fun _ hb => by cases hb⟩ (fun x12 h9 hx12 e9 => ?_)⟩
  · have ha : @Eq Nat a 52 ∨ @Eq Nat a s ∨ @Eq Nat a 400 := by simpa using ha
    omega
  have e09 := la_lk_t e5 e9
  have hS9 := lc_S_lk e09 hS
  have hst := lk_steps (g := g) (d := 1000) (by decide) hS9
  rw [q4 e09] at hst
  refine la_bel (w := 9) (d2 := 1000) (by decide) (by decide) (by decide) (show 59 + 64 * 1000 ≤ q_lc 2048 by decide) (by decide) (by decide) (by omega) (by omega) (fun r hr => ⟨la_O hS9, lw_c hst (by omega) (by omega) ⟨fun hq => ⟨fun h2 => absurd h2 hx8.2, fun _ => ?_⟩, fun hq => ?_⟩⟩)
  · have hns0 : ¬ 0 < ns := fun h0 => absurd hq (nI_ge h0 (by omega))
    refine ⟨la_O hS9, q_cL_of _ (lk_digest (d := 1000) (by decide) hS9 (q4 e09)) (by decide) (show 59 + 64 * 1000 ≤ q_lc 2048 by decide) (by omega) (by omega) trivial (fun y h21 hp => ?_)⟩
    refine la_194 (lc_Dg_u (lc_Dg_lk e09 hDg) hp.1) ?_
    rw [la_1p]
    exact hK h21 _ _ _ _ (1 + r) (la_lk_t e09 hp.2) (by omega) (by omega) (by omega) (by omega) (fun h0 => absurd h0 hns0) (fun h0 => absurd h0 hns0)
  · have hpos : 0 < ns := by
      rcases Nat.eq_zero_or_pos ns with e | e
      · exact absurd (by rw [e]; decide) hq
      · exact e
    rw [la_1p]
    refine ⟨la_O hS9, lw_p (lk_after (d := 1000) (by decide) hS9 (by omega) hPn hpos (la_D_Pl (la_D_lk e09 hD)) (la_RB_lk e09 hX) (c := 1 + r) (by omega) (by omega)) (by omega) (by omega) ⟨hm2, (lw_nm (fun a ha => ?_)).2, fun _ hb => by cases hb⟩ (fun x28 h25 hx28 e25 => ⟨fun h2 => absurd h2 hx8.2, fun _ => ?_⟩)⟩
    · have ha : @Eq Nat a 52 ∨ @Eq Nat a s ∨ @Eq Nat a 400 := by simpa using ha
      omega
    have e025 := la_lk_t e09 e25
    have hS25 := lc_S_lk e025 hS
    refine ⟨la_O hS25, q_cL_of _ (lk_digest (d := 1000) (by decide) hS25 (q4 e025)) (by decide) (show 59 + 64 * 1000 ≤ q_lc 2048 by decide) (by omega) (by omega) trivial (fun y h29 hp => ?_)⟩
    refine la_194 (lc_Dg_u (lc_Dg_lk e025 hDg) hp.1) ?_
    exact hK h29 _ _ _ _ (1 + r) (la_lk_t e025 hp.2) (by omega) (by omega) (by omega) (by omega) (fun _ => hx12 hpos) (fun _ => hx28)
/-- no steps are told -/
theorem la_202z (hT : la_St H m hf ns oc Q pn nu od T1 K1) (hD : la_D H m hf ns Q pn nu od T1 K1 G h s) (hG : G < 2 ^ 28) (hns : ns = 0) (h1 : 1 ≤ st) (h9 : st ≤ 9) (hk : k + 150 ≤ mc) (hn : n + 900 ≤ ms)
    (hK : ∀ h' k2 n2, la_D H m hf ns Q pn nu od T1 K1 G h' s → k2 ≤ k + 150 → n2 ≤ n + 900 → la_FX xt g mc ms mv Qp s v4 v5 k2 n2 h') : la_K xt g mc ms mv Qp k n (202, la_l202 s v4 v5 v11 (nI st) v13 0 1, [], h) := by
  have hS := la_D_S hT hD
  have q4 : q_I h 402 4 = nI 0 := by rw [(la_D_Pl hD).1, hT.2.2.2.1.1, hns]
  have hst := lk_steps (g := g) (d := 1000) (by decide) hS
  rw [q4] at hst
  have hO := la_O hS
  refine w_L_lw_202 (by decide) ⟨fun hq => absurd hq (m_nlt (a := st) (b := 1) h1 (by omega)), fun _ => ⟨hO, lw_c hst (by omega) (by omega) ⟨fun _ => ⟨hO, lw_c hst (by omega) (by omega) ⟨fun _ => ⟨fun hq => absurd hq (nI_pos (by omega)), fun _ => lw_p (P := fun x => x = 1) (la_sound (d := 1000) (by decide) (by decide) hS (by omega)) (by omega) (by omega) trivial (fun y h6 hy e6 => ?_)⟩, fun hq => absurd (show nI 0 ≤ 0 by decide) hq⟩⟩, fun hq => absurd (show nI 0 ≤ 0 by decide) hq⟩⟩⟩
  subst hy
  exact ⟨fun _ => hK h6 _ _ (la_D_lk e6 hD) (by omega) (by omega), fun hq => absurd hq (by decide)⟩
/-- steps, one at a time -/
theorem la_202 (hm1 : ∀ x ∈ [471, 472], x ∈ mv) (hT : la_St H m hf ns oc Q pn nu od T1 K1) (hG : G < 2 ^ 27) (hPn : m_Pn H m hf ns oc pn nu od T1 K1 mq pd po pq pr ps pt pe pc) (hpos : 0 < ns) (hp2 : p < 2 ^ 29) (hU : lc_Un (m_go mq pd po pq pr ps pt pe pc) p Y0 v11) (hZ : ∃ Z, lc_it (m_go mq pd po pq pr ps pt pe pc) st Y0 = some Z ∧ lc_us Z = some v13) (h9 : st ≤ 9) :
    ∀ (z j dn k n : Nat) (h : q_H) (Y : m_SB), j + z = st → la_D H m hf ns Q pn nu od T1 K1 (G + 2 * j) h s → lc_it (m_go mq pd po pq pr ps pt pe pc) j Y0 = some Y → m_RB H m hf (la_X (q_I h)) Y → dn ≤ j → k + z * 103 + 150 ≤ mc → n + z * 12437 + 900 ≤ ms →
    (∀ h' k2 n2, la_D H m hf ns Q pn nu od T1 K1 (G + 2 * st) h' s → k2 ≤ k + z * 103 + 150 → n2 ≤ n + z * 12437 + 900 → la_FX xt g mc ms mv Qp s v4 v5 k2 n2 h') → la_K xt g mc ms mv Qp k n (202, la_l202 s v4 v5 v11 (nI st) v13 (nI dn) (nI (j + 1)), [], h) := by
  have hns12 := hT.2.2.2.1.2
  intro z
  induction z with
  | zero =>
    intro j dn k n h Y hj hD hit hX hdn hk hn hK
    obtain rfl : j = st := by omega
    have hS := la_D_S hT hD
    have q4 : q_I h 402 4 = nI ns := by rw [(la_D_Pl hD).1]; exact hT.2.2.2.1.1
    have hst := lk_steps (g := g) (d := 1000) (by decide) hS
    rw [q4] at hst
    have hO := la_O hS
    have hu : q_I h 457 8 = v13 := by
      obtain ⟨Z, z1, z2⟩ := hZ
      obtain rfl : Y = Z := Option.some.inj (hit.symm.trans z1)
      exact Option.some.inj ((lc_R8 hX).symm.trans z2)
    refine w_L_lw_202 (by decide) ⟨fun _ => ⟨hO, lw_c hst (by omega) (by omega) ⟨fun hq => absurd hq (nI_ge hpos (by omega)), fun _ => ⟨hO, lw_c (lk_usedPlaces (d := 1000) (by decide) hS) (by omega) (by omega) ⟨fun hq => absurd hu hq, fun _ => ⟨fun hq => absurd hq (m_nlt hdn (by omega)), fun _ => lw_p (P := fun x => x = 1) (la_sound (d := 1000) (by decide) (by decide) hS (by omega)) (by omega) (by omega) trivial (fun y h6 hy e6 => ?_)⟩⟩⟩⟩⟩, fun hq => absurd (nI_lt (show j < j + 1 by omega) (by omega)) hq⟩
    subst hy
    exact ⟨fun _ => hK h6 _ _ (la_D_lk e6 hD) (by omega) (by omega), fun hq => absurd hq (by decide)⟩
  | succ z ih =>
    intro j dn k n h Y hj hD hit hX hdn hk hn hK
    have hS := la_D_S hT hD
    have q4 : q_I h 402 4 = nI ns := by rw [(la_D_Pl hD).1]; exact hT.2.2.2.1.1
    have hst := lk_steps (g := g) (d := 1000) (by decide) hS
    rw [q4] at hst
    have hO := la_O hS
    obtain ⟨s1, s2, s3⟩ := la_D_Sim hD
    obtain ⟨g0, p0, q0, t1, t2, t3, t4, t5, t6, t7⟩ := la_D_Ct hD
    refine w_L_lw_202 (by decide) ⟨fun hq => absurd hq (m_nlt (a := st) (b := j + 1) (by omega) (by omega)), fun _ => ⟨hO, lw_c hst (by omega) (by omega) ⟨fun hq => absurd hq (nI_ge hpos (by omega)), fun _ => ⟨hO, lw_c (lk_copyings (d := 1000) (by decide) hS) (by omega) (by omega) ⟨hO, lw_c (lk_stepsRefused (d := 1000) (by decide) hS) (by omega) (by omega) ⟨hO, ?_⟩⟩⟩⟩⟩⟩
    refine lw_work hT hD (by omega) hPn hpos hX ⟨hm1, (lw_nm (fun a ha => by
      have ha : @Eq Nat a 52 ∨ @Eq Nat a s ∨ @Eq Nat a 400 := by simpa using ha
      omega)).1, fun _ hb => by cases hb⟩ (by omega) (by omega) (fun k' n' ok Y' x y h6 hk' hn' hx hgo hX6 hD6 r12 r11 => ?_)
    have hit' := lc_it_e j Y0 Y hit hgo
    have hS6 := la_D_S hT hD6
    have hO6 := la_O hS6
    have nx : ∀ k2 n2, k2 ≤ k + 103 → n2 ≤ n + 12437 → la_K xt g mc ms mv Qp k2 n2 (202, la_l202 s v4 v5 v11 (nI st) v13 (nI dn + x) (nI (j + 1) + 1), [], h6) := fun k2 n2 a1 a2 => by
      have ed : ∃ dn2, nI dn + x = nI dn2 ∧ dn2 ≤ j + 1 := by
        rcases hx with ⟨-, hx⟩ | ⟨-, hx⟩
        · exact ⟨dn + 1, by rw [hx, nI_1], by omega⟩
        · exact ⟨dn, by rw [hx, Int32.add_zero], by omega⟩
      obtain ⟨dn2, ed, hd2⟩ := ed
      rw [ed, nI_1]
      exact ih (j + 1) dn2 k2 n2 h6 Y' (by omega) (by rw [show G + 2 * (j + 1) = G + 2 * j + 2 by omega]; exact hD6) hit' hX6 hd2 (by omega) (by omega) (fun h2 k3 n3 d3 a3 a4 => hK h2 k3 n3 d3 (by omega) (by omega))
    have c1 : lc_cp Y = q_I h 457 12 := lc_R3 hX
    have c2 : lc_cp Y' = q_I h6 457 12 := lc_R3 hX6
    have hx0 : ¬ x < 0 := by
      rcases hx with ⟨-, hx⟩ | ⟨-, hx⟩ <;> rw [hx] <;> decide
    have hle11 : ¬ (1 : Int32) < x + q_I h6 457 11 - q_I h 457 11 := by
      have a0 : ∃ a, a ≤ 1 ∧ x + q_I h6 457 11 - q_I h 457 11 = nI a := by
        rcases r11 with r | ⟨r1, r⟩
        · rcases hx with ⟨-, hx⟩ | ⟨-, hx⟩
          · exact ⟨1, by omega, by rw [r, hx, t3, la_1p, m_subI (by omega), show 1 + q0 - q0 = 1 by omega]⟩
          · exact ⟨0, by omega, by rw [r, hx, t3, show (0 : Int32) + nI q0 = nI (0 + q0) from nI_add 0 q0, m_subI (by omega), show 0 + q0 - q0 = 0 by omega]⟩
        · rcases hx with ⟨h1, hx⟩ | ⟨-, hx⟩
          · rw [r1] at h1; cases h1
          · exact ⟨1, by omega, by rw [r, hx, t3, nI_1, show (0 : Int32) + nI (q0 + 1) = nI (0 + (q0 + 1)) from nI_add 0 (q0 + 1), m_subI (by omega), show 0 + (q0 + 1) - q0 = 1 by omega]⟩
      obtain ⟨a, a1, a2⟩ := a0
      rw [a2]
      exact m_nlt (a := 1) a1 (by omega)
    have hle12 : ¬ q_I h 457 12 + 1 < q_I h6 457 12 := by
      rcases r12 with r | r
      · rw [r, t2, nI_1]; exact m_nlt (by omega) (by omega)
      · rw [r, t2, nI_1]; exact m_nlt (by omega) (by omega)
    refine ⟨fun hq => absurd hq hx0, fun _ => ⟨hO6, lw_c (lk_stepsRefused (d := 1000) (by decide) hS6) (by omega) (by omega) ⟨fun hq => absurd hq hle11, fun _ => ⟨hO6, lw_c (lk_copyings (d := 1000) (by decide) hS6) (by omega) (by omega) ⟨fun hq => absurd hq hle12, fun _ => ?_⟩⟩⟩⟩⟩
    have cpC : ∀ {k2 n2 : Nat} {C : Nat → Nat → Int32 → q_H → Prop}, k2 + 0 ≤ mc → n2 + 0 ≤ ms → C (k2 + 0) (n2 + 0) (q_I h6 457 12) h6 → q_cI g m_X12_copyings [] 2048 mc ms [.ref 400] h6 k2 n2 True C := fun a1 a2 a3 => lw_c (lk_copyings (d := 1000) (by decide) hS6) a1 a2 a3
    have sm : ∀ {e : Nat}, e ≤ 100 → (∀ k, k < e → ∃ Z, lc_it (m_go mq pd po pq pr ps pt pe pc) k Y0 = some Z ∧ lc_cp Z = nI p) → j < e → q_I h 457 12 = nI p := fun {e} _ hz hj => by
      obtain ⟨Z, z1, z2⟩ := hz j hj
      obtain rfl : Y = Z := Option.some.inj (hit.symm.trans z1)
      exact c1.symm.trans z2
    rcases hU with ⟨u1, u2⟩ | ⟨e, e1, e2, u1, u2, u3⟩
    · have a1 : q_I h 457 12 = nI p := sm (e := 100) (by omega) (fun k hk => u2 k (by omega)) (by omega)
      have a2 : q_I h6 457 12 = nI p := by
        obtain ⟨Z, z1, z2⟩ := u2 (j + 1) (by omega)
        obtain rfl : Y' = Z := Option.some.inj (hit'.symm.trans z1)
        exact c2.symm.trans z2
      subst u1
      exact ⟨fun _ => ⟨fun hq => absurd hq (by decide), fun _ => ⟨hO6, cpC (by omega) (by omega) ⟨fun _ => nx _ _ (by omega) (by omega), fun hq => absurd (by rw [a1, a2]; exact nI_le (Nat.le_refl _) (by omega)) hq⟩⟩⟩, fun hq => absurd (by decide) hq⟩
    · have v0 : ¬ v11 < 0 := by rw [u1]; exact nI_pos (by omega)
      have w0 : 0 ≤ v11 := Int32.not_lt.mp v0
      refine ⟨fun hq => absurd hq v0, fun _ => ⟨fun _ => ⟨fun _ => nx _ _ (by omega) (by omega), fun hq => absurd w0 hq⟩, fun hlt => ?_⟩⟩
      have hje : j + 1 ≤ e := by
        rcases Nat.lt_or_ge e (j + 1) with h1 | h1
        · exact absurd (by rw [u1]; exact nI_lt h1 (by omega)) hlt
        · exact h1
      have a1 : q_I h 457 12 = nI p := sm (by omega) u2 (by omega)
      refine ⟨hO6, cpC (by omega) (by omega) ⟨fun hle => ?_, fun hgt => ?_⟩⟩
      · have hne : j + 1 < e := by
          rcases Nat.lt_or_ge (j + 1) e with h1 | h1
          · exact h1
          · obtain rfl : e = j + 1 := by omega
            obtain ⟨Z, z1, z2⟩ := u3
            obtain rfl : Y' = Z := Option.some.inj (hit'.symm.trans z1)
            rw [c2] at z2
            rw [z2, a1] at hle
            exact absurd hle (nI_ge (by omega) (by omega))
        exact ⟨fun _ => ⟨fun hq => absurd rfl hq, fun _ => ⟨fun _ => nx _ _ (by omega) (by omega), fun hq => absurd w0 hq⟩⟩, fun hq => absurd ((nI_eq (by omega) (by omega)).mp (hq.trans u1)) (by omega)⟩
      · have heq : j + 1 = e := by
          rcases Nat.lt_or_ge (j + 1) e with h1 | h1
          · obtain ⟨Z, z1, z2⟩ := u2 (j + 1) h1
            obtain rfl : Y' = Z := Option.some.inj (hit'.symm.trans z1)
            rw [c2] at z2
            rw [z2, a1] at hgt
            exact absurd (nI_le (Nat.le_refl _) (by omega)) hgt
          · omega
        exact ⟨fun hq => absurd (by rw [u1, heq]) hq, fun _ => ⟨fun hq => absurd rfl hq, fun _ => ⟨fun _ => nx _ _ (by omega) (by omega), fun hq => absurd w0 hq⟩⟩⟩
end LAWOULD
