/-! THE LAW'S LOOP: hooks looked at again; swept and copied again -/
section LASWEPT
variable {xt : List ExceptionTableEntry} {g : q_G} {mc ms : Nat} {mv : List Nat} {Qp : q_Po} {H m hf ns oc G s k n B : Nat} {Q : Nat → Nat → Nat} {pn nu : m_Rr} {od : Nat → Option Nat} {T1 : Nat → m_Rr} {K1 : Nat → Nat → Option Nat} {h h' : q_H} {v5 : Int32}
theorem la_385 (hT : la_St H m hf ns oc Q pn nu od T1 K1) (hD : la_D H m hf ns Q pn nu od T1 K1 G h s) (hA : la_A5 H B h) : ∀ (z t k n : Nat), t + z = H → k + z * 7 ≤ mc → n + z * 42 ≤ ms →
    (∀ k2 n2, k2 ≤ k + z * 7 → n2 ≤ n + z * 42 → la_K xt g mc ms mv Qp k2 n2 (385, la_l385 s (nI H) v5 B (B + 1) (B + 2) (nI H), [], h)) → la_K xt g mc ms mv Qp k n (385, la_l385 s (nI H) v5 B (B + 1) (B + 2) (nI t), [], h) := by
  have H6 := hT.1.2
  have hS := la_D_S hT hD
  have hO := la_O hS
  obtain ⟨⟨B1, B2⟩, ⟨w4, w5, w6⟩, hA⟩ := hA
  have h16 : q_s16 H := by show H < 65536; omega
  intro z
  induction z with
  | zero =>
    intro t k n ht hk0 hn hK
    obtain rfl : t = H := by omega
    exact hK k n (by omega) (by omega)
  | succ z ih =>
    intro t k n ht hk0 hn hK
    have htH : t < H := by omega
    have nx : ∀ k2 n2, k2 ≤ k + 7 → n2 ≤ n + 42 → la_K xt g mc ms mv Qp k2 n2 (385, la_l385 s (nI H) v5 B (B + 1) (B + 2) (nI t + 1), [], h) := fun k2 n2 a1 a2 => by
      rw [nI_1]
      exact ih (t + 1) k2 n2 (by omega) (by omega) (by omega) (fun k3 n3 c1 c2 => hK k3 n3 (by omega) (by omega))
    have hho := lk_holds (g := g) (d := 1000) (by decide) hS htH
    refine w_L_lw_385 (by decide) ⟨fun hq => absurd hq (nI_ge htH (by omega)), fun _ => ⟨hO, lw_c hho (by omega) (by omega) ⟨t, H, rfl, ⟨by omega, w4, htH, h16⟩, ?_⟩⟩⟩
    rcases hA t htH with ⟨h0, y0⟩ | ⟨x, zz, x8, hx, y1, z0, z9, y2, y3⟩
    · rw [h0, y0]
      exact ⟨fun _ => ⟨fun _ => ⟨t, H, rfl, ⟨by omega, w4, htH, h16⟩, ⟨fun _ => nx _ _ (by omega) (by omega), fun hq => absurd (by rw [y0]; decide) hq⟩⟩, fun hq => absurd rfl hq⟩, fun hq => absurd (by decide) hq⟩
    · have hne : ¬ q_I h 470 t = -1 := by rw [hx]; exact m_nI_m1 (by omega)
      have hz : ¬ q_I h B t ≤ 0 := by rw [y1]; exact nI_ge (a := 0) z0 (by omega)
      rw [decide_eq_true hne]
      have hsz := lk_sizeOf (g := g) (d := 1000) (by decide) hS htH hx x8
      have hag := lk_ageOf (g := g) (d := 1000) (by decide) hS htH hx x8
      have hly := lk_isInLoft (g := g) (d := 1000) (by decide) hS htH hx x8
      refine ⟨fun hq => absurd hq hz, fun _ => ⟨fun _ => ⟨t, H, rfl, ⟨by omega, w4, htH, h16⟩, ⟨fun hq => absurd hq hz, fun _ => ⟨hO, lw_c hsz (by omega) (by omega) ⟨t, H, rfl, ⟨by omega, w4, htH, h16⟩, ⟨fun hq => absurd (y2.trans y1.symm) hq, fun _ => ⟨t, H, rfl, ⟨by omega, w6, htH, h16⟩, ?_⟩⟩⟩⟩⟩⟩, fun hq => absurd rfl hq⟩⟩
      rcases y3 with ⟨u1, u2, u3⟩ | ⟨u1, u2⟩
      · have hup : ¬ q_I h (B + 2) t = 0 := by rw [u1]; decide
        rw [decide_eq_true u2] at hly
        refine ⟨fun hq => absurd hq hup, fun _ => ⟨hO, lw_c hly (by omega) (by omega) ⟨fun hq => absurd hq (by decide), fun _ => ⟨hO, lw_c hag (by omega) (by omega) ⟨t, H, rfl, ⟨by omega, w5, htH, h16⟩, ⟨fun hq => absurd u3 hq, fun _ => ⟨t, H, rfl, ⟨by omega, w6, htH, h16⟩, ⟨fun _ => nx _ _ (by omega) (by omega), fun hq => absurd hq hup⟩⟩⟩⟩⟩⟩⟩⟩
      · refine ⟨fun _ => ⟨t, H, rfl, ⟨by omega, w6, htH, h16⟩, ⟨fun hq => absurd u1 hq, fun _ => ⟨hO, lw_c hag (by omega) (by omega) ⟨t, H, rfl, ⟨by omega, w5, htH, h16⟩, ⟨hO, ?_⟩⟩⟩⟩⟩, fun hq => absurd u1 hq⟩
        rcases u2 with ⟨u2, u3⟩ | ⟨u2, u3⟩
        · rw [decide_eq_true u2] at hly
          exact lw_c hly (by omega) (by omega) ⟨fun hq => absurd hq (by decide), fun _ => ⟨fun _ => nx _ _ (by omega) (by omega), fun hq => absurd (by rw [u3, Int32.add_zero]) hq⟩⟩
        · rw [decide_eq_false (show ¬ q_I h 459 x = 2 by rw [u2]; decide)] at hly
          exact lw_c hly (by omega) (by omega) ⟨fun _ => ⟨fun _ => nx _ _ (by omega) (by omega), fun hq => absurd u3 hq⟩, fun hq => absurd rfl hq⟩
theorem la_385e (hm1 : ∀ x ∈ [471, 472], x ∈ mv) (hT : la_St H m hf ns oc Q pn nu od T1 K1) (hD : la_D H m hf ns Q pn nu od T1 K1 G h s) (hG : G < 2 ^ 27) (hA : la_A5 H B h) (hk0 : k + 637 ≤ mc) (hn : n + 62340 ≤ ms)
    (hK : ∀ h' k2 n2, la_D H m hf ns Q pn nu od T1 K1 (G + 2) h' s → k2 ≤ k + 637 → n2 ≤ n + 62340 → la_K xt g mc ms mv Qp k2 n2 (24, la_l24 s (nI H) (v5 + 1), [], h')) : la_K xt g mc ms mv Qp k n (385, la_l385 s (nI H) v5 B (B + 1) (B + 2) (nI H), [], h) := by
  have H6 := hT.1.2
  have hO := la_O (la_D_S hT hD)
  obtain ⟨s1, s2, s3⟩ := la_D_Sim hD
  have B1 := hA.1.1
  refine w_L_lw_385 (by decide) ⟨fun _ => ⟨hO, lw_sweep hT hD (by omega) (by omega) (fun k1 n1 x4 y h5 hk1 hn1 h4 hD5 hll => ?_)⟩, fun hq => absurd (nI_le (Nat.le_refl _) (by omega)) hq⟩
  have hS5 := la_D_S hT hD5
  obtain ⟨hL, st, sh, sw, sp, ss, sr, sa, sd, hR⟩ := id hS5.2.2.2.1
  refine ⟨la_O hS5, lw_p (P := fun y => y = nI (lc_nb hL (q_I h5 459) - (lc_rch H (q_I h5 463) (q_I h5 464) (q_I h5 470)).length)) (lk_useless (d := 1000) (by decide) hS5 hR) (by omega) (by omega) trivial (fun x12 h9 hx12 e9 => ⟨fun hq => absurd hq h4, fun _ => ?_⟩)⟩
  have hD9 := la_D_lk e9 hD5
  have hS9 := lc_S_lk e9 hS5
  refine ⟨la_O hS9, lw_copyC hT hD9 (by omega) ⟨hm1, (lw_nm (fun a ha => by
    have ha : @Eq Nat a 52 ∨ @Eq Nat a s ∨ @Eq Nat a 400 ∨ @Eq Nat a B ∨ @Eq Nat a (B + 1) ∨ @Eq Nat a (B + 2) := by simpa using ha
    omega)).1, fun _ hb => by cases hb⟩ (by omega) (by omega) (fun x16 h13 hM hCp hhi hnx hsh => ?_)⟩
  obtain ⟨hL0, st0, sh0, sw0, sp0, ss0, sr0, sa0, sd0, hL', st', sh', sw', sp', ss', sr', sa', sd', hR0, hR', hCq, ⟨j1, j2, j3, j4⟩, ⟨tk, t1, t2, t3, t4, t5, t6⟩, -⟩ := hCp
  have r9 := e9.2.2.2.2.2
  have eN := lw_nbE hR hR0 (r9 457 rfl) (r9 465 rfl)
  have h128 := lc_nb_128 hR
  have hall := lc_all hR0 (fun b hb => by rw [r9 463 rfl, r9 464 rfl, r9 470 rfl]; exact hll b (by rw [← r9 459 rfl]; exact hb)) t1 t2 t6
  obtain ⟨u, li2, nr2, nd2, -, u2⟩ := lc_useless hR' (q_I h 467) (q_I h 468) (q_I h 469)
  have hS13 : lc_S H m hf (G + 1 + 1) h13 := hM.2.1
  have hus := lk_useless (g := g) (d := 1000) (by decide) hS13 hR'
  rw [r9 463 rfl, r9 464 rfl, r9 470 rfl] at hall
  rw [j2, j3, j4, r9 463 rfl, r9 464 rfl, r9 470 rfl] at u2 hus
  generalize hrn : (lc_rch H (q_I h5 463) (q_I h5 464) (q_I h5 470)).length = rn at hx12 u2 hus hall
  have hnb0 : lc_nb hL0 (q_I h9 459) = hL0.length + (lc_ll (q_I h9 459)).length := rfl
  have ex : x16 = x12 := by
    rw [t3, hx12]
    congr 1
    omega
  have e0 : lc_nb hL' (q_I h13 459) - rn = 0 := by omega
  rw [e0] at hus
  refine ⟨fun hq => absurd ex hq, fun _ => ⟨la_O hS13, lw_p (P := fun y => y = nI 0) hus (by omega) (by omega) trivial (fun x20 h17 hx20 e17 => ⟨fun hq => absurd hx20 hq, fun _ => ?_⟩)⟩⟩
  have hM17 := la_Mid_lk e17 hM
  refine lw_p (P := fun x => x = 1) (la_sound (d := 1000) (by decide) (by decide) hM17.2.1 (by omega)) (by omega) (by omega) trivial (fun y2 h21 hy e21 => ?_)
  subst hy
  refine ⟨fun _ => ?_, fun hq => absurd hq (by decide)⟩
  exact lw_copyS hT (la_Mid_lk e21 hM17) (by omega) (by omega) (fun k' n' y h25 hk' hn' hD25 f25 => hK h25 _ _ hD25 (by omega) (by omega))
end LASWEPT
