/-! ONE STEP AND MANY, on both sides -/
section ZMANY
variable {h h' : q_H} {s v c : Nat} {H m hf ns oc : Nat} {pn nu mp : m_Rr} {od : Nat → Option Nat} {T1 : Nat → m_Rr} {K1 : Nat → Nat → Option Nat} {X : m_CB}
theorem z_eC (q1 : pn 4 = nI ns) (hns : 0 < ns) (h20 : ns ≤ 20) {g : Nat} (hg : X.1 10 = nI g) (hg2 : g < 2 ^ 30) : m_ps pn nu od T1 K1 X = (f_X10_hasTest T1 (g % ns)).bind fun r7 => if (q_bz r7) = 0 then (m_pf pn nu od T1 K1 X (g % ns)).bind fun r => some (r.1, m_fC r.1 r.2) else (f_X8_reckon pn nu X.1 X.2.2.2.1 X.2.2.2.2.1 X.2.2.2.2.2.2.2.1 X.2.2.2.2.2.2.2.2.2.2.2.2.1 X.2.2.2.2.2.2.2.2.2.2.2.2.2.2.2.1 X.2.2.2.2.2.2.2.2.2.2.2.2.2.2.2.2 od (T1 (g % ns) 6) (T1 (g % ns) 7)).bind fun r18 => if ¬ r18.1 = (1 : Int32) then some (false, (q_up X.1 10 (X.1 10 + 1), X.2.1, X.2.2.1, X.2.2.2.1, X.2.2.2.2.1, X.2.2.2.2.2.1, X.2.2.2.2.2.2.1, X.2.2.2.2.2.2.2.1, X.2.2.2.2.2.2.2.2.1, X.2.2.2.2.2.2.2.2.2.1, X.2.2.2.2.2.2.2.2.2.2.1, X.2.2.2.2.2.2.2.2.2.2.2.1, X.2.2.2.2.2.2.2.2.2.2.2.2.1, X.2.2.2.2.2.2.2.2.2.2.2.2.2.1, X.2.2.2.2.2.2.2.2.2.2.2.2.2.2.1, r18.2.1, r18.2.2)) else (m_pf pn nu od T1 K1 (X.1, X.2.1, X.2.2.1, X.2.2.2.1, X.2.2.2.2.1, X.2.2.2.2.2.1, X.2.2.2.2.2.2.1, X.2.2.2.2.2.2.2.1, X.2.2.2.2.2.2.2.2.1, X.2.2.2.2.2.2.2.2.2.1, X.2.2.2.2.2.2.2.2.2.2.1, X.2.2.2.2.2.2.2.2.2.2.2.1, X.2.2.2.2.2.2.2.2.2.2.2.2.1, X.2.2.2.2.2.2.2.2.2.2.2.2.2.1, X.2.2.2.2.2.2.2.2.2.2.2.2.2.2.1, r18.2.1, r18.2.2) (g % ns)).bind fun r => some (r.1, m_fC r.1 r.2) := by
  have hkn : g % ns < ns := Nat.mod_lt _ hns
  have hnz : q_nz (nI ns) = some () := by unfold q_nz; rw [if_neg (nI_ne0 hns (by omega))]
  have hrem : nI g - nI g / nI ns * nI ns = nI (g % ns) := pk_rem (by omega) hns (by omega)
  have hst : f_X6_stepWith (nI (g % ns)) = some (g % ns) := by
    unfold f_X6_stepWith
    have e1 : q_max (nI (g % ns)) 0 = nI (g % ns) := by unfold q_max; rw [if_neg (nI_pos (by omega))]
    have e2 : q_min (nI (g % ns)) 19 = nI (g % ns) := by
      unfold q_min
      by_cases e : g % ns = 19
      · rw [e]; rfl
      · rw [if_neg (show ¬ (19 : Int32) < nI (g % ns) from m_nlt (b := g % ns) (a := 19) (by omega) (by decide))]
    rw [e1, e2, q_ix_nI (by omega) (by decide), Option.bind_some]
  have ht20 : q_t20 (g % ns) = some () := by unfold q_t20; rw [if_pos (by omega)]
  have hpos : (0 : Int32) < nI ns := nI_lt (a := 0) hns (by omega)
  have go : ∀ Z : m_CB, ∀ F : (Bool × m_CB) → Option (Bool × m_CB), (∀ r, F r = some (r.1, m_fC r.1 r.2)) → (m_pf pn nu od T1 K1 Z (g % ns)).bind F = (m_pf pn nu od T1 K1 Z (g % ns)).bind fun r => some (r.1, m_fC r.1 r.2) := fun Z F hF => by rw [show F = _ from funext hF]
  unfold m_ps f_X3_passNext
  rw [q1, if_pos hpos, hnz, Option.bind_some, hg, hrem, hst, Option.bind_some, ht20, Option.bind_some]
  congr 1
  funext r7
  by_cases e : q_bz r7 = 0
  · rw [if_pos e, if_pos e, if_neg (by decide)]
    refine go X _ (fun r => ?_)
    obtain ⟨ok, Z⟩ := r
    cases ok <;> rfl
  · rw [if_neg e, if_neg e]
    congr 1
    funext r18
    by_cases e2 : r18.1 = 1
    · rw [if_neg (show ¬ ¬ r18.1 = 1 from fun z => z e2), if_neg (show ¬ ¬ r18.1 = 1 from fun z => z e2), if_neg (show ¬ (1 : Int32) = 0 by decide)]
      refine go (X.1, X.2.1, X.2.2.1, X.2.2.2.1, X.2.2.2.2.1, X.2.2.2.2.2.1, X.2.2.2.2.2.2.1, X.2.2.2.2.2.2.2.1, X.2.2.2.2.2.2.2.2.1, X.2.2.2.2.2.2.2.2.2.1, X.2.2.2.2.2.2.2.2.2.2.1, X.2.2.2.2.2.2.2.2.2.2.2.1, X.2.2.2.2.2.2.2.2.2.2.2.2.1, X.2.2.2.2.2.2.2.2.2.2.2.2.2.1, X.2.2.2.2.2.2.2.2.2.2.2.2.2.2.1, r18.2.1, r18.2.2) _ (fun r => ?_)
      obtain ⟨ok, Z⟩ := r
      cases ok <;> rfl
    · rw [if_pos e2, if_pos e2]; rfl
/-- the numbers of a step that has gone by -/
theorem z_OK_num {hl ll : List Nat} {hk : List (Option Nat)} {j : Nat} {x : Int32} (hj : j ≠ 4) (hO : z_OK h s hl ll hk m) : z_OK (q_pI h s j x) s hl ll hk m := by
  obtain ⟨o1, o2, o3, o4, o5, o6, o7, o8, o9⟩ := hO
  have eI : ∀ b, b ∈ hl ++ ll → ∀ i, q_I (q_pI h s j x) b i = q_I h b i := fun b hb i => congrFun (z_I_a h s b j x (fun e => o3 (by rw [← e]; exact hb))) i
  refine ⟨o1, o2, o3, o4, o5, ⟨(q_u2_j _ _ _ _ _ _ (fun e => hj e.symm)).trans o6.1, o6.2⟩, fun b hb => ?_, fun b hb => ?_, o9⟩
  · rw [eI b (List.mem_append_right _ hb), eI b (List.mem_append_right _ hb)]
    exact o7 b hb
  · rw [eI b hb]
    exact o8 b hb
theorem z_RB_aft {r : Nat} {bn' : m_Rr} (hX : z_RB H m hf pn h s X) (h10 : bn' 10 = X.1 10 + 1) (h11 : bn' 11 = X.1 11 + nI r) (hb : ∀ j, j ≠ 10 → j ≠ 11 → bn' j = X.1 j) : z_RB H m hf pn (z_aft h s (nI r)) s (bn', X.2) := by
  obtain ⟨hL, Y, ν, hl, ll, hkL, hR, hB⟩ := hX
  obtain ⟨b1, ⟨v1, v2, v3, v4, v5, v6, v7⟩, b3, b4, b5, b6, b7, b8, b9⟩ := hB
  obtain ⟨c1, c2, c3, c4, c5, c6⟩ := hR.2.2.2.2.2.2
  have hR' := m_R_cnt hR (bn' := bn') (st' := q_up (q_up Y.2.2.2.2.1 0 (Y.2.2.2.2.1 0 + 1)) 1 (Y.2.2.2.2.1 1 + nI r)) (hb 7 (by decide) (by decide)) (hb 8 (by decide) (by decide)) (hb 9 (by decide) (by decide)) (hb 12 (by decide) (by decide)) (hb 13 (by decide) (by decide)) (hb 14 (by decide) (by decide)) ((m_up_n (by decide)).trans (m_up_n (by decide))) ((m_up_n (by decide)).trans (m_up_n (by decide))) ((m_up_n (by decide)).trans (m_up_n (by decide))) ((m_up_n (by decide)).trans (m_up_n (by decide))) (by rw [h10, m_up_n (by decide), m_up_s, c2]) (by rw [h11, m_up_s, c3])
  have hs : s ∉ hl ++ ll := b1.2.2.1
  have eI : ∀ b, b < 128 → ¬ X.2.1 b = 0 → ∀ j, q_I (z_aft h s (nI r)) (ν b) j = q_I h (ν b) j := fun b hb h0 j => by
    have hm := z_YR_mem ⟨v1, v2, v3, v4, v5, v6, v7⟩ hR.2.2.1 hR.2.2.2.1.2.1 hb h0
    have hne : ν b ≠ s := fun e => hs (by rw [← e]; exact hm)
    exact congrFun ((z_I_a _ s (ν b) 7 _ hne).trans (z_I_a h s (ν b) 8 _ hne)) j
  have eS : ∀ j, j ≠ 7 → j ≠ 8 → q_I (z_aft h s (nI r)) s j = q_I h s j := fun j h7 h8 => (q_u2_j _ _ _ _ _ _ h7).trans (q_u2_j _ _ _ _ _ _ h8)
  refine ⟨hL, (Y.1, Y.2.1, Y.2.2.1, Y.2.2.2.1, q_up (q_up Y.2.2.2.2.1 0 (Y.2.2.2.2.1 0 + 1)) 1 (Y.2.2.2.2.1 1 + nI r), Y.2.2.2.2.2), ν, hl, ll, hkL, hR', z_OK_num (by decide) (z_OK_num (by decide) b1), ?_, ?_, ?_, ?_, ?_, ?_, ?_, ?_⟩
  · rw [eS 11 (by decide) (by decide)]
    have hYR := z_YR_cg (f' := q_I (z_aft h s (nI r))) (rp' := z_rp (z_aft h s (nI r))) (show z_YR ν H hL X.1 X.2.1 X.2.2.1 X.2.2.2.1 X.2.2.2.2.1 X.2.2.2.2.2.1 X.2.2.2.2.2.2.1 X.2.2.2.2.2.2.2.2.2.2.2.2.1 hl ll hkL (q_I h) (z_rp h) (q_I h s 11) from ⟨v1, v2, v3, v4, v5, v6, v7⟩) (fun b hb h0 j _ => eI b hb h0 j) (fun b hb h0 => rfl)
    obtain ⟨u1, u2, u3, u4, u5, u6, u7⟩ := hYR
    exact ⟨u1, u2, u3, u4, u5, u6, u7.trans (hb 13 (by decide) (by decide)).symm⟩
  · rw [eS 3 (by decide) (by decide)]; exact b3
  · rw [eS 5 (by decide) (by decide)]; exact b4
  · have e7 : q_I (z_aft h s (nI r)) s 7 = q_I h s 7 + 1 := (q_u2_s _ _ _ _).trans (congrArg (· + 1) (q_u2_j _ _ _ _ _ _ (by decide)))
    exact e7.trans ((congrArg (· + 1) b5).trans h10.symm)
  · have e8 : q_I (z_aft h s (nI r)) s 8 = q_I h s 8 + nI r := (q_u2_j _ _ _ _ _ _ (by decide)).trans (q_u2_s _ _ _ _)
    exact e8.trans ((congrArg (· + nI r) b6).trans h11.symm)
  · exact (eS 9 (by decide) (by decide)).trans (b7.trans (hb 9 (by decide) (by decide)).symm)
  · exact (eS 10 (by decide) (by decide)).trans (b8.trans (hb 12 (by decide) (by decide)).symm)
  · exact (eS 12 (by decide) (by decide)).trans (b9.trans (hb 14 (by decide) (by decide)).symm)
end ZMANY
