/-! CONTRACTS of the law's barn, three: ropes by hand -/
def z_ha (h : q_H) (s : Nat) : Nat := (q_R h s 2).getD 0
/-- the bale that hook i holds and the number of its rope, if there are both -/
def z_ro (h : q_H) (hk : List (Option Nat)) (i : Nat) (r : Int32) : Option (Nat × Nat) := match hk[i]? with
  | some (some x) => if ¬ r < 0 ∧ ¬ nI (z_rl h x) ≤ r then some (x, r.toNatClampNeg) else none
  | _ => none
section ZSIM3
variable {g : q_G} {d mc ms : Nat} {h : q_H} {s : Nat} {hl ll : List Nat} {hk : List (Option Nat)} {U : Nat → Prop}
theorem z_ro_some {i j x : Nat} {r : Int32} (hW : z_Wf h U) (hhk : ∀ x, some x ∈ hk → U x) (e : z_ro h hk i r = some (x, j)) : hk[i]? = some (some x) ∧ U x ∧ r = nI j ∧ j < z_rl h x := by
  unfold z_ro at e
  split at e
  · next x' hx =>
    split at e
    · next hc =>
      cases e
      have hU := hhk x (List.mem_of_getElem? hx)
      obtain ⟨j, hj, rfl⟩ := nI_of hc.1
      have hr := (hW x hU).2.1.2.2.2
      rw [nI_clamp hj]
      refine ⟨hx, hU, rfl, ?_⟩
      rcases Nat.lt_or_ge j (z_rl h x) with h1 | h1
      · exact h1
      · exact absurd (nI_le h1 hj) hc.2
    · cases e
  · cases e
theorem z_hasRopeC (hd : 1 ≤ d) (hd2 : d < 2048) (hS : z_Sim h s hl ll hk) (hW : z_Wf h U) (hhk : ∀ x, some x ∈ hk → U x) {i : Nat} (hi : i < hk.length) {r : Int32} :
    q_Ct g m_X14_hasRope d 0 0 [] [.ref s, .int (nI i), .int r] h (fun o h' => ∃ y, o = .inl (some (.int y)) ∧ y = (if (z_ro h hk i r).isSome then 1 else 0) ∧ h' = h) := by
  obtain ⟨⟨s1, s2⟩, s3, -, -, ⟨a, a1, a2⟩⟩ := id hS
  obtain ⟨⟨b1, b2⟩, b3, b4, b5⟩ := id a2
  have hy : hk[i]? = some hk[i] := List.getElem?_eq_getElem hi
  have hR := b5 i _ hy
  refine q_CtK ok_X14_hasRope (by omega) (Nat.le_of_ble_eq_true rfl) ?_ _ rfl rfl
  refine w_X14_hasRope_0 hd ⟨⟨z_4 s1, s3⟩, a, a1, i, hk.length, rfl, ⟨z_4 b1, b3, hi, b4⟩, fun x hx => ?_, fun hn => ?_⟩
  · rw [hR] at hx
    have hU := hhk x (by rw [← hx]; exact List.getElem_mem hi)
    obtain ⟨xb, ⟨r1, r2, r3, r4⟩, -⟩ := hW x hU
    have hro : z_ro h hk i r = if ¬ r < 0 ∧ ¬ nI (z_rl h x) ≤ r then some (x, r.toNatClampNeg) else none := by
      unfold z_ro
      rw [hy, hx]
    refine ⟨fun hlt => ⟨rfl, ⟨Nat.le_refl _, Nat.le_refl _⟩, _, rfl, ?_, rfl⟩, fun hnlt => ⟨⟨z_4 s1, s3⟩, a, a1, i, hk.length, rfl, ⟨z_4 b1, b3, hi, b4⟩, x, hR.trans hx, ⟨z_4 xb.1.1, xb.2⟩, z_ra h x, r1, z_rl h x, ⟨z_4 r2.1, r3⟩, fun hle => ⟨rfl, ⟨Nat.le_refl _, Nat.le_refl _⟩, _, rfl, ?_, rfl⟩, fun hnle => ⟨rfl, ⟨Nat.le_refl _, Nat.le_refl _⟩, _, rfl, ?_, rfl⟩⟩⟩
    · have h9 : z_ro h hk i r = none := hro.trans (if_neg (fun hc => hc.1 hlt))
      rw [h9]; rfl
    · have h9 : z_ro h hk i r = none := hro.trans (if_neg (fun hc => hc.2 hle))
      rw [h9]; rfl
    · have h9 : z_ro h hk i r = some (x, r.toNatClampNeg) := hro.trans (if_pos ⟨hnlt, hnle⟩)
      rw [h9]; rfl
  · rw [hR] at hn
    refine ⟨rfl, ⟨Nat.le_refl _, Nat.le_refl _⟩, _, rfl, ?_, rfl⟩
    have hro : z_ro h hk i r = none := by
      unfold z_ro
      rw [hy, hn]
    rw [hro]; rfl
/-- what tying does -/
def z_tie (h : q_H) (hk : List (Option Nat)) (i t : Nat) (r : Int32) : Int32 × q_H := match z_ro h hk i r, hk[t]? with
  | some (x, j), some (some z) => (1, q_pR h (z_ra h x) j (some z))
  | _, _ => (0, h)
theorem z_tieC (hd : 2 ≤ d) (hd2 : d < 2048) (hS : z_Sim h s hl ll hk) (hW : z_Wf h U) (hhk : ∀ x, some x ∈ hk → U x) {i t : Nat} (hi : i < hk.length) (ht : t < hk.length) {r : Int32} :
    q_Ct g m_X14_tie d 0 0 [] [.ref s, .int (nI i), .int r, .int (nI t)] h (fun o h' => ∃ y, o = .inl (some (.int y)) ∧ (y, h') = z_tie h hk i t r) := by
  obtain ⟨⟨s1, s2⟩, s3, -, -, ⟨a, a1, a2⟩⟩ := id hS
  obtain ⟨⟨b1, b2⟩, b3, b4, b5⟩ := id a2
  have hy : hk[i]? = some hk[i] := List.getElem?_eq_getElem hi
  have hyt : hk[t]? = some hk[t] := List.getElem?_eq_getElem ht
  refine q_CtK ok_X14_tie (by omega) (Nat.le_of_ble_eq_true rfl) ?_ _ rfl rfl
  refine w_X14_tie_0 (by omega) ⟨⟨z_4 s1, s3⟩, ?_⟩
  refine q_cI_of (fun y h' => y = (if (z_ro h hk i r).isSome then 1 else 0) ∧ h' = h) (z_hasRopeC (d := d - 1) (by omega) (by omega) hS hW hhk hi) (by omega) (q_lcle (by omega) (by omega)) (by omega) (by omega) trivial (fun y h1 hp => ?_)
  obtain ⟨p1, p2⟩ := hp
  subst p2
  cases hro : z_ro h1 hk i r with
  | none =>
    rw [hro] at p1
    subst p1
    exact ⟨fun _ => ⟨rfl, ⟨by omega, by omega⟩, _, rfl, by unfold z_tie; rw [hro]⟩, fun hn => absurd rfl hn⟩
  | some xj =>
    obtain ⟨x, j⟩ := xj
    rw [hro] at p1
    have p1 : y = 1 := p1
    subst p1
    obtain ⟨hix, hU, rfl, hj⟩ := z_ro_some hW hhk hro
    obtain ⟨xb, ⟨r1, r2, r3, r4⟩, -⟩ := hW x hU
    refine ⟨fun h0 => absurd h0 (by decide), fun _ => ⟨⟨z_4 s1, s3⟩, a, a1, t, hk.length, rfl, ⟨z_4 b1, b3, ht, b4⟩, fun z hz => ?_, fun hn => ?_⟩⟩
    · have hzt : hk[t]? = some (some z) := by rw [hyt, ← b5 t _ hyt, hz]
      have hzU := hhk z (List.mem_of_getElem? hzt)
      obtain ⟨zb, -, -⟩ := hW z hzU
      refine ⟨⟨z_4 s1, s3⟩, a, a1, i, hk.length, rfl, ⟨z_4 b1, b3, hi, b4⟩, x, b5 i _ hix, ⟨z_4 xb.1.1, xb.2⟩, z_ra h1 x, r1, ⟨z_4 s1, s3⟩, a, a1, t, hk.length, rfl, ⟨z_4 b1, b3, ht, b4⟩, z, hz, j, z_rl h1 x, rfl, ⟨z_4 r2.1, r3, hj, by show z_rl h1 x < 65536; omega⟩, ⟨z_4 zb.1.1, zb.2⟩, rfl, ⟨by omega, by omega⟩, _, rfl, ?_⟩
      unfold z_tie
      rw [hro, hzt]
    · refine ⟨rfl, ⟨by omega, by omega⟩, _, rfl, ?_⟩
      have hzt : hk[t]? = some none := by rw [hyt, ← b5 t _ hyt, hn]
      unfold z_tie
      rw [hro, hzt]
/-- what following does: hook i takes what rope r of hook f's bale leads to -/
def z_follow (h : q_H) (s : Nat) (hk : List (Option Nat)) (i f : Nat) (r : Int32) : Int32 × q_H := match z_ro h hk f r with
  | some (x, j) => (match q_R h (z_ra h x) j with
    | some z => (1, q_pR h (z_ha h s) i (some z))
    | none => (0, h))
  | none => (0, h)
theorem z_followC (hd : 2 ≤ d) (hd2 : d < 2048) (hS : z_Sim h s hl ll hk) (hW : z_Wf h U) (hhk : ∀ x, some x ∈ hk → U x) {i f : Nat} (hi : i < hk.length) (hf : f < hk.length) {r : Int32} :
    q_Ct g m_X14_follow d 0 0 [] [.ref s, .int (nI i), .int (nI f), .int r] h (fun o h' => ∃ y, o = .inl (some (.int y)) ∧ (y, h') = z_follow h s hk i f r) := by
  obtain ⟨⟨s1, s2⟩, s3, -, -, ⟨a, a1, a2⟩⟩ := id hS
  obtain ⟨⟨b1, b2⟩, b3, b4, b5⟩ := id a2
  have hyf : hk[f]? = some hk[f] := List.getElem?_eq_getElem hf
  have hha : z_ha h s = a := by unfold z_ha; rw [a1]; rfl
  refine q_CtK ok_X14_follow (by omega) (Nat.le_of_ble_eq_true rfl) ?_ _ rfl rfl
  refine w_X14_follow_0 (by omega) ⟨⟨z_4 s1, s3⟩, ?_⟩
  refine q_cI_of (fun y h' => y = (if (z_ro h hk f r).isSome then 1 else 0) ∧ h' = h) (z_hasRopeC (d := d - 1) (by omega) (by omega) hS hW hhk hf) (by omega) (q_lcle (by omega) (by omega)) (by omega) (by omega) trivial (fun y h1 hp => ?_)
  obtain ⟨p1, p2⟩ := hp
  subst p2
  cases hro : z_ro h1 hk f r with
  | none =>
    rw [hro] at p1
    subst p1
    exact ⟨fun _ => ⟨rfl, ⟨by omega, by omega⟩, _, rfl, by unfold z_follow; rw [hro]⟩, fun hn => absurd rfl hn⟩
  | some xj =>
    obtain ⟨x, j⟩ := xj
    rw [hro] at p1
    have p1 : y = 1 := p1
    subst p1
    obtain ⟨hfx, hU, rfl, hj⟩ := z_ro_some hW hhk hro
    obtain ⟨xb, ⟨r1, r2, r3, r4⟩, r5⟩ := hW x hU
    have hx5 := b5 f _ hfx
    refine ⟨fun h0 => absurd h0 (by decide), fun _ => ⟨⟨z_4 s1, s3⟩, a, a1, f, hk.length, rfl, ⟨z_4 b1, b3, hf, b4⟩, x, hx5, ⟨z_4 xb.1.1, xb.2⟩, z_ra h1 x, r1, j, z_rl h1 x, rfl, ⟨z_4 r2.1, r3, hj, by show z_rl h1 x < 65536; omega⟩, fun z hz => ?_, fun hn => ?_⟩⟩
    · obtain ⟨zb, -, -⟩ := hW z (r5 j z hj hz)
      refine ⟨⟨z_4 s1, s3⟩, a, a1, ⟨z_4 s1, s3⟩, a, a1, f, hk.length, rfl, ⟨z_4 b1, b3, hf, b4⟩, x, hx5, ⟨z_4 xb.1.1, xb.2⟩, z_ra h1 x, r1, j, z_rl h1 x, rfl, ⟨z_4 r2.1, r3, hj, by show z_rl h1 x < 65536; omega⟩, z, hz, i, hk.length, rfl, ⟨z_4 b1, b3, hi, b4⟩, ⟨z_4 zb.1.1, zb.2⟩, rfl, ⟨by omega, by omega⟩, _, rfl, ?_⟩
      unfold z_follow
      rw [hro]
      show _ = (match q_R h1 (z_ra h1 x) j with
        | some z => ((1 : Int32), q_pR h1 (z_ha h1 s) i (some z))
        | none => (0, h1))
      rw [hz, hha]
    · refine ⟨rfl, ⟨by omega, by omega⟩, _, rfl, ?_⟩
      unfold z_follow
      rw [hro]
      show _ = (match q_R h1 (z_ra h1 x) j with
        | some z => ((1 : Int32), q_pR h1 (z_ha h1 s) i (some z))
        | none => (0, h1))
      rw [hn]
end ZSIM3
