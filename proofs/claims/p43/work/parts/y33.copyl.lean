/-! THE CLASS AND THE LAW'S BARN, three: the loft, a whole copying -/
section ZCOPYL
variable {m : Nat} {oly sz ss pn mp ol rc ld sr sd : m_Rr} {X0 X : m_XT} {Y0 Y : m_YT} {l h : List Nat} {ν : Nat → Nat} {σ : z_St} {os wl : List Nat} {rp : Nat → List (Option Nat)}
theorem z_loftT (hh : z_hyp m ν oly sz ss pn mp ol os) (hG : m_TG rc ld sr sd) (hr : z_Yr ν oly rc ld rp) (hwl : wl.Nodup ∧ ∀ x, x ∈ wl ↔ ∃ b, b < 128 ∧ oly b = 2 ∧ x = ν b) : ∀ (n p : Nat) (l h : List Nat) (X : m_XT) (Y : m_YT) (σ : z_St) (fu fv : Nat), p + n = m → n < fu → n < fv → m_CT m oly sz ss X0 Y0 l h X Y → z_Ys ν oly sz l h X σ →
    ∃ t h' X' Y', m_L48 pn sz rc ld fu X (nI p) = some X' ∧ m_L54 mp ss sr sd ol fv Y (nI p) = some Y' ∧ m_CT m oly sz ss X0 Y0 (l ++ t) h' X' Y' ∧ z_Ys ν oly sz (l ++ t) h' X' (z_cp2 rp m (pn 2) os wl p n σ) := by
  obtain ⟨k1, k2, k3, k4, k5, k6, k7, k8⟩ := id hh.2.1
  have hwo : ∀ y ∈ wl, y ∉ os := fun y hy ho => by
    obtain ⟨c, c1, c2, rfl⟩ := (hwl.2 _).mp hy
    obtain ⟨d, d1, d2, d3⟩ := (hh.2.2.2 _).mp ho
    have := hh.1 c d c1 d1 (by rw [c2]; decide) (by rw [d2]; decide) d3
    rw [this, d2] at c2
    exact absurd c2 (by decide)
  intro n
  induction n with
  | zero =>
    intro p l h X Y σ fu fv hpn hfu hfv hT hY
    obtain ⟨fu, rfl⟩ : ∃ z, fu = z + 1 := ⟨fu - 1, by omega⟩
    obtain ⟨fv, rfl⟩ : ∃ z, fv = z + 1 := ⟨fv - 1, by omega⟩
    refine ⟨[], h, X, Y, ?_, ?_, by simpa using hT, by rw [List.append_nil]; exact hY⟩
    · rw [m_L48_s, k7, if_pos (nI_le (by omega) (by omega))]
    · rw [m_L54_s, k6, if_pos (nI_le (by omega) (by omega))]
  | succ n ih =>
    intro p l h X Y σ fu fv hpn hfu hfv hT hY
    obtain ⟨fu, rfl⟩ : ∃ z, fu = z + 1 := ⟨fu - 1, by omega⟩
    obtain ⟨fv, rfl⟩ : ∃ z, fv = z + 1 := ⟨fv - 1, by omega⟩
    obtain ⟨hQ, hLy, hps, -, -, hLf, hlo1, -⟩ := id hT.1
    have hpl := hT.2.2.2.2.2.2.2.1
    have hY4 := hY.2.2.2.1
    have cell : ∀ c, c < 136 → ol c = 2 → Y.2.2.2.2.2.2.1 c = nI p → c < 128 ∧ oly c = 2 ∧ X.2.2.2.2.2.1 p = nI c := fun c hc ho hsp => by
      have hc8 : c < 128 := by
        rcases Nat.lt_or_ge c 128 with h1 | h1
        · exact h1
        · rw [k2 c h1 hc] at ho; exact absurd ho (by decide)
      have ho2 : oly c = 2 := (k1 c hc8).symm.trans ho
      have hsw := (hLy.2 c hc8).2.2.1 (by rw [ho2]; decide)
      obtain ⟨p', s', b1, b2, b3, b4, b5⟩ := hLf.2.1 c hc (hsw.trans ho2)
      obtain rfl : p' = p := (nI_eq (by omega) (by omega)).mp (b1.symm.trans hsp)
      exact ⟨hc8, ho2, b5 _ (Nat.le_refl _) (by omega)⟩
    /- by hand, a place is what the class says -/
    have hfp : ∀ c, c < 128 → oly c = 2 → σ.2.2.2.1 (ν c) 2 = Y.2.2.2.2.2.2.1 c := fun c hc ho => by
      rw [(hY4 c hc (by rw [ho]; decide)).2.2.1, (hps c hc).1]
    have go : ∀ t h' X' Y' r, f_X2_loftBaleFrom X.2.2.1 X.2.2.2.2.1 X.2.2.2.2.2.1 (nI p) = some r → m_L59 pn sz rc ld r 4096 X 0 = some X' → m_L62 mp ss sr sd ol (nI p) 4096 Y 0 = some Y' → m_CT m oly sz ss X0 Y0 (l ++ t) h' X' Y' → z_Ys ν oly sz (l ++ t) h' X' (wl.foldl (z_cw rp m (pn 2) os (nI p)) σ) →
        ∃ t h' X' Y', m_L48 pn sz rc ld (fu + 1) X (nI p) = some X' ∧ m_L54 mp ss sr sd ol (fv + 1) Y (nI p) = some Y' ∧ m_CT m oly sz ss X0 Y0 (l ++ t) h' X' Y' ∧ z_Ys ν oly sz (l ++ t) h' X' (z_cp2 rp m (pn 2) os wl p (n + 1) σ) := by
      intro t h' X' Y' r e1 e2 e3 e4 e5
      obtain ⟨t2, h2, X2, Y2, b1, b2, b3, b4⟩ := ih (p + 1) _ _ X' Y' _ fu fv (by omega) (by omega) (by omega) e4 e5
      refine ⟨t ++ t2, h2, X2, Y2, ?_, ?_, by rw [← List.append_assoc]; exact b3, by rw [← List.append_assoc]; exact b4⟩
      · rw [m_L48_s, k7, if_neg (nI_ge (by omega) (by omega)), e1, Option.bind_some, e2, Option.bind_some, nI_1, b1]
      · rw [m_L54_s, k6, if_neg (nI_ge (by omega) (by omega)), e3, Option.bind_some, nI_1, b2]
    have none : ∀ r, f_X2_loftBaleFrom X.2.2.1 X.2.2.2.2.1 X.2.2.2.2.2.1 (nI p) = some r → m_L59 pn sz rc ld r 4096 X 0 = some X → (∀ c, c < 136 → ol c = 2 → ¬ Y.2.2.2.2.2.2.1 c = nI p) → ∃ t h' X' Y', m_L48 pn sz rc ld (fu + 1) X (nI p) = some X' ∧ m_L54 mp ss sr sd ol (fv + 1) Y (nI p) = some Y' ∧ m_CT m oly sz ss X0 Y0 (l ++ t) h' X' Y' ∧ z_Ys ν oly sz (l ++ t) h' X' (z_cp2 rp m (pn 2) os wl p (n + 1) σ) := by
      intro r e1 e2 hno
      refine go [] h X Y r e1 e2 (m_loftNo 136 0 4096 (by omega) (by omega) (fun c _ h2 h3 => hno c h2 h3)) (by simpa using hT) ?_
      rw [List.append_nil, z_cw_no wl (fun x hx => ?_)]
      · exact hY
      · obtain ⟨c, c1, c2, rfl⟩ := (hwl.2 _).mp hx
        rw [hfp c c1 c2]
        exact hno c (by omega) ((k1 c c1).trans c2)
    have e59 : m_L59 pn sz rc ld (-1) 4096 X 0 = some X := by
      rw [show (4096 : Nat) = 4095 + 1 from rfl, m_L59_s, m_ropes1, Option.bind_some, if_pos (by decide)]
    have eat : f_X5_at X.2.2.2.2.1 X.2.2.2.2.2.1 (nI p) = some (X.2.2.2.2.2.1 p) := m_loftAt hlo1 k8 (by omega)
    rcases hLf.2.2 p (by omega) with hm | ⟨b, hb, hsw, hm, p', s', hp', hs', -, hpp, -⟩
    · refine none (-1) ?_ e59 (fun c hc ho hsp => ?_)
      · unfold f_X2_loftBaleFrom
        rw [eat, Option.bind_some, if_pos hm]
      · have := (cell c hc ho hsp).2.2
        exact m_nI_m1 (by omega) (this.symm.trans hm)
    · have ebl : f_X2_loftBaleFrom X.2.2.1 X.2.2.2.2.1 X.2.2.2.2.2.1 (nI p) = some (if p' = p then nI b else -1) := by
        unfold f_X2_loftBaleFrom
        rw [eat, Option.bind_some, hm, if_neg (m_nI_m1 (by omega)), m_place hb, Option.bind_some, ← (hps b hb).1, hp']
        by_cases e : p' = p
        · rw [e, if_neg (fun h2 => h2 rfl), if_pos rfl]
        · rw [if_pos (fun h2 => e ((nI_eq (by omega) (by omega)).mp h2)), if_neg e]
      by_cases e : p' = p
      · subst e
        rw [if_pos rfl] at ebl
        obtain ⟨k, hk3, hk, -⟩ := hG b hb
        by_cases hbl : b ∈ l
        · refine none (nI b) ebl ?_ (fun c hc ho hsp => ?_)
          · rw [show (4096 : Nat) = 4095 + 1 from rfl, m_L59_s, m_ropes hb, Option.bind_some]
            by_cases hk0 : rc b ≤ 0
            · rw [if_pos hk0]
            · rw [if_neg hk0, m_lhas hb, Option.bind_some, if_pos]
              have := (hQ.2.2.2.2.2.1 b hb).mp hbl
              simp only [this, not_false_eq_true, decide_true]
              decide
          · obtain ⟨c1, c2, c3⟩ := cell c hc ho hsp
            obtain rfl : c = b := (nI_eq (by omega) (by omega)).mp (c3.symm.trans hm)
            have := hLy.1 c hbl
            rw [c2] at this
            exact absurd this (by decide)
        · have ho1 : ¬ oly b = 1 := fun ho => by
            have := (hLy.2 b hb).2.2.2.1 ho hbl
            rw [hsw] at this
            exact absurd this (by decide)
          have ho2 : oly b = 2 := ((hLy.2 b hb).2.2.1 ho1).symm.trans hsw
          obtain ⟨t, h', X', Y', a1, a2, a3, a4⟩ := z_ropesL hh hG hr hb (by rw [ho2]; decide) ho1 hk3 hk k 0 l h X Y σ 4096 4096 (by omega) (by omega) (by omega) hT hY
          rw [List.drop_zero] at a4
          have only : ∀ c, c < 136 → c ≠ b → ol c = 2 → ¬ Y.2.2.2.2.2.2.1 c = nI p' := fun c hc hcb ho hsp => by
            obtain ⟨c1, c2, c3⟩ := cell c hc ho hsp
            exact hcb ((nI_eq (by omega) (by omega)).mp (c3.symm.trans hm))
          refine go t h' X' Y' (nI b) ebl a1 (m_loftYes (b := b) (by omega) ((k1 b hb).trans ho2) hp' a2 only (fun c hc hcb ho hsp => ?_) 136 0 4096 (by omega) (by omega) (by omega)) a3 ?_
          · have hc8 : c < 128 := by
              rcases Nat.lt_or_ge c 128 with h1 | h1
              · exact h1
              · rw [k2 c h1 hc] at ho; exact absurd ho (by decide)
            have ho3 : oly c = 2 := (k1 c hc8).symm.trans ho
            refine only c hc hcb ho ?_
            rw [(hps c hc8).1, hpl c (by rw [ho3]; decide), ← a3.2.2.2.2.2.2.2.1 c (by rw [ho3]; decide), ← (a3.1.2.2.1 c hc8).1]
            exact hsp
          · rw [z_cw_one (x := ν b) hwl.1 ((hwl.2 _).mpr ⟨b, hb, ho2, rfl⟩) (by rw [hfp b hb ho2]; exact hp') hwo (fun y hy hne => ?_)]
            · exact a4
            · obtain ⟨c, c1, c2, rfl⟩ := (hwl.2 _).mp hy
              rw [hfp c c1 c2]
              exact only c (by omega) (fun e => hne (by rw [e])) ((k1 c c1).trans c2)
      · rw [if_neg e] at ebl
        refine none (-1) ebl e59 (fun c hc ho hsp => ?_)
        obtain ⟨c1, c2, c3⟩ := cell c hc ho hsp
        obtain rfl : c = b := (nI_eq (by omega) (by omega)).mp (c3.symm.trans hm)
        exact e ((nI_eq (by omega) (by omega)).mp (hp'.symm.trans hsp))
end ZCOPYL
/-- the law's barn and the class's at rest: ν b lies where bale b lies -/
def z_YR (ν : Nat → Nat) (H : Nat) (h : List Nat) (bn ly pl sz ag rc ld hk : m_Rr) (hl ll : List Nat) (hkL : List (Option Nat)) (f : Nat → Nat → Int32) (rp : Nat → List (Option Nat)) (q : Int32) : Prop :=
  (∀ b c, b < 128 → c < 128 → ¬ ly b = 0 → ¬ ly c = 0 → ν b = ν c → b = c) ∧ hl = h.map ν ∧ (ll.Nodup ∧ ∀ x, x ∈ ll ↔ ∃ b, b < 128 ∧ ly b = 2 ∧ x = ν b) ∧
  (∀ b, b < 128 → ¬ ly b = 0 → f (ν b) 0 = sz b ∧ f (ν b) 1 = ag b ∧ f (ν b) 2 = pl b ∧ f (ν b) 3 = (if ly b = 2 then 1 else 0)) ∧ z_Yr ν ly rc ld rp ∧ (hkL.length = H ∧ ∀ i, i < H → z_cell ν ly (hk i) (hkL[i]?)) ∧ q = bn 13
theorem z_cell_live {ν : Nat → Nat} {ly ly' : m_Rr} {c : Int32} {o : Option (Option Nat)} (h : z_cell ν ly c o) (hc : c = -1 ∨ ∃ b, b < 128 ∧ c = nI b ∧ ¬ ly' b = 0) : z_cell ν ly' c o := by
  rcases h with h | ⟨b, h1, h2, h3, h4⟩
  · exact Or.inl h
  · rcases hc with hc | ⟨b', k1, k2, k3⟩
    · exact absurd (h3.symm.trans hc) (m_nI_m1 (by omega))
    · obtain rfl : b = b' := (nI_eq (by omega) (by omega)).mp (h3.symm.trans k2)
      exact Or.inr ⟨b, h1, k3, h3, h4⟩
set_option maxHeartbeats 4000000 in
/-- a copying, on all three sides -/
theorem z_copyL {H m hf : Nat} {h : List Nat} {pn mp bn ly pl sz ag rc ld lo lr hk rw st sh sw sp ss sr sa sd : m_Rr} {ν : Nat → Nat} {hl ll : List Nat} {hkL : List (Option Nat)} {f : Nat → Nat → Int32} {rp : Nat → List (Option Nat)} {q : Int32} {σ : z_St} (hP : m_Pl H m hf pn mp) (hR : m_R H m hf h bn ly pl sz ag rc ld lo lr hk rw st sh sw sp ss sr sa sd) (hYR : z_YR ν H h bn ly pl sz ag rc ld hk hl ll hkL f rp q) (hσ : σ = z_copy rp m (pn 2) hl ll hkL f q) (li nr nd ro md mq mi : m_Rr) :
    ∃ x h' bn' ly' pl' ag' lo' lr' li' nr' nd' rw' md' mq' mi' st' sw' sp' sa', f_X2_copyHalf pn bn ly pl sz ag rc ld lo lr li nr nd hk rw ro = some (x, bn', ly', pl', ag', lo', lr', li', nr', nd', rw', rw) ∧ f_X14_copyAll md mp mq mi st sh sw sp ss sr sa sd = some (x, md', mq', mi', st', sw', sp', sa') ∧ m_R H m hf h' bn' ly' pl' sz ag' rc ld lo' lr' hk rw' st' sh sw' sp' ss sr sa' sd ∧ (∀ j, j ≠ 16 → md' j = md j) ∧ bn' 10 = bn 10 ∧ bn' 12 = bn 12 + 1 ∧
      z_YR ν H h' bn' ly' pl' sz ag' rc ld hk σ.1 σ.2.1 hkL σ.2.2.2.1 rp σ.2.2.2.2 ∧ x = nI hl.length - nI σ.2.2.1.length ∧ bn' 9 = 1 - bn 9 ∧ bn' 11 = bn 11 ∧ bn' 14 = bn 14 + x := by
  obtain ⟨x, h', bn', ly', pl', ag', lo', lr', li', nr', nd', rw', md', mq', mi', st', sw', sp', sa', r1, r2, r3, r4, r5, r6⟩ := m_copy hP hR li nr nd ro md mq mi
  refine ⟨x, h', bn', ly', pl', ag', lo', lr', li', nr', nd', rw', md', mq', mi', st', sw', sp', sa', r1, r2, r3, r4, r5, r6, ?_⟩
  obtain ⟨v1, v2, ⟨v3, v4⟩, v5, v6, ⟨v7, v8⟩, v9⟩ := hYR
  obtain ⟨p0, p1, p2, p3, p4, p5, p6⟩ := hP
  obtain ⟨⟨hE, hZ⟩, ⟨hg1, hg2⟩, hv, hRh, ⟨hLf, hlo1, hlo2⟩, hK, hB⟩ := id hR
  obtain ⟨w1, w2, w3, w4⟩ := m_R_len hv hRh
  obtain ⟨hnd, hmem, hrw, hb7, hb8, htw, h64⟩ := id hRh
  obtain ⟨c1, c2, c3, c4, c5, c6⟩ := id hB
  obtain ⟨ol, hol⟩ : ∃ ol, ol = q_cp sw (fun _ => 0) 136 := ⟨_, rfl⟩
  have holv : ∀ b, b < 136 → ol b = sw b := fun b hb => by rw [hol, q_cp_lt hb]
  have m64 := hLf.1
  have hH : m_TH m ly sz ss pn mp ol := by
    refine ⟨fun b hb => (holv b (by omega)).trans (hE b hb).1, fun b h1 h2 => (holv b h2).trans (hZ b h1 h2), fun b hb ho => ?_, fun t h1 h2 => ?_, p4, p3, p2, m64⟩
    · obtain ⟨s, s1, s2, s3, s4⟩ := w1 b ((hmem b).mpr ⟨hb, ho⟩)
      exact ⟨s, s1, by omega, s3, by rw [(hE b hb).2.2.1]; exact s3⟩
    · have := m_sub_len h1 (k := h) (fun x hx => (hmem x).mpr (h2 x hx))
      omega
  have hG : m_TG rc ld sr sd := fun b hb => by
    obtain ⟨k, k1, k2, k3⟩ := hg1 b hb
    exact ⟨k, k1, k2, by rw [(hE b hb).2.2.2.2]; exact k2, fun r hr => ⟨(k3 r hr).1, (k3 r hr).2.imp id (fun ⟨c, x, y, z⟩ => ⟨c, x, y⟩)⟩⟩
  obtain ⟨bn0, hbn0⟩ : ∃ f, f = q_up (q_up (q_up (q_up bn 7 (0 : Int32)) 8 (0 : Int32)) 9 ((1 : Int32) - ((q_up (q_up bn 7 (0 : Int32)) 8 (0 : Int32)) 9))) 12 (((q_up (q_up (q_up bn 7 (0 : Int32)) 8 (0 : Int32)) 9 ((1 : Int32) - ((q_up (q_up bn 7 (0 : Int32)) 8 (0 : Int32)) 9))) 12) + (1 : Int32)) := ⟨_, rfl⟩
  obtain ⟨X0, hX0⟩ : ∃ X : m_XT, X = (bn0, ly, pl, ag, lo, lr, q_up li 2 0, nr, q_fil 128 (-1) nd, ro) := ⟨_, rfl⟩
  obtain ⟨sw0, hsw0⟩ : ∃ f : m_Rr, f = fun b => if b < 136 ∧ ol b = 1 then 0 else sw b := ⟨_, rfl⟩
  obtain ⟨Y0, hY0⟩ : ∃ Y : m_YT, Y = (0, q_up md 16 0, mq, q_fil 136 0 mi, st, sw0, sp, sa) := ⟨_, rfl⟩
  have hsw0v : ∀ b, b < 136 → sw0 b = if sw b = 1 then 0 else sw b := fun b hb => by
    rw [hsw0]
    show (if b < 136 ∧ ol b = 1 then 0 else sw b) = _
    rw [holv b hb]
    by_cases e : sw b = 1
    · rw [if_pos ⟨hb, e⟩, if_pos e]
    · rw [if_neg (fun x => e x.2), if_neg e]
  have hsw02 : ∀ b, b < 136 → (sw0 b = 2 ↔ sw b = 2) := fun b hb => by
    rw [hsw0v b hb]
    by_cases e : sw b = 1
    · rw [if_pos e, e]; exact ⟨fun x => absurd x (by decide), fun x => absurd x (by decide)⟩
    · rw [if_neg e]
  have hT0 : m_CT m ly sz ss X0 Y0 [] [] X0 Y0 := by
    refine ⟨?_, by rw [hY0]; rfl, fun _ _ _ _ => rfl, fun _ _ => rfl, fun _ _ => rfl, fun _ _ => rfl, fun _ _ => rfl, fun _ _ => rfl, fun _ _ => rfl⟩
    rw [hX0, hY0]
    refine ⟨m_Q_0, ⟨fun b hb => by (cases hb), fun b hb => ⟨fun _ => rfl, fun x => by (cases x), fun ho => ?_, fun ho _ => ?_, fun x => by (cases x)⟩⟩, fun b hb => ⟨(hE b hb).2.1, (hE b hb).2.2.2.1⟩, ⟨?_, ?_, ?_⟩, ⟨List.nodup_nil, fun b => ⟨fun x => by (cases x), fun x => by (cases x.1)⟩, fun i b x => by (cases x)⟩, ?_, hlo1, ?_⟩
    · show sw0 b = ly b
      rw [hsw0v b (by omega), if_neg (by rw [(hE b hb).1]; exact ho), (hE b hb).1]
    · show sw0 b = 0
      rw [hsw0v b (by omega), if_pos (by rw [(hE b hb).1]; exact ho)]
    · show bn0 7 = _
      rw [hbn0, m_up_n (by decide), m_up_n (by decide), m_up_n (by decide), m_up_s]; rfl
    · show bn0 8 = _
      rw [hbn0, m_up_n (by decide), m_up_n (by decide), m_up_s]; rfl
    · show bn0 13 = st 4
      rw [hbn0, m_up_n (by decide), m_up_n (by decide), m_up_n (by decide), m_up_n (by decide)]; exact c5
    · refine ⟨hLf.1, fun b hb hw => hLf.2.1 b hb ((hsw02 b hb).mp hw), fun q hq => (hLf.2.2 q hq).imp id (fun ⟨b, x1, x2, x3⟩ => ⟨b, x1, (hsw02 b (by omega)).mpr x2, x3⟩)⟩
    · show lo 2 = m_sm (fun i => sw0 i = 2) (fun _ => 1) 136
      rw [hlo2]
      exact m_sm_congr (fun i hi => (hsw02 i hi).symm) (fun _ _ _ => rfl)
  have hhyp : z_hyp m ν ly sz ss pn mp ol hl := by
    refine ⟨v1, hH, fun b hb => (hE b hb).2.2.1, fun x => ?_⟩
    rw [v2, List.mem_map]
    constructor
    · rintro ⟨b, b1, b2⟩
      exact ⟨b, ((hmem b).mp b1).1, ((hmem b).mp b1).2, b2.symm⟩
    · rintro ⟨b, b1, b2, b3⟩
      exact ⟨b, (hmem b).mpr ⟨b1, b2⟩, b3.symm⟩
  have hY0 : z_Ys ν ly sz [] [] X0 ([], ll, [], f, q) := by
    refine ⟨rfl, rfl, ⟨v3, ?_⟩, ?_, ?_⟩
    · rw [hX0]; exact v4
    · rw [hX0]; exact v5
    · rw [hX0]
      show q = bn0 13
      rw [v9, hbn0, m_up_n (by decide), m_up_n (by decide), m_up_n (by decide), m_up_n (by decide)]
  obtain ⟨t1, h1, X1, Y1, d1, d2, d3, d4⟩ := z_hooksT hhyp hK p6 v7 v8 H 0 [] [] X0 Y0 _ 4096 4096 (by omega) (by omega) (by have := hK.1; omega) hT0 hY0
  rw [List.drop_zero] at d4
  obtain ⟨t2, h2, X2, Y2, e1, e2, e3, e4⟩ := z_loftT hhyp hG v6 ⟨v3, v4⟩ m 0 _ _ X1 Y1 _ 4096 4096 (by omega) (by omega) (by omega) d3 d4
  obtain ⟨t3, h3, X3, Y3, f1, f2, f3, f4⟩ := z_queueT hhyp hG v6 128 0 _ _ X2 Y2 _ 4096 4096 (hl.length + 1) (by omega) (by omega) (by omega) (by omega) (by omega) e3 e4
  obtain ⟨l, hleq⟩ : ∃ l, l = [] ++ t1 ++ t2 ++ t3 := ⟨_, rfl⟩
  rw [← hleq] at f3 f4
  have f4 : z_Ys ν ly sz l h3 X3 σ := by rw [hσ]; exact f4
  obtain ⟨⟨hQ, hLy, hps, ⟨g7, g8, g13⟩, ⟨gnd, gmem, gRw⟩, gLf, glo1, glo2⟩, gv, gbn, gst, glo, gli, gmd, gpl, gsw⟩ := id f3
  have hlh : ∀ x ∈ l, x ∈ h := fun x hx => (hmem x).mpr ⟨hQ.2.2.2.1 x hx, hLy.1 x hx⟩
  have hlen : l.length ≤ h.length := m_sub_len hQ.2.2.1 hlh
  have hro : ∀ (i b : Nat), h[i]? = some b → rw i = nI b := fun i b hi => (hrw i b hi).1
  have hlose := m_lose (ly := X3.2.1) (bn := X3.1) hQ.2.2.2.2.2.1 hro (fun x hx => ((hmem x).mp hx).1) w3
  have hx : nI h.length - nI l.length = nI (m_cn l h) := by rw [m_subI hlen, m_cn_len hnd hQ.2.2.1 hlh]
  unfold f_X2_copyHalf f_X4_clear at r1
  have d1' : f_X2_copyHalf_L36 pn sz hk 4096 bn0 ly pl ag lo lr (q_up li 2 0) nr (q_fil 128 (-1) nd) ro 0 = some X1 := by rw [hX0] at d1; exact d1
  have e1' : f_X2_copyHalf_L48 pn sz rc ld 4096 X1.1 X1.2.1 X1.2.2.1 X1.2.2.2.1 X1.2.2.2.2.1 X1.2.2.2.2.2.1 X1.2.2.2.2.2.2.1 X1.2.2.2.2.2.2.2.1 X1.2.2.2.2.2.2.2.2.1 X1.2.2.2.2.2.2.2.2.2 0 = some X2 := e1
  have f1' : f_X2_copyHalf_L83 pn sz rc ld 4096 X2.1 X2.2.1 X2.2.2.1 X2.2.2.2.1 X2.2.2.2.2.1 X2.2.2.2.2.2.1 X2.2.2.2.2.2.2.1 X2.2.2.2.2.2.2.2.1 X2.2.2.2.2.2.2.2.2.1 X2.2.2.2.2.2.2.2.2.2 0 = some X3 := f1
  rw [Option.bind_some, ← hbn0, d1', Option.bind_some, e1', Option.bind_some, f1', Option.bind_some, hb7, hlose, Option.bind_some] at r1
  have r1 := Option.some.inj r1
  simp only [Prod.mk.injEq] at r1
  obtain ⟨s1, s2, s3, s4, s5, s6, s7, s8, s9, s10, s11, -⟩ := r1
  obtain ⟨y1, y2, ⟨y3, y4⟩, y5, y6⟩ := id f4
  obtain ⟨⟨hE', -⟩, ⟨hg1', -⟩, hv', hRh', -, hK', -⟩ := id r3
  obtain ⟨hnd', hmem', hrw', hb7', -, -, -⟩ := id hRh'
  have h'8 : ∀ b ∈ h', b < 128 := fun b hb => ((hmem' b).mp hb).1
  have h'l : h'.length ≤ 128 := m_pig 128 h' hnd' h'8
  obtain ⟨h3l, h38⟩ := z_CT_h f3
  have hbn7 : bn' 7 = nI h3.length := by rw [← s2, m_up_n (by decide)]; exact g7
  have hh3 : h' = h3 := by
    refine z_rows_u (f := rw') (fun i x hx => ⟨(hrw' i x hx).1, by have := h'8 x (List.mem_of_getElem? hx); omega⟩) (fun i x hx => ⟨by rw [← s11]; exact (gRw i x hx).1, by have := h38 x (List.mem_of_getElem? hx); omega⟩) ((nI_eq (by omega) (by omega)).mp (hb7'.symm.trans hbn7))
  have hly' : ∀ b, b < 128 → (¬ ly' b = 0 → ¬ ly b = 0) ∧ (ly' b = 2 ↔ X3.2.1 b = 2) := fun b hb => by
    rw [← s3]
    obtain ⟨z1, z2, z3, z4, z5⟩ := hLy.2 b hb
    unfold m_ze
    by_cases hc : b ∈ h ∧ b ∉ l
    · rw [if_pos hc]
      refine ⟨fun h0 => absurd rfl h0, fun h0 => absurd h0 (by decide), fun h0 => ?_⟩
      rw [z1 hc.2, ((hmem b).mp hc.1).2] at h0
      exact absurd h0 (by decide)
    · rw [if_neg hc]
      refine ⟨fun h0 => ?_, Iff.rfl⟩
      by_cases hbl : b ∈ l
      · rw [hLy.1 b hbl]; decide
      · rw [← z1 hbl]; exact h0
  refine ⟨⟨fun b c hb hc h0 h0' => v1 b c hb hc ((hly' b hb).1 h0) ((hly' c hc).1 h0'), by rw [y1, hh3], ⟨y3, fun x => ?_⟩, fun b hb h0 => ?_, fun b hb h0 => ?_, ⟨v7, fun i hi => ?_⟩, ?_⟩, ?_⟩
  · rw [y4]
    constructor
    · rintro ⟨b, b1, b2, b3⟩
      exact ⟨b, b1, (hly' b b1).2.mpr b2, b3⟩
    · rintro ⟨b, b1, b2, b3⟩
      exact ⟨b, b1, (hly' b b1).2.mp b2, b3⟩
  · obtain ⟨z0, z1, z2, z3⟩ := y5 b hb ((hly' b hb).1 h0)
    refine ⟨z0, by rw [z1, s5], by rw [z2, s4], ?_⟩
    rw [z3]
    by_cases h2 : X3.2.1 b = 2
    · rw [if_pos h2, if_pos ((hly' b hb).2.mpr h2)]
    · rw [if_neg h2, if_neg (fun h => h2 ((hly' b hb).2.mp h))]
  · obtain ⟨k, k1, k2, k3, k4⟩ := v6 b hb ((hly' b hb).1 h0)
    obtain ⟨k', j1, j2, j3⟩ := hg1' b hb
    obtain rfl : k' = k := (nI_eq (by omega) (by omega)).mp (j2.symm.trans k2)
    refine ⟨k', k1, k2, k3, fun r hr => z_cell_live (k4 r hr) ((j3 r hr).2.imp id (fun ⟨c, c1, c2, c3⟩ => ⟨c, c1, c2, c3 h0⟩))⟩
  · have := hK'.1
    exact z_cell_live (v8 i hi) (((hK'.2 i (by omega)).1 hi).2.imp id (fun ⟨c, c1, c2⟩ => ⟨c, c1.1, c2, c1.2⟩))
  · rw [y6, ← s2, m_up_n (by decide)]
  · refine ⟨by rw [← s1, ← hx, v2, y2, List.length_map, List.length_map], ?_, ?_, ?_⟩
    · rw [← s2, m_up_n (by decide), gbn 9 (by decide) (by decide) (by decide), hX0]
      show bn0 9 = _
      rw [hbn0, m_up_n (by decide), m_up_s, m_up_n (by decide), m_up_n (by decide)]
    · rw [← s2, m_up_n (by decide), gbn 11 (by decide) (by decide) (by decide), hX0]
      show bn0 11 = _
      rw [hbn0, m_up_n (by decide), m_up_n (by decide), m_up_n (by decide), m_up_n (by decide)]
    · rw [← s2, m_up_s, ← s1, gbn 14 (by decide) (by decide) (by decide), hX0]
      show bn0 14 + _ = _
      rw [hbn0, m_up_n (by decide), m_up_n (by decide), m_up_n (by decide), m_up_n (by decide)]
