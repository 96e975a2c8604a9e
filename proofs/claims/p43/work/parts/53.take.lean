/-! MATH: takeOver, both sides in step -/
/-- in the middle of a copying: l the bales come to, h those of them that stay in the half -/
def m_C (m : Nat) (oly sz ss : Nat → Int32) (l h : List Nat) (bn ly pl ag lo lr li nr nd rw md mq mi st sw sp sa : Nat → Int32) : Prop :=
  m_Q l li nr nd md mq mi ∧ m_Ly oly l ly sw ∧ (∀ b, b < 128 → sp b = pl b ∧ sa b = ag b) ∧ (bn 7 = nI h.length ∧ bn 8 = m_tot sz h ∧ bn 13 = st 4) ∧ (h.Nodup ∧ (∀ b, b ∈ h ↔ b ∈ l ∧ ly b = 1) ∧ m_Rw sz pl rw h) ∧ m_Lf m lr sw sp ss ∧ lo 1 = nI m ∧ lo 2 = m_sm (fun i => sw i = 2) (fun _ => 1) 136
theorem m_take {m : Nat} {oly sz ss : Nat → Int32} {l h : List Nat} {bn ly pl ag lo lr li nr nd rw md mq mi st sw sp sa pn mp ol : Nat → Int32} (hC : m_C m oly sz ss l h bn ly pl ag lo lr li nr nd rw md mq mi st sw sp sa) (hol : ∀ b, b < 128 → ol b = oly b) (hsz : ∀ b, b < 128 → oly b = 1 → ∃ s, 1 ≤ s ∧ s ≤ 64 ∧ sz b = nI s ∧ ss b = nI s) (hB : ∀ t : List Nat, t.Nodup → (∀ x ∈ t, x < 128 ∧ oly x = 1) → t.length ≤ 64) (hp : pn 2 = mp 3) (hm : mp 2 = nI m) {c : Int32} (hc : c = -1 ∨ ∃ b, b < 128 ∧ c = nI b) :
    ∃ l' h' bn' ly' pl' ag' lo' lr' li' nr' nd' rw' md' mq' mi' st' sw' sp' sa', f_X2_takeOver pn bn ly pl sz ag lo lr li nr nd rw c = some (bn', ly', pl', ag', lo', lr', li', nr', nd', rw') ∧ f_X14_takeOver md mp mq mi st sw sp ss sa ol c (m_tot sz h) = some (m_tot sz h', md', mq', mi', st', sw', sp', sa') ∧ m_C m oly sz ss l' h' bn' ly' pl' ag' lo' lr' li' nr' nd' rw' md' mq' mi' st' sw' sp' sa' ∧ (∃ t, l' = l ++ t) ∧ (∀ j, j ≠ 7 → j ≠ 8 → j ≠ 13 → bn' j = bn j) ∧ (∀ j, j ≠ 4 → st' j = st j) ∧ (∀ j, j ≠ 2 → lo' j = lo j) ∧ (∀ j, j ≠ 2 → li' j = li j) ∧ (∀ j, j ≠ 16 → md' j = md j) ∧ (∀ b, ¬ oly b = 1 → pl' b = pl b) ∧ (∀ b, b < 128 → oly b = 1 → c = nI b → b ∈ l') ∧ (∀ c, 128 ≤ c → sw' c = sw c) := by
  have same : f_X2_takeOver pn bn ly pl sz ag lo lr li nr nd rw c = some (bn, ly, pl, ag, lo, lr, li, nr, nd, rw) ∧ f_X14_takeOver md mp mq mi st sw sp ss sa ol c (m_tot sz h) = some (m_tot sz h, md, mq, mi, st, sw, sp, sa) → (∀ b, b < 128 → oly b = 1 → c = nI b → b ∈ l) → ∃ l' h' bn' ly' pl' ag' lo' lr' li' nr' nd' rw' md' mq' mi' st' sw' sp' sa', f_X2_takeOver pn bn ly pl sz ag lo lr li nr nd rw c = some (bn', ly', pl', ag', lo', lr', li', nr', nd', rw') ∧ f_X14_takeOver md mp mq mi st sw sp ss sa ol c (m_tot sz h) = some (m_tot sz h', md', mq', mi', st', sw', sp', sa') ∧ m_C m oly sz ss l' h' bn' ly' pl' ag' lo' lr' li' nr' nd' rw' md' mq' mi' st' sw' sp' sa' ∧ (∃ t, l' = l ++ t) ∧ (∀ j, j ≠ 7 → j ≠ 8 → j ≠ 13 → bn' j = bn j) ∧ (∀ j, j ≠ 4 → st' j = st j) ∧ (∀ j, j ≠ 2 → lo' j = lo j) ∧ (∀ j, j ≠ 2 → li' j = li j) ∧ (∀ j, j ≠ 16 → md' j = md j) ∧ (∀ b, ¬ oly b = 1 → pl' b = pl b) ∧ (∀ b, b < 128 → oly b = 1 → c = nI b → b ∈ l') ∧ (∀ c, 128 ≤ c → sw' c = sw c) :=
    fun same hm => ⟨l, h, bn, ly, pl, ag, lo, lr, li, nr, nd, rw, md, mq, mi, st, sw, sp, sa, same.1, same.2, hC, ⟨[], by simp⟩, fun _ _ _ _ => rfl, fun _ _ => rfl, fun _ _ => rfl, fun _ _ => rfl, fun _ _ => rfl, fun _ _ => rfl, hm, fun _ _ => rfl⟩
  rcases hc with rfl | ⟨b, hb, rfl⟩
  · exact same ⟨m_tkc_1, m_tkr_1⟩ (fun b hb _ e => absurd e.symm (m_nI_m1 (by omega)))
  · obtain ⟨hQ, hLy, hps, ⟨hb7, hb8, hb13⟩, ⟨hnd, hmem, hR⟩, hLf, hlo1, hlo2⟩ := id hC
    obtain ⟨y1, y2, y3, y4, y5⟩ := hLy.2 b hb
    by_cases hbl : b ∈ l
    · exact same ⟨m_tkc_in hb ((hQ.2.2.2.2.2.1 b hb).mp hbl), m_tkr_in (by omega) ((hQ.2.2.2.2.2.2 b (by omega)).mp hbl)⟩ (fun c hc _ e => by rw [← (nI_eq (by omega) (by omega)).mp e]; exact hbl)
    by_cases ho : oly b = 1
    · have hly : ly b = 1 := (y1 hbl).trans ho
      have hsw0 : sw b = 0 := y4 ho hbl
      have hsw2 : ¬ sw b = 2 := by rw [hsw0]; decide
      have hmi : mi b = 0 := Classical.not_not.mp (fun e => hbl ((hQ.2.2.2.2.2.2 b (by omega)).mpr e))
      have hbh : b ∉ h := fun e => hbl ((hmem b).mp e).1
      obtain ⟨s, s1, s2, s3, s4⟩ := hsz b hb ho
      obtain ⟨l', li', nr', nd', md', mq', mi', a1, a2, a3, a4, a5, a6, a7, a8, a9⟩ := m_Q_add (x := 0) hQ hb (by decide)
      rw [if_neg hbl] at a4
      subst a4
      rw [show decide (b ∉ l) = true by simpa using hbl] at a1
      have hk : h.length < 64 := by
        have := hB (h ++ [b]) (List.nodup_append.mpr ⟨hnd, by simp, fun x hx y hy e => by rw [List.mem_singleton.mp hy] at e; rw [e] at hx; exact hbh hx⟩) (fun x hx => by
          rcases List.mem_append.mp hx with hx | hx
          · have := ((hmem x).mp hx).1
            exact ⟨hQ.2.2.2.1 x this, hLy.1 x this⟩
          · rw [List.mem_singleton.mp hx]; exact ⟨hb, ho⟩)
        simp at this
        omega
      obtain ⟨g, g1, g2, g3⟩ := m_gapFor hLf hm hlo1 s1 (by omega : s < 2 ^ 30)
      have h64 := hLf.1
      have g4 : ∀ p, g = some p → p < 64 := fun p e => by have := (g3 p e).1; omega
      have e1 := m_tkc_new (pn := pn) (pl := pl) (ag := ag) (rw := rw) (sz := sz) (lo := lo) (lr := lr) hb hly a1 (g := g) (by rw [s3]; exact g1) hb7 hk g4
      have e2 := m_tkr_new (x := m_tot sz h) (st := st) (sa := sa) (ol := ol) (mp := mp) (sw := sw) (sp := sp) (ss := ss) (by omega) ((hol b hb).trans ho) hmi a2 (g := g) (by rw [s4]; exact g2) g4
      rw [e1, e2, (hps b hb).2, hp]
      have hmemA : ∀ {c : Nat}, c ∈ l ++ [b] ↔ c ∈ l ∨ c = b := by intro c; simp
      cases hg : (if ag b < mp 3 then none else g) with
      | none =>
        refine ⟨l ++ [b], h ++ [b], _, _, _, _, _, _, _, _, _, _, _, _, _, _, _, _, _, rfl, by rw [m_tot_a, s3, s4], ⟨a3, m_Ly_c hLy hb hbl ho (Or.inl rfl) (m_up_same hly).symm, fun c hc => ?_, ⟨?_, ?_, ?_⟩, ⟨?_, ?_, ?_⟩, m_Lf_off hLf hsw2 (by decide), hlo1, ?_⟩, ⟨[b], rfl⟩, fun j j7 j8 j13 => ?_, fun _ _ => rfl, fun _ _ => rfl, a5, a6, fun c hc => ?_, fun c hc _ e => by rw [← (nI_eq (by omega) (by omega)).mp e]; simp, fun c hc => m_up_n (by omega)⟩
        · by_cases hcb : c = b
          · subst hcb; rw [m_up_s, m_up_s, m_up_s, m_up_s, hb8]; exact ⟨rfl, rfl⟩
          · rw [m_up_n hcb, m_up_n hcb, m_up_n hcb, m_up_n hcb]; exact hps c hc
        · rw [m_up_n (by decide), m_up_s]; simp
        · rw [m_up_s, m_tot_a, hb8]
        · rw [m_up_n (by decide), m_up_n (by decide)]; exact hb13
        · exact List.nodup_append.mpr ⟨hnd, by simp, fun x hx y hy e => by rw [List.mem_singleton.mp hy] at e; rw [e] at hx; exact hbh hx⟩
        · intro c
          rw [hmemA, List.mem_append, hmem c, List.mem_singleton]
          constructor
          · rintro (⟨x1, x2⟩ | rfl)
            · exact ⟨Or.inl x1, x2⟩
            · exact ⟨Or.inr rfl, hly⟩
          · rintro ⟨x1 | rfl, x2⟩
            · exact Or.inl ⟨x1, x2⟩
            · exact Or.inr rfl
        · rw [hb8]; exact m_Rw_a hR hbh
        · rw [hlo2]
          refine m_sm_congr (fun c hc => ?_) (fun _ _ _ => rfl)
          by_cases hcb : c = b
          · subst hcb; rw [m_up_s]; exact ⟨fun e => absurd e hsw2, fun e => absurd e (by decide)⟩
          · rw [m_up_n hcb]
        · rw [m_up_n j8, m_up_n j7]
        · exact m_up_n (fun e => hc (by rw [e]; exact ho))
      | some p =>
        have hgp : g = some p := by
          by_cases hh : ag b < mp 3
          · rw [if_pos hh] at hg; cases hg
          · rw [if_neg hh] at hg; exact hg
        obtain ⟨g5, g6⟩ := g3 p hgp
        have hnm : ¬ nI b = -1 := m_nI_m1 (by omega)
        refine ⟨l ++ [b], h, q_up bn 13 (bn 13 + 1), q_up ly b 2, q_up pl b (nI p), ag, q_up lo 2 (lo 2 + (if nI b = -1 then -1 else 1)), m_put lr p s (nI b), li', nr', nd', rw, md', mq', mi', q_up st 4 (st 4 + 1), q_up sw b 2, q_up sp b (nI p), sa, by
          show (f_X5_lay lo lr (nI b) (nI p) (sz b)).bind _ = _
          rw [s3, m_lay h64 hlo1 g5, Option.bind_some], rfl, ⟨a3, m_Ly_c hLy hb hbl ho (Or.inr rfl) rfl, fun c hc => ?_, ⟨?_, ?_, ?_⟩, ⟨hnd, ?_, ?_⟩, m_Lf_in hLf hb hsw2 s4 s1 g5 g6, ?_, ?_⟩, ⟨[b], rfl⟩, fun j j7 j8 j13 => m_up_n j13, fun j hj => m_up_n hj, fun j hj => m_up_n hj, a5, a6, fun c hc => ?_, fun c hc _ e => by rw [← (nI_eq (by omega) (by omega)).mp e]; simp, fun c hc => m_up_n (by omega)⟩
        · by_cases hcb : c = b
          · subst hcb; rw [m_up_s, m_up_s]; exact ⟨rfl, (hps c hc).2⟩
          · rw [m_up_n hcb, m_up_n hcb]; exact hps c hc
        · rw [m_up_n (by decide)]; exact hb7
        · rw [m_up_n (by decide)]; exact hb8
        · rw [m_up_s, m_up_s, hb13]
        · intro c
          rw [hmemA, hmem c]
          by_cases hcb : c = b
          · subst hcb; rw [m_up_s]; exact ⟨fun x => absurd x.1 hbl, fun x => absurd x.2 (by decide)⟩
          · rw [m_up_n hcb]; exact ⟨fun x => ⟨Or.inl x.1, x.2⟩, fun x => ⟨x.1.resolve_right hcb, x.2⟩⟩
        · intro i c hi
          have hcb : c ≠ b := fun e => hbh (by rw [← e]; exact List.mem_of_getElem? hi)
          rw [m_up_n hcb]; exact hR i c hi
        · rw [m_up_n (by decide)]; exact hlo1
        · rw [m_up_s, hlo2, if_neg hnm]
          have e9 := m_sm_in (n := 136) (p := fun i => sw i = 2) (q := fun i => q_up sw b 2 i = 2) (f := fun _ => 1) (g := fun _ => 1) (b := b) hsw2 (by show q_up sw b 2 b = 2; exact m_up_s) (by omega) (fun c hc hcb => by rw [m_up_n hcb]) (fun _ _ _ _ => rfl)
          exact e9.symm
        · exact m_up_n (fun e => hc (by rw [e]; exact ho))
    · exact same ⟨m_tkc_no hb (by rw [y1 hbl]; exact ho), m_tkr_no (by omega) (by rw [hol b hb]; exact ho)⟩ (fun c hc h1 e => by rw [← (nI_eq (by omega) (by omega)).mp e] at h1; exact absurd h1 ho)
