/-! STEPS GO BY: what would be, and what comes, told by the reference's barn -/
def lc_it (F : m_SB → Option (Bool × m_SB)) : Nat → m_SB → Option m_SB
  | 0, Y => some Y
  | n + 1, Y => (F Y).bind fun r => lc_it F n r.2
theorem lc_it_s {F : m_SB → Option (Bool × m_SB)} {n : Nat} {Y Y' : m_SB} {ok : Bool} (h : F Y = some (ok, Y')) : lc_it F (n + 1) Y = lc_it F n Y' := by
  show (F Y).bind _ = _
  rw [h]; rfl
theorem lc_it_e {F : m_SB → Option (Bool × m_SB)} {Z : m_SB} {ok : Bool} : ∀ (n : Nat) (Y Y' : m_SB), lc_it F n Y = some Y' → F Y' = some (ok, Z) → lc_it F (n + 1) Y = some Z
  | 0, Y, Y', h1, h2 => by
    obtain rfl : Y = Y' := Option.some.inj h1
    exact lc_it_s h2
  | n + 1, Y, Y', h1, h2 => by
    have h1 : (F Y).bind (fun r => lc_it F n r.2) = some Y' := h1
    obtain ⟨r, hr, h3⟩ := q_bd h1
    have h4 := lc_it_e n r.2 Y' h3 h2
    show (F Y).bind (fun r => lc_it F (n + 1) r.2) = some Z
    rw [hr]; exact h4
/-- how many copyings, what is used -/
abbrev lc_cp (Y : m_SB) : Int32 := Y.2.2.2.2.1 3
abbrev lc_us (Y : m_SB) : Option Int32 := f_X14_used Y.2.2.2.2.2.2.1 Y.2.2.2.2.2.2.2.2.1 1
/-- the answer of stepsUntilCopying -/
def lc_Un (F : m_SB → Option (Bool × m_SB)) (p : Nat) (Y : m_SB) (v : Int32) : Prop := (v = -1 ∧ ∀ k, k ≤ 100 → ∃ Z, lc_it F k Y = some Z ∧ lc_cp Z = nI p) ∨ ∃ e, 1 ≤ e ∧ e ≤ 100 ∧ v = nI e ∧ (∀ k, k < e → ∃ Z, lc_it F k Y = some Z ∧ lc_cp Z = nI p) ∧ ∃ Z, lc_it F e Y = some Z ∧ lc_cp Z = nI (p + 1)
section LCCH
variable {H m hf ns oc : Nat} {pn nu : m_Rr} {od : Nat → Option Nat} {T1 : Nat → m_Rr} {K1 : Nat → Nat → Option Nat} {mp pd po pq pr ps pt pe pc : m_Rr}
theorem lc_go1 {X X' : m_CB} {ok : Bool} (h : m_ps pn nu od T1 K1 X = some (ok, X')) : m_gC pn nu od T1 K1 1 4096 X 0 0 = some (if ok = true then 1 else 0, X') := by
  rw [show (4096 : Nat) = 4095 + 1 from rfl, m_gC_s, if_neg (by decide), h, Option.bind_some]
  cases ok with
  | false => rw [if_pos (show q_bz false = 0 from rfl), show (4095 : Nat) = 4094 + 1 from rfl, m_gC_s, if_pos (by decide)]; rfl
  | true => rw [if_neg (show ¬ q_bz true = 0 by decide), show (4095 : Nat) = 4094 + 1 from rfl, m_gC_s, if_pos (by decide)]; rfl
theorem lc_R3 {X : m_CB} {Y : m_SB} (h : m_RB H m hf X Y) : lc_cp Y = X.1 12 := by
  obtain ⟨h', -, -, -, -, -, -, ⟨-, -, -, c4, -⟩⟩ := h
  exact c4.symm
theorem lc_R8 {X : m_CB} {Y : m_SB} (h : m_RB H m hf X Y) : lc_us Y = some (X.1 8) := by
  obtain ⟨h', hR⟩ := h
  exact (m_usedH hR).1
theorem lc_run (hP : m_Pn H m hf ns oc pn nu od T1 K1 mp pd po pq pr ps pt pe pc) (hns : 0 < ns) {c : Nat} (hc : c ≤ 100) : ∀ (n i fu : Nat) (X : m_CB) (Y : m_SB) (x : Int32) (g p : Nat), i + n = c → n < fu → m_RB H m hf X Y → X.1 10 = nI g → g + n < 2 ^ 30 → X.1 12 = nI p →
    ∃ v X' Y', m_gC pn nu od T1 K1 (nI c) fu X x (nI i) = some (v, X') ∧ lc_it (m_go mp pd po pq pr ps pt pe pc) n Y = some Y' ∧ m_RB H m hf X' Y' := by
  intro n
  induction n with
  | zero =>
    intro i fu X Y x g p hi hfu hR hg hg2 hx
    obtain ⟨fu, rfl⟩ : ∃ z, fu = z + 1 := ⟨fu - 1, by omega⟩
    exact ⟨x, X, Y, by rw [m_gC_s, if_pos (nI_le (by omega) (by omega))], rfl, hR⟩
  | succ n ih =>
    intro i fu X Y x g p hi hfu hR hg hg2 hx
    obtain ⟨fu, rfl⟩ : ∃ z, fu = z + 1 := ⟨fu - 1, by omega⟩
    obtain ⟨ok, X', Y', y1, y2, y3, y4, y5, y6⟩ := m_step hP hR hns hg (by omega)
    have hp : ∃ p', X'.1 12 = nI p' := by
      rcases y6 with e | e
      · exact ⟨p, e.trans hx⟩
      · exact ⟨p + 1, by rw [e, hx, nI_1]⟩
    obtain ⟨p', hp⟩ := hp
    obtain ⟨v, X2, Y2, z1, z2, z3⟩ := ih (i + 1) fu X' Y' (if q_bz ok = 0 then x else x + 1) (g + 1) p' (by omega) (by omega) y3 y5 (by omega) hp
    refine ⟨v, X2, Y2, ?_, (lc_it_s y2).trans z2, z3⟩
    rw [m_gC_s, if_neg (nI_ge (by omega) (by omega)), y1, Option.bind_some, nI_1]
    by_cases e : q_bz ok = 0
    · rw [if_pos e]; rw [if_pos e] at z1; exact z1
    · rw [if_neg e]; rw [if_neg e] at z1; exact z1
theorem lc_untilL (hP : m_Pn H m hf ns oc pn nu od T1 K1 mp pd po pq pr ps pt pe pc) (hns : 0 < ns) {bn : m_Rr} {p : Nat} (hb : bn 12 = nI p) (hp : p < 2 ^ 30) : ∀ (n i fu : Nat) (X : m_CB) (Y : m_SB) (g : Nat), i + n = 101 → n < fu → 1 ≤ i → m_RB H m hf X Y → X.1 10 = nI g → g + n < 2 ^ 30 → X.1 12 = nI p →
    ∃ fl v X', m_sC pn nu od T1 K1 bn fu X (nI i) = some (fl, v, X') ∧ ((fl = 0 ∧ ∀ k, k ≤ n → ∃ Z, lc_it (m_go mp pd po pq pr ps pt pe pc) k Y = some Z ∧ lc_cp Z = nI p) ∨
      ∃ e, 1 ≤ e ∧ e ≤ n ∧ fl = 1 ∧ v = nI (i + e - 1) ∧ (∀ k, k < e → ∃ Z, lc_it (m_go mp pd po pq pr ps pt pe pc) k Y = some Z ∧ lc_cp Z = nI p) ∧ ∃ Z, lc_it (m_go mp pd po pq pr ps pt pe pc) e Y = some Z ∧ lc_cp Z = nI (p + 1)) := by
  intro n
  induction n with
  | zero =>
    intro i fu X Y g hi hfu h1 hR hg hg2 hx
    obtain ⟨fu, rfl⟩ : ∃ z, fu = z + 1 := ⟨fu - 1, by omega⟩
    obtain rfl : i = 101 := by omega
    refine ⟨0, 0, X, by rw [m_sC_s, if_pos (by decide)], Or.inl ⟨rfl, fun k hk => ?_⟩⟩
    obtain rfl : k = 0 := by omega
    exact ⟨Y, rfl, (lc_R3 hR).trans hx⟩
  | succ n ih =>
    intro i fu X Y g hi hfu h1 hR hg hg2 hx
    obtain ⟨fu, rfl⟩ : ∃ z, fu = z + 1 := ⟨fu - 1, by omega⟩
    obtain ⟨ok, X', Y', y1, y2, y3, y4, y5, y6⟩ := m_step hP hR hns hg (by omega)
    have e0 : ∃ Z, lc_it (m_go mp pd po pq pr ps pt pe pc) 0 Y = some Z ∧ lc_cp Z = nI p := ⟨Y, rfl, (lc_R3 hR).trans hx⟩
    rw [m_sC_s, if_neg (show ¬ (100 : Int32) < nI i from m_nlt (a := 100) (b := i) (by omega) (by decide)), lc_go1 y1, Option.bind_some, hb, nI_1]
    dsimp only
    rcases y6 with e | e
    · rw [e, hx, if_pos rfl]
      obtain ⟨fl, v, X2, z1, z2⟩ := ih (i + 1) fu X' Y' (g + 1) (by omega) (by omega) (by omega) y3 y5 (by omega) (e.trans hx)
      refine ⟨fl, v, X2, z1, ?_⟩
      rcases z2 with ⟨z2, z3⟩ | ⟨e9, k1, k2, k3, k4, k5, k6⟩
      · refine Or.inl ⟨z2, fun k hk => ?_⟩
        cases k with
        | zero => exact e0
        | succ k => rw [lc_it_s y2]; exact z3 k (by omega)
      · refine Or.inr ⟨e9 + 1, by omega, by omega, k3, by rw [k4]; congr 1; omega, fun k hk => ?_, ?_⟩
        · cases k with
          | zero => exact e0
          | succ k => rw [lc_it_s y2]; exact k5 k (by omega)
        · rw [lc_it_s y2]; exact k6
    · rw [e, hx, nI_1, if_neg (fun hh => by have := (nI_eq (by omega) (by omega)).mp hh; omega)]
      refine ⟨1, nI i, X', rfl, Or.inr ⟨1, Nat.le_refl _, by omega, rfl, by congr 1, fun k hk => ?_, ?_⟩⟩
      · obtain rfl : k = 0 := by omega
        exact e0
      · rw [lc_it_s y2]
        exact ⟨Y', rfl, by rw [lc_R3 y3, e, hx, nI_1]⟩
/-- the trial barn is as the barn is -/
theorem lc_imit {h : List Nat} {bn ly pl sz ag rc ld lo lr hk rw st sh sw sp ss sr sa sd : m_Rr} (hR : m_R H m hf h bn ly pl sz ag rc ld lo lr hk rw st sh sw sp ss sr sa sd) (bnt lyt plt szt agt rct ldt lot lrt hkt rwt : m_Rr) :
    ∃ bn' ly' pl' sz' ag' rc' ld' lo' lr' hk' rw', f_X2_imitate bn ly pl sz ag rc ld lo lr hk rw bnt lyt plt szt agt rct ldt lot lrt hkt rwt = some (bn', ly', pl', sz', ag', rc', ld', lo', lr', hk', rw') ∧ m_R H m hf h bn' ly' pl' sz' ag' rc' ld' lo' lr' hk' rw' st sh sw sp ss sr sa sd ∧ bn' 10 = bn 10 ∧ bn' 12 = bn 12 := by
  have hbn : ∀ j, 7 ≤ j → j ≤ 14 → (q_up (q_up (q_up (q_up (q_up (q_up (q_up (q_up bnt 7 (bn 7)) 8 (bn 8)) 9 (bn 9)) 10 (bn 10)) 11 (bn 11)) 12 (bn 12)) 13 (bn 13)) 14 (bn 14)) j = bn j := fun j h1 h2 => by
    have : j = 7 ∨ j = 8 ∨ j = 9 ∨ j = 10 ∨ j = 11 ∨ j = 12 ∨ j = 13 ∨ j = 14 := by omega
    rcases this with rfl | rfl | rfl | rfl | rfl | rfl | rfl | rfl <;> rfl
  exact ⟨_, _, _, _, _, _, _, _, _, _, _, rfl, m_R_congr hR hbn (fun _ => q_cp_lt) (fun _ => q_cp_lt) (fun _ => q_cp_lt) (fun _ => q_cp_lt) (fun _ => q_cp_lt) (fun _ => q_cp_lt) rfl rfl (fun _ => q_cp_lt) (fun _ => q_cp_lt) (fun _ => q_cp_lt) (fun _ _ => rfl) (fun _ _ => rfl) (fun _ _ => rfl) (fun _ _ => rfl) (fun _ _ => rfl) (fun _ _ => rfl) (fun _ _ => rfl) (fun _ _ => rfl), rfl, rfl⟩
theorem lc_until (hP : m_Pn H m hf ns oc pn nu od T1 K1 mp pd po pq pr ps pt pe pc) {h : List Nat} {bn ly pl sz ag rc ld lo lr hk rw st sh sw sp ss sr sa sd : m_Rr} (hR : m_R H m hf h bn ly pl sz ag rc ld lo lr hk rw st sh sw sp ss sr sa sd) {g p : Nat} (g1 : bn 10 = nI g) (g2 : bn 12 = nI p) (hg : g < 2 ^ 29) (hp : p < 2 ^ 29) (bnt lyt plt szt agt rct ldt lot lrt li nr nd hkt rwt ro rk sk md ms mq mi : m_Rr) :
    ∃ v X', f_X12_stepsUntilCopying pn nu bn ly pl sz ag rc ld lo lr hk rw bnt lyt plt szt agt rct ldt lot lrt li nr nd hkt rwt ro rk sk od T1 K1 = some (v, X') ∧ (0 < ns → lc_Un (m_go mp pd po pq pr ps pt pe pc) p (md, ms, mq, mi, st, sh, sw, sp, ss, sr, sa, sd) v) := by
  obtain ⟨hPl, q1, q2, q3, q4, q5, q6⟩ := id hP
  obtain ⟨bn', ly', pl', sz', ag', rc', ld', lo', lr', hk', rw', i1, i3, i4, i5⟩ := lc_imit hR bnt lyt plt szt agt rct ldt lot lrt hkt rwt
  by_cases e : ns = 0
  · refine ⟨-1, (bnt, lyt, plt, szt, agt, rct, ldt, lot, lrt, li, nr, nd, hkt, rwt, ro, rk, sk), ?_, fun h => absurd e (by omega)⟩
    unfold f_X12_stepsUntilCopying
    rw [q1, e, if_neg (show ¬ ¬ nI 0 = 0 from fun hh => hh rfl)]
  · obtain ⟨fl, v, X', z1, z2⟩ := lc_untilL hP (show 0 < ns by omega) g2 (by omega) 100 1 4096 (bn', ly', pl', sz', ag', rc', ld', lo', lr', li, nr, nd, hk', rw', ro, rk, sk) (md, ms, mq, mi, st, sh, sw, sp, ss, sr, sa, sd) g (by omega) (by omega) (by omega) ⟨h, i3⟩ (i4.trans g1) (by omega) (i5.trans g2)
    have z1' : f_X12_stepsUntilCopying_L13 pn nu bn od T1 K1 4096 bn' ly' pl' sz' ag' rc' ld' lo' lr' li nr nd hk' rw' ro rk sk 1 = some (fl, v, X') := z1
    have eC : f_X12_stepsUntilCopying pn nu bn ly pl sz ag rc ld lo lr hk rw bnt lyt plt szt agt rct ldt lot lrt li nr nd hkt rwt ro rk sk od T1 K1 = if fl = 0 then some (-1, X') else some (v, X') := by
      unfold f_X12_stepsUntilCopying
      rw [q1, if_pos (nI_ne0 (by omega) (by omega)), i1, Option.bind_some]
      dsimp only
      rw [z1', Option.bind_some]
    rcases z2 with ⟨z2, z3⟩ | ⟨e9, k1, k2, k3, k4, k5, k6⟩
    · exact ⟨-1, X', by rw [eC, if_pos z2], fun _ => Or.inl ⟨rfl, z3⟩⟩
    · exact ⟨v, X', by rw [eC, if_neg (by rw [k3]; decide)], fun _ => Or.inr ⟨e9, k1, k2, by rw [k4]; congr 1; omega, k5, k6⟩⟩
theorem lc_usedAfter (hP : m_Pn H m hf ns oc pn nu od T1 K1 mp pd po pq pr ps pt pe pc) (hns : 0 < ns) {h : List Nat} {bn ly pl sz ag rc ld lo lr hk rw st sh sw sp ss sr sa sd : m_Rr} (hR : m_R H m hf h bn ly pl sz ag rc ld lo lr hk rw st sh sw sp ss sr sa sd) {g p : Nat} (g1 : bn 10 = nI g) (g2 : bn 12 = nI p) (hg : g < 2 ^ 29) {c : Nat} (c1 : 1 ≤ c) (c2 : c ≤ 100) (bnt lyt plt szt agt rct ldt lot lrt li nr nd hkt rwt ro rk sk md ms mq mi : m_Rr) :
    ∃ u X' Z, f_X12_usedAfter pn nu bn ly pl sz ag rc ld lo lr hk rw bnt lyt plt szt agt rct ldt lot lrt li nr nd hkt rwt ro rk sk od T1 K1 (nI c) = some (.inl u, X') ∧ lc_it (m_go mp pd po pq pr ps pt pe pc) c (md, ms, mq, mi, st, sh, sw, sp, ss, sr, sa, sd) = some Z ∧ lc_us Z = some u := by
  obtain ⟨hPl, q1, q2, q3, q4, q5, q6⟩ := id hP
  obtain ⟨bn', ly', pl', sz', ag', rc', ld', lo', lr', hk', rw', i1, i3, i4, i5⟩ := lc_imit hR bnt lyt plt szt agt rct ldt lot lrt hkt rwt
  obtain ⟨v, X', Z, y1, y2, y3⟩ := lc_run hP hns c2 c 0 4096 (bn', ly', pl', sz', ag', rc', ld', lo', lr', li, nr, nd, hk', rw', ro, rk, sk) (md, ms, mq, mi, st, sh, sw, sp, ss, sr, sa, sd) 0 g p (by omega) (by omega) ⟨h, i3⟩ (i4.trans g1) (by omega) (i5.trans g2)
  refine ⟨X'.1 8, X', Z, ?_, y2, lc_R8 y3⟩
  have a1 : f_X12_checkWork pn (nI c) = some (.inl ()) := by
    unfold f_X12_checkWork
    rw [if_neg (show ¬ nI c < 1 from m_nlt (a := c) (b := 1) c1 (by omega)), if_pos (show nI c ≤ 100 from nI_le (b := 100) c2 (by decide)), q1, if_pos (nI_ne0 (by omega) (by omega))]
  unfold f_X12_usedAfter
  rw [a1, Option.bind_some]
  unfold q_sm
  dsimp only
  rw [i1, Option.bind_some]
  have := m_goC (pn := pn) (nu := nu) (od := od) (T1 := T1) (K1 := K1) (X := (bn', ly', pl', sz', ag', rc', ld', lo', lr', li, nr, nd, hk', rw', ro, rk, sk)) (c := nI c)
  dsimp only at this ⊢
  rw [show nI 0 = 0 from rfl] at y1
  rw [this, y1]; rfl
end LCCH
