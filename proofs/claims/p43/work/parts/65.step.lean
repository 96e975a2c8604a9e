/-! MATH: one step, and many, on both sides -/
theorem m_after {H m hf : Nat} {X : m_CB} {Y : m_SB} (hR : m_RB H m hf X Y) {bn' st' : m_Rr} (b7 : bn' 7 = X.1 7) (b8 : bn' 8 = X.1 8) (b9 : bn' 9 = X.1 9) (b12 : bn' 12 = X.1 12) (b13 : bn' 13 = X.1 13) (b14 : bn' 14 = X.1 14) (s2 : st' 2 = Y.2.2.2.2.1 2) (s3 : st' 3 = Y.2.2.2.2.1 3) (s4 : st' 4 = Y.2.2.2.2.1 4) (s5 : st' 5 = Y.2.2.2.2.1 5) (h0 : bn' 10 = st' 0) (h1 : bn' 11 = st' 1) : m_RB H m hf (bn', X.2) (Y.1, Y.2.1, Y.2.2.1, Y.2.2.2.1, st', Y.2.2.2.2.2.1, Y.2.2.2.2.2.2.1, Y.2.2.2.2.2.2.2.1, Y.2.2.2.2.2.2.2.2.1, Y.2.2.2.2.2.2.2.2.2.1, Y.2.2.2.2.2.2.2.2.2.2.1, Y.2.2.2.2.2.2.2.2.2.2.2) := by
  obtain ⟨h, hR⟩ := hR
  exact ⟨h, m_R_cnt hR b7 b8 b9 b12 b13 b14 s2 s3 s4 s5 h0 h1⟩
theorem m_R_10 {H m hf : Nat} {X : m_CB} {Y : m_SB} (hR : m_RB H m hf X Y) : X.1 10 = Y.2.2.2.2.1 0 ∧ X.1 11 = Y.2.2.2.2.1 1 := by
  obtain ⟨h, -, -, -, -, -, -, ⟨c1, c2, c3, c4, c5, c6⟩⟩ := hR
  exact ⟨c2, c3⟩
/-- what a step that is done or refused leaves -/
def m_fC (ok : Bool) (X : m_CB) : m_CB := (if ok = true then q_up X.1 10 (X.1 10 + 1) else q_up (q_up X.1 11 (X.1 11 + 1)) 10 (q_up X.1 11 (X.1 11 + 1) 10 + 1), X.2)
def m_fR (ok : Bool) (Y : m_SB) : m_SB := (Y.1, Y.2.1, Y.2.2.1, Y.2.2.2.1, q_up (q_up Y.2.2.2.2.1 0 (Y.2.2.2.2.1 0 + 1)) 1 (q_up Y.2.2.2.2.1 0 (Y.2.2.2.2.1 0 + 1) 1 + (if ok = true then 0 else 1)), Y.2.2.2.2.2.1, Y.2.2.2.2.2.2.1, Y.2.2.2.2.2.2.2.1, Y.2.2.2.2.2.2.2.2.1, Y.2.2.2.2.2.2.2.2.2.1, Y.2.2.2.2.2.2.2.2.2.2.1, Y.2.2.2.2.2.2.2.2.2.2.2)
theorem m_f {H m hf : Nat} {X : m_CB} {Y : m_SB} (hR : m_RB H m hf X Y) (ok : Bool) : m_RB H m hf (m_fC ok X) (m_fR ok Y) ∧ (m_fC ok X).1 10 = X.1 10 + 1 ∧ (m_fC ok X).1 12 = X.1 12 := by
  obtain ⟨c2, c3⟩ := m_R_10 hR
  cases ok with
  | true =>
    refine ⟨m_after (bn' := q_up X.1 10 (X.1 10 + 1)) (st' := q_up (q_up Y.2.2.2.2.1 0 (Y.2.2.2.2.1 0 + 1)) 1 (q_up Y.2.2.2.2.1 0 (Y.2.2.2.2.1 0 + 1) 1 + 0)) hR (m_up_n (by decide)) (m_up_n (by decide)) (m_up_n (by decide)) (m_up_n (by decide)) (m_up_n (by decide)) (m_up_n (by decide)) ((m_up_n (by decide)).trans (m_up_n (by decide))) ((m_up_n (by decide)).trans (m_up_n (by decide))) ((m_up_n (by decide)).trans (m_up_n (by decide))) ((m_up_n (by decide)).trans (m_up_n (by decide))) ?_ ?_, ?_, ?_⟩
    · rw [m_up_s, m_up_n (by decide), m_up_s, c2]
    · rw [m_up_s, m_up_n (by decide), m_up_n (by decide), Int32.add_zero, c3]
    · show q_up X.1 10 (X.1 10 + 1) 10 = X.1 10 + 1
      exact m_up_s
    · show q_up X.1 10 (X.1 10 + 1) 12 = X.1 12
      exact m_up_n (by decide)
  | false =>
    refine ⟨m_after (bn' := q_up (q_up X.1 11 (X.1 11 + 1)) 10 (q_up X.1 11 (X.1 11 + 1) 10 + 1)) (st' := q_up (q_up Y.2.2.2.2.1 0 (Y.2.2.2.2.1 0 + 1)) 1 (q_up Y.2.2.2.2.1 0 (Y.2.2.2.2.1 0 + 1) 1 + 1)) hR ((m_up_n (by decide)).trans (m_up_n (by decide))) ((m_up_n (by decide)).trans (m_up_n (by decide))) ((m_up_n (by decide)).trans (m_up_n (by decide))) ((m_up_n (by decide)).trans (m_up_n (by decide))) ((m_up_n (by decide)).trans (m_up_n (by decide))) ((m_up_n (by decide)).trans (m_up_n (by decide))) ((m_up_n (by decide)).trans (m_up_n (by decide))) ((m_up_n (by decide)).trans (m_up_n (by decide))) ((m_up_n (by decide)).trans (m_up_n (by decide))) ((m_up_n (by decide)).trans (m_up_n (by decide))) ?_ ?_, ?_, ?_⟩
    · rw [m_up_s, m_up_n (by decide), m_up_n (by decide), m_up_s, c2]
    · rw [m_up_s, m_up_n (by decide), m_up_s, m_up_n (by decide), c3]
    · show q_up (q_up X.1 11 (X.1 11 + 1)) 10 (q_up X.1 11 (X.1 11 + 1) 10 + 1) 10 = X.1 10 + 1
      rw [m_up_s, m_up_n (by decide)]
    · show q_up (q_up X.1 11 (X.1 11 + 1)) 10 (q_up X.1 11 (X.1 11 + 1) 10 + 1) 12 = X.1 12
      exact (m_up_n (by decide)).trans (m_up_n (by decide))
theorem m_step {H m hf ns oc : Nat} {pn nu : m_Rr} {od : Nat → Option Nat} {T1 : Nat → m_Rr} {K1 : Nat → Nat → Option Nat} {mp pd po pq pr ps pt pe pc : m_Rr} (hP : m_Pn H m hf ns oc pn nu od T1 K1 mp pd po pq pr ps pt pe pc) {X : m_CB} {Y : m_SB} (hR : m_RB H m hf X Y) (hns : 0 < ns) {g : Nat} (hg : X.1 10 = nI g) (hg2 : g < 2 ^ 30) :
    ∃ ok X' Y', m_ps pn nu od T1 K1 X = some (ok, X') ∧ m_go mp pd po pq pr ps pt pe pc Y = some (ok, Y') ∧ m_RB H m hf X' Y' ∧ (∀ j, j ≠ 16 → Y'.1 j = Y.1 j) ∧ X'.1 10 = nI (g + 1) ∧ (X'.1 12 = X.1 12 ∨ X'.1 12 = X.1 12 + 1) := by
  obtain ⟨hPl, q1, q2, q3, q4, q5, q6⟩ := id hP
  obtain ⟨c2, c3⟩ := m_R_10 hR
  have hgs : Y.2.2.2.2.1 0 = nI g := c2.symm.trans hg
  have hkn : g % ns < ns := Nat.mod_lt _ hns
  obtain ⟨⟨x, xH, x1, x2⟩, -, ⟨i0, n, a, b, f1, f2, f3, f4, f5, f6, f7⟩⟩ := q6 (g % ns) hkn
  obtain ⟨hh, hRR⟩ := id hR
  have hnz : q_nz (nI ns) = some () := by unfold q_nz; rw [if_neg (nI_ne0 hns (by omega))]
  have hrem : nI g - nI g / nI ns * nI ns = nI (g % ns) := pk_rem (by omega) hns (by omega)
  have hst : f_X6_stepWith (nI (g % ns)) = some (g % ns) := by
    unfold f_X6_stepWith
    have e1 : q_max (nI (g % ns)) 0 = nI (g % ns) := by unfold q_max; rw [if_neg (nI_pos (by omega))]
    have e2 : q_min (nI (g % ns)) 19 = nI (g % ns) := by
      unfold q_min
      by_cases e : g % ns = 19
      · rw [e]; rfl
      · rw [if_neg (show ¬ (19 : Int32) < nI (g % ns) from m_nlt (b := g % ns) (a := 19) (by omega) (by decide))]
    rw [e1, e2, q_ix_nI (by omega) (by decide), Option.bind_some]
  have ht20 : q_t20 (g % ns) = some () := by unfold q_t20; rw [if_pos (by omega)]
  have i21 : q_ix (nI (g % ns)) 21 = some (g % ns) := q_ix_nI (by omega) (by decide)
  have hpos : (0 : Int32) < nI ns := nI_lt (a := 0) hns (by omega)
  /- the class, as far as its test -/
  have eC : m_ps pn nu od T1 K1 X = (f_X10_hasTest T1 (g % ns)).bind fun r7 => if (q_bz r7) = 0 then (m_pf pn nu od T1 K1 X (g % ns)).bind fun r => some (r.1, m_fC r.1 r.2) else (f_X8_reckon pn nu X.1 X.2.2.2.1 X.2.2.2.2.1 X.2.2.2.2.2.2.2.1 X.2.2.2.2.2.2.2.2.2.2.2.2.1 X.2.2.2.2.2.2.2.2.2.2.2.2.2.2.2.1 X.2.2.2.2.2.2.2.2.2.2.2.2.2.2.2.2 od (T1 (g % ns) 6) (T1 (g % ns) 7)).bind fun r18 => if ¬ r18.1 = (1 : Int32) then some (false, (q_up X.1 10 (X.1 10 + 1), X.2.1, X.2.2.1, X.2.2.2.1, X.2.2.2.2.1, X.2.2.2.2.2.1, X.2.2.2.2.2.2.1, X.2.2.2.2.2.2.2.1, X.2.2.2.2.2.2.2.2.1, X.2.2.2.2.2.2.2.2.2.1, X.2.2.2.2.2.2.2.2.2.2.1, X.2.2.2.2.2.2.2.2.2.2.2.1, X.2.2.2.2.2.2.2.2.2.2.2.2.1, X.2.2.2.2.2.2.2.2.2.2.2.2.2.1, X.2.2.2.2.2.2.2.2.2.2.2.2.2.2.1, r18.2.1, r18.2.2)) else (m_pf pn nu od T1 K1 (X.1, X.2.1, X.2.2.1, X.2.2.2.1, X.2.2.2.2.1, X.2.2.2.2.2.1, X.2.2.2.2.2.2.1, X.2.2.2.2.2.2.2.1, X.2.2.2.2.2.2.2.2.1, X.2.2.2.2.2.2.2.2.2.1, X.2.2.2.2.2.2.2.2.2.2.1, X.2.2.2.2.2.2.2.2.2.2.2.1, X.2.2.2.2.2.2.2.2.2.2.2.2.1, X.2.2.2.2.2.2.2.2.2.2.2.2.2.1, X.2.2.2.2.2.2.2.2.2.2.2.2.2.2.1, r18.2.1, r18.2.2) (g % ns)).bind fun r => some (r.1, m_fC r.1 r.2) := by
    have go : ∀ Z : m_CB, ∀ F : (Bool × m_CB) → Option (Bool × m_CB), (∀ r, F r = some (r.1, m_fC r.1 r.2)) → (m_pf pn nu od T1 K1 Z (g % ns)).bind F = (m_pf pn nu od T1 K1 Z (g % ns)).bind fun r => some (r.1, m_fC r.1 r.2) := fun Z F hF => by rw [show F = _ from funext hF]
    unfold m_ps f_X3_passNext
    rw [q1, if_pos hpos, hnz, Option.bind_some, hg, hrem, hst, Option.bind_some, ht20, Option.bind_some]
    congr 1
    funext r7
    by_cases e : q_bz r7 = 0
    · rw [if_pos e, if_pos e, if_neg (by decide)]
      refine go X _ (fun r => ?_)
      obtain ⟨ok, Z⟩ := r
      cases ok <;> rfl
    · rw [if_neg e, if_neg e]
      congr 1
      funext r18
      by_cases e2 : r18.1 = 1
      · rw [if_neg (show ¬ ¬ r18.1 = 1 from fun z => z e2), if_neg (show ¬ ¬ r18.1 = 1 from fun z => z e2), if_neg (show ¬ (1 : Int32) = 0 by decide)]
        refine go (X.1, X.2.1, X.2.2.1, X.2.2.2.1, X.2.2.2.2.1, X.2.2.2.2.2.1, X.2.2.2.2.2.2.1, X.2.2.2.2.2.2.2.1, X.2.2.2.2.2.2.2.2.1, X.2.2.2.2.2.2.2.2.2.1, X.2.2.2.2.2.2.2.2.2.2.1, X.2.2.2.2.2.2.2.2.2.2.2.1, X.2.2.2.2.2.2.2.2.2.2.2.2.1, X.2.2.2.2.2.2.2.2.2.2.2.2.2.1, X.2.2.2.2.2.2.2.2.2.2.2.2.2.2.1, r18.2.1, r18.2.2) _ (fun r => ?_)
        obtain ⟨ok, Z⟩ := r
        cases ok <;> rfl
      · rw [if_pos e2, if_pos e2]; rfl
  have eR : m_go mp pd po pq pr ps pt pe pc Y = if pt (g % ns) = pe (g % ns) then (m_is mp pd po pq pr ps pt pc Y (nI (g % ns))).bind fun r => some (r.1, m_fR r.1 r.2) else (f_X14_carryOut mp pc Y.2.1 Y.2.2.2.2.1 Y.2.2.2.2.2.1 Y.2.2.2.2.2.2.1 Y.2.2.2.2.2.2.2.2.1 Y.2.2.2.2.2.2.2.2.2.2.1 (pt (g % ns)) (pe (g % ns))).bind fun r17 => if ¬ r17.1 = (1 : Int32) then some (false, m_fR true (Y.1, r17.2, Y.2.2.1, Y.2.2.2.1, Y.2.2.2.2.1, Y.2.2.2.2.2.1, Y.2.2.2.2.2.2.1, Y.2.2.2.2.2.2.2.1, Y.2.2.2.2.2.2.2.2.1, Y.2.2.2.2.2.2.2.2.2.1, Y.2.2.2.2.2.2.2.2.2.2.1, Y.2.2.2.2.2.2.2.2.2.2.2)) else (m_is mp pd po pq pr ps pt pc (Y.1, r17.2, Y.2.2.1, Y.2.2.2.1, Y.2.2.2.2.1, Y.2.2.2.2.2.1, Y.2.2.2.2.2.2.1, Y.2.2.2.2.2.2.2.1, Y.2.2.2.2.2.2.2.2.1, Y.2.2.2.2.2.2.2.2.2.1, Y.2.2.2.2.2.2.2.2.2.2.1, Y.2.2.2.2.2.2.2.2.2.2.2) (nI (g % ns))).bind fun r => some (r.1, m_fR r.1 r.2) := by
    have go : ∀ Z : m_SB, ∀ F : (Bool × m_SB) → Option (Bool × m_SB), (∀ r, F r = some (r.1, m_fR r.1 r.2)) → (m_is mp pd po pq pr ps pt pc Z (nI (g % ns))).bind F = (m_is mp pd po pq pr ps pt pc Z (nI (g % ns))).bind fun r => some (r.1, m_fR r.1 r.2) := fun Z F hF => by rw [show F = _ from funext hF]
    unfold m_go f_X14_goOn
    rw [q2, hnz, Option.bind_some, hgs, hrem, i21, Option.bind_some, Option.bind_some]
    by_cases e : pt (g % ns) = pe (g % ns)
    · rw [if_pos e, if_pos e, if_neg (by decide)]
      refine go Y _ (fun r => ?_)
      obtain ⟨ok, Z⟩ := r
      cases ok <;> rfl
    · rw [if_neg e, if_neg e, Option.bind_some, Option.bind_some]
      congr 1
      funext r17
      by_cases e2 : r17.1 = 1
      · rw [if_neg (show ¬ ¬ r17.1 = 1 from fun z => z e2), if_neg (show ¬ ¬ r17.1 = 1 from fun z => z e2), if_neg (show ¬ (1 : Int32) = 0 by decide)]
        refine go (Y.1, r17.2, Y.2.2.1, Y.2.2.2.1, Y.2.2.2.2.1, Y.2.2.2.2.2.1, Y.2.2.2.2.2.2.1, Y.2.2.2.2.2.2.2.1, Y.2.2.2.2.2.2.2.2.1, Y.2.2.2.2.2.2.2.2.2.1, Y.2.2.2.2.2.2.2.2.2.2.1, Y.2.2.2.2.2.2.2.2.2.2.2) _ (fun r => ?_)
        obtain ⟨ok, Z⟩ := r
        cases ok <;> rfl
      · rw [if_pos e2, if_pos e2]
        unfold m_fR
        rw [hgs]; rfl
  have hht : f_X10_hasTest T1 (g % ns) = some (decide (0 < n)) := by
    unfold f_X10_hasTest
    rw [ht20, Option.bind_some, f1, f2]
    by_cases e : 0 < n
    · rw [if_neg (nI_ge (by omega) (by omega))]; simp [e]
    · rw [if_pos (nI_le (by omega) (by omega))]; simp [e]
  have perf : ∀ (Z : m_CB) (W : m_SB), m_RB H m hf Z W → Z.1 = X.1 → W.1 = Y.1 → ∃ ok X' Y', ((m_pf pn nu od T1 K1 Z (g % ns)).bind fun r => some (r.1, m_fC r.1 r.2)) = some (ok, X') ∧ ((m_is mp pd po pq pr ps pt pc W (nI (g % ns))).bind fun r => some (r.1, m_fR r.1 r.2)) = some (ok, Y') ∧ m_RB H m hf X' Y' ∧ (∀ j, j ≠ 16 → Y'.1 j = Y.1 j) ∧ X'.1 10 = nI (g + 1) ∧ (X'.1 12 = X.1 12 ∨ X'.1 12 = X.1 12 + 1) := by
    intro Z W hZ e1 e2
    obtain ⟨ok, X', Y', y1, y2, y3, y4, y5, y6⟩ := m_perf hP hZ hkn
    obtain ⟨z1, z2, z3⟩ := m_f y3 ok
    refine ⟨ok, m_fC ok X', m_fR ok Y', by rw [y1]; rfl, by rw [y2]; rfl, z1, fun j hj => by rw [← e2]; exact y4 j hj, by rw [z2, y5, e1, hg, nI_1], ?_⟩
    rw [z3, ← e1]; exact y6
  rw [eC, eR, hht, Option.bind_some, f4, f5]
  rcases f7 with ⟨n0, ab⟩ | ⟨n0, hC⟩
  · have e : ¬ 0 < n := by omega
    rw [if_pos (by rw [m_bz]; simp [e]), if_pos (by rw [ab])]
    exact perf X Y hR rfl rfl
  · have hab := (m_Cd_b hC).1
    rw [if_neg (by rw [m_bz]; simp [n0]), if_neg (fun z => by have := (nI_eq (by omega) (by omega)).mp z; omega), f1, f2]
    obtain ⟨v, rk', sk', ms', g1, g2⟩ := m_eval hPl hRR q4 q5 f3 f6 hC X.2.2.2.2.2.2.2.2.2.2.2.2.2.2.2.1 X.2.2.2.2.2.2.2.2.2.2.2.2.2.2.2.2 Y.2.1
    rw [g1, g2, Option.bind_some, Option.bind_some]
    by_cases ev : v = 1
    · rw [if_neg (fun z => z ev), if_neg (fun z => z ev)]
      exact perf (X.1, X.2.1, X.2.2.1, X.2.2.2.1, X.2.2.2.2.1, X.2.2.2.2.2.1, X.2.2.2.2.2.2.1, X.2.2.2.2.2.2.2.1, X.2.2.2.2.2.2.2.2.1, X.2.2.2.2.2.2.2.2.2.1, X.2.2.2.2.2.2.2.2.2.2.1, X.2.2.2.2.2.2.2.2.2.2.2.1, X.2.2.2.2.2.2.2.2.2.2.2.2.1, X.2.2.2.2.2.2.2.2.2.2.2.2.2.1, X.2.2.2.2.2.2.2.2.2.2.2.2.2.2.1, rk', sk') (Y.1, ms', Y.2.2.1, Y.2.2.2.1, Y.2.2.2.2.1, Y.2.2.2.2.2.1, Y.2.2.2.2.2.2.1, Y.2.2.2.2.2.2.2.1, Y.2.2.2.2.2.2.2.2.1, Y.2.2.2.2.2.2.2.2.2.1, Y.2.2.2.2.2.2.2.2.2.2.1, Y.2.2.2.2.2.2.2.2.2.2.2) ⟨hh, hRR⟩ rfl rfl
    · rw [if_pos ev, if_pos ev]
      have hZ : m_RB H m hf (X.1, X.2.1, X.2.2.1, X.2.2.2.1, X.2.2.2.2.1, X.2.2.2.2.2.1, X.2.2.2.2.2.2.1, X.2.2.2.2.2.2.2.1, X.2.2.2.2.2.2.2.2.1, X.2.2.2.2.2.2.2.2.2.1, X.2.2.2.2.2.2.2.2.2.2.1, X.2.2.2.2.2.2.2.2.2.2.2.1, X.2.2.2.2.2.2.2.2.2.2.2.2.1, X.2.2.2.2.2.2.2.2.2.2.2.2.2.1, X.2.2.2.2.2.2.2.2.2.2.2.2.2.2.1, rk', sk') (Y.1, ms', Y.2.2.1, Y.2.2.2.1, Y.2.2.2.2.1, Y.2.2.2.2.2.1, Y.2.2.2.2.2.2.1, Y.2.2.2.2.2.2.2.1, Y.2.2.2.2.2.2.2.2.1, Y.2.2.2.2.2.2.2.2.2.1, Y.2.2.2.2.2.2.2.2.2.2.1, Y.2.2.2.2.2.2.2.2.2.2.2) := ⟨hh, hRR⟩
      obtain ⟨z1, z2, z3⟩ := m_f hZ true
      exact ⟨false, _, _, rfl, rfl, z1, fun _ _ => rfl, by rw [← nI_1, ← hg]; exact z2, Or.inl z3⟩

theorem m_gC_s {pn nu : m_Rr} {od : Nat → Option Nat} {T1 : Nat → m_Rr} {K1 : Nat → Nat → Option Nat} {c : Int32} {fu : Nat} {X : m_CB} {x i : Int32} : m_gC pn nu od T1 K1 c (fu + 1) X x i = if c ≤ i then some (x, X) else (m_ps pn nu od T1 K1 X).bind fun r => if (q_bz r.1) = 0 then m_gC pn nu od T1 K1 c fu r.2 x (i + 1) else m_gC pn nu od T1 K1 c fu r.2 (x + 1) (i + 1) := rfl
theorem m_gR_s {mp pd po pq pr ps pt pe pc : m_Rr} {c : Int32} {fu : Nat} {Y : m_SB} {x i : Int32} : m_gR mp pd po pq pr ps pt pe pc c (fu + 1) Y x i = if c ≤ i then some (x, Y) else (m_go mp pd po pq pr ps pt pe pc Y).bind fun r => if (q_bz r.1) = 0 then m_gR mp pd po pq pr ps pt pe pc c fu r.2 (x + 0) (i + 1) else m_gR mp pd po pq pr ps pt pe pc c fu r.2 (x + 1) (i + 1) := rfl
theorem m_goOn {H m hf ns oc : Nat} {pn nu : m_Rr} {od : Nat → Option Nat} {T1 : Nat → m_Rr} {K1 : Nat → Nat → Option Nat} {mp pd po pq pr ps pt pe pc : m_Rr} (hP : m_Pn H m hf ns oc pn nu od T1 K1 mp pd po pq pr ps pt pe pc) (hns : 0 < ns) {c : Nat} (hc : c ≤ 100) : ∀ (n i fu fv : Nat) (X : m_CB) (Y : m_SB) (x : Int32) (g p : Nat), i + n = c → n < fu → n < fv → m_RB H m hf X Y → X.1 10 = nI g → g + n < 2 ^ 30 → X.1 12 = nI p →
    ∃ x' X' Y' p', m_gC pn nu od T1 K1 (nI c) fu X x (nI i) = some (x', X') ∧ m_gR mp pd po pq pr ps pt pe pc (nI c) fv Y x (nI i) = some (x', Y') ∧ m_RB H m hf X' Y' ∧ (∀ j, j ≠ 16 → Y'.1 j = Y.1 j) ∧ X'.1 10 = nI (g + n) ∧ X'.1 12 = nI p' ∧ p ≤ p' ∧ p' ≤ p + n := by
  intro n
  induction n with
  | zero =>
    intro i fu fv X Y x g p hi hfu hfv hR hg hg2 hp
    obtain ⟨fu, rfl⟩ : ∃ z, fu = z + 1 := ⟨fu - 1, by omega⟩
    obtain ⟨fv, rfl⟩ : ∃ z, fv = z + 1 := ⟨fv - 1, by omega⟩
    refine ⟨x, X, Y, p, ?_, ?_, hR, fun _ _ => rfl, hg, hp, Nat.le_refl _, Nat.le_refl _⟩
    · rw [m_gC_s, if_pos (nI_le (by omega) (by omega))]
    · rw [m_gR_s, if_pos (nI_le (by omega) (by omega))]
  | succ n ih =>
    intro i fu fv X Y x g p hi hfu hfv hR hg hg2 hp
    obtain ⟨fu, rfl⟩ : ∃ z, fu = z + 1 := ⟨fu - 1, by omega⟩
    obtain ⟨fv, rfl⟩ : ∃ z, fv = z + 1 := ⟨fv - 1, by omega⟩
    obtain ⟨ok, X', Y', y1, y2, y3, y4, y5, y6⟩ := m_step hP hR hns hg (by omega)
    obtain ⟨p1, hp1, hp2, hp3⟩ : ∃ p1, X'.1 12 = nI p1 ∧ p ≤ p1 ∧ p1 ≤ p + 1 := by
      rcases y6 with e | e
      · exact ⟨p, e.trans hp, Nat.le_refl _, by omega⟩
      · exact ⟨p + 1, by rw [e, hp, nI_1], by omega, Nat.le_refl _⟩
    cases ok with
    | false =>
      obtain ⟨x', X2, Y2, p', z1, z2, z3, z4, z5, z6, z7, z8⟩ := ih (i + 1) fu fv X' Y' x (g + 1) p1 (by omega) (by omega) (by omega) y3 y5 (by omega) hp1
      refine ⟨x', X2, Y2, p', ?_, ?_, z3, fun j hj => (z4 j hj).trans (y4 j hj), by rw [z5, show g + 1 + n = g + (n + 1) by omega], z6, by omega, by omega⟩
      · rw [m_gC_s, if_neg (nI_ge (by omega) (by omega)), y1, Option.bind_some, if_pos (show q_bz false = 0 from rfl), nI_1]; exact z1
      · rw [m_gR_s, if_neg (nI_ge (by omega) (by omega)), y2, Option.bind_some, if_pos (show q_bz false = 0 from rfl), nI_1, Int32.add_zero]; exact z2
    | true =>
      obtain ⟨x', X2, Y2, p', z1, z2, z3, z4, z5, z6, z7, z8⟩ := ih (i + 1) fu fv X' Y' (x + 1) (g + 1) p1 (by omega) (by omega) (by omega) y3 y5 (by omega) hp1
      refine ⟨x', X2, Y2, p', ?_, ?_, z3, fun j hj => (z4 j hj).trans (y4 j hj), by rw [z5, show g + 1 + n = g + (n + 1) by omega], z6, by omega, by omega⟩
      · rw [m_gC_s, if_neg (nI_ge (by omega) (by omega)), y1, Option.bind_some, if_neg (show ¬ q_bz true = 0 by decide), nI_1]; exact z1
      · rw [m_gR_s, if_neg (nI_ge (by omega) (by omega)), y2, Option.bind_some, if_neg (show ¬ q_bz true = 0 by decide), nI_1]; exact z2

