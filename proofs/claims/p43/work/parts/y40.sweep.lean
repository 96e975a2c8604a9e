/-! A SWEEP, on both sides -/
set_option maxHeartbeats 1000000 in
theorem z_sweepM {H m hf : Nat} {h : List Nat} {pn mp bn ly pl sz ag rc ld lo lr hk rw st sh sw sp ss sr sa sd : m_Rr} (hP : m_Pl H m hf pn mp) (hR : m_R H m hf h bn ly pl sz ag rc ld lo lr hk rw st sh sw sp ss sr sa sd) (li nr nd md mq mi : m_Rr) :
    ∃ x bn' ly' ld' lo' lr' li' nr' nd' md' mq' mi' st' sw' sd', f_X2_sweep pn bn ly pl sz rc ld lo lr li nr nd hk = some (x, bn', ly', ld', lo', lr', li', nr', nd') ∧ f_X14_sweep md mp mq mi st sh sw sr sd = some (x, md', mq', mi', st', sw', sd') ∧ m_R H m hf h bn' ly' pl sz ag rc ld' lo' lr' hk rw st' sh sw' sp ss sr sa sd' ∧ (∀ j, j ≠ 16 → md' j = md j) ∧ bn' 10 = bn 10 ∧ bn' 12 = bn 12 ∧
      ∃ l, f_X2_findReached rc ld li nr nd hk = some (li', nr', nd') ∧ m_Q l li' nr' nd' md' mq' mi' ∧ (∀ b, b < 128 → ly' b = if ly b = 2 ∧ b ∉ l then 0 else ly b) ∧ ld' = m_un (m_Kr rc) ly' ld 384 ∧ bn' = q_up bn 14 (bn 14 + x) ∧ x + m_sm (fun b => sw' b = 2) (fun _ => 1) 136 = m_sm (fun b => sw b = 2) (fun _ => 1) 136 := by
  obtain ⟨p0, p1, p2, p3, p4, p5, p6⟩ := hP
  obtain ⟨⟨hE, hZ⟩, ⟨hg1, hg2⟩, hv, ⟨hnd, hmem, hrw, hb7, hb8, htw, h64⟩, ⟨hLf, hlo1, hlo2⟩, hK, hB⟩ := id hR
  obtain ⟨c1, c2, c3, c4, c5, c6⟩ := id hB
  have hG : m_G (fun c => c < 128 ∧ ly c ≠ 0) rc ld sr sd := fun b hb => by
    obtain ⟨k, k1, k2, k3⟩ := hg1 b hb.1
    exact ⟨hb.1, k, k1, k2, by rw [(hE b hb.1).2.2.2.2]; exact k2, fun r hr => ⟨(k3 r hr).1, (k3 r hr).2.imp id (fun ⟨c, x, y, z⟩ => ⟨c, ⟨x, z hb.2⟩, y⟩)⟩⟩
  obtain ⟨l, li', nr', nd', md', mq', mi', a1, a2, a3, a4, a5, a6, a7, a8⟩ := m_reach hG hK p6 li nr nd md mq mi
  obtain ⟨hq1, hq2, hq3, hq4, hq5, hq6, hq7⟩ := id a3
  have hx8 : ∀ b, sw b = 2 → b < 136 → b < 128 := fun b hb h1 => by
    rcases Nat.lt_or_ge b 128 with h2 | h2
    · exact h2
    · rw [hZ b h2 h1] at hb; exact absurd hb (by decide)
  /- beyond 136 nothing is looked at: a row that is 0 there -/
  obtain ⟨sv, hsv⟩ : ∃ f : m_Rr, f = q_cp sw (fun _ => 0) 136 := ⟨_, rfl⟩
  have hsv1 : ∀ b, b < 136 → sv b = sw b := fun b hb => by rw [hsv, q_cp_lt hb]
  have hsv8 : ∀ b, sv b = 2 → b < 128 := fun b hb => by
    rcases Nat.lt_or_ge b 136 with h2 | h2
    · exact hx8 b (by rw [← hsv1 b h2]; exact hb) h2
    · rw [hsv, q_cp_ge h2] at hb; exact absurd hb (by decide)
  have hsx0 : m_sx l sv sp 0 = sv := by funext b; exact m_sx_n (fun ⟨_, _, q, x, _⟩ => by omega)
  have hLf0 : m_Lf m lr sv sp ss := ⟨hLf.1, fun b hb hw => hLf.2.1 b hb (by rw [← hsv1 b hb]; exact hw), fun q hq => (hLf.2.2 q hq).imp id (fun ⟨b, x1, x2, x3⟩ => ⟨b, x1, by rw [hsv1 b (by omega)]; exact x2, x3⟩)⟩
  obtain ⟨ly', lo', lr', x, b1, b2, b3, b4, b5, b6⟩ := m_sweepC (pn := pn) (pl := pl) (sz := sz) (nd := nd') (sw := sv) (sp := sp) (ss := ss) (l := l) p2 (fun b hb => ⟨(hE b hb).2.1, (hE b hb).2.2.1⟩) hq6 hsv8 m 0 4096 ly lo lr 0 (by omega) (by have := hLf.1; omega) (by rw [hsx0]; exact hLf0) (fun b hb => by rw [hsx0, hsv1 b (by omega)]; exact (hE b hb).1.symm) hlo1 (by rw [hsx0, hlo2]; exact m_sm_congr (fun i hi => by rw [hsv1 i hi]) (fun _ _ _ => rfl))
  obtain ⟨y, d1, d2⟩ := m_sweepR (mi := mi') (sw := sw) 136 0 4096 0 (by omega) (by omega) (by rw [m_sr_0, Int32.zero_add])
  obtain ⟨sw', hsw'⟩ : ∃ f : m_Rr, f = m_sr mi' sw 136 := ⟨_, rfl⟩
  have hfin : ∀ b, b < 136 → m_sx l sv sp m b = sw' b := fun b hb => by
    rw [hsw']
    unfold m_sr
    by_cases e : sw b = 2 ∧ mi' b = 0
    · rw [if_pos ⟨hb, e⟩]
      obtain ⟨p, s, x1, x2, x3, x4, x5⟩ := hLf.2.1 b hb e.1
      exact m_sx_y ⟨by rw [hsv1 b hb]; exact e.1, fun hbl => (hq7 b hb).mp hbl e.2, p, by omega, x1⟩
    · rw [if_neg (fun h => e h.2), m_sx_n (fun ⟨x1, x2, x3⟩ => e ⟨by rw [← hsv1 b hb]; exact x1, Classical.not_not.mp (fun h => x2 ((hq7 b hb).mpr h))⟩), hsv1 b hb]
  have hly : ∀ b, b < 128 → ly' b = sw' b := fun b hb => (b3 b hb).trans (hfin b (by omega))
  have hxy : x = y := by
    have e1 : lo' 2 = m_sm (fun b => sw' b = 2) (fun _ => 1) 136 := by rw [b5]; exact m_sm_congr (fun i hi => by rw [hfin i hi]) (fun _ _ _ => rfl)
    have e2 : y + m_sm (fun b => sw' b = 2) (fun _ => 1) 136 = m_sm (fun b => sw b = 2) (fun _ => 1) 136 := by rw [hsw']; exact d2
    rw [e1, Int32.zero_add, hlo2, ← e2] at b6
    have e3 := congrArg (fun z => z - m_sm (fun b => sw' b = 2) (fun _ => 1) 136) b6
    simp only [Int32.add_sub_cancel] at e3
    exact e3
  have hval : ∀ b, b < 136 → sw' b = 0 ∧ sw b = 2 ∧ mi' b = 0 ∨ sw' b = sw b ∧ ¬ (sw b = 2 ∧ mi' b = 0) := fun b hb => by
    rw [hsw']
    unfold m_sr
    by_cases e : sw b = 2 ∧ mi' b = 0
    · exact Or.inl ⟨if_pos ⟨hb, e⟩, e⟩
    · exact Or.inr ⟨if_neg (fun h => e h.2), e⟩
  have hwas : ∀ b, b < 128 → ly' b ≠ 0 → ly b ≠ 0 ∧ ly' b = ly b := fun b hb hz => by
    rw [hly b hb] at hz ⊢
    rcases hval b (by omega) with e | e
    · exact absurd e.1 hz
    · rw [e.1] at hz ⊢
      rw [(hE b hb).1] at hz ⊢
      exact ⟨hz, rfl⟩
  have hone : ∀ b, b < 128 → (ly' b = 1 ↔ ly b = 1) := fun b hb => by
    rw [hly b hb, ← (hE b hb).1]
    rcases hval b (by omega) with e | e
    · rw [e.1, e.2.1]; exact ⟨fun h => absurd h (by decide), fun h => absurd h (by decide)⟩
    · rw [e.1]
  have hgxe : ∀ v, m_gx ly' v ↔ m_gx sw' v := fun v => by
    constructor
    · exact fun h => h.imp id (fun ⟨c, x, y, z⟩ => ⟨c, x, y, by rw [← hly c x]; exact z⟩)
    · exact fun h => h.imp id (fun ⟨c, x, y, z⟩ => ⟨c, x, y, by rw [hly c x]; exact z⟩)
  have hlyl : ∀ b, b < 128 → ly' b = if ly b = 2 ∧ b ∉ l then 0 else ly b := fun b hb => by
    rw [hly b hb, ← (hE b hb).1]
    rcases hval b (by omega) with e | e
    · rw [if_pos ⟨e.2.1, fun hm => (hq7 b (by omega)).mp hm e.2.2⟩, e.1]
    · rw [if_neg (fun h => e.2 ⟨h.1, Classical.not_not.mp (fun h2 => h.2 ((hq7 b (by omega)).mpr h2))⟩), e.1]
  have eC := m_unC (ly := ly') (rc := rc) (ld := ld) (fun b hb => by
    obtain ⟨k, k1, k2, k3⟩ := hg1 b hb
    exact ⟨k, k1, k2, fun r hr => (k3 r hr).2.imp id (fun ⟨c, x, y, z⟩ => ⟨c, x, y⟩)⟩) 128 0 4096 (by omega) (by omega)
  rw [Nat.zero_mul, m_un_0, show nI 0 = 0 from rfl] at eC
  have eR := m_unR (sw := sw') hg2 408 0 4096 (by omega) (by omega)
  rw [m_un_0, show nI 0 = 0 from rfl] at eR
  refine ⟨x, q_up bn 14 (bn 14 + x), ly', m_un (m_Kr rc) ly' ld 384, lo', lr', li', nr', nd', md', mq', mi', q_up st 5 (st 5 + x), sw', m_un (fun _ => True) sw' sd 408, ?_, ?_, ⟨⟨fun b hb => ⟨(hly b hb).symm, (hE b hb).2⟩, fun b h1 h2 => ?_⟩, ⟨fun b hb => ?_, fun k hk => ?_⟩, fun b hb => ⟨?_, fun hz => (hv b hb).2 (hwas b hb hz).1⟩, ⟨hnd, fun b => ?_, hrw, ?_, ?_, htw, h64⟩, ⟨?_, b4, ?_⟩, ⟨hK.1, fun i hi => ⟨fun hin => ⟨((hK.2 i hi).1 hin).1, ?_⟩, (hK.2 i hi).2⟩⟩, ⟨?_, ?_, ?_, ?_, ?_, ?_⟩⟩, a7, m_up_n (by decide), m_up_n (by decide), l, a1, a3, hlyl, rfl, rfl, by rw [hxy, hsw']; exact d2⟩
  · unfold f_X2_sweep
    rw [a1, Option.bind_some]
    rw [show nI 0 = 0 from rfl] at b1
    rw [b1, Option.bind_some]
    unfold f_X1_untieFromGone
    rw [eC]; rfl
  · unfold f_X14_sweep
    rw [a2, Option.bind_some]
    rw [m_sr_0, show nI 0 = 0 from rfl, ← hsw'] at d1
    rw [d1, Option.bind_some, eR, Option.bind_some, hxy]
  · rcases hval b h2 with e | e
    · exact e.1
    · rw [e.1]; exact hZ b h1 h2
  · obtain ⟨k, k1, k2, k3⟩ := hg1 b hb
    refine ⟨k, k1, k2, fun r hr => ?_⟩
    obtain ⟨z1, z2⟩ := k3 r hr
    have hKr := (m_Kr_iff (rc := rc) (show r < 3 by omega) k2 k1).mpr hr
    by_cases e : m_gx ly' (ld (b * 3 + r))
    · have u1 : m_un (m_Kr rc) ly' ld 384 (b * 3 + r) = -1 := m_un_y ⟨by omega, hKr, e⟩
      have u2 : m_un (fun _ => True) sw' sd 408 (3 * b + r) = -1 := m_un_y ⟨by omega, trivial, by rw [z1]; exact (hgxe _).mp e⟩
      rw [u1, u2]
      exact ⟨rfl, Or.inl rfl⟩
    · have u1 : m_un (m_Kr rc) ly' ld 384 (b * 3 + r) = ld (b * 3 + r) := m_un_n (fun h => e h.2.2)
      have u2 : m_un (fun _ => True) sw' sd 408 (3 * b + r) = sd (3 * b + r) := m_un_n (fun h => e (by have := h.2.2; rw [z1] at this; exact (hgxe _).mpr this))
      rw [u1, u2]
      refine ⟨z1, z2.imp id (fun ⟨c, x1, x2, x3⟩ => ⟨c, x1, x2, fun _ hc0 => e (Or.inr ⟨c, x1, x2, hc0⟩)⟩)⟩
  · by_cases e : m_gx sw' (sd k)
    · exact Or.inl (m_un_y ⟨hk, trivial, e⟩)
    · rw [m_un_n (fun h => e h.2.2)]; exact hg2 k hk
  · rw [hly b hb]
    rcases hval b (by omega) with e | e
    · exact Or.inl e.1
    · rw [e.1, (hE b hb).1]; exact (hv b hb).1
  · rw [hmem]
    constructor
    · exact fun z => ⟨z.1, (hone b z.1).mpr z.2⟩
    · exact fun z => ⟨z.1, (hone b z.1).mp z.2⟩
  · rw [m_up_n (by decide)]; exact hb7
  · rw [m_up_n (by decide)]; exact hb8
  · exact ⟨b2.1, fun b hb hw => b2.2.1 b hb (by rw [hfin b hb]; exact hw), fun q hq => (b2.2.2 q hq).imp id (fun ⟨b, x1, x2, x3⟩ => ⟨b, x1, by rw [← hfin b (by omega)]; exact x2, x3⟩)⟩
  · rw [b5]; exact m_sm_congr (fun i hi => by rw [hfin i hi]) (fun _ _ _ => rfl)
  · refine ((hK.2 i hi).1 hin).2.imp id (fun ⟨c, ⟨x1, x2⟩, x3⟩ => ⟨c, ⟨x1, ?_⟩, x3⟩)
    have hcl := a8 i hin c x1 x3
    rw [hly c x1]
    rcases hval c (by omega) with e | e
    · exact absurd e.2.2 ((hq7 c (by omega)).mp hcl)
    · rw [e.1, (hE c x1).1]; exact x2
  · rw [m_up_n (by decide), m_up_n (by decide)]; exact c1
  · rw [m_up_n (by decide), m_up_n (by decide)]; exact c2
  · rw [m_up_n (by decide), m_up_n (by decide)]; exact c3
  · rw [m_up_n (by decide), m_up_n (by decide)]; exact c4
  · rw [m_up_n (by decide), m_up_n (by decide)]; exact c5
  · rw [m_up_s, m_up_s, c6]
section ZSW
theorem z_sm_len {P : Nat → Prop} [DecidablePred P] : ∀ n, m_sm P (fun _ => 1) n = nI ((List.range n).filter (fun b => decide (P b))).length := by
  intro n
  induction n with
  | zero => rfl
  | succ n ih =>
    show m_sm P (fun _ => 1) n + (if P n then 1 else 0) = _
    rw [ih, List.range_succ, List.filter_append, List.length_append]
    by_cases hp : P n
    · rw [if_pos hp, nI_1]
      congr 2
      simp [hp]
    · rw [if_neg hp, Int32.add_zero]
      congr 1
      simp [hp]
theorem z_card {ν : Nat → Nat} {ll : List Nat} {P : Nat → Prop} [DecidablePred P] {n : Nat} (hn : ll.Nodup) (hll : ∀ x, x ∈ ll ↔ ∃ b, b < n ∧ P b ∧ x = ν b) (hν : ∀ b c, b < n → c < n → P b → P c → ν b = ν c → b = c) : m_sm P (fun _ => 1) n = nI ll.length := by
  have hF : ∀ b, b ∈ (List.range n).filter (fun b => decide (P b)) ↔ b < n ∧ P b := fun b => by
    rw [List.mem_filter, List.mem_range, decide_eq_true_eq]
  have h1 : (((List.range n).filter (fun b => decide (P b))).map ν).Nodup := z_nodup_map _ (List.nodup_range.filter _) (fun x hx y hy e => hν x y ((hF x).mp hx).1 ((hF y).mp hy).1 ((hF x).mp hx).2 ((hF y).mp hy).2 e)
  have h2 : ∀ x, x ∈ ((List.range n).filter (fun b => decide (P b))).map ν ↔ x ∈ ll := fun x => by
    rw [List.mem_map, hll]
    constructor
    · rintro ⟨b, b1, b2⟩
      exact ⟨b, ((hF b).mp b1).1, ((hF b).mp b1).2, b2.symm⟩
    · rintro ⟨b, b1, b2, b3⟩
      exact ⟨b, (hF b).mpr ⟨b1, b2⟩, b3.symm⟩
  have h3 := z_len _ ll h1 (fun x hx => (h2 x).mp hx)
  have h4 := z_len ll _ hn (fun x hx => (h2 x).mpr hx)
  rw [List.length_map] at h3 h4
  rw [z_sm_len]
  congr 1
  omega
variable {h h' : q_H} {s : Nat} {ν : Nat → Nat} {H m hf : Nat} {hL : List Nat} {pn mp bn ly pl sz ag rc ld lo lr hk rw st sh sw sp ss sr sa sd : m_Rr} {hl ll lf : List Nat} {hkL : List (Option Nat)} {y : Int32} {B : Nat}
/-- a sweep keeps what holds -/
theorem z_OK_sweep (hO : z_OK h s hl ll hkL m) (hlf : ∀ x ∈ lf, x ∈ ll) (hn : lf.Nodup) (hS : z_Sw h h' s (fun x => x ∈ hl ++ ll) hl lf hkL y) (hcl : (∀ x ∈ hl ++ lf, ∀ y, some y ∈ z_rp h' x → y ∈ hl ++ lf) ∧ ∀ x, some x ∈ hkL → x ∈ hl ++ lf) : z_OK h' s hl lf hkL m := by
  obtain ⟨o1, o2, o3, o4, o5, o6, o7, o8, o9a, o9b, o9c⟩ := hO
  obtain ⟨⟨k1, k2⟩, k3, ⟨k4, k5⟩, k6, k7, k8, k9, k10, k11⟩ := hS
  have sub : ∀ x, x ∈ hl ++ lf → x ∈ hl ++ ll := fun x hx => by
    rcases List.mem_append.mp hx with hx | hx
    · exact List.mem_append_left _ hx
    · exact List.mem_append_right _ (hlf x hx)
  obtain ⟨⟨s1, s2⟩, s3, -⟩ := id o1
  obtain ⟨n1, n2, n3⟩ := List.nodup_append.mp o5
  have hI : ∀ x, x ∈ hl ++ lf → q_I h' x = q_I h x := fun x hx => (k2 x (o2 x (sub x hx)).1.1.2).2.2.2 (fun e => o3 (by rw [← e]; exact sub x hx))
  refine ⟨k3, fun x hx => ?_, fun hm => o3 (sub s hm), hcl.2, List.nodup_append.mpr ⟨n1, hn, fun x hx y hy e => n3 x hx y (hlf y hy) e⟩, ⟨by rw [k5 4 (by decide)]; exact o6.1, o6.2⟩, fun x hx => ?_, fun x hx => ?_, fun x z hx hz e => ?_, fun x hx k hk3 e => ?_, fun k hk2 e => ?_⟩
  · obtain ⟨w1, w2, w3⟩ := k9 x (sub x hx)
    refine ⟨w1, w2, fun i z hi hz => hcl.1 x hx z ?_⟩
    exact List.mem_of_getElem? (i := i) (by rw [z_rp_get, if_pos hi, hz])
  · rw [hI x (List.mem_append_right _ hx)]; exact o7 x (hlf x hx)
  · rw [hI x hx]; exact o8 x (sub x hx)
  · rw [k10 x (sub x hx), k10 z (sub z hz)] at e
    exact o9a x z (sub x hx) (sub z hz) e
  · rw [k10 x (sub x hx)] at e
    by_cases h2 : 2 ≤ k
    · rw [k6 k h2] at e
      exact o9b x (sub x hx) k hk3 e
    · rcases k7 k (by omega) with e2 | ⟨b, e2, hb⟩
      · rw [e2] at e
        exact o9b x (sub x hx) k hk3 e
      · rw [e2] at e
        have h1 := (o2 x (sub x hx)).2.1.2.1.2
        have h2 : b = z_ra h x := Option.some.inj e
        omega
  · rw [k6 2 (by decide)] at e
    rcases k7 k hk2 with e2 | ⟨b, e2, hb⟩
    · rw [e2] at e
      exact o9c k hk2 e
    · obtain ⟨c, d1, d2⟩ := o1.2.2.2.2
      rw [e2, d1] at e
      have h1 := d2.1.2
      have h2 : b = c := Option.some.inj e
      omega
set_option maxHeartbeats 2000000 in
theorem z_B_sweep (hP : m_Pl H m hf pn mp) (hR : m_R H m hf hL bn ly pl sz ag rc ld lo lr hk rw st sh sw sp ss sr sa sd) (hB : z_B h s ν H m hf hL pn bn ly pl sz ag rc ld hk hl ll hkL) (hlf : lf = ll.filter (fun x => decide (x ∈ z_bfs (z_rp h) (B + 1) 0 (z_adds [] hkL)))) (hBd : ∀ l : List Nat, l.Nodup → (∀ x ∈ l, x < 128 ∧ ¬ ly x = 0) → l.length ≤ B)
    (hy : y = nI ll.length - nI lf.length) (hS : z_Sw h h' s (fun x => x ∈ hl ++ ll) hl lf hkL y) (li nr nd md mq mi : m_Rr) :
    ∃ x bn' ly' ld' lo' lr' li' nr' nd' md' mq' mi' st' sw' sd', f_X2_sweep pn bn ly pl sz rc ld lo lr li nr nd hk = some (x, bn', ly', ld', lo', lr', li', nr', nd') ∧ f_X14_sweep md mp mq mi st sh sw sr sd = some (x, md', mq', mi', st', sw', sd') ∧ m_R H m hf hL bn' ly' pl sz ag rc ld' lo' lr' hk rw st' sh sw' sp ss sr sa sd' ∧ (∀ j, j ≠ 16 → md' j = md j) ∧ bn' 10 = bn 10 ∧ bn' 12 = bn 12 ∧
      z_B h' s ν H m hf hL pn bn' ly' pl sz ag rc ld' hk hl lf hkL ∧ x = y := by
  obtain ⟨x, bn', ly', ld', lo', lr', li', nr', nd', md', mq', mi', st', sw', sd', r1, r2, r3, r4, r5, r6, l, q1, q2, q3, q4, q5, q6⟩ := z_sweepM hP hR li nr nd md mq mi
  refine ⟨x, bn', ly', ld', lo', lr', li', nr', nd', md', mq', mi', st', sw', sd', r1, r2, r3, r4, r5, r6, ?_⟩
  obtain ⟨b1, ⟨v1, v2, ⟨v3, v4⟩, v5, v6, ⟨v7, v8⟩, v9⟩, b3, b4, b5, b6, b7, b8, b9⟩ := id hB
  obtain ⟨⟨hE, hZ⟩, ⟨hg1, -⟩, hv, hRh, -, hK, -⟩ := id hR
  obtain ⟨⟨hE', hZ'⟩, ⟨hg1', -⟩, hv', hRh', -, hK', -⟩ := id r3
  obtain ⟨l2, li2, nr2, nd2, md2, mq2, mi2, e1, e2, e3, e4, e5⟩ := z_reachL v1 v6 hK v7 v8 hBd li nr nd
  have e0 := Option.some.inj (e1.symm.trans q1)
  simp only [Prod.mk.injEq] at e0
  obtain ⟨rfl, rfl, rfl⟩ := e0
  have w1 := m_Q_len e2
  have w2 := m_Q_len q2
  obtain rfl : l2 = l := z_rows_u (f := nr2) (fun i x hx => ⟨(e2.2.2.2.2.1 i x hx).1, by have := e2.2.2.2.1 x (List.mem_of_getElem? hx); omega⟩) (fun i x hx => ⟨(q2.2.2.2.2.1 i x hx).1, by have := q2.2.2.2.1 x (List.mem_of_getElem? hx); omega⟩) ((nI_eq (by omega) (by omega)).mp (e2.1.symm.trans q2.1))
  rw [← e5] at hlf
  have hly2 : ∀ b, b < 128 → (ly' b = 2 ↔ ly b = 2 ∧ b ∈ l2) := fun b hb => by
    rw [q3 b hb]
    by_cases hc : ly b = 2 ∧ b ∉ l2
    · rw [if_pos hc]
      exact ⟨fun h => absurd h (by decide), fun h => absurd h.2 hc.2⟩
    · rw [if_neg hc]
      exact ⟨fun h => ⟨h, Classical.not_not.mp (fun h2 => hc ⟨h, h2⟩)⟩, fun h => h.1⟩
  have hly0 : ∀ b, b < 128 → ¬ ly' b = 0 → ¬ ly b = 0 ∧ ly' b = ly b := fun b hb h0 => by
    rw [q3 b hb] at h0 ⊢
    by_cases hc : ly b = 2 ∧ b ∉ l2
    · rw [if_pos hc] at h0
      exact absurd rfl h0
    · rw [if_neg hc] at h0 ⊢
      exact ⟨h0, rfl⟩
  have hlfm : ∀ x, x ∈ lf ↔ ∃ b, b < 128 ∧ ly' b = 2 ∧ x = ν b := fun x => by
    rw [hlf, List.mem_filter, decide_eq_true_eq, v4]
    constructor
    · rintro ⟨⟨b, c1, c2, c3⟩, hm⟩
      obtain ⟨c, d1, d2⟩ := List.mem_map.mp hm
      have := v1 b c c1 (e3 c d1).1 (by rw [c2]; decide) (e3 c d1).2 (c3.symm.trans d2.symm)
      exact ⟨b, c1, (hly2 b c1).mpr ⟨c2, by rw [this]; exact d1⟩, c3⟩
    · rintro ⟨b, c1, c2, c3⟩
      obtain ⟨d1, d2⟩ := (hly2 b c1).mp c2
      exact ⟨⟨b, c1, d1, c3⟩, by rw [c3]; exact List.mem_map_of_mem d2⟩
  have hlfn : lf.Nodup := by rw [hlf]; exact v3.filter _
  have hlfl : ∀ x ∈ lf, x ∈ ll := fun x hx => by rw [hlf] at hx; exact (List.mem_filter.mp hx).1
  obtain ⟨⟨k1, k2⟩, k3, ⟨k4, k5⟩, k6, k7, k8, k9, k10, k11⟩ := id hS
  have hmem : ∀ b, b < 128 → ¬ ly b = 0 → ν b ∈ hl ++ ll := fun b hb h0 => z_B_mem hR hB hb h0
  have hI : ∀ b, b < 128 → ¬ ly b = 0 → q_I h' (ν b) = q_I h (ν b) := fun b hb h0 => (k2 _ (z_OK_lt b1 (hmem b hb h0)).1).2.2.2 (fun e => b1.2.2.1 (by rw [← e]; exact hmem b hb h0))
  have hmem' : ∀ b, b < 128 → ¬ ly' b = 0 → ν b ∈ hl ++ lf := fun b hb h0 => by
    rcases (hv' b hb).1 with e | e | e
    · exact absurd e h0
    · refine List.mem_append_left _ ?_
      rw [v2]
      exact List.mem_map_of_mem ((hRh'.2.1 b).mpr ⟨hb, e⟩)
    · exact List.mem_append_right _ ((hlfm _).mpr ⟨b, hb, e, rfl⟩)
  have hYR : z_YR ν H hL bn' ly' pl sz ag rc ld' hk hl lf hkL (q_I h') (z_rp h') (q_I h' s 11) := by
    refine ⟨fun b c hb hc h0 h0' => v1 b c hb hc (hly0 b hb h0).1 (hly0 c hc h0').1, v2, ⟨hlfn, hlfm⟩, fun b hb h0 => ?_, fun b hb h0 => ?_, ⟨v7, fun i hi => ?_⟩, ?_⟩
    · obtain ⟨z1, z2⟩ := hly0 b hb h0
      rw [hI b hb z1, z2]
      exact v5 b hb z1
    · obtain ⟨z1, z2⟩ := hly0 b hb h0
      obtain ⟨k, j1, j2, j3, j4⟩ := v6 b hb z1
      rw [k8 _ (hmem' b hb h0)]
      refine ⟨k, j1, j2, by rw [List.length_map]; exact j3, fun r hr => ?_⟩
      have hKr := (m_Kr_iff (rc := rc) (show r < 3 by omega) j2 j1).mpr hr
      rw [List.getElem?_map, q4]
      rcases j4 r hr with ⟨c1, c2⟩ | ⟨c, hc, hc0, c1, c2⟩
      · rw [c2]
        exact Or.inl ⟨m_un_y ⟨by omega, hKr, Or.inl c1⟩, rfl⟩
      · rw [c2]
        by_cases h0c : ly' c = 0
        · refine Or.inl ⟨m_un_y ⟨by omega, hKr, Or.inr ⟨c, hc, c1, h0c⟩⟩, ?_⟩
          show some (z_g0 (q_I h) lf (some (ν c))) = some none
          have hcc : ly c = 2 ∧ c ∉ l2 := by
            rw [q3 c hc] at h0c
            by_cases hc2 : ly c = 2 ∧ c ∉ l2
            · exact hc2
            · rw [if_neg hc2] at h0c
              exact absurd h0c hc0
          have hng : ¬ (q_I h (ν c) 3 = 0 ∨ ν c ∈ lf) := by
            rintro (hz | hz)
            · rw [(v5 c hc hc0).2.2.2, if_pos hcc.1] at hz
              exact absurd hz (by decide)
            · obtain ⟨d, d1, d2, d3⟩ := (hlfm _).mp hz
              have := v1 c d hc d1 hc0 (hly0 d d1 (by rw [d2]; decide)).1 d3
              rw [this, d2] at h0c
              exact absurd h0c (by decide)
          exact congrArg some (if_neg hng)
        · have hgx : ¬ m_gx ly' (ld (b * 3 + r)) := by
            rintro (hz | ⟨d, d1, d2, d3⟩)
            · exact m_nI_m1 (by omega) (c1.symm.trans hz)
            · have : c = d := (nI_eq (by omega) (by omega)).mp (c1.symm.trans d2)
              rw [← this] at d3
              exact h0c d3
          have hg : q_I h (ν c) 3 = 0 ∨ ν c ∈ lf := by
            by_cases h2 : ly c = 2
            · exact Or.inr ((hlfm _).mpr ⟨c, hc, by rw [(hly0 c hc h0c).2]; exact h2, rfl⟩)
            · exact Or.inl (by rw [(v5 c hc hc0).2.2.2, if_neg h2])
          refine Or.inr ⟨c, hc, h0c, by rw [m_un_n (fun h => hgx h.2.2)]; exact c1, ?_⟩
          show some (z_g0 (q_I h) lf (some (ν c))) = some (some (ν c))
          exact congrArg some (if_pos hg)
    · have := hK'.1
      exact z_cell_live (v8 i hi) (((hK'.2 i (by omega)).1 hi).2.imp id (fun ⟨c, c1, c2⟩ => ⟨c, c1.1, c2, c1.2⟩))
    · rw [k5 11 (by decide), q5, m_up_n (by decide)]
      exact v9
  have hcl := z_YR_cl hYR hv' hRh'.2.1
  have hx : x = y := by
    have c1 : m_sm (fun b => sw' b = 2) (fun _ => 1) 136 = nI lf.length := z_card (ν := ν) hlfn (fun z => by
      rw [hlfm]
      constructor
      · rintro ⟨b, d1, d2, d3⟩
        exact ⟨b, by omega, by rw [(hE' b d1).1]; exact d2, d3⟩
      · rintro ⟨b, d1, d2, d3⟩
        have hb : b < 128 := by
          rcases Nat.lt_or_ge b 128 with h1 | h1
          · exact h1
          · rw [hZ' b h1 d1] at d2; exact absurd d2 (by decide)
        exact ⟨b, hb, by rw [← (hE' b hb).1]; exact d2, d3⟩) (fun b c hb hc h2 h2' e => by
      have hb' : ∀ b, b < 136 → sw' b = 2 → b < 128 ∧ ly' b = 2 := fun b d1 d2 => by
        rcases Nat.lt_or_ge b 128 with h1 | h1
        · exact ⟨h1, by rw [← (hE' b h1).1]; exact d2⟩
        · rw [hZ' b h1 d1] at d2; exact absurd d2 (by decide)
      obtain ⟨x1, x2⟩ := hb' b hb h2
      obtain ⟨x3, x4⟩ := hb' c hc h2'
      exact v1 b c x1 x3 (hly0 b x1 (by rw [x2]; decide)).1 (hly0 c x3 (by rw [x4]; decide)).1 e)
    have c2 : m_sm (fun b => sw b = 2) (fun _ => 1) 136 = nI ll.length := z_card (ν := ν) v3 (fun z => by
      rw [v4]
      constructor
      · rintro ⟨b, d1, d2, d3⟩
        exact ⟨b, by omega, by rw [(hE b d1).1]; exact d2, d3⟩
      · rintro ⟨b, d1, d2, d3⟩
        have hb : b < 128 := by
          rcases Nat.lt_or_ge b 128 with h1 | h1
          · exact h1
          · rw [hZ b h1 d1] at d2; exact absurd d2 (by decide)
        exact ⟨b, hb, by rw [← (hE b hb).1]; exact d2, d3⟩) (fun b c hb hc h2 h2' e => by
      have hb' : ∀ b, b < 136 → sw b = 2 → b < 128 ∧ ly b = 2 := fun b d1 d2 => by
        rcases Nat.lt_or_ge b 128 with h1 | h1
        · exact ⟨h1, by rw [← (hE b h1).1]; exact d2⟩
        · rw [hZ b h1 d1] at d2; exact absurd d2 (by decide)
      obtain ⟨x1, x2⟩ := hb' b hb h2
      obtain ⟨x3, x4⟩ := hb' c hc h2'
      exact v1 b c x1 x3 (by rw [x2]; decide) (by rw [x4]; decide) e)
    rw [c1, c2] at q6
    rw [hy, ← q6, Int32.add_sub_cancel]
  refine ⟨⟨z_OK_sweep b1 hlfl hlfn hS hcl, hYR, ?_, ?_, ?_, ?_, ?_, ?_, ?_⟩, hx⟩
  · rw [k5 3 (by decide)]; exact b3
  · rw [k5 5 (by decide)]; exact b4
  · rw [k5 7 (by decide), r5]; exact b5
  · rw [k5 8 (by decide), q5, m_up_n (by decide)]; exact b6
  · rw [k5 9 (by decide), q5, m_up_n (by decide)]; exact b7
  · rw [k5 10 (by decide), r6]; exact b8
  · rw [k4, b9, q5, m_up_s, hx]
end ZSW
