/-! MATH: THE RELATION of the class and the reference at rest; a copying keeps it -/
def m_Re (ly pl sz ag rc sw sp ss sa sr : m_Rr) : Prop := (∀ b, b < 128 → sw b = ly b ∧ sp b = pl b ∧ ss b = sz b ∧ sa b = ag b ∧ sr b = rc b) ∧ (∀ b, 128 ≤ b → b < 136 → sw b = 0)
def m_Rg (ly rc ld sd : m_Rr) : Prop := (∀ b, b < 128 → ∃ k, k ≤ 3 ∧ rc b = nI k ∧ ∀ r, r < k → sd (3 * b + r) = ld (b * 3 + r) ∧ (ld (b * 3 + r) = -1 ∨ ∃ c, c < 128 ∧ ld (b * 3 + r) = nI c ∧ (ly b ≠ 0 → ly c ≠ 0))) ∧ (∀ k, k < 408 → sd k = -1 ∨ ∃ c, c < 128 ∧ sd k = nI c)
def m_Rv (ly sz : m_Rr) : Prop := ∀ b, b < 128 → (ly b = 0 ∨ ly b = 1 ∨ ly b = 2) ∧ (ly b ≠ 0 → ∃ s, 1 ≤ s ∧ s ≤ 9 ∧ sz b = nI s)
def m_Rh (hf : Nat) (h : List Nat) (bn ly pl sz rw : m_Rr) : Prop := h.Nodup ∧ (∀ b, b ∈ h ↔ b < 128 ∧ ly b = 1) ∧ m_Rw sz pl rw h ∧ bn 7 = nI h.length ∧ bn 8 = m_tot sz h ∧ m_tw (m_w sz) h ≤ hf ∧ hf ≤ 64
def m_Rl (m : Nat) (lo lr sw sp ss : m_Rr) : Prop := m_Lf m lr sw sp ss ∧ lo 1 = nI m ∧ lo 2 = m_sm (fun i => sw i = 2) (fun _ => 1) 136
def m_Rk (H : Nat) (ly hk sh : m_Rr) : Prop := m_H (fun c => c < 128 ∧ ly c ≠ 0) H hk sh
def m_Rb (bn st : m_Rr) : Prop := bn 9 = st 2 ∧ bn 10 = st 0 ∧ bn 11 = st 1 ∧ bn 12 = st 3 ∧ bn 13 = st 4 ∧ bn 14 = st 5
def m_R (H m hf : Nat) (h : List Nat) (bn ly pl sz ag rc ld lo lr hk rw st sh sw sp ss sr sa sd : m_Rr) : Prop :=
  m_Re ly pl sz ag rc sw sp ss sa sr ∧ m_Rg ly rc ld sd ∧ m_Rv ly sz ∧ m_Rh hf h bn ly pl sz rw ∧ m_Rl m lo lr sw sp ss ∧ m_Rk H ly hk sh ∧ m_Rb bn st
/-- what the plan says, on both sides -/
def m_Pl (H m hf : Nat) (pn mp : m_Rr) : Prop := pn 0 = nI hf ∧ mp 1 = nI hf ∧ pn 1 = nI m ∧ mp 2 = nI m ∧ pn 2 = mp 3 ∧ pn 3 = nI H ∧ mp 0 = nI H
theorem m_R_len {hf : Nat} {h : List Nat} {bn ly pl sz rw : m_Rr} (hv : m_Rv ly sz) (hR : m_Rh hf h bn ly pl sz rw) : (∀ b ∈ h, ∃ s, 1 ≤ s ∧ s ≤ 9 ∧ sz b = nI s ∧ m_w sz b = s) ∧ h.length ≤ m_tw (m_w sz) h ∧ h.length ≤ 64 ∧ m_tot sz h = nI (m_tw (m_w sz) h) := by
  obtain ⟨hnd, hmem, hrw, hb7, hb8, htw, h64⟩ := hR
  have h1 : ∀ b ∈ h, ∃ s, 1 ≤ s ∧ s ≤ 9 ∧ sz b = nI s ∧ m_w sz b = s := fun b hb => by
    obtain ⟨x1, x2⟩ := (hmem b).mp hb
    obtain ⟨s, s1, s2, s3⟩ := (hv b x1).2 (by rw [x2]; decide)
    exact ⟨s, s1, s2, s3, m_w_nI s3 (by omega)⟩
  have h2 : h.length ≤ m_tw (m_w sz) h := m_tw_len (fun b hb => by obtain ⟨s, s1, s2, s3, s4⟩ := h1 b hb; omega)
  exact ⟨h1, h2, by omega, m_tot_tw (fun b hb => by obtain ⟨s, s1, s2, s3, s4⟩ := h1 b hb; rw [s3, s4])⟩
theorem m_subI {a b : Nat} (h : b ≤ a) : nI a - nI b = nI (a - b) := by
  have : nI a = nI (a - b) + nI b := by rw [nI_add]; congr 1; omega
  rw [this, Int32.add_sub_cancel]
theorem m_copy {H m hf : Nat} {h : List Nat} {pn mp bn ly pl sz ag rc ld lo lr hk rw st sh sw sp ss sr sa sd : m_Rr} (hP : m_Pl H m hf pn mp) (hR : m_R H m hf h bn ly pl sz ag rc ld lo lr hk rw st sh sw sp ss sr sa sd) (li nr nd ro md mq mi : m_Rr) :
    ∃ x h' bn' ly' pl' ag' lo' lr' li' nr' nd' rw' md' mq' mi' st' sw' sp' sa', f_X2_copyHalf pn bn ly pl sz ag rc ld lo lr li nr nd hk rw ro = some (x, bn', ly', pl', ag', lo', lr', li', nr', nd', rw', rw) ∧ f_X14_copyAll md mp mq mi st sh sw sp ss sr sa sd = some (x, md', mq', mi', st', sw', sp', sa') ∧ m_R H m hf h' bn' ly' pl' sz ag' rc ld lo' lr' hk rw' st' sh sw' sp' ss sr sa' sd ∧ (∀ j, j ≠ 16 → md' j = md j) ∧ bn' 10 = bn 10 ∧ bn' 12 = bn 12 + 1 := by
  obtain ⟨p0, p1, p2, p3, p4, p5, p6⟩ := hP
  obtain ⟨⟨hE, hZ⟩, ⟨hg1, hg2⟩, hv, hRh, ⟨hLf, hlo1, hlo2⟩, hK, hB⟩ := id hR
  obtain ⟨w1, w2, w3, w4⟩ := m_R_len hv hRh
  obtain ⟨hnd, hmem, hrw, hb7, hb8, htw, h64⟩ := id hRh
  obtain ⟨c1, c2, c3, c4, c5, c6⟩ := id hB
  obtain ⟨ol, hol⟩ : ∃ ol, ol = q_cp sw (fun _ => 0) 136 := ⟨_, rfl⟩
  have holv : ∀ b, b < 136 → ol b = sw b := fun b hb => by rw [hol, q_cp_lt hb]
  have m64 := hLf.1
  have hH : m_TH m ly sz ss pn mp ol := by
    refine ⟨fun b hb => (holv b (by omega)).trans (hE b hb).1, fun b h1 h2 => (holv b h2).trans (hZ b h1 h2), fun b hb ho => ?_, fun t h1 h2 => ?_, p4, p3, p2, m64⟩
    · obtain ⟨s, s1, s2, s3, s4⟩ := w1 b ((hmem b).mpr ⟨hb, ho⟩)
      exact ⟨s, s1, by omega, s3, by rw [(hE b hb).2.2.1]; exact s3⟩
    · have := m_sub_len h1 (k := h) (fun x hx => (hmem x).mpr (h2 x hx))
      omega
  have hG : m_TG rc ld sr sd := fun b hb => by
    obtain ⟨k, k1, k2, k3⟩ := hg1 b hb
    exact ⟨k, k1, k2, by rw [(hE b hb).2.2.2.2]; exact k2, fun r hr => ⟨(k3 r hr).1, (k3 r hr).2.imp id (fun ⟨c, x, y, z⟩ => ⟨c, x, y⟩)⟩⟩
  obtain ⟨bn0, hbn0⟩ : ∃ f, f = q_up (q_up (q_up (q_up bn 7 (0 : Int32)) 8 (0 : Int32)) 9 ((1 : Int32) - ((q_up (q_up bn 7 (0 : Int32)) 8 (0 : Int32)) 9))) 12 (((q_up (q_up (q_up bn 7 (0 : Int32)) 8 (0 : Int32)) 9 ((1 : Int32) - ((q_up (q_up bn 7 (0 : Int32)) 8 (0 : Int32)) 9))) 12) + (1 : Int32)) := ⟨_, rfl⟩
  obtain ⟨X0, hX0⟩ : ∃ X : m_XT, X = (bn0, ly, pl, ag, lo, lr, q_up li 2 0, nr, q_fil 128 (-1) nd, ro) := ⟨_, rfl⟩
  obtain ⟨sw0, hsw0⟩ : ∃ f : m_Rr, f = fun b => if b < 136 ∧ ol b = 1 then 0 else sw b := ⟨_, rfl⟩
  obtain ⟨Y0, hY0⟩ : ∃ Y : m_YT, Y = (0, q_up md 16 0, mq, q_fil 136 0 mi, st, sw0, sp, sa) := ⟨_, rfl⟩
  have hsw0v : ∀ b, b < 136 → sw0 b = if sw b = 1 then 0 else sw b := fun b hb => by
    rw [hsw0]
    show (if b < 136 ∧ ol b = 1 then 0 else sw b) = _
    rw [holv b hb]
    by_cases e : sw b = 1
    · rw [if_pos ⟨hb, e⟩, if_pos e]
    · rw [if_neg (fun x => e x.2), if_neg e]
  have hsw02 : ∀ b, b < 136 → (sw0 b = 2 ↔ sw b = 2) := fun b hb => by
    rw [hsw0v b hb]
    by_cases e : sw b = 1
    · rw [if_pos e, e]; exact ⟨fun x => absurd x (by decide), fun x => absurd x (by decide)⟩
    · rw [if_neg e]
  have hT0 : m_CT m ly sz ss X0 Y0 [] [] X0 Y0 := by
    refine ⟨?_, by rw [hY0]; rfl, fun _ _ _ _ => rfl, fun _ _ => rfl, fun _ _ => rfl, fun _ _ => rfl, fun _ _ => rfl, fun _ _ => rfl, fun _ _ => rfl⟩
    rw [hX0, hY0]
    refine ⟨m_Q_0, ⟨fun b hb => by (cases hb), fun b hb => ⟨fun _ => rfl, fun x => by (cases x), fun ho => ?_, fun ho _ => ?_, fun x => by (cases x)⟩⟩, fun b hb => ⟨(hE b hb).2.1, (hE b hb).2.2.2.1⟩, ⟨?_, ?_, ?_⟩, ⟨List.nodup_nil, fun b => ⟨fun x => by (cases x), fun x => by (cases x.1)⟩, fun i b x => by (cases x)⟩, ?_, hlo1, ?_⟩
    · show sw0 b = ly b
      rw [hsw0v b (by omega), if_neg (by rw [(hE b hb).1]; exact ho), (hE b hb).1]
    · show sw0 b = 0
      rw [hsw0v b (by omega), if_pos (by rw [(hE b hb).1]; exact ho)]
    · show bn0 7 = _
      rw [hbn0, m_up_n (by decide), m_up_n (by decide), m_up_n (by decide), m_up_s]; rfl
    · show bn0 8 = _
      rw [hbn0, m_up_n (by decide), m_up_n (by decide), m_up_s]; rfl
    · show bn0 13 = st 4
      rw [hbn0, m_up_n (by decide), m_up_n (by decide), m_up_n (by decide), m_up_n (by decide)]; exact c5
    · refine ⟨hLf.1, fun b hb hw => hLf.2.1 b hb ((hsw02 b hb).mp hw), fun q hq => (hLf.2.2 q hq).imp id (fun ⟨b, x1, x2, x3⟩ => ⟨b, x1, (hsw02 b (by omega)).mpr x2, x3⟩)⟩
    · show lo 2 = m_sm (fun i => sw0 i = 2) (fun _ => 1) 136
      rw [hlo2]
      exact m_sm_congr (fun i hi => (hsw02 i hi).symm) (fun _ _ _ => rfl)
  obtain ⟨t1, h1, X1, Y1, d1, d2, d3, d4⟩ := m_hooksT hH (G := fun c => c < 128 ∧ ly c ≠ 0) (fun _ hb => hb.1) hK p6 H 0 [] [] X0 Y0 4096 4096 (by omega) (by omega) (by have := hK.1; omega) hT0
  obtain ⟨t2, h2, X2, Y2, e1, e2, e3, e4⟩ := m_loftT hH hG m 0 _ _ X1 Y1 4096 4096 (by omega) (by omega) (by omega) d3
  obtain ⟨t3, h3, X3, Y3, f1, f2, f3, f4⟩ := m_queueT hH hG 128 0 _ _ X2 Y2 4096 4096 (by omega) (by omega) (by omega) (by omega) e3
  obtain ⟨l, hl⟩ : ∃ l, l = [] ++ t1 ++ t2 ++ t3 := ⟨_, rfl⟩
  rw [← hl] at f3 f4
  have sub1 : ∀ x, x ∈ [] ++ t1 → x ∈ l := fun x hx => by rw [hl]; exact List.mem_append.mpr (Or.inl (List.mem_append.mpr (Or.inl hx)))
  have sub2 : ∀ x, x ∈ [] ++ t1 ++ t2 → x ∈ l := fun x hx => by rw [hl]; exact List.mem_append.mpr (Or.inl hx)
  obtain ⟨⟨hQ, hLy, hps, ⟨g7, g8, g13⟩, ⟨gnd, gmem, gRw⟩, gLf, glo1, glo2⟩, gv, gbn, gst, glo, gli, gmd, gpl, gsw⟩ := id f3
  have hlh : ∀ x ∈ l, x ∈ h := fun x hx => (hmem x).mpr ⟨hQ.2.2.2.1 x hx, hLy.1 x hx⟩
  have hlen : l.length ≤ h.length := m_sub_len hQ.2.2.1 hlh
  /- all ropes of bales that stay lead to bales that stay -/
  have hro : ∀ (i b : Nat), h[i]? = some b → rw i = nI b := fun i b hi => (hrw i b hi).1
  have hlose := m_lose (ly := X3.2.1) (bn := X3.1) hQ.2.2.2.2.2.1 hro (fun x hx => ((hmem x).mp hx).1) w3
  have hze : ∀ b, b < 128 → m_ze l h X3.2.1 b = Y3.2.2.2.2.2.1 b := fun b hb => by
    obtain ⟨y1, y2, y3, y4, y5⟩ := hLy.2 b hb
    unfold m_ze
    by_cases hbl : b ∈ l
    · rw [if_neg (fun x => x.2 hbl), y5 hbl]
    · by_cases ho : ly b = 1
      · rw [if_pos ⟨(hmem b).mpr ⟨hb, ho⟩, hbl⟩, y4 ho hbl]
      · rw [if_neg (fun x => ho ((hmem b).mp x.1).2), y1 hbl, y3 ho]
  have hlive : ∀ b, b < 128 → (m_ze l h X3.2.1 b ≠ 0 ↔ b ∈ l ∨ (ly b ≠ 1 ∧ ly b ≠ 0)) := fun b hb => by
    obtain ⟨y1, y2, y3, y4, y5⟩ := hLy.2 b hb
    rw [hze b hb]
    by_cases hbl : b ∈ l
    · refine ⟨fun _ => Or.inl hbl, fun _ => ?_⟩
      rw [y5 hbl]
      rcases y2 hbl with e | e <;> rw [e] <;> decide
    · by_cases ho : ly b = 1
      · rw [y4 ho hbl]
        exact ⟨fun x => absurd rfl x, fun x => (x.resolve_left hbl).1.elim ho⟩
      · rw [y3 ho]
        exact ⟨fun x => Or.inr ⟨ho, x⟩, fun x => (x.resolve_left hbl).2⟩
  have hwas : ∀ b, b < 128 → m_ze l h X3.2.1 b ≠ 0 → ly b ≠ 0 := fun b hb hz => by
    rcases (hlive b hb).mp hz with x | x
    · rw [hLy.1 b x]; decide
    · exact x.2
  have hstay : ∀ c, c < 128 → ly c ≠ 0 → (ly c = 1 → c ∈ l) → m_ze l h X3.2.1 c ≠ 0 := fun c hc h0 h1 => by
    by_cases e : ly c = 1
    · exact (hlive c hc).mpr (Or.inl (h1 e))
    · exact (hlive c hc).mpr (Or.inr ⟨e, h0⟩)
  have hx : nI h.length - nI l.length = nI (m_cn l h) := by rw [m_subI hlen, m_cn_len hnd hQ.2.2.1 hlh]
  refine ⟨nI (m_cn l h), h3, q_up X3.1 14 (X3.1 14 + nI (m_cn l h)), m_ze l h X3.2.1, X3.2.2.1, X3.2.2.2.1, X3.2.2.2.2.1, X3.2.2.2.2.2.1, X3.2.2.2.2.2.2.1, X3.2.2.2.2.2.2.2.1, X3.2.2.2.2.2.2.2.2.1, X3.2.2.2.2.2.2.2.2.2, Y3.2.1, Y3.2.2.1, Y3.2.2.2.1, q_up (q_up (q_up Y3.2.2.2.2.1 2 ((1 : Int32) - (Y3.2.2.2.2.1 2))) 3 (((q_up Y3.2.2.2.2.1 2 ((1 : Int32) - (Y3.2.2.2.2.1 2))) 3) + (1 : Int32))) 5 (((q_up (q_up Y3.2.2.2.2.1 2 ((1 : Int32) - (Y3.2.2.2.2.1 2))) 3 (((q_up Y3.2.2.2.2.1 2 ((1 : Int32) - (Y3.2.2.2.2.1 2))) 3) + (1 : Int32))) 5) + nI (m_cn l h)), Y3.2.2.2.2.2.1, Y3.2.2.2.2.2.2.1, Y3.2.2.2.2.2.2.2, ?_, ?_, ⟨⟨fun b hb => ⟨(hze b hb).symm, (hps b hb).1, (hE b hb).2.2.1, (hps b hb).2, (hE b hb).2.2.2.2⟩, fun b h1 h2 => ?_⟩, ⟨fun b hb => ?_, hg2⟩, fun b hb => ⟨?_, fun hz => (hv b hb).2 (hwas b hb hz)⟩, ⟨gnd, fun b => ?_, gRw, ?_, ?_, ?_, h64⟩, ⟨gLf, glo1, glo2⟩, ⟨hK.1, fun i hi => ⟨fun hin => ⟨((hK.2 i hi).1 hin).1, ?_⟩, (hK.2 i hi).2⟩⟩, ⟨?_, ?_, ?_, ?_, ?_, ?_⟩⟩, fun j hj => ?_, ?_, ?_⟩
  · unfold f_X2_copyHalf f_X4_clear
    rw [Option.bind_some]
    have d1' : f_X2_copyHalf_L36 pn sz hk 4096 bn0 ly pl ag lo lr (q_up li 2 0) nr (q_fil 128 (-1) nd) ro 0 = some X1 := by rw [hX0] at d1; exact d1
    rw [← hbn0, d1', Option.bind_some]
    have e1' : f_X2_copyHalf_L48 pn sz rc ld 4096 X1.1 X1.2.1 X1.2.2.1 X1.2.2.2.1 X1.2.2.2.2.1 X1.2.2.2.2.2.1 X1.2.2.2.2.2.2.1 X1.2.2.2.2.2.2.2.1 X1.2.2.2.2.2.2.2.2.1 X1.2.2.2.2.2.2.2.2.2 0 = some X2 := e1
    rw [e1', Option.bind_some]
    have f1' : f_X2_copyHalf_L83 pn sz rc ld 4096 X2.1 X2.2.1 X2.2.2.1 X2.2.2.2.1 X2.2.2.2.2.1 X2.2.2.2.2.2.1 X2.2.2.2.2.2.2.1 X2.2.2.2.2.2.2.2.1 X2.2.2.2.2.2.2.2.2.1 X2.2.2.2.2.2.2.2.2.2 0 = some X3 := f1
    rw [f1', Option.bind_some, hb7, hlose, Option.bind_some]
  · unfold f_X14_copyAll f_X14_copy f_X14_forget
    have e0 := m_forgetL (mi := mi) 136 0 4096 (by omega) (by omega)
    rw [q_fil_0, show nI 0 = 0 from rfl] at e0
    rw [Option.bind_some, e0, Option.bind_some, Option.bind_some, m_bales, Option.bind_some, m_sm_half hnd (fun b => by
      rw [hmem]
      constructor
      · exact fun x => ⟨x.1, (hE b x.1).1.trans x.2⟩
      · exact fun x => ⟨x.1, (hE b x.1).1.symm.trans x.2⟩) hZ, m_tot_1]
    have e16 := m_L16 (ol := ol) (sw := sw) 136 0 4096 (by omega) (by omega)
    have e16' : (fun b => if b < 0 ∧ ol b = 1 then 0 else sw b) = sw := by funext b; rw [if_neg (fun x => by omega)]
    rw [e16', ← hsw0, show nI 0 = 0 from rfl] at e16
    rw [← hol, e16, Option.bind_some]
    have d2' : f_X14_copyAll_L35 mp sh ss ol 4096 (q_up md 16 0) mq (q_fil 136 0 mi) st sw0 sp sa 0 0 = some Y1 := by rw [hY0] at d2; exact d2
    rw [d2', Option.bind_some]
    have e2' : f_X14_copyAll_L54 mp ss sr sd ol 4096 Y1.2.1 Y1.2.2.1 Y1.2.2.2.1 Y1.2.2.2.2.1 Y1.2.2.2.2.2.1 Y1.2.2.2.2.2.2.1 Y1.2.2.2.2.2.2.2 Y1.1 0 = some Y2 := e2
    rw [e2', Option.bind_some]
    have f2' : f_X14_copyAll_L88 mp ss sr sd ol 4096 Y2.2.1 Y2.2.2.1 Y2.2.2.2.1 Y2.2.2.2.2.1 Y2.2.2.2.2.2.1 Y2.2.2.2.2.2.2.1 Y2.2.2.2.2.2.2.2 Y2.1 0 = some Y3.2 := f2
    rw [f2', Option.bind_some, hQ.2.1, hx]
  · rw [gsw b h1, hY0]
    show sw0 b = 0
    rw [hsw0v b h2, hZ b h1 h2]; rfl
  · obtain ⟨k, k1, k2, k3⟩ := hg1 b hb
    refine ⟨k, k1, k2, fun r hr => ⟨(k3 r hr).1, (k3 r hr).2.imp id (fun ⟨c, x, y, z⟩ => ⟨c, x, y, fun hz => ?_⟩)⟩⟩
    have hb0 := hwas b hb hz
    refine hstay c x (z hb0) (fun hc1 => ?_)
    rcases (hlive b hb).mp hz with hbl | ⟨n1, n0⟩
    · obtain ⟨i, hi⟩ := List.getElem?_of_mem hbl
      exact f4 i b (by omega) hi k k1 k2 r hr c x hc1 y
    · have h2 : ly b = 2 := ((hv b hb).1.resolve_left n0).resolve_left n1
      obtain ⟨p, s, b1, b2, b3, b4, b5⟩ := hLf.2.1 b (by omega) ((hE b hb).1.trans h2)
      refine sub2 c (e4 b hb h2 p (by omega) (by omega) ?_ k k1 k2 r hr c x hc1 y)
      rw [hX0]
      exact (hE b hb).2.1.symm.trans b1
  · by_cases hbl : b ∈ l
    · unfold m_ze
      rw [if_neg (fun x => x.2 hbl)]
      exact Or.inr ((hLy.2 b hb).2.1 hbl)
    · unfold m_ze
      by_cases e : b ∈ h ∧ b ∉ l
      · rw [if_pos e]; exact Or.inl rfl
      · rw [if_neg e, (hLy.2 b hb).1 hbl]; exact (hv b hb).1
  · rw [gmem]
    constructor
    · rintro ⟨x1, x2⟩
      exact ⟨hQ.2.2.2.1 b x1, by unfold m_ze; rw [if_neg (fun x => x.2 x1)]; exact x2⟩
    · rintro ⟨x1, x2⟩
      have hbl : b ∈ l := by
        rcases (hlive b x1).mp (by rw [x2]; decide) with x | ⟨n1, n0⟩
        · exact x
        · exfalso
          have h2 : ly b = 2 := ((hv b x1).1.resolve_left n0).resolve_left n1
          have h3 := (hLy.2 b x1).2.2.1 n1
          rw [← hze b x1, x2, h2] at h3
          exact absurd h3 (by decide)
      refine ⟨hbl, ?_⟩
      unfold m_ze at x2
      rw [if_neg (fun x => x.2 hbl)] at x2
      exact x2
  · rw [m_up_n (by decide)]; exact g7
  · rw [m_up_n (by decide)]; exact g8
  · have := m_sub (w := m_w sz) gnd (k := h) (fun x hx => hlh x ((gmem x).mp hx).1)
    omega
  · refine ((hK.2 i hi).1 hin).2.imp id (fun ⟨c, ⟨x1, x2⟩, x3⟩ => ⟨c, ⟨x1, hstay c x1 x2 (fun hc => sub1 c (d4 i (by omega) hin c x1 hc x3))⟩, x3⟩)
  · rw [m_up_n (by decide), gbn 9 (by decide) (by decide) (by decide), hX0, m_up_n (by decide), m_up_n (by decide), m_up_s, gst 2 (by decide), hY0]
    show bn0 9 = 1 - st 2
    rw [hbn0, m_up_n (by decide), m_up_s, m_up_n (by decide), m_up_n (by decide), c1]
  · rw [m_up_n (by decide), gbn 10 (by decide) (by decide) (by decide), hX0, m_up_n (by decide), m_up_n (by decide), m_up_n (by decide), gst 0 (by decide), hY0]
    show bn0 10 = st 0
    rw [hbn0, m_up_n (by decide), m_up_n (by decide), m_up_n (by decide), m_up_n (by decide), c2]
  · rw [m_up_n (by decide), gbn 11 (by decide) (by decide) (by decide), hX0, m_up_n (by decide), m_up_n (by decide), m_up_n (by decide), gst 1 (by decide), hY0]
    show bn0 11 = st 1
    rw [hbn0, m_up_n (by decide), m_up_n (by decide), m_up_n (by decide), m_up_n (by decide), c3]
  · rw [m_up_n (by decide), gbn 12 (by decide) (by decide) (by decide), hX0, m_up_n (by decide), m_up_s, m_up_n (by decide), gst 3 (by decide), hY0]
    show bn0 12 = st 3 + 1
    rw [hbn0, m_up_s, m_up_n (by decide), m_up_n (by decide), m_up_n (by decide), c4]
  · rw [m_up_n (by decide), g13, m_up_n (by decide), m_up_n (by decide), m_up_n (by decide)]
  · rw [m_up_s, gbn 14 (by decide) (by decide) (by decide), hX0, m_up_s, m_up_n (by decide), m_up_n (by decide), gst 5 (by decide), hY0]
    show bn0 14 + _ = st 5 + _
    rw [hbn0, m_up_n (by decide), m_up_n (by decide), m_up_n (by decide), m_up_n (by decide), c6]
  · rw [gmd j hj, hY0]
    exact m_up_n hj
  · rw [m_up_n (by decide), gbn 10 (by decide) (by decide) (by decide), hX0]
    show bn0 10 = bn 10
    rw [hbn0, m_up_n (by decide), m_up_n (by decide), m_up_n (by decide), m_up_n (by decide)]
  · rw [m_up_n (by decide), gbn 12 (by decide) (by decide) (by decide), hX0]
    show bn0 12 = bn 12 + 1
    rw [hbn0, m_up_s, m_up_n (by decide), m_up_n (by decide), m_up_n (by decide)]
