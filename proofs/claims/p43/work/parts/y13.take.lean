/-! CONTRACTS of the law's barn, four: one bale is taken over -/
section ZTAKE
variable {g : q_G} {d mc ms : Nat} {h h' : q_H} {s t a : Nat} {hk : List (Option Nat)} {U : Nat → Prop} {B up : Nat} {prom : Int32} {ol : List Nat} {σ : z_St}
theorem z_ne_s {h : q_H} {a s n : Nat} (hs : q_sh h s = (0, 12, 0)) (ha : q_sh h a = (3, 6, n)) : a ≠ s := fun e => by
  rw [e, hs] at ha
  cases ha
theorem z_Ar_pRs {j : Nat} {v : Option Nat} {l : List Nat} (hs : q_sh h s = (0, 12, 0)) (ha : z_Ar h a l) : z_Ar (q_pR h s j v) a l :=
  ⟨ha.1, ha.2.1, ha.2.2.1, fun i x hx => by rw [z_R_a _ _ _ _ _ (z_ne_s hs ha.2.1)]; exact ha.2.2.2 i x hx⟩
theorem z_Ao_pRs {j : Nat} {v : Option Nat} {l : List (Option Nat)} (hs : q_sh h s = (0, 12, 0)) (ha : z_Ao h a l) : z_Ao (q_pR h s j v) a l :=
  ⟨ha.1, ha.2.1, ha.2.2.1, fun i x hx => by rw [z_R_a _ _ _ _ _ (z_ne_s hs ha.2.1)]; exact ha.2.2.2 i x hx⟩
theorem z_Wf_pRs {j : Nat} {v : Option Nat} (hs : q_sh h s = (0, 12, 0)) (hu : ¬ U s) (hW : z_Wf h U) : z_Wf (q_pR h s j v) U := by
  intro x hx
  obtain ⟨b, ⟨r1, r2, r3, r4⟩, r5⟩ := hW x hx
  have hxs : x ≠ s := fun e => hu (by rw [← e]; exact hx)
  have e1 : q_R (q_pR h s j v) x = q_R h x := z_R_a _ _ _ _ _ hxs
  have e2 : z_ra (q_pR h s j v) x = z_ra h x := by unfold z_ra; rw [e1]
  have e3 : z_rl (q_pR h s j v) x = z_rl h x := by unfold z_rl; rw [e2]; rfl
  have e4 : q_R (q_pR h s j v) (z_ra h x) = q_R h (z_ra h x) := z_R_a _ _ _ _ _ (z_ne_s hs r3)
  refine ⟨b, ?_, ?_⟩
  · rw [e1, e2, e3]; exact ⟨r1, r2, r3, r4⟩
  · rw [e2, e3, e4]; exact r5
theorem z_Sim_pRs0 {b : Nat} {hl hl' ll : List Nat} (hS : z_Sim h s hl ll hk) (hb : z_Ar h b hl') : z_Sim (q_pR h s 0 (some b)) s hl' ll hk := by
  obtain ⟨s1, s2, -, ⟨c, c1, c2⟩, e, e1, e2⟩ := hS
  exact ⟨s1, s2, ⟨b, z_R_s _ _ _ _, z_Ar_pRs s2 hb⟩, ⟨c, by rw [z_R_j _ _ _ _ _ (by decide)]; exact c1, z_Ar_pRs s2 c2⟩, e, by rw [z_R_j _ _ _ _ _ (by decide)]; exact e1, z_Ao_pRs s2 e2⟩
theorem z_Sim_pRs1 {b : Nat} {hl ll ll' : List Nat} (hS : z_Sim h s hl ll hk) (hb : z_Ar h b ll') : z_Sim (q_pR h s 1 (some b)) s hl ll' hk := by
  obtain ⟨s1, s2, ⟨c, c1, c2⟩, -, e, e1, e2⟩ := hS
  exact ⟨s1, s2, ⟨c, by rw [z_R_j _ _ _ _ _ (by decide)]; exact c1, z_Ar_pRs s2 c2⟩, ⟨b, z_R_s _ _ _ _, z_Ar_pRs s2 hb⟩, e, by rw [z_R_j _ _ _ _ _ (by decide)]; exact e1, z_Ao_pRs s2 e2⟩
/-- the heap in a copying -/
def z_Rc (h : q_H) (s : Nat) (hk : List (Option Nat)) (U : Nat → Prop) (up : Nat) (prom : Int32) (t : Nat) (σ : z_St) : Prop :=
  z_Wf h U ∧ ¬ U s ∧ z_Sim h s σ.1 σ.2.1 hk ∧ z_Ar h t σ.2.2.1 ∧ (∀ x, U x → ∀ j, j < 4 → q_I h x j = σ.2.2.2.1 x j) ∧ (q_I h s 11 = σ.2.2.2.2 ∧ q_I h s 4 = nI up ∧ q_I h s 5 = prom)
/-- what holds of the lists in a copying -/
def z_Iv (U : Nat → Prop) (up : Nat) (ol : List Nat) (σ : z_St) : Prop :=
  ((∀ x ∈ σ.1, x ∈ σ.2.2.1) ∧ σ.1.Nodup) ∧ ((∀ x ∈ σ.2.1, U x ∧ (x ∈ σ.2.2.1 ∨ x ∉ ol)) ∧ σ.2.1.Nodup) ∧ ((∀ x ∈ σ.2.2.1, x ∈ ol) ∧ σ.2.2.1.Nodup) ∧ (∀ x ∈ ol, U x) ∧
  (∀ x ∈ σ.2.1, ∃ p z, σ.2.2.2.1 x 2 = nI p ∧ σ.2.2.2.1 x 0 = nI z ∧ p + z ≤ up) ∧ ∀ x, U x → ∃ z, 0 < z ∧ z < 65536 ∧ σ.2.2.2.1 x 0 = nI z
theorem z_Rc_ext {t' : Nat} {tl' : List Nat} (e : z_ext h h') (hR : z_Rc h s hk U up prom t σ) (ht : z_Ar h' t' tl') : z_Rc h' s hk U up prom t' (σ.1, σ.2.1, tl', σ.2.2.2) := by
  obtain ⟨r1, r2, r3, r4, r5, r6⟩ := hR
  have es := (e.2 s r3.1.2).2.1
  exact ⟨z_Wf_ext e r1, r2, z_Sim_ext e r3, ht, fun x hx j hj => by rw [(e.2 x (r1 x hx).1.1.2).2.1]; exact r5 x hx j hj, by rw [es]; exact r6⟩
theorem z_gf_ext {h : q_H} (hR : z_Rc h s hk U up prom t σ) (hI : z_Iv U up ol σ) (hup : up < 65536) : ∀ x ∈ σ.2.1, q_I h x 2 = nI ((fun x => (σ.2.2.2.1 x 2).toNatClampNeg) x) ∧ q_I h x 0 = nI ((fun x => (σ.2.2.2.1 x 0).toNatClampNeg) x) ∧ (fun x => (σ.2.2.2.1 x 2).toNatClampNeg) x + (fun x => (σ.2.2.2.1 x 0).toNatClampNeg) x ≤ up := by
  intro x hx
  obtain ⟨-, -, -, -, r5, -⟩ := hR
  obtain ⟨-, ⟨i2, -⟩, -, -, i5, -⟩ := hI
  obtain ⟨p, z, e1, e2, e3⟩ := i5 x hx
  have hU := (i2 x hx).1
  dsimp only
  rw [r5 x hU 2 (by decide), r5 x hU 0 (by decide), e1, e2, nI_clamp (by omega), nI_clamp (by omega)]
  exact ⟨rfl, rfl, e3⟩
theorem z_takeC {o : Option Nat} (hd : 3 ≤ d) (hd2 : d < 2048) (hR : z_Rc h s hk U up prom t σ) (hI : z_Iv U up ol σ) (hol : z_Ar h a ol) (ho : ∀ x, o = some x → U x) (hup : up < 65536) (hupB : up ≤ B) (hB : ∀ l : List Nat, l.Nodup → (∀ x ∈ l, U x) → l.length ≤ B) (hBs : q_s16 B) :
    q_Ct g m_X14_take d 3 (3 * B) [] [.ref s, .ref t, .ref a, va_rf o] h (fun o' h' => ∃ b, o' = .inl (some (.ref b)) ∧ z_ch s U h h' ∧ z_Rc h' s hk U up prom b (z_tk up prom ol σ o) ∧ (∀ k, k ≠ 11 → q_I h' s k = q_I h s k) ∧ ∀ k, 2 ≤ k → q_R h' s k = q_R h s k) := by
  refine q_CtK ok_X14_take (by omega) (Nat.le_of_ble_eq_true (by cases o <;> rfl)) ?_ _ rfl rfl
  cases o with
  | none => exact w_X14_take_N_0 (by omega) ⟨⟨by omega, by omega⟩, t, rfl, z_ch_refl _ _ _, hR, fun _ _ => rfl, fun _ _ => rfl⟩
  | some x =>
    have hUx := ho x rfl
    obtain ⟨r1, r2, r3, r4, r5, r6⟩ := id hR
    obtain ⟨⟨i1a, i1b⟩, ⟨i2a, i2b⟩, ⟨i3a, i3b⟩, i4, i5, i6⟩ := id hI
    have htU : ∀ y ∈ σ.2.2.1, U y := fun y hy => i4 y (i3a y hy)
    have hhU : ∀ y ∈ σ.1, U y := fun y hy => htU y (i1a y hy)
    have hlU : ∀ y ∈ σ.2.1, U y := fun y hy => (i2a y hy).1
    obtain ⟨xb, -, -⟩ := r1 x hUx
    have hsS : 400 ≤ s ∧ q_sh h s = (0, 12, 0) := ⟨z_4 r3.1.1, r3.2.1⟩
    have hxs : x ≠ s := fun e => r2 (by rw [← e]; exact hUx)
    by_cases hxo : x ∈ ol
    · by_cases hxt : x ∈ σ.2.2.1
      · have htk : z_tk up prom ol σ (some x) = σ := by rw [z_tk]; rw [if_neg (fun hc => hc.2 hxt)]
        refine w_X14_take_0 (by omega) ?_
        refine q_cI_of (fun y h' => y = (if x ∈ ol then 1 else 0) ∧ h' = h) (z_isIn (d := d - 1) (by omega) (by omega) hol (fun y hy => z_4 (r1 y (i4 y hy)).1.1.1) (z_4 xb.1.1)) (by omega) (q_lcle (by omega) (by omega)) (by omega) (by omega) trivial (fun y h1 hp => ?_)
        obtain ⟨p1, p2⟩ := hp
        rw [if_pos hxo] at p1
        subst p1 p2
        refine ⟨fun h0 => absurd h0 (by decide), fun _ => ?_⟩
        refine q_cI_of (fun y h' => y = (if x ∈ σ.2.2.1 then 1 else 0) ∧ h' = h1) (z_isIn (d := d - 1) (by omega) (by omega) r4 (fun y hy => z_4 (r1 y (htU y hy)).1.1.1) (z_4 xb.1.1)) (by omega) (q_lcle (by omega) (by omega)) (by omega) (by omega) trivial (fun y h2 hp => ?_)
        obtain ⟨p1, p2⟩ := hp
        rw [if_pos hxt] at p1
        subst p1 p2
        exact ⟨fun h0 => absurd h0 (by decide), fun _ => ⟨⟨by omega, by omega⟩, t, rfl, z_ch_refl _ _ _, by rw [htk]; exact hR, fun _ _ => rfl, fun _ _ => rfl⟩⟩
      · have hcond : x ∈ ol ∧ x ∉ σ.2.2.1 := ⟨hxo, hxt⟩
        have hxh : x ∉ σ.1 := fun hm => hxt (i1a x hm)
        have hxl : x ∉ σ.2.1 := fun hm => (i2a x hm).2.elim (fun z => hxt z) (fun z => z hxo)
        have hnd : ∀ {l : List Nat}, l.Nodup → x ∉ l → (l ++ [x]).Nodup := fun {l} hn hx => List.nodup_append.mpr ⟨hn, by simp, fun p hp q hq e => by
          rw [List.mem_singleton.mp hq] at e; rw [e] at hp; exact hx hp⟩
        have hlen : ∀ {l : List Nat}, l.Nodup → x ∉ l → (∀ y ∈ l, U y) → l.length + 1 ≤ B := fun {l} hn hx hu => by
          have := hB (l ++ [x]) (hnd hn hx) (fun y hy => by
            rcases List.mem_append.mp hy with hy | hy
            · exact hu y hy
            · rw [List.mem_singleton.mp hy]; exact hUx)
          rwa [List.length_append] at this
        have hlh := hlen i1b hxh hhU
        have hll := hlen i2b hxl hlU
        have hlt := hlen i3b hxt htU
        have fin : ∀ (h2 : q_H) (k n : Nat) (σ' : z_St), σ'.2.2.1 = σ.2.2.1 → z_tk up prom ol σ (some x) = (σ'.1, σ'.2.1, σ.2.2.1 ++ [x], σ'.2.2.2) → z_ch s U h h2 → z_Rc h2 s hk U up prom t σ' → (∀ k, k ≠ 11 → q_I h2 s k = q_I h s k) → (∀ k, 2 ≤ k → q_R h2 s k = q_R h s k) → k + 1 ≤ 3 → n + B ≤ 3 * B →
            q_K g m_X14_take [] d 3 (3 * B) h [] (fun o' h' => ∃ b, o' = .inl (some (.ref b)) ∧ z_ch s U h h' ∧ z_Rc h' s hk U up prom b (z_tk up prom ol σ (some x)) ∧ (∀ k, k ≠ 11 → q_I h' s k = q_I h s k) ∧ ∀ k, 2 ≤ k → q_R h' s k = q_R h s k) k n (62, [none, some (.ref t), none, some (.ref x), none], [], h2) := by
          intro h2 k n σ' e1 e2 hch hR2 hsI hsR hk3 hn3
          obtain ⟨q1, q2, q3, q4, q5, q6⟩ := id hR2
          rw [e1] at q4
          refine w_X14_take_62 (by omega) ?_
          refine q_cR_of (fun y h' => y = q_nx h2 ∧ q_nx h' = q_nx h2 + 1 ∧ z_ext h2 h' ∧ z_Ar h' y (σ.2.2.1 ++ [x])) (z_with (d := d - 1) (by omega) (by omega) q4 (fun y hy => (q1 y (htU y hy)).1) (q1 x hUx).1 (Nat.lt_of_le_of_lt hlt hBs)) (by omega) (q_lcle (by omega) (by omega)) (by omega) (by omega) trivial (fun y h3 hp => ?_)
          obtain ⟨p1, p2, p3, p4⟩ := hp
          have es := p3.2 s q3.1.2
          refine ⟨⟨by omega, by omega⟩, y, rfl, z_ch_trans hch (z_ch_ext p3), ?_, fun k hk => by rw [es.2.1]; exact hsI k hk, fun k hk => by rw [es.2.2.1]; exact hsR k hk⟩
          rw [e2]
          exact z_Rc_ext p3 hR2 p4
        have stay : ∀ (h2 : q_H) (k n : Nat), z_tk up prom ol σ (some x) = (σ.1 ++ [x], σ.2.1, σ.2.2.1 ++ [x], q_u2 (q_u2 σ.2.2.2.1 x 2 (z_sum (fun y => σ.2.2.2.1 y 0) σ.1)) x 1 (σ.2.2.2.1 x 1 + 1), σ.2.2.2.2) → z_ext h h2 → k + 2 ≤ 3 → n + B + B ≤ 3 * B →
            q_K g m_X14_take [] d 3 (3 * B) h [] (fun o' h' => ∃ b, o' = .inl (some (.ref b)) ∧ z_ch s U h h' ∧ z_Rc h' s hk U up prom b (z_tk up prom ol σ (some x)) ∧ (∀ k, k ≠ 11 → q_I h' s k = q_I h s k) ∧ ∀ k, 2 ≤ k → q_R h' s k = q_R h s k) k n (45, [some (.ref s), some (.ref t), none, some (.ref x), none], [], h2) := by
          intro h2 k n htk he hk3 hn3
          obtain ⟨w1, w2, w3, w4, w5, w6⟩ := z_Rc_ext he hR (z_Ar_ext he r4)
          obtain ⟨xb2, -, -⟩ := w1 x hUx
          obtain ⟨y1, y2, ⟨c, c1, c2⟩, y4, y5⟩ := id w3
          have hsS2 : 400 ≤ s ∧ q_sh h2 s = (0, 12, 0) := ⟨z_4 y1.1, y2⟩
          have hxB : 400 ≤ x ∧ q_sh h2 x = (0, 11, 0) := ⟨z_4 xb2.1.1, xb2.2⟩
          refine w_X14_take_45 (by omega) ⟨hsS2, c, c1, ?_⟩
          refine q_cI_of (fun y h' => y = z_sum (fun x => q_I h2 x 0) σ.1 ∧ h' = h2) (z_used (d := d - 1) (by omega) (by omega) c2 (fun y hy => (w1 y (hhU y hy)).1)) (by omega) (q_lcle (by omega) (by omega)) (by omega) (by omega) trivial (fun y h3 hp => ?_)
          obtain ⟨p1, p2⟩ := hp
          subst p2
          have hsum : z_sum (fun x => q_I h3 x 0) σ.1 = z_sum (fun y => σ.2.2.2.1 y 0) σ.1 := by
            have : ∀ l : List Nat, (∀ y ∈ l, U y) → z_sum (fun x => q_I h3 x 0) l = z_sum (fun y => σ.2.2.2.1 y 0) l := by
              intro l
              induction l with
              | nil => intro _; rfl
              | cons z t ih =>
                intro hu
                show q_I h3 z 0 + _ = σ.2.2.2.1 z 0 + _
                rw [w5 z (hu z List.mem_cons_self) 0 (by decide), ih (fun y hy => hu y (List.mem_cons_of_mem _ hy))]
            exact this _ hhU
          refine ⟨hxB, hxB, hxB, hsS2, c, c1, ?_⟩
          refine q_cR_of (fun y' h' => y' = q_nx h3 ∧ q_nx h' = q_nx h3 + 1 ∧ z_ext (q_pI (q_pI h3 x 2 y) x 1 (q_I (q_pI h3 x 2 y) x 1 + 1)) h' ∧ z_Ar h' y' (σ.1 ++ [x])) (z_with (h := q_pI (q_pI h3 x 2 y) x 1 (q_I (q_pI h3 x 2 y) x 1 + 1)) (d := d - 1) (by omega) (by omega) c2 (fun y hy => (w1 y (hhU y hy)).1) xb2 (Nat.lt_of_le_of_lt hlh hBs)) (by omega) (q_lcle (by omega) (by omega)) (by omega) (by omega) trivial (fun y' h4 hp => ?_)
          obtain ⟨p3, p4, p5, p6⟩ := hp
          have w5' : ∀ z, U z → ∀ j, j < 4 → q_I (q_pI (q_pI h3 x 2 y) x 1 (q_I (q_pI h3 x 2 y) x 1 + 1)) z j = q_u2 (q_u2 σ.2.2.2.1 x 2 (z_sum (fun y => σ.2.2.2.1 y 0) σ.1)) x 1 (σ.2.2.2.1 x 1 + 1) z j := by
            intro z hz j hj
            show q_u2 (q_u2 (q_I h3) x 2 y) x 1 (q_u2 (q_I h3) x 2 y x 1 + 1) z j = _
            rw [q_u2_of, q_u2_of, q_u2_of, q_u2_of, q_u2_of, w5 z hz j hj, w5 x hUx 1 (by decide), p1, hsum]
            simp
          have hsI5 : q_I (q_pI (q_pI h3 x 2 y) x 1 (q_I (q_pI h3 x 2 y) x 1 + 1)) s = q_I h3 s := by rw [z_I_a _ _ _ _ _ hxs.symm, z_I_a _ _ _ _ _ hxs.symm]
          have hRm : z_Rc (q_pI (q_pI h3 x 2 y) x 1 (q_I (q_pI h3 x 2 y) x 1 + 1)) s hk U up prom t (σ.1, σ.2.1, σ.2.2.1, q_u2 (q_u2 σ.2.2.2.1 x 2 (z_sum (fun y => σ.2.2.2.1 y 0) σ.1)) x 1 (σ.2.2.2.1 x 1 + 1), σ.2.2.2.2) :=
            ⟨w1, w2, w3, w4, w5', by rw [hsI5]; exact w6⟩
          have hR4 := z_Rc_ext p5 hRm (z_Ar_ext p5 w4)
          obtain ⟨v1, v2, v3, v4, v5, v6⟩ := id hR4
          have es := p5.2 s w3.1.2
          refine ⟨⟨z_4 v3.1.1, v3.2.1⟩, ?_⟩
          refine fin _ _ _ (σ.1 ++ [x], σ.2.1, σ.2.2.1, q_u2 (q_u2 σ.2.2.2.1 x 2 (z_sum (fun y => σ.2.2.2.1 y 0) σ.1)) x 1 (σ.2.2.2.1 x 1 + 1), σ.2.2.2.2) rfl htk (z_ch_pRs (z_ch_trans (z_ch_trans (z_ch_ext he) (z_ch_trans (z_ch_pIb hUx) (z_ch_pIb hUx))) (z_ch_ext p5)) (by rw [p3]; exact he.1)) ⟨z_Wf_pRs v3.2.1 v2 v1, v2, z_Sim_pRs0 v3 p6, z_Ar_pRs v3.2.1 v4, v5, v6⟩ (fun k hk => ?_) (fun k hk => ?_) (by omega) (by omega)
          · show q_I h4 s k = _
            rw [es.2.1, hsI5, (he.2 s r3.1.2).2.1]
          · rw [z_R_j _ _ _ _ _ (by omega), es.2.2.1]
            exact congrFun (he.2 s r3.1.2).2.2.1 k
        have prm : ∀ (h2 : q_H) (k n : Nat) (v : Int32), ¬ v < 0 → z_tk up prom ol σ (some x) = (σ.1, σ.2.1 ++ [x], σ.2.2.1 ++ [x], q_u2 (q_u2 σ.2.2.2.1 x 2 v) x 3 1, σ.2.2.2.2 + 1) → z_ext h h2 → k + 2 ≤ 3 → n + B + B ≤ 3 * B →
            q_K g m_X14_take [] d 3 (3 * B) h [] (fun o' h' => ∃ b, o' = .inl (some (.ref b)) ∧ z_ch s U h h' ∧ z_Rc h' s hk U up prom b (z_tk up prom ol σ (some x)) ∧ (∀ k, k ≠ 11 → q_I h' s k = q_I h s k) ∧ ∀ k, 2 ≤ k → q_R h' s k = q_R h s k) k n (24, [some (.ref s), some (.ref t), none, some (.ref x), some (.int v)], [], h2) := by
          intro h2 k n v hv htk he hk3 hn3
          obtain ⟨w1, w2, w3, w4, w5, w6⟩ := z_Rc_ext he hR (z_Ar_ext he r4)
          obtain ⟨xb2, -, -⟩ := w1 x hUx
          obtain ⟨y1, y2, y3, ⟨c, c1, c2⟩, y5⟩ := id w3
          have hsS2 : 400 ≤ s ∧ q_sh h2 s = (0, 12, 0) := ⟨z_4 y1.1, y2⟩
          have hxB : 400 ≤ x ∧ q_sh h2 x = (0, 11, 0) := ⟨z_4 xb2.1.1, xb2.2⟩
          refine w_X14_take_24 (by omega) ⟨fun hlt => absurd hlt hv, fun _ => ⟨hxB, hxB, rfl, hsS2, c, c1, ?_⟩⟩
          refine q_cR_of (fun y' h' => y' = q_nx h2 ∧ q_nx h' = q_nx h2 + 1 ∧ z_ext (q_pI (q_pI h2 x 2 v) x 3 1) h' ∧ z_Ar h' y' (σ.2.1 ++ [x])) (z_with (h := q_pI (q_pI h2 x 2 v) x 3 1) (d := d - 1) (by omega) (by omega) c2 (fun y hy => (w1 y (hlU y hy)).1) xb2 (Nat.lt_of_le_of_lt hll hBs)) (by omega) (q_lcle (by omega) (by omega)) (by omega) (by omega) trivial (fun y' h4 hp => ?_)
          obtain ⟨p3, p4, p5, p6⟩ := hp
          have w5' : ∀ z, U z → ∀ j, j < 4 → q_I (q_pI (q_pI h2 x 2 v) x 3 1) z j = q_u2 (q_u2 σ.2.2.2.1 x 2 v) x 3 1 z j := by
            intro z hz j hj
            show q_u2 (q_u2 (q_I h2) x 2 v) x 3 1 z j = _
            rw [q_u2_of, q_u2_of, q_u2_of, q_u2_of, w5 z hz j hj]
          have hsI5 : q_I (q_pI (q_pI h2 x 2 v) x 3 1) s = q_I h2 s := by rw [z_I_a _ _ _ _ _ hxs.symm, z_I_a _ _ _ _ _ hxs.symm]
          have hRm : z_Rc (q_pI (q_pI h2 x 2 v) x 3 1) s hk U up prom t (σ.1, σ.2.1, σ.2.2.1, q_u2 (q_u2 σ.2.2.2.1 x 2 v) x 3 1, σ.2.2.2.2) :=
            ⟨w1, w2, w3, w4, w5', by rw [hsI5]; exact w6⟩
          have hR4 := z_Rc_ext p5 hRm (z_Ar_ext p5 w4)
          obtain ⟨v1, v2, v3, v4, v5, v6⟩ := id hR4
          have es := p5.2 s w3.1.2
          have hs4 : 400 ≤ s ∧ q_sh h4 s = (0, 12, 0) := ⟨z_4 v3.1.1, v3.2.1⟩
          refine ⟨hs4, hs4, hs4, ?_⟩
          have e11 : q_I (q_pR h4 s 1 (some y')) s 11 = σ.2.2.2.2 := v6.1
          refine fin _ _ _ (σ.1, σ.2.1 ++ [x], σ.2.2.1, q_u2 (q_u2 σ.2.2.2.1 x 2 v) x 3 1, σ.2.2.2.2 + 1) rfl htk (z_ch_trans (z_ch_pRs (z_ch_trans (z_ch_trans (z_ch_ext he) (z_ch_trans (z_ch_pIb hUx) (z_ch_pIb hUx))) (z_ch_ext p5)) (by rw [p3]; exact he.1)) z_ch_pIs) ⟨z_Wf_pRs v3.2.1 v2 v1, v2, z_Sim_pRs1 v3 p6, z_Ar_pRs v3.2.1 v4, fun z hz j hj => ?_, ?_, ?_, ?_⟩ (fun k hk => ?_) (fun k hk => ?_) (by omega) (by omega)
          · have hzs : z ≠ s := fun e => r2 (by rw [← e]; exact hz)
            rw [z_I_a _ _ _ _ _ hzs]
            exact v5 z hz j hj
          · rw [e11, z_I_s]
          · rw [e11, z_I_j _ _ _ _ _ (by decide)]; exact v6.2.1
          · rw [e11, z_I_j _ _ _ _ _ (by decide)]; exact v6.2.2
          · rw [z_I_j _ _ _ _ _ hk]
            show q_I h4 s k = _
            rw [es.2.1, hsI5, (he.2 s r3.1.2).2.1]
          · show q_R (q_pR h4 s 1 (some y')) s k = _
            rw [z_R_j _ _ _ _ _ (by omega), es.2.2.1]
            exact congrFun (he.2 s r3.1.2).2.2.1 k
        have go24 : ∀ (h2 : q_H) (k n : Nat) (v : Int32), v = (if σ.2.2.2.1 x 1 < prom then -1 else z_gf σ.2.1 σ.2.2.2.1 up (σ.2.2.2.1 x 0)) → z_ext h h2 → k + 2 ≤ 3 → n + B + B ≤ 3 * B →
            q_K g m_X14_take [] d 3 (3 * B) h [] (fun o' h' => ∃ b, o' = .inl (some (.ref b)) ∧ z_ch s U h h' ∧ z_Rc h' s hk U up prom b (z_tk up prom ol σ (some x)) ∧ (∀ k, k ≠ 11 → q_I h' s k = q_I h s k) ∧ ∀ k, 2 ≤ k → q_R h' s k = q_R h s k) k n (24, [some (.ref s), some (.ref t), none, some (.ref x), some (.int v)], [], h2) := by
          intro h2 k n v hv he hk3 hn3
          by_cases hv0 : v < 0
          · have htk : z_tk up prom ol σ (some x) = (σ.1 ++ [x], σ.2.1, σ.2.2.1 ++ [x], q_u2 (q_u2 σ.2.2.2.1 x 2 (z_sum (fun y => σ.2.2.2.1 y 0) σ.1)) x 1 (σ.2.2.2.1 x 1 + 1), σ.2.2.2.2) := by
              rw [z_tk]
              rw [if_pos hcond, if_neg (by rw [← hv]; exact fun h => h hv0)]
            exact w_X14_take_24 (by omega) ⟨fun _ => stay h2 k n htk he hk3 hn3, fun h => absurd hv0 h⟩
          · refine prm h2 k n v hv0 ?_ he hk3 hn3
            have hage : ¬ σ.2.2.2.1 x 1 < prom := fun hlt => hv0 (by rw [hv, if_pos hlt]; decide)
            rw [if_neg hage] at hv
            rw [z_tk]
            rw [if_pos hcond, if_neg hage, ← hv, if_pos hv0]
        obtain ⟨z, z0, z1, z2⟩ := i6 x hUx
        refine w_X14_take_0 (by omega) ?_
        refine q_cI_of (fun y h' => y = (if x ∈ ol then 1 else 0) ∧ h' = h) (z_isIn (d := d - 1) (by omega) (by omega) hol (fun y hy => z_4 (r1 y (i4 y hy)).1.1.1) (z_4 xb.1.1)) (by omega) (q_lcle (by omega) (by omega)) (by omega) (by omega) trivial (fun y h1 hp => ?_)
        obtain ⟨p1, p2⟩ := hp
        rw [if_pos hxo] at p1
        subst p1 p2
        refine ⟨fun h0 => absurd h0 (by decide), fun _ => ?_⟩
        refine q_cI_of (fun y h' => y = (if x ∈ σ.2.2.1 then 1 else 0) ∧ h' = h1) (z_isIn (d := d - 1) (by omega) (by omega) r4 (fun y hy => z_4 (r1 y (htU y hy)).1.1.1) (z_4 xb.1.1)) (by omega) (q_lcle (by omega) (by omega)) (by omega) (by omega) trivial (fun y h2 hp => ?_)
        obtain ⟨p1, p2⟩ := hp
        rw [if_neg hxt] at p1
        subst p1 p2
        refine ⟨fun _ => ⟨⟨z_4 xb.1.1, xb.2⟩, hsS, fun hle => ⟨⟨z_4 xb.1.1, xb.2⟩, hsS, ?_⟩, fun hnle => ?_⟩, fun h0 => absurd rfl h0⟩
        · rw [r6.2.2, r5 x hUx 1 (by decide)] at hle
          rw [r5 x hUx 0 (by decide)]
          refine q_cI_of (fun y h' => y = z_gf σ.2.1 σ.2.2.2.1 up (σ.2.2.2.1 x 0) ∧ z_ext h2 h') (z_gapC (d := d - 1) (by omega) (by omega) r3 (fun y hy => (r1 y (hlU y hy)).1) r6.2.1 hup (z_gf_ext hR hI hup) (by rw [z2]; exact nI_pos' (by omega))) (by omega) (q_lcle (by omega) (by omega)) (by omega) (by omega) trivial (fun y h3 hp => ?_)
          refine go24 h3 _ _ y ?_ hp.2 (by omega) (by omega)
          rw [if_neg (Int32.not_lt.mpr hle)]
          exact hp.1
        · rw [r6.2.2, r5 x hUx 1 (by decide)] at hnle
          refine go24 h2 _ _ _ ?_ (z_ext_refl _) (by omega) (by omega)
          rw [if_pos (Int32.not_le.mp hnle)]
    · have htk : z_tk up prom ol σ (some x) = σ := by rw [z_tk]; rw [if_neg (fun hc => hxo hc.1)]
      refine w_X14_take_0 (by omega) ?_
      refine q_cI_of (fun y h' => y = (if x ∈ ol then 1 else 0) ∧ h' = h) (z_isIn (d := d - 1) (by omega) (by omega) hol (fun y hy => z_4 (r1 y (i4 y hy)).1.1.1) (z_4 xb.1.1)) (by omega) (q_lcle (by omega) (by omega)) (by omega) (by omega) trivial (fun y h1 hp => ?_)
      obtain ⟨p1, p2⟩ := hp
      rw [if_neg hxo] at p1
      subst p1 p2
      exact ⟨fun _ => ⟨⟨by omega, by omega⟩, t, rfl, z_ch_refl _ _ _, by rw [htk]; exact hR, fun _ _ => rfl, fun _ _ => rfl⟩, fun h0 => absurd rfl h0⟩
end ZTAKE
