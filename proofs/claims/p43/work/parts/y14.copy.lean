/-! CONTRACTS of the law's barn, five: a copying -/
theorem z_len : ∀ (l m : List Nat), l.Nodup → (∀ x ∈ l, x ∈ m) → l.length ≤ m.length
  | [], _, _, _ => Nat.zero_le _
  | x :: t, m, hn, hs => by
    have hx : x ∈ m := hs x List.mem_cons_self
    have h1 := z_len t (m.erase x) (List.nodup_cons.mp hn).2 (fun y hy => (List.mem_erase_of_ne (fun e => (List.nodup_cons.mp hn).1 (by rw [← e]; exact hy))).mpr (hs y (List.mem_cons_of_mem _ hy)))
    have h2 := List.length_erase_of_mem hx
    have h3 := List.length_pos_of_mem hx
    show t.length + 1 ≤ m.length
    omega
section ZCOPY
variable {g : q_G} {d mc ms : Nat} {h h' h1 : q_H} {s t a : Nat} {hk : List (Option Nat)} {U : Nat → Prop} {B up : Nat} {prom : Int32} {ol : List Nat} {σ : z_St}
theorem z_tk_yes {x : Nat} (hc : x ∈ ol ∧ x ∉ σ.2.2.1) :
    (¬ σ.2.2.2.1 x 1 < prom ∧ ¬ z_gf σ.2.1 σ.2.2.2.1 up (σ.2.2.2.1 x 0) < 0 ∧ z_tk up prom ol σ (some x) = (σ.1, σ.2.1 ++ [x], σ.2.2.1 ++ [x], q_u2 (q_u2 σ.2.2.2.1 x 2 (z_gf σ.2.1 σ.2.2.2.1 up (σ.2.2.2.1 x 0))) x 3 1, σ.2.2.2.2 + 1)) ∨
    z_tk up prom ol σ (some x) = (σ.1 ++ [x], σ.2.1, σ.2.2.1 ++ [x], q_u2 (q_u2 σ.2.2.2.1 x 2 (z_sum (fun y => σ.2.2.2.1 y 0) σ.1)) x 1 (σ.2.2.2.1 x 1 + 1), σ.2.2.2.2) := by
  rw [z_tk, if_pos hc]
  by_cases hg : ¬ (if σ.2.2.2.1 x 1 < prom then -1 else z_gf σ.2.1 σ.2.2.2.1 up (σ.2.2.2.1 x 0)) < 0
  · rw [if_pos hg]
    have hg1 : ¬ σ.2.2.2.1 x 1 < prom := fun hlt => hg (by rw [if_pos hlt]; decide)
    rw [if_neg hg1] at hg
    exact Or.inl ⟨hg1, hg, rfl⟩
  · rw [if_neg hg]
    exact Or.inr rfl
theorem z_Iv_tk {o : Option Nat} (hI : z_Iv U up ol σ) (hup : up < 65536) : z_Iv U up ol (z_tk up prom ol σ o) := by
  cases o with
  | none => exact hI
  | some x =>
    by_cases hc : x ∈ ol ∧ x ∉ σ.2.2.1
    · have htk := z_tk_yes (up := up) (prom := prom) hc
      obtain ⟨hxo, hxt⟩ := hc
      obtain ⟨⟨i1a, i1b⟩, ⟨i2a, i2b⟩, ⟨i3a, i3b⟩, i4, i5, i6⟩ := id hI
      have hxh : x ∉ σ.1 := fun hm => hxt (i1a x hm)
      have hxl : x ∉ σ.2.1 := fun hm => (i2a x hm).2.elim (fun z => hxt z) (fun z => z hxo)
      have hnd : ∀ {l : List Nat}, l.Nodup → x ∉ l → (l ++ [x]).Nodup := fun {l} hn hx => List.nodup_append.mpr ⟨hn, by simp, fun p hp q hq e => by
        rw [List.mem_singleton.mp hq] at e; rw [e] at hp; exact hx hp⟩
      have hap : ∀ {l : List Nat} {y : Nat}, y ∈ l ++ [x] → y ∈ l ∨ y = x := fun {l y} hy => (List.mem_append.mp hy).imp id List.mem_singleton.mp
      have hself : x ∈ σ.2.2.1 ++ [x] := List.mem_append_right _ List.mem_cons_self
      have i3a' : ∀ y ∈ σ.2.2.1 ++ [x], y ∈ ol := fun y hy => (hap hy).elim (i3a y) (fun e => by rw [e]; exact hxo)
      have hUx := i4 x hxo
      obtain ⟨z, z0, z1, z2⟩ := i6 x hUx
      rcases htk with ⟨hg1, hg, htk⟩ | htk
      · rw [htk]
        have hgood : z_gf σ.2.1 σ.2.2.2.1 up (σ.2.2.2.1 x 0) = -1 ∨ ∃ c, z_gf σ.2.1 σ.2.2.2.1 up (σ.2.2.2.1 x 0) = nI c ∧ c + z ≤ up := by
          unfold z_gf
          rw [z2]
          rcases z_gap_good (e := z_emp (fun x => (σ.2.2.2.1 x 2).toNatClampNeg) (fun x => (σ.2.2.2.1 x 0).toNatClampNeg) σ.2.1) z0 hup z1 with h | ⟨c, h1, h2, -⟩
          · exact Or.inl h
          · exact Or.inr ⟨c, h1, h2⟩
        rcases hgood with hgd | ⟨c, hc1, hc2⟩
        · rw [hgd] at hg
          exact absurd (by decide) hg
        · refine ⟨⟨fun y hy => List.mem_append_left _ (i1a y hy), i1b⟩, ⟨fun y hy => ?_, hnd i2b hxl⟩, ⟨i3a', hnd i3b hxt⟩, i4, fun y hy => ?_, fun y hy => ?_⟩
          · rcases hap hy with hy | hy
            · exact ⟨(i2a y hy).1, (i2a y hy).2.imp (fun m => List.mem_append_left _ m) id⟩
            · rw [hy]; exact ⟨hUx, Or.inl hself⟩
          · rcases hap hy with hy | hy
            · have hne : y ≠ x := fun e => hxl (by rw [← e]; exact hy)
              show ∃ p z, q_u2 (q_u2 σ.2.2.2.1 x 2 _) x 3 1 y 2 = nI p ∧ q_u2 (q_u2 σ.2.2.2.1 x 2 _) x 3 1 y 0 = nI z ∧ p + z ≤ up
              rw [q_u2_row _ _ _ _ _ hne, q_u2_row _ _ _ _ _ hne]
              exact i5 y hy
            · subst hy
              refine ⟨c, z, ?_, ?_, hc2⟩
              · show q_u2 (q_u2 σ.2.2.2.1 y 2 _) y 3 1 y 2 = nI c
                rw [q_u2_j _ _ _ _ _ _ (by decide), q_u2_s, hc1]
              · show q_u2 (q_u2 σ.2.2.2.1 y 2 _) y 3 1 y 0 = nI z
                rw [q_u2_j _ _ _ _ _ _ (by decide), q_u2_j _ _ _ _ _ _ (by decide), z2]
          · show ∃ z, 0 < z ∧ z < 65536 ∧ q_u2 (q_u2 σ.2.2.2.1 x 2 _) x 3 1 y 0 = nI z
            rw [q_u2_j _ _ _ _ _ _ (by decide), q_u2_j _ _ _ _ _ _ (by decide)]
            exact i6 y hy
      · rw [htk]
        refine ⟨⟨fun y hy => (hap hy).elim (fun m => List.mem_append_left _ (i1a y m)) (fun e => by rw [e]; exact hself), hnd i1b hxh⟩, ⟨fun y hy => ⟨(i2a y hy).1, (i2a y hy).2.imp (fun m => List.mem_append_left _ m) id⟩, i2b⟩, ⟨i3a', hnd i3b hxt⟩, i4, fun y hy => ?_, fun y hy => ?_⟩
        · have hne : y ≠ x := fun e => hxl (by rw [← e]; exact hy)
          show ∃ p z, q_u2 (q_u2 σ.2.2.2.1 x 2 _) x 1 _ y 2 = nI p ∧ q_u2 (q_u2 σ.2.2.2.1 x 2 _) x 1 _ y 0 = nI z ∧ p + z ≤ up
          rw [q_u2_row _ _ _ _ _ hne, q_u2_row _ _ _ _ _ hne]
          exact i5 y hy
        · show ∃ z, 0 < z ∧ z < 65536 ∧ q_u2 (q_u2 σ.2.2.2.1 x 2 _) x 1 _ y 0 = nI z
          rw [q_u2_j _ _ _ _ _ _ (by decide), q_u2_j _ _ _ _ _ _ (by decide)]
          exact i6 y hy
    · rw [z_tk, if_neg hc]; exact hI
theorem z_tk_len {o : Option Nat} : (z_tk up prom ol σ o).2.2.1 = (match o with | none => σ.2.2.1 | some x => if x ∈ ol ∧ x ∉ σ.2.2.1 then σ.2.2.1 ++ [x] else σ.2.2.1) := by
  cases o with
  | none => rfl
  | some x =>
    show _ = (if x ∈ ol ∧ x ∉ σ.2.2.1 then σ.2.2.1 ++ [x] else σ.2.2.1)
    by_cases hc : x ∈ ol ∧ x ∉ σ.2.2.1
    · rw [if_pos hc]
      rcases z_tk_yes (up := up) (prom := prom) hc with ⟨-, -, e⟩ | e
      · rw [e]
      · rw [e]
    · rw [if_neg hc, z_tk, if_neg hc]
theorem z_Iv_le (hI : z_Iv U up ol σ) : σ.2.2.1.length ≤ ol.length := z_len _ _ hI.2.2.1.2 hI.2.2.1.1
/-- none is taken: null, or not of the old half, or taken already -/
theorem z_takeN {o : Option Nat} (hd : 3 ≤ d) (hd2 : d < 2048) (hR : z_Rc h s hk U up prom t σ) (hI : z_Iv U up ol σ) (hol : z_Ar h a ol) (ho : ∀ x, o = some x → U x) (hno : ∀ x, o = some x → ¬ (x ∈ ol ∧ x ∉ σ.2.2.1)) :
    q_Ct g m_X14_take d 0 0 [] [.ref s, .ref t, .ref a, va_rf o] h (fun o' h' => ∃ b, o' = .inl (some (.ref b)) ∧ b = t ∧ h' = h) := by
  refine q_CtK ok_X14_take (by omega) (Nat.le_of_ble_eq_true (by cases o <;> rfl)) ?_ _ rfl rfl
  cases o with
  | none => exact w_X14_take_N_0 (by omega) ⟨⟨by omega, by omega⟩, t, rfl, rfl, rfl⟩
  | some x =>
    have hUx := ho x rfl
    obtain ⟨r1, r2, r3, r4, r5, r6⟩ := id hR
    obtain ⟨-, -, ⟨i3a, -⟩, i4, -, -⟩ := id hI
    have htU : ∀ y ∈ σ.2.2.1, U y := fun y hy => i4 y (i3a y hy)
    obtain ⟨xb, -, -⟩ := r1 x hUx
    refine w_X14_take_0 (by omega) ?_
    refine q_cI_of (fun y h' => y = (if x ∈ ol then 1 else 0) ∧ h' = h) (z_isIn (d := d - 1) (by omega) (by omega) hol (fun y hy => z_4 (r1 y (i4 y hy)).1.1.1) (z_4 xb.1.1)) (by omega) (q_lcle (by omega) (by omega)) (by omega) (by omega) trivial (fun y h1 hp => ?_)
    obtain ⟨p1, p2⟩ := hp
    by_cases hxo : x ∈ ol
    · rw [if_pos hxo] at p1
      subst p1 p2
      refine ⟨fun h0 => absurd h0 (by decide), fun _ => ?_⟩
      have hxt : x ∈ σ.2.2.1 := Classical.byContradiction fun hn => hno x rfl ⟨hxo, hn⟩
      refine q_cI_of (fun y h' => y = (if x ∈ σ.2.2.1 then 1 else 0) ∧ h' = h1) (z_isIn (d := d - 1) (by omega) (by omega) r4 (fun y hy => z_4 (r1 y (htU y hy)).1.1.1) (z_4 xb.1.1)) (by omega) (q_lcle (by omega) (by omega)) (by omega) (by omega) trivial (fun y h2 hp => ?_)
      obtain ⟨p1, p2⟩ := hp
      rw [if_pos hxt] at p1
      subst p1 p2
      exact ⟨fun h0 => absurd h0 (by decide), fun _ => ⟨⟨by omega, by omega⟩, t, rfl, rfl, rfl⟩⟩
    · rw [if_neg hxo] at p1
      subst p1 p2
      exact ⟨fun _ => ⟨⟨by omega, by omega⟩, t, rfl, rfl, rfl⟩, fun h0 => absurd rfl h0⟩
/-- what holds all through a copying that began at h -/
def z_Lp (h h1 : q_H) (s : Nat) (hk : List (Option Nat)) (U : Nat → Prop) (up : Nat) (prom : Int32) (ol : List Nat) (t : Nat) (σ : z_St) : Prop :=
  z_ch s U h h1 ∧ z_Rc h1 s hk U up prom t σ ∧ z_Iv U up ol σ ∧ (∀ k, k ≠ 11 → q_I h1 s k = q_I h s k) ∧ ∀ k, 2 ≤ k → q_R h1 s k = q_R h s k
theorem z_Ar_ch {l : List Nat} (hs : q_sh h s = (0, 12, 0)) (c : z_ch s U h h1) (ha : z_Ar h a l) : z_Ar h1 a l := by
  obtain ⟨⟨a1, a2⟩, a3, a4, a5⟩ := ha
  obtain ⟨c1, -, -, c4, -⟩ := c.2 a a2
  exact ⟨⟨a1, Nat.lt_of_lt_of_le a2 c.1⟩, c1.trans a3, a4, fun i x hx => by rw [c4 (z_ne_s hs a3)]; exact a5 i x hx⟩
theorem z_Ao_ch {l : List (Option Nat)} (hs : q_sh h s = (0, 12, 0)) (c : z_ch s U h h1) (ha : z_Ao h a l) : z_Ao h1 a l := by
  obtain ⟨⟨a1, a2⟩, a3, a4, a5⟩ := ha
  obtain ⟨c1, -, -, c4, -⟩ := c.2 a a2
  exact ⟨⟨a1, Nat.lt_of_lt_of_le a2 c.1⟩, c1.trans a3, a4, fun i x hx => by rw [c4 (z_ne_s hs a3)]; exact a5 i x hx⟩
/-- a bale's ropes lie where they lay -/
theorem z_rp_ch {x : Nat} (hs : q_sh h s = (0, 12, 0)) (hu : ¬ U s) (c : z_ch s U h h1) (hW : z_Wf h U) (hx : U x) : z_ra h1 x = z_ra h x ∧ z_rl h1 x = z_rl h x ∧ q_R h1 (z_ra h x) = q_R h (z_ra h x) ∧ z_rp h1 x = z_rp h x := by
  obtain ⟨⟨b1, b2⟩, ⟨r1, r2, r3, r4⟩, -⟩ := hW x hx
  have hxs : x ≠ s := fun e => hu (by rw [← e]; exact hx)
  have e1 : z_ra h1 x = z_ra h x := by
    unfold z_ra
    rw [(c.2 x b1.2).2.2.2.1 hxs]
  have e3 : q_R h1 (z_ra h x) = q_R h (z_ra h x) := (c.2 _ r2.2).2.2.2.1 (z_ne_s hs r3)
  have e2 : z_rl h1 x = z_rl h x := by
    unfold z_rl
    rw [e1, (c.2 _ r2.2).1]
  exact ⟨e1, e2, e3, by unfold z_rp; rw [e2, e1, e3]⟩
/-- one taking in a copying -/
theorem z_tkC {o : Option Nat} {K N : Nat} (F : Nat → q_H → Nat → Nat → Prop) (hd : 4 ≤ d) (hd2 : d < 2048) (hs : q_sh h s = (0, 12, 0)) (hL : z_Lp h h1 s hk U up prom ol t σ) (hol : z_Ar h a ol) (ho : ∀ x, o = some x → U x) (hup : up < 65536) (hupB : up ≤ B) (hB : ∀ l : List Nat, l.Nodup → (∀ x ∈ l, U x) → l.length ≤ B) (hBs : q_s16 B)
    (hmc : K + 3 * ol.length ≤ mc) (hms : N + 3 * B * ol.length ≤ ms)
    (hF : ∀ t' h', z_Lp h h' s hk U up prom ol t' (z_tk up prom ol σ o) → F t' h' (K + 3 * (z_tk up prom ol σ o).2.2.1.length) (N + 3 * B * (z_tk up prom ol σ o).2.2.1.length)) :
    (∀ b3, o = some b3 → ((400 ≤ s ∧ q_sh h1 s = (0, 12, 0)) ∧ q_cR g m_X14_take [] d mc ms [.ref s, .ref t, .ref a, .ref b3] h1 (K + 3 * σ.2.2.1.length) (N + 3 * B * σ.2.2.1.length) True (fun k n b h' => F b h' k n))) ∧
    (o = none → ((400 ≤ s ∧ q_sh h1 s = (0, 12, 0)) ∧ q_cR g m_X14_take [] d mc ms [.ref s, .ref t, .ref a, .null] h1 (K + 3 * σ.2.2.1.length) (N + 3 * B * σ.2.2.1.length) True (fun k n b h' => F b h' k n))) := by
  obtain ⟨l1, l2, l3, l4, l5⟩ := id hL
  have hol1 := z_Ar_ch hs l1 hol
  have hI2 := z_Iv_tk (prom := prom) (o := o) l3 hup
  have hle := z_Iv_le hI2
  have main : (400 ≤ s ∧ q_sh h1 s = (0, 12, 0)) ∧ q_cR g m_X14_take [] d mc ms [.ref s, .ref t, .ref a, va_rf o] h1 (K + 3 * σ.2.2.1.length) (N + 3 * B * σ.2.2.1.length) True (fun k n b h' => F b h' k n) := by
    refine ⟨⟨z_4 l2.2.2.1.1.1, l2.2.2.1.2.1⟩, ?_⟩
    by_cases hc : ∃ x, o = some x ∧ x ∈ ol ∧ x ∉ σ.2.2.1
    · obtain ⟨x, rfl, hx⟩ := hc
      have hlen : (z_tk up prom ol σ (some x)).2.2.1.length = σ.2.2.1.length + 1 := by
        rw [z_tk_len]
        show (if x ∈ ol ∧ x ∉ σ.2.2.1 then σ.2.2.1 ++ [x] else σ.2.2.1).length = _
        rw [if_pos hx, List.length_append]
        rfl
      rw [hlen] at hle hF
      have h5 : 3 * B * (σ.2.2.1.length + 1) ≤ 3 * B * ol.length := Nat.mul_le_mul_left _ hle
      rw [Nat.mul_succ] at h5
      refine q_cR_of (fun b h' => z_ch s U h1 h' ∧ z_Rc h' s hk U up prom b (z_tk up prom ol σ (some x)) ∧ (∀ k, k ≠ 11 → q_I h' s k = q_I h1 s k) ∧ ∀ k, 2 ≤ k → q_R h' s k = q_R h1 s k) (z_takeC (d := d - 1) (B := B) (by omega) (by omega) l2 l3 hol1 ho hup hupB hB hBs) (by omega) (q_lcle (by omega) (by omega)) (by omega) (by omega) trivial (fun b h' hp => ?_)
      obtain ⟨p1, p2, p3, p4⟩ := hp
      have := hF b h' ⟨z_ch_trans l1 p1, p2, hI2, fun k hk => (p3 k hk).trans (l4 k hk), fun k hk => (p4 k hk).trans (l5 k hk)⟩
      rw [Nat.mul_succ, Nat.mul_succ, ← Nat.add_assoc, ← Nat.add_assoc] at this
      exact this
    · have hno : ∀ x, o = some x → ¬ (x ∈ ol ∧ x ∉ σ.2.2.1) := fun x e hx => hc ⟨x, e, hx⟩
      have htk : z_tk up prom ol σ o = σ := by
        cases o with
        | none => rfl
        | some x => rw [z_tk]; rw [if_neg (hno x rfl)]
      rw [htk] at hF hle
      have h5 : 3 * B * σ.2.2.1.length ≤ 3 * B * ol.length := Nat.mul_le_mul_left _ hle
      refine q_cR_of (fun b h' => b = t ∧ h' = h1) (z_takeN (d := d - 1) (by omega) (by omega) l2 l3 hol1 ho hno) (by omega) (q_lcle (by omega) (by omega)) (by omega) (by omega) trivial (fun b h' hp => ?_)
      obtain ⟨p1, p2⟩ := hp
      subst p1 p2
      exact hF _ _ hL
  refine ⟨fun b3 e => ?_, fun e => ?_⟩
  · subst e; exact main
  · subst e; exact main
/-- a bale of the loft is looked at: by its place -/
def z_cw (rp : Nat → List (Option Nat)) (up : Nat) (prom : Int32) (ol : List Nat) (p : Int32) (σ : z_St) (x : Nat) : z_St := if σ.2.2.2.1 x 2 = p then (rp x).foldl (z_tk up prom ol) σ else σ
/-- those that are taken are looked at -/
def z_cp3 (rp : Nat → List (Option Nat)) (up : Nat) (prom : Int32) (ol : List Nat) : Nat → Nat → z_St → z_St
  | 0, _, σ => σ
  | n + 1, k, σ => match σ.2.2.1[k]? with
    | none => σ
    | some x => z_cp3 rp up prom ol n (k + 1) ((rp x).foldl (z_tk up prom ol) σ)
def z_cp2 (rp : Nat → List (Option Nat)) (up : Nat) (prom : Int32) (ol wl : List Nat) (p n : Nat) (σ : z_St) : z_St := (List.range' p n).foldl (fun σ p => wl.foldl (z_cw rp up prom ol (nI p)) σ) σ
def z_copy (rp : Nat → List (Option Nat)) (up : Nat) (prom : Int32) (ol wl : List Nat) (hk : List (Option Nat)) (f : Nat → Nat → Int32) (q : Int32) : z_St :=
  z_cp3 rp up prom ol (ol.length + 1) 0 (z_cp2 rp up prom ol wl 0 up (hk.foldl (z_tk up prom ol) ([], wl, [], f, q)))
/-- what a copying leaves -/
def z_Cp (h h' : q_H) (s : Nat) (hk : List (Option Nat)) (U : Nat → Prop) (ol : List Nat) (σ : z_St) : Prop :=
  z_ch s U h h' ∧ z_Wf h' U ∧ z_Sim h' s σ.1 σ.2.1 hk ∧ (∀ x, U x → ∀ j, j < 4 → q_I h' x j = σ.2.2.2.1 x j) ∧
  (q_I h' s 11 = σ.2.2.2.2 ∧ q_I h' s 9 = 1 - q_I h s 9 ∧ q_I h' s 10 = q_I h s 10 + 1 ∧ q_I h' s 12 = q_I h s 12 + (nI ol.length - nI σ.2.2.1.length) ∧ ∀ k, k ≠ 9 → k ≠ 10 → k ≠ 11 → k ≠ 12 → q_I h' s k = q_I h s k) ∧ ∀ k, 2 ≤ k → q_R h' s k = q_R h s k
def z_Qc (h : q_H) (s : Nat) (hk : List (Option Nat)) (U : Nat → Prop) (ol : List Nat) (σ : z_St) : q_Po := fun o h' => ∃ y, o = .inl (some (.int y)) ∧ y = nI ol.length - nI σ.2.2.1.length ∧ z_Cp h h' s hk U ol σ
end ZCOPY
