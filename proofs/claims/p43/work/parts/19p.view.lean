/-! the same world seen as another heap: ids moved, ids dropped -/
def q_vm (σ : Nat → Nat) : Value → Value
  | .ref a => .ref (σ a)
  | v => v
theorem q_vm_vz {σ ρ : Nat → Nat} (v : Value) : q_vz (fun a => ρ (σ a)) v = q_vz ρ (q_vm σ v) := by cases v <;> rfl
/-- what stands at an id of the new heap stands at the moved id of the old one -/
def q_cmp (σ : Nat → Nat) (h h' : q_H) (a : Nat) : Prop := match q_sh h' a with
  | (0, ci, v') => (q_I h' a = q_I h (σ a) ∧ q_E h' a = q_E h (σ a)) ∧ ∃ v, q_sh h (σ a) = (0, ci, v) ∧ ∀ j, j < q_nf ci → q_kd ci v' j ≠ 9 → q_kd ci v j = q_kd ci v' j ∧ (q_kd ci v' j = 1 → q_R h (σ a) j = (q_R h' a j).map σ)
  | (1, t, n) => q_sh h (σ a) = (1, t, n) ∧ q_I h' a = q_I h (σ a)
  | (2, t, n) => q_sh h (σ a) = (2, t, n) ∧ q_L h' a = q_L h (σ a)
  | (3, t, n) => q_sh h (σ a) = (3, t, n) ∧ ∀ j, q_R h (σ a) j = (q_R h' a j).map σ
  | s => q_sh h (σ a) = s ∧ q_E h' a = q_E h (σ a)
theorem q_cr_cmp {cA : Nat → ClassId} {σ ρ : Nat → Nat} {h h' : q_H} {a : Nat} {e : va_E} (hσ : ∀ a, a < 49 → σ a = a) (hE49 : ∀ a j b, q_E h a j = some b → b < 49) (hc : q_cmp σ h h' a) (hcr : q_cr cA ρ h (σ a) e (q_sh h (σ a))) : q_cr cA (fun x => ρ (σ x)) h' a e (q_sh h' a) := by
  have hEm : q_E h' a = q_E h (σ a) → ∀ j, (q_E h' a j).map (fun x => ρ (σ x)) = (q_E h (σ a) j).map ρ := by
    intro c2 j
    rw [c2]
    cases hq : q_E h (σ a) j with
    | none => rfl
    | some b =>
      show some (ρ (σ b)) = some (ρ b)
      rw [hσ b (hE49 _ _ _ hq)]
  unfold q_cmp at hc
  generalize hs : q_sh h' a = s at hc ⊢
  obtain ⟨t, c, n⟩ := s
  match t, hc with
  | 0, hc =>
    obtain ⟨⟨c1, c2⟩, v, hv, hj⟩ := hc
    rw [hv] at hcr
    obtain ⟨fs, e1, e2, e3⟩ := hcr
    refine ⟨fs, e1, e2, fun j hj1 hk => ?_⟩
    obtain ⟨k1, k2⟩ := hj j hj1 hk
    rw [e3 j hj1 (by rw [k1]; exact hk), k1]
    unfold q_fv
    split
    · next hq => rw [show q_I h' a = q_I h (σ a) from c1]
    · next hq => rw [show q_I h' a = q_I h (σ a) from c1]
    · next hq => rw [show q_I h' a = q_I h (σ a) from c1]
    · next hq => rw [k2 hq, Option.map_map]; rfl
    · rw [hEm c2]
  | 1, hc => rw [hc.1] at hcr; show e = _; rw [hc.2]; exact hcr
  | 2, hc => rw [hc.1] at hcr; show e = _; rw [hc.2]; exact hcr
  | 3, hc =>
    obtain ⟨c5, c6⟩ := hc
    rw [c5] at hcr
    have hcr : e = _ := hcr
    show e = _
    rw [hcr]
    refine congrArg (fun f : Nat → Option Nat => (Sum.inl (cA c, n, .inr (.inr (.inr (.inr f)))) : va_E)) ?_
    funext i
    rw [c6 i, Option.map_map]; rfl
  | t + 4, hc =>
    rw [hc.1] at hcr
    have hcr : e = _ := hcr
    show e = _
    rw [hcr]
    refine congrArg (fun f : Nat → Option Nat => (Sum.inl (cA c, n, .inr (.inr (.inr (.inr f)))) : va_E)) ?_
    funext i
    exact (hEm hc.2 i).symm
theorem q_pick {α : Type} (ws : List α) (f : Nat → Nat) : ∀ (n : Nat), (∀ i, i < n → f i < ws.length) → ∃ ws' : List α, ws'.length = n ∧ ∀ (k : Nat) (q : α), ws'[k]? = some q → k < n ∧ ws[f k]? = some q
  | 0, _ => ⟨[], rfl, fun k q h => by simp at h⟩
  | n + 1, hf => by
    obtain ⟨ws', h1, h2⟩ := q_pick ws f n (fun i hi => hf i (by omega))
    refine ⟨ws' ++ [ws[f n]'(hf n (by omega))], by simp [h1], fun k q hq => ?_⟩
    by_cases hk : k < n
    · rw [List.getElem?_append_left (by omega)] at hq
      exact ⟨by omega, (h2 k q hq).2⟩
    · have hlt := (List.getElem?_eq_some_iff.mp hq).1
      simp only [List.length_append, List.length_cons, List.length_nil, h1] at hlt
      obtain rfl : k = n := by omega
      rw [List.getElem?_append_right (by omega), h1, Nat.sub_self] at hq
      refine ⟨by omega, ?_⟩
      rw [← hq]
      exact List.getElem?_eq_getElem _
section QVIEW
variable {g : q_G} {M : q_M} {d mc ms : Nat} {h0 : q_H} {mv : List Nat} {Q : (Option Value ⊕ String) → q_H → Prop} {k n pos : Nat}
theorem q_vw (σ : Nat → Nat) {h h' : q_H} {ls ls' : List (Option Value)} {st st' : List Value} (hn : q_nx h' ≤ q_nx h) (h400 : 400 ≤ q_nx h') (hn0 : q_nx h0 ≤ q_nx h') (hσ1 : ∀ a, a < 400 → σ a = a) (hσ2 : ∀ a, 400 ≤ a → a < q_nx h' → 400 ≤ σ a ∧ σ a < q_nx h)
    (hσ3 : ∀ a b, 400 ≤ a → a < q_nx h' → 400 ≤ b → b < q_nx h' → σ a = σ b → a = b) (hcmp : ∀ a, 400 ≤ a → a < q_nx h' → q_cmp σ h h' a) (hclo : q_clo h → q_clo h')
    (hls : ls = ls'.map (fun v => v.map (q_vm σ))) (hst : st = st'.map (q_vm σ)) (hv1 : ∀ a, Value.ref a ∈ st' → a < q_nx h') (hv2 : ∀ i a, q_nth ls' i = some (some (.ref a)) → a < q_nx h') (hmv : ∀ a, a < q_nx h0 → a ∉ mv → σ a = a)
    (hJ : q_J g M d mc ms h0 mv Q k n (pos, ls', st', h')) : q_J g M d mc ms h0 mv Q k n (pos, ls, st, h) := by
  intro p e s m args below meth cd D cA ρ0 ρ A H locs rls en hen hB hS
  obtain ⟨hK, hW, hVS, hX, hC, hst9, hls9, hlh, hag, hag2, hA, hnx0⟩ := id hS
  obtain ⟨ws, w1, w2, hP, hD⟩ := hW
  have w1 : ws.length + 400 = q_nx h := w1
  have hid : ∀ a, 400 ≤ a → a < q_nx h' → σ a - 400 < ws.length := fun a h1 h2 => by have := hσ2 a h1 h2; omega
  have hW' : q_Wd D cA (fun a => ρ (σ a)) h' A H := by
    obtain ⟨ws', hlen, hget⟩ := q_pick ws (fun i => σ (400 + i) - 400) (q_nx h' - 400) (fun i hi => hid _ (Nat.le_add_right _ _) (by omega))
    refine ⟨ws', by rw [hlen]; omega, fun kk q hq => ?_, fun kk q hq => ?_, ?_, ?_⟩
    · obtain ⟨h1, h2⟩ := hget kk q hq
      obtain ⟨e1, e2⟩ := w2 _ _ h2
      have h3 := hσ2 (400 + kk) (by omega) (by omega)
      rw [show 400 + (σ (400 + kk) - 400) = σ (400 + kk) by omega] at e1 e2
      exact ⟨e1, q_cr_cmp (fun a ha => hσ1 a (by omega)) hC.2.1 (hcmp _ (by omega) (by omega)) e2⟩
    · exact hP _ _ (hget kk q hq).2
    · intro i j p q hi hj hpq
      obtain ⟨a1, a2⟩ := hget i p hi
      obtain ⟨b1, b2⟩ := hget j q hj
      have h3 := hσ2 (400 + i) (by omega) (by omega)
      have h4 := hσ2 (400 + j) (by omega) (by omega)
      have h5 := hD.1 _ _ p q a2 b2 hpq
      have := hσ3 (400 + i) (400 + j) (by omega) (by omega) (by omega) (by omega) (by omega)
      omega
    · intro kk q hq
      exact hD.2 _ _ (hget kk q hq).2
  have hmap : st'.map (q_vz (fun a => ρ (σ a))) = st.map (q_vz ρ) := by
    rw [hst, List.map_map]
    exact List.map_congr_left fun v _ => q_vm_vz v
  have hnth : ∀ i v, q_nth ls' i = some (some v) → q_nth ls i = some (some (q_vm σ v)) := by
    intro i v hv
    rw [q_nth_eq] at hv ⊢
    rw [hls, List.getElem?_map, hv]; rfl
  have h9 := hJ p e s m args below meth cd D cA ρ0 (fun a => ρ (σ a)) A H locs rls en hen hB ⟨hK, hW', hVS, hX, hclo hC, fun v hv a ha => hv1 a (by rw [← ha]; exact hv), fun i v hv a ha => hv2 i a (by rw [hv, ha]), ⟨hlh.1, by have := hlh.2.1; rw [hls, List.length_map] at this; exact this, hlh.2.2.1, fun i v hv => by rw [q_vm_vz]; exact hlh.2.2.2 i _ (hnth i v hv)⟩, fun a ha hm => ?_, fun a ha => ?_, hA, h400, hn0⟩
  · rw [show ((pos, ls', st', h') : q_C).2.2.1 = st' from rfl, hmap] at h9
    exact h9
  · show ρ (σ a) = ρ0 a
    rw [hmv a ha hm]
    exact hag a ha hm
  · show ρ (σ a) = ρ0 a
    rw [hσ1 a ha]
    exact hag2 a ha
end QVIEW
