/-! the relation over news -/
section OPC
variable {Fc Gc Fm : FF} {node i : Nat}
theorem nar_step {P : FF} {c K s : Nat} {d : Nat → Nat} (hn : d 0 ≤ 6) (h0 : P 64 0 = d 0) (hK : K ≤ 3) (hr : ∀ o, 2 ≤ o → o < 15 → P 64 (c + o) = d (c + o)) : stepM (neV P c) K s = stepG (d 0) (fun v => d (c + 2 + v)) (fun k => d (c + 9 + k)) (fun k => d (c + 12 + k)) K s := by
  unfold stepG neV
  refine stepM_congr ?_ ?_ ?_ ?_ ?_
  · rw [lv64]; exact h0
  · rw [lv64, h0]; exact hn
  · intro v hv
    rw [lv69 hv]
    show P 64 (c + 2 + v) = d (c + 2 + v)
    rw [Nat.add_assoc]; exact hr _ (by omega) (by omega)
  · intro k hk
    rw [lv67 (by omega)]
    show P 64 (c + 9 + k) = d (c + 9 + k)
    rw [Nat.add_assoc]; exact hr _ (by omega) (by omega)
  · intro k hk
    rw [lv68 (by omega)]
    show P 64 (c + 12 + k) = d (c + 12 + k)
    rw [Nat.add_assoc]; exact hr _ (by omega) (by omega)
theorem nar_eq (hS : Sr (vw Fc 2) (vw Gc 2) (Fm 64)) (hi : i < Fm 64 23) (hnode : node < 6) : ∀ k, i + k < Fm 64 23 → ∀ r, r < Fm 64 23 → nwF Fc Gc (Fm 64 2 + i + 1 - Fm 64 23) node k 6 (tq (Fm 64) r) = neM Fm node i k 64 (24 + 15 * r) := by
  obtain ⟨⟨a1, a2, a3, _⟩, _, _, ⟨d1, d2, d3, d4, d5, d6, d7, d8, d9⟩, _, _⟩ := hS
  have ht : ∀ k, i + k < Fm 64 23 → (Fm 64 2 + i + 1 - Fm 64 23 + k) % 8 = tq (Fm 64) (i + k) := fun k hk => by unfold tq; rw [show Fm 64 2 + i + 1 - Fm 64 23 + k = Fm 64 2 + (i + k) + 1 - Fm 64 23 by omega]
  intro k
  induction k with
  | zero =>
    intro hk r hr
    unfold nwF neM
    have e := ht 0 hk
    rw [Nat.add_zero, Nat.add_zero] at e
    rw [e, pu_at, pu_at]
    by_cases z : r = i
    · subst z; rw [if_pos ⟨rfl, rfl⟩, if_pos ⟨rfl, rfl⟩]
    · rw [if_neg (fun q => tq_ne d4 d5 hr hi z q.2), if_neg (by omega)]
      exact d8 r hr
  | succ k ih =>
    intro hk r hr
    have ih2 := ih (by omega)
    unfold nwF neM neS
    rw [show Fm 64 2 + i + 1 - Fm 64 23 + k + 1 = Fm 64 2 + i + 1 - Fm 64 23 + (k + 1) by omega, ht (k + 1) hk, ht k (by omega), pu_at, pu_at, show i + (k + 1) = i + k + 1 by omega]
    by_cases z : r = i + k + 1
    · subst z
      obtain ⟨z1, z2, z3⟩ := d9 (i + k + 1) (by omega) hr
      have hlt := nwF_lt (F := Fc) (G := Gc) (t := Fm 64 2 + i + 1 - Fm 64 23) hnode d6 k (tq (Fm 64) (i + k)) (tq_lt _ _)
      have e8 : neM Fm node i k 64 (24 + 15 * (i + k + 1) + 8) = Fm 64 (24 + 15 * (i + k + 1) + 8) := ne_off (by omega) (by omega) k
      rw [if_pos ⟨rfl, rfl⟩, if_pos ⟨rfl, rfl⟩, ih2 (i + k + 1) hr, e8, show 24 + 15 * (i + k + 1) - 15 = 24 + 15 * (i + k) by omega, ← ih2 (i + k) (by omega)]
      have e3 := z3 _ hlt
      rw [show vw Gc 2 5 (tq (Fm 64) (i + k + 1)) = Gc 7 (tq (Fm 64) (i + k + 1)) from rfl] at e3
      rw [e3, nar_step a3 (ne_off (by omega) (by omega) k) z1 (fun o h1 h2 => ne_off (by omega) (by omega) k)]
    · rw [if_neg (fun q => tq_ne d4 d5 hr hk z q.2), if_neg (by omega), nv64]
      exact ih2 r hr
theorem nar_sub (hb : (Fm 64 (24 + 15 * i)).testBit node = true) : ∀ k r u, (neM Fm node i k 64 (24 + 15 * r)).testBit u = true → (Fm 64 (24 + 15 * r)).testBit u = true := by
  intro k
  induction k with
  | zero =>
    intro r u h
    unfold neM at h
    rw [pu_at] at h
    by_cases z : r = i
    · subst z
      rw [if_pos ⟨rfl, rfl⟩, zb_one] at h
      have h : node = u := by simpa using h
      rw [← h]; exact hb
    · rw [if_neg (by omega)] at h; exact h
  | succ k ih =>
    intro r u h
    unfold neM neS at h
    rw [pu_at] at h
    by_cases z : r = i + k + 1
    · subst z
      rw [if_pos ⟨rfl, rfl⟩, Nat.testBit_and, Bool.and_eq_true] at h
      exact ih _ u h.1
    · rw [if_neg (by omega), nv64] at h
      exact ih r u h
theorem S_nar {c' g' : FF} {d' : Nat → Nat} (hS : Sr (vw Fc 2) (vw Gc 2) (Fm 64)) (hi : i < Fm 64 23) (hnode : node < 6) (hb : (Fm 64 (24 + 15 * i)).testBit node = true)
    (hC : ∀ a k, a ≤ 7 → c' a k = nwF Fc Gc (Fm 64 2 + i + 1 - Fm 64 23) node (Fm 64 23 - 1 - i) (2 + a) k) (hG : ∀ a k, a ≤ 7 → g' a k = Gc (2 + a) k) (hD : ∀ j, d' j = neM Fm node i (Fm 64 23 - 1 - i) 64 j) : Sr c' g' d' := by
  have heq := nar_eq hS hi hnode (Fm 64 23 - 1 - i) (by omega)
  have hsub := nar_sub hb (Fm 64 23 - 1 - i)
  obtain ⟨a, p, s, e, j, f⟩ := hS
  obtain ⟨d1, d2, d3, d4, d5, d6, d7, d8, d9⟩ := id e
  have hc : ∀ a k, a ≤ 7 → ¬ a = 4 → c' a k = vw Fc 2 a k := fun a k h1 h2 => by rw [hC a k h1, nwF_off _ _ _ _ _ (by omega)]; rfl
  have hg : ∀ a k, a ≤ 7 → g' a k = vw Gc 2 a k := fun a k h1 => hG a k h1
  have hd : ∀ j, j < 24 ∨ ¬ (j - 24) % 15 = 0 → d' j = Fm 64 j := fun j hj => by rw [hD j]; exact ne_off (by omega) (fun _ => hj) _
  have h3 := a.2.2.2.2.1
  have e2 := hd 2 (by omega)
  have e23 := hd 23 (by omega)
  refine ⟨SA_c a (fun k hk => hc _ _ (by omega) (by omega)) (fun i hi => hd i (by omega)), pRd_c p (hg _ _ (by omega)) (fun i hi => hd i (by omega)), SC_c s (fun i k h1 h2 => hc _ _ (by omega) (by omega)) (fun i hi => hd i (by omega)) h3, ⟨?_, ?_, ?_, ?_, ?_, fun i hi => ?_, fun i hi => ?_, fun r hr => ?_, fun r h1 hr => ?_⟩, ⟨fun k hk => ?_, fun v hv => ?_⟩, SE_c f d4 (fun k hk => hc _ _ (by omega) (by omega)) (fun i hi => hc _ _ (by omega) (by omega)) (hg _ _ (by omega)) (fun i hi => hd i (by omega))⟩
  · rw [hc 3 2 (by omega) (by omega), e2]; exact d1
  · rw [hc 3 3 (by omega) (by omega), e23]; exact d2
  · rw [e23]; exact d3
  · rw [e23]; exact d4
  · rw [e23, e2]; exact d5
  · rw [hC 4 i (by omega)]
    exact nwF_lt hnode d6 _ i hi
  · rw [hg 5 i (by omega)]; exact d7 i hi
  · rw [e23] at hr
    rw [tq_c e2 e23, hC 4 _ (by omega), hD]
    exact heq r hr
  · rw [e23] at hr
    rw [tq_c e2 e23, hg 5 _ (by omega)]
    exact rO_c (d9 r h1 hr) a.2.2.1 (hd 0 (by omega)) (fun o h1 h2 => hd _ (by omega))
  · rw [hd 1 (by omega)] at hk
    rw [e23, hD (24 + 15 * (Fm 64 23 - 1)), hd (11 + k) (by omega)]
    cases hh : (neM Fm node i (Fm 64 23 - 1 - i) 64 (24 + 15 * (Fm 64 23 - 1))).testBit (Fm 64 (11 + k)) with
    | false => rfl
    | true =>
      have := hsub _ _ hh
      rw [j.1 k hk] at this
      cases this
  · rw [e23, hD (24 + 15 * (Fm 64 23 - 1))] at hv
    rw [hd 0 (by omega)]
    exact j.2 v (hsub _ _ hv)
end OPC
