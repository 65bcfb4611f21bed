/-! recorded changes: what stays, and the small ones -/
section OPA
variable {F G : FF} {h : Nat → Nat} {xs : Nat → Int32}
theorem rc_congr {F1 : FF} (hh : ∀ p j, 63 ≤ p → F1 p j = F p j) : ∀ p j, 63 ≤ p → rcM F1 p j = rcM F p j := by
  intro p j hp
  have e2 : F1 63 2 = F 63 2 := hh 63 2 (by omega)
  have ek : rcK F1 = rcK F := by unfold rcK; rw [e2]
  by_cases c : p = 65
  · subst c
    rw [rc65, rc65, ek, e2, hh 65 _ (by omega), hh 65 _ (by omega), hh 64 _ (by omega)]
  · by_cases c2 : p = 63 ∧ j = 2
    · obtain ⟨rfl, rfl⟩ := c2
      unfold rcM
      rw [pu_at, if_pos ⟨rfl, rfl⟩, pu_at, if_pos ⟨rfl, rfl⟩, ek]
    · rw [rc_off c c2, rc_off c c2, hh p j hp]
theorem rc632 : rcM F 63 2 = rcK F + 1 := by unfold rcM; rw [pu_at, if_pos ⟨rfl, rfl⟩]
theorem rmF_12 : rmF F h 1 2 = rmK F + 1 := by unfold rmF; rw [pu_at, if_neg (by omega), pu_at, if_pos ⟨rfl, rfl⟩]
theorem rmF_16 : rmF F h 1 6 = 0 := by unfold rmF; rw [pu_at, if_pos ⟨rfl, rfl⟩]
theorem J_op {F1 G1 F2 : FF} (hJ : J xs F G h) (hC : ∀ p j, p = 0 ∨ p = 1 ∨ 10 ≤ p → F1 p j = rmF F h p j) (hCG : ∀ p j, 10 ≤ p → G1 p j = rmG F G h p j) (hM : ∀ p j, p < 67 → ¬ p = 64 → F2 p j = rcM F1 p j) (hS : Sr (vw F2 2) (vw G1 2) (F2 64)) : J xs F2 G1 (rmH F h) := by
  obtain ⟨j1, j2, j3, j4, j5, j6, j7, j8, j9⟩ := hJ
  obtain ⟨k1, k2⟩ := J_hist j1 j2 j3 j4
  have hlt := rmK_lt j1
  have hh1 := rmH_ok j1
  have hF1 : ∀ p j, 63 ≤ p → F1 p j = F p j := fun p j hp => by rw [hC p j (by omega)]; exact rmF_off j1 (Or.inr (by omega)) (by omega)
  have hlow : ∀ p j, p < 63 → F2 p j = F1 p j := fun p j hp => by rw [hM p j (by omega) (by omega)]; exact rc_off (by omega) (by omega)
  have hcl : ∀ p j, p = 0 ∨ p = 1 ∨ (10 ≤ p ∧ p < 63) → F2 p j = rmF F h p j := fun p j hp => by rw [hlow p j (by omega)]; exact hC p j (by omega)
  have e12 : F2 1 2 = rmK F + 1 := by rw [hcl 1 2 (by omega)]; exact rmF_12
  have e632 : F2 63 2 = rmK F + 1 := by rw [hM 63 2 (by omega) (by omega), rc632, ← k1]; unfold rcK; rw [hF1 63 2 (by omega)]
  refine ⟨⟨by omega, hh1⟩, by omega, hS, fun i hi => ?_, ⟨?_, ?_, fun i hi => ?_, fun i hi => ?_⟩, ?_, fun z => ?_, ⟨fun s hs => ?_, ?_⟩, fun j => ?_⟩
  · rw [e12] at hi
    have hr := h_rng hh1 (show i < 5 by omega)
    refine Sr_c (k2 i hi) (fun a b hs => ?_) (fun a b hs => ?_) (fun j hj => ?_)
    · have : a ≤ 7 := by unfold slF at hs; omega
      unfold vw
      rw [hcl _ _ (by omega)]
    · have : a ≤ 7 := by unfold slG at hs; omega
      unfold vw
      rw [hCG _ _ (by omega)]
    · rw [hM 65 _ (by omega) (by omega), rc_congr hF1 65 _ (by omega)]
  · rw [hM 63 4 (by omega) (by omega), rc_off (by omega) (by omega), hF1 63 4 (by omega), hcl 1 4 (by omega), rm1_off j1 (by omega) (by omega)]; exact j5.1
  · rw [hcl 1 4 (by omega), rm1_off j1 (by omega) (by omega)]; exact j5.2.1
  · rw [hcl 51 i (by omega), rmF_off j1 (Or.inr (by omega)) (by omega), hM 66 i (by omega) (by omega), rc_off (by omega) (by omega), hF1 66 i (by omega)]; exact j5.2.2.1 i hi
  · rw [hcl 1 4 (by omega), rm1_off j1 (by omega) (by omega)] at hi
    rw [hcl 51 i (by omega), rmF_off j1 (Or.inr (by omega)) (by omega), hM 66 i (by omega) (by omega), rc_off (by omega) (by omega), hF1 66 i (by omega)]; exact j5.2.2.2 i hi
  · rw [hcl 1 6 (by omega), rmF_16]; exact Nat.zero_le _
  · rw [hcl 1 6 (by omega), rmF_16] at z; omega
  · rw [hcl 54 s (by omega), hcl 58 s (by omega), hcl 62 s (by omega), rmF_off j1 (Or.inr (by omega)) (by omega), rmF_off j1 (Or.inr (by omega)) (by omega), rmF_off j1 (Or.inr (by omega)) (by omega)]; exact j8.1 s hs
  · rw [hcl 60 5 (by omega), rmF_off j1 (Or.inr (by omega)) (by omega)]; exact j8.2
  · rw [hcl 0 j (by omega), rmF_off j1 (Or.inl (by omega)) (by omega)]; exact j9 j
end OPA
section OPA2
variable {c c' g g' : FF} {d d' : Nat → Nat}
theorem S_leave (h : Sr c g d) (h1 : 0 < d 1) (hc : ∀ i k, ¬ (i = 0 ∧ k = 2) → c' i k = c i k) (hc2 : c' 0 2 = d 1 - 1) (hd : ∀ j, ¬ j = 1 → d' j = d j) (hd1 : d' 1 = d 1 - 1) : Sr c' g d' := by
  obtain ⟨a, p, s, e, j, f⟩ := h
  refine ⟨?_, pRd_c p rfl (fun i hi => hd i (by omega)), ?_, SD_c e a.2.2.1 (fun k hk => hc _ _ (by omega)) (fun i hi => hc _ _ (by omega)) (fun _ _ => rfl) (fun i hi => hd i (by omega)), ?_, SE_c f e.2.2.2.1 (fun k hk => hc _ _ (by omega)) (fun i hi => hc _ _ (by omega)) rfl (fun i hi => hd i (by omega))⟩
  · obtain ⟨a1, a2, a3, a4, a5, a6, a7, a8, a9, a10, a11⟩ := a
    unfold SA
    rw [hc 0 0 (by omega), hc2, hc 0 5 (by omega), hc 0 6 (by omega), hc 0 7 (by omega), hd 0 (by omega), hd1, hd 2 (by omega), hd 3 (by omega), hd 4 (by omega)]
    exact ⟨a1, a2, a3, rfl, by omega, a6, a7, a8, a9, a10, a11⟩
  · have h3 := a.2.2.2.2.1
    refine ⟨fun k hk => ?_, fun k hk => ?_, fun k hk => ?_⟩
    · rw [hc 1 k (by omega), hc 2 k (by omega), hd _ (by omega), hd _ (by omega)]; exact s.1 k hk
    · rw [hc 1 k (by omega), hc 2 k (by omega), hd _ (by omega), hd _ (by omega)]; exact s.2.1 k (by omega)
    · rw [hd (11 + k) (by omega), hd (14 + k) (by omega), hd (5 + d (11 + k)) (by omega)]; exact s.2.2 k (by omega)
  · obtain ⟨j1, j2⟩ := j
    refine ⟨fun k hk => ?_, fun v hv => ?_⟩
    · rw [hd 23 (by omega), hd _ (by omega), hd (11 + k) (by omega)]; exact j1 k (by omega)
    · rw [hd 23 (by omega), hd _ (by omega)] at hv
      rw [hd 0 (by omega)]; exact j2 v hv
theorem S_order {k0 v : Nat} (h : Sr c g d) (hk0 : k0 < d 1) (hv : v < 6) (hw : d (11 + k0) = v ∨ (d (5 + d (11 + k0))).testBit v = true) (hc : ∀ i k, ¬ (i = 2 ∧ k = k0) → c' i k = c i k) (hc2 : c' 2 k0 = v) (hd : ∀ j, ¬ j = 14 + k0 → d' j = d j) (hd1 : d' (14 + k0) = v) : Sr c' g d' := by
  obtain ⟨a, p, s, e, j, f⟩ := h
  have h3 := a.2.2.2.2.1
  refine ⟨SA_c a (fun k hk => hc _ _ (by omega)) (fun i hi => hd i (by omega)), pRd_c p rfl (fun i hi => hd i (by omega)), ?_, SD_c e a.2.2.1 (fun k hk => hc _ _ (by omega)) (fun i hi => hc _ _ (by omega)) (fun _ _ => rfl) (fun i hi => hd i (by omega)), SJ_c j h3 ⟨e.2.2.1, e.2.2.2.1⟩ (fun i hi => hd i (by omega)), SE_c f e.2.2.2.1 (fun k hk => hc _ _ (by omega)) (fun i hi => hc _ _ (by omega)) rfl (fun i hi => hd i (by omega))⟩
  refine ⟨fun k hk => ?_, fun k hk => ?_, fun k hk => ?_⟩
  · by_cases z : k = k0
    · subst z
      rw [hc 1 k (by omega), hc2, hd (11 + k) (by omega), hd1]
      exact ⟨(s.1 k hk).1, hv, (s.1 k hk).2.2.1, hv⟩
    · rw [hc 1 k (by omega), hc 2 k (by omega), hd (11 + k) (by omega), hd (14 + k) (by omega)]; exact s.1 k hk
  · rw [hd 1 (by omega)] at hk
    by_cases z : k = k0
    · subst z
      rw [hc 1 k (by omega), hc2, hd (11 + k) (by omega), hd1]
      exact ⟨(s.2.1 k hk).1, rfl⟩
    · rw [hc 1 k (by omega), hc 2 k (by omega), hd (11 + k) (by omega), hd (14 + k) (by omega)]; exact s.2.1 k hk
  · rw [hd 1 (by omega)] at hk
    have := (s.1 k (by omega)).2.2.1
    by_cases z : k = k0
    · subst z
      rw [hd (11 + k) (by omega), hd1, hd (5 + d (11 + k)) (by omega)]; exact hw
    · rw [hd (11 + k) (by omega), hd (14 + k) (by omega), hd (5 + d (11 + k)) (by omega)]; exact s.2.2 k hk
theorem S_flee {v : Nat} (h : Sr c g d) (hv : v < 6) (h17 : d 17 = 1) (h20 : d 20 = 0) (hb : (g 0 1).testBit (6 * d 18 + v) = true) (hc : ∀ i k, ¬ (i = 6 ∧ k = 2) → c' i k = c i k) (hc2 : c' 6 2 = v) (hd : ∀ j, ¬ j = 19 → d' j = d j) (hd1 : d' 19 = v) : Sr c' g d' := by
  obtain ⟨a, p, s, e, j, f⟩ := h
  have h3 := a.2.2.2.2.1
  refine ⟨SA_c a (fun k hk => hc _ _ (by omega)) (fun i hi => hd i (by omega)), pRd_c p rfl (fun i hi => hd i (by omega)), SC_c s (fun i k h1 h2 => hc _ _ (by omega)) (fun i hi => hd i (by omega)) h3, SD_c e a.2.2.1 (fun k hk => hc _ _ (by omega)) (fun i hi => hc _ _ (by omega)) (fun _ _ => rfl) (fun i hi => hd i (by omega)), SJ_c j h3 ⟨e.2.2.1, e.2.2.2.1⟩ (fun i hi => hd i (by omega)), ?_⟩
  obtain ⟨f1, f2, f3, f4, f5, f6, f7, f8, f9, f10, f11, f12, f13, f14, f15⟩ := f
  obtain ⟨b1, b2, b3, b4, b5, b6, b7, b8⟩ := f14 h17
  obtain ⟨e1, e2⟩ := f15 h17 h20
  unfold SE
  rw [hc 6 0 (by omega), hc 6 1 (by omega), hc2, hc 6 3 (by omega), hc 6 4 (by omega), hc 6 5 (by omega), hd 2 (by omega), hd 17 (by omega), hd 18 (by omega), hd1, hd 20 (by omega), hd 21 (by omega), hd 22 (by omega), hd 23 (by omega)]
  refine ⟨f1, f2, f3, f4, f5, hv, f7, f8, f9, hv, f11, f12, fun i hi => by rw [hc 7 i (by omega)]; exact f13 i hi, fun _ => ⟨b1, rfl, b3, b4, b5, hb, b7, fun z => by omega⟩, fun _ _ => ⟨by rw [hd _ (by omega)]; exact e1, fun r hr z => ?_⟩⟩
  rw [tq_c (hd 2 (by omega)) (hd 23 (by omega)), hc 7 _ (by omega), hd _ (by omega)]
  exact e2 r hr z
theorem S_news {p q : Nat} (h : Sr c g d) (hp : p ≤ 9) (hq : q ≤ 7) (hc : ∀ i k, ¬ (i = 0 ∧ (k = 6 ∨ k = 7)) → c' i k = c i k) (hc6 : c' 0 6 = p) (hc7 : c' 0 7 = q) (hd : ∀ j, ¬ j = 3 → ¬ j = 4 → d' j = d j) (hd3 : d' 3 = p) (hd4 : d' 4 = q) : Sr c' g d' := by
  obtain ⟨a, pp, s, e, j, f⟩ := h
  have h3 := a.2.2.2.2.1
  refine ⟨?_, pRd_c pp rfl (fun i hi => hd i (by omega) (by omega)), SC_c s (fun i k h1 h2 => hc _ _ (by omega)) (fun i hi => hd i (by omega) (by omega)) h3, SD_c e a.2.2.1 (fun k hk => hc _ _ (by omega)) (fun i hi => hc _ _ (by omega)) (fun _ _ => rfl) (fun i hi => hd i (by omega) (by omega)), SJ_c j h3 ⟨e.2.2.1, e.2.2.2.1⟩ (fun i hi => hd i (by omega) (by omega)), SE_c f e.2.2.2.1 (fun k hk => hc _ _ (by omega)) (fun i hi => hc _ _ (by omega)) rfl (fun i hi => hd i (by omega) (by omega))⟩
  obtain ⟨a1, a2, a3, a4, a5, a6, a7, a8, a9, a10, a11⟩ := a
  unfold SA
  rw [hc 0 0 (by omega), hc 0 2 (by omega), hc 0 5 (by omega), hc6, hc7, hd 0 (by omega) (by omega), hd 1 (by omega) (by omega), hd 2 (by omega) (by omega), hd3, hd4]
  exact ⟨a1, a2, a3, a4, a5, a6, a7, rfl, hp, rfl, hq⟩
/-- what of the evader doesn't hang on the beliefs -/
def SEb (c g : FF) (d : Nat → Nat) : Prop := c 6 0 = d 17 ∧ d 17 ≤ 1 ∧ c 6 3 ≤ 1 ∧ d 20 ≤ 1 ∧ c 6 1 < 6 ∧ c 6 2 < 6 ∧ c 6 4 ≤ 10000 ∧ c 6 5 ≤ 10000 ∧ d 18 < 6 ∧ d 19 < 6 ∧ d 21 ≤ 10000 ∧ d 22 ≤ 10000 ∧ (∀ i, i < 8 → c 7 i < 6) ∧
  (d 17 = 1 → c 6 1 = d 18 ∧ c 6 2 = d 19 ∧ c 6 3 = d 20 ∧ c 6 4 = d 21 ∧ c 6 5 = d 22 ∧ (g 0 1).testBit (6 * d 18 + d 19) = true ∧ d 22 ≤ d 2 ∧ (d 20 = 1 → d 18 = d 19)) ∧
  (d 17 = 1 → d 20 = 0 → c 7 (d 2 % 8) = d 18)
theorem SE_b (h : SE c g d) (h1 : 1 ≤ d 23) : SEb c g d := by
  obtain ⟨f1, f2, f3, f4, f5, f6, f7, f8, f9, f10, f11, f12, f13, f14, f15⟩ := h
  refine ⟨f1, f2, f3, f4, f5, f6, f7, f8, f9, f10, f11, f12, f13, f14, fun z1 z2 => ?_⟩
  obtain ⟨e1, e2⟩ := f15 z1 z2
  have h22 := (f14 z1).2.2.2.2.2.2.1
  have := e2 (d 23 - 1) (by omega) (by omega)
  unfold tq at this
  rw [show d 2 + (d 23 - 1) + 1 - d 23 = d 2 by omega, e1] at this
  exact this
/-- the beliefs are made anew -/
theorem S_beg {b : Nat} (a : SA c d) (p : pRd g d) (s : SC c d) (f : SEb c g d) (h4 : ∀ i, i < 8 → c 4 i < 64) (h5 : ∀ i, i < 8 → g 5 i < 2 ^ 63) (hb : b < 64) (hbj : ∀ k, k < d 1 → b.testBit (d (11 + k)) = false) (hbn : ∀ v, b.testBit v = true → v < d 0)
    (hc : ∀ i k, ¬ (i = 3) → ¬ (i = 4 ∧ k = d 2 % 8) → c' i k = c i k) (hc2 : c' 3 2 = d 2) (hc3 : c' 3 3 = 1) (hc4 : c' 4 (d 2 % 8) = b) (hd : ∀ j, ¬ j = 23 → ¬ j = 24 → ¬ j = 25 → d' j = d j) (hd23 : d' 23 = 1) (hd24 : d' 24 = b) (hd25 : d' 25 = if d 17 = 1 then d 18 else N1) : Sr c' g d' := by
  have h3 := a.2.2.2.2.1
  have e2 : d' 2 = d 2 := hd 2 (by omega) (by omega) (by omega)
  refine ⟨SA_c a (fun k hk => hc _ _ (by omega) (by omega)) (fun i hi => hd i (by omega) (by omega) (by omega)), pRd_c p rfl (fun i hi => hd i (by omega) (by omega) (by omega)), SC_c s (fun i k h1 h2 => hc _ _ (by omega) (by omega)) (fun i hi => hd i (by omega) (by omega) (by omega)) h3, ?_, ?_, ?_⟩
  · refine ⟨by rw [hc2, e2], by rw [hc3, hd23], by omega, by omega, by omega, fun i hi => ?_, h5, fun r hr => ?_, fun r h1 h2 => by omega⟩
    · by_cases z : i = d 2 % 8
      · rw [z, hc4]; exact hb
      · rw [hc 4 i (by omega) (by omega)]; exact h4 i hi
    · have : r = 0 := by omega
      subst this
      unfold tq
      rw [e2, hd23, show d 2 + 0 + 1 - 1 = d 2 by omega, hc4]
      exact hd24.symm
  · unfold SJ
    rw [hd23, show 24 + 15 * (1 - 1) = 24 from rfl, hd24, hd 0 (by omega) (by omega) (by omega), hd 1 (by omega) (by omega) (by omega)]
    exact ⟨fun k hk => by rw [hd (11 + k) (by omega) (by omega) (by omega)]; exact hbj k hk, hbn⟩
  · obtain ⟨f1, f2, f3, f4, f5, f6, f7, f8, f9, f10, f11, f12, f13, f14, f15⟩ := f
    unfold SE
    rw [hc 6 0 (by omega) (by omega), hc 6 1 (by omega) (by omega), hc 6 2 (by omega) (by omega), hc 6 3 (by omega) (by omega), hc 6 4 (by omega) (by omega), hc 6 5 (by omega) (by omega), e2, hd 17 (by omega) (by omega) (by omega), hd 18 (by omega) (by omega) (by omega), hd 19 (by omega) (by omega) (by omega), hd 20 (by omega) (by omega) (by omega), hd 21 (by omega) (by omega) (by omega), hd 22 (by omega) (by omega) (by omega), hd23]
    refine ⟨f1, f2, f3, f4, f5, f6, f7, f8, f9, f10, f11, f12, fun i hi => by rw [hc 7 i (by omega) (by omega)]; exact f13 i hi, f14, fun z1 z2 => ⟨?_, fun r hr z3 => ?_⟩⟩
    · show d' 25 = _
      rw [hd25, if_pos z1]
    · have : r = 0 := by omega
      subst this
      unfold tq
      rw [e2, hd23, show d 2 + 0 + 1 - 1 = d 2 by omega, hc 7 _ (by omega) (by omega)]
      show _ = d' 25
      rw [hd25, if_pos z1]
      exact f15 z1 z2
end OPA2
