/-! the relation over put, hide, link, lay -/
section OPB
variable {c c' g g' : FF} {d d' : Nat → Nat}
theorem tq_last (h1 : 1 ≤ d 23) : tq d (d 23 - 1) = d 2 % 8 := by
  unfold tq
  rw [show d 2 + (d 23 - 1) + 1 - d 23 = d 2 by omega]
theorem tq_ne {r r' : Nat} (h8 : d 23 ≤ 8) (h2 : d 23 ≤ d 2 + 1) (hr : r < d 23) (hr' : r' < d 23) (hne : ¬ r = r') : ¬ tq d r = tq d r' := by
  unfold tq
  omega
theorem an1_bit {b v i : Nat} : (an b (1 <<< v)).testBit i = true ↔ b.testBit i = true ∧ ¬ i = v := by
  rw [an_bit, zb_one, Bool.and_eq_true, Bool.not_eq_true', decide_eq_false_iff_not]
  constructor
  · rintro ⟨h1, h2⟩; exact ⟨h1, fun z => h2 z.symm⟩
  · rintro ⟨h1, h2⟩; exact ⟨h1, fun z => h2 z.symm⟩
theorem S_put0 {v : Nat} (h : Sr c g d) (h1 : d 1 < 3) (hv : v < d 0) (hc : ∀ i k, ¬ (i = 1 ∧ k = d 1) → ¬ (i = 2 ∧ k = d 1) → ¬ (i = 0 ∧ k = 2) → ¬ (i = 4 ∧ k = d 2 % 8) → c' i k = c i k) (hc1 : c' 1 (d 1) = v) (hc2 : c' 2 (d 1) = v) (hc0 : c' 0 2 = d 1 + 1) (hc4 : c' 4 (d 2 % 8) = an (c 4 (d 2 % 8)) (1 <<< v))
    (hd : ∀ j, ¬ j = 11 + d 1 → ¬ j = 14 + d 1 → ¬ j = 1 → ¬ j = 24 + 15 * (d 23 - 1) → d' j = d j) (hd11 : d' (11 + d 1) = v) (hd14 : d' (14 + d 1) = v) (hd1 : d' 1 = d 1 + 1) (hdl : d' (24 + 15 * (d 23 - 1)) = an (d (24 + 15 * (d 23 - 1))) (1 <<< v)) : Sr c' g d' := by
  obtain ⟨a, p, s, e, j, f⟩ := h
  obtain ⟨a1, a2, a3, a4, a5, a6, a7, a8, a9, a10, a11⟩ := a
  obtain ⟨d1, d2, d3, d4, d5, d6, d7, d8, d9⟩ := e
  have e0 := hd 0 (by omega) (by omega) (by omega) (by omega)
  have e2 := hd 2 (by omega) (by omega) (by omega) (by omega)
  have e23 := hd 23 (by omega) (by omega) (by omega) (by omega)
  have hv6 : v < 6 := by omega
  refine ⟨?_, pRd_c p rfl (fun i hi => hd i (by omega) (by omega) (by omega) (by omega)), ⟨fun k hk => ?_, fun k hk => ?_, fun k hk => ?_⟩, ⟨?_, ?_, ?_, ?_, ?_, fun i hi => ?_, d7, fun r hr => ?_, fun r h1 hr => ?_⟩, ⟨fun k hk => ?_, fun u hu => ?_⟩, ?_⟩
  · unfold SA
    rw [hc 0 0 (by omega) (by omega) (by omega) (by omega), hc0, hc 0 5 (by omega) (by omega) (by omega) (by omega), hc 0 6 (by omega) (by omega) (by omega) (by omega), hc 0 7 (by omega) (by omega) (by omega) (by omega), e0, hd1, e2, hd 3 (by omega) (by omega) (by omega) (by omega), hd 4 (by omega) (by omega) (by omega) (by omega)]
    exact ⟨a1, a2, a3, rfl, by omega, a6, a7, a8, a9, a10, a11⟩
  · by_cases z : k = d 1
    · subst z
      rw [hc1, hc2, hd11, hd14]; exact ⟨hv6, hv6, hv6, hv6⟩
    · rw [hc 1 k (by omega) (by omega) (by omega) (by omega), hc 2 k (by omega) (by omega) (by omega) (by omega), hd (11 + k) (by omega) (by omega) (by omega) (by omega), hd (14 + k) (by omega) (by omega) (by omega) (by omega)]; exact s.1 k hk
  · rw [hd1] at hk
    by_cases z : k = d 1
    · subst z
      rw [hc1, hc2, hd11, hd14]; exact ⟨rfl, rfl⟩
    · rw [hc 1 k (by omega) (by omega) (by omega) (by omega), hc 2 k (by omega) (by omega) (by omega) (by omega), hd (11 + k) (by omega) (by omega) (by omega) (by omega), hd (14 + k) (by omega) (by omega) (by omega) (by omega)]; exact s.2.1 k (by omega)
  · rw [hd1] at hk
    by_cases z : k = d 1
    · subst z
      rw [hd11, hd14]; exact Or.inl rfl
    · have := (s.1 k (by omega)).2.2.1
      rw [hd (11 + k) (by omega) (by omega) (by omega) (by omega), hd (14 + k) (by omega) (by omega) (by omega) (by omega), hd (5 + d (11 + k)) (by omega) (by omega) (by omega) (by omega)]; exact s.2.2 k (by omega)
  · rw [hc 3 2 (by omega) (by omega) (by omega) (by omega), e2]; exact d1
  · rw [hc 3 3 (by omega) (by omega) (by omega) (by omega), e23]; exact d2
  · rw [e23]; exact d3
  · rw [e23]; exact d4
  · rw [e23, e2]; exact d5
  · by_cases z : i = d 2 % 8
    · rw [z, hc4]; exact Nat.lt_of_le_of_lt (an_le _ _) (d6 _ (Nat.mod_lt _ (by decide)))
    · rw [hc 4 i (by omega) (by omega) (by omega) (by omega)]; exact d6 i hi
  · rw [e23] at hr
    rw [tq_c e2 e23]
    by_cases z : r = d 23 - 1
    · subst z
      rw [tq_last d3, hc4, hdl, ← d8 (d 23 - 1) hr, tq_last d3]
    · have hne := tq_ne d4 d5 hr (show d 23 - 1 < d 23 by omega) z
      rw [tq_last d3] at hne
      rw [hc 4 _ (by omega) (by omega) (by omega) (by omega), hd _ (by omega) (by omega) (by omega) (by omega)]
      exact d8 r hr
  · rw [e23] at hr
    rw [tq_c e2 e23]
    exact rO_c (d9 r h1 hr) a3 e0 (fun o h1 h2 => hd _ (by omega) (by omega) (by omega) (by omega))
  · rw [hd1] at hk
    rw [e23, hdl]
    cases hh : (an (d (24 + 15 * (d 23 - 1))) (1 <<< v)).testBit (d' (11 + k)) with
    | false => rfl
    | true =>
      rw [an1_bit] at hh
      by_cases z : k = d 1
      · subst z; exact absurd hd11 hh.2
      · rw [hd (11 + k) (by omega) (by omega) (by omega) (by omega), j.1 k (by omega)] at hh
        exact absurd hh.1 (by decide)
  · rw [e23, hdl, an1_bit] at hu
    rw [e0]; exact j.2 u hu.1
  · exact SE_c f d4 (fun k hk => hc _ _ (by omega) (by omega) (by omega) (by omega)) (fun i hi => hc _ _ (by omega) (by omega) (by omega) (by omega)) rfl (fun i hi => hd i (by omega) (by omega) (by omega) (by omega))
/-- a free evader is caught at its own node, by a searcher that is put there -/
theorem S_catch (h : Sr c g d) (h17 : d 17 = 1) (h20 : d 20 = 0) (hc : ∀ i k, ¬ (i = 6 ∧ (k = 1 ∨ k = 2 ∨ k = 3 ∨ k = 4)) → ¬ (i = 7 ∧ k = d 2 % 8) → c' i k = c i k) (hc1 : c' 6 1 = d 18) (hc2 : c' 6 2 = d 18) (hc3 : c' 6 3 = 1) (hc4 : c' 6 4 = d 2) (hc7 : c' 7 (d 2 % 8) = d 18) (hd : ∀ j, ¬ j = 19 → ¬ j = 20 → ¬ j = 21 → d' j = d j) (hd19 : d' 19 = d 18) (hd20 : d' 20 = 1) (hd21 : d' 21 = d 2) : Sr c' g d' := by
  obtain ⟨a, p, s, e, j, f⟩ := h
  have h3 := a.2.2.2.2.1
  have h2t := a.2.2.2.2.2.2.1
  refine ⟨SA_c a (fun k hk => hc _ _ (by omega) (by omega)) (fun i hi => hd i (by omega) (by omega) (by omega)), pRd_c p rfl (fun i hi => hd i (by omega) (by omega) (by omega)), SC_c s (fun i k h1 h2 => hc _ _ (by omega) (by omega)) (fun i hi => hd i (by omega) (by omega) (by omega)) h3, SD_c e a.2.2.1 (fun k hk => hc _ _ (by omega) (by omega)) (fun i hi => hc _ _ (by omega) (by omega)) (fun _ _ => rfl) (fun i hi => hd i (by omega) (by omega) (by omega)), SJ_c j h3 ⟨e.2.2.1, e.2.2.2.1⟩ (fun i hi => hd i (by omega) (by omega) (by omega)), ?_⟩
  obtain ⟨f1, f2, f3, f4, f5, f6, f7, f8, f9, f10, f11, f12, f13, f14, f15⟩ := f
  obtain ⟨b1, b2, b3, b4, b5, b6, b7, b8⟩ := f14 h17
  have h18 : d 18 < d 0 := by
    rw [p.2.2.1 (d 18) (d 19) f9 f10] at b6
    rcases b6 with z | z
    · exact z.2
    · exact (p.2.2.2.2.2 _ _ f9 z).1
  unfold SE
  rw [hc 6 0 (by omega) (by omega), hc1, hc2, hc3, hc4, hc 6 5 (by omega) (by omega), hd 2 (by omega) (by omega) (by omega), hd 17 (by omega) (by omega) (by omega), hd 18 (by omega) (by omega) (by omega), hd19, hd20, hd21, hd 22 (by omega) (by omega) (by omega), hd 23 (by omega) (by omega) (by omega)]
  refine ⟨f1, f2, by omega, by omega, f9, f9, by omega, f8, f9, f9, by omega, f12, fun i hi => ?_, fun _ => ⟨rfl, rfl, rfl, rfl, b5, ?_, b7, fun _ => rfl⟩, fun _ z => by omega⟩
  · by_cases z : i = d 2 % 8
    · rw [z, hc7]; exact f9
    · rw [hc 7 i (by omega) (by omega)]; exact f13 i hi
  · rw [p.2.2.1 (d 18) (d 18) f9 f9]; exact Or.inl ⟨rfl, h18⟩
theorem S_hide {v : Nat} (h : Sr c g d) (hv : v < d 0) (hc : ∀ i k, ¬ (i = 6) → ¬ (i = 7 ∧ k = d 2 % 8) → c' i k = c i k) (hc0 : c' 6 0 = 1) (hc1 : c' 6 1 = v) (hc2 : c' 6 2 = v) (hc3 : c' 6 3 = 0) (hc4 : c' 6 4 = 0) (hc5 : c' 6 5 = d 2) (hc7 : c' 7 (d 2 % 8) = v) (hd : ∀ j, (j < 17 ∨ 22 < j) → ¬ j = 24 + 15 * (d 23 - 1) + 1 → d' j = d j) (hd17 : d' 17 = 1) (hd18 : d' 18 = v) (hd19 : d' 19 = v) (hd20 : d' 20 = 0) (hd21 : d' 21 = 0) (hd22 : d' 22 = d 2) (hdl : d' (24 + 15 * (d 23 - 1) + 1) = v) : Sr c' g d' := by
  obtain ⟨a, p, s, e, j, f⟩ := h
  have h3 := a.2.2.2.2.1
  have h2t := a.2.2.2.2.2.2.1
  have h6 := a.2.2.1
  have e2 := hd 2 (by omega) (by omega)
  have e23 := hd 23 (by omega) (by omega)
  have d3 := e.2.2.1
  have d4 := e.2.2.2.1
  have d5 := e.2.2.2.2.1
  refine ⟨SA_c a (fun k hk => hc _ _ (by omega) (by omega)) (fun i hi => hd i (by omega) (by omega)), pRd_c p rfl (fun i hi => hd i (by omega) (by omega)), SC_c s (fun i k h1 h2 => hc _ _ (by omega) (by omega)) (fun i hi => hd i (by omega) (by omega)) h3, SD_c e a.2.2.1 (fun k hk => hc _ _ (by omega) (by omega)) (fun i hi => hc _ _ (by omega) (by omega)) (fun _ _ => rfl) (fun i hi => hd i (by omega) (by omega)), SJ_c j h3 ⟨d3, d4⟩ (fun i hi => hd i (by omega) (by omega)), ?_⟩
  obtain ⟨f1, f2, f3, f4, f5, f6, f7, f8, f9, f10, f11, f12, f13, f14, f15⟩ := f
  unfold SE
  rw [hc0, hc1, hc2, hc3, hc4, hc5, e2, hd17, hd18, hd19, hd20, hd21, hd22, e23]
  refine ⟨rfl, by omega, by omega, by omega, by omega, by omega, by omega, by omega, by omega, by omega, by omega, by omega, fun i hi => ?_, fun _ => ⟨rfl, rfl, rfl, rfl, rfl, ?_, by omega, fun _ => rfl⟩, fun _ _ => ⟨hdl, fun r hr z => ?_⟩⟩
  · by_cases z : i = d 2 % 8
    · rw [z, hc7]; omega
    · rw [hc 7 i (by omega) (by omega)]; exact f13 i hi
  · rw [p.2.2.1 v v (by omega) (by omega)]; exact Or.inl ⟨rfl, hv⟩
  · have : r = d 23 - 1 := by omega
    subst this
    rw [tq_c e2 e23, tq_last d3, hc7, hdl]
/-- other edges: orders that are no ways any more are given up -/
theorem S_link {w : Nat} (h : Sr c g d) (hp : pR (d 0) w (fun u => d' (5 + u))) (hg1 : g' 0 1 = w) (hg5 : ∀ i, i < 8 → g' 5 i = g 5 i) (hc : ∀ i k, ¬ (i = 2 ∧ k < d 1) → ¬ (i = 6 ∧ k = 2) → c' i k = c i k) (hco : ∀ k, k < d 1 → c' 2 k = if w.testBit (6 * c 1 k + c 2 k) = true then c 2 k else c 1 k) (hce : c' 6 2 = if d 17 = 0 ∨ w.testBit (6 * c 6 1 + c 6 2) = true then c 6 2 else c 6 1)
    (hd : ∀ j, (j < 5 ∨ 11 ≤ j) → ¬ (14 ≤ j ∧ j < 14 + d 1) → ¬ j = 19 → d' j = d j) (hdo : ∀ k, k < d 1 → d' (14 + k) = if d (11 + k) = d (14 + k) ∨ (d' (5 + d (11 + k))).testBit (d (14 + k)) = true then d (14 + k) else d (11 + k)) (hde : d' 19 = if d 17 = 1 ∧ ¬ (d 18 = d 19 ∨ (d' (5 + d 18)).testBit (d 19) = true) then d 18 else d 19) : Sr c' g' d' := by
  obtain ⟨a, p, s, e, j, f⟩ := h
  have h3 := a.2.2.2.2.1
  have h6 := a.2.2.1
  have e0 := hd 0 (by omega) (by omega) (by omega)
  have hd2 : ∀ i, (i < 5 ∨ (11 ≤ i ∧ i < 14) ∨ (17 ≤ i ∧ ¬ i = 19)) → d' i = d i := fun i hi => hd i (by omega) (by omega) (by omega)
  refine ⟨SA_c a (fun k hk => hc _ _ (by omega) (by omega)) (fun i hi => hd2 i (by omega)), ?_, ⟨fun k hk => ?_, fun k hk => ?_, fun k hk => ?_⟩, SD_c e a.2.2.1 (fun k hk => hc _ _ (by omega) (by omega)) (fun i hi => hc _ _ (by omega) (by omega)) hg5 (fun i hi => hd2 i (by omega)), SJ_c j h3 ⟨e.2.2.1, e.2.2.2.1⟩ (fun i hi => hd2 i (by omega)), ?_⟩
  · unfold pRd
    rw [e0, hg1]; exact hp
  · obtain ⟨s1, s2, s3, s4⟩ := s.1 k hk
    rw [hc 1 k (by omega) (by omega), hd2 (11 + k) (by omega)]
    refine ⟨s1, ?_, s3, ?_⟩
    · by_cases z : k < d 1
      · rw [hco k z]; split
        · exact s2
        · exact s1
      · rw [hc 2 k (by omega) (by omega)]; exact s2
    · by_cases z : k < d 1
      · rw [hdo k z]; split
        · exact s4
        · exact s3
      · rw [hd (14 + k) (by omega) (by omega) (by omega)]; exact s4
  · rw [hd2 1 (by omega)] at hk
    obtain ⟨s1, s2, s3, s4⟩ := s.1 k (by omega)
    obtain ⟨t1, t2⟩ := s.2.1 k hk
    rw [hc 1 k (by omega) (by omega), hd2 (11 + k) (by omega)]
    refine ⟨t1, ?_⟩
    rw [hco k hk, hdo k hk, t1, t2]
    have hw := hp.2.2.1 (d (11 + k)) (d (14 + k)) s3 s4
    by_cases z : d (11 + k) = d (14 + k)
    · rw [if_pos (Or.inl z)]
      split
      · rfl
      · exact z
    · by_cases y : (d' (5 + d (11 + k))).testBit (d (14 + k)) = true
      · rw [if_pos (Or.inr y), if_pos (hw.mpr (Or.inr y))]
      · rw [if_neg (fun q => (hw.mp q).elim (fun r => z r.1) y), if_neg (fun q => q.elim z y)]
  · rw [hd2 1 (by omega)] at hk
    obtain ⟨s1, s2, s3, s4⟩ := s.1 k (by omega)
    rw [hd2 (11 + k) (by omega), hdo k hk]
    by_cases z : d (11 + k) = d (14 + k) ∨ (d' (5 + d (11 + k))).testBit (d (14 + k)) = true
    · rw [if_pos z]; exact z
    · rw [if_neg z]; exact Or.inl rfl
  · obtain ⟨f1, f2, f3, f4, f5, f6, f7, f8, f9, f10, f11, f12, f13, f14, f15⟩ := f
    have e17 := hd2 17 (by omega)
    have e18 := hd2 18 (by omega)
    have h19 : d' 19 < 6 := by rw [hde]; split
                               · exact f9
                               · exact f10
    have h62 : c' 6 2 < 6 := by rw [hce]; split
                                · exact f6
                                · exact f5
    have e2 := hd2 2 (by omega)
    have e23 := hd2 23 (by omega)
    unfold SE
    rw [hc 6 0 (by omega) (by omega), hc 6 1 (by omega) (by omega), hc 6 3 (by omega) (by omega), hc 6 4 (by omega) (by omega), hc 6 5 (by omega) (by omega), e2, e17, e18, hd2 20 (by omega), hd2 21 (by omega), hd2 22 (by omega), e23, hg1]
    refine ⟨f1, f2, f3, f4, f5, h62, f7, f8, f9, h19, f11, f12, fun i hi => by rw [hc 7 i (by omega) (by omega)]; exact f13 i hi, fun z => ?_, fun z1 z2 => ?_⟩
    · obtain ⟨b1, b2, b3, b4, b5, b6, b7, b8⟩ := f14 z
      have hw := hp.2.2.1 (d 18) (d 19) f9 f10
      have h18 : d 18 < d 0 := by
        rw [p.2.2.1 (d 18) (d 19) f9 f10] at b6
        rcases b6 with y | y
        · exact y.2
        · exact (p.2.2.2.2.2 _ _ f9 y).1
      rw [hce, hde, b1, b2]
      by_cases y : d 18 = d 19 ∨ (d' (5 + d 18)).testBit (d 19) = true
      · have hwt : w.testBit (6 * d 18 + d 19) = true := hw.mpr (y.imp (fun q => ⟨q, h18⟩) id)
        rw [if_pos (Or.inr hwt), if_neg (fun q => q.2 y)]
        exact ⟨rfl, rfl, b3, b4, b5, hwt, b7, b8⟩
      · have hwf : ¬ (d 17 = 0 ∨ w.testBit (6 * d 18 + d 19) = true) := fun q => q.elim (fun q => by omega) (fun q => y ((hw.mp q).imp (fun r => r.1) id))
        rw [if_neg hwf, if_pos ⟨z, y⟩]
        refine ⟨rfl, rfl, b3, b4, b5, ?_, b7, fun _ => rfl⟩
        rw [hp.2.2.1 (d 18) (d 18) f9 f9]; exact Or.inl ⟨rfl, h18⟩
    · obtain ⟨a1, a2⟩ := f15 z1 z2
      have d4 := e.2.2.2.1
      refine ⟨by rw [hd2 _ (by omega)]; exact a1, fun r hr y => ?_⟩
      rw [tq_c e2 e23, hc 7 _ (by omega) (by omega), hd2 _ (by omega)]
      exact a2 r hr y
/-- all edges are replaced, and all orders are given up: what is then, before the beliefs are made anew -/
theorem S_lay {w : Nat} (h : Sr c g d) (hp : pR (d 0) w (fun u => d' (5 + u))) (hg1 : g' 0 1 = w) (hc : ∀ i k, ¬ (i = 2 ∧ k < 3) → ¬ (i = 6 ∧ k = 2) → c' i k = c i k) (hco : ∀ k, k < 3 → c' 2 k = c 1 k) (hce : c' 6 2 = c 6 1) (hd : ∀ j, (j < 5 ∨ 11 ≤ j) → ¬ (14 ≤ j ∧ j < 14 + d 1) → ¬ j = 19 → d' j = d j) (hdo : ∀ k, k < d 1 → d' (14 + k) = d (11 + k)) (hde : d' 19 = d 18) : SA c' d' ∧ pRd g' d' ∧ SC c' d' ∧ SEb c' g' d' := by
  obtain ⟨a, p, s, e, j, f⟩ := h
  have h3 := a.2.2.2.2.1
  have h6 := a.2.2.1
  have f' := SE_b f e.2.2.1
  have e0 := hd 0 (by omega) (by omega) (by omega)
  have hd2 : ∀ i, (i < 5 ∨ (11 ≤ i ∧ i < 14) ∨ (17 ≤ i ∧ ¬ i = 19)) → d' i = d i := fun i hi => hd i (by omega) (by omega) (by omega)
  refine ⟨SA_c a (fun k hk => hc _ _ (by omega) (by omega)) (fun i hi => hd2 i (by omega)), ?_, ⟨fun k hk => ?_, fun k hk => ?_, fun k hk => ?_⟩, ?_⟩
  · unfold pRd
    rw [e0, hg1]; exact hp
  · obtain ⟨s1, s2, s3, s4⟩ := s.1 k hk
    rw [hc 1 k (by omega) (by omega), hd2 (11 + k) (by omega), hco k hk]
    refine ⟨s1, s1, s3, ?_⟩
    by_cases z : k < d 1
    · rw [hdo k z]; exact s3
    · rw [hd (14 + k) (by omega) (by omega) (by omega)]; exact s4
  · rw [hd2 1 (by omega)] at hk
    rw [hc 1 k (by omega) (by omega), hd2 (11 + k) (by omega), hco k (by omega), hdo k hk]
    exact ⟨(s.2.1 k hk).1, (s.2.1 k hk).1⟩
  · rw [hd2 1 (by omega)] at hk
    rw [hd2 (11 + k) (by omega), hdo k hk]
    exact Or.inl rfl
  · obtain ⟨f1, f2, f3, f4, f5, f6, f7, f8, f9, f10, f11, f12, f13, f14, f15⟩ := f'
    unfold SEb
    rw [hc 6 0 (by omega) (by omega), hc 6 1 (by omega) (by omega), hce, hc 6 3 (by omega) (by omega), hc 6 4 (by omega) (by omega), hc 6 5 (by omega) (by omega), hd2 2 (by omega), hd2 17 (by omega), hd2 18 (by omega), hde, hd2 20 (by omega), hd2 21 (by omega), hd2 22 (by omega), hg1]
    refine ⟨f1, f2, f3, f4, f5, f5, f7, f8, f9, f9, f11, f12, fun i hi => by rw [hc 7 i (by omega) (by omega)]; exact f13 i hi, fun z => ?_, fun z1 z2 => by rw [hc 7 _ (by omega) (by omega)]; exact f15 z1 z2⟩
    obtain ⟨b1, b2, b3, b4, b5, b6, b7, b8⟩ := f14 z
    refine ⟨b1, b1, b3, b4, b5, ?_, b7, fun _ => rfl⟩
    rw [hp.2.2.1 (d 18) (d 18) f9 f9]
    refine Or.inl ⟨rfl, ?_⟩
    rw [p.2.2.1 (d 18) (d 19) f9 f10] at b6
    rcases b6 with y | y
    · exact y.2
    · exact (p.2.2.2.2.2 _ _ f9 y).1
end OPB
