/-! the class's state and the model's, side by side -/
def vw (F : FF) (x : Nat) : FF := fun i k => F (x + i) k
def tq (d : Nat → Nat) (r : Nat) : Nat := (d 2 + r + 1 - d 23) % 8
def SA (c : FF) (d : Nat → Nat) : Prop := c 0 0 = d 0 ∧ 2 ≤ d 0 ∧ d 0 ≤ 6 ∧ c 0 2 = d 1 ∧ d 1 ≤ 3 ∧ c 0 5 = d 2 ∧ d 2 ≤ 10000 ∧ c 0 6 = d 3 ∧ d 3 ≤ 9 ∧ c 0 7 = d 4 ∧ d 4 ≤ 7
def SC (c : FF) (d : Nat → Nat) : Prop := (∀ k, k < 3 → c 1 k < 6 ∧ c 2 k < 6 ∧ d (11 + k) < 6 ∧ d (14 + k) < 6) ∧ (∀ k, k < d 1 → c 1 k = d (11 + k) ∧ c 2 k = d (14 + k)) ∧ (∀ k, k < d 1 → d (11 + k) = d (14 + k) ∨ (d (5 + d (11 + k))).testBit (d (14 + k)) = true)
/-- a record of the model against the ways that the class keeps -/
def rO (d : Nat → Nat) (w r : Nat) : Prop := d (24 + 15 * r + 8) ≤ 3 ∧ (∀ k, k < 3 → d (24 + 15 * r + 9 + k) < 6 ∧ d (24 + 15 * r + 12 + k) < 6) ∧ ∀ s, s < 64 → wSpread w s = stepG (d 0) (fun v => d (24 + 15 * r + 2 + v)) (fun k => d (24 + 15 * r + 9 + k)) (fun k => d (24 + 15 * r + 12 + k)) (d (24 + 15 * r + 8)) s
def SD (c g : FF) (d : Nat → Nat) : Prop := c 3 2 = d 2 ∧ c 3 3 = d 23 ∧ 1 ≤ d 23 ∧ d 23 ≤ 8 ∧ d 23 ≤ d 2 + 1 ∧ (∀ i, i < 8 → c 4 i < 64) ∧ (∀ i, i < 8 → g 5 i < 2 ^ 63) ∧ (∀ r, r < d 23 → c 4 (tq d r) = d (24 + 15 * r)) ∧ (∀ r, 1 ≤ r → r < d 23 → rO d (g 5 (tq d r)) r)
def SJ (d : Nat → Nat) : Prop := (∀ k, k < d 1 → (d (24 + 15 * (d 23 - 1))).testBit (d (11 + k)) = false) ∧ ∀ v, (d (24 + 15 * (d 23 - 1))).testBit v = true → v < d 0
def SE (c g : FF) (d : Nat → Nat) : Prop := c 6 0 = d 17 ∧ d 17 ≤ 1 ∧ c 6 3 ≤ 1 ∧ d 20 ≤ 1 ∧ c 6 1 < 6 ∧ c 6 2 < 6 ∧ c 6 4 ≤ 10000 ∧ c 6 5 ≤ 10000 ∧ d 18 < 6 ∧ d 19 < 6 ∧ d 21 ≤ 10000 ∧ d 22 ≤ 10000 ∧ (∀ i, i < 8 → c 7 i < 6) ∧
  (d 17 = 1 → c 6 1 = d 18 ∧ c 6 2 = d 19 ∧ c 6 3 = d 20 ∧ c 6 4 = d 21 ∧ c 6 5 = d 22 ∧ (g 0 1).testBit (6 * d 18 + d 19) = true ∧ d 22 ≤ d 2 ∧ (d 20 = 1 → d 18 = d 19)) ∧
  (d 17 = 1 → d 20 = 0 → d (24 + 15 * (d 23 - 1) + 1) = d 18 ∧ ∀ r, r < d 23 → d 22 ≤ d 2 + r + 1 - d 23 → c 7 (tq d r) = d (24 + 15 * r + 1))
def pRd (g : FF) (d : Nat → Nat) : Prop := pR (d 0) (g 0 1) (fun u => d (5 + u))
def Sr (c g : FF) (d : Nat → Nat) : Prop := SA c d ∧ pRd g d ∧ SC c d ∧ SD c g d ∧ SJ d ∧ SE c g d
theorem pR_congr {n pa : Nat} {gr gr' : Nat → Nat} (h : pR n pa gr) (hg : ∀ u, u < 6 → gr' u = gr u) : pR n pa gr' := by
  obtain ⟨h1, h2, h3, h4, h5, h6⟩ := h
  refine ⟨h1, h2, fun u v hu hv => by rw [hg u hu]; exact h3 u v hu hv, fun u hu => by rw [hg u hu]; exact h4 u hu, fun u v hu hv => by rw [hg u hu, hg v hv]; exact h5 u v hu hv, fun u v hu hv => by rw [hg u hu] at hv; exact h6 u v hu hv⟩
section REL
variable {c c' g g' : FF} {d d' : Nat → Nat}
theorem SA_c (h : SA c d) (hc : ∀ k, k = 0 ∨ k = 2 ∨ k = 5 ∨ k = 6 ∨ k = 7 → c' 0 k = c 0 k) (hd : ∀ j, j ≤ 4 → d' j = d j) : SA c' d' := by
  unfold SA at *
  rw [hc 0 (by omega), hc 2 (by omega), hc 5 (by omega), hc 6 (by omega), hc 7 (by omega), hd 0 (by omega), hd 1 (by omega), hd 2 (by omega), hd 3 (by omega), hd 4 (by omega)]
  exact h
theorem pRd_c (h : pRd g d) (hg : g' 0 1 = g 0 1) (hd : ∀ j, j = 0 ∨ (5 ≤ j ∧ j < 11) → d' j = d j) : pRd g' d' := by
  unfold pRd at *
  rw [hg, hd 0 (by omega)]
  exact pR_congr h (fun u hu => hd _ (by omega))
theorem SC_c (h : SC c d) (hc : ∀ i k, (i = 1 ∨ i = 2) → k < 3 → c' i k = c i k) (hd : ∀ j, j = 1 ∨ (5 ≤ j ∧ j < 17) → d' j = d j) (h3 : d 1 ≤ 3) : SC c' d' := by
  refine ⟨fun k hk => ?_, fun k hk => ?_, fun k hk => ?_⟩
  · rw [hc 1 k (by omega) hk, hc 2 k (by omega) hk, hd _ (by omega), hd _ (by omega)]; exact h.1 k hk
  · rw [hd 1 (by omega)] at hk
    rw [hc 1 k (by omega) (by omega), hc 2 k (by omega) (by omega), hd _ (by omega), hd _ (by omega)]; exact h.2.1 k hk
  · rw [hd 1 (by omega)] at hk
    have := (h.1 k (by omega)).2.2.1
    rw [hd (11 + k) (by omega), hd (14 + k) (by omega), hd (5 + d (11 + k)) (by omega)]; exact h.2.2 k hk
theorem stepG_congr {n K s : Nat} {gr gr' pos pos' tgt tgt' : Nat → Nat} (hn : n ≤ 6) (h1 : ∀ v, v < 6 → gr v = gr' v) (h2 : ∀ k, k < K → pos k = pos' k) (h3 : ∀ k, k < K → tgt k = tgt' k) : stepG n gr pos tgt K s = stepG n gr' pos' tgt' K s := by
  unfold stepG
  exact stepM_congr rfl hn h1 h2 h3
theorem rO_c {w r r' : Nat} (h : rO d w r) (hn : d 0 ≤ 6) (h0 : d' 0 = d 0) (hd : ∀ o, 2 ≤ o → o < 15 → d' (24 + 15 * r' + o) = d (24 + 15 * r + o)) : rO d' w r' := by
  obtain ⟨h1, h2, h3⟩ := h
  have e : ∀ o k, 2 ≤ o + k → o + k < 15 → d' (24 + 15 * r' + o + k) = d (24 + 15 * r + o + k) := fun o k z1 z2 => by rw [Nat.add_assoc, Nat.add_assoc (24 + 15 * r)]; exact hd (o + k) z1 z2
  refine ⟨by rw [hd 8 (by omega) (by omega)]; exact h1, fun k hk => ?_, fun s hs => ?_⟩
  · rw [e 9 k (by omega) (by omega), e 12 k (by omega) (by omega)]; exact h2 k hk
  · rw [h3 s hs, h0, hd 8 (by omega) (by omega)]
    exact stepG_congr hn (fun v hv => (e 2 v (by omega) (by omega)).symm) (fun k hk => (e 9 k (by omega) (by omega)).symm) (fun k hk => (e 12 k (by omega) (by omega)).symm)
theorem tq_c (h2 : d' 2 = d 2) (h23 : d' 23 = d 23) (r : Nat) : tq d' r = tq d r := by unfold tq; rw [h2, h23]
theorem tq_lt (d : Nat → Nat) (r : Nat) : tq d r < 8 := Nat.mod_lt _ (by decide)
theorem SD_c (h : SD c g d) (hn : d 0 ≤ 6) (hc3 : ∀ k, k = 2 ∨ k = 3 → c' 3 k = c 3 k) (hc4 : ∀ i, i < 8 → c' 4 i = c 4 i) (hg : ∀ i, i < 8 → g' 5 i = g 5 i) (hd : ∀ j, j = 0 ∨ j = 2 ∨ j = 23 ∨ (24 ≤ j ∧ j < 144 ∧ ¬ (j - 24) % 15 = 1) → d' j = d j) : SD c' g' d' := by
  obtain ⟨h1, h2, h3, h4, h5, h6, h7, h8, h9⟩ := h
  have e2 := hd 2 (by omega)
  have e23 := hd 23 (by omega)
  refine ⟨by rw [hc3 2 (by omega), e2]; exact h1, by rw [hc3 3 (by omega), e23]; exact h2, by rw [e23]; exact h3, by rw [e23]; exact h4, by rw [e23, e2]; exact h5, fun i hi => by rw [hc4 i hi]; exact h6 i hi, fun i hi => by rw [hg i hi]; exact h7 i hi, fun r hr => ?_, fun r hr1 hr => ?_⟩
  · rw [e23] at hr
    rw [tq_c e2 e23, hc4 _ (tq_lt _ _), hd _ (by omega)]
    exact h8 r hr
  · rw [e23] at hr
    rw [tq_c e2 e23, hg _ (tq_lt _ _)]
    exact rO_c (h9 r hr1 hr) hn (hd 0 (by omega)) (fun o h1 h2 => hd _ (by omega))
theorem SJ_c (h : SJ d) (h3 : d 1 ≤ 3) (h23 : 1 ≤ d 23 ∧ d 23 ≤ 8) (hd : ∀ j, j ≤ 1 ∨ (11 ≤ j ∧ j < 14) ∨ j = 23 ∨ (24 ≤ j ∧ j < 144 ∧ (j - 24) % 15 = 0) → d' j = d j) : SJ d' := by
  obtain ⟨h1, h2⟩ := h
  have e23 := hd 23 (by omega)
  refine ⟨fun k hk => ?_, fun v hv => ?_⟩
  · rw [hd 1 (by omega)] at hk
    rw [e23, hd _ (by omega), hd (11 + k) (by omega)]; exact h1 k hk
  · rw [e23, hd _ (by omega)] at hv
    rw [hd 0 (by omega)]; exact h2 v hv
theorem SE_c (h : SE c g d) (h23 : d 23 ≤ 8) (hc6 : ∀ k, k < 6 → c' 6 k = c 6 k) (hc7 : ∀ i, i < 8 → c' 7 i = c 7 i) (hg : g' 0 1 = g 0 1) (hd : ∀ j, j = 2 ∨ (17 ≤ j ∧ j < 24) ∨ (24 ≤ j ∧ j < 144 ∧ (j - 24) % 15 = 1) → d' j = d j) : SE c' g' d' := by
  obtain ⟨h1, h2, h3, h4, h5, h6, h7, h8, h9, h10, h11, h12, h13, h14, h15⟩ := h
  have e2 := hd 2 (by omega)
  have e23 := hd 23 (by omega)
  have e17 := hd 17 (by omega)
  have e18 := hd 18 (by omega)
  have e19 := hd 19 (by omega)
  have e20 := hd 20 (by omega)
  have e21 := hd 21 (by omega)
  have e22 := hd 22 (by omega)
  refine ⟨by rw [hc6 0 (by omega), e17]; exact h1, by rw [e17]; exact h2, by rw [hc6 3 (by omega)]; exact h3, by rw [e20]; exact h4, by rw [hc6 1 (by omega)]; exact h5, by rw [hc6 2 (by omega)]; exact h6, by rw [hc6 4 (by omega)]; exact h7, by rw [hc6 5 (by omega)]; exact h8, by rw [e18]; exact h9, by rw [e19]; exact h10, by rw [e21]; exact h11, by rw [e22]; exact h12, fun i hi => by rw [hc7 i hi]; exact h13 i hi, fun z => ?_, fun z1 z2 => ?_⟩
  · rw [hc6 1 (by omega), hc6 2 (by omega), hc6 3 (by omega), hc6 4 (by omega), hc6 5 (by omega), hg, e2, e18, e19, e20, e21, e22]
    exact h14 (by rw [← e17]; exact z)
  · rw [e17] at z1
    rw [e20] at z2
    obtain ⟨a1, a2⟩ := h15 z1 z2
    refine ⟨by rw [e23, e18, hd _ (by omega)]; exact a1, fun r hr z => ?_⟩
    rw [e23] at hr
    rw [e22, e2, e23] at z
    rw [tq_c e2 e23, hc7 _ (tq_lt _ _), hd _ (by omega)]
    exact a2 r hr z
/-- the relation speaks of the kept slots alone -/
theorem Sr_c (h : Sr c g d) (hc : ∀ i k, slF i k → c' i k = c i k) (hg : ∀ i k, slG i k → g' i k = g i k) (hd : ∀ j, j < 144 → d' j = d j) : Sr c' g' d' := by
  obtain ⟨a, b, s, e, j, f⟩ := h
  refine ⟨SA_c a (fun k hk => hc _ _ ?_) (fun i hi => hd i (by omega)), pRd_c b (hg _ _ ?_) (fun i hi => hd i (by omega)), SC_c s (fun i k h1 h2 => hc _ _ ?_) (fun i hi => hd i (by omega)) a.2.2.2.2.1, SD_c e a.2.2.1 (fun k hk => hc _ _ ?_) (fun i hi => hc _ _ ?_) (fun i hi => hg _ _ ?_) (fun i hi => hd i (by omega)), SJ_c j a.2.2.2.2.1 ⟨e.2.2.1, e.2.2.2.1⟩ (fun i hi => hd i (by omega)), SE_c f e.2.2.2.1 (fun k hk => hc _ _ ?_) (fun i hi => hc _ _ ?_) (hg _ _ ?_) (fun i hi => hd i (by omega))⟩
  · unfold slF; omega
  · unfold slG; omega
  · unfold slF; omega
  · unfold slF; omega
  · unfold slF; omega
  · unfold slG; omega
  · unfold slF; omega
  · unfold slF; omega
  · unfold slG; omega
end REL
def txOk (F : FF) : Prop := F 63 4 = F 1 4 ∧ F 1 4 ≤ 60 ∧ (∀ i, i < 60 → F 51 i < 65536 ∧ F 66 i < 65536) ∧ ∀ i, i < F 1 4 → F 51 i = F 66 i
def planGood (F G : FF) : Prop := F 52 2 = F 2 2 ∧ ∃ Z, bZ (sucC (F 2 0) (G 2 1) (F 2 2)) (bfX N2 0 [] [sit0 F]) = Z ∧ cRes 52 F Z
def hisOk (F G : FF) (h : Nat → Nat) : Prop := ∀ i, i < F 1 2 → Sr (vw F (h i)) (vw G (h i)) (fun j => F 65 (144 * i + j))
def J (xs : Nat → Int32) (F G : FF) (h : Nat → Nat) : Prop := dOk F h ∧ F 63 2 = F 1 2 ∧ Sr (vw F 2) (vw G 2) (F 64) ∧ hisOk F G h ∧ txOk F ∧ F 1 6 ≤ 1 ∧ (F 1 6 = 1 → planGood F G) ∧ sOk F ∧ ∀ j, nI (F 0 j) = xs j
section REM
variable {F G : FF} {h : Nat → Nat} {xs : Nat → Int32}
theorem Sr_nOk (hS : Sr (vw F 2) (vw G 2) (F 64)) : nOk F G := by
  obtain ⟨⟨a1, a2, a3, a4, a5, a6, a7, a8, a9, a10, a11⟩, hp, ⟨c1, c2, c3⟩, ⟨d1, d2, d3, d4, d5, d6, d7, d8, d9⟩, _, ⟨e1, e2, e3, e4, e5, e6, e7, e8, e9, e10, e11, e12, e13, e14, e15⟩⟩ := hS
  have b1 : F 2 0 = F 64 0 := a1
  have b4 : F 2 2 = F 64 1 := a4
  have b6 : F 2 5 = F 64 2 := a6
  have b8 : F 2 6 = F 64 3 := a8
  have b10 : F 2 7 = F 64 4 := a10
  have q1 : F 5 2 = F 64 2 := d1
  have q2 : F 5 3 = F 64 23 := d2
  have r1 : F 8 0 = F 64 17 := e1
  refine ⟨by omega, by omega, by omega, by omega, by omega, Nat.lt_trans hp.2.1 (by decide), fun k hk => (c1 k hk).1, fun k hk => (c1 k hk).2.1, d6, d7, by omega, by omega, by omega, by omega, e3, e5, e6, e7, e8, e13⟩
theorem Sr_gOk (hS : Sr (vw F 2) (vw G 2) (F 64)) (h5 : F 63 2 ≤ 5) : gOk F := by
  obtain ⟨⟨a1, a2, a3, a4, a5, a6, a7, a8, a9, a10, a11⟩, hp, ⟨c1, c2, c3⟩, ⟨d1, d2, d3, d4, d5, d6, d7, d8, d9⟩, _, ⟨e1, e2, e3, e4, e5, e6, e7, e8, e9, e10, e11, e12, e13, e14, e15⟩⟩ := hS
  refine ⟨a2, a3, a5, a7, a9, a11, fun v hv => (hp.2.2.2.1 v hv).1, fun k hk => (c1 k hk).2.2.1, fun k hk => (c1 k hk).2.2.2, e2, e9, e10, e4, e11, e12, d3, d4, d5, fun i hi => ?_, h5⟩
  rw [← d8 i hi]
  exact d6 _ (tq_lt _ _)
theorem Sr_rbOk (hS : Sr (vw F 2) (vw G 2) (F 64)) : rbOk F := by
  obtain ⟨_, _, _, ⟨d1, d2, d3, d4, d5, d6, d7, d8, d9⟩, _, _⟩ := hS
  intro r h1 h2
  obtain ⟨z1, z2, _⟩ := d9 r h1 h2
  exact ⟨z1, fun k hk => ⟨Nat.lt_trans (z2 k hk).1 (by decide), Nat.lt_trans (z2 k hk).2 (by decide)⟩⟩
theorem rc65 (j : Nat) : rcM F 65 j = if 144 * rcK F ≤ j ∧ j < 144 * rcK F + 144 then F 64 (j - 144 * rcK F) else if F 63 2 = 5 ∧ j < 576 then F 65 (j + 144) else F 65 j := by
  unfold rcM
  rw [pu_off (by decide)]
  simp only [sh2]
  by_cases c : 144 * rcK F ≤ j ∧ j < 144 * rcK F + 144
  · rw [if_pos ⟨trivial, c⟩, if_pos c]
    split
    · rw [pu_off (by decide)]; simp only [sh1]; rw [if_neg (by omega)]
    · rfl
  · rw [if_neg (fun z => c z.2), if_neg c]
    by_cases c5 : F 63 2 = 5
    · rw [if_pos c5, pu_off (by decide)]
      simp only [sh1]
      by_cases c6 : j < 576
      · rw [if_pos ⟨trivial, c6⟩, if_pos ⟨c5, c6⟩]
      · rw [if_neg (fun z => c6 z.2), if_neg (fun z => c6 z.2)]
    · rw [if_neg c5, if_neg (fun z => c5 z.1)]
theorem h_apart (hh : hOk h) {i k : Nat} (hi : i < 5) (hk : k < 5) (hne : ¬ i = k) : h i + 8 ≤ h k ∨ h k + 8 ≤ h i := by
  have h1 := hh.1 i hi
  have h2 := hh.1 k hk
  have h3 : ¬ h i = h k := fun z => hne (hh.2 i k hi hk z)
  omega
theorem h_rng (hh : hOk h) {i : Nat} (hi : i < 5) : 11 ≤ h i ∧ h i + 8 ≤ 51 := by
  have h1 := hh.1 i hi
  omega
/-- the history behind a recorded change -/
theorem J_hist (hd : dOk F h) (h2 : F 63 2 = F 1 2) (hS : Sr (vw F 2) (vw G 2) (F 64)) (hH : hisOk F G h) : rcK F = rmK F ∧ ∀ i, i < rmK F + 1 → Sr (vw (rmF F h) (rmH F h i)) (vw (rmG F G h) (rmH F h i)) (fun j => rcM F 65 (144 * i + j)) := by
  obtain ⟨hr, hh⟩ := hd
  have ek : rcK F = rmK F := by
    unfold rcK rmK
    rw [h2]
    by_cases c : F 1 2 = 5
    · rw [if_pos c, if_neg (by omega)]
    · rw [if_neg c, if_pos (by omega)]
  have hh1 := rmH_ok ⟨hr, hh⟩
  have hk := rmK_lt ⟨hr, hh⟩
  refine ⟨ek, fun i hi => ?_⟩
  have hge := h_rng hh1 hk
  by_cases e : i = rmK F
  · subst e
    refine Sr_c hS (fun a b hs => ?_) (fun a b hs => ?_) (fun j hj => ?_)
    · unfold vw rmF
      have ha : a ≤ 7 := by unfold slF at hs; omega
      rw [pu_off (by omega), pu_off (by omega), cpF_in (by omega) hs]
      split
      · rfl
      · rw [pu_off (by omega)]
    · unfold vw rmG
      rw [cpG_in (by omega) hs]
    · rw [rc65, ek, if_pos (by omega), show 144 * rmK F + j - 144 * rmK F = j by omega]
  · have hi4 : i < rmK F := by omega
    have hap := h_apart hh1 (show i < 5 by omega) hk e
    have hgi := h_rng hh1 (show i < 5 by omega)
    have hfo : ∀ a b, a ≤ 7 → vw (rmF F h) (rmH F h i) a b = F (rmH F h i + a) b := by
      intro a b ha
      unfold vw rmF
      rw [pu_off (by omega), pu_off (by omega), cpF_off (by omega)]
      split
      · rfl
      · rw [pu_off (by omega)]
    have hgo : ∀ a b, a ≤ 7 → vw (rmG F G h) (rmH F h i) a b = G (rmH F h i + a) b := by
      intro a b ha
      unfold vw rmG
      rw [cpG_off (by omega)]
    by_cases c : F 1 2 < 5
    · have e1 : rmH F h = h := by unfold rmH; rw [if_pos c]
      have e2 : rmK F = F 1 2 := by unfold rmK; rw [if_pos c]
      rw [e1] at hfo hgo ⊢
      refine Sr_c (hH i (by omega)) (fun a b hs => hfo a b (by unfold slF at hs; omega)) (fun a b hs => hgo a b (by unfold slG at hs; omega)) (fun j hj => ?_)
      rw [rc65, ek, if_neg (by omega), if_neg (by omega)]
    · have e1 : rmH F h = rotH h := by unfold rmH; rw [if_neg c]
      have e2 : rmK F = 4 := by unfold rmK; rw [if_neg c]
      have e3 : rmH F h i = h (i + 1) := by
        rw [e1]
        rcases (show i = 0 ∨ i = 1 ∨ i = 2 ∨ i = 3 by omega) with rfl | rfl | rfl | rfl <;> rfl
      rw [e3] at hfo hgo ⊢
      refine Sr_c (hH (i + 1) (by omega)) (fun a b hs => hfo a b (by unfold slF at hs; omega)) (fun a b hs => hgo a b (by unfold slG at hs; omega)) (fun j hj => ?_)
      rw [rc65, ek, if_neg (by omega), if_pos (by omega), show 144 * i + j + 144 = 144 * (i + 1) + j by omega]
end REM
