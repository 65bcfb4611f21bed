/-! the law: its start, its loop -/
section LWH
variable {L : Nat} {F G : FF} {h : Nat → Nat} {xs : Nat → Int32}
theorem ini_0 {p j : Nat} (h1 : ¬ (p = 2 ∧ j = 0)) (h2 : ¬ (p = 5 ∧ j = 3)) (h3 : ¬ (p = 6 ∧ j = 0)) (h4 : ¬ (p = 64 ∧ (j = 0 ∨ j = 23 ∨ j = 24 ∨ j = 25))) : iniV p j = 0 := by
  unfold iniV
  rw [if_neg h1, if_neg h2, if_neg h3, if_neg (fun z => h4 ⟨z.1, Or.inl z.2⟩), if_neg (fun z => h4 ⟨z.1, Or.inr (Or.inl z.2)⟩), if_neg (fun z => h4 ⟨z.1, Or.inr (Or.inr (Or.inl z.2))⟩), if_neg (fun z => h4 ⟨z.1, Or.inr (Or.inr (Or.inr z.2))⟩)]
theorem f15 : ∀ v, (15 : Nat).testBit v = true → v < 4 := by
  intro v hv
  by_cases c : v < 4
  · exact c
  · rw [zb_lt (show (15 : Nat) < 2 ^ 4 by decide) (by omega)] at hv
    cases hv
theorem Sr_ini : Sr (fun i k => iniV (2 + i) k) (fun i k => if i = 0 ∧ k = 1 then wStays 4 else 0) (iniV 64) := by
  refine ⟨⟨rfl, by decide, by decide, rfl, by decide, rfl, by decide, rfl, by decide, rfl, by decide⟩, ?_, ⟨fun k hk => ?_, fun k hk => ?_, fun k hk => ?_⟩, ⟨rfl, rfl, by decide, by decide, by decide, fun i hi => ?_, fun i hi => ?_, fun r hr => ?_, fun r h1 hr => ?_⟩, ⟨fun k hk => ?_, fun v hv => ?_⟩, ⟨rfl, by decide, by decide, by decide, by decide, by decide, by decide, by decide, by decide, by decide, by decide, by decide, fun i hi => ?_, fun z => ?_, fun z => ?_⟩⟩
  · unfold pRd
    show pR 4 (wStays 4) _
    exact pR_congr (pR_0 (by decide)) (fun u hu => ini_0 (by omega) (by omega) (by omega) (by omega))
  · show iniV (2 + 1) k < 6 ∧ iniV (2 + 2) k < 6 ∧ _
    rw [ini_0 (by omega) (by omega) (by omega) (by omega), ini_0 (by omega) (by omega) (by omega) (by omega), ini_0 (by omega) (by omega) (by omega) (by omega), ini_0 (by omega) (by omega) (by omega) (by omega)]
    decide
  · exact absurd hk (Nat.not_lt_zero _)
  · exact absurd hk (Nat.not_lt_zero _)
  · show iniV (2 + 4) i < 64
    by_cases c : i = 0
    · rw [c]; decide
    · rw [ini_0 (by omega) (by omega) (by omega) (by omega)]; decide
  · show (if (5 : Nat) = 0 ∧ i = 1 then wStays 4 else 0) < _
    rw [if_neg (by omega)]; decide
  · have hr : r < 1 := hr
    have : r = 0 := by omega
    subst this
    rfl
  · have hr : r < 1 := hr
    omega
  · exact absurd hk (Nat.not_lt_zero _)
  · exact f15 v hv
  · show iniV (2 + 7) i < 6
    rw [ini_0 (by omega) (by omega) (by omega) (by omega)]; decide
  · exact absurd z (by decide)
  · exact absurd z (by decide)
theorem h00_ok : hOk h00 := by
  refine ⟨fun k hk => ?_, fun i k hi hk e => ?_⟩
  · unfold h00; omega
  · unfold h00 at e; omega
theorem J_ini : J xs (F1z xs) (jN J1z) h00 := by
  have z : ∀ p j, 1 ≤ p → p ≤ 73 → ¬ (p = 2 ∧ j = 0) → ¬ (p = 5 ∧ j = 3) → ¬ (p = 6 ∧ j = 0) → ¬ p = 64 → F1z xs p j = 0 := fun p j h1 h2 h3 h4 h5 h6 => by rw [F1_at h1 h2]; exact ini_0 h3 h4 h5 (fun z => h6 z.1)
  have e12 : F1z xs 1 2 = 0 := z 1 2 (by omega) (by omega) (by omega) (by omega) (by omega) (by omega)
  have e14 : F1z xs 1 4 = 0 := z 1 4 (by omega) (by omega) (by omega) (by omega) (by omega) (by omega)
  have e16 : F1z xs 1 6 = 0 := z 1 6 (by omega) (by omega) (by omega) (by omega) (by omega) (by omega)
  refine ⟨⟨by omega, h00_ok⟩, by rw [z 63 2 (by omega) (by omega) (by omega) (by omega) (by omega) (by omega), e12], ?_, fun i hi => by omega, ⟨?_, by omega, fun i hi => ?_, fun i hi => by omega⟩, by omega, fun q => by omega, ⟨fun s hs => ?_, ?_⟩, F1_0⟩
  · refine Sr_c Sr_ini (fun a b hs => ?_) (fun a b hs => ?_) (fun j hj => F1_at (by omega) (by omega))
    · have := slF_le hs
      exact F1_at (by omega) (by omega)
    · show jN J1z (2 + a) b = if a = 0 ∧ b = 1 then wStays 4 else 0
      rw [J1_at]
      by_cases c : a = 0 ∧ b = 1
      · rw [if_pos (by omega), if_pos c]
      · rw [if_neg (by omega), if_neg c]
  · rw [z 63 4 (by omega) (by omega) (by omega) (by omega) (by omega) (by omega), e14]
  · rw [z 51 i (by omega) (by omega) (by omega) (by omega) (by omega) (by omega), z 66 i (by omega) (by omega) (by omega) (by omega) (by omega) (by omega)]
    decide
  · rw [z 54 s (by omega) (by omega) (by omega) (by omega) (by omega) (by omega), z 58 s (by omega) (by omega) (by omega) (by omega) (by omega) (by omega), z 62 s (by omega) (by omega) (by omega) (by omega) (by omega) (by omega)]
    exact ⟨by decide, by decide, Or.inr (Nat.zero_le _)⟩
  · rw [z 60 5 (by omega) (by omega) (by omega) (by omega) (by omega) (by omega)]
    exact Nat.zero_le _
set_option maxRecDepth 8000 in
theorem q_reset {i : Nat} {Q : Option Value → pq_M → Prop} (hL : L ≤ 2048) (hi : i + 4 ≤ L) (hJ : J xs F G h) (K : ∀ (F2 G2 : FF) (h2 : Nat → Nat), J xs F2 G2 h2 → pq_Ev 40 156 771 [some (.ref 0), some (.ref 1), some (.ref 63), some (.int (nI i))] [] (pq_Sh L, pn F2, pl G2, pq_rt h2) Q) : pq_Ev 40 156 164 [some (.ref 0), some (.ref 1), some (.ref 63), some (.int (nI i))] [] (pq_Sh L, pn F, pl G, pq_rt h) Q := by
  (repeat (first | refine E_st rfl ?_ | refine E_go rfl ?_))
  rw [nI_add]
  refine E_ial rfl rfl (n := L) (k := i + 1) (by omega) (by omega) ?_
  rw [hJ.2.2.2.2.2.2.2.2 (i + 1)]
  refine E_ca rfl (show 30 ≤ 40 by decide) (b_reset hJ _) ?_
  rintro r M' ⟨x, F1, G1, h1, rfl, rfl, h0, hm⟩
  (repeat (first | refine E_st rfl ?_ | refine E_go rfl ?_))
  rw [nI_add]
  refine E_ial rfl rfl (n := L) (k := i + 1) (by omega) (by omega) ?_
  rw [h0 (i + 1)]
  refine E_ca rfl (show 30 ≤ 40 by decide) hm ?_
  rintro r2 M2 ⟨rfl, F2, rfl, hJ2⟩
  refine E_if rfl rfl ?_
  exact K F2 G1 h1 hJ2
set_option maxRecDepth 8000 in
theorem q_link {i : Nat} {Q : Option Value → pq_M → Prop} (hL : L ≤ 2048) (hi : i + 4 ≤ L) (hJ : J xs F G h) (K : ∀ (F2 G2 : FF) (h2 : Nat → Nat), J xs F2 G2 h2 → pq_Ev 40 156 771 [some (.ref 0), some (.ref 1), some (.ref 63), some (.int (nI i))] [] (pq_Sh L, pn F2, pl G2, pq_rt h2) Q) : pq_Ev 40 156 187 [some (.ref 0), some (.ref 1), some (.ref 63), some (.int (nI i))] [] (pq_Sh L, pn F, pl G, pq_rt h) Q := by
  (repeat (first | refine E_st rfl ?_ | refine E_go rfl ?_))
  rw [nI_add]
  refine E_ial rfl rfl (n := L) (k := i + 1) (by omega) (by omega) ?_
  rw [hJ.2.2.2.2.2.2.2.2 (i + 1)]
  (repeat (first | refine E_st rfl ?_ | refine E_go rfl ?_))
  rw [nI_add]
  refine E_ial rfl rfl (n := L) (k := i + 2) (by omega) (by omega) ?_
  rw [hJ.2.2.2.2.2.2.2.2 (i + 2)]
  (repeat (first | refine E_st rfl ?_ | refine E_go rfl ?_))
  rw [nI_add]
  refine E_ial rfl rfl (n := L) (k := i + 3) (by omega) (by omega) ?_
  rw [hJ.2.2.2.2.2.2.2.2 (i + 3)]
  refine E_ca rfl (show 30 ≤ 40 by decide) (b_link hJ _ _ _) ?_
  rintro r M' ⟨x, F1, G1, h1, rfl, rfl, h0, hm⟩
  (repeat (first | refine E_st rfl ?_ | refine E_go rfl ?_))
  rw [nI_add]
  refine E_ial rfl rfl (n := L) (k := i + 1) (by omega) (by omega) ?_
  rw [h0 (i + 1)]
  (repeat (first | refine E_st rfl ?_ | refine E_go rfl ?_))
  rw [nI_add]
  refine E_ial rfl rfl (n := L) (k := i + 2) (by omega) (by omega) ?_
  rw [h0 (i + 2)]
  (repeat (first | refine E_st rfl ?_ | refine E_go rfl ?_))
  rw [nI_add]
  refine E_ial rfl rfl (n := L) (k := i + 3) (by omega) (by omega) ?_
  rw [h0 (i + 3)]
  refine E_ca rfl (show 30 ≤ 40 by decide) hm ?_
  rintro r2 M2 ⟨rfl, F2, rfl, hJ2⟩
  refine E_if rfl rfl ?_
  exact K F2 G1 h1 hJ2
set_option maxRecDepth 8000 in
theorem q_lay {i : Nat} {Q : Option Value → pq_M → Prop} (hL : L ≤ 2048) (hi : i + 4 ≤ L) (hJ : J xs F G h) (K : ∀ (F2 G2 : FF) (h2 : Nat → Nat), J xs F2 G2 h2 → pq_Ev 40 156 771 [some (.ref 0), some (.ref 1), some (.ref 63), some (.int (nI i))] [] (pq_Sh L, pn F2, pl G2, pq_rt h2) Q) : pq_Ev 40 156 230 [some (.ref 0), some (.ref 1), some (.ref 63), some (.int (nI i))] [] (pq_Sh L, pn F, pl G, pq_rt h) Q := by
  (repeat (first | refine E_st rfl ?_ | refine E_go rfl ?_))
  refine E_ca rfl (show 30 ≤ 40 by decide) (b_lay hJ) ?_
  rintro r M' ⟨x, F1, G1, h1, rfl, rfl, h0, hm⟩
  (repeat (first | refine E_st rfl ?_ | refine E_go rfl ?_))
  refine E_ca rfl (show 30 ≤ 40 by decide) hm ?_
  rintro r2 M2 ⟨rfl, F2, rfl, hJ2⟩
  refine E_if rfl rfl ?_
  exact K F2 G1 h1 hJ2
set_option maxRecDepth 8000 in
theorem q_put {i : Nat} {Q : Option Value → pq_M → Prop} (hL : L ≤ 2048) (hi : i + 4 ≤ L) (hJ : J xs F G h) (K : ∀ (F2 G2 : FF) (h2 : Nat → Nat), J xs F2 G2 h2 → pq_Ev 40 156 771 [some (.ref 0), some (.ref 1), some (.ref 63), some (.int (nI i))] [] (pq_Sh L, pn F2, pl G2, pq_rt h2) Q) : pq_Ev 40 156 243 [some (.ref 0), some (.ref 1), some (.ref 63), some (.int (nI i))] [] (pq_Sh L, pn F, pl G, pq_rt h) Q := by
  (repeat (first | refine E_st rfl ?_ | refine E_go rfl ?_))
  rw [nI_add]
  refine E_ial rfl rfl (n := L) (k := i + 1) (by omega) (by omega) ?_
  rw [hJ.2.2.2.2.2.2.2.2 (i + 1)]
  refine E_ca rfl (show 30 ≤ 40 by decide) (b_put hJ _) ?_
  rintro r M' ⟨x, F1, G1, h1, rfl, rfl, h0, hm⟩
  (repeat (first | refine E_st rfl ?_ | refine E_go rfl ?_))
  rw [nI_add]
  refine E_ial rfl rfl (n := L) (k := i + 1) (by omega) (by omega) ?_
  rw [h0 (i + 1)]
  refine E_ca rfl (show 30 ≤ 40 by decide) hm ?_
  rintro r2 M2 ⟨rfl, F2, rfl, hJ2⟩
  refine E_if rfl rfl ?_
  exact K F2 G1 h1 hJ2
set_option maxRecDepth 8000 in
theorem q_leave {i : Nat} {Q : Option Value → pq_M → Prop} (hL : L ≤ 2048) (hi : i + 4 ≤ L) (hJ : J xs F G h) (K : ∀ (F2 G2 : FF) (h2 : Nat → Nat), J xs F2 G2 h2 → pq_Ev 40 156 771 [some (.ref 0), some (.ref 1), some (.ref 63), some (.int (nI i))] [] (pq_Sh L, pn F2, pl G2, pq_rt h2) Q) : pq_Ev 40 156 266 [some (.ref 0), some (.ref 1), some (.ref 63), some (.int (nI i))] [] (pq_Sh L, pn F, pl G, pq_rt h) Q := by
  (repeat (first | refine E_st rfl ?_ | refine E_go rfl ?_))
  refine E_ca rfl (show 30 ≤ 40 by decide) (b_leave hJ) ?_
  rintro r M' ⟨x, F1, G1, h1, rfl, rfl, h0, hm⟩
  (repeat (first | refine E_st rfl ?_ | refine E_go rfl ?_))
  refine E_ca rfl (show 30 ≤ 40 by decide) hm ?_
  rintro r2 M2 ⟨rfl, F2, rfl, hJ2⟩
  refine E_if rfl rfl ?_
  exact K F2 G1 h1 hJ2
set_option maxRecDepth 8000 in
theorem q_order {i : Nat} {Q : Option Value → pq_M → Prop} (hL : L ≤ 2048) (hi : i + 4 ≤ L) (hJ : J xs F G h) (K : ∀ (F2 G2 : FF) (h2 : Nat → Nat), J xs F2 G2 h2 → pq_Ev 40 156 771 [some (.ref 0), some (.ref 1), some (.ref 63), some (.int (nI i))] [] (pq_Sh L, pn F2, pl G2, pq_rt h2) Q) : pq_Ev 40 156 279 [some (.ref 0), some (.ref 1), some (.ref 63), some (.int (nI i))] [] (pq_Sh L, pn F, pl G, pq_rt h) Q := by
  (repeat (first | refine E_st rfl ?_ | refine E_go rfl ?_))
  rw [nI_add]
  refine E_ial rfl rfl (n := L) (k := i + 1) (by omega) (by omega) ?_
  rw [hJ.2.2.2.2.2.2.2.2 (i + 1)]
  (repeat (first | refine E_st rfl ?_ | refine E_go rfl ?_))
  rw [nI_add]
  refine E_ial rfl rfl (n := L) (k := i + 2) (by omega) (by omega) ?_
  rw [hJ.2.2.2.2.2.2.2.2 (i + 2)]
  refine E_ca rfl (show 30 ≤ 40 by decide) (b_order hJ _ _) ?_
  rintro r M' ⟨x, F1, G1, h1, rfl, rfl, h0, hm⟩
  (repeat (first | refine E_st rfl ?_ | refine E_go rfl ?_))
  rw [nI_add]
  refine E_ial rfl rfl (n := L) (k := i + 1) (by omega) (by omega) ?_
  rw [h0 (i + 1)]
  (repeat (first | refine E_st rfl ?_ | refine E_go rfl ?_))
  rw [nI_add]
  refine E_ial rfl rfl (n := L) (k := i + 2) (by omega) (by omega) ?_
  rw [h0 (i + 2)]
  refine E_ca rfl (show 30 ≤ 40 by decide) hm ?_
  rintro r2 M2 ⟨rfl, F2, rfl, hJ2⟩
  refine E_if rfl rfl ?_
  exact K F2 G1 h1 hJ2
set_option maxRecDepth 8000 in
theorem q_release {i : Nat} {Q : Option Value → pq_M → Prop} (hL : L ≤ 2048) (hi : i + 4 ≤ L) (hJ : J xs F G h) (K : ∀ (F2 G2 : FF) (h2 : Nat → Nat), J xs F2 G2 h2 → pq_Ev 40 156 771 [some (.ref 0), some (.ref 1), some (.ref 63), some (.int (nI i))] [] (pq_Sh L, pn F2, pl G2, pq_rt h2) Q) : pq_Ev 40 156 312 [some (.ref 0), some (.ref 1), some (.ref 63), some (.int (nI i))] [] (pq_Sh L, pn F, pl G, pq_rt h) Q := by
  (repeat (first | refine E_st rfl ?_ | refine E_go rfl ?_))
  refine E_ca rfl (show 30 ≤ 40 by decide) (b_release hJ) ?_
  rintro r M' ⟨x, F1, G1, h1, rfl, rfl, h0, hm⟩
  (repeat (first | refine E_st rfl ?_ | refine E_go rfl ?_))
  refine E_ca rfl (show 30 ≤ 40 by decide) hm ?_
  rintro r2 M2 ⟨rfl, F2, rfl, hJ2⟩
  refine E_if rfl rfl ?_
  exact K F2 G1 h1 hJ2
set_option maxRecDepth 8000 in
theorem q_belief {i : Nat} {Q : Option Value → pq_M → Prop} (hL : L ≤ 2048) (hi : i + 4 ≤ L) (hJ : J xs F G h) (K : ∀ (F2 G2 : FF) (h2 : Nat → Nat), J xs F2 G2 h2 → pq_Ev 40 156 771 [some (.ref 0), some (.ref 1), some (.ref 63), some (.int (nI i))] [] (pq_Sh L, pn F2, pl G2, pq_rt h2) Q) : pq_Ev 40 156 325 [some (.ref 0), some (.ref 1), some (.ref 63), some (.int (nI i))] [] (pq_Sh L, pn F, pl G, pq_rt h) Q := by
  (repeat (first | refine E_st rfl ?_ | refine E_go rfl ?_))
  refine E_ca rfl (show 30 ≤ 40 by decide) (b_belief hJ) ?_
  rintro r M' ⟨x, F1, G1, h1, rfl, rfl, h0, hm⟩
  (repeat (first | refine E_st rfl ?_ | refine E_go rfl ?_))
  refine E_ca rfl (show 30 ≤ 40 by decide) hm ?_
  rintro r2 M2 ⟨rfl, F2, rfl, hJ2⟩
  refine E_if rfl rfl ?_
  exact K F2 G1 h1 hJ2
set_option maxRecDepth 8000 in
theorem q_bafter {i : Nat} {Q : Option Value → pq_M → Prop} (hL : L ≤ 2048) (hi : i + 4 ≤ L) (hJ : J xs F G h) (K : ∀ (F2 G2 : FF) (h2 : Nat → Nat), J xs F2 G2 h2 → pq_Ev 40 156 771 [some (.ref 0), some (.ref 1), some (.ref 63), some (.int (nI i))] [] (pq_Sh L, pn F2, pl G2, pq_rt h2) Q) : pq_Ev 40 156 338 [some (.ref 0), some (.ref 1), some (.ref 63), some (.int (nI i))] [] (pq_Sh L, pn F, pl G, pq_rt h) Q := by
  (repeat (first | refine E_st rfl ?_ | refine E_go rfl ?_))
  rw [nI_add]
  refine E_ial rfl rfl (n := L) (k := i + 1) (by omega) (by omega) ?_
  rw [hJ.2.2.2.2.2.2.2.2 (i + 1)]
  refine E_ca rfl (show 30 ≤ 40 by decide) (b_bafter hJ _) ?_
  rintro r M' ⟨x, F1, G1, h1, rfl, rfl, h0, hm⟩
  (repeat (first | refine E_st rfl ?_ | refine E_go rfl ?_))
  rw [nI_add]
  refine E_ial rfl rfl (n := L) (k := i + 1) (by omega) (by omega) ?_
  rw [h0 (i + 1)]
  refine E_ca rfl (show 30 ≤ 40 by decide) hm ?_
  rintro r2 M2 ⟨rfl, F2, rfl, hJ2⟩
  refine E_if rfl rfl ?_
  exact K F2 G1 h1 hJ2
set_option maxRecDepth 8000 in
theorem q_tell {i : Nat} {Q : Option Value → pq_M → Prop} (hL : L ≤ 2048) (hi : i + 4 ≤ L) (hJ : J xs F G h) (K : ∀ (F2 G2 : FF) (h2 : Nat → Nat), J xs F2 G2 h2 → pq_Ev 40 156 771 [some (.ref 0), some (.ref 1), some (.ref 63), some (.int (nI i))] [] (pq_Sh L, pn F2, pl G2, pq_rt h2) Q) : pq_Ev 40 156 361 [some (.ref 0), some (.ref 1), some (.ref 63), some (.int (nI i))] [] (pq_Sh L, pn F, pl G, pq_rt h) Q := by
  (repeat (first | refine E_st rfl ?_ | refine E_go rfl ?_))
  rw [nI_add]
  refine E_ial rfl rfl (n := L) (k := i + 1) (by omega) (by omega) ?_
  rw [hJ.2.2.2.2.2.2.2.2 (i + 1)]
  (repeat (first | refine E_st rfl ?_ | refine E_go rfl ?_))
  rw [nI_add]
  refine E_ial rfl rfl (n := L) (k := i + 2) (by omega) (by omega) ?_
  rw [hJ.2.2.2.2.2.2.2.2 (i + 2)]
  refine E_ca rfl (show 30 ≤ 40 by decide) (b_tell hJ _ _) ?_
  rintro r M' ⟨x, F1, G1, h1, rfl, rfl, h0, hm⟩
  (repeat (first | refine E_st rfl ?_ | refine E_go rfl ?_))
  rw [nI_add]
  refine E_ial rfl rfl (n := L) (k := i + 1) (by omega) (by omega) ?_
  rw [h0 (i + 1)]
  (repeat (first | refine E_st rfl ?_ | refine E_go rfl ?_))
  rw [nI_add]
  refine E_ial rfl rfl (n := L) (k := i + 2) (by omega) (by omega) ?_
  rw [h0 (i + 2)]
  refine E_ca rfl (show 30 ≤ 40 by decide) hm ?_
  rintro r2 M2 ⟨rfl, F2, rfl, hJ2⟩
  refine E_if rfl rfl ?_
  exact K F2 G1 h1 hJ2
set_option maxRecDepth 8000 in
theorem q_turn {i : Nat} {Q : Option Value → pq_M → Prop} (hL : L ≤ 2048) (hi : i + 4 ≤ L) (hJ : J xs F G h) (K : ∀ (F2 G2 : FF) (h2 : Nat → Nat), J xs F2 G2 h2 → pq_Ev 40 156 771 [some (.ref 0), some (.ref 1), some (.ref 63), some (.int (nI i))] [] (pq_Sh L, pn F2, pl G2, pq_rt h2) Q) : pq_Ev 40 156 394 [some (.ref 0), some (.ref 1), some (.ref 63), some (.int (nI i))] [] (pq_Sh L, pn F, pl G, pq_rt h) Q := by
  (repeat (first | refine E_st rfl ?_ | refine E_go rfl ?_))
  refine E_ca rfl (show 30 ≤ 40 by decide) (b_turn hJ) ?_
  rintro r M' ⟨x, F1, G1, h1, rfl, rfl, h0, hm⟩
  (repeat (first | refine E_st rfl ?_ | refine E_go rfl ?_))
  refine E_ca rfl (show 30 ≤ 40 by decide) hm ?_
  rintro r2 M2 ⟨rfl, F2, rfl, hJ2⟩
  refine E_if rfl rfl ?_
  exact K F2 G1 h1 hJ2
set_option maxRecDepth 8000 in
theorem q_undo {i : Nat} {Q : Option Value → pq_M → Prop} (hL : L ≤ 2048) (hi : i + 4 ≤ L) (hJ : J xs F G h) (K : ∀ (F2 G2 : FF) (h2 : Nat → Nat), J xs F2 G2 h2 → pq_Ev 40 156 771 [some (.ref 0), some (.ref 1), some (.ref 63), some (.int (nI i))] [] (pq_Sh L, pn F2, pl G2, pq_rt h2) Q) : pq_Ev 40 156 407 [some (.ref 0), some (.ref 1), some (.ref 63), some (.int (nI i))] [] (pq_Sh L, pn F, pl G, pq_rt h) Q := by
  (repeat (first | refine E_st rfl ?_ | refine E_go rfl ?_))
  refine E_ca rfl (show 30 ≤ 40 by decide) (b_undo hJ) ?_
  rintro r M' ⟨x, F1, G1, h1, rfl, rfl, h0, hm⟩
  (repeat (first | refine E_st rfl ?_ | refine E_go rfl ?_))
  refine E_ca rfl (show 30 ≤ 40 by decide) hm ?_
  rintro r2 M2 ⟨rfl, F2, rfl, hJ2⟩
  refine E_if rfl rfl ?_
  exact K F2 G1 h1 hJ2
set_option maxRecDepth 8000 in
theorem q_count {i : Nat} {Q : Option Value → pq_M → Prop} (hL : L ≤ 2048) (hi : i + 4 ≤ L) (hJ : J xs F G h) (K : ∀ (F2 G2 : FF) (h2 : Nat → Nat), J xs F2 G2 h2 → pq_Ev 40 156 771 [some (.ref 0), some (.ref 1), some (.ref 63), some (.int (nI i))] [] (pq_Sh L, pn F2, pl G2, pq_rt h2) Q) : pq_Ev 40 156 420 [some (.ref 0), some (.ref 1), some (.ref 63), some (.int (nI i))] [] (pq_Sh L, pn F, pl G, pq_rt h) Q := by
  (repeat (first | refine E_st rfl ?_ | refine E_go rfl ?_))
  rw [nI_add]
  refine E_ial rfl rfl (n := L) (k := i + 1) (by omega) (by omega) ?_
  rw [hJ.2.2.2.2.2.2.2.2 (i + 1)]
  refine E_ca rfl (show 30 ≤ 40 by decide) (b_count hJ _) ?_
  rintro r M' ⟨x, F1, G1, h1, rfl, rfl, h0, hm⟩
  (repeat (first | refine E_st rfl ?_ | refine E_go rfl ?_))
  rw [nI_add]
  refine E_ial rfl rfl (n := L) (k := i + 1) (by omega) (by omega) ?_
  rw [h0 (i + 1)]
  refine E_ca rfl (show 30 ≤ 40 by decide) hm ?_
  rintro r2 M2 ⟨rfl, F2, rfl, hJ2⟩
  refine E_if rfl rfl ?_
  exact K F2 G1 h1 hJ2
set_option maxRecDepth 8000 in
theorem q_neigh {i : Nat} {Q : Option Value → pq_M → Prop} (hL : L ≤ 2048) (hi : i + 4 ≤ L) (hJ : J xs F G h) (K : ∀ (F2 G2 : FF) (h2 : Nat → Nat), J xs F2 G2 h2 → pq_Ev 40 156 771 [some (.ref 0), some (.ref 1), some (.ref 63), some (.int (nI i))] [] (pq_Sh L, pn F2, pl G2, pq_rt h2) Q) : pq_Ev 40 156 443 [some (.ref 0), some (.ref 1), some (.ref 63), some (.int (nI i))] [] (pq_Sh L, pn F, pl G, pq_rt h) Q := by
  (repeat (first | refine E_st rfl ?_ | refine E_go rfl ?_))
  rw [nI_add]
  refine E_ial rfl rfl (n := L) (k := i + 1) (by omega) (by omega) ?_
  rw [hJ.2.2.2.2.2.2.2.2 (i + 1)]
  refine E_ca rfl (show 30 ≤ 40 by decide) (b_neigh hJ _) ?_
  rintro r M' ⟨x, F1, G1, h1, rfl, rfl, h0, hm⟩
  (repeat (first | refine E_st rfl ?_ | refine E_go rfl ?_))
  rw [nI_add]
  refine E_ial rfl rfl (n := L) (k := i + 1) (by omega) (by omega) ?_
  rw [h0 (i + 1)]
  refine E_ca rfl (show 30 ≤ 40 by decide) hm ?_
  rintro r2 M2 ⟨rfl, F2, rfl, hJ2⟩
  refine E_if rfl rfl ?_
  exact K F2 G1 h1 hJ2
set_option maxRecDepth 8000 in
theorem q_searcher {i : Nat} {Q : Option Value → pq_M → Prop} (hL : L ≤ 2048) (hi : i + 4 ≤ L) (hJ : J xs F G h) (K : ∀ (F2 G2 : FF) (h2 : Nat → Nat), J xs F2 G2 h2 → pq_Ev 40 156 771 [some (.ref 0), some (.ref 1), some (.ref 63), some (.int (nI i))] [] (pq_Sh L, pn F2, pl G2, pq_rt h2) Q) : pq_Ev 40 156 466 [some (.ref 0), some (.ref 1), some (.ref 63), some (.int (nI i))] [] (pq_Sh L, pn F, pl G, pq_rt h) Q := by
  (repeat (first | refine E_st rfl ?_ | refine E_go rfl ?_))
  rw [nI_add]
  refine E_ial rfl rfl (n := L) (k := i + 1) (by omega) (by omega) ?_
  rw [hJ.2.2.2.2.2.2.2.2 (i + 1)]
  (repeat (first | refine E_st rfl ?_ | refine E_go rfl ?_))
  rw [nI_add]
  refine E_ial rfl rfl (n := L) (k := i + 2) (by omega) (by omega) ?_
  rw [hJ.2.2.2.2.2.2.2.2 (i + 2)]
  refine E_ca rfl (show 30 ≤ 40 by decide) (b_searcher hJ _ _) ?_
  rintro r M' ⟨x, F1, G1, h1, rfl, rfl, h0, hm⟩
  (repeat (first | refine E_st rfl ?_ | refine E_go rfl ?_))
  rw [nI_add]
  refine E_ial rfl rfl (n := L) (k := i + 1) (by omega) (by omega) ?_
  rw [h0 (i + 1)]
  (repeat (first | refine E_st rfl ?_ | refine E_go rfl ?_))
  rw [nI_add]
  refine E_ial rfl rfl (n := L) (k := i + 2) (by omega) (by omega) ?_
  rw [h0 (i + 2)]
  refine E_ca rfl (show 30 ≤ 40 by decide) hm ?_
  rintro r2 M2 ⟨rfl, F2, rfl, hJ2⟩
  refine E_if rfl rfl ?_
  exact K F2 G1 h1 hJ2
set_option maxRecDepth 8000 in
theorem q_hide {i : Nat} {Q : Option Value → pq_M → Prop} (hL : L ≤ 2048) (hi : i + 4 ≤ L) (hJ : J xs F G h) (K : ∀ (F2 G2 : FF) (h2 : Nat → Nat), J xs F2 G2 h2 → pq_Ev 40 156 771 [some (.ref 0), some (.ref 1), some (.ref 63), some (.int (nI i))] [] (pq_Sh L, pn F2, pl G2, pq_rt h2) Q) : pq_Ev 40 156 499 [some (.ref 0), some (.ref 1), some (.ref 63), some (.int (nI i))] [] (pq_Sh L, pn F, pl G, pq_rt h) Q := by
  (repeat (first | refine E_st rfl ?_ | refine E_go rfl ?_))
  rw [nI_add]
  refine E_ial rfl rfl (n := L) (k := i + 1) (by omega) (by omega) ?_
  rw [hJ.2.2.2.2.2.2.2.2 (i + 1)]
  refine E_ca rfl (show 30 ≤ 40 by decide) (b_hide hJ _) ?_
  rintro r M' ⟨x, F1, G1, h1, rfl, rfl, h0, hm⟩
  (repeat (first | refine E_st rfl ?_ | refine E_go rfl ?_))
  rw [nI_add]
  refine E_ial rfl rfl (n := L) (k := i + 1) (by omega) (by omega) ?_
  rw [h0 (i + 1)]
  refine E_ca rfl (show 30 ≤ 40 by decide) hm ?_
  rintro r2 M2 ⟨rfl, F2, rfl, hJ2⟩
  refine E_if rfl rfl ?_
  exact K F2 G1 h1 hJ2
set_option maxRecDepth 8000 in
theorem q_flee {i : Nat} {Q : Option Value → pq_M → Prop} (hL : L ≤ 2048) (hi : i + 4 ≤ L) (hJ : J xs F G h) (K : ∀ (F2 G2 : FF) (h2 : Nat → Nat), J xs F2 G2 h2 → pq_Ev 40 156 771 [some (.ref 0), some (.ref 1), some (.ref 63), some (.int (nI i))] [] (pq_Sh L, pn F2, pl G2, pq_rt h2) Q) : pq_Ev 40 156 522 [some (.ref 0), some (.ref 1), some (.ref 63), some (.int (nI i))] [] (pq_Sh L, pn F, pl G, pq_rt h) Q := by
  (repeat (first | refine E_st rfl ?_ | refine E_go rfl ?_))
  rw [nI_add]
  refine E_ial rfl rfl (n := L) (k := i + 1) (by omega) (by omega) ?_
  rw [hJ.2.2.2.2.2.2.2.2 (i + 1)]
  refine E_ca rfl (show 30 ≤ 40 by decide) (b_flee hJ _) ?_
  rintro r M' ⟨x, F1, G1, h1, rfl, rfl, h0, hm⟩
  (repeat (first | refine E_st rfl ?_ | refine E_go rfl ?_))
  rw [nI_add]
  refine E_ial rfl rfl (n := L) (k := i + 1) (by omega) (by omega) ?_
  rw [h0 (i + 1)]
  refine E_ca rfl (show 30 ≤ 40 by decide) hm ?_
  rintro r2 M2 ⟨rfl, F2, rfl, hJ2⟩
  refine E_if rfl rfl ?_
  exact K F2 G1 h1 hJ2
set_option maxRecDepth 8000 in
theorem q_setNews {i : Nat} {Q : Option Value → pq_M → Prop} (hL : L ≤ 2048) (hi : i + 4 ≤ L) (hJ : J xs F G h) (K : ∀ (F2 G2 : FF) (h2 : Nat → Nat), J xs F2 G2 h2 → pq_Ev 40 156 771 [some (.ref 0), some (.ref 1), some (.ref 63), some (.int (nI i))] [] (pq_Sh L, pn F2, pl G2, pq_rt h2) Q) : pq_Ev 40 156 545 [some (.ref 0), some (.ref 1), some (.ref 63), some (.int (nI i))] [] (pq_Sh L, pn F, pl G, pq_rt h) Q := by
  (repeat (first | refine E_st rfl ?_ | refine E_go rfl ?_))
  rw [nI_add]
  refine E_ial rfl rfl (n := L) (k := i + 1) (by omega) (by omega) ?_
  rw [hJ.2.2.2.2.2.2.2.2 (i + 1)]
  (repeat (first | refine E_st rfl ?_ | refine E_go rfl ?_))
  rw [nI_add]
  refine E_ial rfl rfl (n := L) (k := i + 2) (by omega) (by omega) ?_
  rw [hJ.2.2.2.2.2.2.2.2 (i + 2)]
  refine E_ca rfl (show 30 ≤ 40 by decide) (b_setNews hJ _ _) ?_
  rintro r M' ⟨x, F1, G1, h1, rfl, rfl, h0, hm⟩
  (repeat (first | refine E_st rfl ?_ | refine E_go rfl ?_))
  rw [nI_add]
  refine E_ial rfl rfl (n := L) (k := i + 1) (by omega) (by omega) ?_
  rw [h0 (i + 1)]
  (repeat (first | refine E_st rfl ?_ | refine E_go rfl ?_))
  rw [nI_add]
  refine E_ial rfl rfl (n := L) (k := i + 2) (by omega) (by omega) ?_
  rw [h0 (i + 2)]
  refine E_ca rfl (show 30 ≤ 40 by decide) hm ?_
  rintro r2 M2 ⟨rfl, F2, rfl, hJ2⟩
  refine E_if rfl rfl ?_
  exact K F2 G1 h1 hJ2
set_option maxRecDepth 8000 in
theorem q_evader {i : Nat} {Q : Option Value → pq_M → Prop} (hL : L ≤ 2048) (hi : i + 4 ≤ L) (hJ : J xs F G h) (K : ∀ (F2 G2 : FF) (h2 : Nat → Nat), J xs F2 G2 h2 → pq_Ev 40 156 771 [some (.ref 0), some (.ref 1), some (.ref 63), some (.int (nI i))] [] (pq_Sh L, pn F2, pl G2, pq_rt h2) Q) : pq_Ev 40 156 578 [some (.ref 0), some (.ref 1), some (.ref 63), some (.int (nI i))] [] (pq_Sh L, pn F, pl G, pq_rt h) Q := by
  (repeat (first | refine E_st rfl ?_ | refine E_go rfl ?_))
  rw [nI_add]
  refine E_ial rfl rfl (n := L) (k := i + 1) (by omega) (by omega) ?_
  rw [hJ.2.2.2.2.2.2.2.2 (i + 1)]
  refine E_ca rfl (show 30 ≤ 40 by decide) (b_evader hJ _) ?_
  rintro r M' ⟨x, F1, G1, h1, rfl, rfl, h0, hm⟩
  (repeat (first | refine E_st rfl ?_ | refine E_go rfl ?_))
  rw [nI_add]
  refine E_ial rfl rfl (n := L) (k := i + 1) (by omega) (by omega) ?_
  rw [h0 (i + 1)]
  refine E_ca rfl (show 30 ≤ 40 by decide) hm ?_
  rintro r2 M2 ⟨rfl, F2, rfl, hJ2⟩
  refine E_if rfl rfl ?_
  exact K F2 G1 h1 hJ2
set_option maxRecDepth 8000 in
theorem q_ahead {i : Nat} {Q : Option Value → pq_M → Prop} (hL : L ≤ 2048) (hi : i + 4 ≤ L) (hJ : J xs F G h) (K : ∀ (F2 G2 : FF) (h2 : Nat → Nat), J xs F2 G2 h2 → pq_Ev 40 156 771 [some (.ref 0), some (.ref 1), some (.ref 63), some (.int (nI i))] [] (pq_Sh L, pn F2, pl G2, pq_rt h2) Q) : pq_Ev 40 156 601 [some (.ref 0), some (.ref 1), some (.ref 63), some (.int (nI i))] [] (pq_Sh L, pn F, pl G, pq_rt h) Q := by
  (repeat (first | refine E_st rfl ?_ | refine E_go rfl ?_))
  refine E_ca rfl (show 30 ≤ 40 by decide) (b_ahead hJ) ?_
  rintro r M' ⟨x, F1, G1, h1, rfl, rfl, h0, hm⟩
  (repeat (first | refine E_st rfl ?_ | refine E_go rfl ?_))
  refine E_ca rfl (show 30 ≤ 40 by decide) hm ?_
  rintro r2 M2 ⟨rfl, F2, rfl, hJ2⟩
  refine E_if rfl rfl ?_
  exact K F2 G1 h1 hJ2
set_option maxRecDepth 8000 in
theorem q_planTurns {i : Nat} {Q : Option Value → pq_M → Prop} (hL : L ≤ 2048) (hi : i + 4 ≤ L) (hJ : J xs F G h) (K : ∀ (F2 G2 : FF) (h2 : Nat → Nat), J xs F2 G2 h2 → pq_Ev 40 156 771 [some (.ref 0), some (.ref 1), some (.ref 63), some (.int (nI i))] [] (pq_Sh L, pn F2, pl G2, pq_rt h2) Q) : pq_Ev 40 156 614 [some (.ref 0), some (.ref 1), some (.ref 63), some (.int (nI i))] [] (pq_Sh L, pn F, pl G, pq_rt h) Q := by
  (repeat (first | refine E_st rfl ?_ | refine E_go rfl ?_))
  refine E_ca rfl (show 30 ≤ 40 by decide) (b_planTurns hJ) ?_
  rintro r M' ⟨x, F1, G1, h1, rfl, rfl, h0, hm⟩
  (repeat (first | refine E_st rfl ?_ | refine E_go rfl ?_))
  refine E_ca rfl (show 30 ≤ 40 by decide) hm ?_
  rintro r2 M2 ⟨rfl, F2, rfl, hJ2⟩
  refine E_if rfl rfl ?_
  exact K F2 G1 h1 hJ2
set_option maxRecDepth 8000 in
theorem q_planOrder {i : Nat} {Q : Option Value → pq_M → Prop} (hL : L ≤ 2048) (hi : i + 4 ≤ L) (hJ : J xs F G h) (K : ∀ (F2 G2 : FF) (h2 : Nat → Nat), J xs F2 G2 h2 → pq_Ev 40 156 771 [some (.ref 0), some (.ref 1), some (.ref 63), some (.int (nI i))] [] (pq_Sh L, pn F2, pl G2, pq_rt h2) Q) : pq_Ev 40 156 627 [some (.ref 0), some (.ref 1), some (.ref 63), some (.int (nI i))] [] (pq_Sh L, pn F, pl G, pq_rt h) Q := by
  (repeat (first | refine E_st rfl ?_ | refine E_go rfl ?_))
  rw [nI_add]
  refine E_ial rfl rfl (n := L) (k := i + 1) (by omega) (by omega) ?_
  rw [hJ.2.2.2.2.2.2.2.2 (i + 1)]
  (repeat (first | refine E_st rfl ?_ | refine E_go rfl ?_))
  rw [nI_add]
  refine E_ial rfl rfl (n := L) (k := i + 2) (by omega) (by omega) ?_
  rw [hJ.2.2.2.2.2.2.2.2 (i + 2)]
  refine E_ca rfl (show 30 ≤ 40 by decide) (b_planOrder hJ _ _) ?_
  rintro r M' ⟨x, F1, G1, h1, rfl, rfl, h0, hm⟩
  (repeat (first | refine E_st rfl ?_ | refine E_go rfl ?_))
  rw [nI_add]
  refine E_ial rfl rfl (n := L) (k := i + 1) (by omega) (by omega) ?_
  rw [h0 (i + 1)]
  (repeat (first | refine E_st rfl ?_ | refine E_go rfl ?_))
  rw [nI_add]
  refine E_ial rfl rfl (n := L) (k := i + 2) (by omega) (by omega) ?_
  rw [h0 (i + 2)]
  refine E_ca rfl (show 30 ≤ 40 by decide) hm ?_
  rintro r2 M2 ⟨rfl, F2, rfl, hJ2⟩
  refine E_if rfl rfl ?_
  exact K F2 G1 h1 hJ2
set_option maxRecDepth 8000 in
theorem q_planMoves {i : Nat} {Q : Option Value → pq_M → Prop} (hL : L ≤ 2048) (hi : i + 4 ≤ L) (hJ : J xs F G h) (K : ∀ (F2 G2 : FF) (h2 : Nat → Nat), J xs F2 G2 h2 → pq_Ev 40 156 771 [some (.ref 0), some (.ref 1), some (.ref 63), some (.int (nI i))] [] (pq_Sh L, pn F2, pl G2, pq_rt h2) Q) : pq_Ev 40 156 660 [some (.ref 0), some (.ref 1), some (.ref 63), some (.int (nI i))] [] (pq_Sh L, pn F, pl G, pq_rt h) Q := by
  (repeat (first | refine E_st rfl ?_ | refine E_go rfl ?_))
  refine E_ca rfl (show 30 ≤ 40 by decide) (b_planMoves hJ) ?_
  rintro r M' ⟨x, F1, G1, h1, rfl, rfl, h0, hm⟩
  (repeat (first | refine E_st rfl ?_ | refine E_go rfl ?_))
  refine E_ca rfl (show 30 ≤ 40 by decide) hm ?_
  rintro r2 M2 ⟨rfl, F2, rfl, hJ2⟩
  refine E_if rfl rfl ?_
  exact K F2 G1 h1 hJ2
set_option maxRecDepth 8000 in
theorem q_settles {i : Nat} {Q : Option Value → pq_M → Prop} (hL : L ≤ 2048) (hi : i + 4 ≤ L) (hJ : J xs F G h) (K : ∀ (F2 G2 : FF) (h2 : Nat → Nat), J xs F2 G2 h2 → pq_Ev 40 156 771 [some (.ref 0), some (.ref 1), some (.ref 63), some (.int (nI i))] [] (pq_Sh L, pn F2, pl G2, pq_rt h2) Q) : pq_Ev 40 156 673 [some (.ref 0), some (.ref 1), some (.ref 63), some (.int (nI i))] [] (pq_Sh L, pn F, pl G, pq_rt h) Q := by
  (repeat (first | refine E_st rfl ?_ | refine E_go rfl ?_))
  refine E_ca rfl (show 30 ≤ 40 by decide) (b_settles hJ) ?_
  rintro r M' ⟨x, F1, G1, h1, rfl, rfl, h0, hm⟩
  (repeat (first | refine E_st rfl ?_ | refine E_go rfl ?_))
  refine E_ca rfl (show 30 ≤ 40 by decide) hm ?_
  rintro r2 M2 ⟨rfl, F2, rfl, hJ2⟩
  refine E_if rfl rfl ?_
  exact K F2 G1 h1 hJ2
set_option maxRecDepth 8000 in
theorem q_least {i : Nat} {Q : Option Value → pq_M → Prop} (hL : L ≤ 2048) (hi : i + 4 ≤ L) (hJ : J xs F G h) (K : ∀ (F2 G2 : FF) (h2 : Nat → Nat), J xs F2 G2 h2 → pq_Ev 40 156 771 [some (.ref 0), some (.ref 1), some (.ref 63), some (.int (nI i))] [] (pq_Sh L, pn F2, pl G2, pq_rt h2) Q) : pq_Ev 40 156 686 [some (.ref 0), some (.ref 1), some (.ref 63), some (.int (nI i))] [] (pq_Sh L, pn F, pl G, pq_rt h) Q := by
  (repeat (first | refine E_st rfl ?_ | refine E_go rfl ?_))
  refine E_ca rfl (show 30 ≤ 40 by decide) (b_least hJ) ?_
  rintro r M' ⟨x, F1, G1, h1, rfl, rfl, h0, hm⟩
  (repeat (first | refine E_st rfl ?_ | refine E_go rfl ?_))
  refine E_ca rfl (show 30 ≤ 40 by decide) hm ?_
  rintro r2 M2 ⟨rfl, F2, rfl, hJ2⟩
  refine E_if rfl rfl ?_
  exact K F2 G1 h1 hJ2
set_option maxRecDepth 8000 in
theorem q_best {i : Nat} {Q : Option Value → pq_M → Prop} (hL : L ≤ 2048) (hi : i + 4 ≤ L) (hJ : J xs F G h) (K : ∀ (F2 G2 : FF) (h2 : Nat → Nat), J xs F2 G2 h2 → pq_Ev 40 156 771 [some (.ref 0), some (.ref 1), some (.ref 63), some (.int (nI i))] [] (pq_Sh L, pn F2, pl G2, pq_rt h2) Q) : pq_Ev 40 156 699 [some (.ref 0), some (.ref 1), some (.ref 63), some (.int (nI i))] [] (pq_Sh L, pn F, pl G, pq_rt h) Q := by
  (repeat (first | refine E_st rfl ?_ | refine E_go rfl ?_))
  rw [nI_add]
  refine E_ial rfl rfl (n := L) (k := i + 1) (by omega) (by omega) ?_
  rw [hJ.2.2.2.2.2.2.2.2 (i + 1)]
  refine E_ca rfl (show 30 ≤ 40 by decide) (b_best hJ _) ?_
  rintro r M' ⟨x, F1, G1, h1, rfl, rfl, h0, hm⟩
  (repeat (first | refine E_st rfl ?_ | refine E_go rfl ?_))
  rw [nI_add]
  refine E_ial rfl rfl (n := L) (k := i + 1) (by omega) (by omega) ?_
  rw [h0 (i + 1)]
  refine E_ca rfl (show 30 ≤ 40 by decide) hm ?_
  rintro r2 M2 ⟨rfl, F2, rfl, hJ2⟩
  refine E_if rfl rfl ?_
  exact K F2 G1 h1 hJ2
set_option maxRecDepth 8000 in
theorem q_type {i : Nat} {Q : Option Value → pq_M → Prop} (hL : L ≤ 2048) (hi : i + 4 ≤ L) (hJ : J xs F G h) (K : ∀ (F2 G2 : FF) (h2 : Nat → Nat), J xs F2 G2 h2 → pq_Ev 40 156 771 [some (.ref 0), some (.ref 1), some (.ref 63), some (.int (nI i))] [] (pq_Sh L, pn F2, pl G2, pq_rt h2) Q) : pq_Ev 40 156 722 [some (.ref 0), some (.ref 1), some (.ref 63), some (.int (nI i))] [] (pq_Sh L, pn F, pl G, pq_rt h) Q := by
  (repeat (first | refine E_st rfl ?_ | refine E_go rfl ?_))
  rw [nI_add]
  refine E_ial rfl rfl (n := L) (k := i + 1) (by omega) (by omega) ?_
  rw [hJ.2.2.2.2.2.2.2.2 (i + 1)]
  refine E_ca rfl (show 30 ≤ 40 by decide) (b_type hJ _) ?_
  rintro r M' ⟨x, F1, G1, h1, rfl, rfl, h0, hm⟩
  (repeat (first | refine E_st rfl ?_ | refine E_go rfl ?_))
  rw [nI_add]
  refine E_ial rfl rfl (n := L) (k := i + 1) (by omega) (by omega) ?_
  rw [h0 (i + 1)]
  refine E_ca rfl (show 30 ≤ 40 by decide) hm ?_
  rintro r2 M2 ⟨rfl, F2, rfl, hJ2⟩
  refine E_if rfl rfl ?_
  exact K F2 G1 h1 hJ2
set_option maxRecDepth 8000 in
theorem q_clear {i : Nat} {Q : Option Value → pq_M → Prop} (hL : L ≤ 2048) (hi : i + 4 ≤ L) (hJ : J xs F G h) (K : ∀ (F2 G2 : FF) (h2 : Nat → Nat), J xs F2 G2 h2 → pq_Ev 40 156 771 [some (.ref 0), some (.ref 1), some (.ref 63), some (.int (nI i))] [] (pq_Sh L, pn F2, pl G2, pq_rt h2) Q) : pq_Ev 40 156 745 [some (.ref 0), some (.ref 1), some (.ref 63), some (.int (nI i))] [] (pq_Sh L, pn F, pl G, pq_rt h) Q := by
  (repeat (first | refine E_st rfl ?_ | refine E_go rfl ?_))
  refine E_ca rfl (show 30 ≤ 40 by decide) (b_clear hJ) ?_
  rintro r M' ⟨x, F1, G1, h1, rfl, rfl, h0, hm⟩
  (repeat (first | refine E_st rfl ?_ | refine E_go rfl ?_))
  refine E_ca rfl (show 30 ≤ 40 by decide) hm ?_
  rintro r2 M2 ⟨rfl, F2, rfl, hJ2⟩
  refine E_if rfl rfl ?_
  exact K F2 G1 h1 hJ2
set_option maxRecDepth 8000 in
theorem q_fault {i : Nat} {Q : Option Value → pq_M → Prop} (hL : L ≤ 2048) (hi : i + 4 ≤ L) (hJ : J xs F G h) (K : ∀ (F2 G2 : FF) (h2 : Nat → Nat), J xs F2 G2 h2 → pq_Ev 40 156 771 [some (.ref 0), some (.ref 1), some (.ref 63), some (.int (nI i))] [] (pq_Sh L, pn F2, pl G2, pq_rt h2) Q) : pq_Ev 40 156 758 [some (.ref 0), some (.ref 1), some (.ref 63), some (.int (nI i))] [] (pq_Sh L, pn F, pl G, pq_rt h) Q := by
  (repeat (first | refine E_st rfl ?_ | refine E_go rfl ?_))
  refine E_ca rfl (show 30 ≤ 40 by decide) (b_fault hJ) ?_
  rintro r M' ⟨x, F1, G1, h1, rfl, rfl, h0, hm⟩
  (repeat (first | refine E_st rfl ?_ | refine E_go rfl ?_))
  refine E_ca rfl (show 30 ≤ 40 by decide) hm ?_
  rintro r2 M2 ⟨rfl, F2, rfl, hJ2⟩
  refine E_if rfl rfl ?_
  exact K F2 G1 h1 hJ2
theorem and_31 (a : Nat) : ∃ k, k < 32 ∧ nI a &&& 31 = nI k := by
  refine ⟨a &&& 31, Nat.lt_of_le_of_lt Nat.and_le_right (by decide), ?_⟩
  exact zi_and a 31
theorem len_lt {i : Nat} (hL : L ≤ 2048) (hc : L < i + 4) (hi : i ≤ L) : nI L - nI 4 < nI i := by
  by_cases c : L < 4
  · exact Int32.lt_of_lt_of_le (zi_subneg c (by decide)) (nI_pos' (by omega))
  · rw [zi_sub (by omega)]
    exact nI_lt (by omega) (by omega)
theorem len_nlt {i : Nat} (hL : L ≤ 2048) (hc : i + 4 ≤ L) : ¬ nI L - nI 4 < nI i := by
  rw [zi_sub (by omega)]
  exact nI_nlt (by omega) (by omega)
set_option maxRecDepth 8000 in
theorem l_law (hL : L ≤ 2048) : ∀ (m i : Nat) (F G : FF) (h : Nat → Nat), L < i + 4 + 4 * m → i ≤ L → J xs F G h → pq_Ev 40 156 18 [some (.ref 0), some (.ref 1), some (.ref 63), some (.int (nI i))] [] (pq_Sh L, pn F, pl G, pq_rt h) (fun r M' => r = some (.int 1) ∧ M'.1 = pq_Sh L) := by
  have ex : ∀ (i : Nat) (F G : FF) (h : Nat → Nat), L < i + 4 → i ≤ L → pq_Ev 40 156 18 [some (.ref 0), some (.ref 1), some (.ref 63), some (.int (nI i))] [] (pq_Sh L, pn F, pl G, pq_rt h) (fun r M' => r = some (.int 1) ∧ M'.1 = pq_Sh L) := by
    intro i F G h hc hi
    (repeat (first | refine E_st rfl ?_ | refine E_go rfl ?_))
    refine E_if rfl (len_lt hL hc hi) ?_
    (repeat (first | refine E_st rfl ?_ | refine E_go rfl ?_))
    exact E_rt rfl ⟨rfl, rfl⟩
  intro m
  induction m with
  | zero => intro i F G h hc hi hJ; exact ex i F G h (by omega) hi
  | succ m ih =>
    intro i F G h hc hi hJ
    by_cases c : L < i + 4
    · exact ex i F G h c hi
    have hi4 : i + 4 ≤ L := by omega
    have K : ∀ (F2 G2 : FF) (h2 : Nat → Nat), J xs F2 G2 h2 → pq_Ev 40 156 771 [some (.ref 0), some (.ref 1), some (.ref 63), some (.int (nI i))] [] (pq_Sh L, pn F2, pl G2, pq_rt h2) (fun r M' => r = some (.int 1) ∧ M'.1 = pq_Sh L) := by
      intro F2 G2 h2 hJ2
      (iterate 2 (first | refine E_st rfl ?_ | refine E_go rfl ?_))
      rw [nI_add]
      exact ih (i + 4) F2 G2 h2 (by omega) hi4 hJ2
    (repeat (first | refine E_st rfl ?_ | refine E_go rfl ?_))
    refine E_nif rfl (len_nlt hL hi4) ?_
    (repeat (first | refine E_st rfl ?_ | refine E_go rfl ?_))
    refine E_ial rfl rfl (n := L) (k := i) (by omega) (by omega) ?_
    (iterate 2 (first | refine E_st rfl ?_ | refine E_go rfl ?_))
    obtain ⟨k, hk, ek⟩ := and_31 (F 0 i)
    rw [show nI (F 0 i) &&& nI 31 = nI k from ek]
    rcases (show k = 0 ∨ k = 1 ∨ k = 2 ∨ k = 3 ∨ k = 4 ∨ k = 5 ∨ k = 6 ∨ k = 7 ∨ k = 8 ∨ k = 9 ∨ k = 10 ∨ k = 11 ∨ k = 12 ∨ k = 13 ∨ k = 14 ∨ k = 15 ∨ k = 16 ∨ k = 17 ∨ k = 18 ∨ k = 19 ∨ k = 20 ∨ k = 21 ∨ k = 22 ∨ k = 23 ∨ k = 24 ∨ k = 25 ∨ k = 26 ∨ k = 27 ∨ k = 28 ∨ k = 29 ∨ k = 30 ∨ k = 31 by omega) with rfl | rfl | rfl | rfl | rfl | rfl | rfl | rfl | rfl | rfl | rfl | rfl | rfl | rfl | rfl | rfl | rfl | rfl | rfl | rfl | rfl | rfl | rfl | rfl | rfl | rfl | rfl | rfl | rfl | rfl | rfl | rfl
    · refine E_st0 rfl ?_
      exact q_reset hL hi4 hJ K
    · refine E_st0 rfl ?_
      exact q_link hL hi4 hJ K
    · refine E_st0 rfl ?_
      exact q_lay hL hi4 hJ K
    · refine E_st0 rfl ?_
      exact q_put hL hi4 hJ K
    · refine E_st0 rfl ?_
      exact q_leave hL hi4 hJ K
    · refine E_st0 rfl ?_
      exact q_order hL hi4 hJ K
    · refine E_st0 rfl ?_
      exact q_release hL hi4 hJ K
    · refine E_st0 rfl ?_
      exact q_belief hL hi4 hJ K
    · refine E_st0 rfl ?_
      exact q_bafter hL hi4 hJ K
    · refine E_st0 rfl ?_
      exact q_tell hL hi4 hJ K
    · refine E_st0 rfl ?_
      exact q_turn hL hi4 hJ K
    · refine E_st0 rfl ?_
      exact q_undo hL hi4 hJ K
    · refine E_st0 rfl ?_
      exact q_count hL hi4 hJ K
    · refine E_st0 rfl ?_
      exact q_neigh hL hi4 hJ K
    · refine E_st0 rfl ?_
      exact q_searcher hL hi4 hJ K
    · refine E_st0 rfl ?_
      exact q_hide hL hi4 hJ K
    · refine E_st0 rfl ?_
      exact q_flee hL hi4 hJ K
    · refine E_st0 rfl ?_
      exact q_setNews hL hi4 hJ K
    · refine E_st0 rfl ?_
      exact q_evader hL hi4 hJ K
    · refine E_st0 rfl ?_
      exact q_ahead hL hi4 hJ K
    · refine E_st0 rfl ?_
      exact q_planTurns hL hi4 hJ K
    · refine E_st0 rfl ?_
      exact q_planOrder hL hi4 hJ K
    · refine E_st0 rfl ?_
      exact q_planMoves hL hi4 hJ K
    · refine E_st0 rfl ?_
      exact q_settles hL hi4 hJ K
    · refine E_st0 rfl ?_
      exact q_least hL hi4 hJ K
    · refine E_st0 rfl ?_
      exact q_best hL hi4 hJ K
    · refine E_st0 rfl ?_
      exact q_type hL hi4 hJ K
    · refine E_st0 rfl ?_
      exact q_clear hL hi4 hJ K
    · refine E_st0 rfl ?_
      exact q_fault hL hi4 hJ K
    · refine E_st0 rfl ?_
      exact K F G h hJ
    · refine E_st0 rfl ?_
      exact K F G h hJ
    · refine E_st0 rfl ?_
      exact K F G h hJ
theorem sh_len : (pq_Sh L).length = 74 := rfl
theorem law_run (hL : L ≤ 2048) : pq_Ev 40 156 0 [some (.ref 0), none, none, none] [] ([.inl (.int, L)], fun _ j => xs j, fun _ _ => 0, fun _ _ => none) (fun r M' => r = some (.int 1) ∧ M'.1 = pq_Sh L) :=
  law_start (d := 35) (l_law hL L 0 (F1z xs) (jN J1z) h00 (by omega) (by omega) J_ini)
end LWH
