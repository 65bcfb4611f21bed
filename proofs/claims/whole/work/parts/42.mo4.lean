section MOD
variable {d L : Nat} {F G : Nat → Nat → Nat} {h : Nat → Nat}
theorem g_put0 {x : Int32} (hg : gOk F) (hx : x < 0 ∨ nI (F 64 0) ≤ x) : pq_Ca (d + 3) 110 [.ref 63, .int x] (pq_Sh L, pn F, pl G, pq_rt h) (fun r M' => r = some (.int (-1)) ∧ M' = (pq_Sh L, pn (F), pl (G), pq_rt h)) := by
  have := hg.1
  refine Ca_mk rfl rfl ?_
  (repeat (first | refine E_st rfl ?_ | refine E_go rfl ?_))
  refine E_cx rfl (by omega) (g_isNode0 (d := 0) hx (by omega) hg.2.1) ?_
  refine E_if rfl rfl ?_
  (repeat (first | refine E_st rfl ?_ | refine E_go rfl ?_))
  exact E_rt rfl ⟨rfl, rfl⟩
theorem g_put3 {v : Nat} (hg : gOk F) (hv : v < F 64 0) (h3 : F 64 1 = 3) : pq_Ca (d + 3) 110 [.ref 63, .int (nI v)] (pq_Sh L, pn F, pl G, pq_rt h) (fun r M' => r = some (.int (-3)) ∧ M' = (pq_Sh L, pn (F), pl (G), pq_rt h)) := by
  refine Ca_mk rfl rfl ?_
  (repeat (first | refine E_st rfl ?_ | refine E_go rfl ?_))
  refine E_cx rfl (by omega) (g_isNode (d := 0) hv hg.2.1) ?_
  refine E_nif rfl (by decide) ?_
  (repeat (first | refine E_st rfl ?_ | refine E_go rfl ?_))
  simp +decide only [nI_clamp, pn_at, pu_n, pu_l]
  refine E_if rfl (by rw [h3]) ?_
  (repeat (first | refine E_st rfl ?_ | refine E_go rfl ?_))
  exact E_rt rfl ⟨rfl, rfl⟩
theorem g_putA {v : Nat} (hg : gOk F) (hv : v < F 64 0) (h3 : F 64 1 < 3) {z : Option Value} : pq_Ev (d + 1) 110 27 [some (.ref 63), some (.int (nI v)), z] [] (pq_Sh L, pn F, pl G, pq_rt h) (fun r M' => r = some (.int (nI (F 64 1))) ∧ M' = (pq_Sh L, pn (ptM F v), pl (G), pq_rt h)) := by
  obtain ⟨g0, g1, g2, g3, g4, g5, g6, g7, g8, g9, g10, g11, g12, g13, g14, g15, g16, g17, g18, g19⟩ := hg
  have e23 : ptM1 F v 64 23 = F 64 23 := by
    unfold ptM1
    rw [pu_at, if_neg (by omega), pu_at, if_neg (by omega), pu_at, if_neg (by omega)]
  have ela : ptM1 F v 64 (24 + 15 * (F 64 23 - 1)) = F 64 (la F) := by
    unfold ptM1 la
    rw [pu_at, if_neg (by omega), pu_at, if_neg (by omega), pu_at, if_neg (by omega)]
  have eo : ∀ j, 17 ≤ j → j < 24 → ptM2 F v 64 j = F 64 j := by
    intro j h1 h2
    unfold ptM2 ptM1 la
    rw [pu_at, if_neg (by omega), pu_at, if_neg (by omega), pu_at, if_neg (by omega), pu_at, if_neg (by omega)]
  have e2 : ptM2 F v 64 2 = F 64 2 := by
    unfold ptM2 ptM1 la
    rw [pu_at, if_neg (by omega), pu_at, if_neg (by omega), pu_at, if_neg (by omega), pu_at, if_neg (by omega)]
  have hla := g_last (d := 0) (L := L) (F := ptM1 F v) (G := G) (h := h) (by omega) (by omega)
  rw [e23] at hla
  (iterate 5 (first | refine E_st rfl ?_ | refine E_go rfl ?_))
  simp +decide only [nI_clamp, pn_at, pu_n, pu_l]
  (iterate 5 (first | refine E_st rfl ?_ | refine E_go rfl ?_))
  rw [nI_add]
  (iterate 1 (first | refine E_st rfl ?_ | refine E_go rfl ?_))
  refine E_ias rfl rfl (n := 144) (by omega) (by decide) (by decide) ?_
  (iterate 5 (first | refine E_st rfl ?_ | refine E_go rfl ?_))
  rw [nI_add]
  (iterate 1 (first | refine E_st rfl ?_ | refine E_go rfl ?_))
  refine E_ias rfl rfl (n := 144) (by omega) (by decide) (by decide) ?_
  (iterate 7 (first | refine E_st rfl ?_ | refine E_go rfl ?_))
  simp +decide only [nI_clamp, pn_at, pu_n, pu_l]
  have e1 : pq_u (pq_u F 64 (11 + F 64 1) v) 64 (14 + F 64 1) v 64 1 = F 64 1 := by
    rw [pu_at, if_neg (by omega), pu_at, if_neg (by omega)]
  rw [e1, nI_add]
  (iterate 1 (first | refine E_st rfl ?_ | refine E_go rfl ?_))
  simp +decide only [nI_clamp, pn_at, pu_n, pu_l]
  rw [show pq_u (pq_u (pq_u F 64 (11 + F 64 1) v) 64 (14 + F 64 1) v) 64 1 (F 64 1 + 1) = ptM1 F v from rfl]
  (repeat (first | refine E_st rfl ?_ | refine E_go rfl ?_))
  refine E_cx rfl (by omega) hla ?_
  (iterate 1 (first | refine E_st rfl ?_ | refine E_go rfl ?_))
  refine E_ial rfl rfl (n := 144) (by omega) (by decide) ?_
  rw [ela]
  (iterate 6 (first | refine E_st rfl ?_ | refine E_go rfl ?_))
  rw [zi_shl 1 (by omega), zi_not]
  refine E_ias rfl rfl (n := 144) (by omega) (by decide) (by decide) ?_
  rw [show pq_u (ptM1 F v) 64 (24 + 15 * (F 64 23 - 1)) (an (F 64 (la F)) (1 <<< v)) = ptM2 F v from rfl]
  (repeat (first | refine E_st rfl ?_ | refine E_go rfl ?_))
  simp +decide only [nI_clamp, pn_at, pu_n, pu_l]
  rw [eo 17 (by decide) (by decide)]
  by_cases c1 : F 64 17 = 1
  case neg =>
    refine E_nif rfl (fun z => c1 ((zi_eq (by omega) (by decide)).mp z)) ?_
    (repeat (first | refine E_st rfl ?_ | refine E_go rfl ?_))
    refine E_rt rfl ⟨rfl, ?_⟩
    unfold ptM
    rw [if_neg (fun z => c1 z.1)]
  refine E_if rfl (by rw [c1]) ?_
  (repeat (first | refine E_st rfl ?_ | refine E_go rfl ?_))
  simp +decide only [nI_clamp, pn_at, pu_n, pu_l]
  rw [eo 20 (by decide) (by decide)]
  by_cases c2 : F 64 20 = 0
  case neg =>
    refine E_nif rfl (nI_ne0 (by omega) (by omega)) ?_
    (repeat (first | refine E_st rfl ?_ | refine E_go rfl ?_))
    refine E_rt rfl ⟨rfl, ?_⟩
    unfold ptM
    rw [if_neg (fun z => c2 z.2.1)]
  refine E_if rfl (by rw [c2]; rfl) ?_
  (repeat (first | refine E_st rfl ?_ | refine E_go rfl ?_))
  simp +decide only [nI_clamp, pn_at, pu_n, pu_l]
  rw [eo 18 (by decide) (by decide)]
  by_cases c3 : F 64 18 = v
  case neg =>
    refine E_nif rfl (fun z => c3 ((zi_eq (by omega) (by omega)).mp z)) ?_
    (repeat (first | refine E_st rfl ?_ | refine E_go rfl ?_))
    refine E_rt rfl ⟨rfl, ?_⟩
    unfold ptM
    rw [if_neg (fun z => c3 z.2.2)]
  refine E_if rfl (by rw [c3]) ?_
  (repeat (first | refine E_st rfl ?_ | refine E_go rfl ?_))
  simp +decide only [nI_clamp, pn_at, pu_n, pu_l]
  refine E_rt rfl ⟨rfl, ?_⟩
  unfold ptM
  rw [if_pos ⟨c1, c2, c3⟩, show pq_u (ptM2 F v) 64 20 1 64 2 = ptM2 F v 64 2 from rfl, e2]
theorem g_put {v : Nat} (hg : gOk F) (hv : v < F 64 0) (h3 : F 64 1 < 3) : pq_Ca (d + 3) 110 [.ref 63, .int (nI v)] (pq_Sh L, pn F, pl G, pq_rt h) (fun r M' => r = some (.int (nI (F 64 1))) ∧ M' = (pq_Sh L, pn (ptM (rcM F) v), pl (G), pq_rt h)) := by
  have hg2 := rc_gOk hg
  have := g_putA (d := d + 1) (L := L) (G := G) (h := h) (F := rcM F) (z := none) hg2 (by rw [rc64]; exact hv) (by rw [rc64]; exact h3)
  rw [rc64] at this
  refine Ca_mk rfl rfl ?_
  (repeat (first | refine E_st rfl ?_ | refine E_go rfl ?_))
  refine E_cx rfl (by omega) (g_isNode (d := 0) hv hg.2.1) ?_
  refine E_nif rfl (by decide) ?_
  (repeat (first | refine E_st rfl ?_ | refine E_go rfl ?_))
  simp +decide only [nI_clamp, pn_at, pu_n, pu_l]
  refine E_nif rfl (fun z => (by omega : ¬ F 64 1 = 3) ((zi_eq (by omega) (by decide)).mp z)) ?_
  (repeat (first | refine E_st rfl ?_ | refine E_go rfl ?_))
  refine E_cx rfl (by omega) (g_records (d := 0) hg.2.2.2.2.2.2.2.2.2.2.2.2.2.2.2.2.2.2.2) ?_
  exact this
end MOD
