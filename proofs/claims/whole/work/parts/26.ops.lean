section OPS
variable {d L : Nat} {F G : Nat → Nat → Nat} {h : Nat → Nat}
/-- bounds of the present state that the class's methods need -/
def nOk (F G : Nat → Nat → Nat) : Prop := F 2 0 ≤ 6 ∧ F 2 2 ≤ 3 ∧ F 2 5 ≤ 10000 ∧ F 2 6 ≤ 9 ∧ F 2 7 ≤ 7 ∧ G 2 1 < 2 ^ 63 ∧ (∀ k, k < 3 → F 3 k < 6) ∧ (∀ k, k < 3 → F 4 k < 6) ∧ (∀ i, i < 8 → F 6 i < 64) ∧ (∀ i, i < 8 → G 7 i < 2 ^ 63) ∧ F 5 2 = F 2 5 ∧ F 5 3 ≤ 8 ∧ F 5 3 ≤ F 2 5 + 1 ∧ F 8 0 ≤ 1 ∧ F 8 3 ≤ 1 ∧ F 8 1 < 6 ∧ F 8 2 < 6 ∧ F 8 4 ≤ 10000 ∧ F 8 5 ≤ 10000 ∧ ∀ i, i < 8 → F 9 i < 6
def dOk (F : Nat → Nat → Nat) (h : Nat → Nat) : Prop := F 1 2 ≤ 5 ∧ hOk h
theorem rmH_ok (hd : dOk F h) : hOk (rmH F h) := by
  unfold rmH; split
  · exact hd.2
  · exact rotH_ok hd.2
theorem rmK_lt (hd : dOk F h) : rmK F < 5 := by unfold rmK; split <;> omega
theorem rm_ge (hd : dOk F h) : 11 ≤ rmH F h (rmK F) ∧ rmH F h (rmK F) + 8 ≤ 51 := by
  rcases (rmH_ok hd).1 _ (rmK_lt hd) with e | e | e | e | e <;> omega
theorem rmF_off (hd : dOk F h) {p j : Nat} (hp : p < 11 ∨ 51 ≤ p) (hp1 : ¬ p = 1) : rmF F h p j = F p j := by
  have := rm_ge hd
  unfold rmF
  rw [pu_at, if_neg (fun q => hp1 q.1), pu_at, if_neg (fun q => hp1 q.1), cpF_off (by omega)]
  split
  · rfl
  · rw [pu_at, if_neg (fun q => hp1 q.1)]
theorem rmG_off (hd : dOk F h) {p j : Nat} (hp : p < 11 ∨ 51 ≤ p) : rmG F G h p j = G p j := by
  have := rm_ge hd
  unfold rmG
  exact cpG_off (by omega)
theorem rm_nOk (hd : dOk F h) (hn : nOk F G) : nOk (rmF F h) (rmG F G h) := by
  unfold nOk at hn ⊢
  simp only [rmF_off hd (Or.inl (by decide : (2 : Nat) < 11)) (by decide), rmF_off hd (Or.inl (by decide : (3 : Nat) < 11)) (by decide), rmF_off hd (Or.inl (by decide : (4 : Nat) < 11)) (by decide), rmF_off hd (Or.inl (by decide : (5 : Nat) < 11)) (by decide), rmF_off hd (Or.inl (by decide : (6 : Nat) < 11)) (by decide), rmF_off hd (Or.inl (by decide : (8 : Nat) < 11)) (by decide), rmF_off hd (Or.inl (by decide : (9 : Nat) < 11)) (by decide), rmG_off hd (Or.inl (by decide : (2 : Nat) < 11)), rmG_off hd (Or.inl (by decide : (7 : Nat) < 11))]
  exact hn
theorem o_remember (hd : dOk F h) (hn : nOk F G) : pq_Ca (d + 3) 64 [.ref 1] (pq_Sh L, pn F, pl G, pq_rt h) (fun r M' => r = none ∧ M' = (pq_Sh L, pn (rmF F h), pl (rmG F G h), pq_rt (rmH F h))) := by
  obtain ⟨n1, n2, n3, n4, n5, n6, n7, n8, n9, n10, n11, n12, n13, n14, n15, n16⟩ := hn
  exact c_remember hd.1 hd.2 n14 n15
theorem o_reset {n : Nat} (hd : dOk F h) (hn : nOk F G) (h2 : 2 ≤ n) (h6 : n ≤ 6) : pq_Ca (d + 5) 63 [.ref 1, .int (nI n)] (pq_Sh L, pn F, pl G, pq_rt h) (fun r M' => r = some (.int (nI (F 2 0))) ∧ M' = (pq_Sh L, pn (saF (rmF F h) n), pl (pq_u (rmG F G h) 2 1 (wStays n)), pq_rt (rmH F h))) := by
  refine Ca_mk rfl rfl ?_
  (repeat (first | refine E_st rfl ?_ | refine E_go rfl ?_))
  refine E_nif rfl (nI_nlt h2 (by omega)) ?_
  (repeat (first | refine E_st rfl ?_ | refine E_go rfl ?_))
  refine E_nif rfl (nI_nlt h6 (by decide)) ?_
  (repeat (first | refine E_st rfl ?_ | refine E_go rfl ?_))
  refine E_cx rfl (by omega) (o_remember (d := 0) hd hn) ?_
  (repeat (first | refine E_st rfl ?_ | refine E_go rfl ?_))
  have hn2 := rm_nOk hd hn
  refine E_cx rfl (by omega) (c_startAnew (d := 0) h6 (fun k hk => Nat.lt_trans (hn2.2.2.2.2.2.2.1 k hk) (by decide))) ?_
  (repeat (first | refine E_st rfl ?_ | refine E_go rfl ?_))
  refine E_rt rfl ⟨?_, rfl⟩
  rw [pn_at, rmF_off hd (Or.inl (by decide)) (by decide)]
theorem o_reset0 {x : Int32} (hx : x < nI 2 ∨ nI 6 < x) : pq_Ca (d + 1) 63 [.ref 1, .int x] (pq_Sh L, pn F, pl G, pq_rt h) (fun r M' => r = some (.int (-1)) ∧ M' = (pq_Sh L, pn (F), pl (G), pq_rt h)) := by
  refine Ca_mk rfl rfl ?_
  (repeat (first | refine E_st rfl ?_ | refine E_go rfl ?_))
  refine E_br rfl (fun c => ?_) (fun c => ?_)
  · (repeat (first | refine E_st rfl ?_ | refine E_go rfl ?_))
    exact E_rt rfl ⟨rfl, rfl⟩
  · (repeat (first | refine E_st rfl ?_ | refine E_go rfl ?_))
    refine E_if rfl (hx.resolve_left c) ?_
    (repeat (first | refine E_st rfl ?_ | refine E_go rfl ?_))
    exact E_rt rfl ⟨rfl, rfl⟩
theorem o_put {v : Nat} (hd : dOk F h) (hn : nOk F G) (hv : v < F 2 0) (hK : F 2 2 < 3) : pq_Ca (d + 5) 72 [.ref 1, .int (nI v)] (pq_Sh L, pn F, pl G, pq_rt h) (fun r M' => r = some (.int (nI (F 2 2))) ∧ M' = (pq_Sh L, pn (adF (rmF F h) v), pl (rmG F G h), pq_rt (rmH F h))) := by
  have hn2 := rm_nOk hd hn
  obtain ⟨n1, n2, n3, n4, n5, n6, n7, n8, n9, n10, n11, n12, n13, n14, n15, n16, n17, n18, n19, n20⟩ := hn2
  have e2 : rmF F h 2 2 = F 2 2 := rmF_off hd (Or.inl (by decide)) (by decide)
  refine Ca_mk rfl rfl ?_
  (repeat (first | refine E_st rfl ?_ | refine E_go rfl ?_))
  refine E_cx rfl (by omega) (c_isNode (d := 0) hn.1 hv) ?_
  refine E_nif rfl (nI_ne0 (by decide) (by decide)) ?_
  (repeat (first | refine E_st rfl ?_ | refine E_go rfl ?_))
  refine E_if rfl (show nI (F 2 2) < nI 3 from nI_lt hK (by decide)) ?_
  (repeat (first | refine E_st rfl ?_ | refine E_go rfl ?_))
  refine E_cx rfl (by omega) (o_remember (d := 0) hd hn) ?_
  (repeat (first | refine E_st rfl ?_ | refine E_go rfl ?_))
  have hn1 := hn.1
  refine E_cx rfl (by omega) (c_addSearcher (d := 0) (F := rmF F h) (by omega) (by omega) (by omega) (by omega) (by omega)) ?_
  (repeat (first | refine E_st rfl ?_ | refine E_go rfl ?_))
  refine E_rt rfl ⟨?_, rfl⟩
  have e : adF (rmF F h) v 2 2 = F 2 2 + 1 := by
    unfold adF; split <;> (show rmF F h 2 2 + 1 = _; rw [e2])
  rw [pn_at, e, pk_sub (by omega)]
  rfl
theorem o_put0 {x : Int32} (hx : x < 0 ∨ nI (F 2 0) ≤ x) : pq_Ca (d + 2) 72 [.ref 1, .int x] (pq_Sh L, pn F, pl G, pq_rt h) (fun r M' => r = some (.int (-1)) ∧ M' = (pq_Sh L, pn (F), pl (G), pq_rt h)) := by
  refine Ca_mk rfl rfl ?_
  (repeat (first | refine E_st rfl ?_ | refine E_go rfl ?_))
  refine E_cx rfl (by omega) (c_isNode0 (d := 0) hx) ?_
  refine E_if rfl rfl ?_
  (repeat (first | refine E_st rfl ?_ | refine E_go rfl ?_))
  exact E_rt rfl ⟨rfl, rfl⟩
theorem o_put3 {v : Nat} (hn : nOk F G) (hv : v < F 2 0) (hK : ¬ F 2 2 < 3) : pq_Ca (d + 2) 72 [.ref 1, .int (nI v)] (pq_Sh L, pn F, pl G, pq_rt h) (fun r M' => r = some (.int (-3)) ∧ M' = (pq_Sh L, pn (F), pl (G), pq_rt h)) := by
  have := hn.2.1
  refine Ca_mk rfl rfl ?_
  (repeat (first | refine E_st rfl ?_ | refine E_go rfl ?_))
  refine E_cx rfl (by omega) (c_isNode (d := 0) hn.1 hv) ?_
  refine E_nif rfl (nI_ne0 (by decide) (by decide)) ?_
  (repeat (first | refine E_st rfl ?_ | refine E_go rfl ?_))
  refine E_nif rfl (show ¬ nI (F 2 2) < nI 3 from nI_nlt (by omega) (by omega)) ?_
  (repeat (first | refine E_st rfl ?_ | refine E_go rfl ?_))
  exact E_rt rfl ⟨rfl, rfl⟩
theorem o_leave (hd : dOk F h) (hn : nOk F G) (hK : 0 < F 2 2) : pq_Ca (d + 4) 73 [.ref 1] (pq_Sh L, pn F, pl G, pq_rt h) (fun r M' => r = some (.int (nI (F 2 2 - 1))) ∧ M' = (pq_Sh L, pn (pq_u (rmF F h) 2 2 (F 2 2 - 1)), pl (rmG F G h), pq_rt (rmH F h))) := by
  have := hn.2.1
  have e2 : rmF F h 2 2 = F 2 2 := rmF_off hd (Or.inl (by decide)) (by decide)
  refine Ca_mk rfl rfl ?_
  (repeat (first | refine E_st rfl ?_ | refine E_go rfl ?_))
  refine E_if rfl (show nI 0 < nI (F 2 2) from nI_lt hK (by omega)) ?_
  (repeat (first | refine E_st rfl ?_ | refine E_go rfl ?_))
  refine E_cx rfl (by omega) (o_remember (d := 0) hd hn) ?_
  (repeat (first | refine E_st rfl ?_ | refine E_go rfl ?_))
  rw [pn_at, e2, pk_sub (by omega)]
  simp +decide only [pn_at, pl_at, pu_n, pu_l, pc_n, pc_l, pu_at, nI_add, if_true, if_false, and_true, true_and, and_false, false_and, and_self]
  exact E_rt rfl ⟨rfl, rfl⟩
theorem o_leave0 (hK : F 2 2 = 0) : pq_Ca (d + 1) 73 [.ref 1] (pq_Sh L, pn F, pl G, pq_rt h) (fun r M' => r = some (.int (-2)) ∧ M' = (pq_Sh L, pn (F), pl (G), pq_rt h)) := by
  refine Ca_mk rfl rfl ?_
  (repeat (first | refine E_st rfl ?_ | refine E_go rfl ?_))
  refine E_nif rfl (show ¬ nI 0 < nI (F 2 2) by rw [hK]; decide) ?_
  (repeat (first | refine E_st rfl ?_ | refine E_go rfl ?_))
  exact E_rt rfl ⟨rfl, rfl⟩
theorem o_release (hd : dOk F h) (hn : nOk F G) : pq_Ca (d + 4) 76 [.ref 1] (pq_Sh L, pn F, pl G, pq_rt h) (fun r M' => r = some (.int (nI (bgF (rmF F h) 6 (F 2 5 % 8)))) ∧ M' = (pq_Sh L, pn (bgF (rmF F h)), pl (rmG F G h), pq_rt (rmH F h))) := by
  have hn2 := rm_nOk hd hn
  have e5 : rmF F h 2 5 = F 2 5 := rmF_off hd (Or.inl (by decide)) (by decide)
  refine Ca_mk rfl rfl ?_
  (repeat (first | refine E_st rfl ?_ | refine E_go rfl ?_))
  refine E_cx rfl (by omega) (o_remember (d := 0) hd hn) ?_
  (repeat (first | refine E_st rfl ?_ | refine E_go rfl ?_))
  refine E_cx rfl (by omega) (c_forget (d := 0) hn2.2.1 (fun k hk => Nat.lt_trans (hn2.2.2.2.2.2.2.1 k hk) (by decide)) hn2.1) ?_
  (repeat (first | refine E_st rfl ?_ | refine E_go rfl ?_))
  refine E_cx rfl (by omega) (c_belief (d := 0)) ?_
  refine E_rt rfl ⟨?_, rfl⟩
  show some (Value.int (nI (bgF (rmF F h) 6 (rmF F h 2 5 % 8)))) = _
  rw [e5]
theorem o_undo (hd : dOk F h) (hr : 0 < F 1 2) (hb0 : F (h (F 1 2 - 1) + 6) 0 ≤ 1) (hb3 : F (h (F 1 2 - 1) + 6) 3 ≤ 1) : pq_Ca (d + 3) 81 [.ref 1] (pq_Sh L, pn F, pl G, pq_rt h) (fun r M' => r = some (.int (nI (F 1 2 - 1))) ∧ M' = (pq_Sh L, pn (pq_u (cpF (pq_u F 1 2 (F 1 2 - 1)) 2 (h (F 1 2 - 1))) 1 6 0), pl (cpG G 2 (h (F 1 2 - 1))), pq_rt h)) := by
  have h5 := hd.1
  have hlt : F 1 2 - 1 < 5 := by omega
  refine Ca_mk rfl rfl ?_
  (repeat (first | refine E_st rfl ?_ | refine E_go rfl ?_))
  refine E_if rfl (show nI 0 < nI (F 1 2) from nI_lt hr (by omega)) ?_
  (repeat (first | refine E_st rfl ?_ | refine E_go rfl ?_))
  rw [pn_at, pk_sub (by omega)]
  simp +decide only [pn_at, pl_at, pu_n, pu_l, pc_n, pc_l, pu_at, nI_add, if_true, if_false, and_true, true_and, and_false, false_and, and_self]
  refine E_aal rfl rfl hlt (by decide) (q := h (F 1 2 - 1)) (prt_at hlt) ?_
  have hcp := hCp2 hd.2 hlt
  have hge : 11 ≤ h (F 1 2 - 1) := by rcases hd.2.1 _ hlt with e | e | e | e | e <;> omega
  have hb0' : pq_u F 1 2 (F 1 2 - 1) (h (F 1 2 - 1) + 6) 0 ≤ 1 := by rw [pu_at, if_neg (by omega)]; exact hb0
  have hb3' : pq_u F 1 2 (F 1 2 - 1) (h (F 1 2 - 1) + 6) 3 ≤ 1 := by rw [pu_at, if_neg (by omega)]; exact hb3
  refine E_cx rfl (by omega) (c_copyS (d := 0) hcp hb0' hb3') ?_
  (repeat (first | refine E_st rfl ?_ | refine E_go rfl ?_))
  simp only [pu_n, pu_l, pc_n, pc_l]
  refine E_rt rfl ⟨?_, rfl⟩
  rw [pn_at, pu_at, if_neg (by decide), cpF_off (Or.inl (by decide)), pu_at, if_pos ⟨rfl, rfl⟩]
theorem o_undo0 (hr : F 1 2 = 0) : pq_Ca (d + 1) 81 [.ref 1] (pq_Sh L, pn F, pl G, pq_rt h) (fun r M' => r = some (.int (-2)) ∧ M' = (pq_Sh L, pn (F), pl (G), pq_rt h)) := by
  refine Ca_mk rfl rfl ?_
  (repeat (first | refine E_st rfl ?_ | refine E_go rfl ?_))
  refine E_nif rfl (show ¬ nI 0 < nI (F 1 2) by rw [hr]; decide) ?_
  (repeat (first | refine E_st rfl ?_ | refine E_go rfl ?_))
  exact E_rt rfl ⟨rfl, rfl⟩
end OPS
