section OPU
variable {d L : Nat} {F G : Nat → Nat → Nat} {h : Nat → Nat}
theorem o_order {k v : Nat} (hd : dOk F h) (hn : nOk F G) (hk : k < F 2 2) (hv : v < F 2 0) (hj : (G 2 1).testBit (6 * F 3 k + v) = true) : pq_Ca (d + 4) 74 [.ref 1, .int (nI k), .int (nI v)] (pq_Sh L, pn F, pl G, pq_rt h) (fun r M' => r = some (.int (nI (F 4 k))) ∧ M' = (pq_Sh L, pn (pq_u (rmF F h) 4 k v), pl (rmG F G h), pq_rt (rmH F h))) := by
  have e4 : rmF F h 4 k = F 4 k := rmF_off hd (Or.inl (by decide)) (by decide)
  have hn1 := hn.1
  have hn2 := hn.2.1
  have h3 := hn.2.2.2.2.2.2.1 k (by omega)
  refine Ca_mk rfl rfl ?_
  (repeat (first | refine E_st rfl ?_ | refine E_go rfl ?_))
  refine E_cx rfl (by omega) (c_isSearcher (d := 0) hn.2.1 hk) ?_
  refine E_nif rfl (nI_ne0 (by decide) (by decide)) ?_
  (repeat (first | refine E_st rfl ?_ | refine E_go rfl ?_))
  refine E_cx rfl (by omega) (c_isNode (d := 0) hn.1 hv) ?_
  refine E_nif rfl (nI_ne0 (by decide) (by decide)) ?_
  (repeat (first | refine E_st rfl ?_ | refine E_go rfl ?_))
  refine E_ial rfl rfl (by omega) (by decide) ?_
  (repeat (first | refine E_st rfl ?_ | refine E_go rfl ?_))
  refine E_cx rfl (by omega) (c_joins (d := 0) hn.2.2.2.2.2.1 (by omega)) ?_
  rw [if_pos hj]
  refine E_nif rfl (nI_ne0 (by decide) (by decide)) ?_
  (repeat (first | refine E_st rfl ?_ | refine E_go rfl ?_))
  refine E_cx rfl (by omega) (o_remember (d := 0) hd hn) ?_
  (repeat (first | refine E_st rfl ?_ | refine E_go rfl ?_))
  refine E_ial rfl rfl (by omega) (by decide) ?_
  (repeat (first | refine E_st rfl ?_ | refine E_go rfl ?_))
  refine E_ias rfl rfl (by omega) (by decide) (by decide) ?_
  (repeat (first | refine E_st rfl ?_ | refine E_go rfl ?_))
  exact E_rt rfl ⟨by rw [e4], rfl⟩
theorem o_order2 {k v : Nat} (hn : nOk F G) (hk : k < F 2 2) (hv : v < F 2 0) (hj : (G 2 1).testBit (6 * F 3 k + v) = false) : pq_Ca (d + 3) 74 [.ref 1, .int (nI k), .int (nI v)] (pq_Sh L, pn F, pl G, pq_rt h) (fun r M' => r = some (.int (-2)) ∧ M' = (pq_Sh L, pn (F), pl (G), pq_rt h)) := by
  have hn1 := hn.1
  have hn2 := hn.2.1
  have h3 := hn.2.2.2.2.2.2.1 k (by omega)
  refine Ca_mk rfl rfl ?_
  (repeat (first | refine E_st rfl ?_ | refine E_go rfl ?_))
  refine E_cx rfl (by omega) (c_isSearcher (d := 0) hn.2.1 hk) ?_
  refine E_nif rfl (nI_ne0 (by decide) (by decide)) ?_
  (repeat (first | refine E_st rfl ?_ | refine E_go rfl ?_))
  refine E_cx rfl (by omega) (c_isNode (d := 0) hn.1 hv) ?_
  refine E_nif rfl (nI_ne0 (by decide) (by decide)) ?_
  (repeat (first | refine E_st rfl ?_ | refine E_go rfl ?_))
  refine E_ial rfl rfl (by omega) (by decide) ?_
  (repeat (first | refine E_st rfl ?_ | refine E_go rfl ?_))
  refine E_cx rfl (by omega) (c_joins (d := 0) hn.2.2.2.2.2.1 (by omega)) ?_
  rw [if_neg (by rw [hj]; decide)]
  refine E_if rfl rfl ?_
  (repeat (first | refine E_st rfl ?_ | refine E_go rfl ?_))
  exact E_rt rfl ⟨rfl, rfl⟩
theorem o_order0 {x y : Int32} (hx : x < 0 ∨ nI (F 2 2) ≤ x) : pq_Ca (d + 2) 74 [.ref 1, .int x, .int y] (pq_Sh L, pn F, pl G, pq_rt h) (fun r M' => r = some (.int (-1)) ∧ M' = (pq_Sh L, pn (F), pl (G), pq_rt h)) := by
  refine Ca_mk rfl rfl ?_
  (repeat (first | refine E_st rfl ?_ | refine E_go rfl ?_))
  refine E_cx rfl (by omega) (c_isSearcher0 (d := 0) hx) ?_
  refine E_if rfl rfl ?_
  (repeat (first | refine E_st rfl ?_ | refine E_go rfl ?_))
  exact E_rt rfl ⟨rfl, rfl⟩
theorem o_order1 {k : Nat} {y : Int32} (hn : F 2 2 ≤ 3) (hk : k < F 2 2) (hy : y < 0 ∨ nI (F 2 0) ≤ y) : pq_Ca (d + 2) 74 [.ref 1, .int (nI k), .int y] (pq_Sh L, pn F, pl G, pq_rt h) (fun r M' => r = some (.int (-1)) ∧ M' = (pq_Sh L, pn (F), pl (G), pq_rt h)) := by
  refine Ca_mk rfl rfl ?_
  (repeat (first | refine E_st rfl ?_ | refine E_go rfl ?_))
  refine E_cx rfl (by omega) (c_isSearcher (d := 0) hn hk) ?_
  refine E_nif rfl (nI_ne0 (by decide) (by decide)) ?_
  (repeat (first | refine E_st rfl ?_ | refine E_go rfl ?_))
  refine E_cx rfl (by omega) (c_isNode0 (d := 0) hy) ?_
  refine E_if rfl rfl ?_
  (repeat (first | refine E_st rfl ?_ | refine E_go rfl ?_))
  exact E_rt rfl ⟨rfl, rfl⟩
def lkF (F G : Nat → Nat → Nat) (a b s : Nat) : Nat → Nat → Nat := if s = 1 then F else ctF F (an (G 2 1) (wEdge a b))
def lkW (w a b s : Nat) : Nat := if s = 1 then w ||| wEdge a b else an w (wEdge a b)
set_option maxHeartbeats 1000000 in
theorem o_link {a b s : Nat} (hd : dOk F h) (hn : nOk F G) (ha : a < F 2 0) (hb : b < F 2 0) (hab : a ≠ b) (hs : s ≤ 1) : pq_Ca (d + 4) 66 [.ref 1, .int (nI a), .int (nI b), .int (nI s)] (pq_Sh L, pn F, pl G, pq_rt h) (fun r M' => r = some (.int (nI (if (G 2 1).testBit (6 * a + b) then 1 else 0))) ∧ M' = (pq_Sh L, pn (lkF (rmF F h) (rmG F G h) a b s), pl (pq_u (rmG F G h) 2 1 (lkW (G 2 1) a b s)), pq_rt (rmH F h))) := by
  have eG : rmG F G h 2 1 = G 2 1 := rmG_off hd (Or.inl (by decide))
  have hn1 := hn.1
  have hn2 := rm_nOk hd hn
  obtain ⟨n1, n2, n3, n4, n5, n6, n7, n8, n9, n10, n11, n12, n13, n14, n15, n16, n17, n18, n19, n20⟩ := hn2
  refine Ca_mk rfl rfl ?_
  (repeat (first | refine E_st rfl ?_ | refine E_go rfl ?_))
  refine E_cx rfl (by omega) (c_isNode (d := 0) hn.1 ha) ?_
  refine E_nif rfl (nI_ne0 (by decide) (by decide)) ?_
  (repeat (first | refine E_st rfl ?_ | refine E_go rfl ?_))
  refine E_cx rfl (by omega) (c_isNode (d := 0) hn.1 hb) ?_
  refine E_nif rfl (nI_ne0 (by decide) (by decide)) ?_
  (repeat (first | refine E_st rfl ?_ | refine E_go rfl ?_))
  refine E_nif rfl (fun e => hab ((nI_eq (by omega) (by omega)).mp e)) ?_
  (repeat (first | refine E_st rfl ?_ | refine E_go rfl ?_))
  refine E_nif rfl (nI_pos (by omega)) ?_
  (repeat (first | refine E_st rfl ?_ | refine E_go rfl ?_))
  refine E_nif rfl (nI_nlt hs (by decide)) ?_
  (repeat (first | refine E_st rfl ?_ | refine E_go rfl ?_))
  refine E_cx rfl (by omega) (o_remember (d := 0) hd hn) ?_
  (repeat (first | refine E_st rfl ?_ | refine E_go rfl ?_))
  refine E_cx rfl (by omega) (c_joins (d := 0) n6 (by omega)) ?_
  rw [eG]
  have key : pq_Ev (d + 3) 66 55 [some (.ref 1), some (.int (nI a)), some (.int (nI b)), some (.int (nI s)), some (.int (nI (if (G 2 1).testBit (6 * a + b) then 1 else 0)))] [] (pq_Sh L, pn (rmF F h), pl (rmG F G h), pq_rt (rmH F h)) (fun r M' => r = some (.int (nI (if (G 2 1).testBit (6 * a + b) then 1 else 0))) ∧ M' = (pq_Sh L, pn (lkF (rmF F h) (rmG F G h) a b s), pl (pq_u (rmG F G h) 2 1 (lkW (G 2 1) a b s)), pq_rt (rmH F h))) := by
    (repeat (first | refine E_st rfl ?_ | refine E_go rfl ?_))
    by_cases h1 : s = 1
    · subst h1
      refine E_if rfl rfl ?_
      (repeat (first | refine E_st rfl ?_ | refine E_go rfl ?_))
      refine E_cx rfl (by omega) (c_edge (d := 0) (by omega) (by omega)) ?_
      (repeat (first | refine E_st rfl ?_ | refine E_go rfl ?_))
      rw [pl_at, zl_or]
      simp only [pu_n, pu_l, pc_n, pc_l]
      rw [eG]
      exact E_rt rfl ⟨rfl, rfl⟩
    · have h0 : s = 0 := by omega
      subst h0
      refine E_nif rfl (by decide) ?_
      (repeat (first | refine E_st rfl ?_ | refine E_go rfl ?_))
      refine E_cx rfl (by omega) (c_cut (d := 0) (by omega) (by omega) n2 n6 n7 n8 (Or.inr ⟨n16, n17⟩) (by omega)) ?_
      (repeat (first | refine E_st rfl ?_ | refine E_go rfl ?_))
      refine E_rt rfl ⟨rfl, ?_⟩
      rw [eG]
      unfold lkF lkW
      rw [if_neg (by decide), if_neg (by decide), eG]
  by_cases hj : (G 2 1).testBit (6 * a + b) = true
  · rw [if_pos hj] at key ⊢
    refine E_nif rfl (nI_ne0 (by decide) (by decide)) ?_
    (iterate 3 (first | refine E_st rfl ?_ | refine E_go rfl ?_))
    exact key
  · rw [if_neg hj] at key ⊢
    refine E_if rfl rfl ?_
    (iterate 2 (first | refine E_st rfl ?_ | refine E_go rfl ?_))
    exact key
theorem o_link0 {x y z : Int32} (hx : x < 0 ∨ nI (F 2 0) ≤ x) : pq_Ca (d + 2) 66 [.ref 1, .int x, .int y, .int z] (pq_Sh L, pn F, pl G, pq_rt h) (fun r M' => r = some (.int (-1)) ∧ M' = (pq_Sh L, pn (F), pl (G), pq_rt h)) := by
  refine Ca_mk rfl rfl ?_
  (repeat (first | refine E_st rfl ?_ | refine E_go rfl ?_))
  refine E_cx rfl (by omega) (c_isNode0 (d := 0) hx) ?_
  refine E_if rfl rfl ?_
  (repeat (first | refine E_st rfl ?_ | refine E_go rfl ?_))
  exact E_rt rfl ⟨rfl, rfl⟩
theorem o_link1 {a : Nat} {y z : Int32} (hn : F 2 0 ≤ 6) (ha : a < F 2 0) (hy : y < 0 ∨ nI (F 2 0) ≤ y) : pq_Ca (d + 2) 66 [.ref 1, .int (nI a), .int y, .int z] (pq_Sh L, pn F, pl G, pq_rt h) (fun r M' => r = some (.int (-1)) ∧ M' = (pq_Sh L, pn (F), pl (G), pq_rt h)) := by
  refine Ca_mk rfl rfl ?_
  (repeat (first | refine E_st rfl ?_ | refine E_go rfl ?_))
  refine E_cx rfl (by omega) (c_isNode (d := 0) hn ha) ?_
  refine E_nif rfl (nI_ne0 (by decide) (by decide)) ?_
  (repeat (first | refine E_st rfl ?_ | refine E_go rfl ?_))
  refine E_cx rfl (by omega) (c_isNode0 (d := 0) hy) ?_
  refine E_if rfl rfl ?_
  (repeat (first | refine E_st rfl ?_ | refine E_go rfl ?_))
  exact E_rt rfl ⟨rfl, rfl⟩
theorem o_link2 {a b : Nat} {z : Int32} (hn : F 2 0 ≤ 6) (ha : a < F 2 0) (hb : b < F 2 0) (hz : a = b ∨ z < 0 ∨ nI 1 < z) : pq_Ca (d + 2) 66 [.ref 1, .int (nI a), .int (nI b), .int z] (pq_Sh L, pn F, pl G, pq_rt h) (fun r M' => r = some (.int (-1)) ∧ M' = (pq_Sh L, pn (F), pl (G), pq_rt h)) := by
  refine Ca_mk rfl rfl ?_
  (repeat (first | refine E_st rfl ?_ | refine E_go rfl ?_))
  refine E_cx rfl (by omega) (c_isNode (d := 0) hn ha) ?_
  refine E_nif rfl (nI_ne0 (by decide) (by decide)) ?_
  (repeat (first | refine E_st rfl ?_ | refine E_go rfl ?_))
  refine E_cx rfl (by omega) (c_isNode (d := 0) hn hb) ?_
  refine E_nif rfl (nI_ne0 (by decide) (by decide)) ?_
  (repeat (first | refine E_st rfl ?_ | refine E_go rfl ?_))
  refine E_br rfl (fun c => ?_) (fun c => ?_)
  · (repeat (first | refine E_st rfl ?_ | refine E_go rfl ?_))
    exact E_rt rfl ⟨rfl, rfl⟩
  have c0 : ¬ a = b := fun e => c (by rw [e])
  (repeat (first | refine E_st rfl ?_ | refine E_go rfl ?_))
  refine E_br rfl (fun c2 => ?_) (fun c2 => ?_)
  · (repeat (first | refine E_st rfl ?_ | refine E_go rfl ?_))
    exact E_rt rfl ⟨rfl, rfl⟩
  (repeat (first | refine E_st rfl ?_ | refine E_go rfl ?_))
  refine E_if rfl ((hz.resolve_left c0).resolve_left c2) ?_
  (repeat (first | refine E_st rfl ?_ | refine E_go rfl ?_))
  exact E_rt rfl ⟨rfl, rfl⟩
theorem o_tell {t v : Nat} (hd : dOk F h) (hn : nOk F G) (ht : t ≤ F 2 5) (hv : v < F 2 0) (hk : F 2 5 < t + F 5 3) (hb : (F 6 (t % 8)).testBit v = true) : pq_Ca (d + 5) 79 [.ref 1, .int (nI t), .int (nI v)] (pq_Sh L, pn F, pl G, pq_rt h) (fun r M' => r = some (.int (nI (nwF (rmF F h) (rmG F G h) t v (F 2 5 - t) 6 (F 2 5 % 8)))) ∧ M' = (pq_Sh L, pn (nwF (rmF F h) (rmG F G h) t v (F 2 5 - t)), pl (rmG F G h), pq_rt (rmH F h))) := by
  have e6 : ∀ i, rmF F h 6 i = F 6 i := fun i => rmF_off hd (Or.inl (by decide)) (by decide)
  have e5 : rmF F h 2 5 = F 2 5 := rmF_off hd (Or.inl (by decide)) (by decide)
  have e52 : rmF F h 5 2 = F 2 5 := by rw [rmF_off hd (Or.inl (by decide)) (by decide)]; exact hn.2.2.2.2.2.2.2.2.2.2.1
  have hn2 := rm_nOk hd hn
  obtain ⟨n1, n2, n3, n4, n5, n6, n7, n8, n9, n10, n11, n12, n13, n14, n15, n16, n17, n18, n19, n20⟩ := hn
  obtain ⟨m1, m2, m3, m4, m5, m6, m7, m8, m9, m10, m11, m12, m13, m14, m15, m16, m17, m18, m19, m20⟩ := hn2
  refine Ca_mk rfl rfl ?_
  (repeat (first | refine E_st rfl ?_ | refine E_go rfl ?_))
  refine E_nif rfl (nI_pos (by omega)) ?_
  (repeat (first | refine E_st rfl ?_ | refine E_go rfl ?_))
  refine E_nif rfl (show ¬ nI (F 2 5) < nI t from nI_nlt (by omega) (by omega)) ?_
  (repeat (first | refine E_st rfl ?_ | refine E_go rfl ?_))
  refine E_cx rfl (by omega) (c_isNode (d := 0) n1 hv) ?_
  refine E_nif rfl (nI_ne0 (by decide) (by decide)) ?_
  (repeat (first | refine E_st rfl ?_ | refine E_go rfl ?_))
  refine E_cx rfl (by omega) (c_keeps (d := 0) (by omega) (by omega) (by omega)) ?_
  rw [if_pos (by omega)]
  refine E_nif rfl (nI_ne0 (by decide) (by decide)) ?_
  (repeat (first | refine E_st rfl ?_ | refine E_go rfl ?_))
  refine E_cx rfl (by omega) (c_after (d := 0)) ?_
  (repeat (first | refine E_st rfl ?_ | refine E_go rfl ?_))
  refine E_cx rfl (by omega) (c_contains (d := 0) (Nat.lt_trans (n9 _ (by omega)) (by decide)) (by omega)) ?_
  rw [if_pos hb]
  refine E_nif rfl (nI_ne0 (by decide) (by decide)) ?_
  (repeat (first | refine E_st rfl ?_ | refine E_go rfl ?_))
  refine E_cx rfl (by omega) (o_remember (d := 0) hd ⟨n1, n2, n3, n4, n5, n6, n7, n8, n9, n10, n11, n12, n13, n14, n15, n16, n17, n18, n19, n20⟩) ?_
  (repeat (first | refine E_st rfl ?_ | refine E_go rfl ?_))
  refine E_cx rfl (by omega) (c_narrow (d := 0) (F := rmF F h) (G := rmG F G h) (by rw [e52]; exact ht) (by omega) m9 (fun i hi => Nat.lt_trans (m10 i hi) (by decide)) (by omega)) ?_
  rw [e6, if_pos hb, e52]
  (repeat (first | refine E_st rfl ?_ | refine E_go rfl ?_))
  refine E_cx rfl (by omega) (c_belief (d := 0)) ?_
  refine E_rt rfl ⟨?_, rfl⟩
  rw [nwF_off _ _ _ 2 5 (by decide), e5]
theorem o_tell0 {x y : Int32} (hx : x < 0 ∨ nI (F 2 5) < x ∨ y < 0 ∨ nI (F 2 0) ≤ y) : pq_Ca (d + 2) 79 [.ref 1, .int x, .int y] (pq_Sh L, pn F, pl G, pq_rt h) (fun r M' => r = some (.int (-1)) ∧ M' = (pq_Sh L, pn (F), pl (G), pq_rt h)) := by
  refine Ca_mk rfl rfl ?_
  (repeat (first | refine E_st rfl ?_ | refine E_go rfl ?_))
  refine E_br rfl (fun c => ?_) (fun c => ?_)
  · (repeat (first | refine E_st rfl ?_ | refine E_go rfl ?_))
    exact E_rt rfl ⟨rfl, rfl⟩
  (repeat (first | refine E_st rfl ?_ | refine E_go rfl ?_))
  refine E_br rfl (fun c2 => ?_) (fun c2 => ?_)
  · (repeat (first | refine E_st rfl ?_ | refine E_go rfl ?_))
    exact E_rt rfl ⟨rfl, rfl⟩
  (repeat (first | refine E_st rfl ?_ | refine E_go rfl ?_))
  refine E_cx rfl (by omega) (c_isNode0 (d := 0) ((hx.resolve_left c).resolve_left c2)) ?_
  refine E_if rfl rfl ?_
  (repeat (first | refine E_st rfl ?_ | refine E_go rfl ?_))
  exact E_rt rfl ⟨rfl, rfl⟩
theorem o_tell4 {t v : Nat} (hn : nOk F G) (ht : t ≤ F 2 5) (hv : v < F 2 0) (hk : ¬ F 2 5 < t + F 5 3) : pq_Ca (d + 3) 79 [.ref 1, .int (nI t), .int (nI v)] (pq_Sh L, pn F, pl G, pq_rt h) (fun r M' => r = some (.int (-4)) ∧ M' = (pq_Sh L, pn (F), pl (G), pq_rt h)) := by
  obtain ⟨n1, n2, n3, n4, n5, n6, n7, n8, n9, n10, n11, n12, n13, n14, n15, n16, n17, n18, n19, n20⟩ := hn
  refine Ca_mk rfl rfl ?_
  (repeat (first | refine E_st rfl ?_ | refine E_go rfl ?_))
  refine E_nif rfl (nI_pos (by omega)) ?_
  (repeat (first | refine E_st rfl ?_ | refine E_go rfl ?_))
  refine E_nif rfl (show ¬ nI (F 2 5) < nI t from nI_nlt (by omega) (by omega)) ?_
  (repeat (first | refine E_st rfl ?_ | refine E_go rfl ?_))
  refine E_cx rfl (by omega) (c_isNode (d := 0) n1 hv) ?_
  refine E_nif rfl (nI_ne0 (by decide) (by decide)) ?_
  (repeat (first | refine E_st rfl ?_ | refine E_go rfl ?_))
  refine E_cx rfl (by omega) (c_keeps (d := 0) (by omega) (by omega) (by omega)) ?_
  rw [if_neg (by omega)]
  refine E_if rfl rfl ?_
  (repeat (first | refine E_st rfl ?_ | refine E_go rfl ?_))
  exact E_rt rfl ⟨rfl, rfl⟩
theorem o_tell2 {t v : Nat} (hn : nOk F G) (ht : t ≤ F 2 5) (hv : v < F 2 0) (hk : F 2 5 < t + F 5 3) (hb : (F 6 (t % 8)).testBit v = false) : pq_Ca (d + 3) 79 [.ref 1, .int (nI t), .int (nI v)] (pq_Sh L, pn F, pl G, pq_rt h) (fun r M' => r = some (.int (-2)) ∧ M' = (pq_Sh L, pn (F), pl (G), pq_rt h)) := by
  obtain ⟨n1, n2, n3, n4, n5, n6, n7, n8, n9, n10, n11, n12, n13, n14, n15, n16, n17, n18, n19, n20⟩ := hn
  refine Ca_mk rfl rfl ?_
  (repeat (first | refine E_st rfl ?_ | refine E_go rfl ?_))
  refine E_nif rfl (nI_pos (by omega)) ?_
  (repeat (first | refine E_st rfl ?_ | refine E_go rfl ?_))
  refine E_nif rfl (show ¬ nI (F 2 5) < nI t from nI_nlt (by omega) (by omega)) ?_
  (repeat (first | refine E_st rfl ?_ | refine E_go rfl ?_))
  refine E_cx rfl (by omega) (c_isNode (d := 0) n1 hv) ?_
  refine E_nif rfl (nI_ne0 (by decide) (by decide)) ?_
  (repeat (first | refine E_st rfl ?_ | refine E_go rfl ?_))
  refine E_cx rfl (by omega) (c_keeps (d := 0) (by omega) (by omega) (by omega)) ?_
  rw [if_pos (by omega)]
  refine E_nif rfl (nI_ne0 (by decide) (by decide)) ?_
  (repeat (first | refine E_st rfl ?_ | refine E_go rfl ?_))
  refine E_cx rfl (by omega) (c_after (d := 0)) ?_
  (repeat (first | refine E_st rfl ?_ | refine E_go rfl ?_))
  refine E_cx rfl (by omega) (c_contains (d := 0) (Nat.lt_trans (n9 _ (by omega)) (by decide)) (by omega)) ?_
  rw [if_neg (by rw [hb]; decide)]
  refine E_if rfl rfl ?_
  (repeat (first | refine E_st rfl ?_ | refine E_go rfl ?_))
  exact E_rt rfl ⟨rfl, rfl⟩
end OPU
