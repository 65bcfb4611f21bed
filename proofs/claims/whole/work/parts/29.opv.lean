section OPV
variable {d L : Nat} {F G : Nat → Nat → Nat} {h : Nat → Nat}
theorem o_hide {v : Nat} (hd : dOk F h) (hn : nOk F G) (hv : v < F 2 0) (ho : (occ F (F 2 2)).testBit v = false) (hol : occ F (F 2 2) < 2 ^ 31) : pq_Ca (d + 4) 85 [.ref 1, .int (nI v)] (pq_Sh L, pn F, pl G, pq_rt h) (fun r M' => r = some (.int (nI (if (F 6 (F 2 5 % 8)).testBit v then 1 else 0))) ∧ M' = (pq_Sh L, pn (hiF (rmF F h) v (F 2 5)), pl (rmG F G h), pq_rt (rmH F h))) := by
  have e6 : ∀ i, rmF F h 6 i = F 6 i := fun i => rmF_off hd (Or.inl (by decide)) (by decide)
  have e5 : rmF F h 2 5 = F 2 5 := rmF_off hd (Or.inl (by decide)) (by decide)
  obtain ⟨n1, n2, n3, n4, n5, n6, n7, n8, n9, n10, n11, n12, n13, n14, n15, n16, n17, n18, n19, n20⟩ := id hn
  refine Ca_mk rfl rfl ?_
  (repeat (first | refine E_st rfl ?_ | refine E_go rfl ?_))
  refine E_cx rfl (by omega) (c_isNode (d := 0) n1 hv) ?_
  refine E_nif rfl (nI_ne0 (by decide) (by decide)) ?_
  (repeat (first | refine E_st rfl ?_ | refine E_go rfl ?_))
  refine E_cx rfl (by omega) (c_occupied (d := 0) n2 (fun k hk => Nat.lt_trans (n7 k hk) (by decide))) ?_
  (repeat (first | refine E_st rfl ?_ | refine E_go rfl ?_))
  refine E_cx rfl (by omega) (c_contains (d := 0) hol (by omega)) ?_
  rw [if_neg (by rw [ho]; decide)]
  refine E_if rfl rfl ?_
  (repeat (first | refine E_st rfl ?_ | refine E_go rfl ?_))
  refine E_cx rfl (by omega) (o_remember (d := 0) hd hn) ?_
  (repeat (first | refine E_st rfl ?_ | refine E_go rfl ?_))
  rw [pn_at, e5]
  refine E_cx rfl (by omega) (c_hideAt (d := 0)) ?_
  (repeat (first | refine E_st rfl ?_ | refine E_go rfl ?_))
  refine E_cx rfl (by omega) (c_belief (d := 0)) ?_
  (repeat (first | refine E_st rfl ?_ | refine E_go rfl ?_))
  have eb : hiF (rmF F h) v (F 2 5) 6 (hiF (rmF F h) v (F 2 5) 2 5 % 8) = F 6 (F 2 5 % 8) := by
    show rmF F h 6 (rmF F h 2 5 % 8) = _
    rw [e5, e6]
  rw [eb]
  refine E_cx rfl (by omega) (c_contains (d := 0) (Nat.lt_trans (n9 _ (by omega)) (by decide)) (by omega)) ?_
  by_cases hb : (F 6 (F 2 5 % 8)).testBit v = true
  · rw [if_pos hb]
    refine E_nif rfl (nI_ne0 (by decide) (by decide)) ?_
    (repeat (first | refine E_st rfl ?_ | refine E_go rfl ?_))
    exact E_rt rfl ⟨rfl, rfl⟩
  · rw [if_neg hb]
    refine E_if rfl rfl ?_
    (repeat (first | refine E_st rfl ?_ | refine E_go rfl ?_))
    exact E_rt rfl ⟨rfl, rfl⟩
theorem o_hide0 {x : Int32} (hx : x < 0 ∨ nI (F 2 0) ≤ x) : pq_Ca (d + 2) 85 [.ref 1, .int x] (pq_Sh L, pn F, pl G, pq_rt h) (fun r M' => r = some (.int (-1)) ∧ M' = (pq_Sh L, pn (F), pl (G), pq_rt h)) := by
  refine Ca_mk rfl rfl ?_
  (repeat (first | refine E_st rfl ?_ | refine E_go rfl ?_))
  refine E_cx rfl (by omega) (c_isNode0 (d := 0) hx) ?_
  refine E_if rfl rfl ?_
  (repeat (first | refine E_st rfl ?_ | refine E_go rfl ?_))
  exact E_rt rfl ⟨rfl, rfl⟩
theorem o_hide2 {v : Nat} (hn : nOk F G) (hv : v < F 2 0) (ho : (occ F (F 2 2)).testBit v = true) (hol : occ F (F 2 2) < 2 ^ 31) : pq_Ca (d + 2) 85 [.ref 1, .int (nI v)] (pq_Sh L, pn F, pl G, pq_rt h) (fun r M' => r = some (.int (-2)) ∧ M' = (pq_Sh L, pn (F), pl (G), pq_rt h)) := by
  obtain ⟨n1, n2, n3, n4, n5, n6, n7, n8, n9⟩ := id hn
  refine Ca_mk rfl rfl ?_
  (repeat (first | refine E_st rfl ?_ | refine E_go rfl ?_))
  refine E_cx rfl (by omega) (c_isNode (d := 0) n1 hv) ?_
  refine E_nif rfl (nI_ne0 (by decide) (by decide)) ?_
  (repeat (first | refine E_st rfl ?_ | refine E_go rfl ?_))
  refine E_cx rfl (by omega) (c_occupied (d := 0) n2 (fun k hk => Nat.lt_trans (n7 k hk) (by decide))) ?_
  (repeat (first | refine E_st rfl ?_ | refine E_go rfl ?_))
  refine E_cx rfl (by omega) (c_contains (d := 0) hol (by omega)) ?_
  rw [if_pos ho]
  refine E_nif rfl (nI_ne0 (by decide) (by decide)) ?_
  (repeat (first | refine E_st rfl ?_ | refine E_go rfl ?_))
  exact E_rt rfl ⟨rfl, rfl⟩
theorem o_flee {v : Nat} (hd : dOk F h) (hn : nOk F G) (hv : v < F 2 0) (hf : ¬ (F 8 0 = 0 ∨ F 8 3 ≠ 0)) (hj : (G 2 1).testBit (6 * F 8 1 + v) = true) : pq_Ca (d + 4) 86 [.ref 1, .int (nI v)] (pq_Sh L, pn F, pl G, pq_rt h) (fun r M' => r = some (.int (nI (F 8 2))) ∧ M' = (pq_Sh L, pn (pq_u (rmF F h) 8 2 v), pl (rmG F G h), pq_rt (rmH F h))) := by
  have e2 : rmF F h 8 2 = F 8 2 := rmF_off hd (Or.inl (by decide)) (by decide)
  obtain ⟨n1, n2, n3, n4, n5, n6, n7, n8, n9, n10, n11, n12, n13, n14, n15, n16, n17, n18, n19, n20⟩ := id hn
  refine Ca_mk rfl rfl ?_
  (repeat (first | refine E_st rfl ?_ | refine E_go rfl ?_))
  refine E_cx rfl (by omega) (c_isNode (d := 0) n1 hv) ?_
  refine E_nif rfl (nI_ne0 (by decide) (by decide)) ?_
  (repeat (first | refine E_st rfl ?_ | refine E_go rfl ?_))
  refine E_cx rfl (by omega) (c_isFree (d := 0) (by omega) (by omega)) ?_
  rw [if_neg hf]
  refine E_nif rfl (nI_ne0 (by decide) (by decide)) ?_
  (repeat (first | refine E_st rfl ?_ | refine E_go rfl ?_))
  refine E_cx rfl (by omega) (c_joins (d := 0) (a := F 8 1) n6 (by omega)) ?_
  rw [if_pos hj]
  refine E_nif rfl (nI_ne0 (by decide) (by decide)) ?_
  (repeat (first | refine E_st rfl ?_ | refine E_go rfl ?_))
  refine E_cx rfl (by omega) (o_remember (d := 0) hd hn) ?_
  (repeat (first | refine E_st rfl ?_ | refine E_go rfl ?_))
  simp only [pu_n, pu_l, pc_n, pc_l]
  exact E_rt rfl ⟨by rw [pn_at, e2], rfl⟩
theorem o_flee0 {x : Int32} (hx : x < 0 ∨ nI (F 2 0) ≤ x) : pq_Ca (d + 2) 86 [.ref 1, .int x] (pq_Sh L, pn F, pl G, pq_rt h) (fun r M' => r = some (.int (-1)) ∧ M' = (pq_Sh L, pn (F), pl (G), pq_rt h)) := by
  refine Ca_mk rfl rfl ?_
  (repeat (first | refine E_st rfl ?_ | refine E_go rfl ?_))
  refine E_cx rfl (by omega) (c_isNode0 (d := 0) hx) ?_
  refine E_if rfl rfl ?_
  (repeat (first | refine E_st rfl ?_ | refine E_go rfl ?_))
  exact E_rt rfl ⟨rfl, rfl⟩
theorem o_flee2 {v : Nat} (hn : nOk F G) (hv : v < F 2 0) (hf : (F 8 0 = 0 ∨ F 8 3 ≠ 0) ∨ (G 2 1).testBit (6 * F 8 1 + v) = false) : pq_Ca (d + 3) 86 [.ref 1, .int (nI v)] (pq_Sh L, pn F, pl G, pq_rt h) (fun r M' => r = some (.int (-2)) ∧ M' = (pq_Sh L, pn (F), pl (G), pq_rt h)) := by
  obtain ⟨n1, n2, n3, n4, n5, n6, n7, n8, n9, n10, n11, n12, n13, n14, n15, n16, n17, n18, n19, n20⟩ := id hn
  refine Ca_mk rfl rfl ?_
  (repeat (first | refine E_st rfl ?_ | refine E_go rfl ?_))
  refine E_cx rfl (by omega) (c_isNode (d := 0) n1 hv) ?_
  refine E_nif rfl (nI_ne0 (by decide) (by decide)) ?_
  (repeat (first | refine E_st rfl ?_ | refine E_go rfl ?_))
  refine E_cx rfl (by omega) (c_isFree (d := 0) (by omega) (by omega)) ?_
  by_cases hc : F 8 0 = 0 ∨ F 8 3 ≠ 0
  · rw [if_pos hc]
    refine E_if rfl rfl ?_
    (repeat (first | refine E_st rfl ?_ | refine E_go rfl ?_))
    exact E_rt rfl ⟨rfl, rfl⟩
  · rw [if_neg hc]
    refine E_nif rfl (nI_ne0 (by decide) (by decide)) ?_
    (repeat (first | refine E_st rfl ?_ | refine E_go rfl ?_))
    refine E_cx rfl (by omega) (c_joins (d := 0) (a := F 8 1) n6 (by omega)) ?_
    rw [if_neg (by rw [hf.resolve_left hc]; decide)]
    refine E_if rfl rfl ?_
    (repeat (first | refine E_st rfl ?_ | refine E_go rfl ?_))
    exact E_rt rfl ⟨rfl, rfl⟩
def stl (w : Nat) : Nat → Nat → Nat → Nat
  | 0, _, _ => 6
  | m + 1, s, k => if wSpread w s = s then k else stl w m (wSpread w s) (k + 1)
theorem wEnds_lt (w : Nat) : wEnds w < 64 := by unfold wEnds; exact Nat.and_lt_two_pow _ (by decide : 63 < 2 ^ 6)
theorem l_settles {w : Nat} (hw : w < 2 ^ 64) : ∀ m k s (z : Option Value), k + m = 6 → s < 64 → pq_Ev (d + 3) 94 23 [some (.ref 1), some (.long (lN w)), none, some (.int (nI s)), some (.int (nI k)), z] [] (pq_Sh L, pn F, pl G, pq_rt h) (fun r M' => r = some (.int (nI (stl w m s k))) ∧ M' = (pq_Sh L, pn (F), pl (G), pq_rt h)) := by
  intro m
  induction m with
  | zero =>
    intro k s z hk hs
    refine E_fo 5 ?_
    (repeat (first | refine E_st rfl ?_ | refine E_go rfl ?_))
    refine E_nif rfl (nI_nlt (by omega) (by omega)) ?_
    (repeat (first | refine E_st rfl ?_ | refine E_go rfl ?_))
    exact E_rt rfl ⟨rfl, rfl⟩
  | succ m ih =>
    intro k s z hk hs
    refine E_fo 5 ?_
    (repeat (first | refine E_st rfl ?_ | refine E_go rfl ?_))
    refine E_if rfl (nI_lt (by omega) (by omega)) ?_
    (repeat (first | refine E_st rfl ?_ | refine E_go rfl ?_))
    refine E_cx rfl (by omega) (c_spread (d := 0) hw (by omega)) ?_
    have hlt : wSpread w s < 64 := wEnds_lt _
    (repeat (first | refine E_st rfl ?_ | refine E_go rfl ?_))
    by_cases hc : wSpread w s = s
    · refine E_if rfl (by rw [hc]) ?_
      (repeat (first | refine E_st rfl ?_ | refine E_go rfl ?_))
      exact E_rt rfl ⟨by simp only [stl, if_pos hc], rfl⟩
    · refine E_nif rfl (fun e => hc ((nI_eq (by omega) (by omega)).mp e)) ?_
      (iterate 4 (first | refine E_st rfl ?_ | refine E_go rfl ?_))
      rw [nI_add]
      have e : stl w (m + 1) s k = stl w m (wSpread w s) (k + 1) := by simp only [stl, if_neg hc]
      rw [e]
      exact ih (k + 1) (wSpread w s) _ (by omega) hlt
theorem o_settles (hn : nOk F G) : pq_Ca (d + 4) 94 [.ref 1] (pq_Sh L, pn F, pl G, pq_rt h) (fun r M' => r = some (.int (nI (stl (fwF F G 3 (F 2 2)) 6 (F 6 (F 2 5 % 8)) 0))) ∧ M' = (pq_Sh L, pn (F), pl (G), pq_rt h)) := by
  obtain ⟨n1, n2, n3, n4, n5, n6, n7, n8, n9, n10, n11, n12, n13, n14, n15, n16⟩ := hn
  refine Ca_mk rfl rfl ?_
  (repeat (first | refine E_st rfl ?_ | refine E_go rfl ?_))
  refine E_cx rfl (by omega) (c_freeWays (d := 0) (Or.inl rfl) n2 n7 n7) ?_
  (repeat (first | refine E_st rfl ?_ | refine E_go rfl ?_))
  refine E_cx rfl (by omega) (c_belief (d := 0)) ?_
  (iterate 3 (first | refine E_st rfl ?_ | refine E_go rfl ?_))
  exact l_settles (Nat.lt_trans (fwF_lt n6 _) (by decide)) 6 0 _ _ rfl (n9 _ (by omega))
set_option maxHeartbeats 1000000 in
theorem o_turn (hd : dOk F h) (hn : nOk F G) (ht : F 2 5 < 10000) : pq_Ca (d + 6) 80 [.ref 1] (pq_Sh L, pn F, pl G, pq_rt h) (fun r M' => ∃ F1 F2 G2, F1 = rmF F h ∧ F2 = mtF F1 (rmG F G h) (fwF F1 (rmG F G h) 4 (F1 2 2)) ∧ G2 = pq_u (rmG F G h) 7 ((F1 5 2 + 1) % 8) (fwF F1 (rmG F G h) 4 (F1 2 2)) ∧
    ((gnC F2 ∧ r = some (.int (nI (gnN F2 G2 (F2 2 5 - F2 2 7) (F2 9 ((F2 2 5 - F2 2 7) % 8)) 6 (F2 2 5 % 8)))) ∧ M' = (pq_Sh L, pn (gnN F2 G2 (F2 2 5 - F2 2 7) (F2 9 ((F2 2 5 - F2 2 7) % 8))), pl G2, pq_rt (rmH F h))) ∨
     (¬ gnC F2 ∧ r = some (.int (nI (F2 6 (F2 2 5 % 8)))) ∧ M' = (pq_Sh L, pn F2, pl G2, pq_rt (rmH F h))))) := by
  have hn2 := rm_nOk hd hn
  have e5 : rmF F h 2 5 = F 2 5 := rmF_off hd (Or.inl (by decide)) (by decide)
  obtain ⟨m1, m2, m3, m4, m5, m6, m7, m8, m9, m10, m11, m12, m13, m14, m15, m16, m17, m18, m19, m20⟩ := hn2
  refine Ca_mk rfl rfl ?_
  (repeat (first | refine E_st rfl ?_ | refine E_go rfl ?_))
  refine E_if rfl (show nI (F 2 5) < nI 10000 from nI_lt ht (by decide)) ?_
  (repeat (first | refine E_st rfl ?_ | refine E_go rfl ?_))
  refine E_cx rfl (by omega) (o_remember (d := 0) hd hn) ?_
  (repeat (first | refine E_st rfl ?_ | refine E_go rfl ?_))
  refine E_cx rfl (by omega) (c_makeTurn (d := 0) m2 m6 m7 m8 m9 (by omega) (Or.inr ⟨m16, m17⟩) (by omega) (by omega)) ?_
  generalize hF1 : rmF F h = F1 at *
  generalize hG1 : rmG F G h = G1 at *
  generalize hw : fwF F1 G1 4 (F1 2 2) = w
  have hwl : w < 2 ^ 63 := by rw [← hw]; exact fwF_lt m6 _
  generalize hF2 : mtF F1 G1 w = F2
  generalize hG2 : pq_u G1 7 ((F1 5 2 + 1) % 8) w = G2
  have mE : ∀ p j, ¬ p = 3 → ¬ p = 8 → ¬ p = 9 → F2 p j = mtE F1 G1 w p j := by
    intro p j a3 a8 a9
    rw [← hF2]
    unfold mtF
    rw [pcp_at, if_neg (fun q => a3 q.1)]
    split
    · rfl
    · split
      · simp only [stF, pu_at]; rw [if_neg (fun q => a9 q.1), if_neg (fun q => a8 q.1), if_neg (fun q => a8 q.1)]
      · simp only [caF, stF, pu_at]; rw [if_neg (fun q => a9 q.1), if_neg (fun q => a8 q.1), if_neg (fun q => a8 q.1), if_neg (fun q => a8 q.1), if_neg (fun q => a8 q.1)]
  have q25 : F2 2 5 = F1 2 5 + 1 := by rw [mE 2 5 (by decide) (by decide) (by decide)]; rfl
  have q26 : F2 2 6 = F1 2 6 := by rw [mE 2 6 (by decide) (by decide) (by decide)]; rfl
  have q27 : F2 2 7 = F1 2 7 := by rw [mE 2 7 (by decide) (by decide) (by decide)]; rfl
  have q52 : F2 5 2 = F1 5 2 + 1 := by rw [mE 5 2 (by decide) (by decide) (by decide)]; rfl
  have q53 : F2 5 3 = if 8 < F1 5 3 + 1 then 8 else F1 5 3 + 1 := by rw [mE 5 3 (by decide) (by decide) (by decide)]; rfl
  have q6 : ∀ i, i < 8 → F2 6 i < 64 := by
    intro i hi
    rw [mE 6 i (by decide) (by decide) (by decide)]
    have e : mtE F1 G1 w 6 i = (if i = (F1 5 2 + 1) % 8 then wSpread w (F1 6 (F1 5 2 % 8)) else F1 6 i) := by
      simp +decide only [mtE, exF, pu_at, and_true, true_and, false_and, and_false, if_false]
    rw [e]
    split
    · exact wEnds_lt _
    · exact m9 i hi
  have q8 : ∀ j, (j = 0 ∨ j = 3 ∨ j = 5) → F2 8 j < 2 ^ 31 := by
    intro j hj
    rw [← hF2]
    unfold mtF
    rw [pcp_at, if_neg (by omega)]
    split
    · rcases hj with rfl | rfl | rfl
      · show F1 8 0 < _; omega
      · show F1 8 3 < _; omega
      · show F1 8 5 < _; omega
    · split
      · rcases hj with rfl | rfl | rfl
        · show F1 8 0 < _; omega
        · show F1 8 3 < _; omega
        · show F1 8 5 < _; omega
      · rcases hj with rfl | rfl | rfl
        · show F1 8 0 < _; omega
        · show 1 < _; omega
        · show F1 8 5 < _; omega
  have q9 : ∀ i, i < 8 → F2 9 i < 6 := by
    intro i hi
    rw [← hF2]
    unfold mtF
    rw [pcp_at, if_neg (by omega)]
    have b0 : mtE F1 G1 w 9 i = F1 9 i := rfl
    have := m20 i hi
    split
    · rw [b0]; exact this
    · split
      · simp only [stF, pu_at]; split
        · exact m17
        · simp +decide only [if_false, false_and]; rw [b0]; exact this
      · simp only [caF, stF, pu_at]; split
        · exact m17
        · simp +decide only [if_false, false_and]; rw [b0]; exact this
  have qG : ∀ i, i < 8 → G2 7 i < 2 ^ 64 := by
    intro i hi
    rw [← hG2, pu_at]
    split
    · exact Nat.lt_trans hwl (by decide)
    · exact Nat.lt_trans (m10 i hi) (by decide)
  (repeat (first | refine E_st rfl ?_ | refine E_go rfl ?_))
  refine E_ca rfl (by omega) (c_giveNews (d := 0) (F := F2) (G := G2) (q8 0 (Or.inl rfl)) (q8 3 (Or.inr (Or.inl rfl))) (by omega) (by omega) (by omega) (by omega) (by rw [q53, q52]; split <;> omega) (q8 5 (Or.inr (Or.inr rfl))) (fun _ => q9 _ (by omega)) q6 qG) ?_
  rintro r M' ⟨rfl, ⟨hc, rfl⟩ | ⟨hc, rfl⟩⟩
  · (repeat (first | refine E_st rfl ?_ | refine E_go rfl ?_))
    refine E_cx rfl (by omega) (c_belief (d := 0)) ?_
    refine E_rt rfl ⟨F1, F2, G2, rfl, by rw [hw, hF2], by rw [hw, hG2], Or.inl ⟨hc, ?_, rfl⟩⟩
    have : gnN F2 G2 (F2 2 5 - F2 2 7) (F2 9 ((F2 2 5 - F2 2 7) % 8)) 2 5 = F2 2 5 := by
      unfold gnN; split
      · exact nwF_off _ _ _ _ _ (by decide)
      · rfl
    rw [this]
  · (repeat (first | refine E_st rfl ?_ | refine E_go rfl ?_))
    refine E_cx rfl (by omega) (c_belief (d := 0)) ?_
    exact E_rt rfl ⟨F1, F2, G2, rfl, by rw [hw, hF2], by rw [hw, hG2], Or.inr ⟨hc, rfl, rfl⟩⟩
theorem o_turn3 (ht : F 2 5 = 10000) : pq_Ca (d + 1) 80 [.ref 1] (pq_Sh L, pn F, pl G, pq_rt h) (fun r M' => r = some (.int (-3)) ∧ M' = (pq_Sh L, pn (F), pl (G), pq_rt h)) := by
  refine Ca_mk rfl rfl ?_
  (repeat (first | refine E_st rfl ?_ | refine E_go rfl ?_))
  refine E_nif rfl (show ¬ nI (F 2 5) < nI 10000 by rw [ht]; decide) ?_
  (repeat (first | refine E_st rfl ?_ | refine E_go rfl ?_))
  exact E_rt rfl ⟨rfl, rfl⟩
end OPV
