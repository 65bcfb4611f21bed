section OPT
variable {d L : Nat} {F G : Nat → Nat → Nat} {h : Nat → Nat}
theorem E_swo {j pc nx na t z : Nat} {dd lo hi : Int} {offs : Array Int} {ts : List (Nat × Nat)} {v : Value} {l : pq_L} {r : List Value} {M : pq_M} {x : Int32} {Q : Option Value → pq_M → Prop} (hf : pq_fetch j pc = some (pc, .tableswitch dd lo hi offs, nx, na, (t, z) :: ts, v)) (hx : x.toInt < lo ∨ hi < x.toInt) (K : pq_Ev d j t l r M Q) : pq_Ev d j pc l (.int x :: r) M Q := by
  refine E_st0 (nx := nx) ?_ K
  unfold pq_step
  simp only [hf, pq_exec, pq_x1, pq_x2, pq_i1, if_pos hx]
theorem c_property {k : Nat} (hk : k < 5) (h3 : F 8 3 ≤ 1) : pq_Ca (d + 1) 27 [.ref 8, .int (nI k)] (pq_Sh L, pn F, pl G, pq_rt h) (fun r M' => r = some (.int (nI (F 8 (k + 1)))) ∧ M' = (pq_Sh L, pn (F), pl (G), pq_rt h)) := by
  refine Ca_mk rfl rfl ?_
  (repeat (first | refine E_st rfl ?_ | refine E_go rfl ?_))
  rcases (show k = 0 ∨ k = 1 ∨ k = 2 ∨ k = 3 ∨ k = 4 by omega) with rfl | rfl | rfl | rfl | rfl
  · refine E_st0 rfl ?_
    (repeat (first | refine E_st rfl ?_ | refine E_go rfl ?_))
    exact E_rt rfl ⟨rfl, rfl⟩
  · refine E_st0 rfl ?_
    (repeat (first | refine E_st rfl ?_ | refine E_go rfl ?_))
    exact E_rt rfl ⟨rfl, rfl⟩
  · refine E_st0 rfl ?_
    (repeat (first | refine E_st rfl ?_ | refine E_go rfl ?_))
    by_cases hz : F 8 3 = 0
    · refine E_if rfl (show nI (F 8 3) = 0 by rw [hz]; rfl) ?_
      (repeat (first | refine E_st rfl ?_ | refine E_go rfl ?_))
      exact E_rt rfl ⟨by rw [hz], rfl⟩
    · refine E_nif rfl (show ¬ nI (F 8 3) = 0 from nI_ne0 (by omega) (by omega)) ?_
      (repeat (first | refine E_st rfl ?_ | refine E_go rfl ?_))
      exact E_rt rfl ⟨by rw [show F 8 3 = 1 by omega], rfl⟩
  · refine E_st0 rfl ?_
    (repeat (first | refine E_st rfl ?_ | refine E_go rfl ?_))
    exact E_rt rfl ⟨rfl, rfl⟩
  · refine E_st0 rfl ?_
    (repeat (first | refine E_st rfl ?_ | refine E_go rfl ?_))
    exact E_rt rfl ⟨rfl, rfl⟩
def cntF (F : Nat → Nat → Nat) (e : Nat) : Nat → Nat
  | 0 => F 2 0
  | 1 => e
  | 2 => F 2 2
  | 3 => F 2 5
  | 4 => F 5 3
  | 5 => F 2 6
  | 6 => F 2 7
  | _ => F 1 2
theorem o_count {k e : Nat} (hk : k < 8) (he : pq_Ca (d + 2) 57 [.ref 2] (pq_Sh L, pn F, pl G, pq_rt h) (fun r M' => r = some (.int (nI e)) ∧ M' = (pq_Sh L, pn (F), pl (G), pq_rt h))) : pq_Ca (d + 3) 82 [.ref 1, .int (nI k)] (pq_Sh L, pn F, pl G, pq_rt h) (fun r M' => r = some (.int (nI (cntF F e k))) ∧ M' = (pq_Sh L, pn (F), pl (G), pq_rt h)) := by
  refine Ca_mk rfl rfl ?_
  (repeat (first | refine E_st rfl ?_ | refine E_go rfl ?_))
  rcases (show k = 0 ∨ k = 1 ∨ k = 2 ∨ k = 3 ∨ k = 4 ∨ k = 5 ∨ k = 6 ∨ k = 7 by omega) with rfl | rfl | rfl | rfl | rfl | rfl | rfl | rfl
  case inr.inl =>
    refine E_st0 rfl ?_
    (repeat (first | refine E_st rfl ?_ | refine E_go rfl ?_))
    refine E_cx rfl (Nat.le_refl _) he ?_
    exact E_rt rfl ⟨rfl, rfl⟩
  all_goals
    refine E_st0 rfl ?_
    (repeat (first | refine E_st rfl ?_ | refine E_go rfl ?_))
    exact E_rt rfl ⟨rfl, rfl⟩
theorem o_count0 {x : Int32} (hx : x < 0 ∨ nI 8 ≤ x) : pq_Ca (d + 1) 82 [.ref 1, .int x] (pq_Sh L, pn F, pl G, pq_rt h) (fun r M' => r = some (.int (-1)) ∧ M' = (pq_Sh L, pn (F), pl (G), pq_rt h)) := by
  refine Ca_mk rfl rfl ?_
  (repeat (first | refine E_st rfl ?_ | refine E_go rfl ?_))
  refine E_swo rfl ?_ ?_
  · rcases hx with q | q
    · exact Or.inl (Int32.lt_iff_toInt_lt.mp q)
    · have := Int32.le_iff_toInt_le.mp q
      rw [nI_toInt (by decide)] at this
      right; omega
  · (repeat (first | refine E_st rfl ?_ | refine E_go rfl ?_))
    exact E_rt rfl ⟨rfl, rfl⟩
theorem o_neigh {v : Nat} (hn : F 2 0 ≤ 6) (hG : G 2 1 < 2 ^ 63) (hv : v < F 2 0) : pq_Ca (d + 2) 83 [.ref 1, .int (nI v)] (pq_Sh L, pn F, pl G, pq_rt h) (fun r M' => r = some (.int (nI (an (wFrom (G 2 1) v) (1 <<< v)))) ∧ M' = (pq_Sh L, pn (F), pl (G), pq_rt h)) := by
  refine Ca_mk rfl rfl ?_
  (repeat (first | refine E_st rfl ?_ | refine E_go rfl ?_))
  refine E_cx rfl (by omega) (c_isNode (d := 0) hn hv) ?_
  refine E_nif rfl (nI_ne0 (by decide) (by decide)) ?_
  (repeat (first | refine E_st rfl ?_ | refine E_go rfl ?_))
  refine E_cx rfl (by omega) (c_from (d := 0) (w := G 2 1) (Nat.lt_trans hG (by decide)) (by omega)) ?_
  (repeat (first | refine E_st rfl ?_ | refine E_go rfl ?_))
  refine E_rt rfl ⟨?_, rfl⟩
  rw [zi_shl _ (by omega), zi_not]
theorem o_neigh0 {x : Int32} (hx : x < 0 ∨ nI (F 2 0) ≤ x) : pq_Ca (d + 2) 83 [.ref 1, .int x] (pq_Sh L, pn F, pl G, pq_rt h) (fun r M' => r = some (.int (-1)) ∧ M' = (pq_Sh L, pn (F), pl (G), pq_rt h)) := by
  refine Ca_mk rfl rfl ?_
  (repeat (first | refine E_st rfl ?_ | refine E_go rfl ?_))
  refine E_cx rfl (by omega) (c_isNode0 (d := 0) hx) ?_
  refine E_if rfl rfl ?_
  (repeat (first | refine E_st rfl ?_ | refine E_go rfl ?_))
  exact E_rt rfl ⟨rfl, rfl⟩
theorem o_searcher {k w : Nat} (hn : F 2 2 ≤ 3) (hk : k < F 2 2) (hw : w < 2) : pq_Ca (d + 2) 84 [.ref 1, .int (nI k), .int (nI w)] (pq_Sh L, pn F, pl G, pq_rt h) (fun r M' => r = some (.int (nI (F (3 + w) k))) ∧ M' = (pq_Sh L, pn (F), pl (G), pq_rt h)) := by
  refine Ca_mk rfl rfl ?_
  (repeat (first | refine E_st rfl ?_ | refine E_go rfl ?_))
  refine E_cx rfl (by omega) (c_isSearcher (d := 0) hn hk) ?_
  refine E_nif rfl (nI_ne0 (by decide) (by decide)) ?_
  (repeat (first | refine E_st rfl ?_ | refine E_go rfl ?_))
  refine E_nif rfl (nI_pos (by omega)) ?_
  (repeat (first | refine E_st rfl ?_ | refine E_go rfl ?_))
  refine E_nif rfl (nI_nlt (by omega) (by omega)) ?_
  (repeat (first | refine E_st rfl ?_ | refine E_go rfl ?_))
  rcases (show w = 0 ∨ w = 1 by omega) with rfl | rfl
  · refine E_if rfl rfl ?_
    (repeat (first | refine E_st rfl ?_ | refine E_go rfl ?_))
    refine E_ial rfl rfl (by omega) (by decide) ?_
    (repeat (first | refine E_st rfl ?_ | refine E_go rfl ?_))
    exact E_rt rfl ⟨rfl, rfl⟩
  · refine E_nif rfl (by decide) ?_
    (repeat (first | refine E_st rfl ?_ | refine E_go rfl ?_))
    refine E_ial rfl rfl (by omega) (by decide) ?_
    exact E_rt rfl ⟨rfl, rfl⟩
theorem o_searcher0 {x : Int32} {y : Int32} (hx : x < 0 ∨ nI (F 2 2) ≤ x) : pq_Ca (d + 2) 84 [.ref 1, .int x, .int y] (pq_Sh L, pn F, pl G, pq_rt h) (fun r M' => r = some (.int (-1)) ∧ M' = (pq_Sh L, pn (F), pl (G), pq_rt h)) := by
  refine Ca_mk rfl rfl ?_
  (repeat (first | refine E_st rfl ?_ | refine E_go rfl ?_))
  refine E_cx rfl (by omega) (c_isSearcher0 (d := 0) hx) ?_
  refine E_if rfl rfl ?_
  (repeat (first | refine E_st rfl ?_ | refine E_go rfl ?_))
  exact E_rt rfl ⟨rfl, rfl⟩
theorem o_searcher1 {k : Nat} {y : Int32} (hn : F 2 2 ≤ 3) (hk : k < F 2 2) (hy : y < 0 ∨ nI 1 < y) : pq_Ca (d + 2) 84 [.ref 1, .int (nI k), .int y] (pq_Sh L, pn F, pl G, pq_rt h) (fun r M' => r = some (.int (-1)) ∧ M' = (pq_Sh L, pn (F), pl (G), pq_rt h)) := by
  refine Ca_mk rfl rfl ?_
  (repeat (first | refine E_st rfl ?_ | refine E_go rfl ?_))
  refine E_cx rfl (by omega) (c_isSearcher (d := 0) hn hk) ?_
  refine E_nif rfl (nI_ne0 (by decide) (by decide)) ?_
  (repeat (first | refine E_st rfl ?_ | refine E_go rfl ?_))
  refine E_br rfl (fun c => ?_) (fun c => ?_)
  · (repeat (first | refine E_st rfl ?_ | refine E_go rfl ?_))
    exact E_rt rfl ⟨rfl, rfl⟩
  · (repeat (first | refine E_st rfl ?_ | refine E_go rfl ?_))
    refine E_if rfl (hy.resolve_left c) ?_
    (repeat (first | refine E_st rfl ?_ | refine E_go rfl ?_))
    exact E_rt rfl ⟨rfl, rfl⟩
theorem o_bafter {t : Nat} (hn : nOk F G) (ht : t ≤ F 2 5) : pq_Ca (d + 3) 78 [.ref 1, .int (nI t)] (pq_Sh L, pn F, pl G, pq_rt h) (fun r M' => r = some (.int (if F 2 5 < t + F 5 3 then nI (F 6 (t % 8)) else (-4))) ∧ M' = (pq_Sh L, pn (F), pl (G), pq_rt h)) := by
  obtain ⟨n1, n2, n3, n4, n5, n6, n7, n8, n9, n10, n11, n12, n13, n14⟩ := hn
  refine Ca_mk rfl rfl ?_
  (repeat (first | refine E_st rfl ?_ | refine E_go rfl ?_))
  refine E_nif rfl (nI_pos (by omega)) ?_
  (repeat (first | refine E_st rfl ?_ | refine E_go rfl ?_))
  refine E_nif rfl (show ¬ nI (F 2 5) < nI t from nI_nlt (by omega) (by omega)) ?_
  (repeat (first | refine E_st rfl ?_ | refine E_go rfl ?_))
  refine E_cx rfl (by omega) (c_keeps (d := 0) (by omega) (by omega) (by omega)) ?_
  by_cases hc : F 2 5 < t + F 5 3
  · rw [if_pos hc, if_pos (by omega)]
    refine E_nif rfl (nI_ne0 (by decide) (by decide)) ?_
    (repeat (first | refine E_st rfl ?_ | refine E_go rfl ?_))
    refine E_cx rfl (by omega) (c_after (d := 0)) ?_
    (repeat (first | refine E_st rfl ?_ | refine E_go rfl ?_))
    exact E_rt rfl ⟨rfl, rfl⟩
  · rw [if_neg hc, if_neg (by omega)]
    refine E_if rfl rfl ?_
    (repeat (first | refine E_st rfl ?_ | refine E_go rfl ?_))
    exact E_rt rfl ⟨rfl, rfl⟩
theorem o_bafter0 {x : Int32} (hx : x < 0 ∨ nI (F 2 5) < x) : pq_Ca (d + 1) 78 [.ref 1, .int x] (pq_Sh L, pn F, pl G, pq_rt h) (fun r M' => r = some (.int (-1)) ∧ M' = (pq_Sh L, pn (F), pl (G), pq_rt h)) := by
  refine Ca_mk rfl rfl ?_
  (repeat (first | refine E_st rfl ?_ | refine E_go rfl ?_))
  refine E_br rfl (fun c => ?_) (fun c => ?_)
  · (repeat (first | refine E_st rfl ?_ | refine E_go rfl ?_))
    exact E_rt rfl ⟨rfl, rfl⟩
  · (repeat (first | refine E_st rfl ?_ | refine E_go rfl ?_))
    refine E_if rfl (hx.resolve_left c) ?_
    (repeat (first | refine E_st rfl ?_ | refine E_go rfl ?_))
    exact E_rt rfl ⟨rfl, rfl⟩
theorem o_setNews {p q : Nat} (hd : dOk F h) (hn : nOk F G) (hp : p ≤ 9) (hq : q ≤ 7) : pq_Ca (d + 4) 87 [.ref 1, .int (nI p), .int (nI q)] (pq_Sh L, pn F, pl G, pq_rt h) (fun r M' => r = some (.int (nI (10 * F 2 6 + F 2 7))) ∧ M' = (pq_Sh L, pn (pq_u (pq_u (rmF F h) 2 6 p) 2 7 q), pl (rmG F G h), pq_rt (rmH F h))) := by
  have e6 : rmF F h 2 6 = F 2 6 := rmF_off hd (Or.inl (by decide)) (by decide)
  have e7 : rmF F h 2 7 = F 2 7 := rmF_off hd (Or.inl (by decide)) (by decide)
  refine Ca_mk rfl rfl ?_
  (repeat (first | refine E_st rfl ?_ | refine E_go rfl ?_))
  refine E_nif rfl (nI_pos (by omega)) ?_
  (repeat (first | refine E_st rfl ?_ | refine E_go rfl ?_))
  refine E_nif rfl (nI_nlt hp (by decide)) ?_
  (repeat (first | refine E_st rfl ?_ | refine E_go rfl ?_))
  refine E_nif rfl (nI_pos (by omega)) ?_
  (repeat (first | refine E_st rfl ?_ | refine E_go rfl ?_))
  refine E_nif rfl (nI_nlt hq (by decide)) ?_
  (repeat (first | refine E_st rfl ?_ | refine E_go rfl ?_))
  refine E_cx rfl (by omega) (o_remember (d := 0) hd hn) ?_
  (repeat (first | refine E_st rfl ?_ | refine E_go rfl ?_))
  simp only [pu_n, pu_l, pc_n, pc_l]
  refine E_rt rfl ⟨?_, rfl⟩
  rw [pn_at, pn_at, e6, e7, pk_mul, nI_add]
theorem o_setNews0 {x y : Int32} (hx : x < 0 ∨ nI 9 < x ∨ y < 0 ∨ nI 7 < y) : pq_Ca (d + 1) 87 [.ref 1, .int x, .int y] (pq_Sh L, pn F, pl G, pq_rt h) (fun r M' => r = some (.int (-1)) ∧ M' = (pq_Sh L, pn (F), pl (G), pq_rt h)) := by
  refine Ca_mk rfl rfl ?_
  (repeat (first | refine E_st rfl ?_ | refine E_go rfl ?_))
  refine E_br rfl (fun c => ?_) (fun c => ?_)
  · (repeat (first | refine E_st rfl ?_ | refine E_go rfl ?_))
    exact E_rt rfl ⟨rfl, rfl⟩
  (repeat (first | refine E_st rfl ?_ | refine E_go rfl ?_))
  refine E_br rfl (fun c2 => ?_) (fun c2 => ?_)
  · (repeat (first | refine E_st rfl ?_ | refine E_go rfl ?_))
    exact E_rt rfl ⟨rfl, rfl⟩
  (repeat (first | refine E_st rfl ?_ | refine E_go rfl ?_))
  refine E_br rfl (fun c3 => ?_) (fun c3 => ?_)
  · (repeat (first | refine E_st rfl ?_ | refine E_go rfl ?_))
    exact E_rt rfl ⟨rfl, rfl⟩
  (repeat (first | refine E_st rfl ?_ | refine E_go rfl ?_))
  refine E_if rfl (((hx.resolve_left c).resolve_left c2).resolve_left c3) ?_
  (repeat (first | refine E_st rfl ?_ | refine E_go rfl ?_))
  exact E_rt rfl ⟨rfl, rfl⟩
theorem o_evader {k : Nat} (hn : nOk F G) (hk : k < 5) : pq_Ca (d + 2) 88 [.ref 1, .int (nI k)] (pq_Sh L, pn F, pl G, pq_rt h) (fun r M' => r = some (.int (if F 8 0 = 0 then (-4) else nI (F 8 (k + 1)))) ∧ M' = (pq_Sh L, pn (F), pl (G), pq_rt h)) := by
  obtain ⟨n1, n2, n3, n4, n5, n6, n7, n8, n9, n10, n11, n12, n13, n14, n15, n16⟩ := hn
  refine Ca_mk rfl rfl ?_
  (repeat (first | refine E_st rfl ?_ | refine E_go rfl ?_))
  refine E_nif rfl (nI_pos (by omega)) ?_
  (repeat (first | refine E_st rfl ?_ | refine E_go rfl ?_))
  refine E_nif rfl (nI_nlt (by omega) (by omega)) ?_
  (repeat (first | refine E_st rfl ?_ | refine E_go rfl ?_))
  by_cases hz : F 8 0 = 0
  · rw [if_pos hz]
    refine E_if rfl (show nI (F 8 0) = 0 by rw [hz]; rfl) ?_
    (repeat (first | refine E_st rfl ?_ | refine E_go rfl ?_))
    exact E_rt rfl ⟨rfl, rfl⟩
  · rw [if_neg hz]
    refine E_nif rfl (show ¬ nI (F 8 0) = 0 from nI_ne0 (by omega) (by omega)) ?_
    (repeat (first | refine E_st rfl ?_ | refine E_go rfl ?_))
    refine E_cx rfl (by omega) (c_property (d := 0) hk n15) ?_
    (repeat (first | refine E_st rfl ?_ | refine E_go rfl ?_))
    exact E_rt rfl ⟨rfl, rfl⟩
theorem o_evader0 {x : Int32} (hx : x < 0 ∨ nI 4 < x) : pq_Ca (d + 1) 88 [.ref 1, .int x] (pq_Sh L, pn F, pl G, pq_rt h) (fun r M' => r = some (.int (-1)) ∧ M' = (pq_Sh L, pn (F), pl (G), pq_rt h)) := by
  refine Ca_mk rfl rfl ?_
  (repeat (first | refine E_st rfl ?_ | refine E_go rfl ?_))
  refine E_br rfl (fun c => ?_) (fun c => ?_)
  · (repeat (first | refine E_st rfl ?_ | refine E_go rfl ?_))
    exact E_rt rfl ⟨rfl, rfl⟩
  · (repeat (first | refine E_st rfl ?_ | refine E_go rfl ?_))
    refine E_if rfl (hx.resolve_left c) ?_
    (repeat (first | refine E_st rfl ?_ | refine E_go rfl ?_))
    exact E_rt rfl ⟨rfl, rfl⟩
theorem o_ahead (hn : nOk F G) : pq_Ca (d + 4) 89 [.ref 1] (pq_Sh L, pn F, pl G, pq_rt h) (fun r M' => r = some (.int (nI (wSpread (fwF F G 4 (F 2 2)) (F 6 (F 2 5 % 8))))) ∧ M' = (pq_Sh L, pn (F), pl (G), pq_rt h)) := by
  obtain ⟨n1, n2, n3, n4, n5, n6, n7, n8, n9, n10, n11, n12, n13, n14, n15, n16⟩ := hn
  refine Ca_mk rfl rfl ?_
  (repeat (first | refine E_st rfl ?_ | refine E_go rfl ?_))
  refine E_cx rfl (by omega) (c_freeWays (d := 0) (Or.inr rfl) n2 n7 n8) ?_
  (repeat (first | refine E_st rfl ?_ | refine E_go rfl ?_))
  refine E_cx rfl (by omega) (c_belief (d := 0)) ?_
  refine E_cx rfl (by omega) (c_spread (d := 0) (Nat.lt_trans (fwF_lt n6 _) (by decide)) (Nat.lt_trans (n9 _ (by omega)) (by decide))) ?_
  exact E_rt rfl ⟨rfl, rfl⟩
theorem o_type {c : Nat} (hc : 32 ≤ c) (hc2 : c ≤ 126) (ht : F 1 4 < 60) : pq_Ca (d + 1) 98 [.ref 1, .int (nI c)] (pq_Sh L, pn F, pl G, pq_rt h) (fun r M' => r = some (.int (nI (F 1 4 + 1))) ∧ M' = (pq_Sh L, pn (pq_u (pq_u F 51 (F 1 4) c) 1 4 (F 1 4 + 1)), pl (G), pq_rt h)) := by
  refine Ca_mk rfl rfl ?_
  (repeat (first | refine E_st rfl ?_ | refine E_go rfl ?_))
  refine E_nif rfl (nI_nlt hc (by omega)) ?_
  (repeat (first | refine E_st rfl ?_ | refine E_go rfl ?_))
  refine E_nif rfl (nI_nlt hc2 (by decide)) ?_
  (repeat (first | refine E_st rfl ?_ | refine E_go rfl ?_))
  refine E_if rfl (show nI (F 1 4) < nI 60 from nI_lt ht (by decide)) ?_
  (repeat (first | refine E_st rfl ?_ | refine E_go rfl ?_))
  have ech : ((nI c).toUInt32 % 65536).toInt32 = nI c := by
    rw [pk_char, pk_tn (by omega), Nat.mod_eq_of_lt (by omega)]
  rw [ech]
  refine E_cas rfl rfl (k := F 1 4) ht (by decide) (by decide) (by omega) ?_
  (repeat (first | refine E_st rfl ?_ | refine E_go rfl ?_))
  simp +decide only [pn_at, pl_at, pu_n, pu_l, pc_n, pc_l, pu_at, nI_add, if_true, if_false, and_true, true_and, and_false, false_and, and_self]
  exact E_rt rfl ⟨rfl, rfl⟩
theorem o_type0 {x : Int32} (hx : x < nI 32 ∨ nI 126 < x) : pq_Ca (d + 1) 98 [.ref 1, .int x] (pq_Sh L, pn F, pl G, pq_rt h) (fun r M' => r = some (.int (-1)) ∧ M' = (pq_Sh L, pn (F), pl (G), pq_rt h)) := by
  refine Ca_mk rfl rfl ?_
  (repeat (first | refine E_st rfl ?_ | refine E_go rfl ?_))
  refine E_br rfl (fun c => ?_) (fun c => ?_)
  · (repeat (first | refine E_st rfl ?_ | refine E_go rfl ?_))
    exact E_rt rfl ⟨rfl, rfl⟩
  · (repeat (first | refine E_st rfl ?_ | refine E_go rfl ?_))
    refine E_if rfl (hx.resolve_left c) ?_
    (repeat (first | refine E_st rfl ?_ | refine E_go rfl ?_))
    exact E_rt rfl ⟨rfl, rfl⟩
theorem o_type3 {c : Nat} (hc : 32 ≤ c) (hc2 : c ≤ 126) (ht : F 1 4 = 60) : pq_Ca (d + 1) 98 [.ref 1, .int (nI c)] (pq_Sh L, pn F, pl G, pq_rt h) (fun r M' => r = some (.int (-3)) ∧ M' = (pq_Sh L, pn (F), pl (G), pq_rt h)) := by
  refine Ca_mk rfl rfl ?_
  (repeat (first | refine E_st rfl ?_ | refine E_go rfl ?_))
  refine E_nif rfl (nI_nlt hc (by omega)) ?_
  (repeat (first | refine E_st rfl ?_ | refine E_go rfl ?_))
  refine E_nif rfl (nI_nlt hc2 (by decide)) ?_
  (repeat (first | refine E_st rfl ?_ | refine E_go rfl ?_))
  refine E_nif rfl (show ¬ nI (F 1 4) < nI 60 by rw [ht]; decide) ?_
  (repeat (first | refine E_st rfl ?_ | refine E_go rfl ?_))
  exact E_rt rfl ⟨rfl, rfl⟩
theorem o_clearText : pq_Ca (d + 1) 99 [.ref 1] (pq_Sh L, pn F, pl G, pq_rt h) (fun r M' => r = some (.int (nI (F 1 4))) ∧ M' = (pq_Sh L, pn (pq_u F 1 4 0), pl (G), pq_rt h)) := by
  refine Ca_mk rfl rfl ?_
  (repeat (first | refine E_st rfl ?_ | refine E_go rfl ?_))
  simp only [pu_n, pu_l, pc_n, pc_l]
  exact E_rt rfl ⟨rfl, rfl⟩
end OPT
