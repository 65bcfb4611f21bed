/-! the model: edges, neighbours, searcher, evader, setNews, flee, hide, count -/
def edM (F : Nat → Nat → Nat) : Nat → Nat
  | 0 => 0
  | k + 1 => edM F k + (if k / 6 < k % 6 then (if (F 64 (5 + k / 6)).testBit (k % 6) then 1 else 0) else 0)
section MOF
variable {d L : Nat} {F G : Nat → Nat → Nat} {h : Nat → Nat}
theorem l_edges (hg : gOk F) : ∀ m k, k + m = 36 → pq_Ev d 128 4 [some (.ref 63), some (.int (nI (edM F k))), some (.int (nI k))] [] (pq_Sh L, pn F, pl G, pq_rt h) (fun r M' => r = some (.int (nI (edM F 36))) ∧ M' = (pq_Sh L, pn (F), pl (G), pq_rt h)) := by
  have g6 := hg.2.2.2.2.2.2.1
  intro m
  induction m with
  | zero =>
    intro k hk
    have hk : k = 36 := by omega
    subst hk
    (repeat (first | refine E_st rfl ?_ | refine E_go rfl ?_))
    refine E_nif rfl (by decide) ?_
    (repeat (first | refine E_st rfl ?_ | refine E_go rfl ?_))
    exact E_rt rfl ⟨rfl, rfl⟩
  | succ m ih =>
    intro k hk
    (repeat (first | refine E_st rfl ?_ | refine E_go rfl ?_))
    refine E_if rfl (nI_lt (by omega) (by decide)) ?_
    (repeat (first | refine E_st rfl ?_ | refine E_go rfl ?_))
    rw [pk_rem (by omega) (by decide) (by decide), pk_div (by omega) (by decide) (by decide)]
    by_cases c : k / 6 < k % 6
    · refine E_if rfl (nI_lt c (by omega)) ?_
      (iterate 7 (first | refine E_st rfl ?_ | refine E_go rfl ?_))
      rw [pk_div (by omega) (by decide) (by decide), nI_add]
      refine E_ial rfl rfl (n := 144) (by omega) (by decide) ?_
      (iterate 6 (first | refine E_st rfl ?_ | refine E_go rfl ?_))
      rw [pk_rem (by omega) (by decide) (by decide), zi_shr (Nat.lt_trans (g6 _ (by omega)) (by decide)) (by omega), zi_and, zb_and1]
      (iterate 4 (first | refine E_st rfl ?_ | refine E_go rfl ?_))
      rw [nI_add, nI_add]
      have e : edM F (k + 1) = edM F k + (if (F 64 (5 + k / 6)).testBit (k % 6) = true then 1 else 0) := by
        show edM F k + _ = _
        rw [if_pos c]
      rw [← e]
      (iterate 1 (first | refine E_st rfl ?_ | refine E_go rfl ?_))
      exact ih (k + 1) (by omega)
    · refine E_nif rfl (nI_nlt (by omega) (by omega)) ?_
      (iterate 4 (first | refine E_st rfl ?_ | refine E_go rfl ?_))
      rw [nI_add, nI_add]
      have e : edM F (k + 1) = edM F k + 0 := by
        show edM F k + _ = _
        rw [if_neg c]
      rw [← e]
      (iterate 1 (first | refine E_st rfl ?_ | refine E_go rfl ?_))
      exact ih (k + 1) (by omega)
theorem g_edges (hg : gOk F) : pq_Ca (d + 1) 128 [.ref 63] (pq_Sh L, pn F, pl G, pq_rt h) (fun r M' => r = some (.int (nI (edM F 36))) ∧ M' = (pq_Sh L, pn (F), pl (G), pq_rt h)) := by
  refine Ca_mk rfl rfl ?_
  (iterate 4 (first | refine E_st rfl ?_ | refine E_go rfl ?_))
  exact l_edges hg 36 0 rfl
theorem g_neigh {v : Nat} (hg : gOk F) (hv : v < F 64 0) : pq_Ca (d + 3) 129 [.ref 63, .int (nI v)] (pq_Sh L, pn F, pl G, pq_rt h) (fun r M' => r = some (.int (nI (F 64 (5 + v)))) ∧ M' = (pq_Sh L, pn (F), pl (G), pq_rt h)) := by
  have := hg.2.1
  refine Ca_mk rfl rfl ?_
  (repeat (first | refine E_st rfl ?_ | refine E_go rfl ?_))
  refine E_cx rfl (by omega) (g_isNode (d := 0) hv hg.2.1) ?_
  refine E_nif rfl (by decide) ?_
  (iterate 5 (first | refine E_st rfl ?_ | refine E_go rfl ?_))
  rw [nI_add]
  refine E_ial rfl rfl (n := 144) (by omega) (by decide) ?_
  (repeat (first | refine E_st rfl ?_ | refine E_go rfl ?_))
  exact E_rt rfl ⟨rfl, rfl⟩
theorem g_neigh0 {x : Int32} (hg : gOk F) (hx : x < 0 ∨ nI (F 64 0) ≤ x) : pq_Ca (d + 3) 129 [.ref 63, .int x] (pq_Sh L, pn F, pl G, pq_rt h) (fun r M' => r = some (.int (-1)) ∧ M' = (pq_Sh L, pn (F), pl (G), pq_rt h)) := by
  have := hg.1
  refine Ca_mk rfl rfl ?_
  (repeat (first | refine E_st rfl ?_ | refine E_go rfl ?_))
  refine E_cx rfl (by omega) (g_isNode0 (d := 0) hx (by omega) hg.2.1) ?_
  refine E_if rfl rfl ?_
  (repeat (first | refine E_st rfl ?_ | refine E_go rfl ?_))
  exact E_rt rfl ⟨rfl, rfl⟩
theorem g_searcher0 {x y : Int32} (hg : gOk F) (hx : x < 0 ∨ nI (F 64 1) ≤ x) : pq_Ca (d + 3) 130 [.ref 63, .int x, .int y] (pq_Sh L, pn F, pl G, pq_rt h) (fun r M' => r = some (.int (-1)) ∧ M' = (pq_Sh L, pn (F), pl (G), pq_rt h)) := by
  refine Ca_mk rfl rfl ?_
  (repeat (first | refine E_st rfl ?_ | refine E_go rfl ?_))
  refine E_cx rfl (by omega) (g_isSearcher0 (d := 0) hx hg.2.2.1) ?_
  refine E_if rfl rfl ?_
  (repeat (first | refine E_st rfl ?_ | refine E_go rfl ?_))
  exact E_rt rfl ⟨rfl, rfl⟩
theorem g_searcher1 {k : Nat} {y : Int32} (hg : gOk F) (hk : k < F 64 1) (hy : y < 0 ∨ 1 < y) : pq_Ca (d + 3) 130 [.ref 63, .int (nI k), .int y] (pq_Sh L, pn F, pl G, pq_rt h) (fun r M' => r = some (.int (-1)) ∧ M' = (pq_Sh L, pn (F), pl (G), pq_rt h)) := by
  refine Ca_mk rfl rfl ?_
  (repeat (first | refine E_st rfl ?_ | refine E_go rfl ?_))
  refine E_cx rfl (by omega) (g_isSearcher (d := 0) hk hg.2.2.1) ?_
  refine E_nif rfl (by decide) ?_
  (repeat (first | refine E_st rfl ?_ | refine E_go rfl ?_))
  refine E_cx rfl (by omega) (g_in0 (d := 0) hy) ?_
  refine E_if rfl rfl ?_
  (repeat (first | refine E_st rfl ?_ | refine E_go rfl ?_))
  exact E_rt rfl ⟨rfl, rfl⟩
theorem g_searcher {k w : Nat} (hg : gOk F) (hk : k < F 64 1) (hw : w ≤ 1) : pq_Ca (d + 3) 130 [.ref 63, .int (nI k), .int (nI w)] (pq_Sh L, pn F, pl G, pq_rt h) (fun r M' => r = some (.int (nI (F 64 (11 + 3 * w + k)))) ∧ M' = (pq_Sh L, pn (F), pl (G), pq_rt h)) := by
  have := hg.2.2.1
  refine Ca_mk rfl rfl ?_
  (repeat (first | refine E_st rfl ?_ | refine E_go rfl ?_))
  refine E_cx rfl (by omega) (g_isSearcher (d := 0) hk hg.2.2.1) ?_
  refine E_nif rfl (by decide) ?_
  (repeat (first | refine E_st rfl ?_ | refine E_go rfl ?_))
  refine E_cx rfl (by omega) (g_in1 (d := 0) (nI_le (Nat.zero_le w) (by omega)) (nI_le (b := 1) hw (by decide))) ?_
  refine E_nif rfl (by decide) ?_
  (iterate 9 (first | refine E_st rfl ?_ | refine E_go rfl ?_))
  rw [zi_mul, nI_add, nI_add]
  refine E_ial rfl rfl (n := 144) (by omega) (by decide) ?_
  (repeat (first | refine E_st rfl ?_ | refine E_go rfl ?_))
  exact E_rt rfl ⟨rfl, rfl⟩
theorem g_evader0 {x : Int32} (hx : x < 0 ∨ 4 < x) : pq_Ca (d + 2) 134 [.ref 63, .int x] (pq_Sh L, pn F, pl G, pq_rt h) (fun r M' => r = some (.int (-1)) ∧ M' = (pq_Sh L, pn (F), pl (G), pq_rt h)) := by
  refine Ca_mk rfl rfl ?_
  (repeat (first | refine E_st rfl ?_ | refine E_go rfl ?_))
  refine E_cx rfl (by omega) (g_in0 (d := 0) hx) ?_
  refine E_if rfl rfl ?_
  (repeat (first | refine E_st rfl ?_ | refine E_go rfl ?_))
  exact E_rt rfl ⟨rfl, rfl⟩
theorem g_evader4 {w : Nat} (hw : w ≤ 4) (h0 : F 64 17 = 0) : pq_Ca (d + 2) 134 [.ref 63, .int (nI w)] (pq_Sh L, pn F, pl G, pq_rt h) (fun r M' => r = some (.int (-4)) ∧ M' = (pq_Sh L, pn (F), pl (G), pq_rt h)) := by
  refine Ca_mk rfl rfl ?_
  (repeat (first | refine E_st rfl ?_ | refine E_go rfl ?_))
  refine E_cx rfl (by omega) (g_in1 (d := 0) (nI_le (Nat.zero_le w) (by omega)) (nI_le (b := 4) hw (by decide))) ?_
  refine E_nif rfl (by decide) ?_
  (repeat (first | refine E_st rfl ?_ | refine E_go rfl ?_))
  simp +decide only [nI_clamp, pn_at, pu_n, pu_l]
  refine E_if rfl (by rw [h0]; rfl) ?_
  (repeat (first | refine E_st rfl ?_ | refine E_go rfl ?_))
  exact E_rt rfl ⟨rfl, rfl⟩
theorem g_evader {w : Nat} (hw : w ≤ 4) (h0 : F 64 17 = 1) : pq_Ca (d + 2) 134 [.ref 63, .int (nI w)] (pq_Sh L, pn F, pl G, pq_rt h) (fun r M' => r = some (.int (nI (F 64 (18 + w)))) ∧ M' = (pq_Sh L, pn (F), pl (G), pq_rt h)) := by
  refine Ca_mk rfl rfl ?_
  (repeat (first | refine E_st rfl ?_ | refine E_go rfl ?_))
  refine E_cx rfl (by omega) (g_in1 (d := 0) (nI_le (Nat.zero_le w) (by omega)) (nI_le (b := 4) hw (by decide))) ?_
  refine E_nif rfl (by decide) ?_
  (repeat (first | refine E_st rfl ?_ | refine E_go rfl ?_))
  simp +decide only [nI_clamp, pn_at, pu_n, pu_l]
  refine E_nif rfl (by rw [h0]; decide) ?_
  (iterate 5 (first | refine E_st rfl ?_ | refine E_go rfl ?_))
  rw [nI_add]
  refine E_ial rfl rfl (n := 144) (by omega) (by decide) ?_
  (repeat (first | refine E_st rfl ?_ | refine E_go rfl ?_))
  exact E_rt rfl ⟨rfl, rfl⟩
theorem g_setNews0 {x y : Int32} (hx : x < 0 ∨ 9 < x) : pq_Ca (d + 2) 133 [.ref 63, .int x, .int y] (pq_Sh L, pn F, pl G, pq_rt h) (fun r M' => r = some (.int (-1)) ∧ M' = (pq_Sh L, pn (F), pl (G), pq_rt h)) := by
  refine Ca_mk rfl rfl ?_
  (repeat (first | refine E_st rfl ?_ | refine E_go rfl ?_))
  refine E_cx rfl (by omega) (g_in0 (d := 0) hx) ?_
  refine E_if rfl rfl ?_
  (repeat (first | refine E_st rfl ?_ | refine E_go rfl ?_))
  exact E_rt rfl ⟨rfl, rfl⟩
theorem g_setNews1 {p : Nat} {y : Int32} (hp : p ≤ 9) (hy : y < 0 ∨ 7 < y) : pq_Ca (d + 2) 133 [.ref 63, .int (nI p), .int y] (pq_Sh L, pn F, pl G, pq_rt h) (fun r M' => r = some (.int (-1)) ∧ M' = (pq_Sh L, pn (F), pl (G), pq_rt h)) := by
  refine Ca_mk rfl rfl ?_
  (repeat (first | refine E_st rfl ?_ | refine E_go rfl ?_))
  refine E_cx rfl (by omega) (g_in1 (d := 0) (nI_le (Nat.zero_le p) (by omega)) (nI_le (b := 9) hp (by decide))) ?_
  refine E_nif rfl (by decide) ?_
  (repeat (first | refine E_st rfl ?_ | refine E_go rfl ?_))
  refine E_cx rfl (by omega) (g_in0 (d := 0) hy) ?_
  refine E_if rfl rfl ?_
  (repeat (first | refine E_st rfl ?_ | refine E_go rfl ?_))
  exact E_rt rfl ⟨rfl, rfl⟩
theorem g_setNews {p q : Nat} (hg : gOk F) (hp : p ≤ 9) (hq : q ≤ 7) : pq_Ca (d + 2) 133 [.ref 63, .int (nI p), .int (nI q)] (pq_Sh L, pn F, pl G, pq_rt h) (fun r M' => r = some (.int (nI (10 * F 64 3 + F 64 4))) ∧ M' = (pq_Sh L, pn (pq_u (pq_u (rcM F) 64 3 p) 64 4 q), pl (G), pq_rt h)) := by
  obtain ⟨g0, g1, g2, g3, g4, g5, g6, g7, g8, g9, g10, g11, g12, g13, g14, g15, g16, g17, g18, g19⟩ := hg
  refine Ca_mk rfl rfl ?_
  (repeat (first | refine E_st rfl ?_ | refine E_go rfl ?_))
  refine E_cx rfl (by omega) (g_in1 (d := 0) (nI_le (Nat.zero_le p) (by omega)) (nI_le (b := 9) hp (by decide))) ?_
  refine E_nif rfl (by decide) ?_
  (repeat (first | refine E_st rfl ?_ | refine E_go rfl ?_))
  refine E_cx rfl (by omega) (g_in1 (d := 0) (nI_le (Nat.zero_le q) (by omega)) (nI_le (b := 7) hq (by decide))) ?_
  refine E_nif rfl (by decide) ?_
  (repeat (first | refine E_st rfl ?_ | refine E_go rfl ?_))
  refine E_cx rfl (by omega) (g_records (d := 0) g19) ?_
  (repeat (first | refine E_st rfl ?_ | refine E_go rfl ?_))
  simp +decide only [nI_clamp, pn_at, pu_n, pu_l]
  rw [rc64, rc64, zi_mul, nI_add]
  exact E_rt rfl ⟨rfl, rfl⟩
theorem g_flee0 {x : Int32} (hg : gOk F) (hx : x < 0 ∨ nI (F 64 0) ≤ x) : pq_Ca (d + 3) 132 [.ref 63, .int x] (pq_Sh L, pn F, pl G, pq_rt h) (fun r M' => r = some (.int (-1)) ∧ M' = (pq_Sh L, pn (F), pl (G), pq_rt h)) := by
  have := hg.1
  refine Ca_mk rfl rfl ?_
  (repeat (first | refine E_st rfl ?_ | refine E_go rfl ?_))
  refine E_cx rfl (by omega) (g_isNode0 (d := 0) hx (by omega) hg.2.1) ?_
  refine E_if rfl rfl ?_
  (repeat (first | refine E_st rfl ?_ | refine E_go rfl ?_))
  exact E_rt rfl ⟨rfl, rfl⟩
theorem g_flee2 {v : Nat} (hg : gOk F) (hv : v < F 64 0) (hc : F 64 17 = 0 ∨ F 64 20 = 1 ∨ ¬ wayM F (F 64 18) v) : pq_Ca (d + 3) 132 [.ref 63, .int (nI v)] (pq_Sh L, pn F, pl G, pq_rt h) (fun r M' => r = some (.int (-2)) ∧ M' = (pq_Sh L, pn (F), pl (G), pq_rt h)) := by
  obtain ⟨g0, g1, g2, g3, g4, g5, g6, g7, g8, g9, g10, g11, g12, g13, g14, g15, g16, g17, g18, g19⟩ := hg
  refine Ca_mk rfl rfl ?_
  (repeat (first | refine E_st rfl ?_ | refine E_go rfl ?_))
  refine E_cx rfl (by omega) (g_isNode (d := 0) hv g1) ?_
  refine E_nif rfl (by decide) ?_
  (repeat (first | refine E_st rfl ?_ | refine E_go rfl ?_))
  simp +decide only [nI_clamp, pn_at, pu_n, pu_l]
  by_cases c1 : F 64 17 = 0
  · refine E_if rfl (by rw [c1]; rfl) ?_
    (repeat (first | refine E_st rfl ?_ | refine E_go rfl ?_))
    exact E_rt rfl ⟨rfl, rfl⟩
  refine E_nif rfl (nI_ne0 (by omega) (by omega)) ?_
  (repeat (first | refine E_st rfl ?_ | refine E_go rfl ?_))
  simp +decide only [nI_clamp, pn_at, pu_n, pu_l]
  by_cases c2 : F 64 20 = 1
  · refine E_if rfl (by rw [c2]) ?_
    (repeat (first | refine E_st rfl ?_ | refine E_go rfl ?_))
    exact E_rt rfl ⟨rfl, rfl⟩
  refine E_nif rfl (fun z => c2 ((zi_eq (by omega) (by decide)).mp z)) ?_
  (repeat (first | refine E_st rfl ?_ | refine E_go rfl ?_))
  simp +decide only [nI_clamp, pn_at, pu_n, pu_l]
  refine E_cx rfl (by omega) (g_way0 (d := 0) g10 (by omega) (g6 _ g10) ((hc.resolve_left c1).resolve_left c2)) ?_
  refine E_if rfl rfl ?_
  (repeat (first | refine E_st rfl ?_ | refine E_go rfl ?_))
  exact E_rt rfl ⟨rfl, rfl⟩
theorem g_flee {v : Nat} (hg : gOk F) (hv : v < F 64 0) (c1 : ¬ F 64 17 = 0) (c2 : ¬ F 64 20 = 1) (c3 : wayM F (F 64 18) v) : pq_Ca (d + 3) 132 [.ref 63, .int (nI v)] (pq_Sh L, pn F, pl G, pq_rt h) (fun r M' => r = some (.int (nI (F 64 19))) ∧ M' = (pq_Sh L, pn (pq_u (rcM F) 64 19 v), pl (G), pq_rt h)) := by
  obtain ⟨g0, g1, g2, g3, g4, g5, g6, g7, g8, g9, g10, g11, g12, g13, g14, g15, g16, g17, g18, g19⟩ := hg
  refine Ca_mk rfl rfl ?_
  (repeat (first | refine E_st rfl ?_ | refine E_go rfl ?_))
  refine E_cx rfl (by omega) (g_isNode (d := 0) hv g1) ?_
  refine E_nif rfl (by decide) ?_
  (repeat (first | refine E_st rfl ?_ | refine E_go rfl ?_))
  simp +decide only [nI_clamp, pn_at, pu_n, pu_l]
  refine E_nif rfl (nI_ne0 (by omega) (by omega)) ?_
  (repeat (first | refine E_st rfl ?_ | refine E_go rfl ?_))
  simp +decide only [nI_clamp, pn_at, pu_n, pu_l]
  refine E_nif rfl (fun z => c2 ((zi_eq (by omega) (by decide)).mp z)) ?_
  (repeat (first | refine E_st rfl ?_ | refine E_go rfl ?_))
  simp +decide only [nI_clamp, pn_at, pu_n, pu_l]
  refine E_cx rfl (by omega) (g_way1 (d := 0) g10 (by omega) (g6 _ g10) c3) ?_
  refine E_nif rfl (by decide) ?_
  (repeat (first | refine E_st rfl ?_ | refine E_go rfl ?_))
  refine E_cx rfl (by omega) (g_records (d := 0) g19) ?_
  (repeat (first | refine E_st rfl ?_ | refine E_go rfl ?_))
  simp +decide only [nI_clamp, pn_at, pu_n, pu_l]
  rw [rc64]
  exact E_rt rfl ⟨rfl, rfl⟩
end MOF
