/-! the model: its small methods. Places 63 model (states 2, typed 4), 64 d, 65 was, 66 text, 67 from, 68 to, 69 near, 70 best, 71 parent, 72 queue, 73 seen -/
def stM (F : Nat → Nat → Nat) : Nat → Nat
  | 0 => 1 <<< F 64 0 - 1
  | k + 1 => an (stM F k) (1 <<< F 64 (11 + k))
def bgM (F : Nat → Nat → Nat) : Nat → Nat → Nat := pq_u (pq_u (pq_u F 64 23 1) 64 24 (stM F (F 64 1))) 64 25 (if F 64 17 = 1 then F 64 18 else N1)
/-- bounds of what the model holds -/
def gOk (F : Nat → Nat → Nat) : Prop := 2 ≤ F 64 0 ∧ F 64 0 ≤ 6 ∧ F 64 1 ≤ 3 ∧ F 64 2 ≤ 10000 ∧ F 64 3 ≤ 9 ∧ F 64 4 ≤ 7 ∧ (∀ v, v < 6 → F 64 (5 + v) < 64) ∧ (∀ k, k < 3 → F 64 (11 + k) < 6) ∧ (∀ k, k < 3 → F 64 (14 + k) < 6) ∧ F 64 17 ≤ 1 ∧ F 64 18 < 6 ∧ F 64 19 < 6 ∧ F 64 20 ≤ 1 ∧ F 64 21 ≤ 10000 ∧ F 64 22 ≤ 10000 ∧ 1 ≤ F 64 23 ∧ F 64 23 ≤ 8 ∧ F 64 23 ≤ F 64 2 + 1 ∧ (∀ i, i < F 64 23 → F 64 (24 + 15 * i) < 64) ∧ F 63 2 ≤ 5
section MOA
variable {d L : Nat} {F G : Nat → Nat → Nat} {h : Nat → Nat}
theorem zpred (n : Nat) (h : 1 ≤ n) : nI n - nI 1 = nI (n - 1) := zi_sub h
theorem g_in1 {x lo hi : Int32} (h1 : lo ≤ x) (h2 : x ≤ hi) : pq_Ca (d + 1) 104 [.int x, .int lo, .int hi] (pq_Sh L, pn F, pl G, pq_rt h) (fun r M' => r = some (.int 1) ∧ M' = (pq_Sh L, pn (F), pl (G), pq_rt h)) := by
  refine Ca_mk rfl rfl ?_
  (repeat (first | refine E_st rfl ?_ | refine E_go rfl ?_))
  refine E_nif rfl (Int32.not_lt.mpr h1) ?_
  (repeat (first | refine E_st rfl ?_ | refine E_go rfl ?_))
  refine E_nif rfl (Int32.not_lt.mpr h2) ?_
  (repeat (first | refine E_st rfl ?_ | refine E_go rfl ?_))
  exact E_rt rfl ⟨rfl, rfl⟩
theorem g_in0 {x lo hi : Int32} (h1 : x < lo ∨ hi < x) : pq_Ca (d + 1) 104 [.int x, .int lo, .int hi] (pq_Sh L, pn F, pl G, pq_rt h) (fun r M' => r = some (.int 0) ∧ M' = (pq_Sh L, pn (F), pl (G), pq_rt h)) := by
  refine Ca_mk rfl rfl ?_
  (repeat (first | refine E_st rfl ?_ | refine E_go rfl ?_))
  refine E_br rfl (fun c => ?_) (fun c => ?_)
  · (repeat (first | refine E_st rfl ?_ | refine E_go rfl ?_))
    exact E_rt rfl ⟨rfl, rfl⟩
  · (repeat (first | refine E_st rfl ?_ | refine E_go rfl ?_))
    refine E_if rfl (h1.resolve_left c) ?_
    (repeat (first | refine E_st rfl ?_ | refine E_go rfl ?_))
    exact E_rt rfl ⟨rfl, rfl⟩
theorem g_all (hn : F 64 0 ≤ 6) : pq_Ca (d + 1) 102 [.ref 63] (pq_Sh L, pn F, pl G, pq_rt h) (fun r M' => r = some (.int (nI (1 <<< F 64 0 - 1))) ∧ M' = (pq_Sh L, pn (F), pl (G), pq_rt h)) := by
  have h1 : 1 ≤ 1 <<< F 64 0 := by rw [Nat.one_shiftLeft]; exact Nat.one_le_two_pow
  refine Ca_mk rfl rfl ?_
  (repeat (first | refine E_st rfl ?_ | refine E_go rfl ?_))
  simp +decide only [nI_clamp, pn_at, pu_n, pu_l]
  rw [zi_shl 1 (by omega)]
  refine E_rt rfl ⟨?_, rfl⟩
  rw [zi_sub h1]
theorem g_isNode {v : Nat} (hv : v < F 64 0) (hn : F 64 0 ≤ 6) : pq_Ca (d + 2) 107 [.ref 63, .int (nI v)] (pq_Sh L, pn F, pl G, pq_rt h) (fun r M' => r = some (.int 1) ∧ M' = (pq_Sh L, pn (F), pl (G), pq_rt h)) := by
  refine Ca_mk rfl rfl ?_
  (iterate 8 (first | refine E_st rfl ?_ | refine E_go rfl ?_))
  simp +decide only [nI_clamp, pn_at, pu_n, pu_l]
  rw [zi_sub (by omega)]
  refine E_cx rfl (by omega) (g_in1 (d := 0) (nI_le (Nat.zero_le v) (by omega)) (nI_le (by omega) (by omega))) ?_
  exact E_rt rfl ⟨rfl, rfl⟩
end MOA
