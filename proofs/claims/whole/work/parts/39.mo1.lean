/-! the model: its small methods. Places 63 model (states 2, typed 4), 64 d, 65 was, 66 text, 67 from, 68 to, 69 near, 70 best, 71 parent, 72 queue, 73 seen -/
def stM (F : Nat → Nat → Nat) : Nat → Nat
  | 0 => 1 <<< F 64 0 - 1
  | k + 1 => an (stM F k) (1 <<< F 64 (11 + k))
def bgM (F : Nat → Nat → Nat) : Nat → Nat → Nat := pq_u (pq_u (pq_u F 64 23 1) 64 24 (stM F (F 64 1))) 64 25 (if F 64 17 = 1 then F 64 18 else N1)
/-- bounds of what the model holds -/
def gOk (F : Nat → Nat → Nat) : Prop := 2 ≤ F 64 0 ∧ F 64 0 ≤ 6 ∧ F 64 1 ≤ 3 ∧ F 64 2 ≤ 10000 ∧ F 64 3 ≤ 9 ∧ F 64 4 ≤ 7 ∧ (∀ v, v < 6 → F 64 (5 + v) < 64) ∧ (∀ k, k < 3 → F 64 (11 + k) < 6) ∧ (∀ k, k < 3 → F 64 (14 + k) < 6) ∧ F 64 17 ≤ 1 ∧ F 64 18 < 6 ∧ F 64 19 < 6 ∧ F 64 20 ≤ 1 ∧ F 64 21 ≤ 10000 ∧ F 64 22 ≤ 10000 ∧ 1 ≤ F 64 23 ∧ F 64 23 ≤ 8 ∧ F 64 23 ≤ F 64 2 + 1 ∧ (∀ i, i < F 64 23 → F 64 (24 + 15 * i) < 64) ∧ F 63 2 ≤ 5
section MOA
variable {d L : Nat} {F G : Nat → Nat → Nat} {h : Nat → Nat}
theorem zi_mul (a b : Nat) : nI a * nI b = nI (a * b) := by
  apply Int32.toBitVec_inj.1
  simp [nI]
theorem zpred (n : Nat) (h : 1 ≤ n) : nI n - nI 1 = nI (n - 1) := zi_sub h
theorem g_in1 {x lo hi : Int32} (h1 : lo ≤ x) (h2 : x ≤ hi) : pq_Ca (d + 1) 104 [.int x, .int lo, .int hi] (pq_Sh L, pn F, pl G, pq_rt h) (fun r M' => r = some (.int 1) ∧ M' = (pq_Sh L, pn (F), pl (G), pq_rt h)) := by
  refine Ca_mk rfl rfl ?_
  (repeat (first | refine E_st rfl ?_ | refine E_go rfl ?_))
  refine E_nif rfl (Int32.not_lt.mpr h1) ?_
  (repeat (first | refine E_st rfl ?_ | refine E_go rfl ?_))
  refine E_nif rfl (Int32.not_lt.mpr h2) ?_
  (repeat (first | refine E_st rfl ?_ | refine E_go rfl ?_))
  exact E_rt rfl ⟨rfl, rfl⟩
theorem g_in0 {x lo hi : Int32} (h1 : x < lo ∨ hi < x) : pq_Ca (d + 1) 104 [.int x, .int lo, .int hi] (pq_Sh L, pn F, pl G, pq_rt h) (fun r M' => r = some (.int 0) ∧ M' = (pq_Sh L, pn (F), pl (G), pq_rt h)) := by
  refine Ca_mk rfl rfl ?_
  (repeat (first | refine E_st rfl ?_ | refine E_go rfl ?_))
  refine E_br rfl (fun c => ?_) (fun c => ?_)
  · (repeat (first | refine E_st rfl ?_ | refine E_go rfl ?_))
    exact E_rt rfl ⟨rfl, rfl⟩
  · (repeat (first | refine E_st rfl ?_ | refine E_go rfl ?_))
    refine E_if rfl (h1.resolve_left c) ?_
    (repeat (first | refine E_st rfl ?_ | refine E_go rfl ?_))
    exact E_rt rfl ⟨rfl, rfl⟩
theorem g_all (hn : F 64 0 ≤ 6) : pq_Ca (d + 1) 102 [.ref 63] (pq_Sh L, pn F, pl G, pq_rt h) (fun r M' => r = some (.int (nI (1 <<< F 64 0 - 1))) ∧ M' = (pq_Sh L, pn (F), pl (G), pq_rt h)) := by
  have h1 : 1 ≤ 1 <<< F 64 0 := by rw [Nat.one_shiftLeft]; exact Nat.one_le_two_pow
  refine Ca_mk rfl rfl ?_
  (repeat (first | refine E_st rfl ?_ | refine E_go rfl ?_))
  simp +decide only [nI_clamp, pn_at, pu_n, pu_l]
  rw [zi_shl 1 (by omega)]
  refine E_rt rfl ⟨?_, rfl⟩
  rw [zi_sub h1]
theorem g_isNode {v : Nat} (hv : v < F 64 0) (hn : F 64 0 ≤ 6) : pq_Ca (d + 2) 107 [.ref 63, .int (nI v)] (pq_Sh L, pn F, pl G, pq_rt h) (fun r M' => r = some (.int 1) ∧ M' = (pq_Sh L, pn (F), pl (G), pq_rt h)) := by
  refine Ca_mk rfl rfl ?_
  (iterate 8 (first | refine E_st rfl ?_ | refine E_go rfl ?_))
  simp +decide only [nI_clamp, pn_at, pu_n, pu_l]
  rw [zi_sub (by omega)]
  refine E_cx rfl (by omega) (g_in1 (d := 0) (nI_le (Nat.zero_le v) (by omega)) (nI_le (by omega) (by omega))) ?_
  exact E_rt rfl ⟨rfl, rfl⟩
theorem g_isNode0 {x : Int32} (hx : x < 0 ∨ nI (F 64 0) ≤ x) (h1 : 1 ≤ F 64 0) (hn : F 64 0 ≤ 6) : pq_Ca (d + 2) 107 [.ref 63, .int x] (pq_Sh L, pn F, pl G, pq_rt h) (fun r M' => r = some (.int 0) ∧ M' = (pq_Sh L, pn (F), pl (G), pq_rt h)) := by
  have h2 : x < 0 ∨ nI (F 64 0 - 1) < x := hx.imp id (fun z => Int32.lt_of_lt_of_le (nI_lt (by omega) (by omega)) z)
  refine Ca_mk rfl rfl ?_
  (iterate 8 (first | refine E_st rfl ?_ | refine E_go rfl ?_))
  simp +decide only [nI_clamp, pn_at, pu_n, pu_l]
  rw [zi_sub (by omega)]
  refine E_cx rfl (by omega) (g_in0 (d := 0) h2) ?_
  exact E_rt rfl ⟨rfl, rfl⟩
theorem g_isSearcher {v : Nat} (hv : v < F 64 1) (hn : F 64 1 ≤ 3) : pq_Ca (d + 2) 114 [.ref 63, .int (nI v)] (pq_Sh L, pn F, pl G, pq_rt h) (fun r M' => r = some (.int 1) ∧ M' = (pq_Sh L, pn (F), pl (G), pq_rt h)) := by
  refine Ca_mk rfl rfl ?_
  (iterate 8 (first | refine E_st rfl ?_ | refine E_go rfl ?_))
  simp +decide only [nI_clamp, pn_at, pu_n, pu_l]
  rw [zi_sub (by omega)]
  refine E_cx rfl (by omega) (g_in1 (d := 0) (nI_le (Nat.zero_le v) (by omega)) (nI_le (by omega) (by omega))) ?_
  exact E_rt rfl ⟨rfl, rfl⟩
theorem g_isSearcher0 {x : Int32} (hx : x < 0 ∨ nI (F 64 1) ≤ x) (hn : F 64 1 ≤ 3) : pq_Ca (d + 2) 114 [.ref 63, .int x] (pq_Sh L, pn F, pl G, pq_rt h) (fun r M' => r = some (.int 0) ∧ M' = (pq_Sh L, pn (F), pl (G), pq_rt h)) := by
  refine Ca_mk rfl rfl ?_
  (iterate 8 (first | refine E_st rfl ?_ | refine E_go rfl ?_))
  simp +decide only [nI_clamp, pn_at, pu_n, pu_l]
  by_cases h0 : F 64 1 = 0
  · refine E_cx rfl (by omega) (g_in0 (d := 0) ?_) ?_
    · rw [h0] at hx ⊢
      by_cases hc : x < 0
      · exact Or.inl hc
      · exact Or.inr (Int32.lt_of_lt_of_le (by decide) (Int32.not_lt.mp hc))
    · exact E_rt rfl ⟨rfl, rfl⟩
  · rw [zi_sub (by omega)]
    refine E_cx rfl (by omega) (g_in0 (d := 0) (hx.imp id (fun z => Int32.lt_of_lt_of_le (nI_lt (by omega) (by omega)) z))) ?_
    exact E_rt rfl ⟨rfl, rfl⟩
theorem g_last (h1 : 1 ≤ F 64 23) (h2 : F 64 23 ≤ 8) : pq_Ca (d + 1) 111 [.ref 63] (pq_Sh L, pn F, pl G, pq_rt h) (fun r M' => r = some (.int (nI (24 + 15 * (F 64 23 - 1)))) ∧ M' = (pq_Sh L, pn (F), pl (G), pq_rt h)) := by
  refine Ca_mk rfl rfl ?_
  (repeat (first | refine E_st rfl ?_ | refine E_go rfl ?_))
  simp +decide only [nI_clamp, pn_at, pu_n, pu_l]
  refine E_rt rfl ⟨?_, rfl⟩
  rw [zi_sub (by omega), zi_mul, nI_add]
theorem g_belief (h1 : 1 ≤ F 64 23) (h2 : F 64 23 ≤ 8) : pq_Ca (d + 2) 116 [.ref 63] (pq_Sh L, pn F, pl G, pq_rt h) (fun r M' => r = some (.int (nI (F 64 (24 + 15 * (F 64 23 - 1))))) ∧ M' = (pq_Sh L, pn (F), pl (G), pq_rt h)) := by
  refine Ca_mk rfl rfl ?_
  (repeat (first | refine E_st rfl ?_ | refine E_go rfl ?_))
  refine E_cx rfl (by omega) (g_last (d := 0) h1 h2) ?_
  refine E_ial rfl rfl (n := 144) (by omega) (by decide) ?_
  exact E_rt rfl ⟨rfl, rfl⟩
theorem g_isWay {a b : Nat} (ha : a < 6) (hb : b < 8) (hn : F 64 (5 + a) < 2 ^ 31) : pq_Ca (d + 1) 109 [.ref 63, .int (nI a), .int (nI b)] (pq_Sh L, pn F, pl G, pq_rt h) (fun r M' => r = some (.int (nI (if a = b ∨ (F 64 (5 + a)).testBit b then 1 else 0))) ∧ M' = (pq_Sh L, pn (F), pl (G), pq_rt h)) := by
  by_cases e : a = b
  · rw [if_pos (Or.inl e)]
    refine Ca_mk rfl rfl ?_
    (repeat (first | refine E_st rfl ?_ | refine E_go rfl ?_))
    refine E_if rfl (by rw [e]) ?_
    (repeat (first | refine E_st rfl ?_ | refine E_go rfl ?_))
    exact E_rt rfl ⟨rfl, rfl⟩
  have ne : ¬ nI a = nI b := fun z => e ((zi_eq (by omega) (by omega)).mp z)
  refine Ca_mk rfl rfl ?_
  (repeat (first | refine E_st rfl ?_ | refine E_go rfl ?_))
  refine E_nif rfl ne ?_
  (iterate 5 (first | refine E_st rfl ?_ | refine E_go rfl ?_))
  rw [nI_add]
  refine E_ial rfl rfl (n := 144) (by omega) (by decide) ?_
  (iterate 5 (first | refine E_st rfl ?_ | refine E_go rfl ?_))
  rw [zi_shr hn (by omega), zi_and, zb_and1]
  by_cases c : (F 64 (5 + a)).testBit b = true
  · rw [if_pos c, if_pos (Or.inr c)]
    refine E_if rfl rfl ?_
    (repeat (first | refine E_st rfl ?_ | refine E_go rfl ?_))
    exact E_rt rfl ⟨rfl, rfl⟩
  · rw [if_neg c, if_neg (fun z => z.elim e c)]
    refine E_nif rfl (show ¬ nI 0 = nI 1 by decide) ?_
    (repeat (first | refine E_st rfl ?_ | refine E_go rfl ?_))
    exact E_rt rfl ⟨rfl, rfl⟩
theorem l_begins (hn : F 64 0 ≤ 6) (hK : F 64 1 ≤ 3) (ha : ∀ k, k < 3 → F 64 (11 + k) < 6) (h17 : F 64 17 ≤ 1) : ∀ m k, k + m = F 64 1 → pq_Ev (d + 1) 101 7 [some (.ref 63), some (.int (nI (stM F k))), some (.int (nI k))] [] (pq_Sh L, pn F, pl G, pq_rt h) (fun r M' => r = none ∧ M' = (pq_Sh L, pn (bgM F), pl (G), pq_rt h)) := by
  intro m
  induction m with
  | zero =>
    intro k hk
    have hk : k = F 64 1 := by omega
    (repeat (first | refine E_st rfl ?_ | refine E_go rfl ?_))
    simp +decide only [nI_clamp, pn_at, pu_n, pu_l]
    refine E_nif rfl (nI_nlt (by omega) (by omega)) ?_
    (repeat (first | refine E_st rfl ?_ | refine E_go rfl ?_))
    simp +decide only [nI_clamp, pn_at, pu_n, pu_l]
    rw [show pq_u (pq_u F 64 23 1) 64 24 (stM F k) 64 17 = F 64 17 from rfl]
    by_cases c : F 64 17 = 1
    · refine E_if rfl (by rw [c]) ?_
      (repeat (first | refine E_st rfl ?_ | refine E_go rfl ?_))
      simp +decide only [nI_clamp, pn_at, pu_n, pu_l]
      refine E_rt rfl ⟨rfl, ?_⟩
      unfold bgM
      rw [if_pos c, hk]
      rfl
    · refine E_nif rfl (fun z => c ((zi_eq (by omega) (by decide)).mp z)) ?_
      (repeat (first | refine E_st rfl ?_ | refine E_go rfl ?_))
      rw [zm1]
      simp +decide only [nI_clamp, pn_at, pu_n, pu_l]
      refine E_rt rfl ⟨rfl, ?_⟩
      unfold bgM
      rw [if_neg c, hk]
  | succ m ih =>
    intro k hk
    (repeat (first | refine E_st rfl ?_ | refine E_go rfl ?_))
    simp +decide only [nI_clamp, pn_at, pu_n, pu_l]
    refine E_if rfl (nI_lt (by omega) (by omega)) ?_
    (iterate 7 (first | refine E_st rfl ?_ | refine E_go rfl ?_))
    rw [nI_add]
    refine E_ial rfl rfl (n := 144) (by omega) (by decide) ?_
    (iterate 4 (first | refine E_st rfl ?_ | refine E_go rfl ?_))
    have := ha k (by omega)
    rw [zi_shl 1 (by omega)]
    rw [zi_not]
    (iterate 3 (first | refine E_st rfl ?_ | refine E_go rfl ?_))
    rw [nI_add]
    exact ih (k + 1) (by omega)
theorem g_begins (hn : F 64 0 ≤ 6) (hK : F 64 1 ≤ 3) (ha : ∀ k, k < 3 → F 64 (11 + k) < 6) (h17 : F 64 17 ≤ 1) : pq_Ca (d + 2) 101 [.ref 63] (pq_Sh L, pn F, pl G, pq_rt h) (fun r M' => r = none ∧ M' = (pq_Sh L, pn (bgM F), pl (G), pq_rt h)) := by
  refine Ca_mk rfl rfl ?_
  (repeat (first | refine E_st rfl ?_ | refine E_go rfl ?_))
  refine E_cx rfl (by omega) (g_all (d := 0) hn) ?_
  (iterate 3 (first | refine E_st rfl ?_ | refine E_go rfl ?_))
  exact l_begins hn hK ha h17 (F 64 1) 0 (by omega)
end MOA
