/-! Ways -/
def wy (u v : Nat) : Nat := 1 <<< (6 * u + v)
def wEdge (a b : Nat) : Nat := wy a b ||| wy b a
def wStays : Nat → Nat
  | 0 => 0
  | k + 1 => wStays k ||| wy k k
def wRows (s : Nat) : Nat → Nat
  | 0 => 0
  | k + 1 => if s.testBit k then wRows s k ||| 63 <<< (6 * k) else wRows s k
def wOnly (w s : Nat) : Nat := w &&& wRows s 6
def wEnds (w : Nat) : Nat := ((w ||| w >>> 18) ||| (w ||| w >>> 18) >>> 6 ||| (w ||| w >>> 18) >>> 12) &&& 63
def wClosed (f t : Nat) : Nat := 1090785345 <<< t ||| wy t f
def wFrom (w v : Nat) : Nat := (w >>> (6 * v)) &&& 63
def wSpread (w s : Nat) : Nat := wEnds (wOnly w s)
section WAYS
variable {d : Nat} {M : pq_M}
theorem c_way {u v : Nat} (h : 6 * u + v < 64) : pq_Ca (d + 1) 2 [.int (nI u), .int (nI v)] M (fun r M' => r = some (.long (lN (wy u v))) ∧ M' = M) := by
  refine Ca_mk rfl rfl ?_
  (repeat (first | refine E_st rfl ?_ | refine E_go rfl ?_))
  refine E_rt rfl ⟨?_, rfl⟩
  rw [pk_mul, nI_add, zl_shl _ h]; rfl
theorem c_edge {a b : Nat} (ha : a < 6) (hb : b < 6) : pq_Ca (d + 2) 3 [.int (nI a), .int (nI b)] M (fun r M' => r = some (.long (lN (wEdge a b))) ∧ M' = M) := by
  refine Ca_mk rfl rfl ?_
  (repeat (first | refine E_st rfl ?_ | refine E_go rfl ?_))
  refine E_cx rfl (Nat.le_refl _) (c_way (by omega)) ?_
  (repeat (first | refine E_st rfl ?_ | refine E_go rfl ?_))
  refine E_cx rfl (Nat.le_refl _) (c_way (by omega)) ?_
  (repeat (first | refine E_st rfl ?_ | refine E_go rfl ?_))
  refine E_rt rfl ⟨?_, rfl⟩
  rw [zl_or]; rfl
theorem c_contains {s n : Nat} (hs : s < 2 ^ 31) (hn : n < 32) : pq_Ca (d + 1) 4 [.int (nI s), .int (nI n)] M (fun r M' => r = some (.int (nI (if s.testBit n then 1 else 0))) ∧ M' = M) := by
  refine Ca_mk rfl rfl ?_
  (repeat (first | refine E_st rfl ?_ | refine E_go rfl ?_))
  have e : (nI s >>> (nI n &&& 31) &&& nI 1) = nI (if s.testBit n then 1 else 0) := by rw [zi_shr hs hn, zi_and, zb_and1]
  refine E_br rfl (fun h => ?_) (fun h => ?_)
  · (repeat (first | refine E_st rfl ?_ | refine E_go rfl ?_))
    refine E_rt rfl ⟨?_, rfl⟩
    rw [e] at h; rw [h]
  · (repeat (first | refine E_st rfl ?_ | refine E_go rfl ?_))
    refine E_rt rfl ⟨?_, rfl⟩
    rw [e] at h
    by_cases hb : s.testBit n = true
    · rw [if_pos hb] at h; exact absurd rfl h
    · rw [if_neg hb]
theorem l_stays {n : Nat} (hn : n ≤ 6) : ∀ m k, k + m = n → pq_Ev (d + 1) 1 4 [some (.int (nI n)), some (.long (lN (wStays k))), none, some (.int (nI k))] [] M (fun r M' => r = some (.long (lN (wStays n))) ∧ M' = M) := by
  intro m
  induction m with
  | zero =>
    intro k hk
    have hk : k = n := by omega
    subst hk
    (repeat (first | refine E_st rfl ?_ | refine E_go rfl ?_))
    refine E_nif rfl (nI_nlt (Nat.le_refl _) (by omega)) ?_
    (repeat (first | refine E_st rfl ?_ | refine E_go rfl ?_))
    exact E_rt rfl ⟨rfl, rfl⟩
  | succ m ih =>
    intro k hk
    (repeat (first | refine E_st rfl ?_ | refine E_go rfl ?_))
    refine E_if rfl (nI_lt (by omega) (by omega)) ?_
    (repeat (first | refine E_st rfl ?_ | refine E_go rfl ?_))
    refine E_cx rfl (Nat.le_refl _) (c_way (by omega)) ?_
    (iterate 4 (first | refine E_st rfl ?_ | refine E_go rfl ?_))
    rw [zl_or, nI_add]
    exact ih (k + 1) (by omega)
theorem c_stays {n : Nat} (hn : n ≤ 6) : pq_Ca (d + 2) 1 [.int (nI n)] M (fun r M' => r = some (.long (lN (wStays n))) ∧ M' = M) := by
  refine Ca_mk rfl rfl ?_
  (iterate 4 (first | refine E_st rfl ?_ | refine E_go rfl ?_))
  exact l_stays hn n 0 (by omega)
theorem c_closed {f t : Nat} (hf : f < 6) (ht : t < 6) : pq_Ca (d + 2) 8 [.int (nI f), .int (nI t)] M (fun r M' => r = some (.long (lN (wClosed f t))) ∧ M' = M) := by
  refine Ca_mk rfl rfl ?_
  (repeat (first | refine E_st rfl ?_ | refine E_go rfl ?_))
  refine E_cx rfl (Nat.le_refl _) (c_way (by omega)) ?_
  (repeat (first | refine E_st rfl ?_ | refine E_go rfl ?_))
  refine E_rt rfl ⟨?_, rfl⟩
  rw [zl_shl _ (by omega), zl_or]; rfl
theorem c_from {w v : Nat} (hw : w < 2 ^ 64) (hv : v < 6) : pq_Ca (d + 1) 9 [.long (lN w), .int (nI v)] M (fun r M' => r = some (.int (nI (wFrom w v))) ∧ M' = M) := by
  refine Ca_mk rfl rfl ?_
  (repeat (first | refine E_st rfl ?_ | refine E_go rfl ?_))
  refine E_rt rfl ⟨?_, rfl⟩
  rw [pk_mul, zl_shr hw (by omega), zl_and, lN_i]; rfl
theorem l_only {w s : Nat} (hs : s < 2 ^ 31) : ∀ m k, k + m = 6 → pq_Ev (d + 1) 6 5 [some (.long (lN w)), none, some (.int (nI s)), some (.long (lN (wRows s k))), none, some (.int (nI k))] [] M (fun r M' => r = some (.long (lN (wOnly w s))) ∧ M' = M) := by
  intro m
  induction m with
  | zero =>
    intro k hk
    have hk : k = 6 := by omega
    subst hk
    (repeat (first | refine E_st rfl ?_ | refine E_go rfl ?_))
    refine E_nif rfl (nI_nlt (Nat.le_refl _) (by omega)) ?_
    (repeat (first | refine E_st rfl ?_ | refine E_go rfl ?_))
    refine E_rt rfl ⟨?_, rfl⟩
    rw [zl_and]; rfl
  | succ m ih =>
    intro k hk
    (repeat (first | refine E_st rfl ?_ | refine E_go rfl ?_))
    refine E_if rfl (nI_lt (by omega) (by omega)) ?_
    (repeat (first | refine E_st rfl ?_ | refine E_go rfl ?_))
    refine E_cx rfl (Nat.le_refl _) (c_contains hs (by omega)) ?_
    by_cases hb : s.testBit k = true
    · rw [if_pos hb]
      refine E_nif rfl (nI_ne0 (by decide) (by decide)) ?_
      (iterate 10 (first | refine E_st rfl ?_ | refine E_go rfl ?_))
      rw [pk_mul, zl_shl _ (by omega), zl_or, nI_add]
      have e : wRows s (k + 1) = wRows s k ||| 63 <<< (6 * k) := by show (if _ then _ else _) = _; rw [if_pos hb]
      rw [← e]
      exact ih (k + 1) (by omega)
    · rw [if_neg hb]
      refine E_if rfl rfl ?_
      (iterate 2 (first | refine E_st rfl ?_ | refine E_go rfl ?_))
      rw [nI_add]
      have e : wRows s (k + 1) = wRows s k := by show (if _ then _ else _) = _; rw [if_neg hb]
      rw [← e]
      exact ih (k + 1) (by omega)
theorem c_only {w s : Nat} (hs : s < 2 ^ 31) : pq_Ca (d + 2) 6 [.long (lN w), .int (nI s)] M (fun r M' => r = some (.long (lN (wOnly w s))) ∧ M' = M) := by
  refine Ca_mk rfl rfl ?_
  (iterate 4 (first | refine E_st rfl ?_ | refine E_go rfl ?_))
  exact l_only hs 6 0 rfl
theorem c_ends {w : Nat} (hw : w < 2 ^ 64) : pq_Ca (d + 1) 7 [.long (lN w)] M (fun r M' => r = some (.int (nI (wEnds w))) ∧ M' = M) := by
  refine Ca_mk rfl rfl ?_
  (repeat (first | refine E_st rfl ?_ | refine E_go rfl ?_))
  refine E_rt rfl ⟨?_, rfl⟩
  have h1 : w ||| w >>> 18 < 2 ^ 64 := Nat.or_lt_two_pow hw (Nat.lt_of_le_of_lt (by rw [Nat.shiftRight_eq_div_pow]; exact Nat.div_le_self _ _) hw)
  rw [zl_shr hw (by decide), zl_or, zl_shr h1 (by decide), zl_or, zl_shr h1 (by decide), zl_or, zl_and, lN_i]; rfl
theorem wOnly_lt {w s : Nat} (hw : w < 2 ^ 64) : wOnly w s < 2 ^ 64 := Nat.lt_of_le_of_lt Nat.and_le_left hw
theorem c_spread {w s : Nat} (hw : w < 2 ^ 64) (hs : s < 2 ^ 31) : pq_Ca (d + 3) 5 [.long (lN w), .int (nI s)] M (fun r M' => r = some (.int (nI (wSpread w s))) ∧ M' = M) := by
  refine Ca_mk rfl rfl ?_
  (repeat (first | refine E_st rfl ?_ | refine E_go rfl ?_))
  refine E_cx rfl (Nat.le_refl _) (c_only hs) ?_
  refine E_cx rfl (by omega) (c_ends (d := d) (wOnly_lt hw)) ?_
  exact E_rt rfl ⟨rfl, rfl⟩
end WAYS
