/-! State (the present one): places 2 (State), 3 (at), 4 (aim) -/
def occ (F : Nat → Nat → Nat) : Nat → Nat
  | 0 => 0
  | k + 1 => occ F k ||| 1 <<< F 3 k
def bgF (F : Nat → Nat → Nat) : Nat → Nat → Nat := pq_u (pq_u (pq_u F 5 2 (F 2 5)) 5 3 1) 6 (F 2 5 % 8) (an (1 <<< F 2 0 - 1) (occ F (F 2 2)))
def fwF (F G : Nat → Nat → Nat) (tp : Nat) : Nat → Nat
  | 0 => G 2 1
  | k + 1 => an (fwF F G tp k) (wClosed (F 3 k) (F tp k))
def cuF (F : Nat → Nat → Nat) (w : Nat) : Nat → Nat → Nat → Nat
  | 0 => F
  | k + 1 => if w.testBit (6 * F 3 k + F 4 k) then cuF F w k else pq_u (cuF F w k) 4 k (F 3 k)
def saF (F : Nat → Nat → Nat) (n : Nat) : Nat → Nat → Nat := bgF (pq_u (pq_u (pq_u (pq_u F 2 0 n) 2 2 0) 2 5 0) 8 0 0)
def ctF (F : Nat → Nat → Nat) (w : Nat) : Nat → Nat → Nat := if F 8 0 = 0 ∨ w.testBit (6 * F 8 1 + F 8 2) = true then cuF F w (F 2 2) else pq_u (cuF F w (F 2 2)) 8 2 (F 8 1)
def reF (F : Nat → Nat → Nat) : Nat → Nat → Nat := bgF (pq_u (pq_cpy F 3 0 4 0 3) 8 2 (F 8 1))
def loF (F : Nat → Nat → Nat) (v : Nat) : Nat → Nat → Nat := pq_u F 6 (F 5 2 % 8) (an (F 6 (F 5 2 % 8)) (1 <<< v))
def adF (F : Nat → Nat → Nat) (v : Nat) : Nat → Nat → Nat :=
  if F 8 0 = 0 ∨ F 8 3 ≠ 0 ∨ F 8 1 ≠ v then loF (pq_u (pq_u (pq_u F 3 (F 2 2) v) 4 (F 2 2) v) 2 2 (F 2 2 + 1)) v
  else caF (loF (pq_u (pq_u (pq_u F 3 (F 2 2) v) 4 (F 2 2) v) 2 2 (F 2 2 + 1)) v) v (F 2 5)
def mtE (F G : Nat → Nat → Nat) (w : Nat) : Nat → Nat → Nat := exF (pq_u F 2 5 (F 2 5 + 1)) G w
def mtF (F G : Nat → Nat → Nat) (w : Nat) : Nat → Nat → Nat :=
  pq_cpy (if F 8 0 = 0 ∨ F 8 3 ≠ 0 then mtE F G w else if w.testBit (6 * F 8 1 + F 8 2) = true then stF (mtE F G w) (F 8 2) (F 2 5 + 1) else caF (mtE F G w) (F 8 2) (F 2 5 + 1)) 4 0 3 0 3
section STA
variable {d L : Nat} {F G : Nat → Nat → Nat} {h : Nat → Nat}
theorem l_occ (hK : F 2 2 ≤ 3) (ha : ∀ k, k < 3 → F 3 k < 32) : ∀ m k, k + m = F 2 2 → pq_Ev d 52 4 [some (.ref 2), some (.int (nI (occ F k))), some (.int (nI k))] [] (pq_Sh L, pn F, pl G, pq_rt h) (fun r M' => r = some (.int (nI (occ F (F 2 2)))) ∧ M' = (pq_Sh L, pn (F), pl (G), pq_rt h)) := by
  intro m
  induction m with
  | zero =>
    intro k hk
    (repeat (first | refine E_st rfl ?_ | refine E_go rfl ?_))
    refine E_nif rfl (show ¬ nI k < nI (F 2 2) from nI_nlt (by omega) (by omega)) ?_
    (repeat (first | refine E_st rfl ?_ | refine E_go rfl ?_))
    refine E_rt rfl ⟨?_, rfl⟩
    rw [show k = F 2 2 by omega]
  | succ m ih =>
    intro k hk
    (repeat (first | refine E_st rfl ?_ | refine E_go rfl ?_))
    refine E_if rfl (show nI k < nI (F 2 2) from nI_lt (by omega) (by omega)) ?_
    (repeat (first | refine E_st rfl ?_ | refine E_go rfl ?_))
    refine E_ial rfl rfl (by omega) (by decide) ?_
    (iterate 5 (first | refine E_st rfl ?_ | refine E_go rfl ?_))
    rw [zi_shl _ (ha k (by omega)), zi_or, nI_add]
    exact ih (k + 1) (by omega)
theorem c_occupied (hK : F 2 2 ≤ 3) (ha : ∀ k, k < 3 → F 3 k < 32) : pq_Ca (d + 1) 52 [.ref 2] (pq_Sh L, pn F, pl G, pq_rt h) (fun r M' => r = some (.int (nI (occ F (F 2 2)))) ∧ M' = (pq_Sh L, pn (F), pl (G), pq_rt h)) := by
  refine Ca_mk rfl rfl ?_
  (iterate 4 (first | refine E_st rfl ?_ | refine E_go rfl ?_))
  exact l_occ hK ha (F 2 2) 0 (by omega)
theorem c_forget (hK : F 2 2 ≤ 3) (ha : ∀ k, k < 3 → F 3 k < 32) (hn : F 2 0 ≤ 6) : pq_Ca (d + 3) 51 [.ref 2] (pq_Sh L, pn F, pl G, pq_rt h) (fun r M' => r = none ∧ M' = (pq_Sh L, pn (bgF F), pl (G), pq_rt h)) := by
  refine Ca_mk rfl rfl ?_
  (repeat (first | refine E_st rfl ?_ | refine E_go rfl ?_))
  refine E_cx rfl (by omega) (c_occupied (d := 0) hK ha) ?_
  (repeat (first | refine E_st rfl ?_ | refine E_go rfl ?_))
  simp only [pn_at]
  rw [zi_shl _ (by omega), pk_sub (by rw [Nat.one_shiftLeft]; exact Nat.one_le_two_pow), zi_not]
  refine E_cx rfl (by omega) (c_makeAnew (d := 0)) ?_
  exact E_rt rfl ⟨rfl, rfl⟩
theorem c_startAnew {n : Nat} (hn : n ≤ 6) (ha : ∀ k, k < 3 → F 3 k < 32) : pq_Ca (d + 4) 50 [.ref 2, .int (nI n)] (pq_Sh L, pn F, pl G, pq_rt h) (fun r M' => r = none ∧ M' = (pq_Sh L, pn (saF F n), pl (pq_u G 2 1 (wStays n)), pq_rt h)) := by
  refine Ca_mk rfl rfl ?_
  (repeat (first | refine E_st rfl ?_ | refine E_go rfl ?_))
  refine E_cx rfl (by omega) (c_stays (d := 0) hn) ?_
  (repeat (first | refine E_st rfl ?_ | refine E_go rfl ?_))
  simp only [pu_n, pu_l, pc_n, pc_l]
  refine E_cx rfl (by omega) (c_forget (d := 0) (by simp +decide [pu_at]) ha (by simpa +decide [pu_at] using hn)) ?_
  exact E_rt rfl ⟨rfl, rfl⟩
theorem c_joins {a b : Nat} (hG : G 2 1 < 2 ^ 63) (hab : 6 * a + b < 64) : pq_Ca (d + 2) 54 [.ref 2, .int (nI a), .int (nI b)] (pq_Sh L, pn F, pl G, pq_rt h) (fun r M' => r = some (.int (nI (if (G 2 1).testBit (6 * a + b) then 1 else 0))) ∧ M' = (pq_Sh L, pn (F), pl (G), pq_rt h)) := by
  refine Ca_mk rfl rfl ?_
  (repeat (first | refine E_st rfl ?_ | refine E_go rfl ?_))
  refine E_cx rfl (by omega) (c_way (d := 0) hab) ?_
  (repeat (first | refine E_st rfl ?_ | refine E_go rfl ?_))
  simp only [pl_at]
  rw [zl_and]
  have hlt : G 2 1 &&& wy a b < 2 ^ 63 := Nat.lt_of_le_of_lt Nat.and_le_left hG
  by_cases hb : (G 2 1).testBit (6 * a + b) = true
  · have hne : ¬ G 2 1 &&& wy a b = 0 := fun e => by rw [and_way, hb] at e; cases e
    refine E_nif rfl (fun e => hne ((zl_cmp hlt).mp e)) ?_
    (repeat (first | refine E_st rfl ?_ | refine E_go rfl ?_))
    exact E_rt rfl ⟨by rw [if_pos hb], rfl⟩
  · have he : G 2 1 &&& wy a b = 0 := (and_way _ _ _).mpr (by simpa using hb)
    refine E_if rfl ((zl_cmp hlt).mpr he) ?_
    (repeat (first | refine E_st rfl ?_ | refine E_go rfl ?_))
    exact E_rt rfl ⟨by rw [if_neg hb], rfl⟩
theorem fwF_lt {tp : Nat} (hG : G 2 1 < 2 ^ 63) : ∀ k, fwF F G tp k < 2 ^ 63 := by
  intro k
  induction k with
  | zero => exact hG
  | succ k ih => exact Nat.lt_of_le_of_lt (an_le _ _) ih
theorem l_free {tp : Nat} (htp : tp = 3 ∨ tp = 4) (hK : F 2 2 ≤ 3) (ha : ∀ k, k < 3 → F 3 k < 6) (hb : ∀ k, k < 3 → F tp k < 6) : ∀ m k, k + m = F 2 2 →
    pq_Ev (d + 2) 60 8 [some (.ref 2), some (.ref tp), some (.long (lN (fwF F G tp k))), none, some (.int (nI k))] [] (pq_Sh L, pn F, pl G, pq_rt h) (fun r M' => r = some (.long (lN (fwF F G tp (F 2 2)))) ∧ M' = (pq_Sh L, pn (F), pl (G), pq_rt h)) := by
  intro m
  induction m with
  | zero =>
    intro k hk
    (repeat (first | refine E_st rfl ?_ | refine E_go rfl ?_))
    refine E_nif rfl (show ¬ nI k < nI (F 2 2) from nI_nlt (by omega) (by omega)) ?_
    (repeat (first | refine E_st rfl ?_ | refine E_go rfl ?_))
    refine E_rt rfl ⟨?_, rfl⟩
    rw [show k = F 2 2 by omega]
  | succ m ih =>
    intro k hk
    (repeat (first | refine E_st rfl ?_ | refine E_go rfl ?_))
    refine E_if rfl (show nI k < nI (F 2 2) from nI_lt (by omega) (by omega)) ?_
    (repeat (first | refine E_st rfl ?_ | refine E_go rfl ?_))
    refine E_ial rfl rfl (by omega) (by decide) ?_
    (repeat (first | refine E_st rfl ?_ | refine E_go rfl ?_))
    refine E_ial rfl (n := 3) (by rcases htp with e | e <;> subst e <;> rfl) (by omega) (by decide) ?_
    refine E_cx rfl (by omega) (c_closed (d := 0) (ha k (by omega)) (hb k (by omega))) ?_
    (iterate 6 (first | refine E_st rfl ?_ | refine E_go rfl ?_))
    rw [zl_not, nI_add]
    exact ih (k + 1) (by omega)
theorem c_freeWays {tp : Nat} (htp : tp = 3 ∨ tp = 4) (hK : F 2 2 ≤ 3) (ha : ∀ k, k < 3 → F 3 k < 6) (hb : ∀ k, k < 3 → F tp k < 6) : pq_Ca (d + 3) 60 [.ref 2, .ref tp] (pq_Sh L, pn F, pl G, pq_rt h) (fun r M' => r = some (.long (lN (fwF F G tp (F 2 2)))) ∧ M' = (pq_Sh L, pn (F), pl (G), pq_rt h)) := by
  refine Ca_mk rfl rfl ?_
  (iterate 5 (first | refine E_st rfl ?_ | refine E_go rfl ?_))
  exact l_free htp hK ha hb (F 2 2) 0 (by omega)
end STA
