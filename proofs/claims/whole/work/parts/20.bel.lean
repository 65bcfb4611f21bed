/-! Beliefs (of the present state): places 5, 6, 7 -/
theorem z8 (t : Nat) : nI t &&& nI 7 = nI (t % 8) := by rw [zi_and, show (7 : Nat) = 2 ^ 3 - 1 from rfl, Nat.and_two_pow_sub_one_eq_mod]
section BEL
variable {d L : Nat} {F G : Nat → Nat → Nat} {h : Nat → Nat}
theorem c_slot {M : pq_M} {t : Nat} : pq_Ca (d + 1) 12 [.int (nI t)] M (fun r M' => r = some (.int (nI (t % 8))) ∧ M' = M) := by
  refine Ca_mk rfl rfl ?_
  (repeat (first | refine E_st rfl ?_ | refine E_go rfl ?_))
  exact E_rt rfl ⟨by rw [z8], rfl⟩
theorem c_makeAnew {t s : Nat} : pq_Ca (d + 2) 11 [.ref 5, .int (nI t), .int (nI s)] (pq_Sh L, pn F, pl G, pq_rt h) (fun r M' => r = none ∧ M' = (pq_Sh L, pn (pq_u (pq_u (pq_u F 5 2 t) 5 3 1) 6 (t % 8) s), pl (G), pq_rt h)) := by
  refine Ca_mk rfl rfl ?_
  (repeat (first | refine E_st rfl ?_ | refine E_go rfl ?_))
  refine E_cx rfl (Nat.le_refl _) c_slot ?_
  (repeat (first | refine E_st rfl ?_ | refine E_go rfl ?_))
  simp only [pu_n, pu_l, pc_n, pc_l]
  refine E_ias rfl rfl (by omega) (by decide) (by decide) ?_
  exact E_rt rfl ⟨rfl, rfl⟩
theorem c_leaveOut {v : Nat} (hv : v < 32) : pq_Ca (d + 2) 14 [.ref 5, .int (nI v)] (pq_Sh L, pn F, pl G, pq_rt h) (fun r M' => r = none ∧ M' = (pq_Sh L, pn (pq_u F 6 (F 5 2 % 8) (an (F 6 (F 5 2 % 8)) (1 <<< v))), pl (G), pq_rt h)) := by
  refine Ca_mk rfl rfl ?_
  (repeat (first | refine E_st rfl ?_ | refine E_go rfl ?_))
  refine E_cx rfl (Nat.le_refl _) (c_slot (t := F 5 2)) ?_
  (repeat (first | refine E_st rfl ?_ | refine E_go rfl ?_))
  refine E_ial rfl rfl (by omega) (by decide) ?_
  (repeat (first | refine E_st rfl ?_ | refine E_go rfl ?_))
  rw [zi_shl _ hv, zi_not]
  refine E_ias rfl rfl (by omega) (by decide) (by decide) ?_
  exact E_rt rfl ⟨rfl, rfl⟩
theorem c_after {t : Nat} : pq_Ca (d + 2) 15 [.ref 5, .int (nI t)] (pq_Sh L, pn F, pl G, pq_rt h) (fun r M' => r = some (.int (nI (F 6 (t % 8)))) ∧ M' = (pq_Sh L, pn (F), pl (G), pq_rt h)) := by
  refine Ca_mk rfl rfl ?_
  (repeat (first | refine E_st rfl ?_ | refine E_go rfl ?_))
  refine E_cx rfl (Nat.le_refl _) c_slot ?_
  refine E_ial rfl rfl (by omega) (by decide) ?_
  exact E_rt rfl ⟨rfl, rfl⟩
theorem c_keeps {t : Nat} (h1 : F 5 3 ≤ F 5 2 + 1) (h2 : F 5 2 < 2 ^ 20) (h3 : t < 2 ^ 20) : pq_Ca (d + 1) 16 [.ref 5, .int (nI t)] (pq_Sh L, pn F, pl G, pq_rt h) (fun r M' => r = some (.int (nI (if t ≤ F 5 2 ∧ F 5 2 < t + F 5 3 then 1 else 0))) ∧ M' = (pq_Sh L, pn (F), pl (G), pq_rt h)) := by
  refine Ca_mk rfl rfl ?_
  (repeat (first | refine E_st rfl ?_ | refine E_go rfl ?_))
  refine E_br rfl (fun c => ?_) (fun c => ?_)
  · have c1 : F 5 2 < t := (nI_ltI (by omega) (by omega)).mp c
    (repeat (first | refine E_st rfl ?_ | refine E_go rfl ?_))
    refine E_rt rfl ⟨?_, rfl⟩
    rw [if_neg (by omega)]
  · have c1 : ¬ F 5 2 < t := fun q => c ((nI_ltI (by omega) (by omega)).mpr q)
    (repeat (first | refine E_st rfl ?_ | refine E_go rfl ?_))
    have key : (pn F 5 2 - pn F 5 3 < nI t) ↔ F 5 2 < t + F 5 3 := by
      simp only [pn_at]
      by_cases hle : F 5 3 ≤ F 5 2
      · rw [pk_sub hle, nI_ltI (by omega) (by omega)]; omega
      · have e : F 5 3 = F 5 2 + 1 := by omega
        rw [e]
        refine ⟨fun _ => by omega, fun _ => ?_⟩
        have : nI (F 5 2) - nI (F 5 2 + 1) < 0 := pk_sneg (by omega) (by omega)
        exact Int32.lt_of_lt_of_le this (nI_pos' (by omega))
    refine E_br rfl (fun c2 => ?_) (fun c2 => ?_)
    · (repeat (first | refine E_st rfl ?_ | refine E_go rfl ?_))
      refine E_rt rfl ⟨?_, rfl⟩
      rw [if_pos ⟨(by omega), key.mp c2⟩]
    · (repeat (first | refine E_st rfl ?_ | refine E_go rfl ?_))
      refine E_rt rfl ⟨?_, rfl⟩
      rw [if_neg (fun q => c2 (key.mpr q.2))]
def nwF (F G : Nat → Nat → Nat) (t node : Nat) : Nat → Nat → Nat → Nat
  | 0 => pq_u F 6 (t % 8) (1 <<< node)
  | k + 1 => pq_u (nwF F G t node k) 6 ((t + k + 1) % 8) (nwF F G t node k 6 ((t + k + 1) % 8) &&& wSpread (G 7 ((t + k + 1) % 8)) (nwF F G t node k 6 ((t + k) % 8)))
theorem nwF_off (t node : Nat) : ∀ (k p j : Nat), ¬ p = 6 → nwF F G t node k p j = F p j := by
  intro k
  induction k with
  | zero => intro p j hp; simp only [nwF, pu_at]; rw [if_neg (fun q => hp q.1)]
  | succ k ih => intro p j hp; simp only [nwF, pu_at]; rw [if_neg (fun q => hp q.1)]; exact ih p j hp
theorem nwF_lt {t node : Nat} (hn : node < 6) (hF : ∀ i, i < 8 → F 6 i < 64) : ∀ k i, i < 8 → nwF F G t node k 6 i < 64 := by
  intro k
  induction k with
  | zero =>
    intro i hi
    simp only [nwF, pu_at]
    split
    · rw [Nat.one_shiftLeft]; exact Nat.pow_lt_pow_right (by decide) hn
    · exact hF i hi
  | succ k ih =>
    intro i hi
    simp only [nwF, pu_at]
    split
    · exact Nat.lt_of_le_of_lt Nat.and_le_left (ih _ (Nat.mod_lt _ (by decide)))
    · exact ih i hi
theorem l_narrow {t node : Nat} (hn : node < 6) (hF : ∀ i, i < 8 → F 6 i < 64) (hG : ∀ i, i < 8 → G 7 i < 2 ^ 64) (hl : F 5 2 < 2 ^ 20) : ∀ m k, t + k + m = F 5 2 →
    pq_Ev (d + 3) 17 29 [some (.ref 5), some (.int (nI t)), some (.int (nI node)), some (.int (nI (t + k + 1)))] [] (pq_Sh L, pn (nwF F G t node k), pl G, pq_rt h) (fun r M' => r = none ∧ M' = (pq_Sh L, pn (nwF F G t node (F 5 2 - t)), pl (G), pq_rt h)) := by
  intro m
  induction m with
  | zero =>
    intro k hk
    (repeat (first | refine E_st rfl ?_ | refine E_go rfl ?_))
    refine E_if rfl (show pn (nwF F G t node k) 5 2 < nI (t + k + 1) from ?_) ?_
    · rw [pn_at, nwF_off _ _ _ _ _ (by decide)]; exact nI_lt (by omega) (by omega)
    · refine E_rt rfl ⟨rfl, ?_⟩
      rw [show k = F 5 2 - t by omega]
  | succ m ih =>
    intro k hk
    (repeat (first | refine E_st rfl ?_ | refine E_go rfl ?_))
    refine E_nif rfl (show ¬ pn (nwF F G t node k) 5 2 < nI (t + k + 1) from ?_) ?_
    · rw [pn_at, nwF_off _ _ _ _ _ (by decide)]; exact nI_nlt (by omega) (by omega)
    (repeat (first | refine E_st rfl ?_ | refine E_go rfl ?_))
    refine E_cx rfl (by omega) (c_slot (d := 0)) ?_
    (repeat (first | refine E_st rfl ?_ | refine E_go rfl ?_))
    refine E_ial rfl rfl (by omega) (by decide) ?_
    (repeat (first | refine E_st rfl ?_ | refine E_go rfl ?_))
    refine E_cx rfl (by omega) (c_slot (d := 0)) ?_
    refine E_lal rfl rfl (by omega) (by decide) ?_
    (repeat (first | refine E_st rfl ?_ | refine E_go rfl ?_))
    rw [show nI (t + k + 1) - nI 1 = nI (t + k) from pk_sub (by omega)]
    refine E_cx rfl (by omega) (c_after (d := 0)) ?_
    refine E_cx rfl (by omega) (c_spread (d := 0) (hG _ (by omega)) (Nat.lt_trans (nwF_lt hn hF k _ (by omega)) (by decide))) ?_
    (iterate 1 (first | refine E_st rfl ?_ | refine E_go rfl ?_))
    rw [zi_and]
    refine E_ias rfl rfl (by omega) (by decide) (by decide) ?_
    (iterate 2 (first | refine E_st rfl ?_ | refine E_go rfl ?_))
    rw [nI_add]
    exact ih (k + 1) (by omega)
theorem c_narrow {t node : Nat} (ht : t ≤ F 5 2) (hn : node < 6) (hF : ∀ i, i < 8 → F 6 i < 64) (hG : ∀ i, i < 8 → G 7 i < 2 ^ 64) (hl : F 5 2 < 2 ^ 20) :
    pq_Ca (d + 4) 17 [.ref 5, .int (nI t), .int (nI node)] (pq_Sh L, pn F, pl G, pq_rt h) (fun r M' => r = none ∧ M' = (pq_Sh L, pn (if (F 6 (t % 8)).testBit node then nwF F G t node (F 5 2 - t) else F), pl (G), pq_rt h)) := by
  refine Ca_mk rfl rfl ?_
  (repeat (first | refine E_st rfl ?_ | refine E_go rfl ?_))
  refine E_cx rfl (by omega) (c_after (d := 0)) ?_
  (repeat (first | refine E_st rfl ?_ | refine E_go rfl ?_))
  refine E_cx rfl (by omega) (c_contains (d := 0) (Nat.lt_trans (hF _ (by omega)) (by decide)) (by omega)) ?_
  by_cases hb : (F 6 (t % 8)).testBit node = true
  · simp only [if_pos hb]
    refine E_nif rfl (nI_ne0 (by decide) (by decide)) ?_
    (repeat (first | refine E_st rfl ?_ | refine E_go rfl ?_))
    refine E_cx rfl (by omega) (c_slot (d := 0)) ?_
    (repeat (first | refine E_st rfl ?_ | refine E_go rfl ?_))
    rw [zi_shl _ (by omega)]
    refine E_ias rfl rfl (by omega) (by decide) (by decide) ?_
    (iterate 4 (first | refine E_st rfl ?_ | refine E_go rfl ?_))
    rw [nI_add]
    exact l_narrow hn hF hG hl (F 5 2 - t) 0 (by omega)
  · simp only [if_neg hb]
    refine E_if rfl rfl ?_
    exact E_rt rfl ⟨rfl, rfl⟩
def exF (F G : Nat → Nat → Nat) (w : Nat) : Nat → Nat → Nat := pq_u (pq_u (pq_u F 5 2 (F 5 2 + 1)) 5 3 (if 8 < F 5 3 + 1 then 8 else F 5 3 + 1)) 6 ((F 5 2 + 1) % 8) (wSpread w (F 6 (F 5 2 % 8)))
theorem c_extend {w : Nat} (hw : w < 2 ^ 64) (hF : ∀ i, i < 8 → F 6 i < 64) (hk : F 5 3 < 2 ^ 30) : pq_Ca (d + 4) 18 [.ref 5, .long (lN w)] (pq_Sh L, pn F, pl G, pq_rt h) (fun r M' => r = none ∧ M' = (pq_Sh L, pn (exF F G w), pl (pq_u G 7 ((F 5 2 + 1) % 8) w), pq_rt h)) := by
  refine Ca_mk rfl rfl ?_
  (repeat (first | refine E_st rfl ?_ | refine E_go rfl ?_))
  refine E_cx rfl (by omega) (c_after (d := 0) (t := F 5 2)) ?_
  refine E_cx rfl (by omega) (c_spread (d := 0) hw (Nat.lt_trans (hF _ (by omega)) (by decide))) ?_
  (repeat (first | refine E_st rfl ?_ | refine E_go rfl ?_))
  have e1 : (if nI 8 < nI (F 5 3 + 1) then nI 8 else nI (F 5 3 + 1)) = nI (if 8 < F 5 3 + 1 then 8 else F 5 3 + 1) := by
    by_cases hc : 8 < F 5 3 + 1
    · rw [if_pos hc, if_pos (nI_lt hc (by omega))]
    · rw [if_neg hc, if_neg (nI_nlt (by omega) (by decide))]
  simp +decide only [pn_at, pl_at, pu_n, pu_l, pc_n, pc_l, pu_at, nI_add, if_true, if_false, and_true, true_and, and_false, false_and, and_self]
  rw [e1]
  simp +decide only [pn_at, pl_at, pu_n, pu_l, pc_n, pc_l, pu_at, nI_add, if_true, if_false, and_true, true_and, and_false, false_and, and_self]
  refine E_cx rfl (by omega) (c_slot (d := 0)) ?_
  (repeat (first | refine E_st rfl ?_ | refine E_go rfl ?_))
  refine E_ias rfl rfl (by omega) (by decide) (by decide) ?_
  (repeat (first | refine E_st rfl ?_ | refine E_go rfl ?_))
  simp +decide only [pn_at, pl_at, pu_n, pu_l, pc_n, pc_l, pu_at, nI_add, if_true, if_false, and_true, true_and, and_false, false_and, and_self]
  refine E_cx rfl (by omega) (c_slot (d := 0)) ?_
  (repeat (first | refine E_st rfl ?_ | refine E_go rfl ?_))
  refine E_las rfl rfl (by omega) (by decide) (by decide) ?_
  exact E_rt rfl ⟨rfl, rfl⟩
end BEL
