section STB
variable {d L : Nat} {F G : Nat → Nat → Nat} {h : Nat → Nat}
theorem cuF_off {w : Nat} : ∀ (k p j : Nat), ¬ (p = 4 ∧ j < k) → cuF F w k p j = F p j := by
  intro k
  induction k with
  | zero => intro p j _; rfl
  | succ k ih =>
    intro p j hp
    simp only [cuF]
    split
    · exact ih p j (fun q => hp ⟨q.1, by omega⟩)
    · rw [pu_at, if_neg (fun q => hp ⟨q.1, by omega⟩)]; exact ih p j (fun q => hp ⟨q.1, by omega⟩)
theorem l_cut {a b : Nat} (hK : F 2 2 ≤ 3) (hG : G 2 1 < 2 ^ 63) (ha : ∀ k, k < 3 → F 3 k < 6) (hb : ∀ k, k < 3 → F 4 k < 6) (hev : F 8 0 = 0 ∨ (F 8 1 < 6 ∧ F 8 2 < 6)) (h80 : F 8 0 < 2 ^ 31) : ∀ m k, k + m = F 2 2 →
    pq_Ev (d + 2) 55 20 [some (.ref 2), some (.int (nI a)), some (.int (nI b)), some (.int (nI k))] [] (pq_Sh L, pn (cuF F (G 2 1) k), pl G, pq_rt h) (fun r M' => r = none ∧ M' = (pq_Sh L, pn (ctF F (G 2 1)), pl (G), pq_rt h)) := by
  intro m
  induction m with
  | zero =>
    intro k hk
    (repeat (first | refine E_st rfl ?_ | refine E_go rfl ?_))
    have e2 : pn (cuF F (G 2 1) k) 2 2 = nI (F 2 2) := by rw [pn_at, cuF_off _ _ _ (by omega)]
    refine E_nif rfl (by rw [e2]; exact nI_nlt (by omega) (by omega)) ?_
    have hkk : k = F 2 2 := by omega
    have e80 : pn (cuF F (G 2 1) k) 8 0 = nI (F 8 0) := by rw [pn_at, cuF_off _ _ _ (by omega)]
    have e81 : pn (cuF F (G 2 1) k) 8 1 = nI (F 8 1) := by rw [pn_at, cuF_off _ _ _ (by omega)]
    have e82 : pn (cuF F (G 2 1) k) 8 2 = nI (F 8 2) := by rw [pn_at, cuF_off _ _ _ (by omega)]
    (repeat (first | refine E_st rfl ?_ | refine E_go rfl ?_))
    refine E_br rfl (fun c => ?_) (fun c => ?_)
    · rw [e80] at c
      have c1 : F 8 0 = 0 := (nI_eq h80 (by decide)).mp c
      (repeat (first | refine E_st rfl ?_ | refine E_go rfl ?_))
      refine E_rt rfl ⟨rfl, ?_⟩
      unfold ctF; rw [if_pos (Or.inl c1), hkk]
    · rw [e80] at c
      have c1 : ¬ F 8 0 = 0 := fun q => c (by rw [q]; rfl)
      have hev2 : F 8 1 < 6 ∧ F 8 2 < 6 := hev.resolve_left c1
      (repeat (first | refine E_st rfl ?_ | refine E_go rfl ?_))
      rw [e81, e82]
      refine E_cx rfl (by omega) (c_joins (d := 0) hG (by omega)) ?_
      by_cases hj : (G 2 1).testBit (6 * F 8 1 + F 8 2) = true
      · simp only [if_pos hj]
        refine E_nif rfl (nI_ne0 (by decide) (by decide)) ?_
        refine E_rt rfl ⟨rfl, ?_⟩
        unfold ctF; rw [if_pos (Or.inr hj), hkk]
      · simp only [if_neg hj]
        refine E_if rfl rfl ?_
        (repeat (first | refine E_st rfl ?_ | refine E_go rfl ?_))
        rw [e81]
        simp only [pu_n, pu_l, pc_n, pc_l]
        refine E_rt rfl ⟨rfl, ?_⟩
        unfold ctF; rw [if_neg (fun q => q.elim c1 hj), hkk]
  | succ m ih =>
    intro k hk
    (repeat (first | refine E_st rfl ?_ | refine E_go rfl ?_))
    have e2 : pn (cuF F (G 2 1) k) 2 2 = nI (F 2 2) := by rw [pn_at, cuF_off _ _ _ (by omega)]
    have e3 : cuF F (G 2 1) k 3 k = F 3 k := cuF_off _ _ _ (by omega)
    have e4 : cuF F (G 2 1) k 4 k = F 4 k := cuF_off _ _ _ (by omega)
    refine E_if rfl (by rw [e2]; exact nI_lt (by omega) (by omega)) ?_
    (repeat (first | refine E_st rfl ?_ | refine E_go rfl ?_))
    refine E_ial rfl rfl (by omega) (by decide) ?_
    (repeat (first | refine E_st rfl ?_ | refine E_go rfl ?_))
    refine E_ial rfl rfl (by omega) (by decide) ?_
    rw [e3, e4]
    have h3 := ha k (by omega)
    have h4 := hb k (by omega)
    refine E_cx rfl (by omega) (c_joins (d := 0) hG (by omega)) ?_
    by_cases hj : (G 2 1).testBit (6 * F 3 k + F 4 k) = true
    · simp only [if_pos hj]
      refine E_nif rfl (nI_ne0 (by decide) (by decide)) ?_
      (iterate 2 (first | refine E_st rfl ?_ | refine E_go rfl ?_))
      rw [nI_add]
      have e : cuF F (G 2 1) (k + 1) = cuF F (G 2 1) k := by simp only [cuF, if_pos hj]
      rw [← e]
      exact ih (k + 1) (by omega)
    · simp only [if_neg hj]
      refine E_if rfl rfl ?_
      (repeat (first | refine E_st rfl ?_ | refine E_go rfl ?_))
      refine E_ial rfl rfl (by omega) (by decide) ?_
      rw [e3]
      refine E_ias rfl rfl (by omega) (by decide) (by decide) ?_
      (iterate 2 (first | refine E_st rfl ?_ | refine E_go rfl ?_))
      rw [nI_add]
      have e : cuF F (G 2 1) (k + 1) = pq_u (cuF F (G 2 1) k) 4 k (F 3 k) := by simp only [cuF, if_neg hj]
      rw [← e]
      exact ih (k + 1) (by omega)
theorem c_cut {a b : Nat} (ha6 : a < 6) (hb6 : b < 6) (hK : F 2 2 ≤ 3) (hG : G 2 1 < 2 ^ 63) (ha : ∀ k, k < 3 → F 3 k < 6) (hb : ∀ k, k < 3 → F 4 k < 6) (hev : F 8 0 = 0 ∨ (F 8 1 < 6 ∧ F 8 2 < 6)) (h80 : F 8 0 < 2 ^ 31) :
    pq_Ca (d + 3) 55 [.ref 2, .int (nI a), .int (nI b)] (pq_Sh L, pn F, pl G, pq_rt h) (fun r M' => r = none ∧ M' = (pq_Sh L, pn (ctF F (an (G 2 1) (wEdge a b))), pl (pq_u G 2 1 (an (G 2 1) (wEdge a b))), pq_rt h)) := by
  refine Ca_mk rfl rfl ?_
  (repeat (first | refine E_st rfl ?_ | refine E_go rfl ?_))
  refine E_cx rfl (by omega) (c_edge (d := 0) ha6 hb6) ?_
  (iterate 5 (first | refine E_st rfl ?_ | refine E_go rfl ?_))
  simp only [pl_at]
  rw [zl_not]
  simp only [pu_n, pu_l, pc_n, pc_l]
  (iterate 1 (first | refine E_st rfl ?_ | refine E_go rfl ?_))
  have e : pq_u G 2 1 (an (G 2 1) (wEdge a b)) 2 1 = an (G 2 1) (wEdge a b) := by simp [pu_at]
  have := l_cut (d := d) (L := L) (h := h) (F := F) (G := pq_u G 2 1 (an (G 2 1) (wEdge a b))) (a := a) (b := b) hK (by rw [e]; exact Nat.lt_of_le_of_lt (an_le _ _) hG) ha hb hev h80 (F 2 2) 0 (by omega)
  rw [e] at this
  exact this
theorem c_replaceEdges {w : Nat} (hK : F 2 2 ≤ 3) (ha : ∀ k, k < 3 → F 3 k < 32) (hn : F 2 0 ≤ 6) : pq_Ca (d + 4) 56 [.ref 2, .long (lN w)] (pq_Sh L, pn F, pl G, pq_rt h) (fun r M' => r = none ∧ M' = (pq_Sh L, pn (reF F), pl (pq_u G 2 1 (wStays (F 2 0) ||| w)), pq_rt h)) := by
  refine Ca_mk rfl rfl ?_
  (repeat (first | refine E_st rfl ?_ | refine E_go rfl ?_))
  refine E_cx rfl (by omega) (c_stays (d := 0) (n := F 2 0) hn) ?_
  (repeat (first | refine E_st rfl ?_ | refine E_go rfl ?_))
  rw [zl_or]
  simp only [pu_n, pu_l, pc_n, pc_l]
  have e0 : (nI 0).toNatClampNeg = 0 := nI_clamp (by decide)
  have e3 : (nI 3).toNatClampNeg = 3 := nI_clamp (by decide)
  rw [e0, e3]
  simp only [pn_at, pu_n]
  refine E_cx rfl (by omega) (c_forget (d := 0) hK ha hn) ?_
  exact E_rt rfl ⟨rfl, rfl⟩
theorem c_addSearcher {v : Nat} (hv : v < 6) (hK : F 2 2 < 3) (h80 : F 8 0 < 2 ^ 31) (h83 : F 8 3 < 2 ^ 31) (h81 : F 8 1 < 2 ^ 31) : pq_Ca (d + 4) 58 [.ref 2, .int (nI v)] (pq_Sh L, pn F, pl G, pq_rt h) (fun r M' => r = none ∧ M' = (pq_Sh L, pn (adF F v), pl (G), pq_rt h)) := by
  refine Ca_mk rfl rfl ?_
  (repeat (first | refine E_st rfl ?_ | refine E_go rfl ?_))
  refine E_ias rfl rfl (k := F 2 2) (by omega) (by decide) (by decide) ?_
  (repeat (first | refine E_st rfl ?_ | refine E_go rfl ?_))
  refine E_ias rfl rfl (k := F 2 2) (by omega) (by decide) (by decide) ?_
  (repeat (first | refine E_st rfl ?_ | refine E_go rfl ?_))
  simp +decide only [pn_at, pl_at, pu_n, pu_l, pc_n, pc_l, pu_at, nI_add, if_true, if_false, and_true, true_and, and_false, false_and, and_self]
  refine E_cx rfl (by omega) (c_leaveOut (d := 0) (by omega)) ?_
  (repeat (first | refine E_st rfl ?_ | refine E_go rfl ?_))
  have hF : (pq_u (pq_u (pq_u (pq_u F 3 (F 2 2) v) 4 (F 2 2) v) 2 2 (F 2 2 + 1)) 6 (pq_u (pq_u (pq_u F 3 (F 2 2) v) 4 (F 2 2) v) 2 2 (F 2 2 + 1) 5 2 % 8) (an (pq_u (pq_u (pq_u F 3 (F 2 2) v) 4 (F 2 2) v) 2 2 (F 2 2 + 1) 6 (pq_u (pq_u (pq_u F 3 (F 2 2) v) 4 (F 2 2) v) 2 2 (F 2 2 + 1) 5 2 % 8)) (1 <<< v))) = loF (pq_u (pq_u (pq_u F 3 (F 2 2) v) 4 (F 2 2) v) 2 2 (F 2 2 + 1)) v := rfl
  rw [hF]
  generalize hE : loF (pq_u (pq_u (pq_u F 3 (F 2 2) v) 4 (F 2 2) v) 2 2 (F 2 2 + 1)) v = E
  have e0 : E 8 0 = F 8 0 := by rw [← hE]; rfl
  have e1 : E 8 1 = F 8 1 := by rw [← hE]; rfl
  have e3 : E 8 3 = F 8 3 := by rw [← hE]; rfl
  have e5 : E 2 5 = F 2 5 := by rw [← hE]; rfl
  refine E_cx rfl (by omega) (c_isFree (d := 0) (by rw [e0]; exact h80) (by rw [e3]; exact h83)) ?_
  rw [e0, e3]
  by_cases hc : F 8 0 = 0 ∨ F 8 3 ≠ 0
  · rw [if_pos hc]
    refine E_if rfl rfl ?_
    refine E_rt rfl ⟨rfl, ?_⟩
    unfold adF; rw [if_pos (hc.elim Or.inl (fun q => Or.inr (Or.inl q))), hE]
  · rw [if_neg hc]
    refine E_nif rfl (nI_ne0 (by decide) (by decide)) ?_
    (repeat (first | refine E_st rfl ?_ | refine E_go rfl ?_))
    refine E_br rfl (fun c => ?_) (fun c => ?_)
    · have c1 : F 8 1 = v := by
        rw [pn_at, e1] at c; exact (nI_eq h81 (by omega)).mp c
      (repeat (first | refine E_st rfl ?_ | refine E_go rfl ?_))
      rw [pn_at, e5]
      refine E_cx rfl (by omega) (c_catchAt (d := 0)) ?_
      refine E_rt rfl ⟨rfl, ?_⟩
      unfold adF
      rw [if_neg (fun q => q.elim (fun q => hc (Or.inl q)) (fun q => q.elim (fun q => hc (Or.inr q)) (fun q => q c1))), hE]
    · have c1 : F 8 1 ≠ v := fun q => c (by rw [pn_at, e1, q])
      refine E_rt rfl ⟨rfl, ?_⟩
      unfold adF; rw [if_pos (Or.inr (Or.inr c1)), hE]
theorem c_makeTurn (hK : F 2 2 ≤ 3) (hG : G 2 1 < 2 ^ 63) (ha : ∀ k, k < 3 → F 3 k < 6) (hb : ∀ k, k < 3 → F 4 k < 6) (hF6 : ∀ i, i < 8 → F 6 i < 64) (hk : F 5 3 < 2 ^ 30) (hev : F 8 0 = 0 ∨ (F 8 1 < 6 ∧ F 8 2 < 6)) (h80 : F 8 0 < 2 ^ 31) (h83 : F 8 3 < 2 ^ 31) :
    pq_Ca (d + 5) 59 [.ref 2] (pq_Sh L, pn F, pl G, pq_rt h) (fun r M' => r = none ∧ M' = (pq_Sh L, pn (mtF F G (fwF F G 4 (F 2 2))), pl (pq_u G 7 ((F 5 2 + 1) % 8) (fwF F G 4 (F 2 2))), pq_rt h)) := by
  refine Ca_mk rfl rfl ?_
  (repeat (first | refine E_st rfl ?_ | refine E_go rfl ?_))
  refine E_cx rfl (by omega) (c_freeWays (d := 0) (Or.inr rfl) hK ha hb) ?_
  have hw := fwF_lt (F := F) (tp := 4) hG (F 2 2)
  generalize fwF F G 4 (F 2 2) = w at hw ⊢
  (repeat (first | refine E_st rfl ?_ | refine E_go rfl ?_))
  simp only [pn_at, nI_add, pu_n]
  refine E_cx rfl (by omega) (c_extend (d := 0) (F := pq_u F 2 5 (F 2 5 + 1)) (Nat.lt_trans hw (by decide)) hF6 hk) ?_
  have hEE : exF (pq_u F 2 5 (F 2 5 + 1)) G w = mtE F G w := rfl
  rw [hEE]
  have e0 : mtE F G w 8 0 = F 8 0 := rfl
  have e1 : mtE F G w 8 1 = F 8 1 := rfl
  have e2 : mtE F G w 8 2 = F 8 2 := rfl
  have e3 : mtE F G w 8 3 = F 8 3 := rfl
  have e5 : mtE F G w 2 5 = F 2 5 + 1 := rfl
  have z0 : (nI 0).toNatClampNeg = 0 := nI_clamp (by decide)
  have z3 : (nI 3).toNatClampNeg = 3 := nI_clamp (by decide)
  (repeat (first | refine E_st rfl ?_ | refine E_go rfl ?_))
  refine E_cx rfl (by omega) (c_isFree (d := 0) h80 h83) ?_
  rw [e0, e3]
  by_cases hc : F 8 0 = 0 ∨ F 8 3 ≠ 0
  · rw [if_pos hc]
    refine E_if rfl rfl ?_
    (repeat (first | refine E_st rfl ?_ | refine E_go rfl ?_))
    rw [z0, z3]
    simp only [pu_n, pu_l, pc_n, pc_l]
    refine E_rt rfl ⟨rfl, ?_⟩
    unfold mtF; rw [if_pos hc]; rfl
  · rw [if_neg hc]
    have hev2 : F 8 1 < 6 ∧ F 8 2 < 6 := hev.resolve_left (fun q => hc (Or.inl q))
    refine E_nif rfl (nI_ne0 (by decide) (by decide)) ?_
    (repeat (first | refine E_st rfl ?_ | refine E_go rfl ?_))
    rw [pn_at, e5]
    refine E_cx rfl (by omega) (c_go (d := 0) hw hev2.1 hev2.2) ?_
    rw [e1, e2]
    (repeat (first | refine E_st rfl ?_ | refine E_go rfl ?_))
    rw [z0, z3]
    simp only [pu_n, pu_l, pc_n, pc_l]
    refine E_rt rfl ⟨rfl, ?_⟩
    unfold mtF; rw [if_neg hc]; rfl
end STB
