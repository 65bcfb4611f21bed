/-! the model: records, undo -/
def sh1 (F : Nat → Nat → Nat) (k : Nat) : Nat → Nat → Nat := fun p j => if p = 65 ∧ j < k then F 65 (j + 144) else F p j
def sh2 (F : Nat → Nat → Nat) (b k : Nat) : Nat → Nat → Nat := fun p j => if p = 65 ∧ b ≤ j ∧ j < b + k then F 64 (j - b) else F p j
def sh3 (F : Nat → Nat → Nat) (b k : Nat) : Nat → Nat → Nat := fun p j => if p = 64 ∧ j < k then F 65 (b + j) else F p j
def rcK (F : Nat → Nat → Nat) : Nat := if F 63 2 = 5 then 4 else F 63 2
def rcM (F : Nat → Nat → Nat) : Nat → Nat → Nat := pq_u (sh2 (if F 63 2 = 5 then pq_u (sh1 F 576) 63 2 4 else F) (144 * rcK F) 144) 63 2 (rcK F + 1)
section MOB
variable {d L : Nat} {F G : Nat → Nat → Nat} {h : Nat → Nat}
theorem sh1_s (k : Nat) : pq_u (sh1 F k) 65 k (F 65 (k + 144)) = sh1 F (k + 1) := by
  funext p j
  simp only [pu_at, sh1]
  by_cases c : p = 65 ∧ j = k
  · rw [if_pos c, if_pos ⟨c.1, by omega⟩, c.2]
  · rw [if_neg c]
    by_cases c2 : p = 65 ∧ j < k
    · rw [if_pos c2, if_pos ⟨c2.1, by omega⟩]
    · rw [if_neg c2, if_neg (by omega)]
theorem sh2_s (b k : Nat) : pq_u (sh2 F b k) 65 (b + k) (F 64 k) = sh2 F b (k + 1) := by
  funext p j
  simp only [pu_at, sh2]
  by_cases c : p = 65 ∧ j = b + k
  · rw [if_pos c, if_pos ⟨c.1, by omega, by omega⟩, c.2, show b + k - b = k by omega]
  · rw [if_neg c]
    by_cases c2 : p = 65 ∧ b ≤ j ∧ j < b + k
    · rw [if_pos c2, if_pos ⟨c2.1, by omega, by omega⟩]
    · rw [if_neg c2, if_neg (by omega)]
theorem sh3_s (b k : Nat) : pq_u (sh3 F b k) 64 k (F 65 (b + k)) = sh3 F b (k + 1) := by
  funext p j
  simp only [pu_at, sh3]
  by_cases c : p = 64 ∧ j = k
  · rw [if_pos c, if_pos ⟨c.1, by omega⟩, c.2]
  · rw [if_neg c]
    by_cases c2 : p = 64 ∧ j < k
    · rw [if_pos c2, if_pos ⟨c2.1, by omega⟩]
    · rw [if_neg c2, if_neg (by omega)]
theorem sh2_0 (b : Nat) : sh2 F b 0 = F := by
  funext p j
  simp only [sh2]
  rw [if_neg (by omega)]
theorem sh1_0 : sh1 F 0 = F := by
  funext p j
  simp only [sh1]
  rw [if_neg (by omega)]
theorem sh3_0 (b : Nat) : sh3 F b 0 = F := by
  funext p j
  simp only [sh3]
  rw [if_neg (by omega)]
theorem l_rec2 (hs : F 63 2 ≤ 4) : ∀ m k, k + m = 144 → pq_Ev d 105 51 [some (.ref 63), some (.int (nI k))] [] (pq_Sh L, pn (sh2 F (144 * F 63 2) k), pl G, pq_rt h) (fun r M' => r = none ∧ M' = (pq_Sh L, pn (pq_u (sh2 F (144 * F 63 2) 144) 63 2 (F 63 2 + 1)), pl (G), pq_rt h)) := by
  intro m
  induction m with
  | zero =>
    intro k hk
    have hk : k = 144 := by omega
    subst hk
    (repeat (first | refine E_st rfl ?_ | refine E_go rfl ?_))
    refine E_nif rfl (by decide) ?_
    (repeat (first | refine E_st rfl ?_ | refine E_go rfl ?_))
    simp +decide only [nI_clamp, pn_at, pu_n, pu_l]
    rw [show sh2 F (144 * F 63 2) 144 63 2 = F 63 2 from rfl, nI_add]
    simp +decide only [nI_clamp, pn_at, pu_n, pu_l]
    exact E_rt rfl ⟨rfl, rfl⟩
  | succ m ih =>
    intro k hk
    (repeat (first | refine E_st rfl ?_ | refine E_go rfl ?_))
    refine E_if rfl (nI_lt (by omega) (by decide)) ?_
    (iterate 8 (first | refine E_st rfl ?_ | refine E_go rfl ?_))
    simp +decide only [nI_clamp, pn_at, pu_n, pu_l]
    rw [show sh2 F (144 * F 63 2) k 63 2 = F 63 2 from rfl, zi_mul, nI_add]
    (iterate 3 (first | refine E_st rfl ?_ | refine E_go rfl ?_))
    refine E_ial rfl rfl (n := 144) (by omega) (by decide) ?_
    rw [show sh2 F (144 * F 63 2) k 64 k = F 64 k from rfl]
    refine E_ias rfl rfl (n := 720) (by omega) (by decide) (by decide) ?_
    (iterate 2 (first | refine E_st rfl ?_ | refine E_go rfl ?_))
    rw [sh2_s, nI_add]
    exact ih (k + 1) (by omega)
theorem l_rec1 (hs : F 63 2 = 5) : ∀ m k, k + m = 576 → pq_Ev d 105 10 [some (.ref 63), some (.int (nI k))] [] (pq_Sh L, pn (sh1 F k), pl G, pq_rt h) (fun r M' => r = none ∧ M' = (pq_Sh L, pn (rcM F), pl (G), pq_rt h)) := by
  intro m
  induction m with
  | zero =>
    intro k hk
    have hk : k = 576 := by omega
    subst hk
    (repeat (first | refine E_st rfl ?_ | refine E_go rfl ?_))
    refine E_nif rfl (by decide) ?_
    (iterate 8 (first | refine E_st rfl ?_ | refine E_go rfl ?_))
    simp +decide only [nI_clamp, pn_at, pu_n, pu_l]
    rw [show sh1 F 576 63 2 = F 63 2 from rfl, hs, show nI 5 - nI 1 = nI 4 by decide]
    simp +decide only [nI_clamp, pn_at, pu_n, pu_l]
    have := l_rec2 (d := d) (L := L) (G := G) (h := h) (F := pq_u (sh1 F 576) 63 2 4) (show 4 ≤ 4 from Nat.le_refl _) 144 0 rfl
    rw [sh2_0] at this
    have e : rcM F = pq_u (sh2 (pq_u (sh1 F 576) 63 2 4) (144 * 4) 144) 63 2 (4 + 1) := by unfold rcM rcK; rw [if_pos hs, if_pos hs]
    rw [e]
    exact this
  | succ m ih =>
    intro k hk
    (repeat (first | refine E_st rfl ?_ | refine E_go rfl ?_))
    refine E_if rfl (nI_lt (by omega) (by decide)) ?_
    (iterate 8 (first | refine E_st rfl ?_ | refine E_go rfl ?_))
    rw [nI_add]
    refine E_ial rfl rfl (n := 720) (by omega) (by decide) ?_
    rw [show sh1 F k 65 (k + 144) = F 65 (k + 144) by simp only [sh1]; rw [if_neg (by omega)]]
    refine E_ias rfl rfl (n := 720) (by omega) (by decide) (by decide) ?_
    (iterate 2 (first | refine E_st rfl ?_ | refine E_go rfl ?_))
    rw [sh1_s, nI_add]
    exact ih (k + 1) (by omega)
theorem g_records (hs : F 63 2 ≤ 5) : pq_Ca (d + 1) 105 [.ref 63] (pq_Sh L, pn F, pl G, pq_rt h) (fun r M' => r = none ∧ M' = (pq_Sh L, pn (rcM F), pl (G), pq_rt h)) := by
  refine Ca_mk rfl rfl ?_
  (repeat (first | refine E_st rfl ?_ | refine E_go rfl ?_))
  by_cases c : F 63 2 = 5
  · refine E_if rfl (by rw [pn_at, c]) ?_
    (iterate 2 (first | refine E_st rfl ?_ | refine E_go rfl ?_))
    have := l_rec1 (d := d) (L := L) (G := G) (h := h) c 576 0 rfl
    rw [sh1_0] at this
    exact this
  · refine E_nif rfl (fun z => c ((zi_eq (by omega) (by decide)).mp z)) ?_
    (iterate 2 (first | refine E_st rfl ?_ | refine E_go rfl ?_))
    have := l_rec2 (d := d) (L := L) (G := G) (h := h) (F := F) (by omega) 144 0 rfl
    rw [sh2_0] at this
    have e : rcM F = pq_u (sh2 F (144 * F 63 2) 144) 63 2 (F 63 2 + 1) := by unfold rcM rcK; rw [if_neg c, if_neg c]
    rw [e]
    exact this
end MOB
