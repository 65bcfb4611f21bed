section MOE
variable {d L : Nat} {F G : Nat → Nat → Nat} {h : Nat → Nat}
theorem nI_neg {m : Nat} (h1 : 2 ^ 31 ≤ m) (h2 : m < 2 ^ 32) : nI m < 0 := by
  rw [Int32.lt_iff_toInt_lt]
  have e : (nI m).toInt = (m : Int).bmod (2 ^ 32) := by
    simp [nI, Int32.toInt_ofNat']
  rw [e]
  show (m : Int).bmod (2 ^ 32) < 0
  rw [Int.bmod_def]
  omega
theorem zi_subneg {a b : Nat} (hab : a < b) (hb : b < 2 ^ 31) : nI a - nI b < 0 := by
  have e1 : nI (2 ^ 32 - (b - a)) + nI b = nI a := by
    rw [nI_add]
    rw [show 2 ^ 32 - (b - a) + b = 2 ^ 32 + a by omega]
    apply Int32.toBitVec_inj.1
    simp [nI]
  have e2 : nI a - nI b = nI (2 ^ 32 - (b - a)) := by
    rw [← e1]
    simp
  rw [e2]
  exact nI_neg (by omega) (by omega)
theorem g_keptAt {t : Nat} (hg : gOk F) (ht : t ≤ F 64 2) (hk : F 64 2 - t < F 64 23) : pq_Ca (d + 1) 118 [.ref 63, .int (nI t)] (pq_Sh L, pn F, pl G, pq_rt h) (fun r M' => r = some (.int (nI (24 + 15 * (F 64 23 - 1 - (F 64 2 - t))))) ∧ M' = (pq_Sh L, pn (F), pl (G), pq_rt h)) := by
  obtain ⟨g0, g1, g2, g3, g4, g5, g6, g7, g8, g9, g10, g11, g12, g13, g14, g15, g16, g17, g18, g19⟩ := hg
  refine Ca_mk rfl rfl ?_
  (repeat (first | refine E_st rfl ?_ | refine E_go rfl ?_))
  simp +decide only [nI_clamp, pn_at, pu_n, pu_l]
  rw [zi_sub (by omega), zi_sub ht, zi_sub (by omega)]
  refine E_nif rfl (by exact nI_nlt (Nat.zero_le _) (by omega)) ?_
  (repeat (first | refine E_st rfl ?_ | refine E_go rfl ?_))
  refine E_rt rfl ⟨?_, rfl⟩
  rw [zi_mul, nI_add]
theorem g_keptAt0 {t : Nat} (hg : gOk F) (ht : t ≤ F 64 2) (hk : ¬ F 64 2 - t < F 64 23) : pq_Ca (d + 1) 118 [.ref 63, .int (nI t)] (pq_Sh L, pn F, pl G, pq_rt h) (fun r M' => r = some (.int (-1)) ∧ M' = (pq_Sh L, pn (F), pl (G), pq_rt h)) := by
  obtain ⟨g0, g1, g2, g3, g4, g5, g6, g7, g8, g9, g10, g11, g12, g13, g14, g15, g16, g17, g18, g19⟩ := hg
  refine Ca_mk rfl rfl ?_
  (repeat (first | refine E_st rfl ?_ | refine E_go rfl ?_))
  simp +decide only [nI_clamp, pn_at, pu_n, pu_l]
  rw [zi_sub (by omega), zi_sub ht]
  refine E_if rfl (by exact zi_subneg (by omega) (by omega)) ?_
  (repeat (first | refine E_st rfl ?_ | refine E_go rfl ?_))
  exact E_rt rfl ⟨rfl, rfl⟩
theorem g_bafter0 {x : Int32} (hx : x < 0 ∨ nI (F 64 2) < x) : pq_Ca (d + 2) 117 [.ref 63, .int x] (pq_Sh L, pn F, pl G, pq_rt h) (fun r M' => r = some (.int (-1)) ∧ M' = (pq_Sh L, pn (F), pl (G), pq_rt h)) := by
  refine Ca_mk rfl rfl ?_
  (repeat (first | refine E_st rfl ?_ | refine E_go rfl ?_))
  simp +decide only [nI_clamp, pn_at, pu_n, pu_l]
  refine E_cx rfl (by omega) (g_in0 (d := 0) hx) ?_
  refine E_if rfl rfl ?_
  (repeat (first | refine E_st rfl ?_ | refine E_go rfl ?_))
  exact E_rt rfl ⟨rfl, rfl⟩
theorem g_bafter4 {t : Nat} (hg : gOk F) (ht : t ≤ F 64 2) (hk : ¬ F 64 2 - t < F 64 23) : pq_Ca (d + 2) 117 [.ref 63, .int (nI t)] (pq_Sh L, pn F, pl G, pq_rt h) (fun r M' => r = some (.int (-4)) ∧ M' = (pq_Sh L, pn (F), pl (G), pq_rt h)) := by
  have := hg.2.2.2.1
  refine Ca_mk rfl rfl ?_
  (repeat (first | refine E_st rfl ?_ | refine E_go rfl ?_))
  simp +decide only [nI_clamp, pn_at, pu_n, pu_l]
  refine E_cx rfl (by omega) (g_in1 (d := 0) (nI_le (Nat.zero_le t) (by omega)) (nI_le ht (by omega))) ?_
  refine E_nif rfl (by decide) ?_
  (repeat (first | refine E_st rfl ?_ | refine E_go rfl ?_))
  refine E_cx rfl (by omega) (g_keptAt0 (d := 0) hg ht hk) ?_
  (repeat (first | refine E_st rfl ?_ | refine E_go rfl ?_))
  exact E_rt rfl ⟨rfl, rfl⟩
theorem g_bafter {t : Nat} (hg : gOk F) (ht : t ≤ F 64 2) (hk : F 64 2 - t < F 64 23) : pq_Ca (d + 2) 117 [.ref 63, .int (nI t)] (pq_Sh L, pn F, pl G, pq_rt h) (fun r M' => r = some (.int (nI (F 64 (24 + 15 * (F 64 23 - 1 - (F 64 2 - t)))))) ∧ M' = (pq_Sh L, pn (F), pl (G), pq_rt h)) := by
  have h16 := hg.2.2.2.2.2.2.2.2.2.2.2.2.2.2.2.2.1
  have := hg.2.2.2.1
  refine Ca_mk rfl rfl ?_
  (repeat (first | refine E_st rfl ?_ | refine E_go rfl ?_))
  simp +decide only [nI_clamp, pn_at, pu_n, pu_l]
  refine E_cx rfl (by omega) (g_in1 (d := 0) (nI_le (Nat.zero_le t) (by omega)) (nI_le ht (by omega))) ?_
  refine E_nif rfl (by decide) ?_
  (repeat (first | refine E_st rfl ?_ | refine E_go rfl ?_))
  refine E_cx rfl (by omega) (g_keptAt (d := 0) hg ht hk) ?_
  (repeat (first | refine E_st rfl ?_ | refine E_go rfl ?_))
  refine E_nif rfl (by exact nI_nlt (Nat.zero_le _) (by omega)) ?_
  (repeat (first | refine E_st rfl ?_ | refine E_go rfl ?_))
  refine E_ial rfl rfl (n := 144) (by omega) (by decide) ?_
  exact E_rt rfl ⟨rfl, rfl⟩
theorem l_undo (hs : F 63 2 ≤ 4) : ∀ m k, k + m = 144 → pq_Ev d 126 22 [some (.ref 63), some (.int (nI k))] [] (pq_Sh L, pn (sh3 F (144 * F 63 2) k), pl G, pq_rt h) (fun r M' => r = some (.int (nI (F 63 2))) ∧ M' = (pq_Sh L, pn (sh3 F (144 * F 63 2) 144), pl (G), pq_rt h)) := by
  intro m
  induction m with
  | zero =>
    intro k hk
    have hk : k = 144 := by omega
    subst hk
    (repeat (first | refine E_st rfl ?_ | refine E_go rfl ?_))
    refine E_nif rfl (by decide) ?_
    (repeat (first | refine E_st rfl ?_ | refine E_go rfl ?_))
    simp +decide only [nI_clamp, pn_at, pu_n, pu_l]
    exact E_rt rfl ⟨rfl, rfl⟩
  | succ m ih =>
    intro k hk
    (repeat (first | refine E_st rfl ?_ | refine E_go rfl ?_))
    refine E_if rfl (nI_lt (by omega) (by decide)) ?_
    (iterate 9 (first | refine E_st rfl ?_ | refine E_go rfl ?_))
    simp +decide only [nI_clamp, pn_at, pu_n, pu_l]
    rw [show sh3 F (144 * F 63 2) k 63 2 = F 63 2 from rfl, zi_mul]
    (iterate 2 (first | refine E_st rfl ?_ | refine E_go rfl ?_))
    rw [nI_add]
    refine E_ial rfl rfl (n := 720) (by omega) (by decide) ?_
    rw [show sh3 F (144 * F 63 2) k 65 (144 * F 63 2 + k) = F 65 (144 * F 63 2 + k) from rfl]
    refine E_ias rfl rfl (n := 144) (by omega) (by decide) (by decide) ?_
    (iterate 2 (first | refine E_st rfl ?_ | refine E_go rfl ?_))
    rw [sh3_s, nI_add]
    exact ih (k + 1) (by omega)
def unM (F : Nat → Nat → Nat) : Nat → Nat → Nat := sh3 (pq_u F 63 2 (F 63 2 - 1)) (144 * (F 63 2 - 1)) 144
theorem g_undo (hs : F 63 2 ≤ 5) (h0 : 0 < F 63 2) : pq_Ca (d + 1) 126 [.ref 63] (pq_Sh L, pn F, pl G, pq_rt h) (fun r M' => r = some (.int (nI (F 63 2 - 1))) ∧ M' = (pq_Sh L, pn (unM F), pl (G), pq_rt h)) := by
  have := l_undo (d := d) (L := L) (F := pq_u F 63 2 (F 63 2 - 1)) (G := G) (h := h) (show F 63 2 - 1 ≤ 4 by omega) 144 0 rfl
  rw [sh3_0] at this
  refine Ca_mk rfl rfl ?_
  (repeat (first | refine E_st rfl ?_ | refine E_go rfl ?_))
  refine E_nif rfl (by rw [pn_at]; exact nI_ne0 (by omega) (by omega)) ?_
  (iterate 5 (first | refine E_st rfl ?_ | refine E_go rfl ?_))
  simp +decide only [nI_clamp, pn_at, pu_n, pu_l]
  rw [zi_sub (by omega)]
  (iterate 1 (first | refine E_st rfl ?_ | refine E_go rfl ?_))
  simp +decide only [nI_clamp, pn_at, pu_n, pu_l]
  (iterate 2 (first | refine E_st rfl ?_ | refine E_go rfl ?_))
  exact this
theorem g_undo0 (h0 : F 63 2 = 0) : pq_Ca (d + 1) 126 [.ref 63] (pq_Sh L, pn F, pl G, pq_rt h) (fun r M' => r = some (.int (-2)) ∧ M' = (pq_Sh L, pn (F), pl (G), pq_rt h)) := by
  refine Ca_mk rfl rfl ?_
  (repeat (first | refine E_st rfl ?_ | refine E_go rfl ?_))
  refine E_if rfl (by rw [pn_at, h0]; rfl) ?_
  (repeat (first | refine E_st rfl ?_ | refine E_go rfl ?_))
  exact E_rt rfl ⟨rfl, rfl⟩
end MOE
