/-! the model: hide, count, reset -/
def hdM1 (F : Nat → Nat → Nat) (v : Nat) : Nat → Nat → Nat := pq_u (pq_u (pq_u (pq_u (pq_u (pq_u F 64 17 1) 64 18 v) 64 19 v) 64 20 0) 64 21 0) 64 22 (F 64 2)
def hdM (F : Nat → Nat → Nat) (v : Nat) : Nat → Nat → Nat := pq_u (hdM1 F v) 64 (la F + 1) v
def cnM (F : Nat → Nat → Nat) : Nat → Nat
  | 0 => F 64 0
  | 1 => edM F 36
  | 2 => F 64 1
  | 3 => F 64 2
  | 4 => F 64 23
  | 5 => F 64 3
  | 6 => F 64 4
  | _ => F 63 2
section MOG
variable {d L : Nat} {F G : Nat → Nat → Nat} {h : Nat → Nat}
theorem l_hide {v : Nat} (hv : v < 6) (hK : F 64 1 ≤ 3) (ha : ∀ k, k < 3 → F 64 (11 + k) < 6) (hne : ∀ k, k < F 64 1 → ¬ F 64 (11 + k) = v) {Q : Option Value → pq_M → Prop} (K : pq_Ev d 131 44 [some (.ref 63), some (.int (nI v)), some (.int (nI (F 64 1)))] [] (pq_Sh L, pn F, pl G, pq_rt h) Q) : ∀ m k, k + m = F 64 1 → pq_Ev d 131 12 [some (.ref 63), some (.int (nI v)), some (.int (nI k))] [] (pq_Sh L, pn F, pl G, pq_rt h) Q := by
  intro m
  induction m with
  | zero =>
    intro k hk
    have hk : k = F 64 1 := by omega
    subst hk
    (repeat (first | refine E_st rfl ?_ | refine E_go rfl ?_))
    simp +decide only [nI_clamp, pn_at, pu_n, pu_l]
    refine E_nif rfl (nI_nlt (Nat.le_refl _) (by omega)) ?_
    exact K
  | succ m ih =>
    intro k hk
    (repeat (first | refine E_st rfl ?_ | refine E_go rfl ?_))
    simp +decide only [nI_clamp, pn_at, pu_n, pu_l]
    refine E_if rfl (nI_lt (by omega) (by omega)) ?_
    (iterate 5 (first | refine E_st rfl ?_ | refine E_go rfl ?_))
    rw [nI_add]
    refine E_ial rfl rfl (n := 144) (by omega) (by decide) ?_
    (repeat (first | refine E_st rfl ?_ | refine E_go rfl ?_))
    have h1 := ha k (by omega)
    refine E_nif rfl (fun z => hne k (by omega) ((zi_eq (by omega) (by omega)).mp z)) ?_
    (iterate 2 (first | refine E_st rfl ?_ | refine E_go rfl ?_))
    rw [nI_add]
    exact ih (k + 1) (by omega)
theorem l_hide2 {v : Nat} (hv : v < 6) (hK : F 64 1 ≤ 3) (ha : ∀ k, k < 3 → F 64 (11 + k) < 6) : ∀ m k, k + m = F 64 1 → (∃ k', k ≤ k' ∧ k' < F 64 1 ∧ F 64 (11 + k') = v) → pq_Ev d 131 12 [some (.ref 63), some (.int (nI v)), some (.int (nI k))] [] (pq_Sh L, pn F, pl G, pq_rt h) (fun r M' => r = some (.int (-2)) ∧ M' = (pq_Sh L, pn (F), pl (G), pq_rt h)) := by
  intro m
  induction m with
  | zero =>
    intro k hk ⟨k', h1, h2, h3⟩
    omega
  | succ m ih =>
    intro k hk ⟨k', h1, h2, h3⟩
    (repeat (first | refine E_st rfl ?_ | refine E_go rfl ?_))
    simp +decide only [nI_clamp, pn_at, pu_n, pu_l]
    refine E_if rfl (nI_lt (by omega) (by omega)) ?_
    (iterate 5 (first | refine E_st rfl ?_ | refine E_go rfl ?_))
    rw [nI_add]
    refine E_ial rfl rfl (n := 144) (by omega) (by decide) ?_
    (repeat (first | refine E_st rfl ?_ | refine E_go rfl ?_))
    have h4 := ha k (by omega)
    by_cases c : F 64 (11 + k) = v
    · refine E_if rfl (by rw [c]) ?_
      (repeat (first | refine E_st rfl ?_ | refine E_go rfl ?_))
      exact E_rt rfl ⟨rfl, rfl⟩
    · refine E_nif rfl (fun z => c ((zi_eq (by omega) (by omega)).mp z)) ?_
      (iterate 2 (first | refine E_st rfl ?_ | refine E_go rfl ?_))
      rw [nI_add]
      refine ih (k + 1) (by omega) ⟨k', ?_, h2, h3⟩
      by_cases e : k = k'
      · subst e; exact absurd h3 c
      · omega
theorem g_hide0 {x : Int32} (hg : gOk F) (hx : x < 0 ∨ nI (F 64 0) ≤ x) : pq_Ca (d + 3) 131 [.ref 63, .int x] (pq_Sh L, pn F, pl G, pq_rt h) (fun r M' => r = some (.int (-1)) ∧ M' = (pq_Sh L, pn (F), pl (G), pq_rt h)) := by
  have := hg.1
  refine Ca_mk rfl rfl ?_
  (repeat (first | refine E_st rfl ?_ | refine E_go rfl ?_))
  refine E_cx rfl (by omega) (g_isNode0 (d := 0) hx (by omega) hg.2.1) ?_
  refine E_if rfl rfl ?_
  (repeat (first | refine E_st rfl ?_ | refine E_go rfl ?_))
  exact E_rt rfl ⟨rfl, rfl⟩
theorem g_hide2 {v : Nat} (hg : gOk F) (hv : v < F 64 0) (he : ∃ k, k < F 64 1 ∧ F 64 (11 + k) = v) : pq_Ca (d + 3) 131 [.ref 63, .int (nI v)] (pq_Sh L, pn F, pl G, pq_rt h) (fun r M' => r = some (.int (-2)) ∧ M' = (pq_Sh L, pn (F), pl (G), pq_rt h)) := by
  obtain ⟨g0, g1, g2, g3, g4, g5, g6, g7, g8, g9, g10, g11, g12, g13, g14, g15, g16, g17, g18, g19⟩ := hg
  obtain ⟨k, hk, he⟩ := he
  refine Ca_mk rfl rfl ?_
  (repeat (first | refine E_st rfl ?_ | refine E_go rfl ?_))
  refine E_cx rfl (by omega) (g_isNode (d := 0) hv g1) ?_
  refine E_nif rfl (by decide) ?_
  (iterate 2 (first | refine E_st rfl ?_ | refine E_go rfl ?_))
  exact l_hide2 (by omega) g2 g7 (F 64 1) 0 (by omega) ⟨k, Nat.zero_le _, hk, he⟩
theorem g_hideA {v : Nat} (hg : gOk F) (hv : v < F 64 0) {z : Option Value} : pq_Ev (d + 1) 131 48 [some (.ref 63), some (.int (nI v)), z] [] (pq_Sh L, pn F, pl G, pq_rt h) (fun r M' => r = some (.int (nI (if (F 64 (la F)).testBit v then 1 else 0))) ∧ M' = (pq_Sh L, pn (hdM F v), pl (G), pq_rt h)) := by
  obtain ⟨g0, g1, g2, g3, g4, g5, g6, g7, g8, g9, g10, g11, g12, g13, g14, g15, g16, g17, g18, g19⟩ := hg
  have e2 : hdM F v 64 23 = F 64 23 := by
    unfold hdM la
    rw [pu_at, if_neg (by omega)]
    rfl
  have e3 : hdM F v 64 (24 + 15 * (F 64 23 - 1)) = F 64 (la F) := by
    unfold hdM la hdM1
    rw [pu_at, if_neg (by omega), pu_at, if_neg (by omega), pu_at, if_neg (by omega), pu_at, if_neg (by omega), pu_at, if_neg (by omega), pu_at, if_neg (by omega), pu_at, if_neg (by omega)]
  have hl1 := g_last (d := 0) (L := L) (F := hdM1 F v) (G := G) (h := h) (show 1 ≤ F 64 23 from g15) (show F 64 23 ≤ 8 from g16)
  have hl2 := g_last (d := 0) (L := L) (F := hdM F v) (G := G) (h := h) (by omega) (by omega)
  rw [e2] at hl2
  rw [show hdM1 F v 64 23 = F 64 23 from rfl] at hl1
  (repeat (first | refine E_st rfl ?_ | refine E_go rfl ?_))
  simp +decide only [nI_clamp, pn_at, pu_n, pu_l]
  rw [show pq_u (pq_u (pq_u (pq_u (pq_u F 64 17 1) 64 18 v) 64 19 v) 64 20 0) 64 21 0 64 2 = F 64 2 from rfl]
  refine E_cx rfl (by omega) hl1 ?_
  (iterate 2 (first | refine E_st rfl ?_ | refine E_go rfl ?_))
  rw [nI_add]
  (iterate 1 (first | refine E_st rfl ?_ | refine E_go rfl ?_))
  refine E_ias rfl rfl (n := 144) (by omega) (by decide) (by decide) ?_
  rw [show pq_u (hdM1 F v) 64 (24 + 15 * (F 64 23 - 1) + 1) v = hdM F v from rfl]
  (repeat (first | refine E_st rfl ?_ | refine E_go rfl ?_))
  refine E_cx rfl (by omega) hl2 ?_
  refine E_ial rfl rfl (n := 144) (by omega) (by decide) ?_
  rw [e3]
  (repeat (first | refine E_st rfl ?_ | refine E_go rfl ?_))
  refine E_rt rfl ⟨?_, rfl⟩
  have h18 := g18 (F 64 23 - 1) (by omega)
  rw [zi_shr (show F 64 (la F) < 2 ^ 31 from Nat.lt_trans h18 (by decide)) (by omega), zi_and, zb_and1]
theorem g_hide {v : Nat} (hg : gOk F) (hv : v < F 64 0) (hne : ∀ k, k < F 64 1 → ¬ F 64 (11 + k) = v) : pq_Ca (d + 3) 131 [.ref 63, .int (nI v)] (pq_Sh L, pn F, pl G, pq_rt h) (fun r M' => r = some (.int (nI (if (F 64 (la F)).testBit v then 1 else 0))) ∧ M' = (pq_Sh L, pn (hdM (rcM F) v), pl (G), pq_rt h)) := by
  have hg2 := rc_gOk hg
  have hA := g_hideA (d := d + 1) (L := L) (G := G) (h := h) (F := rcM F) (z := some (.int (nI (F 64 1)))) hg2 (by rw [rc64]; exact hv)
  rw [show la (rcM F) = la F by unfold la; rw [rc64], rc64] at hA
  obtain ⟨g0, g1, g2, g3, g4, g5, g6, g7, g8, g9, g10, g11, g12, g13, g14, g15, g16, g17, g18, g19⟩ := hg
  refine Ca_mk rfl rfl ?_
  (repeat (first | refine E_st rfl ?_ | refine E_go rfl ?_))
  refine E_cx rfl (by omega) (g_isNode (d := 0) hv g1) ?_
  refine E_nif rfl (by decide) ?_
  (iterate 2 (first | refine E_st rfl ?_ | refine E_go rfl ?_))
  refine l_hide (by omega) g2 g7 hne ?_ (F 64 1) 0 (by omega)
  (repeat (first | refine E_st rfl ?_ | refine E_go rfl ?_))
  refine E_cx rfl (by omega) (g_records (d := 0) g19) ?_
  exact hA
theorem g_count {k : Nat} (hg : gOk F) (hk : k < 8) : pq_Ca (d + 2) 127 [.ref 63, .int (nI k)] (pq_Sh L, pn F, pl G, pq_rt h) (fun r M' => r = some (.int (nI (cnM F k))) ∧ M' = (pq_Sh L, pn (F), pl (G), pq_rt h)) := by
  refine Ca_mk rfl rfl ?_
  (repeat (first | refine E_st rfl ?_ | refine E_go rfl ?_))
  rcases (show k = 0 ∨ k = 1 ∨ k = 2 ∨ k = 3 ∨ k = 4 ∨ k = 5 ∨ k = 6 ∨ k = 7 by omega) with rfl | rfl | rfl | rfl | rfl | rfl | rfl | rfl
  case inr.inl =>
    refine E_st0 rfl ?_
    (repeat (first | refine E_st rfl ?_ | refine E_go rfl ?_))
    refine E_cx rfl (by omega) (g_edges (d := 0) hg) ?_
    exact E_rt rfl ⟨rfl, rfl⟩
  all_goals
    refine E_st0 rfl ?_
    (repeat (first | refine E_st rfl ?_ | refine E_go rfl ?_))
    exact E_rt rfl ⟨rfl, rfl⟩
theorem g_count0 {x : Int32} (hx : x < 0 ∨ nI 8 ≤ x) : pq_Ca (d + 1) 127 [.ref 63, .int x] (pq_Sh L, pn F, pl G, pq_rt h) (fun r M' => r = some (.int (-1)) ∧ M' = (pq_Sh L, pn (F), pl (G), pq_rt h)) := by
  refine Ca_mk rfl rfl ?_
  (repeat (first | refine E_st rfl ?_ | refine E_go rfl ?_))
  refine E_swo rfl ?_ ?_
  · rcases hx with q | q
    · exact Or.inl (Int32.lt_iff_toInt_lt.mp q)
    · have := Int32.le_iff_toInt_le.mp q
      rw [nI_toInt (by decide)] at this
      right; omega
  · (repeat (first | refine E_st rfl ?_ | refine E_go rfl ?_))
    exact E_rt rfl ⟨rfl, rfl⟩
theorem g_reset0 {x : Int32} (hx : x < 2 ∨ 6 < x) : pq_Ca (d + 2) 103 [.ref 63, .int x] (pq_Sh L, pn F, pl G, pq_rt h) (fun r M' => r = some (.int (-1)) ∧ M' = (pq_Sh L, pn (F), pl (G), pq_rt h)) := by
  refine Ca_mk rfl rfl ?_
  (repeat (first | refine E_st rfl ?_ | refine E_go rfl ?_))
  refine E_cx rfl (by omega) (g_in0 (d := 0) hx) ?_
  refine E_if rfl rfl ?_
  (repeat (first | refine E_st rfl ?_ | refine E_go rfl ?_))
  exact E_rt rfl ⟨rfl, rfl⟩
theorem nrM_s (k : Nat) : pq_u (nrM F k) 64 (5 + k) 0 = nrM F (k + 1) := by
  funext p j
  simp only [pu_at, nrM]
  by_cases c : p = 64 ∧ j = 5 + k
  · rw [if_pos c, if_pos ⟨c.1, by omega, by omega⟩]
  · rw [if_neg c]
    by_cases c2 : p = 64 ∧ 5 ≤ j ∧ j < 5 + k
    · rw [if_pos c2, if_pos ⟨c2.1, by omega, by omega⟩]
    · rw [if_neg c2, if_neg (by omega)]
theorem nrM_0 : nrM F 0 = F := by
  funext p j
  simp only [nrM]
  rw [if_neg (by omega)]
theorem l_reset {v w : Int32} {Q : Option Value → pq_M → Prop} (K : pq_Ev d 103 75 [some (.ref 63), some (.int v), some (.int w), some (.int (nI 6))] [] (pq_Sh L, pn (nrM F 6), pl G, pq_rt h) Q) : ∀ m k, k + m = 6 → pq_Ev d 103 54 [some (.ref 63), some (.int v), some (.int w), some (.int (nI k))] [] (pq_Sh L, pn (nrM F k), pl G, pq_rt h) Q := by
  intro m
  induction m with
  | zero =>
    intro k hk
    have hk : k = 6 := by omega
    subst hk
    (repeat (first | refine E_st rfl ?_ | refine E_go rfl ?_))
    refine E_nif rfl (by decide) ?_
    exact K
  | succ m ih =>
    intro k hk
    (repeat (first | refine E_st rfl ?_ | refine E_go rfl ?_))
    refine E_if rfl (nI_lt (by omega) (by decide)) ?_
    (iterate 5 (first | refine E_st rfl ?_ | refine E_go rfl ?_))
    rw [nI_add]
    (iterate 1 (first | refine E_st rfl ?_ | refine E_go rfl ?_))
    refine E_ias rfl rfl (n := 144) (by omega) (by decide) (by decide) ?_
    (iterate 2 (first | refine E_st rfl ?_ | refine E_go rfl ?_))
    rw [nrM_s, nI_add]
    exact ih (k + 1) (by omega)
theorem g_reset {n : Nat} (hg : gOk F) (h2 : 2 ≤ n) (h6 : n ≤ 6) : pq_Ca (d + 3) 103 [.ref 63, .int (nI n)] (pq_Sh L, pn F, pl G, pq_rt h) (fun r M' => r = some (.int (nI (F 64 0))) ∧ M' = (pq_Sh L, pn (bgM (nrM (rsM (rcM F) n) 6)), pl (G), pq_rt h)) := by
  have hg2 := rc_gOk hg
  obtain ⟨g0, g1, g2, g3, g4, g5, g6, g7, g8, g9, g10, g11, g12, g13, g14, g15, g16, g17, g18, g19⟩ := hg
  obtain ⟨r0, r1, r2, r3, r4, r5, r6, r7, r8, r9, r10, r11, r12, r13, r14, r15, r16, r17, r18, r19⟩ := hg2
  have hb := g_begins (d := 0) (L := L) (F := nrM (rsM (rcM F) n) 6) (G := G) (h := h) (show n ≤ 6 from h6) (show 0 ≤ 3 by omega) (fun k hk => by
    rw [show nrM (rsM (rcM F) n) 6 64 (11 + k) = rcM F 64 (11 + k) by
      simp only [nrM]; rw [if_neg (by omega)]; unfold rsM; rw [pu_at, if_neg (by omega), pu_at, if_neg (by omega), pu_at, if_neg (by omega), pu_at, if_neg (by omega)]]
    exact r7 k hk) (show 0 ≤ 1 by omega)
  refine Ca_mk rfl rfl ?_
  (repeat (first | refine E_st rfl ?_ | refine E_go rfl ?_))
  refine E_cx rfl (by omega) (g_in1 (d := 0) (nI_le (a := 2) h2 (by omega)) (nI_le (b := 6) h6 (by decide))) ?_
  refine E_nif rfl (by decide) ?_
  (repeat (first | refine E_st rfl ?_ | refine E_go rfl ?_))
  refine E_cx rfl (by omega) (g_records (d := 0) g19) ?_
  (iterate 27 (first | refine E_st rfl ?_ | refine E_go rfl ?_))
  simp +decide only [nI_clamp, pn_at, pu_n, pu_l]
  rw [rc64]
  have hl := l_reset (d := d + 2) (L := L) (F := rsM (rcM F) n) (G := G) (h := h) (v := nI n) (w := nI (F 64 0)) (Q := fun r M' => r = some (.int (nI (F 64 0))) ∧ M' = (pq_Sh L, pn (bgM (nrM (rsM (rcM F) n) 6)), pl G, pq_rt h)) ?_ 6 0 rfl
  · rw [nrM_0] at hl
    exact hl
  · (repeat (first | refine E_st rfl ?_ | refine E_go rfl ?_))
    refine E_cx rfl (by omega) hb ?_
    (repeat (first | refine E_st rfl ?_ | refine E_go rfl ?_))
    exact E_rt rfl ⟨rfl, rfl⟩
end MOG
