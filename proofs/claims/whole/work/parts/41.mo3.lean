/-! the model: reset, put, leave, order, release, beliefAfter, undo -/
def la (F : Nat → Nat → Nat) : Nat := 24 + 15 * (F 64 23 - 1)
def ptM1 (F : Nat → Nat → Nat) (v : Nat) : Nat → Nat → Nat := pq_u (pq_u (pq_u F 64 (11 + F 64 1) v) 64 (14 + F 64 1) v) 64 1 (F 64 1 + 1)
def ptM2 (F : Nat → Nat → Nat) (v : Nat) : Nat → Nat → Nat := pq_u (ptM1 F v) 64 (la F) (an (F 64 (la F)) (1 <<< v))
def ptM (F : Nat → Nat → Nat) (v : Nat) : Nat → Nat → Nat := if F 64 17 = 1 ∧ F 64 20 = 0 ∧ F 64 18 = v then pq_u (pq_u (pq_u (ptM2 F v) 64 20 1) 64 21 (F 64 2)) 64 19 v else ptM2 F v
def nrM (F : Nat → Nat → Nat) (k : Nat) : Nat → Nat → Nat := fun p j => if p = 64 ∧ 5 ≤ j ∧ j < 5 + k then 0 else F p j
def rsM (F : Nat → Nat → Nat) (n : Nat) : Nat → Nat → Nat := pq_u (pq_u (pq_u (pq_u F 64 0 n) 64 1 0) 64 2 0) 64 17 0
section MOC
variable {d L : Nat} {F G : Nat → Nat → Nat} {h : Nat → Nat}
theorem rc_off {p j : Nat} (h1 : ¬ p = 65) (h2 : ¬ (p = 63 ∧ j = 2)) : rcM F p j = F p j := by
  unfold rcM
  rw [pu_at, if_neg h2]
  simp only [sh2]
  rw [if_neg (fun z => h1 z.1)]
  split
  · rw [pu_at, if_neg h2]
    simp only [sh1]
    rw [if_neg (fun z => h1 z.1)]
  · rfl
theorem rc64 (j : Nat) : rcM F 64 j = F 64 j := rc_off (by decide) (by omega)
theorem rc_2 (hs : F 63 2 ≤ 5) : rcM F 63 2 ≤ 5 := by
  unfold rcM
  rw [pu_at, if_pos ⟨rfl, rfl⟩]
  unfold rcK
  split <;> omega
theorem gOk_of {F' : FF} (hg : gOk F) (h1 : ∀ j, F' 64 j = F 64 j) (h2 : F' 63 2 ≤ 5) : gOk F' := by
  unfold gOk at hg ⊢
  simp only [h1]
  obtain ⟨g0, g1, g2, g3, g4, g5, g6, g7, g8, g9, g10, g11, g12, g13, g14, g15, g16, g17, g18, g19⟩ := hg
  exact ⟨g0, g1, g2, g3, g4, g5, g6, g7, g8, g9, g10, g11, g12, g13, g14, g15, g16, g17, g18, h2⟩
theorem rc_gOk (hg : gOk F) : gOk (rcM F) := gOk_of hg rc64 (rc_2 hg.2.2.2.2.2.2.2.2.2.2.2.2.2.2.2.2.2.2.2)
theorem g_leave0 (h0 : F 64 1 = 0) : pq_Ca (d + 2) 112 [.ref 63] (pq_Sh L, pn F, pl G, pq_rt h) (fun r M' => r = some (.int (-2)) ∧ M' = (pq_Sh L, pn (F), pl (G), pq_rt h)) := by
  refine Ca_mk rfl rfl ?_
  (repeat (first | refine E_st rfl ?_ | refine E_go rfl ?_))
  simp +decide only [nI_clamp, pn_at, pu_n, pu_l]
  refine E_if rfl (by rw [h0]; rfl) ?_
  (repeat (first | refine E_st rfl ?_ | refine E_go rfl ?_))
  exact E_rt rfl ⟨rfl, rfl⟩
theorem g_leave (hg : gOk F) (h0 : 0 < F 64 1) : pq_Ca (d + 2) 112 [.ref 63] (pq_Sh L, pn F, pl G, pq_rt h) (fun r M' => r = some (.int (nI (F 64 1 - 1))) ∧ M' = (pq_Sh L, pn (pq_u (rcM F) 64 1 (F 64 1 - 1)), pl (G), pq_rt h)) := by
  obtain ⟨g0, g1, g2, g3, g4, g5, g6, g7, g8, g9, g10, g11, g12, g13, g14, g15, g16, g17, g18, g19⟩ := hg
  refine Ca_mk rfl rfl ?_
  (repeat (first | refine E_st rfl ?_ | refine E_go rfl ?_))
  simp +decide only [nI_clamp, pn_at, pu_n, pu_l]
  refine E_nif rfl (nI_ne0 (by omega) (by omega)) ?_
  (repeat (first | refine E_st rfl ?_ | refine E_go rfl ?_))
  refine E_cx rfl (by omega) (g_records (d := 0) g19) ?_
  (iterate 7 (first | refine E_st rfl ?_ | refine E_go rfl ?_))
  simp +decide only [nI_clamp, pn_at, pu_n, pu_l]
  rw [rc64, zi_sub (by omega)]
  (repeat (first | refine E_st rfl ?_ | refine E_go rfl ?_))
  simp +decide only [nI_clamp, pn_at, pu_n, pu_l]
  exact E_rt rfl ⟨rfl, rfl⟩
theorem g_release (hg : gOk F) : pq_Ca (d + 3) 115 [.ref 63] (pq_Sh L, pn F, pl G, pq_rt h) (fun r M' => r = some (.int (nI (bgM (rcM F) 64 24))) ∧ M' = (pq_Sh L, pn (bgM (rcM F)), pl (G), pq_rt h)) := by
  have hg2 := rc_gOk hg
  obtain ⟨g0, g1, g2, g3, g4, g5, g6, g7, g8, g9, g10, g11, g12, g13, g14, g15, g16, g17, g18, g19⟩ := hg
  obtain ⟨r0, r1, r2, r3, r4, r5, r6, r7, r8, r9, r10, r11, r12, r13, r14, r15, r16, r17, r18, r19⟩ := hg2
  refine Ca_mk rfl rfl ?_
  (repeat (first | refine E_st rfl ?_ | refine E_go rfl ?_))
  refine E_cx rfl (by omega) (g_records (d := 0) g19) ?_
  (repeat (first | refine E_st rfl ?_ | refine E_go rfl ?_))
  refine E_cx rfl (by omega) (g_begins (d := 0) r1 r2 r7 r9) ?_
  (repeat (first | refine E_st rfl ?_ | refine E_go rfl ?_))
  simp +decide only [nI_clamp, pn_at, pu_n, pu_l]
  exact E_rt rfl ⟨rfl, rfl⟩
theorem g_order0 {x y : Int32} (hg : gOk F) (hx : x < 0 ∨ nI (F 64 1) ≤ x) : pq_Ca (d + 3) 113 [.ref 63, .int x, .int y] (pq_Sh L, pn F, pl G, pq_rt h) (fun r M' => r = some (.int (-1)) ∧ M' = (pq_Sh L, pn (F), pl (G), pq_rt h)) := by
  refine Ca_mk rfl rfl ?_
  (repeat (first | refine E_st rfl ?_ | refine E_go rfl ?_))
  refine E_cx rfl (by omega) (g_isSearcher0 (d := 0) hx hg.2.2.1) ?_
  refine E_if rfl rfl ?_
  (repeat (first | refine E_st rfl ?_ | refine E_go rfl ?_))
  exact E_rt rfl ⟨rfl, rfl⟩
theorem g_order1 {k : Nat} {y : Int32} (hg : gOk F) (hk : k < F 64 1) (hy : y < 0 ∨ nI (F 64 0) ≤ y) : pq_Ca (d + 3) 113 [.ref 63, .int (nI k), .int y] (pq_Sh L, pn F, pl G, pq_rt h) (fun r M' => r = some (.int (-1)) ∧ M' = (pq_Sh L, pn (F), pl (G), pq_rt h)) := by
  have := hg.1
  refine Ca_mk rfl rfl ?_
  (repeat (first | refine E_st rfl ?_ | refine E_go rfl ?_))
  refine E_cx rfl (by omega) (g_isSearcher (d := 0) hk hg.2.2.1) ?_
  refine E_nif rfl (by decide) ?_
  (repeat (first | refine E_st rfl ?_ | refine E_go rfl ?_))
  refine E_cx rfl (by omega) (g_isNode0 (d := 0) hy (by omega) hg.2.1) ?_
  refine E_if rfl rfl ?_
  (repeat (first | refine E_st rfl ?_ | refine E_go rfl ?_))
  exact E_rt rfl ⟨rfl, rfl⟩
/-- whether a way leads from a to b -/
def wayM (F : Nat → Nat → Nat) (a b : Nat) : Prop := a = b ∨ (F 64 (5 + a)).testBit b = true
theorem g_way1 {a b : Nat} (ha : a < 6) (hb : b < 8) (hn : F 64 (5 + a) < 64) (hw : wayM F a b) : pq_Ca (d + 1) 109 [.ref 63, .int (nI a), .int (nI b)] (pq_Sh L, pn F, pl G, pq_rt h) (fun r M' => r = some (.int (nI 1)) ∧ M' = (pq_Sh L, pn (F), pl (G), pq_rt h)) := by
  have := g_isWay (d := d) (L := L) (G := G) (h := h) ha hb (Nat.lt_trans hn (by decide))
  unfold wayM at hw
  rw [if_pos hw] at this
  exact this
theorem g_way0 {a b : Nat} (ha : a < 6) (hb : b < 8) (hn : F 64 (5 + a) < 64) (hw : ¬ wayM F a b) : pq_Ca (d + 1) 109 [.ref 63, .int (nI a), .int (nI b)] (pq_Sh L, pn F, pl G, pq_rt h) (fun r M' => r = some (.int (nI 0)) ∧ M' = (pq_Sh L, pn (F), pl (G), pq_rt h)) := by
  have := g_isWay (d := d) (L := L) (G := G) (h := h) ha hb (Nat.lt_trans hn (by decide))
  unfold wayM at hw
  rw [if_neg hw] at this
  exact this
theorem g_order2 {k v : Nat} (hg : gOk F) (hk : k < F 64 1) (hv : v < F 64 0) (hw : ¬ wayM F (F 64 (11 + k)) v) : pq_Ca (d + 3) 113 [.ref 63, .int (nI k), .int (nI v)] (pq_Sh L, pn F, pl G, pq_rt h) (fun r M' => r = some (.int (-2)) ∧ M' = (pq_Sh L, pn (F), pl (G), pq_rt h)) := by
  obtain ⟨g0, g1, g2, g3, g4, g5, g6, g7, g8, g9, g10, g11, g12, g13, g14, g15, g16, g17, g18, g19⟩ := hg
  have h7 := g7 k (by omega)
  refine Ca_mk rfl rfl ?_
  (repeat (first | refine E_st rfl ?_ | refine E_go rfl ?_))
  refine E_cx rfl (by omega) (g_isSearcher (d := 0) hk g2) ?_
  refine E_nif rfl (by decide) ?_
  (repeat (first | refine E_st rfl ?_ | refine E_go rfl ?_))
  refine E_cx rfl (by omega) (g_isNode (d := 0) hv g1) ?_
  refine E_nif rfl (by decide) ?_
  (iterate 6 (first | refine E_st rfl ?_ | refine E_go rfl ?_))
  rw [nI_add]
  refine E_ial rfl rfl (n := 144) (by omega) (by decide) ?_
  (repeat (first | refine E_st rfl ?_ | refine E_go rfl ?_))
  refine E_cx rfl (by omega) (g_way0 (d := 0) h7 (by omega) (g6 _ h7) hw) ?_
  refine E_if rfl rfl ?_
  (repeat (first | refine E_st rfl ?_ | refine E_go rfl ?_))
  exact E_rt rfl ⟨rfl, rfl⟩
theorem g_order {k v : Nat} (hg : gOk F) (hk : k < F 64 1) (hv : v < F 64 0) (hw : wayM F (F 64 (11 + k)) v) : pq_Ca (d + 3) 113 [.ref 63, .int (nI k), .int (nI v)] (pq_Sh L, pn F, pl G, pq_rt h) (fun r M' => r = some (.int (nI (F 64 (14 + k)))) ∧ M' = (pq_Sh L, pn (pq_u (rcM F) 64 (14 + k) v), pl (G), pq_rt h)) := by
  obtain ⟨g0, g1, g2, g3, g4, g5, g6, g7, g8, g9, g10, g11, g12, g13, g14, g15, g16, g17, g18, g19⟩ := hg
  have h7 := g7 k (by omega)
  refine Ca_mk rfl rfl ?_
  (repeat (first | refine E_st rfl ?_ | refine E_go rfl ?_))
  refine E_cx rfl (by omega) (g_isSearcher (d := 0) hk g2) ?_
  refine E_nif rfl (by decide) ?_
  (repeat (first | refine E_st rfl ?_ | refine E_go rfl ?_))
  refine E_cx rfl (by omega) (g_isNode (d := 0) hv g1) ?_
  refine E_nif rfl (by decide) ?_
  (iterate 6 (first | refine E_st rfl ?_ | refine E_go rfl ?_))
  rw [nI_add]
  refine E_ial rfl rfl (n := 144) (by omega) (by decide) ?_
  (repeat (first | refine E_st rfl ?_ | refine E_go rfl ?_))
  refine E_cx rfl (by omega) (g_way1 (d := 0) h7 (by omega) (g6 _ h7) hw) ?_
  refine E_nif rfl (by decide) ?_
  (repeat (first | refine E_st rfl ?_ | refine E_go rfl ?_))
  refine E_cx rfl (by omega) (g_records (d := 0) g19) ?_
  (iterate 5 (first | refine E_st rfl ?_ | refine E_go rfl ?_))
  rw [nI_add]
  refine E_ial rfl rfl (n := 144) (by omega) (by decide) ?_
  (iterate 7 (first | refine E_st rfl ?_ | refine E_go rfl ?_))
  rw [nI_add]
  refine E_ias rfl rfl (n := 144) (by omega) (by decide) (by decide) ?_
  (repeat (first | refine E_st rfl ?_ | refine E_go rfl ?_))
  rw [rc64]
  exact E_rt rfl ⟨rfl, rfl⟩
end MOC
