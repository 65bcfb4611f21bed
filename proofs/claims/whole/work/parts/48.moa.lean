/-! the model: news, tell -/
def neV (P : Nat → Nat → Nat) (c : Nat) : Nat → Nat → Nat := lvM P (c + 2) (c + 9) (c + 12) 6 3
def neS (P : Nat → Nat → Nat) (c : Nat) : Nat → Nat → Nat := pq_u (neV P c) 64 c (P 64 c &&& stepM (neV P c) (P 64 (c + 8)) (P 64 (c - 15)))
def neM (F : Nat → Nat → Nat) (node i : Nat) : Nat → Nat → Nat → Nat
  | 0 => pq_u F 64 (24 + 15 * i) (1 <<< node)
  | k + 1 => neS (neM F node i k) (24 + 15 * (i + k + 1))
/-- bounds of the records -/
def rbOk (F : Nat → Nat → Nat) : Prop := ∀ r, 1 ≤ r → r < F 64 23 → F 64 (24 + 15 * r + 8) ≤ 3 ∧ ∀ k, k < 3 → F 64 (24 + 15 * r + 9 + k) < 8 ∧ F 64 (24 + 15 * r + 12 + k) < 8
section MOJ
variable {d L : Nat} {F G : Nat → Nat → Nat} {h : Nat → Nat}
theorem nv64 {c : Nat} (j : Nat) : neV F c 64 j = F 64 j := lv64 j
theorem ne_off {node i p j : Nat} (h1 : p < 67 ∨ 69 < p) (h2 : p = 64 → j < 24 ∨ ¬ (j - 24) % 15 = 0) : ∀ k, neM F node i k p j = F p j := by
  intro k
  induction k with
  | zero => unfold neM; rw [pu_at, if_neg (by omega)]
  | succ k ih =>
    unfold neM neS neV
    rw [pu_at, if_neg (by omega), lv_off h1]
    exact ih
theorem ne_lt {node i : Nat} (hn : node < 6) (hb : ∀ r, r < 8 → F 64 (24 + 15 * r) < 64 ∨ F 64 23 ≤ r) : ∀ k r, r < F 64 23 → r < 8 → neM F node i k 64 (24 + 15 * r) < 64 := by
  intro k
  induction k with
  | zero =>
    intro r hr hr8
    unfold neM
    rw [pu_at]
    split
    · rw [Nat.one_shiftLeft]; exact Nat.pow_lt_pow_right (by decide) hn
    · rcases hb r hr8 with z | z
      · exact z
      · omega
  | succ k ih =>
    intro r hr hr8
    unfold neM neS
    rw [pu_at]
    split
    · rename_i c
      have : r = i + k + 1 := by omega
      subst this
      exact Nat.lt_of_le_of_lt Nat.and_le_left (ih _ hr hr8)
    · rw [nv64]; exact ih r hr hr8
theorem l_newsB {P : FF} {c : Nat} (hc : c ≤ 129) {v1 v2 : Int32} {Q : Option Value → pq_M → Prop} (K : pq_Ev d 120 123 [some (.ref 63), some (.int v1), some (.int v2), some (.int (nI c)), some (.int (nI 3))] [] (pq_Sh L, pn (neV P c), pl G, pq_rt h) Q) : ∀ m b, b + m = 3 → pq_Ev d 120 73 [some (.ref 63), some (.int v1), some (.int v2), some (.int (nI c)), some (.int (nI b))] [] (pq_Sh L, pn (lvM P (c + 2) (c + 9) (c + 12) 6 b), pl G, pq_rt h) Q := by
  intro m
  induction m with
  | zero =>
    intro b hb
    have hb : b = 3 := by omega
    subst hb
    (repeat (first | refine E_st rfl ?_ | refine E_go rfl ?_))
    refine E_nif rfl (by decide) ?_
    exact K
  | succ m ih =>
    intro b hb
    (repeat (first | refine E_st rfl ?_ | refine E_go rfl ?_))
    refine E_if rfl (nI_lt (by omega) (by decide)) ?_
    (iterate 8 (first | refine E_st rfl ?_ | refine E_go rfl ?_))
    rw [nI_add]
    (iterate 2 (first | refine E_st rfl ?_ | refine E_go rfl ?_))
    rw [nI_add]
    refine E_ial rfl rfl (n := 144) (by omega) (by decide) ?_
    rw [lv64]
    refine E_ias rfl rfl (n := 3) (by omega) (by decide) (by decide) ?_
    (iterate 8 (first | refine E_st rfl ?_ | refine E_go rfl ?_))
    rw [nI_add]
    (iterate 2 (first | refine E_st rfl ?_ | refine E_go rfl ?_))
    rw [nI_add]
    refine E_ial rfl rfl (n := 144) (by omega) (by decide) ?_
    rw [pu_off (by decide), lv64]
    refine E_ias rfl rfl (n := 3) (by omega) (by decide) (by decide) ?_
    rw [lvM_s2]
    (iterate 2 (first | refine E_st rfl ?_ | refine E_go rfl ?_))
    rw [nI_add]
    exact ih (b + 1) (by omega)
theorem l_newsA {P : FF} {c : Nat} (hc : c ≤ 129) {v1 v2 : Int32} {Q : Option Value → pq_M → Prop} (K : pq_Ev d 120 123 [some (.ref 63), some (.int v1), some (.int v2), some (.int (nI c)), some (.int (nI 3))] [] (pq_Sh L, pn (neV P c), pl G, pq_rt h) Q) : ∀ m a, a + m = 6 → pq_Ev d 120 39 [some (.ref 63), some (.int v1), some (.int v2), some (.int (nI c)), some (.int (nI a))] [] (pq_Sh L, pn (lvM P (c + 2) (c + 9) (c + 12) a 0), pl G, pq_rt h) Q := by
  intro m
  induction m with
  | zero =>
    intro a ha
    have ha : a = 6 := by omega
    subst ha
    (repeat (first | refine E_st rfl ?_ | refine E_go rfl ?_))
    refine E_nif rfl (by decide) ?_
    (iterate 2 (first | refine E_st rfl ?_ | refine E_go rfl ?_))
    exact l_newsB hc K 3 0 rfl
  | succ m ih =>
    intro a ha
    (repeat (first | refine E_st rfl ?_ | refine E_go rfl ?_))
    refine E_if rfl (nI_lt (by omega) (by decide)) ?_
    (iterate 8 (first | refine E_st rfl ?_ | refine E_go rfl ?_))
    rw [nI_add]
    (iterate 2 (first | refine E_st rfl ?_ | refine E_go rfl ?_))
    rw [nI_add]
    refine E_ial rfl rfl (n := 144) (by omega) (by decide) ?_
    rw [lv64]
    refine E_ias rfl rfl (n := 6) (by omega) (by decide) (by decide) ?_
    rw [lvM_s1]
    (iterate 2 (first | refine E_st rfl ?_ | refine E_go rfl ?_))
    rw [nI_add]
    exact ih (a + 1) (by omega)
theorem l_news {node i : Nat} (hg : gOk F) (hr : rbOk F) (hn : node < 6) (hi : i < F 64 23) : ∀ m k (z : Option Value), (z = none ∨ ∃ x, z = some (.int x)) → i + k + m = F 64 23 - 1 → pq_Ev (d + 1) 120 28 [some (.ref 63), some (.int (nI (24 + 15 * i))), some (.int (nI node)), some (.int (nI (24 + 15 * (i + k + 1)))), z] [] (pq_Sh L, pn (neM F node i k), pl G, pq_rt h) (fun r M' => r = none ∧ M' = (pq_Sh L, pn (neM F node i (F 64 23 - 1 - i)), pl (G), pq_rt h)) := by
  obtain ⟨g0, g1, g2, g3, g4, g5, g6, g7, g8, g9, g10, g11, g12, g13, g14, g15, g16, g17, g18, g19⟩ := hg
  intro m
  induction m with
  | zero =>
    intro k z hz hk
    have e23 : neM F node i k 64 23 = F 64 23 := ne_off (by omega) (by omega) k
    have hl := g_last (d := d) (L := L) (F := neM F node i k) (G := G) (h := h) (by omega) (by omega)
    rw [e23] at hl
    (repeat (first | refine E_st rfl ?_ | refine E_go rfl ?_))
    refine E_cx rfl (by omega) hl ?_
    refine E_if rfl (nI_lt (by omega) (by omega)) ?_
    refine E_rt rfl ⟨rfl, ?_⟩
    rw [show k = F 64 23 - 1 - i by omega]
  | succ m ih =>
    intro k z hz hk
    have e23 : neM F node i k 64 23 = F 64 23 := ne_off (by omega) (by omega) k
    have e0 : neM F node i k 64 0 = F 64 0 := ne_off (by omega) (by omega) k
    have hl := g_last (d := d) (L := L) (F := neM F node i k) (G := G) (h := h) (by omega) (by omega)
    rw [e23] at hl
    obtain ⟨r8, rk⟩ := hr (i + k + 1) (by omega) (by omega)
    have hb := ne_lt (F := F) (node := node) (i := i) hn (fun r _ => if c : r < F 64 23 then Or.inl (g18 r c) else Or.inr (by omega)) k (i + k) (by omega) (by omega)
    have e8 : neM F node i k 64 (24 + 15 * (i + k + 1) + 8) = F 64 (24 + 15 * (i + k + 1) + 8) := ne_off (by omega) (by omega) k
    have hs := g_step (d := d) (L := L) (F := neV (neM F node i k) (24 + 15 * (i + k + 1))) (G := G) (h := h) (s := neM F node i k 64 (24 + 15 * (i + k))) (K := F 64 (24 + 15 * (i + k + 1) + 8)) hb (by rw [nv64, e0]; exact g1) r8
      (fun q hq => by unfold neV; rw [lv67 (by omega), ne_off (by omega) (by omega)]; exact (rk q (by omega)).1)
      (fun q hq => by unfold neV; rw [lv68 (by omega), ne_off (by omega) (by omega)]; exact (rk q (by omega)).2)
    have ih2 := ih (k + 1) (some (.int (nI 3))) (Or.inr ⟨_, rfl⟩) (by omega)
    have C : pq_Ev (d + 1) 120 123 [some (.ref 63), some (.int (nI (24 + 15 * i))), some (.int (nI node)), some (.int (nI (24 + 15 * (i + k + 1)))), some (.int (nI 3))] [] (pq_Sh L, pn (neV (neM F node i k) (24 + 15 * (i + k + 1))), pl G, pq_rt h) (fun r M' => r = none ∧ M' = (pq_Sh L, pn (neM F node i (F 64 23 - 1 - i)), pl (G), pq_rt h)) := by
      (iterate 4 (first | refine E_st rfl ?_ | refine E_go rfl ?_))
      refine E_ial rfl rfl (n := 144) (by omega) (by decide) ?_
      rw [nv64]
      (iterate 6 (first | refine E_st rfl ?_ | refine E_go rfl ?_))
      rw [zi_sub (by omega)]
      refine E_ial rfl rfl (n := 144) (by omega) (by decide) ?_
      rw [nv64]
      (iterate 5 (first | refine E_st rfl ?_ | refine E_go rfl ?_))
      rw [nI_add]
      refine E_ial rfl rfl (n := 144) (by omega) (by decide) ?_
      rw [nv64, e8, show 24 + 15 * (i + k + 1) - 15 = 24 + 15 * (i + k) by omega]
      refine E_cx rfl (by omega) hs ?_
      (iterate 1 (first | refine E_st rfl ?_ | refine E_go rfl ?_))
      rw [zi_and]
      refine E_ias rfl rfl (n := 144) (by omega) (by decide) (by decide) ?_
      (iterate 2 (first | refine E_st rfl ?_ | refine E_go rfl ?_))
      rw [nI_add, show 24 + 15 * (i + k + 1) + 15 = 24 + 15 * (i + (k + 1) + 1) by omega]
      have e : neM F node i (k + 1) = pq_u (neV (neM F node i k) (24 + 15 * (i + k + 1))) 64 (24 + 15 * (i + k + 1)) (neM F node i k 64 (24 + 15 * (i + k + 1)) &&& stepM (neV (neM F node i k) (24 + 15 * (i + k + 1))) (F 64 (24 + 15 * (i + k + 1) + 8)) (neM F node i k 64 (24 + 15 * (i + k)))) := by
        show neS _ _ = _
        unfold neS
        rw [e8, show 24 + 15 * (i + k + 1) - 15 = 24 + 15 * (i + k) by omega]
      rw [← e]
      exact ih2
    have A := l_newsA (by omega) C 6 0 rfl
    rw [lvM_0] at A
    (repeat (first | refine E_st rfl ?_ | refine E_go rfl ?_))
    refine E_cx rfl (by omega) hl ?_
    refine E_nif rfl (nI_nlt (by omega) (by omega)) ?_
    rcases hz with rfl | ⟨x, rfl⟩ <;> ((iterate 2 (first | refine E_st rfl ?_ | refine E_go rfl ?_)); exact A)
theorem g_news {node i : Nat} (hg : gOk F) (hr : rbOk F) (hn : node < 6) (hi : i < F 64 23) : pq_Ca (d + 2) 120 [.ref 63, .int (nI (24 + 15 * i)), .int (nI node)] (pq_Sh L, pn F, pl G, pq_rt h) (fun r M' => r = none ∧ M' = (pq_Sh L, pn (if (F 64 (24 + 15 * i)).testBit node then neM F node i (F 64 23 - 1 - i) else F), pl (G), pq_rt h)) := by
  have hl := l_news (d := d) (L := L) (G := G) (h := h) hg hr hn hi (F 64 23 - 1 - i) 0 none (Or.inl rfl) (by omega)
  obtain ⟨g0, g1, g2, g3, g4, g5, g6, g7, g8, g9, g10, g11, g12, g13, g14, g15, g16, g17, g18, g19⟩ := hg
  refine Ca_mk rfl rfl ?_
  (iterate 3 (first | refine E_st rfl ?_ | refine E_go rfl ?_))
  refine E_ial rfl rfl (n := 144) (by omega) (by decide) ?_
  (iterate 4 (first | refine E_st rfl ?_ | refine E_go rfl ?_))
  rw [zi_shr (Nat.lt_trans (g18 i hi) (by decide)) (by omega), zi_and, zb_and1]
  by_cases c : (F 64 (24 + 15 * i)).testBit node = true
  · rw [if_pos c, if_pos c]
    refine E_nif rfl (by decide) ?_
    (iterate 6 (first | refine E_st rfl ?_ | refine E_go rfl ?_))
    rw [zi_shl 1 (by omega)]
    refine E_ias rfl rfl (n := 144) (by omega) (by decide) (by decide) ?_
    (iterate 4 (first | refine E_st rfl ?_ | refine E_go rfl ?_))
    rw [nI_add]
    exact hl
  · rw [if_neg c, if_neg c]
    refine E_if rfl rfl ?_
    exact E_rt rfl ⟨rfl, rfl⟩
theorem rc_rb (hr : rbOk F) : rbOk (rcM F) := by
  intro r h1 h2
  rw [rc64] at h2
  simp only [rc64]
  exact hr r h1 h2
theorem g_tell0 {x y : Int32} (hg : gOk F) (hx : x < 0 ∨ nI (F 64 2) < x) : pq_Ca (d + 3) 119 [.ref 63, .int x, .int y] (pq_Sh L, pn F, pl G, pq_rt h) (fun r M' => r = some (.int (-1)) ∧ M' = (pq_Sh L, pn (F), pl (G), pq_rt h)) := by
  refine Ca_mk rfl rfl ?_
  (repeat (first | refine E_st rfl ?_ | refine E_go rfl ?_))
  simp +decide only [nI_clamp, pn_at, pu_n, pu_l]
  refine E_cx rfl (by omega) (g_in0 (d := 0) hx) ?_
  refine E_if rfl rfl ?_
  (repeat (first | refine E_st rfl ?_ | refine E_go rfl ?_))
  exact E_rt rfl ⟨rfl, rfl⟩
theorem g_tell1 {t : Nat} {y : Int32} (hg : gOk F) (ht : t ≤ F 64 2) (hy : y < 0 ∨ nI (F 64 0) ≤ y) : pq_Ca (d + 3) 119 [.ref 63, .int (nI t), .int y] (pq_Sh L, pn F, pl G, pq_rt h) (fun r M' => r = some (.int (-1)) ∧ M' = (pq_Sh L, pn (F), pl (G), pq_rt h)) := by
  have := hg.1
  have := hg.2.2.2.1
  refine Ca_mk rfl rfl ?_
  (repeat (first | refine E_st rfl ?_ | refine E_go rfl ?_))
  simp +decide only [nI_clamp, pn_at, pu_n, pu_l]
  refine E_cx rfl (by omega) (g_in1 (d := 0) (nI_le (Nat.zero_le t) (by omega)) (nI_le ht (by omega))) ?_
  refine E_nif rfl (by decide) ?_
  (repeat (first | refine E_st rfl ?_ | refine E_go rfl ?_))
  refine E_cx rfl (by omega) (g_isNode0 (d := 0) hy (by omega) hg.2.1) ?_
  refine E_if rfl rfl ?_
  (repeat (first | refine E_st rfl ?_ | refine E_go rfl ?_))
  exact E_rt rfl ⟨rfl, rfl⟩
theorem g_tell4 {t v : Nat} (hg : gOk F) (ht : t ≤ F 64 2) (hv : v < F 64 0) (hk : ¬ F 64 2 - t < F 64 23) : pq_Ca (d + 3) 119 [.ref 63, .int (nI t), .int (nI v)] (pq_Sh L, pn F, pl G, pq_rt h) (fun r M' => r = some (.int (-4)) ∧ M' = (pq_Sh L, pn (F), pl (G), pq_rt h)) := by
  have := hg.2.2.2.1
  refine Ca_mk rfl rfl ?_
  (repeat (first | refine E_st rfl ?_ | refine E_go rfl ?_))
  simp +decide only [nI_clamp, pn_at, pu_n, pu_l]
  refine E_cx rfl (by omega) (g_in1 (d := 0) (nI_le (Nat.zero_le t) (by omega)) (nI_le ht (by omega))) ?_
  refine E_nif rfl (by decide) ?_
  (repeat (first | refine E_st rfl ?_ | refine E_go rfl ?_))
  refine E_cx rfl (by omega) (g_isNode (d := 0) hv hg.2.1) ?_
  refine E_nif rfl (by decide) ?_
  (repeat (first | refine E_st rfl ?_ | refine E_go rfl ?_))
  refine E_cx rfl (by omega) (g_keptAt0 (d := 0) hg ht hk) ?_
  (repeat (first | refine E_st rfl ?_ | refine E_go rfl ?_))
  exact E_rt rfl ⟨rfl, rfl⟩
theorem g_tell2 {t v : Nat} (hg : gOk F) (ht : t ≤ F 64 2) (hv : v < F 64 0) (hk : F 64 2 - t < F 64 23) (hb : ¬ (F 64 (24 + 15 * (F 64 23 - 1 - (F 64 2 - t)))).testBit v = true) : pq_Ca (d + 3) 119 [.ref 63, .int (nI t), .int (nI v)] (pq_Sh L, pn F, pl G, pq_rt h) (fun r M' => r = some (.int (-2)) ∧ M' = (pq_Sh L, pn (F), pl (G), pq_rt h)) := by
  have hkp := g_keptAt (d := 0) (L := L) (G := G) (h := h) hg ht hk
  obtain ⟨g0, g1, g2, g3, g4, g5, g6, g7, g8, g9, g10, g11, g12, g13, g14, g15, g16, g17, g18, g19⟩ := hg
  refine Ca_mk rfl rfl ?_
  (repeat (first | refine E_st rfl ?_ | refine E_go rfl ?_))
  simp +decide only [nI_clamp, pn_at, pu_n, pu_l]
  refine E_cx rfl (by omega) (g_in1 (d := 0) (nI_le (Nat.zero_le t) (by omega)) (nI_le ht (by omega))) ?_
  refine E_nif rfl (by decide) ?_
  (repeat (first | refine E_st rfl ?_ | refine E_go rfl ?_))
  refine E_cx rfl (by omega) (g_isNode (d := 0) hv g1) ?_
  refine E_nif rfl (by decide) ?_
  (repeat (first | refine E_st rfl ?_ | refine E_go rfl ?_))
  refine E_cx rfl (by omega) hkp ?_
  (repeat (first | refine E_st rfl ?_ | refine E_go rfl ?_))
  refine E_nif rfl (by exact nI_nlt (Nat.zero_le _) (by omega)) ?_
  (iterate 3 (first | refine E_st rfl ?_ | refine E_go rfl ?_))
  refine E_ial rfl rfl (n := 144) (by omega) (by decide) ?_
  (iterate 4 (first | refine E_st rfl ?_ | refine E_go rfl ?_))
  rw [zi_shr (Nat.lt_trans (g18 (F 64 23 - 1 - (F 64 2 - t)) (by omega)) (by decide)) (by omega), zi_and, zb_and1, if_neg hb]
  refine E_if rfl rfl ?_
  (repeat (first | refine E_st rfl ?_ | refine E_go rfl ?_))
  exact E_rt rfl ⟨rfl, rfl⟩
theorem g_tell {t v i : Nat} (hg : gOk F) (hr : rbOk F) (ht : t ≤ F 64 2) (hv : v < F 64 0) (hk : F 64 2 - t < F 64 23) (hi : i = F 64 23 - 1 - (F 64 2 - t)) (hb : (F 64 (24 + 15 * i)).testBit v = true) : pq_Ca (d + 3) 119 [.ref 63, .int (nI t), .int (nI v)] (pq_Sh L, pn F, pl G, pq_rt h) (fun r M' => r = some (.int (nI (neM (rcM F) v i (F 64 23 - 1 - i) 64 (la F)))) ∧ M' = (pq_Sh L, pn (neM (rcM F) v i (F 64 23 - 1 - i)), pl (G), pq_rt h)) := by
  have hkp := g_keptAt (d := 0) (L := L) (G := G) (h := h) hg ht hk
  rw [← hi] at hkp
  have hg2 := rc_gOk hg
  have hnw := g_news (d := 0) (L := L) (F := rcM F) (G := G) (h := h) (node := v) (i := i) hg2 (rc_rb hr) (by have := hg.2.1; omega) (by rw [rc64]; omega)
  rw [rc64, if_pos hb, rc64] at hnw
  have e23 : neM (rcM F) v i (F 64 23 - 1 - i) 64 23 = F 64 23 := by rw [ne_off (by omega) (by omega), rc64]
  obtain ⟨g0, g1, g2, g3, g4, g5, g6, g7, g8, g9, g10, g11, g12, g13, g14, g15, g16, g17, g18, g19⟩ := hg
  have hbl := g_belief (d := 0) (L := L) (F := neM (rcM F) v i (F 64 23 - 1 - i)) (G := G) (h := h) (by omega) (by omega)
  rw [e23] at hbl
  refine Ca_mk rfl rfl ?_
  (repeat (first | refine E_st rfl ?_ | refine E_go rfl ?_))
  simp +decide only [nI_clamp, pn_at, pu_n, pu_l]
  refine E_cx rfl (by omega) (g_in1 (d := 0) (nI_le (Nat.zero_le t) (by omega)) (nI_le ht (by omega))) ?_
  refine E_nif rfl (by decide) ?_
  (repeat (first | refine E_st rfl ?_ | refine E_go rfl ?_))
  refine E_cx rfl (by omega) (g_isNode (d := 0) hv g1) ?_
  refine E_nif rfl (by decide) ?_
  (repeat (first | refine E_st rfl ?_ | refine E_go rfl ?_))
  refine E_cx rfl (by omega) hkp ?_
  (repeat (first | refine E_st rfl ?_ | refine E_go rfl ?_))
  refine E_nif rfl (by exact nI_nlt (Nat.zero_le _) (by omega)) ?_
  (iterate 3 (first | refine E_st rfl ?_ | refine E_go rfl ?_))
  refine E_ial rfl rfl (n := 144) (by omega) (by decide) ?_
  (iterate 4 (first | refine E_st rfl ?_ | refine E_go rfl ?_))
  rw [zi_shr (Nat.lt_trans (g18 i (by omega)) (by decide)) (by omega), zi_and, zb_and1, if_pos hb]
  refine E_nif rfl (by decide) ?_
  (repeat (first | refine E_st rfl ?_ | refine E_go rfl ?_))
  refine E_cx rfl (by omega) (g_records (d := 0) g19) ?_
  (repeat (first | refine E_st rfl ?_ | refine E_go rfl ?_))
  refine E_cx rfl (by omega) hnw ?_
  (repeat (first | refine E_st rfl ?_ | refine E_go rfl ?_))
  refine E_cx rfl (by omega) hbl ?_
  exact E_rt rfl ⟨rfl, rfl⟩
end MOJ
