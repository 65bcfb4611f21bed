/-! the model: joins, link -/
def jnM1 (F : Nat → Nat → Nat) (a b s : Nat) : Nat → Nat → Nat := pq_u F 64 (5 + a) (an (F 64 (5 + a)) (1 <<< b) ||| s <<< b)
def jnM (F : Nat → Nat → Nat) (a b s : Nat) : Nat → Nat → Nat := pq_u (jnM1 F a b s) 64 (5 + b) (an (jnM1 F a b s 64 (5 + b)) (1 <<< a) ||| s <<< a)
def coM (F : Nat → Nat → Nat) : Nat → Nat → Nat → Nat
  | 0 => F
  | k + 1 => if F 64 (11 + k) = F 64 (14 + k) ∨ (F 64 (5 + F 64 (11 + k))).testBit (F 64 (14 + k)) = true then coM F k else pq_u (coM F k) 64 (14 + k) (F 64 (11 + k))
def lkE (F : Nat → Nat → Nat) : Nat → Nat → Nat := if F 64 17 = 1 ∧ ¬ (F 64 18 = F 64 19 ∨ (F 64 (5 + F 64 18)).testBit (F 64 19) = true) then pq_u F 64 19 (F 64 18) else F
def lkM (F : Nat → Nat → Nat) (a b s : Nat) : Nat → Nat → Nat := lkE (coM (jnM F a b s) (F 64 1))
theorem pu_same {F : FF} (p k : Nat) : pq_u F p k (F p k) = F := by
  funext q j
  rw [pu_at]
  split
  · rename_i c; rw [c.1, c.2]
  · rfl
section MOH
variable {d L : Nat} {F G : Nat → Nat → Nat} {h : Nat → Nat}
theorem g_joins {a b s : Nat} (ha : a < 6) (hb : b < 6) : pq_Ca (d + 1) 108 [.ref 63, .int (nI a), .int (nI b), .int (nI s)] (pq_Sh L, pn F, pl G, pq_rt h) (fun r M' => r = none ∧ M' = (pq_Sh L, pn (jnM F a b s), pl (G), pq_rt h)) := by
  refine Ca_mk rfl rfl ?_
  (iterate 5 (first | refine E_st rfl ?_ | refine E_go rfl ?_))
  rw [nI_add]
  (iterate 5 (first | refine E_st rfl ?_ | refine E_go rfl ?_))
  rw [nI_add]
  refine E_ial rfl rfl (n := 144) (by omega) (by decide) ?_
  (iterate 6 (first | refine E_st rfl ?_ | refine E_go rfl ?_))
  rw [zi_shl 1 (by omega), zi_not]
  (iterate 4 (first | refine E_st rfl ?_ | refine E_go rfl ?_))
  rw [zi_shl s (by omega), zi_or]
  refine E_ias rfl rfl (n := 144) (by omega) (by decide) (by decide) ?_
  rw [show pq_u F 64 (5 + a) (an (F 64 (5 + a)) (1 <<< b) ||| s <<< b) = jnM1 F a b s from rfl]
  (iterate 5 (first | refine E_st rfl ?_ | refine E_go rfl ?_))
  rw [nI_add]
  (iterate 5 (first | refine E_st rfl ?_ | refine E_go rfl ?_))
  rw [nI_add]
  refine E_ial rfl rfl (n := 144) (by omega) (by decide) ?_
  (iterate 6 (first | refine E_st rfl ?_ | refine E_go rfl ?_))
  rw [zi_shl 1 (by omega), zi_not]
  (iterate 4 (first | refine E_st rfl ?_ | refine E_go rfl ?_))
  rw [zi_shl s (by omega), zi_or]
  refine E_ias rfl rfl (n := 144) (by omega) (by decide) (by decide) ?_
  exact E_rt rfl ⟨rfl, rfl⟩
theorem jn_off {a b s p j : Nat} (h1 : ¬ (p = 64 ∧ (j = 5 + a ∨ j = 5 + b))) : jnM F a b s p j = F p j := by
  unfold jnM jnM1
  rw [pu_at, if_neg (by omega), pu_at, if_neg (by omega)]
theorem jn_near {a b s : Nat} (ha : a < 6) (hb : b < 6) (hs : s ≤ 1) (hn : ∀ v, v < 6 → F 64 (5 + v) < 64) : ∀ v, v < 6 → jnM F a b s 64 (5 + v) < 64 := by
  have sh : ∀ c, c < 6 → s <<< c < 64 := by
    intro c hc
    rcases (show s = 0 ∨ s = 1 by omega) with rfl | rfl
    · rw [Nat.zero_shiftLeft]; decide
    · rw [Nat.one_shiftLeft]; exact Nat.pow_lt_pow_right (by decide) hc
  have one : ∀ x c d, x < 64 → c < 6 → an x d ||| s <<< c < 64 := fun x c d hx hc => Nat.or_lt_two_pow (n := 6) (Nat.lt_of_le_of_lt (an_le _ _) hx) (sh c hc)
  have h1 : ∀ v, v < 6 → jnM1 F a b s 64 (5 + v) < 64 := by
    intro v hv
    unfold jnM1
    rw [pu_at]
    split
    · exact one _ _ _ (hn a ha) hb
    · exact hn v hv
  intro v hv
  unfold jnM
  rw [pu_at]
  split
  · exact one _ _ _ (h1 b hb) ha
  · exact h1 v hv
theorem co_off {p j : Nat} : ∀ k, ¬ (p = 64 ∧ 14 ≤ j ∧ j < 14 + k) → coM F k p j = F p j := by
  intro k
  induction k with
  | zero => intro _; rfl
  | succ k ih =>
    intro hc
    unfold coM
    split
    · exact ih (by omega)
    · rw [pu_at, if_neg (by omega)]; exact ih (by omega)
theorem l_link (hK : F 64 1 ≤ 3) (hn : ∀ v, v < 6 → F 64 (5 + v) < 64) (hp : ∀ k, k < 3 → F 64 (11 + k) < 6) (ho : ∀ k, k < 3 → F 64 (14 + k) < 6) {v1 v2 v3 v4 : Int32} {Q : Option Value → pq_M → Prop} (K : pq_Ev (d + 1) 106 137 [some (.ref 63), some (.int v1), some (.int v2), some (.int v3), some (.int v4), some (.int (nI (F 64 1)))] [] (pq_Sh L, pn (coM F (F 64 1)), pl G, pq_rt h) Q) : ∀ m k, k + m = F 64 1 → pq_Ev (d + 1) 106 60 [some (.ref 63), some (.int v1), some (.int v2), some (.int v3), some (.int v4), some (.int (nI k))] [] (pq_Sh L, pn (coM F k), pl G, pq_rt h) Q := by
  intro m
  induction m with
  | zero =>
    intro k hk
    have hk : k = F 64 1 := by omega
    subst hk
    (repeat (first | refine E_st rfl ?_ | refine E_go rfl ?_))
    simp +decide only [nI_clamp, pn_at, pu_n, pu_l]
    rw [co_off _ (by omega)]
    refine E_nif rfl (nI_nlt (Nat.le_refl _) (by omega)) ?_
    exact K
  | succ m ih =>
    intro k hk
    have e1 : coM F k 64 (11 + k) = F 64 (11 + k) := co_off _ (by omega)
    have e2 : coM F k 64 (14 + k) = F 64 (14 + k) := co_off _ (by omega)
    have hp1 := hp k (by omega)
    have ho1 := ho k (by omega)
    have e3 : coM F k 64 (5 + F 64 (11 + k)) = F 64 (5 + F 64 (11 + k)) := co_off _ (by omega)
    have hw := g_isWay (d := d) (L := L) (F := coM F k) (G := G) (h := h) (a := F 64 (11 + k)) (b := F 64 (14 + k)) hp1 (by omega) (by rw [e3]; exact Nat.lt_trans (hn _ hp1) (by decide))
    rw [e3] at hw
    (repeat (first | refine E_st rfl ?_ | refine E_go rfl ?_))
    simp +decide only [nI_clamp, pn_at, pu_n, pu_l]
    rw [co_off k (show ¬ (64 = 64 ∧ 14 ≤ 1 ∧ 1 < 14 + k) by omega)]
    refine E_if rfl (nI_lt (by omega) (by omega)) ?_
    (iterate 5 (first | refine E_st rfl ?_ | refine E_go rfl ?_))
    rw [nI_add]
    (iterate 6 (first | refine E_st rfl ?_ | refine E_go rfl ?_))
    rw [nI_add]
    refine E_ial rfl rfl (n := 144) (by omega) (by decide) ?_
    (iterate 5 (first | refine E_st rfl ?_ | refine E_go rfl ?_))
    rw [nI_add]
    refine E_ial rfl rfl (n := 144) (by omega) (by decide) ?_
    rw [e1, e2]
    by_cases c : F 64 (11 + k) = F 64 (14 + k) ∨ (F 64 (5 + F 64 (11 + k))).testBit (F 64 (14 + k)) = true
    · rw [if_pos c] at hw
      refine E_cx rfl (by omega) hw ?_
      refine E_nif rfl (by decide) ?_
      (iterate 5 (first | refine E_st rfl ?_ | refine E_go rfl ?_))
      rw [nI_add]
      refine E_ial rfl rfl (n := 144) (by omega) (by decide) ?_
      (iterate 1 (first | refine E_st rfl ?_ | refine E_go rfl ?_))
      refine E_ias rfl rfl (n := 144) (by omega) (by decide) (by decide) ?_
      rw [pu_same]
      (iterate 2 (first | refine E_st rfl ?_ | refine E_go rfl ?_))
      rw [nI_add]
      have e : coM F (k + 1) = coM F k := by show (if _ then _ else _) = _; rw [if_pos c]
      rw [← e]
      exact ih (k + 1) (by omega)
    · rw [if_neg c] at hw
      refine E_cx rfl (by omega) hw ?_
      refine E_if rfl rfl ?_
      (iterate 5 (first | refine E_st rfl ?_ | refine E_go rfl ?_))
      rw [nI_add]
      refine E_ial rfl rfl (n := 144) (by omega) (by decide) ?_
      refine E_ias rfl rfl (n := 144) (by omega) (by decide) (by decide) ?_
      rw [e1]
      (iterate 2 (first | refine E_st rfl ?_ | refine E_go rfl ?_))
      rw [nI_add]
      have e : coM F (k + 1) = pq_u (coM F k) 64 (14 + k) (F 64 (11 + k)) := by show (if _ then _ else _) = _; rw [if_neg c]
      rw [← e]
      exact ih (k + 1) (by omega)
theorem l_linkE (h17 : F 64 17 ≤ 1) (h18 : F 64 18 < 6) (h19 : F 64 19 < 6) (hn : ∀ v, v < 6 → F 64 (5 + v) < 64) {x : Int32} {v1 v2 v3 v5 : Option Value} : pq_Ev (d + 1) 106 137 [some (.ref 63), v1, v2, v3, some (.int x), v5] [] (pq_Sh L, pn F, pl G, pq_rt h) (fun r M' => r = some (.int x) ∧ M' = (pq_Sh L, pn (lkE F), pl (G), pq_rt h)) := by
  have hw := g_isWay (d := d) (L := L) (F := F) (G := G) (h := h) (a := F 64 18) (b := F 64 19) h18 (by omega) (Nat.lt_trans (hn _ h18) (by decide))
  (repeat (first | refine E_st rfl ?_ | refine E_go rfl ?_))
  simp +decide only [nI_clamp, pn_at, pu_n, pu_l]
  by_cases c1 : F 64 17 = 1
  case neg =>
    refine E_nif rfl (fun z => c1 ((zi_eq (by omega) (by decide)).mp z)) ?_
    (repeat (first | refine E_st rfl ?_ | refine E_go rfl ?_))
    refine E_rt rfl ⟨rfl, ?_⟩
    unfold lkE
    rw [if_neg (fun z => c1 z.1)]
  refine E_if rfl (by rw [c1]) ?_
  (repeat (first | refine E_st rfl ?_ | refine E_go rfl ?_))
  simp +decide only [nI_clamp, pn_at, pu_n, pu_l]
  by_cases c : F 64 18 = F 64 19 ∨ (F 64 (5 + F 64 18)).testBit (F 64 19) = true
  · rw [if_pos c] at hw
    refine E_cx rfl (by omega) hw ?_
    refine E_nif rfl (by decide) ?_
    (repeat (first | refine E_st rfl ?_ | refine E_go rfl ?_))
    refine E_rt rfl ⟨rfl, ?_⟩
    unfold lkE
    rw [if_neg (fun z => z.2 c)]
  · rw [if_neg c] at hw
    refine E_cx rfl (by omega) hw ?_
    refine E_if rfl rfl ?_
    (repeat (first | refine E_st rfl ?_ | refine E_go rfl ?_))
    simp +decide only [nI_clamp, pn_at, pu_n, pu_l]
    refine E_rt rfl ⟨rfl, ?_⟩
    unfold lkE
    rw [if_pos ⟨c1, c⟩]
theorem g_link0 {x y z : Int32} (hg : gOk F) (hx : x < 0 ∨ nI (F 64 0) ≤ x) : pq_Ca (d + 3) 106 [.ref 63, .int x, .int y, .int z] (pq_Sh L, pn F, pl G, pq_rt h) (fun r M' => r = some (.int (-1)) ∧ M' = (pq_Sh L, pn (F), pl (G), pq_rt h)) := by
  have := hg.1
  refine Ca_mk rfl rfl ?_
  (repeat (first | refine E_st rfl ?_ | refine E_go rfl ?_))
  refine E_cx rfl (by omega) (g_isNode0 (d := 0) hx (by omega) hg.2.1) ?_
  refine E_if rfl rfl ?_
  (repeat (first | refine E_st rfl ?_ | refine E_go rfl ?_))
  exact E_rt rfl ⟨rfl, rfl⟩
theorem g_link1 {a : Nat} {y z : Int32} (hg : gOk F) (ha : a < F 64 0) (hy : y < 0 ∨ nI (F 64 0) ≤ y) : pq_Ca (d + 3) 106 [.ref 63, .int (nI a), .int y, .int z] (pq_Sh L, pn F, pl G, pq_rt h) (fun r M' => r = some (.int (-1)) ∧ M' = (pq_Sh L, pn (F), pl (G), pq_rt h)) := by
  have := hg.1
  refine Ca_mk rfl rfl ?_
  (repeat (first | refine E_st rfl ?_ | refine E_go rfl ?_))
  refine E_cx rfl (by omega) (g_isNode (d := 0) ha hg.2.1) ?_
  refine E_nif rfl (by decide) ?_
  (repeat (first | refine E_st rfl ?_ | refine E_go rfl ?_))
  refine E_cx rfl (by omega) (g_isNode0 (d := 0) hy (by omega) hg.2.1) ?_
  refine E_if rfl rfl ?_
  (repeat (first | refine E_st rfl ?_ | refine E_go rfl ?_))
  exact E_rt rfl ⟨rfl, rfl⟩
theorem g_link2 {a b : Nat} {z : Int32} (hg : gOk F) (ha : a < F 64 0) (hb : b < F 64 0) (hz : a = b ∨ z < 0 ∨ 1 < z) : pq_Ca (d + 3) 106 [.ref 63, .int (nI a), .int (nI b), .int z] (pq_Sh L, pn F, pl G, pq_rt h) (fun r M' => r = some (.int (-1)) ∧ M' = (pq_Sh L, pn (F), pl (G), pq_rt h)) := by
  have := hg.2.1
  refine Ca_mk rfl rfl ?_
  (repeat (first | refine E_st rfl ?_ | refine E_go rfl ?_))
  refine E_cx rfl (by omega) (g_isNode (d := 0) ha hg.2.1) ?_
  refine E_nif rfl (by decide) ?_
  (repeat (first | refine E_st rfl ?_ | refine E_go rfl ?_))
  refine E_cx rfl (by omega) (g_isNode (d := 0) hb hg.2.1) ?_
  refine E_nif rfl (by decide) ?_
  (repeat (first | refine E_st rfl ?_ | refine E_go rfl ?_))
  by_cases c : a = b
  · refine E_if rfl (by rw [c]) ?_
    (repeat (first | refine E_st rfl ?_ | refine E_go rfl ?_))
    exact E_rt rfl ⟨rfl, rfl⟩
  · refine E_nif rfl (fun e => c ((zi_eq (by omega) (by omega)).mp e)) ?_
    (repeat (first | refine E_st rfl ?_ | refine E_go rfl ?_))
    refine E_cx rfl (by omega) (g_in0 (d := 0) (hz.resolve_left c)) ?_
    refine E_if rfl rfl ?_
    (repeat (first | refine E_st rfl ?_ | refine E_go rfl ?_))
    exact E_rt rfl ⟨rfl, rfl⟩
theorem g_link {a b s : Nat} (hg : gOk F) (ha : a < F 64 0) (hb : b < F 64 0) (hab : ¬ a = b) (hs : s ≤ 1) : pq_Ca (d + 3) 106 [.ref 63, .int (nI a), .int (nI b), .int (nI s)] (pq_Sh L, pn F, pl G, pq_rt h) (fun r M' => r = some (.int (nI (if (F 64 (5 + a)).testBit b then 1 else 0))) ∧ M' = (pq_Sh L, pn (lkM (rcM F) a b s), pl (G), pq_rt h)) := by
  have hg2 := rc_gOk hg
  obtain ⟨g0, g1, g2, g3, g4, g5, g6, g7, g8, g9, g10, g11, g12, g13, g14, g15, g16, g17, g18, g19⟩ := hg
  obtain ⟨r0, r1, r2, r3, r4, r5, r6, r7, r8, r9, r10, r11, r12, r13, r14, r15, r16, r17, r18, r19⟩ := hg2
  have ha6 : a < 6 := by omega
  have hb6 : b < 6 := by omega
  have hnear := jn_near (F := rcM F) ha6 hb6 hs r6
  have j1 : jnM (rcM F) a b s 64 1 = F 64 1 := by rw [jn_off (by omega), rc64]
  have hE := l_linkE (d := d + 1) (L := L) (F := coM (jnM (rcM F) a b s) (F 64 1)) (G := G) (h := h) (x := nI (if (F 64 (5 + a)).testBit b then 1 else 0)) (v1 := some (.int (nI a))) (v2 := some (.int (nI b))) (v3 := some (.int (nI s))) (v5 := some (.int (nI (F 64 1))))
    (by rw [co_off _ (by omega), jn_off (by omega)]; exact r9) (by rw [co_off _ (by omega), jn_off (by omega)]; exact r10) (by rw [co_off _ (by omega), jn_off (by omega)]; exact r11) (fun v hv => by rw [co_off _ (by omega)]; exact hnear v hv)
  have hL := l_link (d := d + 1) (L := L) (F := jnM (rcM F) a b s) (G := G) (h := h) (v1 := nI a) (v2 := nI b) (v3 := nI s) (v4 := (nI (if (F 64 (5 + a)).testBit b then 1 else 0))) (Q := fun r M' => r = some (.int (nI (if (F 64 (5 + a)).testBit b then 1 else 0))) ∧ M' = (pq_Sh L, pn (lkM (rcM F) a b s), pl G, pq_rt h))
    (by rw [j1]; exact g2) hnear (fun k hk => by rw [jn_off (by omega)]; exact r7 k hk) (fun k hk => by rw [jn_off (by omega)]; exact r8 k hk) (by
      rw [j1]
      have e : lkM (rcM F) a b s = lkE (coM (jnM (rcM F) a b s) (F 64 1)) := by unfold lkM; rw [rc64]
      rw [e]
      exact hE) (F 64 1) 0 (by rw [j1]; omega)
  refine Ca_mk rfl rfl ?_
  (repeat (first | refine E_st rfl ?_ | refine E_go rfl ?_))
  refine E_cx rfl (by omega) (g_isNode (d := 0) ha g1) ?_
  refine E_nif rfl (by decide) ?_
  (repeat (first | refine E_st rfl ?_ | refine E_go rfl ?_))
  refine E_cx rfl (by omega) (g_isNode (d := 0) hb g1) ?_
  refine E_nif rfl (by decide) ?_
  (repeat (first | refine E_st rfl ?_ | refine E_go rfl ?_))
  refine E_nif rfl (fun e => hab ((zi_eq (by omega) (by omega)).mp e)) ?_
  (repeat (first | refine E_st rfl ?_ | refine E_go rfl ?_))
  refine E_cx rfl (by omega) (g_in1 (d := 0) (nI_le (Nat.zero_le s) (by omega)) (nI_le (b := 1) hs (by decide))) ?_
  refine E_nif rfl (by decide) ?_
  (repeat (first | refine E_st rfl ?_ | refine E_go rfl ?_))
  refine E_cx rfl (by omega) (g_records (d := 0) g19) ?_
  (iterate 5 (first | refine E_st rfl ?_ | refine E_go rfl ?_))
  rw [nI_add]
  refine E_ial rfl rfl (n := 144) (by omega) (by decide) ?_
  (iterate 5 (first | refine E_st rfl ?_ | refine E_go rfl ?_))
  rw [rc64, zi_shr (Nat.lt_trans (g6 a ha6) (by decide)) (by omega), zi_and, zb_and1]
  (repeat (first | refine E_st rfl ?_ | refine E_go rfl ?_))
  refine E_cx rfl (by omega) (g_joins (d := 0) ha6 hb6) ?_
  (iterate 2 (first | refine E_st rfl ?_ | refine E_go rfl ?_))
  exact hL
end MOH
