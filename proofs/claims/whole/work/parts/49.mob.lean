/-! the model: flees, makesRoom, the parts of turn -/
def flL (F : Nat → Nat → Nat) : Nat → Nat → Nat → Nat
  | 0 => F
  | k + 1 => if F 64 (14 + k) = F 64 19 ∨ (¬ F 64 18 = F 64 19 ∧ F 64 (11 + k) = F 64 19 ∧ F 64 (14 + k) = F 64 18) then pq_u (pq_u (flL F k) 64 20 1) 64 21 (F 64 2) else flL F k
def flM (F : Nat → Nat → Nat) : Nat → Nat → Nat := if F 64 17 = 0 ∨ F 64 20 = 1 then F else pq_u (flL F (F 64 1)) 64 18 (F 64 19)
def smM (F : Nat → Nat → Nat) (k : Nat) : Nat → Nat → Nat := fun p j => if p = 64 ∧ 24 ≤ j ∧ j < 24 + k then F 64 (j + 15) else F p j
def mrM (F : Nat → Nat → Nat) : Nat → Nat → Nat := if F 64 23 = 8 then pq_u (pq_u (smM F 105) 64 23 7) 64 23 8 else pq_u F 64 23 (F 64 23 + 1)
section MOK
variable {d L : Nat} {F G : Nat → Nat → Nat} {h : Nat → Nat}
theorem flL_off {p j : Nat} (hp : ¬ (p = 64 ∧ (j = 20 ∨ j = 21))) : ∀ k, flL F k p j = F p j := by
  intro k
  induction k with
  | zero => rfl
  | succ k ih =>
    unfold flL
    split
    · rw [pu_at, if_neg (by omega), pu_at, if_neg (by omega)]; exact ih
    · exact ih
theorem l_flees (hK : F 64 1 ≤ 3) (hp : ∀ k, k < 3 → F 64 (11 + k) < 6) (ho : ∀ k, k < 3 → F 64 (14 + k) < 6) (h18 : F 64 18 < 6) (h19 : F 64 19 < 6) : ∀ m k, k + m = F 64 1 → pq_Ev d 124 40 [some (.ref 63), some (.int (nI (F 64 18))), some (.int (nI (F 64 19))), some (.int (nI k))] [] (pq_Sh L, pn (flL F k), pl G, pq_rt h) (fun r M' => r = none ∧ M' = (pq_Sh L, pn (pq_u (flL F (F 64 1)) 64 18 (F 64 19)), pl (G), pq_rt h)) := by
  intro m
  induction m with
  | zero =>
    intro k hk
    have hk : k = F 64 1 := by omega
    (repeat (first | refine E_st rfl ?_ | refine E_go rfl ?_))
    simp +decide only [nI_clamp, pn_at, pu_n, pu_l]
    rw [flL_off (by omega), hk]
    refine E_nif rfl (nI_nlt (Nat.le_refl _) (by omega)) ?_
    (repeat (first | refine E_st rfl ?_ | refine E_go rfl ?_))
    simp +decide only [nI_clamp, pn_at, pu_n, pu_l]
    exact E_rt rfl ⟨rfl, rfl⟩
  | succ m ih =>
    intro k hk
    have hp1 := hp k (by omega)
    have ho1 := ho k (by omega)
    have e1 : flL F k 64 (11 + k) = F 64 (11 + k) := flL_off (by omega) k
    have e2 : flL F k 64 (14 + k) = F 64 (14 + k) := flL_off (by omega) k
    have ih2 := ih (k + 1) (by omega)
    have W : (F 64 (14 + k) = F 64 19 ∨ (¬ F 64 18 = F 64 19 ∧ F 64 (11 + k) = F 64 19 ∧ F 64 (14 + k) = F 64 18)) → pq_Ev d 124 94 [some (.ref 63), some (.int (nI (F 64 18))), some (.int (nI (F 64 19))), some (.int (nI k))] [] (pq_Sh L, pn (flL F k), pl G, pq_rt h) (fun r M' => r = none ∧ M' = (pq_Sh L, pn (pq_u (flL F (F 64 1)) 64 18 (F 64 19)), pl (G), pq_rt h)) := by
      intro c
      (iterate 15 (first | refine E_st rfl ?_ | refine E_go rfl ?_))
      simp +decide only [nI_clamp, pn_at, pu_n, pu_l]
      rw [show pq_u (flL F k) 64 20 1 64 2 = flL F k 64 2 from rfl, flL_off (by omega)]
      rw [nI_add]
      have e : flL F (k + 1) = pq_u (pq_u (flL F k) 64 20 1) 64 21 (F 64 2) := by show (if _ then _ else _) = _; rw [if_pos c]
      rw [← e]
      exact ih2
    have N : ¬ (F 64 (14 + k) = F 64 19 ∨ (¬ F 64 18 = F 64 19 ∧ F 64 (11 + k) = F 64 19 ∧ F 64 (14 + k) = F 64 18)) → pq_Ev d 124 115 [some (.ref 63), some (.int (nI (F 64 18))), some (.int (nI (F 64 19))), some (.int (nI k))] [] (pq_Sh L, pn (flL F k), pl G, pq_rt h) (fun r M' => r = none ∧ M' = (pq_Sh L, pn (pq_u (flL F (F 64 1)) 64 18 (F 64 19)), pl (G), pq_rt h)) := by
      intro c
      (iterate 2 (first | refine E_st rfl ?_ | refine E_go rfl ?_))
      rw [nI_add]
      have e : flL F (k + 1) = flL F k := by show (if _ then _ else _) = _; rw [if_neg c]
      rw [← e]
      exact ih2
    (repeat (first | refine E_st rfl ?_ | refine E_go rfl ?_))
    simp +decide only [nI_clamp, pn_at, pu_n, pu_l]
    rw [flL_off (show ¬ (64 = 64 ∧ (1 = 20 ∨ 1 = 21)) by omega)]
    refine E_if rfl (nI_lt (by omega) (by omega)) ?_
    (iterate 5 (first | refine E_st rfl ?_ | refine E_go rfl ?_))
    rw [nI_add]
    refine E_ial rfl rfl (n := 144) (by omega) (by decide) ?_
    rw [e2]
    (repeat (first | refine E_st rfl ?_ | refine E_go rfl ?_))
    by_cases c1 : F 64 (14 + k) = F 64 19
    · refine E_if rfl (by rw [c1]) ?_
      exact W (Or.inl c1)
    refine E_nif rfl (fun z => c1 ((zi_eq (by omega) (by omega)).mp z)) ?_
    (repeat (first | refine E_st rfl ?_ | refine E_go rfl ?_))
    by_cases c2 : F 64 18 = F 64 19
    · refine E_if rfl (by rw [c2]) ?_
      exact N (fun z => z.elim c1 (fun y => y.1 c2))
    refine E_nif rfl (fun z => c2 ((zi_eq (by omega) (by omega)).mp z)) ?_
    (iterate 5 (first | refine E_st rfl ?_ | refine E_go rfl ?_))
    rw [nI_add]
    refine E_ial rfl rfl (n := 144) (by omega) (by decide) ?_
    rw [e1]
    (repeat (first | refine E_st rfl ?_ | refine E_go rfl ?_))
    by_cases c3 : F 64 (11 + k) = F 64 19
    case neg =>
      refine E_nif rfl (fun z => c3 ((zi_eq (by omega) (by omega)).mp z)) ?_
      exact N (fun z => z.elim c1 (fun y => c3 y.2.1))
    refine E_if rfl (by rw [c3]) ?_
    (iterate 5 (first | refine E_st rfl ?_ | refine E_go rfl ?_))
    rw [nI_add]
    refine E_ial rfl rfl (n := 144) (by omega) (by decide) ?_
    rw [e2]
    (repeat (first | refine E_st rfl ?_ | refine E_go rfl ?_))
    by_cases c4 : F 64 (14 + k) = F 64 18
    case neg =>
      refine E_nif rfl (fun z => c4 ((zi_eq (by omega) (by omega)).mp z)) ?_
      exact N (fun z => z.elim c1 (fun y => c4 y.2.2))
    refine E_if rfl (by rw [c4]) ?_
    exact W (Or.inr ⟨c2, c3, c4⟩)
theorem g_flees (hK : F 64 1 ≤ 3) (hp : ∀ k, k < 3 → F 64 (11 + k) < 6) (ho : ∀ k, k < 3 → F 64 (14 + k) < 6) (h17 : F 64 17 ≤ 1) (h18 : F 64 18 < 6) (h19 : F 64 19 < 6) (h20 : F 64 20 ≤ 1) : pq_Ca (d + 1) 124 [.ref 63] (pq_Sh L, pn F, pl G, pq_rt h) (fun r M' => r = none ∧ M' = (pq_Sh L, pn (flM F), pl (G), pq_rt h)) := by
  have hl := l_flees (d := d) (L := L) (G := G) (h := h) hK hp ho h18 h19 (F 64 1) 0 (by omega)
  refine Ca_mk rfl rfl ?_
  (repeat (first | refine E_st rfl ?_ | refine E_go rfl ?_))
  simp +decide only [nI_clamp, pn_at, pu_n, pu_l]
  by_cases c1 : F 64 17 = 0
  · refine E_if rfl (by rw [c1]; rfl) ?_
    refine E_rt rfl ⟨rfl, ?_⟩
    unfold flM
    rw [if_pos (Or.inl c1)]
  refine E_nif rfl (nI_ne0 (by omega) (by omega)) ?_
  (repeat (first | refine E_st rfl ?_ | refine E_go rfl ?_))
  simp +decide only [nI_clamp, pn_at, pu_n, pu_l]
  by_cases c2 : F 64 20 = 1
  · refine E_if rfl (by rw [c2]) ?_
    refine E_rt rfl ⟨rfl, ?_⟩
    unfold flM
    rw [if_pos (Or.inr c2)]
  refine E_nif rfl (fun z => c2 ((zi_eq (by omega) (by decide)).mp z)) ?_
  have e : flM F = pq_u (flL F (F 64 1)) 64 18 (F 64 19) := by unfold flM; rw [if_neg (fun z => z.elim c1 c2)]
  rw [e]
  (iterate 12 (first | refine E_st rfl ?_ | refine E_go rfl ?_))
  simp +decide only [nI_clamp, pn_at, pu_n, pu_l]
  exact hl
theorem smM_0 : smM F 0 = F := by
  funext p j
  simp only [smM]
  rw [if_neg (by omega)]
theorem smM_s (k : Nat) : pq_u (smM F k) 64 (24 + k) (F 64 (24 + k + 15)) = smM F (k + 1) := by
  funext p j
  simp only [pu_at, smM]
  by_cases c : p = 64 ∧ j = 24 + k
  · rw [if_pos c, if_pos ⟨c.1, by omega, by omega⟩, c.2]
  · rw [if_neg c]
    by_cases c2 : p = 64 ∧ 24 ≤ j ∧ j < 24 + k
    · rw [if_pos c2, if_pos ⟨c2.1, by omega, by omega⟩]
    · rw [if_neg c2, if_neg (by omega)]
theorem l_room (h23 : F 64 23 = 8) : ∀ m k, k + m = 105 → pq_Ev d 125 15 [some (.ref 63), some (.int (nI (24 + k)))] [] (pq_Sh L, pn (smM F k), pl G, pq_rt h) (fun r M' => r = none ∧ M' = (pq_Sh L, pn (pq_u (pq_u (smM F 105) 64 23 7) 64 23 8), pl (G), pq_rt h)) := by
  intro m
  induction m with
  | zero =>
    intro k hk
    have hk : k = 105 := by omega
    subst hk
    (repeat (first | refine E_st rfl ?_ | refine E_go rfl ?_))
    refine E_nif rfl (by decide) ?_
    (iterate 7 (first | refine E_st rfl ?_ | refine E_go rfl ?_))
    simp +decide only [nI_clamp, pn_at, pu_n, pu_l]
    rw [show smM F 105 64 23 = F 64 23 from rfl, h23, show nI 8 - nI 1 = nI 7 by decide]
    (iterate 1 (first | refine E_st rfl ?_ | refine E_go rfl ?_))
    simp +decide only [nI_clamp, pn_at, pu_n, pu_l]
    (iterate 7 (first | refine E_st rfl ?_ | refine E_go rfl ?_))
    simp +decide only [nI_clamp, pn_at, pu_n, pu_l]
    rw [show pq_u (smM F 105) 64 23 7 64 23 = 7 from rfl, show nI 7 + nI 1 = nI 8 by decide]
    (iterate 1 (first | refine E_st rfl ?_ | refine E_go rfl ?_))
    simp +decide only [nI_clamp, pn_at, pu_n, pu_l]
    exact E_rt rfl ⟨rfl, rfl⟩
  | succ m ih =>
    intro k hk
    (repeat (first | refine E_st rfl ?_ | refine E_go rfl ?_))
    refine E_if rfl (nI_lt (by omega) (by decide)) ?_
    (iterate 8 (first | refine E_st rfl ?_ | refine E_go rfl ?_))
    rw [nI_add]
    refine E_ial rfl rfl (n := 144) (by omega) (by decide) ?_
    rw [show smM F k 64 (24 + k + 15) = F 64 (24 + k + 15) by simp only [smM]; rw [if_neg (by omega)]]
    refine E_ias rfl rfl (n := 144) (by omega) (by decide) (by decide) ?_
    rw [smM_s]
    (iterate 2 (first | refine E_st rfl ?_ | refine E_go rfl ?_))
    rw [nI_add]
    exact ih (k + 1) (by omega)
theorem g_room (h23 : F 64 23 ≤ 8) : pq_Ca (d + 1) 125 [.ref 63] (pq_Sh L, pn F, pl G, pq_rt h) (fun r M' => r = none ∧ M' = (pq_Sh L, pn (mrM F), pl (G), pq_rt h)) := by
  refine Ca_mk rfl rfl ?_
  (repeat (first | refine E_st rfl ?_ | refine E_go rfl ?_))
  simp +decide only [nI_clamp, pn_at, pu_n, pu_l]
  by_cases c : F 64 23 = 8
  · refine E_if rfl (by rw [c]) ?_
    have hl := l_room (d := d) (L := L) (G := G) (h := h) c 105 0 rfl
    rw [smM_0] at hl
    have e : mrM F = pq_u (pq_u (smM F 105) 64 23 7) 64 23 8 := by unfold mrM; rw [if_pos c]
    rw [e]
    (iterate 2 (first | refine E_st rfl ?_ | refine E_go rfl ?_))
    exact hl
  · refine E_nif rfl (fun z => c ((zi_eq (by omega) (by decide)).mp z)) ?_
    (iterate 7 (first | refine E_st rfl ?_ | refine E_go rfl ?_))
    simp +decide only [nI_clamp, pn_at, pu_n, pu_l]
    rw [nI_add]
    (iterate 1 (first | refine E_st rfl ?_ | refine E_go rfl ?_))
    simp +decide only [nI_clamp, pn_at, pu_n, pu_l]
    refine E_rt rfl ⟨rfl, ?_⟩
    unfold mrM
    rw [if_neg c]
/-! the end of turn: news that is given by itself -/
abbrev nwC (F : Nat → Nat → Nat) : Prop := F 64 17 = 1 ∧ F 64 20 = 0 ∧ 0 < F 64 3 ∧ F 64 2 % F 64 3 = 0 ∧ F 64 4 ≤ F 64 2 ∧ F 64 4 < F 64 23 ∧ F 64 22 ≤ F 64 2 - F 64 4
def nwI (F : Nat → Nat → Nat) : Nat := F 64 23 - 1 - F 64 4
def nwM (F : Nat → Nat → Nat) : Nat → Nat → Nat := if nwC F then (if (F 64 (24 + 15 * nwI F)).testBit (F 64 (24 + 15 * nwI F + 1)) then neM F (F 64 (24 + 15 * nwI F + 1)) (nwI F) (F 64 23 - 1 - nwI F) else F) else F
theorem nw_23 : nwM F 64 23 = F 64 23 := by
  unfold nwM
  split
  · split
    · exact ne_off (by omega) (by omega) _
    · rfl
  · rfl
set_option maxRecDepth 8000 in
theorem g_turnZ (hg : gOk F) (hr : rbOk F) (hnode : nwC F → F 64 (24 + 15 * nwI F + 1) < 6) {v1 v2 v3 : Int32} : pq_Ev (d + 2) 122 240 [some (.ref 63), some (.int v1), some (.int v2), some (.int v3)] [] (pq_Sh L, pn F, pl G, pq_rt h) (fun r M' => r = some (.int (nI (nwM F 64 (la F)))) ∧ M' = (pq_Sh L, pn (nwM F), pl (G), pq_rt h)) := by
  have hb := g_belief (d := d) (L := L) (F := nwM F) (G := G) (h := h) (by rw [nw_23]; exact hg.2.2.2.2.2.2.2.2.2.2.2.2.2.2.2.1) (by rw [nw_23]; exact hg.2.2.2.2.2.2.2.2.2.2.2.2.2.2.2.2.1)
  rw [nw_23] at hb
  have hend : ∀ (x3 : Int32), pq_Ev (d + 2) 122 355 [some (.ref 63), some (.int v1), some (.int v2), some (.int x3)] [] (pq_Sh L, pn (nwM F), pl G, pq_rt h) (fun r M' => r = some (.int (nI (nwM F 64 (la F)))) ∧ M' = (pq_Sh L, pn (nwM F), pl (G), pq_rt h)) := by
    intro x3
    (repeat (first | refine E_st rfl ?_ | refine E_go rfl ?_))
    refine E_cx rfl (by omega) hb ?_
    exact E_rt rfl ⟨rfl, rfl⟩
  have hno : ¬ nwC F → ∀ (x3 : Int32), pq_Ev (d + 2) 122 355 [some (.ref 63), some (.int v1), some (.int v2), some (.int x3)] [] (pq_Sh L, pn F, pl G, pq_rt h) (fun r M' => r = some (.int (nI (nwM F 64 (la F)))) ∧ M' = (pq_Sh L, pn (nwM F), pl (G), pq_rt h)) := by
    intro c x3
    have e : nwM F = F := by unfold nwM; rw [if_neg c]
    have := hend x3
    rw [e] at this ⊢
    exact this
  have hg' := hg
  obtain ⟨g0, g1, g2, g3, g4, g5, g6, g7, g8, g9, g10, g11, g12, g13, g14, g15, g16, g17, g18, g19⟩ := hg
  (repeat (first | refine E_st rfl ?_ | refine E_go rfl ?_))
  simp +decide only [nI_clamp, pn_at, pu_n, pu_l]
  by_cases c1 : F 64 17 = 1
  case neg =>
    refine E_nif rfl (fun z => c1 ((zi_eq (by omega) (by decide)).mp z)) ?_
    exact hno (fun z => c1 z.1) v3
  refine E_if rfl (by rw [c1]) ?_
  (repeat (first | refine E_st rfl ?_ | refine E_go rfl ?_))
  simp +decide only [nI_clamp, pn_at, pu_n, pu_l]
  by_cases c2 : F 64 20 = 0
  case neg =>
    refine E_nif rfl (nI_ne0 (by omega) (by omega)) ?_
    exact hno (fun z => c2 z.2.1) v3
  refine E_if rfl (by rw [c2]; rfl) ?_
  (repeat (first | refine E_st rfl ?_ | refine E_go rfl ?_))
  simp +decide only [nI_clamp, pn_at, pu_n, pu_l]
  by_cases c3 : 0 < F 64 3
  case neg =>
    refine E_nif rfl (by rw [show F 64 3 = 0 by omega]; decide) ?_
    exact hno (fun z => c3 z.2.2.1) v3
  refine E_if rfl (nI_lt (a := 0) c3 (by omega)) ?_
  (iterate 8 (first | refine E_st rfl ?_ | refine E_go rfl ?_))
  simp +decide only [nI_clamp, pn_at, pu_n, pu_l]
  refine E_rem rfl c3 (by omega) (by omega) ?_
  by_cases c4 : F 64 2 % F 64 3 = 0
  case neg =>
    have : F 64 2 % F 64 3 < F 64 3 := Nat.mod_lt _ c3
    refine E_nif rfl (nI_ne0 (by omega) (by omega)) ?_
    exact hno (fun z => c4 z.2.2.2.1) v3
  refine E_if rfl (by rw [c4]; rfl) ?_
  (repeat (first | refine E_st rfl ?_ | refine E_go rfl ?_))
  simp +decide only [nI_clamp, pn_at, pu_n, pu_l]
  by_cases c5 : F 64 4 ≤ F 64 2
  case neg =>
    refine E_if rfl (nI_lt (by omega) (by omega)) ?_
    exact hno (fun z => c5 z.2.2.2.2.1) v3
  refine E_nif rfl (nI_nlt c5 (by omega)) ?_
  (iterate 9 (first | refine E_st rfl ?_ | refine E_go rfl ?_))
  simp +decide only [nI_clamp, pn_at, pu_n, pu_l]
  rw [zi_sub c5]
  (repeat (first | refine E_st rfl ?_ | refine E_go rfl ?_))
  by_cases c6 : F 64 4 < F 64 23
  case neg =>
    refine E_cx rfl (by omega) (g_keptAt0 (d := d) hg' (t := F 64 2 - F 64 4) (by omega) (by omega)) ?_
    refine E_if rfl (by decide) ?_
    exact hno (fun z => c6 z.2.2.2.2.2.1) _
  have hk := g_keptAt (d := d) (L := L) (G := G) (h := h) hg' (t := F 64 2 - F 64 4) (by omega) (by omega)
  rw [show F 64 23 - 1 - (F 64 2 - (F 64 2 - F 64 4)) = nwI F by unfold nwI; omega] at hk
  have hI : nwI F < F 64 23 := by unfold nwI; omega
  refine E_cx rfl (by omega) hk ?_
  refine E_nif rfl (by exact nI_nlt (Nat.zero_le _) (by omega)) ?_
  (repeat (first | refine E_st rfl ?_ | refine E_go rfl ?_))
  simp +decide only [nI_clamp, pn_at, pu_n, pu_l]
  by_cases c7 : F 64 22 ≤ F 64 2 - F 64 4
  case neg =>
    refine E_if rfl (nI_lt (by omega) (by omega)) ?_
    exact hno (fun z => c7 z.2.2.2.2.2.2) _
  refine E_nif rfl (nI_nlt c7 (by omega)) ?_
  have hc : nwC F := ⟨c1, c2, c3, c4, c5, c6, c7⟩
  have hnw := g_news (d := d) (L := L) (F := F) (G := G) (h := h) hg' hr (hnode hc) hI
  have e : nwM F = (if (F 64 (24 + 15 * nwI F)).testBit (F 64 (24 + 15 * nwI F + 1)) then neM F (F 64 (24 + 15 * nwI F + 1)) (nwI F) (F 64 23 - 1 - nwI F) else F) := by unfold nwM; rw [if_pos hc]
  rw [← e] at hnw
  (repeat (first | refine E_st rfl ?_ | refine E_go rfl ?_))
  refine E_cx rfl (by omega) hk ?_
  (repeat (first | refine E_st rfl ?_ | refine E_go rfl ?_))
  refine E_cx rfl (by omega) hk ?_
  (iterate 2 (first | refine E_st rfl ?_ | refine E_go rfl ?_))
  rw [nI_add]
  refine E_ial rfl rfl (n := 144) (by omega) (by decide) ?_
  refine E_cx rfl (by omega) hnw ?_
  exact hend _
end MOK
