/-! the model: turn -/
def tuA (R : Nat → Nat → Nat) : Nat → Nat → Nat := pq_u (lvM R 5 11 14 6 3) 64 2 (R 64 2 + 1)
def tuB (R : Nat → Nat → Nat) : Nat → Nat → Nat := mrM (flM (tuA R))
def tuN (R : Nat → Nat → Nat) : Nat := stepM (lvM R 5 11 14 6 3) (R 64 1) (R 64 (la R))
def tuC (B : Nat → Nat → Nat) (nx : Nat) : Nat → Nat → Nat := pq_u (pq_u B 64 (la B) nx) 64 (la B + 1) (if B 64 17 = 1 then B 64 18 else N1)
def w1M (F : Nat → Nat → Nat) (c a : Nat) : Nat → Nat → Nat := fun p j => if p = 64 ∧ c + 2 ≤ j ∧ j < c + 2 + a then F 69 (j - (c + 2)) else F p j
def w2M (F : Nat → Nat → Nat) (c b : Nat) : Nat → Nat → Nat := fun p j => if p = 64 ∧ c + 9 ≤ j ∧ j < c + 9 + b then F 67 (j - (c + 9)) else if p = 64 ∧ c + 12 ≤ j ∧ j < c + 12 + b then F 68 (j - (c + 12)) else F p j
def w3M (F : Nat → Nat → Nat) (k : Nat) : Nat → Nat → Nat := fun p j => if p = 64 ∧ 11 ≤ j ∧ j < 11 + k then F 64 (j + 3) else F p j
def tuD (B : Nat → Nat → Nat) (nx : Nat) : Nat → Nat → Nat := w2M (pq_u (w1M (tuC B nx) (la B) 6) 64 (la B + 8) (B 64 1)) (la B) 3
def tuE (R : Nat → Nat → Nat) : Nat → Nat → Nat := w3M (tuD (tuB R) (tuN R)) (R 64 1)
def tuM (R : Nat → Nat → Nat) : Nat → Nat → Nat := pq_u (tuE R) 64 19 (tuE R 64 18)
section MOL
variable {d L : Nat} {F R G : Nat → Nat → Nat} {h : Nat → Nat}
theorem w1M_0 (c : Nat) : w1M F c 0 = F := by funext p j; simp only [w1M]; rw [if_neg (by omega)]
theorem w2M_0 (c : Nat) : w2M F c 0 = F := by funext p j; simp only [w2M]; rw [if_neg (by omega), if_neg (by omega)]
theorem w3M_0 : w3M F 0 = F := by funext p j; simp only [w3M]; rw [if_neg (by omega)]
theorem w1M_s (c a : Nat) : pq_u (w1M F c a) 64 (c + 2 + a) (F 69 a) = w1M F c (a + 1) := by
  funext p j
  simp only [pu_at, w1M]
  by_cases e : p = 64 ∧ j = c + 2 + a
  · rw [if_pos e, if_pos ⟨e.1, by omega, by omega⟩, e.2, show c + 2 + a - (c + 2) = a by omega]
  · rw [if_neg e]
    by_cases e2 : p = 64 ∧ c + 2 ≤ j ∧ j < c + 2 + a
    · rw [if_pos e2, if_pos ⟨e2.1, by omega, by omega⟩]
    · rw [if_neg e2, if_neg (by omega)]
theorem w2M_s (c b : Nat) (hb : b < 3) : pq_u (pq_u (w2M F c b) 64 (c + 9 + b) (F 67 b)) 64 (c + 12 + b) (F 68 b) = w2M F c (b + 1) := by
  funext p j
  simp only [pu_at, w2M]
  by_cases e : p = 64 ∧ j = c + 12 + b
  · rw [if_pos e, if_neg (by omega), if_pos ⟨e.1, by omega, by omega⟩, e.2, show c + 12 + b - (c + 12) = b by omega]
  · rw [if_neg e]
    by_cases e1 : p = 64 ∧ j = c + 9 + b
    · rw [if_pos e1, if_pos ⟨e1.1, by omega, by omega⟩, e1.2, show c + 9 + b - (c + 9) = b by omega]
    · rw [if_neg e1]
      by_cases e2 : p = 64 ∧ c + 9 ≤ j ∧ j < c + 9 + b
      · rw [if_pos e2, if_pos ⟨e2.1, by omega, by omega⟩]
      · rw [if_neg e2, if_neg (by omega : ¬ (p = 64 ∧ c + 9 ≤ j ∧ j < c + 9 + (b + 1)))]
        by_cases e3 : p = 64 ∧ c + 12 ≤ j ∧ j < c + 12 + b
        · rw [if_pos e3, if_pos ⟨e3.1, by omega, by omega⟩]
        · rw [if_neg e3, if_neg (by omega)]
theorem w3M_s (k : Nat) : pq_u (w3M F k) 64 (11 + k) (F 64 (14 + k)) = w3M F (k + 1) := by
  funext p j
  simp only [pu_at, w3M]
  by_cases e : p = 64 ∧ j = 11 + k
  · rw [if_pos e, if_pos ⟨e.1, by omega, by omega⟩, e.2, show 11 + k + 3 = 14 + k by omega]
  · rw [if_neg e]
    by_cases e2 : p = 64 ∧ 11 ≤ j ∧ j < 11 + k
    · rw [if_pos e2, if_pos ⟨e2.1, by omega, by omega⟩]
    · rw [if_neg e2, if_neg (by omega)]
theorem fl_off {p j : Nat} (hp : ¬ (p = 64 ∧ (j = 18 ∨ j = 20 ∨ j = 21))) : flM F p j = F p j := by
  unfold flM
  split
  · rfl
  · rw [pu_at, if_neg (by omega)]; exact flL_off (by omega) _
theorem mr_off {p j : Nat} (hp : ¬ (p = 64 ∧ 23 ≤ j)) : mrM F p j = F p j := by
  unfold mrM
  split
  · rw [pu_at, if_neg (by omega), pu_at, if_neg (by omega)]
    simp only [smM]; rw [if_neg (by omega)]
  · rw [pu_at, if_neg (by omega)]
theorem mr_23 : mrM F 64 23 = if F 64 23 = 8 then 8 else F 64 23 + 1 := by
  unfold mrM
  split
  · rw [pu_at, if_pos ⟨rfl, rfl⟩]
  · rw [pu_at, if_pos ⟨rfl, rfl⟩]
theorem mr_rec {j : Nat} (h1 : 24 ≤ j) (h2 : j < 24 + 15 * (mrM F 64 23 - 1)) (h8 : F 64 23 ≤ 8) : mrM F 64 j = F 64 (if F 64 23 = 8 then j + 15 else j) := by
  rw [mr_23] at h2
  unfold mrM
  split
  · rename_i e
    rw [if_pos e] at h2
    rw [pu_at, if_neg (by omega), pu_at, if_neg (by omega)]
    simp only [smM]
    rw [if_pos ⟨trivial, h1, by omega⟩]
  · rw [pu_at, if_neg (by omega)]
theorem tuA_at {j : Nat} (hj : ¬ j = 2) : tuA R 64 j = R 64 j := by
  unfold tuA
  rw [pu_at, if_neg (by omega), lv64]
theorem tuA_2 : tuA R 64 2 = R 64 2 + 1 := rfl
theorem l_tw3 {D : FF} (hK : D 64 1 ≤ 3) {v1 v2 : Int32} {Q : Option Value → pq_M → Prop} (K : pq_Ev d 122 226 [some (.ref 63), some (.int v1), some (.int v2), some (.int (nI (D 64 1)))] [] (pq_Sh L, pn (w3M D (D 64 1)), pl G, pq_rt h) Q) : ∀ m k, k + m = D 64 1 → pq_Ev d 122 192 [some (.ref 63), some (.int v1), some (.int v2), some (.int (nI k))] [] (pq_Sh L, pn (w3M D k), pl G, pq_rt h) Q := by
  intro m
  induction m with
  | zero =>
    intro k hk
    have hk : k = D 64 1 := by omega
    subst hk
    (repeat (first | refine E_st rfl ?_ | refine E_go rfl ?_))
    simp +decide only [nI_clamp, pn_at, pu_n, pu_l]
    rw [show w3M D (D 64 1) 64 1 = D 64 1 by simp only [w3M]; rw [if_neg (by omega)]]
    refine E_nif rfl (nI_nlt (Nat.le_refl _) (by omega)) ?_
    exact K
  | succ m ih =>
    intro k hk
    (repeat (first | refine E_st rfl ?_ | refine E_go rfl ?_))
    simp +decide only [nI_clamp, pn_at, pu_n, pu_l]
    rw [show w3M D k 64 1 = D 64 1 by simp only [w3M]; rw [if_neg (by omega)]]
    refine E_if rfl (nI_lt (by omega) (by omega)) ?_
    (iterate 5 (first | refine E_st rfl ?_ | refine E_go rfl ?_))
    rw [nI_add]
    (iterate 5 (first | refine E_st rfl ?_ | refine E_go rfl ?_))
    rw [nI_add]
    refine E_ial rfl rfl (n := 144) (by omega) (by decide) ?_
    rw [show w3M D k 64 (14 + k) = D 64 (14 + k) by simp only [w3M]; rw [if_neg (by omega)]]
    refine E_ias rfl rfl (n := 144) (by omega) (by decide) (by decide) ?_
    rw [w3M_s]
    (iterate 2 (first | refine E_st rfl ?_ | refine E_go rfl ?_))
    rw [nI_add]
    exact ih (k + 1) (by omega)
theorem l_tw2 {D : FF} {c : Nat} (hc : c ≤ 129) {v1 : Int32} {Q : Option Value → pq_M → Prop} (K : pq_Ev d 122 190 [some (.ref 63), some (.int v1), some (.int (nI c)), some (.int (nI 3))] [] (pq_Sh L, pn (w2M D c 3), pl G, pq_rt h) Q) : ∀ m b, b + m = 3 → pq_Ev d 122 145 [some (.ref 63), some (.int v1), some (.int (nI c)), some (.int (nI b))] [] (pq_Sh L, pn (w2M D c b), pl G, pq_rt h) Q := by
  intro m
  induction m with
  | zero =>
    intro b hb
    have hb : b = 3 := by omega
    subst hb
    (repeat (first | refine E_st rfl ?_ | refine E_go rfl ?_))
    refine E_nif rfl (by decide) ?_
    exact K
  | succ m ih =>
    intro b hb
    (repeat (first | refine E_st rfl ?_ | refine E_go rfl ?_))
    refine E_if rfl (nI_lt (by omega) (by decide)) ?_
    (iterate 5 (first | refine E_st rfl ?_ | refine E_go rfl ?_))
    rw [nI_add]
    (iterate 2 (first | refine E_st rfl ?_ | refine E_go rfl ?_))
    rw [nI_add]
    (iterate 3 (first | refine E_st rfl ?_ | refine E_go rfl ?_))
    refine E_ial rfl rfl (n := 3) (by omega) (by decide) ?_
    rw [show w2M D c b 67 b = D 67 b by simp only [w2M]; rw [if_neg (by omega), if_neg (by omega)]]
    refine E_ias rfl rfl (n := 144) (by omega) (by decide) (by decide) ?_
    (iterate 5 (first | refine E_st rfl ?_ | refine E_go rfl ?_))
    rw [nI_add]
    (iterate 2 (first | refine E_st rfl ?_ | refine E_go rfl ?_))
    rw [nI_add]
    (iterate 3 (first | refine E_st rfl ?_ | refine E_go rfl ?_))
    refine E_ial rfl rfl (n := 3) (by omega) (by decide) ?_
    rw [pu_off (by decide), show w2M D c b 68 b = D 68 b by simp only [w2M]; rw [if_neg (by omega), if_neg (by omega)]]
    refine E_ias rfl rfl (n := 144) (by omega) (by decide) (by decide) ?_
    rw [w2M_s c b (by omega)]
    (iterate 2 (first | refine E_st rfl ?_ | refine E_go rfl ?_))
    rw [nI_add]
    exact ih (b + 1) (by omega)
theorem l_tw1 {D : FF} {c : Nat} (hc : c ≤ 129) {v1 : Int32} {Q : Option Value → pq_M → Prop} (K : pq_Ev d 122 128 [some (.ref 63), some (.int v1), some (.int (nI c)), some (.int (nI 6))] [] (pq_Sh L, pn (w1M D c 6), pl G, pq_rt h) Q) : ∀ m a, a + m = 6 → pq_Ev d 122 100 [some (.ref 63), some (.int v1), some (.int (nI c)), some (.int (nI a))] [] (pq_Sh L, pn (w1M D c a), pl G, pq_rt h) Q := by
  intro m
  induction m with
  | zero =>
    intro a ha
    have ha : a = 6 := by omega
    subst ha
    (repeat (first | refine E_st rfl ?_ | refine E_go rfl ?_))
    refine E_nif rfl (by decide) ?_
    exact K
  | succ m ih =>
    intro a ha
    (repeat (first | refine E_st rfl ?_ | refine E_go rfl ?_))
    refine E_if rfl (nI_lt (by omega) (by decide)) ?_
    (iterate 5 (first | refine E_st rfl ?_ | refine E_go rfl ?_))
    rw [nI_add]
    (iterate 2 (first | refine E_st rfl ?_ | refine E_go rfl ?_))
    rw [nI_add]
    (iterate 3 (first | refine E_st rfl ?_ | refine E_go rfl ?_))
    refine E_ial rfl rfl (n := 6) (by omega) (by decide) ?_
    rw [show w1M D c a 69 a = D 69 a by simp only [w1M]; rw [if_neg (by omega)]]
    refine E_ias rfl rfl (n := 144) (by omega) (by decide) (by decide) ?_
    rw [w1M_s]
    (iterate 2 (first | refine E_st rfl ?_ | refine E_go rfl ?_))
    rw [nI_add]
    exact ih (a + 1) (by omega)
theorem g_turn3 (ht : F 64 2 = 10000) : pq_Ca (d + 3) 122 [.ref 63] (pq_Sh L, pn F, pl G, pq_rt h) (fun r M' => r = some (.int (-3)) ∧ M' = (pq_Sh L, pn (F), pl (G), pq_rt h)) := by
  refine Ca_mk rfl rfl ?_
  (repeat (first | refine E_st rfl ?_ | refine E_go rfl ?_))
  simp +decide only [nI_clamp, pn_at, pu_n, pu_l]
  refine E_if rfl (by rw [ht]) ?_
  (repeat (first | refine E_st rfl ?_ | refine E_go rfl ?_))
  exact E_rt rfl ⟨rfl, rfl⟩
theorem tuD_1 {B : FF} {nx : Nat} (h1 : 1 ≤ B 64 23) : tuD B nx 64 1 = B 64 1 := by
  unfold tuD
  simp only [w2M]
  rw [if_neg (by unfold la; omega), if_neg (by unfold la; omega), pu_at, if_neg (by unfold la; omega)]
  simp only [w1M]
  rw [if_neg (by unfold la; omega)]
  unfold tuC
  rw [pu_at, if_neg (by unfold la; omega), pu_at, if_neg (by unfold la; omega)]
set_option maxRecDepth 8000 in
theorem l_turnB {B : FF} {nx : Nat} (h1 : 1 ≤ B 64 23) (h2 : B 64 23 ≤ 8) (h17 : B 64 17 ≤ 1) (hK : B 64 1 ≤ 3) {z : Option Value} {Q : Option Value → pq_M → Prop} (K : ∀ v1 v2 v3, pq_Ev (d + 1) 122 240 [some (.ref 63), some (.int v1), some (.int v2), some (.int v3)] [] (pq_Sh L, pn (pq_u (w3M (tuD B nx) (B 64 1)) 64 19 (w3M (tuD B nx) (B 64 1) 64 18)), pl G, pq_rt h) Q) : pq_Ev (d + 1) 122 56 [some (.ref 63), some (.int (nI nx)), none, none] [] (pq_Sh L, pn B, pl G, pq_rt h) Q := by
  have hl := g_last (d := d) (L := L) (F := B) (G := G) (h := h) h1 h2
  have hla : la B ≤ 129 := by unfold la; omega
  have hla2 : 24 ≤ la B := by unfold la; omega
  rw [show 24 + 15 * (B 64 23 - 1) = la B from rfl] at hl
  have e1 : tuD B nx 64 1 = B 64 1 := tuD_1 h1
  have D3 : ∀ v1 v2 v3, pq_Ev (d + 1) 122 226 [some (.ref 63), some (.int v1), some (.int v2), some (.int v3)] [] (pq_Sh L, pn (w3M (tuD B nx) (B 64 1)), pl G, pq_rt h) Q := by
    intro v1 v2 v3
    (iterate 8 (first | refine E_st rfl ?_ | refine E_go rfl ?_))
    simp +decide only [nI_clamp, pn_at, pu_n, pu_l]
    exact K v1 v2 v3
  have D2 : ∀ v1 v2, pq_Ev (d + 1) 122 192 [some (.ref 63), some (.int v1), some (.int v2), some (.int (nI 0))] [] (pq_Sh L, pn (tuD B nx), pl G, pq_rt h) Q := by
    intro v1 v2
    have := l_tw3 (d := d + 1) (L := L) (G := G) (h := h) (D := tuD B nx) (v1 := v1) (v2 := v2) (Q := Q) (by rw [e1]; exact hK) (by rw [e1]; exact D3 _ _ _) (B 64 1) 0 (by rw [e1]; omega)
    rw [w3M_0] at this
    exact this
  have D1 : ∀ v1, pq_Ev (d + 1) 122 128 [some (.ref 63), some (.int v1), some (.int (nI (la B))), some (.int (nI 6))] [] (pq_Sh L, pn (w1M (tuC B nx) (la B) 6), pl G, pq_rt h) Q := by
    intro v1
    have := l_tw2 (d := d + 1) (L := L) (G := G) (h := h) (D := pq_u (w1M (tuC B nx) (la B) 6) 64 (la B + 8) (B 64 1)) (v1 := v1) (Q := Q) hla (by (iterate 2 (first | refine E_st rfl ?_ | refine E_go rfl ?_)); exact D2 _ _) 3 0 rfl
    rw [w2M_0] at this
    (iterate 5 (first | refine E_st rfl ?_ | refine E_go rfl ?_))
    rw [nI_add]
    (iterate 4 (first | refine E_st rfl ?_ | refine E_go rfl ?_))
    simp +decide only [nI_clamp, pn_at, pu_n, pu_l]
    have e2 : w1M (tuC B nx) (la B) 6 64 1 = B 64 1 := by
      simp only [w1M]
      rw [if_neg (by omega)]
      unfold tuC
      rw [pu_at, if_neg (by omega), pu_at, if_neg (by omega)]
    rw [e2]
    refine E_ias rfl rfl (n := 144) (by omega) (by decide) (by decide) ?_
    (iterate 2 (first | refine E_st rfl ?_ | refine E_go rfl ?_))
    exact this
  have D0 : pq_Ev (d + 1) 122 98 [some (.ref 63), some (.int (nI nx)), some (.int (nI (la B))), none] [] (pq_Sh L, pn (tuC B nx), pl G, pq_rt h) Q := by
    have := l_tw1 (d := d + 1) (L := L) (G := G) (h := h) (D := tuC B nx) (v1 := nI nx) (Q := Q) hla (D1 _) 6 0 rfl
    rw [w1M_0] at this
    (iterate 2 (first | refine E_st rfl ?_ | refine E_go rfl ?_))
    exact this
  (repeat (first | refine E_st rfl ?_ | refine E_go rfl ?_))
  refine E_cx rfl (by omega) hl ?_
  (iterate 5 (first | refine E_st rfl ?_ | refine E_go rfl ?_))
  refine E_ias rfl rfl (n := 144) (by omega) (by decide) (by decide) ?_
  (iterate 5 (first | refine E_st rfl ?_ | refine E_go rfl ?_))
  rw [nI_add]
  (repeat (first | refine E_st rfl ?_ | refine E_go rfl ?_))
  simp +decide only [nI_clamp, pn_at, pu_n, pu_l]
  rw [show pq_u B 64 (la B) nx 64 17 = B 64 17 by rw [pu_at, if_neg (by omega)]]
  by_cases c : B 64 17 = 1
  · refine E_if rfl (by rw [c]) ?_
    (iterate 5 (first | refine E_st rfl ?_ | refine E_go rfl ?_))
    simp +decide only [nI_clamp, pn_at, pu_n, pu_l]
    rw [show pq_u B 64 (la B) nx 64 18 = B 64 18 by rw [pu_at, if_neg (by omega)]]
    refine E_ias rfl rfl (n := 144) (by omega) (by decide) (by decide) ?_
    have e : tuC B nx = pq_u (pq_u B 64 (la B) nx) 64 (la B + 1) (B 64 18) := by unfold tuC; rw [if_pos c]
    rw [← e]
    exact D0
  · refine E_nif rfl (fun z => c ((zi_eq (by omega) (by decide)).mp z)) ?_
    (iterate 1 (first | refine E_st rfl ?_ | refine E_go rfl ?_))
    rw [zm1]
    refine E_ias rfl rfl (n := 144) (by omega) (by decide) (by decide) ?_
    have e : tuC B nx = pq_u (pq_u B 64 (la B) nx) 64 (la B + 1) N1 := by unfold tuC; rw [if_neg c]
    rw [← e]
    exact D0
theorem g_turn (hg : gOk F) (ht : F 64 2 < 10000) (hgo : gOk (tuM (rcM F))) (hro : rbOk (tuM (rcM F))) (hnode : nwC (tuM (rcM F)) → tuM (rcM F) 64 (24 + 15 * nwI (tuM (rcM F)) + 1) < 6) : pq_Ca (d + 3) 122 [.ref 63] (pq_Sh L, pn F, pl G, pq_rt h) (fun r M' => r = some (.int (nI (nwM (tuM (rcM F)) 64 (la (tuM (rcM F)))))) ∧ M' = (pq_Sh L, pn (nwM (tuM (rcM F))), pl (G), pq_rt h)) := by
  have hg2 := rc_gOk hg
  obtain ⟨g0, g1, g2, g3, g4, g5, g6, g7, g8, g9, g10, g11, g12, g13, g14, g15, g16, g17, g18, g19⟩ := hg
  obtain ⟨r0, r1, r2, r3, r4, r5, r6, r7, r8, r9, r10, r11, r12, r13, r14, r15, r16, r17, r18, r19⟩ := hg2
  have hb := g_belief (d := d) (L := L) (F := lvM (rcM F) 5 11 14 6 3) (G := G) (h := h) (by rw [lv64]; exact r15) (by rw [lv64]; exact r16)
  rw [lv64, lv64] at hb
  have hs := g_step (d := d) (L := L) (F := lvM (rcM F) 5 11 14 6 3) (G := G) (h := h) (s := rcM F 64 (24 + 15 * (rcM F 64 23 - 1))) (K := rcM F 64 1) (r18 _ (by omega)) (by rw [lv64]; exact r1) r2
    (fun k hk => by rw [lv67 (by omega)]; exact Nat.lt_trans (r7 k (by omega)) (by decide)) (fun k hk => by rw [lv68 (by omega)]; exact Nat.lt_trans (r8 k (by omega)) (by decide))
  have hfl := g_flees (d := d) (L := L) (F := tuA (rcM F)) (G := G) (h := h) (by rw [tuA_at (by decide)]; exact r2) (fun k hk => by rw [tuA_at (by omega)]; exact r7 k hk) (fun k hk => by rw [tuA_at (by omega)]; exact r8 k hk) (by rw [tuA_at (by decide)]; exact r9) (by rw [tuA_at (by decide)]; exact r10) (by rw [tuA_at (by decide)]; exact r11) (by rw [tuA_at (by decide)]; exact r12)
  have e23 : flM (tuA (rcM F)) 64 23 = rcM F 64 23 := by rw [fl_off (by omega), tuA_at (by decide)]
  have hmr := g_room (d := d) (L := L) (F := flM (tuA (rcM F))) (G := G) (h := h) (by rw [e23]; exact r16)
  have b23 : tuB (rcM F) 64 23 = if rcM F 64 23 = 8 then 8 else rcM F 64 23 + 1 := by unfold tuB; rw [mr_23, e23]
  have b17 : tuB (rcM F) 64 17 = rcM F 64 17 := by unfold tuB; rw [mr_off (by omega), fl_off (by omega), tuA_at (by decide)]
  have b1 : tuB (rcM F) 64 1 = rcM F 64 1 := by unfold tuB; rw [mr_off (by omega), fl_off (by omega), tuA_at (by decide)]
  have hB := l_turnB (d := d + 1) (L := L) (G := G) (h := h) (B := tuB (rcM F)) (nx := tuN (rcM F)) (z := none) (by rw [b23]; split <;> omega) (by rw [b23]; split <;> omega) (by rw [b17]; exact r9) (by rw [b1]; exact r2) (Q := fun r M' => r = some (.int (nI (nwM (tuM (rcM F)) 64 (la (tuM (rcM F)))))) ∧ M' = (pq_Sh L, pn (nwM (tuM (rcM F))), pl G, pq_rt h)) (fun v1 v2 v3 => by
      rw [b1]
      exact g_turnZ (d := d) (F := tuM (rcM F)) hgo hro hnode)
  refine Ca_mk rfl rfl ?_
  (repeat (first | refine E_st rfl ?_ | refine E_go rfl ?_))
  simp +decide only [nI_clamp, pn_at, pu_n, pu_l]
  refine E_nif rfl (fun z => absurd ((zi_eq (by omega) (by decide)).mp z) (by omega)) ?_
  (repeat (first | refine E_st rfl ?_ | refine E_go rfl ?_))
  refine E_cx rfl (by omega) (g_records (d := 0) g19) ?_
  (repeat (first | refine E_st rfl ?_ | refine E_go rfl ?_))
  refine E_cx rfl (by omega) (g_looks (d := 0)) ?_
  (repeat (first | refine E_st rfl ?_ | refine E_go rfl ?_))
  refine E_cx rfl (by omega) hb ?_
  (repeat (first | refine E_st rfl ?_ | refine E_go rfl ?_))
  simp +decide only [nI_clamp, pn_at, pu_n, pu_l]
  rw [lv64]
  refine E_cx rfl (by omega) hs ?_
  (iterate 8 (first | refine E_st rfl ?_ | refine E_go rfl ?_))
  simp +decide only [nI_clamp, pn_at, pu_n, pu_l]
  rw [lv64, nI_add]
  (iterate 1 (first | refine E_st rfl ?_ | refine E_go rfl ?_))
  simp +decide only [nI_clamp, pn_at, pu_n, pu_l]
  (repeat (first | refine E_st rfl ?_ | refine E_go rfl ?_))
  refine E_cx rfl (by omega) hfl ?_
  (repeat (first | refine E_st rfl ?_ | refine E_go rfl ?_))
  refine E_cx rfl (by omega) hmr ?_
  exact hB
end MOL
