/-! the model: step, looks, news, tell -/
def byM (F : Nat → Nat → Nat) (s v : Nat) : Nat → Nat
  | 0 => s &&& (F 69 v ||| 1 <<< v)
  | k + 1 => if F 67 k = v ∧ ¬ F 68 k = v then an (byM F s v k) (1 <<< F 68 k) else byM F s v k
def fxM (F : Nat → Nat → Nat) (v : Nat) : Nat → Nat
  | 0 => 1
  | k + 1 => if fxM F v k = 0 ∨ F 68 k = v then 0 else 1
def spM (F : Nat → Nat → Nat) (K s : Nat) : Nat → Nat
  | 0 => 0
  | v + 1 => if fxM F v K = 0 ∨ byM F s v K = 0 then spM F K s v else spM F K s v ||| 1 <<< v
def stepM (F : Nat → Nat → Nat) (K s : Nat) : Nat := spM F K s (F 64 0)
/-- what is looked at, out of d -/
def lvM (F : Nat → Nat → Nat) (e1 e2 e3 a b : Nat) : Nat → Nat → Nat := fun p j => if p = 69 ∧ j < a then F 64 (e1 + j) else if p = 67 ∧ j < b then F 64 (e2 + j) else if p = 68 ∧ j < b then F 64 (e3 + j) else F p j
theorem zi_m1 (a : Nat) : nI a &&& (-1 : Int32) = nI a := by
  apply Int32.toBitVec_inj.1
  show BitVec.ofNat 32 a &&& BitVec.allOnes 32 = BitVec.ofNat 32 a
  exact BitVec.and_allOnes
section MOI
variable {d L : Nat} {F G : Nat → Nat → Nat} {h : Nat → Nat}
theorem fxM_le (v : Nat) : ∀ k, fxM F v k ≤ 1 := by
  intro k
  cases k with
  | zero => exact Nat.le_refl _
  | succ k => unfold fxM; split <;> omega
theorem byM_lt {s v : Nat} (hs : s < 64) : ∀ k, byM F s v k < 64 := by
  intro k
  induction k with
  | zero => exact Nat.lt_of_le_of_lt Nat.and_le_left hs
  | succ k ih =>
    unfold byM
    split
    · exact Nat.lt_of_le_of_lt (an_le _ _) ih
    · exact ih
theorem l_step1 {s K nx v : Nat} (hK : K ≤ 3) (hv : v < 6) (hf : ∀ k, k < K → F 67 k < 8) (ht : ∀ k, k < K → F 68 k < 8) {Q : Option Value → pq_M → Prop}
    (C : pq_Ev d 121 118 [some (.ref 63), some (.int (nI s)), some (.int (nI K)), some (.int (nI nx)), some (.int (nI v)), some (.int (nI (byM F s v K))), some (.int (nI (fxM F v K))), some (.int (nI K))] [] (pq_Sh L, pn F, pl G, pq_rt h) Q) :
    ∀ m k, k + m = K → pq_Ev d 121 38 [some (.ref 63), some (.int (nI s)), some (.int (nI K)), some (.int (nI nx)), some (.int (nI v)), some (.int (nI (byM F s v k))), some (.int (nI (fxM F v k))), some (.int (nI k))] [] (pq_Sh L, pn F, pl G, pq_rt h) Q := by
  intro m
  induction m with
  | zero =>
    intro k hk
    have hk : k = K := by omega
    subst hk
    (repeat (first | refine E_st rfl ?_ | refine E_go rfl ?_))
    refine E_nif rfl (nI_nlt (Nat.le_refl _) (by omega)) ?_
    exact C
  | succ m ih =>
    intro k hk
    have hf1 := hf k (by omega)
    have ht1 := ht k (by omega)
    have hx := fxM_le (F := F) v k
    have B : pq_Ev d 121 68 [some (.ref 63), some (.int (nI s)), some (.int (nI K)), some (.int (nI nx)), some (.int (nI v)), some (.int (nI (byM F s v k))), some (.int (nI (fxM F v (k + 1)))), some (.int (nI k))] [] (pq_Sh L, pn F, pl G, pq_rt h) Q := by
      have ih2 := ih (k + 1) (by omega)
      (iterate 4 (first | refine E_st rfl ?_ | refine E_go rfl ?_))
      refine E_ial rfl rfl (n := 3) (by omega) (by decide) ?_
      (repeat (first | refine E_st rfl ?_ | refine E_go rfl ?_))
      by_cases c1 : F 67 k = v
      · refine E_if rfl (by rw [c1]) ?_
        (iterate 3 (first | refine E_st rfl ?_ | refine E_go rfl ?_))
        refine E_ial rfl rfl (n := 3) (by omega) (by decide) ?_
        (repeat (first | refine E_st rfl ?_ | refine E_go rfl ?_))
        by_cases c2 : F 68 k = v
        · refine E_if rfl (by rw [c2]) ?_
          (iterate 2 (first | refine E_st rfl ?_ | refine E_go rfl ?_))
          rw [zi_m1]
          (iterate 3 (first | refine E_st rfl ?_ | refine E_go rfl ?_))
          rw [nI_add]
          have e : byM F s v (k + 1) = byM F s v k := by show (if _ then _ else _) = _; rw [if_neg (fun z => z.2 c2)]
          rw [← e]
          exact ih2
        · refine E_nif rfl (fun z => c2 ((zi_eq (by omega) (by omega)).mp z)) ?_
          (iterate 4 (first | refine E_st rfl ?_ | refine E_go rfl ?_))
          refine E_ial rfl rfl (n := 3) (by omega) (by decide) ?_
          (iterate 1 (first | refine E_st rfl ?_ | refine E_go rfl ?_))
          rw [zi_shl 1 (by omega)]
          (iterate 4 (first | refine E_st rfl ?_ | refine E_go rfl ?_))
          rw [zi_not]
          (iterate 3 (first | refine E_st rfl ?_ | refine E_go rfl ?_))
          rw [nI_add]
          have e : byM F s v (k + 1) = an (byM F s v k) (1 <<< F 68 k) := by show (if _ then _ else _) = _; rw [if_pos ⟨c1, c2⟩]
          rw [← e]
          exact ih2
      · refine E_nif rfl (fun z => c1 ((zi_eq (by omega) (by omega)).mp z)) ?_
        (iterate 2 (first | refine E_st rfl ?_ | refine E_go rfl ?_))
        rw [zi_m1]
        (iterate 3 (first | refine E_st rfl ?_ | refine E_go rfl ?_))
        rw [nI_add]
        have e : byM F s v (k + 1) = byM F s v k := by show (if _ then _ else _) = _; rw [if_neg (fun z => c1 z.1)]
        rw [← e]
        exact ih2
    (repeat (first | refine E_st rfl ?_ | refine E_go rfl ?_))
    refine E_if rfl (nI_lt (by omega) (by omega)) ?_
    (repeat (first | refine E_st rfl ?_ | refine E_go rfl ?_))
    by_cases c0 : fxM F v k = 0
    · refine E_if rfl (by rw [c0]; rfl) ?_
      (iterate 2 (first | refine E_st rfl ?_ | refine E_go rfl ?_))
      have e : fxM F v (k + 1) = 0 := by show (if _ then _ else _) = _; rw [if_pos (Or.inl c0)]
      rw [e] at B
      exact B
    · refine E_nif rfl (nI_ne0 (by omega) (by omega)) ?_
      (iterate 3 (first | refine E_st rfl ?_ | refine E_go rfl ?_))
      refine E_ial rfl rfl (n := 3) (by omega) (by decide) ?_
      (repeat (first | refine E_st rfl ?_ | refine E_go rfl ?_))
      by_cases c1 : F 68 k = v
      · refine E_if rfl (by rw [c1]) ?_
        (iterate 2 (first | refine E_st rfl ?_ | refine E_go rfl ?_))
        have e : fxM F v (k + 1) = 0 := by show (if _ then _ else _) = _; rw [if_pos (Or.inr c1)]
        rw [e] at B
        exact B
      · refine E_nif rfl (fun z => c1 ((zi_eq (by omega) (by omega)).mp z)) ?_
        (iterate 3 (first | refine E_st rfl ?_ | refine E_go rfl ?_))
        have e : fxM F v (k + 1) = 1 := by show (if _ then _ else _) = _; rw [if_neg (fun z => z.elim c0 c1)]
        rw [e] at B
        exact B
theorem l_step {s K : Nat} (hs : s < 64) (hn : F 64 0 ≤ 6) (hK : K ≤ 3) (hf : ∀ k, k < K → F 67 k < 8) (ht : ∀ k, k < K → F 68 k < 8) :
    ∀ m v (z5 z6 z7 : Option Value), (z5 = none ∨ ∃ x, z5 = some (.int x)) → (z6 = none ∨ ∃ x, z6 = some (.int x)) → (z7 = none ∨ ∃ x, z7 = some (.int x)) → v + m = F 64 0 → pq_Ev d 121 5 [some (.ref 63), some (.int (nI s)), some (.int (nI K)), some (.int (nI (spM F K s v))), some (.int (nI v)), z5, z6, z7] [] (pq_Sh L, pn F, pl G, pq_rt h) (fun r M' => r = some (.int (nI (stepM F K s))) ∧ M' = (pq_Sh L, pn (F), pl (G), pq_rt h)) := by
  intro m
  induction m with
  | zero =>
    intro v z5 z6 z7 _ _ _ hk
    have hk : v = F 64 0 := by omega
    subst hk
    (repeat (first | refine E_st rfl ?_ | refine E_go rfl ?_))
    simp +decide only [nI_clamp, pn_at, pu_n, pu_l]
    refine E_nif rfl (nI_nlt (Nat.le_refl _) (by omega)) ?_
    (repeat (first | refine E_st rfl ?_ | refine E_go rfl ?_))
    exact E_rt rfl ⟨rfl, rfl⟩
  | succ m ih =>
    intro v z5 z6 z7 h5 h6 h7 hk
    have C : pq_Ev d 121 118 [some (.ref 63), some (.int (nI s)), some (.int (nI K)), some (.int (nI (spM F K s v))), some (.int (nI v)), some (.int (nI (byM F s v K))), some (.int (nI (fxM F v K))), some (.int (nI K))] [] (pq_Sh L, pn F, pl G, pq_rt h) (fun r M' => r = some (.int (nI (stepM F K s))) ∧ M' = (pq_Sh L, pn (F), pl (G), pq_rt h)) := by
      have ih2 := ih (v + 1) (some (.int (nI (byM F s v K)))) (some (.int (nI (fxM F v K)))) (some (.int (nI K))) (Or.inr ⟨_, rfl⟩) (Or.inr ⟨_, rfl⟩) (Or.inr ⟨_, rfl⟩) (by omega)
      have hb := byM_lt (F := F) (v := v) hs K
      have hx := fxM_le (F := F) v K
      (repeat (first | refine E_st rfl ?_ | refine E_go rfl ?_))
      by_cases c0 : fxM F v K = 0
      · refine E_if rfl (by rw [c0]; rfl) ?_
        (iterate 2 (first | refine E_st rfl ?_ | refine E_go rfl ?_))
        rw [show nI (spM F K s v) ||| nI 0 = nI (spM F K s v) by rw [zi_or, Nat.or_zero]]
        (iterate 3 (first | refine E_st rfl ?_ | refine E_go rfl ?_))
        rw [nI_add]
        have e : spM F K s (v + 1) = spM F K s v := by show (if _ then _ else _) = _; rw [if_pos (Or.inl c0)]
        rw [e] at ih2
        exact ih2
      · refine E_nif rfl (nI_ne0 (by omega) (by omega)) ?_
        (repeat (first | refine E_st rfl ?_ | refine E_go rfl ?_))
        by_cases c1 : byM F s v K = 0
        · refine E_if rfl (by rw [c1]; rfl) ?_
          (iterate 2 (first | refine E_st rfl ?_ | refine E_go rfl ?_))
          rw [show nI (spM F K s v) ||| nI 0 = nI (spM F K s v) by rw [zi_or, Nat.or_zero]]
          (iterate 3 (first | refine E_st rfl ?_ | refine E_go rfl ?_))
          rw [nI_add]
          have e : spM F K s (v + 1) = spM F K s v := by show (if _ then _ else _) = _; rw [if_pos (Or.inr c1)]
          rw [e] at ih2
          exact ih2
        · refine E_nif rfl (nI_ne0 (by omega) (by omega)) ?_
          (iterate 3 (first | refine E_st rfl ?_ | refine E_go rfl ?_))
          rw [zi_shl 1 (by omega)]
          (iterate 2 (first | refine E_st rfl ?_ | refine E_go rfl ?_))
          rw [zi_or]
          (iterate 3 (first | refine E_st rfl ?_ | refine E_go rfl ?_))
          rw [nI_add]
          have e : spM F K s (v + 1) = spM F K s v ||| 1 <<< v := by show (if _ then _ else _) = _; rw [if_neg (fun z => z.elim c0 c1)]
          rw [e] at ih2
          exact ih2
    (repeat (first | refine E_st rfl ?_ | refine E_go rfl ?_))
    simp +decide only [nI_clamp, pn_at, pu_n, pu_l]
    refine E_if rfl (nI_lt (by omega) (by omega)) ?_
    (iterate 4 (first | refine E_st rfl ?_ | refine E_go rfl ?_))
    refine E_ial rfl rfl (n := 6) (by omega) (by decide) ?_
    (iterate 3 (first | refine E_st rfl ?_ | refine E_go rfl ?_))
    rw [zi_shl 1 (by omega)]
    (iterate 2 (first | refine E_st rfl ?_ | refine E_go rfl ?_))
    rw [zi_or, zi_and]
    have I := l_step1 (s := s) (nx := spM F K s v) hK (show v < 6 by omega) hf ht C K 0 (by omega)
    rcases h5 with rfl | ⟨x5, rfl⟩ <;> rcases h6 with rfl | ⟨x6, rfl⟩ <;> rcases h7 with rfl | ⟨x7, rfl⟩ <;> ((iterate 5 (first | refine E_st rfl ?_ | refine E_go rfl ?_)); exact I)
theorem g_step {s K : Nat} (hs : s < 64) (hn : F 64 0 ≤ 6) (hK : K ≤ 3) (hf : ∀ k, k < K → F 67 k < 8) (ht : ∀ k, k < K → F 68 k < 8) : pq_Ca (d + 1) 121 [.ref 63, .int (nI s), .int (nI K)] (pq_Sh L, pn F, pl G, pq_rt h) (fun r M' => r = some (.int (nI (stepM F K s))) ∧ M' = (pq_Sh L, pn (F), pl (G), pq_rt h)) := by
  refine Ca_mk rfl rfl ?_
  (iterate 4 (first | refine E_st rfl ?_ | refine E_go rfl ?_))
  exact l_step hs hn hK hf ht (F 64 0) 0 none none none (Or.inl rfl) (Or.inl rfl) (Or.inl rfl) (by omega)
theorem lvM_0 {e1 e2 e3 : Nat} : lvM F e1 e2 e3 0 0 = F := by
  funext p j
  simp only [lvM]
  rw [if_neg (by omega), if_neg (by omega), if_neg (by omega)]
theorem lvM_s1 {e1 e2 e3 : Nat} (a : Nat) : pq_u (lvM F e1 e2 e3 a 0) 69 a (F 64 (e1 + a)) = lvM F e1 e2 e3 (a + 1) 0 := by
  funext p j
  simp only [pu_at, lvM]
  by_cases c : p = 69 ∧ j = a
  · rw [if_pos c, if_pos ⟨c.1, by omega⟩, c.2]
  · rw [if_neg c]
    by_cases c2 : p = 69 ∧ j < a
    · rw [if_pos c2, if_pos ⟨c2.1, by omega⟩]
    · rw [if_neg c2, if_neg (by omega : ¬ (p = 69 ∧ j < a + 1))]
theorem lvM_s2 {e1 e2 e3 : Nat} (b : Nat) : pq_u (pq_u (lvM F e1 e2 e3 6 b) 67 b (F 64 (e2 + b))) 68 b (F 64 (e3 + b)) = lvM F e1 e2 e3 6 (b + 1) := by
  funext p j
  simp only [pu_at, lvM]
  by_cases c : p = 68 ∧ j = b
  · rw [if_pos c, if_neg (by omega), if_neg (by omega), if_pos ⟨c.1, by omega⟩, c.2]
  · rw [if_neg c]
    by_cases c2 : p = 67 ∧ j = b
    · rw [if_pos c2, if_neg (by omega : ¬ (p = 69 ∧ j < 6)), if_pos ⟨c2.1, by omega⟩, c2.2]
    · rw [if_neg c2]
      by_cases c3 : p = 69 ∧ j < 6
      · rw [if_pos c3, if_pos c3]
      · rw [if_neg c3, if_neg c3]
        by_cases c4 : p = 67 ∧ j < b
        · rw [if_pos c4, if_pos ⟨c4.1, by omega⟩]
        · rw [if_neg c4, if_neg (by omega : ¬ (p = 67 ∧ j < b + 1))]
          by_cases c5 : p = 68 ∧ j < b
          · rw [if_pos c5, if_pos ⟨c5.1, by omega⟩]
          · rw [if_neg c5, if_neg (by omega)]
theorem lv64 {e1 e2 e3 a b : Nat} (j : Nat) : lvM F e1 e2 e3 a b 64 j = F 64 j := by
  simp only [lvM]
  rw [if_neg (by omega), if_neg (by omega), if_neg (by omega)]
theorem lv_off {e1 e2 e3 a b p j : Nat} (h1 : p < 67 ∨ 69 < p) : lvM F e1 e2 e3 a b p j = F p j := by
  simp only [lvM]
  rw [if_neg (by omega), if_neg (by omega), if_neg (by omega)]
theorem lv69 {e1 e2 e3 b j : Nat} (hj : j < 6) : lvM F e1 e2 e3 6 b 69 j = F 64 (e1 + j) := by
  simp only [lvM]
  rw [if_pos ⟨trivial, hj⟩]
theorem lv67 {e1 e2 e3 a j : Nat} (hj : j < 3) : lvM F e1 e2 e3 a 3 67 j = F 64 (e2 + j) := by
  simp only [lvM]
  rw [if_neg (by omega), if_pos ⟨trivial, hj⟩]
theorem lv68 {e1 e2 e3 a j : Nat} (hj : j < 3) : lvM F e1 e2 e3 a 3 68 j = F 64 (e3 + j) := by
  simp only [lvM]
  rw [if_neg (by omega), if_neg (by omega), if_pos ⟨trivial, hj⟩]
theorem l_looks2 : ∀ m b, b + m = 3 → pq_Ev d 123 30 [some (.ref 63), some (.int (nI b))] [] (pq_Sh L, pn (lvM F 5 11 14 6 b), pl G, pq_rt h) (fun r M' => r = none ∧ M' = (pq_Sh L, pn (lvM F 5 11 14 6 3), pl (G), pq_rt h)) := by
  intro m
  induction m with
  | zero =>
    intro b hb
    have hb : b = 3 := by omega
    subst hb
    (repeat (first | refine E_st rfl ?_ | refine E_go rfl ?_))
    refine E_nif rfl (by decide) ?_
    exact E_rt rfl ⟨rfl, rfl⟩
  | succ m ih =>
    intro b hb
    (repeat (first | refine E_st rfl ?_ | refine E_go rfl ?_))
    refine E_if rfl (nI_lt (by omega) (by decide)) ?_
    (iterate 8 (first | refine E_st rfl ?_ | refine E_go rfl ?_))
    rw [nI_add]
    refine E_ial rfl rfl (n := 144) (by omega) (by decide) ?_
    rw [lv64]
    refine E_ias rfl rfl (n := 3) (by omega) (by decide) (by decide) ?_
    (iterate 8 (first | refine E_st rfl ?_ | refine E_go rfl ?_))
    rw [nI_add]
    refine E_ial rfl rfl (n := 144) (by omega) (by decide) ?_
    rw [pu_off (by decide), lv64]
    refine E_ias rfl rfl (n := 3) (by omega) (by decide) (by decide) ?_
    rw [lvM_s2]
    (iterate 2 (first | refine E_st rfl ?_ | refine E_go rfl ?_))
    rw [nI_add]
    exact ih (b + 1) (by omega)
theorem l_looks1 : ∀ m a, a + m = 6 → pq_Ev d 123 2 [some (.ref 63), some (.int (nI a))] [] (pq_Sh L, pn (lvM F 5 11 14 a 0), pl G, pq_rt h) (fun r M' => r = none ∧ M' = (pq_Sh L, pn (lvM F 5 11 14 6 3), pl (G), pq_rt h)) := by
  intro m
  induction m with
  | zero =>
    intro a ha
    have ha : a = 6 := by omega
    subst ha
    (repeat (first | refine E_st rfl ?_ | refine E_go rfl ?_))
    refine E_nif rfl (by decide) ?_
    (iterate 2 (first | refine E_st rfl ?_ | refine E_go rfl ?_))
    exact l_looks2 3 0 rfl
  | succ m ih =>
    intro a ha
    (repeat (first | refine E_st rfl ?_ | refine E_go rfl ?_))
    refine E_if rfl (nI_lt (by omega) (by decide)) ?_
    (iterate 8 (first | refine E_st rfl ?_ | refine E_go rfl ?_))
    rw [nI_add]
    refine E_ial rfl rfl (n := 144) (by omega) (by decide) ?_
    rw [lv64]
    refine E_ias rfl rfl (n := 6) (by omega) (by decide) (by decide) ?_
    rw [lvM_s1]
    (iterate 2 (first | refine E_st rfl ?_ | refine E_go rfl ?_))
    rw [nI_add]
    exact ih (a + 1) (by omega)
theorem g_looks : pq_Ca (d + 1) 123 [.ref 63] (pq_Sh L, pn F, pl G, pq_rt h) (fun r M' => r = none ∧ M' = (pq_Sh L, pn (lvM F 5 11 14 6 3), pl (G), pq_rt h)) := by
  have := l_looks1 (d := d) (L := L) (F := F) (G := G) (h := h) 6 0 rfl
  rw [lvM_0] at this
  refine Ca_mk rfl rfl ?_
  (iterate 2 (first | refine E_st rfl ?_ | refine E_go rfl ?_))
  exact this
end MOI
