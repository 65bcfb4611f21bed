/-! Search: places q (52 or 56: TurnSearch; 60: MoveSearch), q + 1 (at), q + 2 (cameFrom or prices), q + 3 (queue) -/
abbrev N1 : Nat := 4294967295
abbrev N2 : Nat := 4294967294
theorem zm1 : (-1 : Int32) = nI N1 := by decide
theorem zm2 : (-2 : Int32) = nI N2 := by decide
theorem zi_eq {a b : Nat} (ha : a < 2 ^ 32) (hb : b < 2 ^ 32) : nI a = nI b ↔ a = b := by
  constructor
  · intro e
    have := congrArg (fun z : Int32 => z.toBitVec.toNat) e
    simpa [pk_tn ha, pk_tn hb] using this
  · intro e; rw [e]
def qOk (q : Nat) : Prop := q = 52 ∨ q = 56 ∨ q = 60
def arJ (q : Nat) : Nat := if q = 60 then 46 else 40
def nmF (F : Nat → Nat → Nat) (tp : Nat) : Nat → Nat
  | 0 => 0
  | k + 1 => nmF F tp k * 6 + F tp k
def clF (F : Nat → Nat → Nat) (rp b : Nat) : Nat → Nat → Nat := fun p j => if p = rp ∧ j < b then N1 else F p j
theorem clF_0 (F : Nat → Nat → Nat) (rp : Nat) : clF F rp 0 = F := by funext p j; simp [clF]
theorem clF_s (F : Nat → Nat → Nat) (rp b : Nat) : pq_u (clF F rp b) rp b N1 = clF F rp (b + 1) := by
  funext p j
  simp only [clF, pu_at]
  by_cases hp : p = rp
  · by_cases hj : j = b
    · rw [if_pos ⟨hp, hj⟩, if_pos ⟨hp, by omega⟩]
    · rw [if_neg (fun q => hj q.2)]
      by_cases hl : j < b
      · rw [if_pos ⟨hp, hl⟩, if_pos ⟨hp, by omega⟩]
      · rw [if_neg (fun q => hl q.2), if_neg (fun q => hl (by omega))]
  · rw [if_neg (fun q => hp q.1), if_neg (fun q => hp q.1), if_neg (fun q => hp q.1)]
def plF (F : Nat → Nat → Nat) (ap : Nat) : Nat → Nat → Nat → Nat → Nat
  | 0, _ => F
  | i + 1, rest => plF (pq_u F ap i (rest % 6)) ap i (rest / 6)
theorem plF_off {ap : Nat} : ∀ (i rest : Nat) (F : Nat → Nat → Nat) (p j : Nat), ¬ (p = ap ∧ j < i) → plF F ap i rest p j = F p j := by
  intro i
  induction i with
  | zero => intro rest F p j _; rfl
  | succ i ih =>
    intro rest F p j hp
    simp only [plF]
    rw [ih _ _ _ _ (fun q => hp ⟨q.1, by omega⟩), pu_at, if_neg (fun q => hp ⟨q.1, by omega⟩)]
theorem plF_in {ap : Nat} : ∀ (i rest : Nat) (F : Nat → Nat → Nat) (j : Nat), j < i → plF F ap i rest ap j = rest / 6 ^ (i - 1 - j) % 6 := by
  intro i
  induction i with
  | zero => intro rest F j hj; omega
  | succ i ih =>
    intro rest F j hj
    simp only [plF]
    by_cases hji : j = i
    · subst hji
      rw [plF_off _ _ _ _ _ (by omega), pu_at, if_pos ⟨rfl, rfl⟩]
      simp
    · rw [ih _ _ _ (by omega), Nat.div_div_eq_div_mul, ← Nat.pow_succ', show (i - 1 - j).succ = i + 1 - 1 - j by omega]
section SR1
variable {d L q : Nat} {F G : Nat → Nat → Nat} {h : Nat → Nat}
theorem s_prepare (hq : qOk q) {n w K : Nat} : pq_Ca (d + 1) 29 [.ref q, .int (nI n), .long (lN w), .int (nI K)] (pq_Sh L, pn F, pl G, pq_rt h) (fun r M' => r = none ∧ M' = (pq_Sh L, pn (pq_u (pq_u F q 0 n) q 2 K), pl (pq_u G q 1 w), pq_rt h)) := by
  rcases hq with rfl | rfl | rfl
  all_goals
    refine Ca_mk rfl rfl ?_
    (repeat (first | refine E_st rfl ?_ | refine E_go rfl ?_))
    simp only [pu_n, pu_l, pc_n, pc_l]
    exact E_rt rfl ⟨rfl, rfl⟩
theorem l_bound (hq : qOk q) (hK : F q 2 ≤ 3) : ∀ m k, k + m = F q 2 → pq_Ev d 31 5 [some (.ref q), some (.int (nI (64 * 6 ^ k))), some (.int (nI k))] [] (pq_Sh L, pn F, pl G, pq_rt h) (fun r M' => r = some (.int (nI (64 * 6 ^ F q 2))) ∧ M' = (pq_Sh L, pn (F), pl (G), pq_rt h)) := by
  intro m
  induction m with
  | zero =>
    intro k hk
    have hk : k = F q 2 := by omega
    subst hk
    rcases hq with rfl | rfl | rfl
    all_goals
      (repeat (first | refine E_st rfl ?_ | refine E_go rfl ?_))
      refine E_nif rfl (nI_nlt (Nat.le_refl _) (by omega)) ?_
      (repeat (first | refine E_st rfl ?_ | refine E_go rfl ?_))
      exact E_rt rfl ⟨rfl, rfl⟩
  | succ m ih =>
    intro k hk
    have h1 := ih (k + 1) (by omega)
    rcases hq with rfl | rfl | rfl
    all_goals
      (iterate 3 (first | refine E_st rfl ?_ | refine E_go rfl ?_))
      refine E_if rfl (nI_lt (by omega) (by omega)) ?_
      (iterate 6 (first | refine E_st rfl ?_ | refine E_go rfl ?_))
      rw [pk_mul, nI_add, Nat.mul_assoc, ← Nat.pow_succ]
      exact h1
theorem s_bound (hq : qOk q) (hK : F q 2 ≤ 3) : pq_Ca (d + 1) 31 [.ref q] (pq_Sh L, pn F, pl G, pq_rt h) (fun r M' => r = some (.int (nI (64 * 6 ^ F q 2))) ∧ M' = (pq_Sh L, pn (F), pl (G), pq_rt h)) := by
  refine Ca_mk rfl rfl ?_
  (iterate 4 (first | refine E_st rfl ?_ | refine E_go rfl ?_))
  exact l_bound hq hK (F q 2) 0 (by omega)
theorem l_number (hq : qOk q) (hK : F q 2 ≤ 3) {s : Nat} : ∀ m k, k + m = F q 2 → pq_Ev d 32 5 [some (.ref q), some (.ref 3), some (.int (nI s)), some (.int (nI (nmF F 3 k))), some (.int (nI k))] [] (pq_Sh L, pn F, pl G, pq_rt h) (fun r M' => r = some (.int (nI (nmF F 3 (F q 2) * 64 + s))) ∧ M' = (pq_Sh L, pn (F), pl (G), pq_rt h)) := by
  intro m
  induction m with
  | zero =>
    intro k hk
    have hk : k = F q 2 := by omega
    subst hk
    rcases hq with rfl | rfl | rfl
    all_goals
      (repeat (first | refine E_st rfl ?_ | refine E_go rfl ?_))
      refine E_nif rfl (nI_nlt (Nat.le_refl _) (by omega)) ?_
      (repeat (first | refine E_st rfl ?_ | refine E_go rfl ?_))
      refine E_rt rfl ⟨?_, rfl⟩
      rw [pk_mul, nI_add]
  | succ m ih =>
    intro k hk
    have h1 := ih (k + 1) (by omega)
    rcases hq with rfl | rfl | rfl
    all_goals
      (iterate 3 (first | refine E_st rfl ?_ | refine E_go rfl ?_))
      refine E_if rfl (nI_lt (by omega) (by omega)) ?_
      (repeat (first | refine E_st rfl ?_ | refine E_go rfl ?_))
      refine E_ial rfl rfl (by omega) (by decide) ?_
      (iterate 4 (first | refine E_st rfl ?_ | refine E_go rfl ?_))
      rw [pk_mul, nI_add, nI_add]
      exact h1
theorem s_number (hq : qOk q) (hK : F q 2 ≤ 3) {s : Nat} : pq_Ca (d + 1) 32 [.ref q, .ref 3, .int (nI s)] (pq_Sh L, pn F, pl G, pq_rt h) (fun r M' => r = some (.int (nI (nmF F 3 (F q 2) * 64 + s))) ∧ M' = (pq_Sh L, pn (F), pl (G), pq_rt h)) := by
  refine Ca_mk rfl rfl ?_
  (iterate 4 (first | refine E_st rfl ?_ | refine E_go rfl ?_))
  exact l_number hq hK (F q 2) 0 (by omega)
theorem l_clear (hq : qOk q) {b : Nat} (hb : b ≤ 13824) : ∀ m k, k + m = b → pq_Ev d 30 7 [some (.ref q), some (.ref (q + 2)), some (.int (nI b)), some (.int (nI k))] [] (pq_Sh L, pn (clF F (q + 2) k), pl G, pq_rt h) (fun r M' => r = none ∧ M' = (pq_Sh L, pn (clF F (q + 2) b), pl (G), pq_rt h)) := by
  intro m
  induction m with
  | zero =>
    intro k hk
    have hk : k = b := by omega
    subst hk
    (repeat (first | refine E_st rfl ?_ | refine E_go rfl ?_))
    refine E_nif rfl (nI_nlt (Nat.le_refl _) (by omega)) ?_
    exact E_rt rfl ⟨rfl, rfl⟩
  | succ m ih =>
    intro k hk
    have h1 := ih (k + 1) (by omega)
    (repeat (first | refine E_st rfl ?_ | refine E_go rfl ?_))
    refine E_if rfl (nI_lt (by omega) (by omega)) ?_
    (repeat (first | refine E_st rfl ?_ | refine E_go rfl ?_))
    rw [zm1]
    refine E_ias rfl (n := 13824) (by rcases hq with rfl | rfl | rfl <;> rfl) (by omega) (by decide) (by rcases hq with rfl | rfl | rfl <;> decide) ?_
    (iterate 2 (first | refine E_st rfl ?_ | refine E_go rfl ?_))
    rw [nI_add, clF_s]
    exact h1
theorem s_clear (hq : qOk q) (hK : F q 2 ≤ 3) : pq_Ca (d + 2) 30 [.ref q, .ref (q + 2)] (pq_Sh L, pn F, pl G, pq_rt h) (fun r M' => r = none ∧ M' = (pq_Sh L, pn (clF F (q + 2) (64 * 6 ^ F q 2)), pl (G), pq_rt h)) := by
  have hb : 64 * 6 ^ F q 2 ≤ 13824 := by
    have : 6 ^ F q 2 ≤ 6 ^ 3 := Nat.pow_le_pow_right (by decide) hK
    omega
  have h1 := l_clear (d := d + 1) (L := L) (F := F) (G := G) (h := h) hq hb (64 * 6 ^ F q 2) 0 (by omega)
  rw [clF_0] at h1
  have h2 := s_bound (d := d) (L := L) (F := F) (G := G) (h := h) hq hK
  rcases hq with rfl | rfl | rfl
  all_goals
    refine Ca_mk rfl rfl ?_
    (repeat (first | refine E_st rfl ?_ | refine E_go rfl ?_))
    refine E_cx rfl (Nat.le_refl _) h2 ?_
    (iterate 3 (first | refine E_st rfl ?_ | refine E_go rfl ?_))
    exact h1
theorem zsub1 (c : Nat) : nI c - nI 1 = nI c + (-1) := by
  have : nI c - nI 1 = nI c + (-1) := by rw [Int32.sub_eq_add_neg]; rfl
  exact this
theorem l_place (hq : qOk q) {sit : Nat} : ∀ c rest (F : Nat → Nat → Nat), c ≤ 3 → rest < 2 ^ 31 → pq_Ev d 34 12 [some (.ref q), some (.int (nI sit)), some (.int (nI rest)), some (.int (nI c + (-1)))] [] (pq_Sh L, pn F, pl G, pq_rt h) (fun r M' => r = none ∧ M' = (pq_Sh L, pn (plF F (q + 1) c rest), pl (G), pq_rt h)) := by
  intro c
  induction c with
  | zero =>
    intro rest F hc hr
    (iterate 1 (first | refine E_st rfl ?_ | refine E_go rfl ?_))
    refine E_if rfl (by decide) ?_
    exact E_rt rfl ⟨rfl, rfl⟩
  | succ c ih =>
    intro rest F hc hr
    rw [pk_m1]
    have h1 := ih (rest / 6) (pq_u F (q + 1) c (rest % 6)) (by omega) (by omega)
    rcases hq with rfl | rfl | rfl
    all_goals
      (iterate 1 (first | refine E_st rfl ?_ | refine E_go rfl ?_))
      refine E_nif rfl (nI_pos (by omega)) ?_
      (repeat (first | refine E_st rfl ?_ | refine E_go rfl ?_))
      rw [pk_rem hr (by decide) (by decide)]
      refine E_ias rfl rfl (n := 3) (by omega) (by decide) (by decide) ?_
      (iterate 6 (first | refine E_st rfl ?_ | refine E_go rfl ?_))
      rw [pk_div hr (by decide) (by decide)]
      exact h1
theorem s_place (hq : qOk q) (hK : F q 2 ≤ 3) {sit : Nat} (hs : sit < 2 ^ 31) : pq_Ca (d + 1) 34 [.ref q, .int (nI sit)] (pq_Sh L, pn F, pl G, pq_rt h) (fun r M' => r = none ∧ M' = (pq_Sh L, pn (plF F (q + 1) (F q 2) (sit / 64)), pl (G), pq_rt h)) := by
  have h1 := l_place (d := d) (L := L) (G := G) (h := h) hq (sit := sit) (F q 2) (sit / 64) F hK (by omega)
  rcases hq with rfl | rfl | rfl
  all_goals
    refine Ca_mk rfl rfl ?_
    (iterate 9 (first | refine E_st rfl ?_ | refine E_go rfl ?_))
    rw [pn_at, zsub1, pk_div hs (by decide) (by decide)]
    exact h1
end SR1
