abbrev FF : Type := Nat → Nat → Nat
/-- the situations to which a turn can lead, by rising orders, with the moves -/
def ords (n pa : Nat) (pos : Nat → Nat) : Nat → Nat → Nat → Nat → Nat → List (Nat × Nat)
  | 0, _, w, rc, mv => [(rc * 64 + wEnds w, mv)]
  | m + 1, k, w, rc, mv => (List.range n).flatMap (fun t => if (wFrom pa (pos k)).testBit t then ords n pa pos m (k + 1) (an w (wClosed (pos k) t)) (rc * 6 + t) (if t = pos k then mv else mv + 1) else [])
def arrs (A : Nat → Nat → FF → FF) (l : List (Nat × Nat)) (F : FF) : FF := l.foldl (fun F s => A s.1 s.2 F) F
theorem arrs_app (A : Nat → Nat → FF → FF) (a b : List (Nat × Nat)) (F : FF) : arrs A (a ++ b) F = arrs A b (arrs A a F) := by unfold arrs; rw [List.foldl_append]
theorem ords_ok {n pa : Nat} {pos : Nat → Nat} (hn : n ≤ 6) : ∀ m k w rc mv, rc < 6 ^ k → mv ≤ k → ∀ s ∈ ords n pa pos m k w rc mv, s.1 < 64 * 6 ^ (k + m) ∧ s.2 ≤ k + m := by
  intro m
  induction m with
  | zero =>
    intro k w rc mv hrc hmv s hs
    simp only [ords, List.mem_singleton] at hs
    subst hs
    have := wEnds_lt w
    refine ⟨?_, by simpa using hmv⟩
    show rc * 64 + wEnds w < 64 * 6 ^ (k + 0)
    rw [Nat.add_zero]; omega
  | succ m ih =>
    intro k w rc mv hrc hmv s hs
    simp only [ords, List.mem_flatMap, List.mem_range] at hs
    obtain ⟨t, ht, hs⟩ := hs
    split at hs
    · have := ih (k + 1) _ _ _ (show rc * 6 + t < 6 ^ (k + 1) by rw [Nat.pow_succ]; omega) (show (if t = pos k then mv else mv + 1) ≤ k + 1 by split <;> omega) s hs
      rw [show k + 1 + m = k + (m + 1) by omega] at this
      exact this
    · exact absurd hs List.not_mem_nil
section SR2
variable {d L q n K pa dA : Nat} {G : Nat → Nat → Nat} {h pos : Nat → Nat} {Inv : FF → Prop} {A : Nat → Nat → FF → FF}
/-- what arrive does, and what it keeps -/
def arOk (L q n K dA : Nat) (G : FF) (h pos : Nat → Nat) (Inv : FF → Prop) (A : Nat → Nat → FF → FF) : Prop :=
  (∀ F, Inv F → F q 0 = n ∧ F q 2 = K ∧ ∀ k, k < K → F (q + 1) k = pos k) ∧
  ∀ F s mv, Inv F → s < 64 * 6 ^ K → mv ≤ K → Inv (A s mv F) ∧ pq_Ca dA (arJ q) [.ref q, .int (nI s), .int (nI mv)] (pq_Sh L, pn F, pl G, pq_rt h) (fun r M' => r = none ∧ M' = (pq_Sh L, pn (A s mv F), pl (G), pq_rt h))
theorem arrs_inv (ha : arOk L q n K dA G h pos Inv A) : ∀ (l : List (Nat × Nat)) (F : FF), (∀ s ∈ l, s.1 < 64 * 6 ^ K ∧ s.2 ≤ K) → Inv F → Inv (arrs A l F) := by
  intro l
  induction l with
  | nil => intro F _ hF; exact hF
  | cons a l ih =>
    intro F hl hF
    have h1 := hl a List.mem_cons_self
    exact ih (A a.1 a.2 F) (fun s hs => hl s (List.mem_cons_of_mem _ hs)) (ha.2 F a.1 a.2 hF h1.1 h1.2).1
set_option maxHeartbeats 4000000 in
theorem s_give (hq : qOk q) (hn : n ≤ 6) (hK : K ≤ 3) (hpa : pa < 2 ^ 63) (hG : G q 1 = pa) (hpos : ∀ k, k < K → pos k < 6) (ha : arOk L q n K dA G h pos Inv A) :
    ∀ m k w rc mv (F : FF), k + m = K → Inv F → w < 2 ^ 63 → rc < 6 ^ k → mv ≤ k →
      pq_Ca (dA + m + 3) 35 [.ref q, .int (nI k), .long (lN w), .int (nI rc), .int (nI mv)] (pq_Sh L, pn F, pl G, pq_rt h) (fun r M' => r = none ∧ M' = (pq_Sh L, pn (arrs A (ords n pa pos m k w rc mv) F), pl (G), pq_rt h)) := by
  intro m
  induction m with
  | zero =>
    intro k w rc mv F hkm hF hw hrc hmv
    obtain ⟨f0, f2, f1⟩ := ha.1 F hF
    have hkK : k = K := by omega
    have hends := wEnds_lt w
    have hs : rc * 64 + wEnds w < 64 * 6 ^ K := by rw [← hkK]; omega
    have har := (ha.2 F (rc * 64 + wEnds w) mv hF hs (by omega)).2
    rcases hq with rfl | rfl | rfl
    all_goals
      refine Ca_mk rfl rfl ?_
      (repeat (first | refine E_st rfl ?_ | refine E_go rfl ?_))
      refine E_nif rfl (by rw [pn_at, f2, hkK]; exact nI_nlt (Nat.le_refl _) (by omega)) ?_
      (repeat (first | refine E_st rfl ?_ | refine E_go rfl ?_))
      refine E_cx rfl (by omega) (c_ends (d := 0) (Nat.lt_trans hw (by decide))) ?_
      (repeat (first | refine E_st rfl ?_ | refine E_go rfl ?_))
      rw [pk_mul, nI_add]
      refine E_cx rfl (by omega) har ?_
      exact E_rt rfl ⟨rfl, rfl⟩
  | succ m ih =>
    intro k w rc mv F hkm hF hw hrc hmv
    have hkK : k < K := by omega
    have hp := hpos k hkK
    generalize hf : (fun t => if (wFrom pa (pos k)).testBit t then ords n pa pos m (k + 1) (an w (wClosed (pos k) t)) (rc * 6 + t) (if t = pos k then mv else mv + 1) else []) = f
    have hordsE : ords n pa pos (m + 1) k w rc mv = (List.range n).flatMap f := by rw [← hf]; rfl
    have hfok : ∀ t, t < n → ∀ s ∈ f t, s.1 < 64 * 6 ^ K ∧ s.2 ≤ K := by
      intro t ht s hs
      have h1 := ords_ok (pa := pa) (pos := pos) hn (m + 1) k w rc mv hrc hmv s (by rw [hordsE]; exact List.mem_flatMap.mpr ⟨t, List.mem_range.mpr ht, hs⟩)
      rw [hkm] at h1
      exact h1
    have hFt : ∀ t, t ≤ n → Inv (arrs A ((List.range t).flatMap f) F) := by
      intro t ht
      refine arrs_inv ha _ _ (fun s hs => ?_) hF
      obtain ⟨t2, ht2, hs2⟩ := List.mem_flatMap.mp hs
      exact hfok t2 (by have := List.mem_range.mp ht2; omega) s hs2
    have loop : ∀ r t (z : Option Value), t + r = n → pq_Ev (dA + (m + 1) + 2) 35 52 [some (.ref q), some (.int (nI k)), some (.long (lN w)), none, some (.int (nI rc)), some (.int (nI mv)), some (.int (nI (pos k))), some (.int (nI (wFrom pa (pos k)))), some (.int (nI t)), z, none] [] (pq_Sh L, pn (arrs A ((List.range t).flatMap f) F), pl G, pq_rt h) (fun r M' => r = none ∧ M' = (pq_Sh L, pn (arrs A ((List.range n).flatMap f) F), pl (G), pq_rt h)) := by
      intro r
      induction r with
      | zero =>
        intro t z ht
        have ht : t = n := by omega
        subst ht
        obtain ⟨f0, f2, f1⟩ := ha.1 _ (hFt t (Nat.le_refl _))
        refine E_fo 9 ?_
        rcases hq with rfl | rfl | rfl
        all_goals
          (repeat (first | refine E_st rfl ?_ | refine E_go rfl ?_))
          refine E_nif rfl (by rw [pn_at, f0]; exact nI_nlt (Nat.le_refl _) (by omega)) ?_
          exact E_rt rfl ⟨rfl, rfl⟩
      | succ r ihr =>
        intro t z ht
        obtain ⟨f0, f2, f1⟩ := ha.1 _ (hFt t (by omega))
        have hrs : arrs A ((List.range (t + 1)).flatMap f) F = arrs A (f t) (arrs A ((List.range t).flatMap f) F) := by
          rw [List.range_succ, List.flatMap_append, arrs_app]; simp
        have hrow : wFrom pa (pos k) < 64 := Nat.and_lt_two_pow _ (by decide : 63 < 2 ^ 6)
        have hnext := ihr (t + 1)
        rw [hrs] at hnext
        refine E_fo 9 ?_
        by_cases hb : (wFrom pa (pos k)).testBit t = true
        · have hft : f t = ords n pa pos m (k + 1) (an w (wClosed (pos k) t)) (rc * 6 + t) (if t = pos k then mv else mv + 1) := by rw [← hf]; exact if_pos hb
          rw [hft] at hnext
          have hgo := ih (k + 1) (an w (wClosed (pos k) t)) (rc * 6 + t) (if t = pos k then mv else mv + 1) (arrs A ((List.range t).flatMap f) F) (by omega) (hFt t (by omega)) (Nat.lt_of_le_of_lt (an_le _ _) hw) (by rw [Nat.pow_succ]; omega) (by split <;> omega)
          rcases hq with rfl | rfl | rfl
          all_goals
            (repeat (first | refine E_st rfl ?_ | refine E_go rfl ?_))
            refine E_if rfl (by rw [pn_at, f0]; exact nI_lt (by omega) (by omega)) ?_
            (repeat (first | refine E_st rfl ?_ | refine E_go rfl ?_))
            refine E_cx rfl (by omega) (c_contains (d := 0) (Nat.lt_trans hrow (by decide)) (by omega)) ?_
            rw [if_pos hb]
            refine E_nif rfl (nI_ne0 (by decide) (by decide)) ?_
            (repeat (first | refine E_st rfl ?_ | refine E_go rfl ?_))
            refine E_cx rfl (by omega) (c_closed (d := 0) hp (by omega)) ?_
            (repeat (first | refine E_st rfl ?_ | refine E_go rfl ?_))
            rw [zl_not, pk_mul, nI_add, nI_add]
            by_cases hto : t = pos k
            · rw [if_pos hto] at hgo hnext
              refine E_if rfl (by rw [hto]) ?_
              (repeat (first | refine E_st rfl ?_ | refine E_go rfl ?_))
              refine E_cx rfl (by omega) hgo ?_
              (iterate 2 (first | refine E_st rfl ?_ | refine E_go rfl ?_))
              rw [nI_add]
              exact hnext _ (by omega)
            · rw [if_neg hto] at hgo hnext
              refine E_nif rfl (fun e => hto ((nI_eq (by omega) (by omega)).mp e)) ?_
              (repeat (first | refine E_st rfl ?_ | refine E_go rfl ?_))
              rw [nI_add]
              refine E_cx rfl (by omega) hgo ?_
              (iterate 2 (first | refine E_st rfl ?_ | refine E_go rfl ?_))
              rw [nI_add]
              exact hnext _ (by omega)
        · have hft : f t = [] := by rw [← hf]; exact if_neg hb
          rw [hft] at hnext
          rcases hq with rfl | rfl | rfl
          all_goals
            (repeat (first | refine E_st rfl ?_ | refine E_go rfl ?_))
            refine E_if rfl (by rw [pn_at, f0]; exact nI_lt (by omega) (by omega)) ?_
            (repeat (first | refine E_st rfl ?_ | refine E_go rfl ?_))
            refine E_cx rfl (by omega) (c_contains (d := 0) (Nat.lt_trans hrow (by decide)) (by omega)) ?_
            rw [if_neg hb]
            refine E_if rfl rfl ?_
            (iterate 2 (first | refine E_st rfl ?_ | refine E_go rfl ?_))
            rw [nI_add]
            exact hnext none (by omega)
    obtain ⟨f0, f2, f1⟩ := ha.1 F hF
    have h0 := loop n 0 none (Nat.zero_add n)
    rw [hordsE]
    rcases hq with rfl | rfl | rfl
    all_goals
      refine Ca_mk rfl rfl ?_
      (repeat (first | refine E_st rfl ?_ | refine E_go rfl ?_))
      refine E_if rfl (by rw [pn_at, f2]; exact nI_lt hkK (by omega)) ?_
      (repeat (first | refine E_st rfl ?_ | refine E_go rfl ?_))
      refine E_if rfl (nI_lt (by omega) (by decide)) ?_
      (repeat (first | refine E_st rfl ?_ | refine E_go rfl ?_))
      refine E_ial rfl rfl (n := 3) (by omega) (by decide) ?_
      rw [f1 k hkK]
      (repeat (first | refine E_st rfl ?_ | refine E_go rfl ?_))
      rw [pl_at, hG]
      refine E_cx rfl (by omega) (c_from (d := 0) (Nat.lt_trans hpa (by decide)) hp) ?_
      (iterate 3 (first | refine E_st rfl ?_ | refine E_go rfl ?_))
      exact h0
/-- expand: the searchers are placed, then every order is given -/
theorem s_expand (hq : qOk q) {F : FF} (hn : n ≤ 6) (hK : K ≤ 3) (hpa : pa < 2 ^ 63) (hG : G q 1 = pa) (hpos : ∀ k, k < K → pos k < 6) (ha : arOk L q n K dA G h pos Inv A) {sit : Nat} (hs : sit < 2 ^ 31) (h2 : F q 2 = K) (hI : Inv (plF F (q + 1) K (sit / 64))) :
    pq_Ca (dA + K + 5) 33 [.ref q, .int (nI sit)] (pq_Sh L, pn F, pl G, pq_rt h) (fun r M' => r = none ∧ M' = (pq_Sh L, pn (arrs A (ords n pa pos K 0 (wOnly pa (sit % 64)) 0 0) (plF F (q + 1) K (sit / 64))), pl (G), pq_rt h)) := by
  have hpl := s_place (d := 0) (L := L) (G := G) (h := h) (F := F) hq (by rw [h2]; exact hK) hs
  rw [h2] at hpl
  have hgo := s_give hq hn hK hpa hG hpos ha K 0 (wOnly pa (sit % 64)) 0 0 _ (Nat.zero_add K) hI (Nat.lt_of_le_of_lt Nat.and_le_left hpa) (by decide) (Nat.le_refl _)
  rcases hq with rfl | rfl | rfl
  all_goals
    refine Ca_mk rfl rfl ?_
    (repeat (first | refine E_st rfl ?_ | refine E_go rfl ?_))
    refine E_cx rfl (by omega) hpl ?_
    (repeat (first | refine E_st rfl ?_ | refine E_go rfl ?_))
    rw [pk_rem hs (by decide) (by decide), pl_at, hG]
    refine E_cx rfl (by omega) (c_only (d := 0) (by omega)) ?_
    (repeat (first | refine E_st rfl ?_ | refine E_go rfl ?_))
    refine E_cx rfl (by omega) hgo ?_
    exact E_rt rfl ⟨rfl, rfl⟩
end SR2
