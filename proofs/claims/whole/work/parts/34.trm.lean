theorem zne1 {x : Nat} (h : x < 13824) : ¬ nI x = (-1 : Int32) := fun z => absurd ((zi_eq (Nat.lt_trans h (by decide)) (by decide)).mp (z.trans zm1)) (by show ¬ x = 4294967295; omega)
theorem zne2 {x : Nat} (h : x < 13824) : ¬ nI x = (-2 : Int32) := fun z => absurd ((zi_eq (Nat.lt_trans h (by decide)) (by decide)).mp (z.trans zm2)) (by show ¬ x = 4294967294; omega)
def tCh (F : FF) (q : Nat) : Nat → Nat → Prop
  | 0, s => s < 13824 ∧ F (q + 2) s = N2
  | k + 1, s => s < 13824 ∧ F (q + 2) s < 13824 ∧ tCh F q k (F (q + 2) s)
def tUp (F : FF) (q : Nat) : Nat → Nat → Nat
  | 0, s => s
  | k + 1, s => tUp F q k (F (q + 2) s)
theorem tCh_lt {F : FF} {q k s : Nat} (h : tCh F q k s) : s < 13824 := by cases k <;> exact h.1
theorem tCh_up {F : FF} {q : Nat} : ∀ (j k s : Nat), tCh F q (j + k) s → tCh F q k (tUp F q j s) := by
  intro j
  induction j with
  | zero => intro k s h; rw [Nat.zero_add] at h; exact h
  | succ j ih =>
    intro k s h
    rw [show j + 1 + k = (j + k) + 1 by omega] at h
    exact ih k _ h.2.2
section TRM
variable {d L q n K pa : Nat} {F G : Nat → Nat → Nat} {h : Nat → Nat}
theorem l_turns (hq : tOk q) : ∀ m t s, t + m ≤ 13824 → tCh F q m s → pq_Ev d 41 18 [some (.ref q), some (.int (nI t)), some (.int (nI s))] [] (pq_Sh L, pn F, pl G, pq_rt h) (fun r M' => r = some (.int (nI (t + m))) ∧ M' = (pq_Sh L, pn (F), pl (G), pq_rt h)) := by
  intro m
  induction m with
  | zero =>
    intro t s ht hc
    obtain ⟨c1, c2⟩ := hc
    by_cases h1 : t < 13824
    · rcases hq with rfl | rfl
      all_goals
        (repeat (first | refine E_st rfl ?_ | refine E_go rfl ?_))
        refine E_if rfl (nI_lt h1 (by decide)) ?_
        (repeat (first | refine E_st rfl ?_ | refine E_go rfl ?_))
        refine E_ial rfl rfl (n := 13824) c1 (by decide) ?_
        (repeat (first | refine E_st rfl ?_ | refine E_go rfl ?_))
        refine E_if rfl (by rw [show (-2 : Int32) = nI N2 from zm2]; exact congrArg nI c2) ?_
        (repeat (first | refine E_st rfl ?_ | refine E_go rfl ?_))
        exact E_rt rfl ⟨rfl, rfl⟩
    · (repeat (first | refine E_st rfl ?_ | refine E_go rfl ?_))
      refine E_nif rfl (nI_nlt (by omega) (by omega)) ?_
      (repeat (first | refine E_st rfl ?_ | refine E_go rfl ?_))
      exact E_rt rfl ⟨rfl, rfl⟩
  | succ m ih =>
    intro t s ht hc
    obtain ⟨c1, c2, c3⟩ := hc
    have hnext := ih (t + 1) _ (by omega) c3
    rw [show t + (m + 1) = t + 1 + m by omega]
    rcases hq with rfl | rfl
    all_goals
      (repeat (first | refine E_st rfl ?_ | refine E_go rfl ?_))
      refine E_if rfl (nI_lt (by omega) (by decide)) ?_
      (repeat (first | refine E_st rfl ?_ | refine E_go rfl ?_))
      refine E_ial rfl rfl (n := 13824) c1 (by decide) ?_
      (repeat (first | refine E_st rfl ?_ | refine E_go rfl ?_))
      refine E_nif rfl (zne2 c2) ?_
      (repeat (first | refine E_st rfl ?_ | refine E_go rfl ?_))
      refine E_ial rfl rfl (n := 13824) c1 (by decide) ?_
      (iterate 3 (first | refine E_st rfl ?_ | refine E_go rfl ?_))
      rw [nI_add]
      exact hnext
theorem t_turns (hq : tOk q) {k : Nat} (hk : k ≤ 13824) (hc : tCh F q k (F q 8)) : pq_Ca (d + 1) 41 [.ref q] (pq_Sh L, pn F, pl G, pq_rt h) (fun r M' => r = some (.int (nI k)) ∧ M' = (pq_Sh L, pn (F), pl (G), pq_rt h)) := by
  have h1 := l_turns (d := d) (L := L) (G := G) (h := h) hq k 0 (F q 8) (by omega) hc
  have h2 := tCh_lt hc
  rw [Nat.zero_add] at h1
  rcases hq with rfl | rfl
  all_goals
    refine Ca_mk rfl rfl ?_
    (repeat (first | refine E_st rfl ?_ | refine E_go rfl ?_))
    refine E_nif rfl (zne1 h2) ?_
    (iterate 5 (first | refine E_st rfl ?_ | refine E_go rfl ?_))
    exact h1
theorem t_turns0 (hq : tOk q) (he : F q 8 = N1) : pq_Ca (d + 1) 41 [.ref q] (pq_Sh L, pn F, pl G, pq_rt h) (fun r M' => r = some (.int (-4)) ∧ M' = (pq_Sh L, pn (F), pl (G), pq_rt h)) := by
  rcases hq with rfl | rfl
  all_goals
    refine Ca_mk rfl rfl ?_
    (repeat (first | refine E_st rfl ?_ | refine E_go rfl ?_))
    refine E_if rfl (by rw [pn_at, he, zm1]) ?_
    (repeat (first | refine E_st rfl ?_ | refine E_go rfl ?_))
    exact E_rt rfl ⟨rfl, rfl⟩
theorem l_nodeAfter (hq : tOk q) (hK : F q 2 = K) (hK3 : K ≤ 3) {sr : Nat} (hs : sr < K) {z : Value} : ∀ m s, tCh F q m s ∨ m = 0 → m ≤ 13824 → (∀ j, j ≤ m → tUp F q j s < 13824) → pq_Ev (d + 1) 42 13 [some (.ref q), some z, some (.int (nI sr)), some (.int (nI s)), some (.int (nI m))] [] (pq_Sh L, pn F, pl G, pq_rt h) (fun r M' => r = some (.int (nI (sitPos K (tUp F q m s) sr))) ∧ M' = (pq_Sh L, pn (plF F (q + 1) K (tUp F q m s / 64)), pl (G), pq_rt h)) := by
  intro m
  induction m with
  | zero =>
    intro s _ _ hb
    have hs2 : s < 13824 := hb 0 (Nat.le_refl _)
    have hpl := s_place (d := d) (L := L) (G := G) (h := h) (F := F) hq.q (by rw [hK]; exact hK3) (show s < 2 ^ 31 by omega)
    rw [hK] at hpl
    have hval : plF F (q + 1) K (s / 64) (q + 1) sr = sitPos K s sr := plF_in _ _ _ _ hs
    rcases hq with rfl | rfl
    all_goals
      (repeat (first | refine E_st rfl ?_ | refine E_go rfl ?_))
      refine E_nif rfl (by decide) ?_
      (repeat (first | refine E_st rfl ?_ | refine E_go rfl ?_))
      refine E_cx rfl (Nat.le_refl _) hpl ?_
      (repeat (first | refine E_st rfl ?_ | refine E_go rfl ?_))
      refine E_ial rfl rfl (n := 3) (by omega) (by decide) ?_
      refine E_rt rfl ⟨?_, rfl⟩
      rw [hval]; rfl
  | succ m ih =>
    intro s hc hm hb
    obtain ⟨c1, c2, c3⟩ := hc.resolve_right (by omega)
    have hnext := ih _ (Or.inl c3) (by omega) (fun j hj => hb (j + 1) (by omega))
    rcases hq with rfl | rfl
    all_goals
      (repeat (first | refine E_st rfl ?_ | refine E_go rfl ?_))
      refine E_if rfl (show nI 0 < nI (m + 1) from nI_lt (by omega) (by omega)) ?_
      (repeat (first | refine E_st rfl ?_ | refine E_go rfl ?_))
      refine E_ial rfl rfl (n := 13824) c1 (by decide) ?_
      (iterate 3 (first | refine E_st rfl ?_ | refine E_go rfl ?_))
      rw [pk_m1]
      exact hnext
theorem tUp_lt : ∀ (j k s : Nat), tCh F q (j + k) s → tUp F q j s < 13824 := fun j k s hc => tCh_lt (tCh_up j k s hc)
theorem tCh_le : ∀ (j k s : Nat), tCh F q (j + k) s → tCh F q j s ∨ ∀ i, i ≤ j → tUp F q i s < 13824 := fun j k s hc => Or.inr (fun i hi => tUp_lt i (j - i + k) s (by rw [show i + (j - i + k) = j + k by omega]; exact hc))
/-- the chain is followed down to tn turns -/
theorem l_nodeAfter2 (hq : tOk q) (hK : F q 2 = K) (hK3 : K ≤ 3) {sr : Nat} (hs : sr < K) {z : Value} : ∀ m r s, tCh F q (m + r) s → m ≤ 13824 → pq_Ev (d + 1) 42 13 [some (.ref q), some z, some (.int (nI sr)), some (.int (nI s)), some (.int (nI m))] [] (pq_Sh L, pn F, pl G, pq_rt h) (fun r M' => r = some (.int (nI (sitPos K (tUp F q m s) sr))) ∧ M' = (pq_Sh L, pn (plF F (q + 1) K (tUp F q m s / 64)), pl (G), pq_rt h)) := by
  intro m
  induction m with
  | zero =>
    intro r s hc _
    have hs2 : s < 13824 := tCh_lt hc
    exact l_nodeAfter hq hK hK3 hs 0 s (Or.inr rfl) (Nat.zero_le _) (fun j hj => by rw [show j = 0 by omega]; exact hs2)
  | succ m ih =>
    intro r s hc hm
    rw [show m + 1 + r = (m + r) + 1 by omega] at hc
    obtain ⟨c1, c2, c3⟩ := hc
    have hnext := ih r _ c3 (by omega)
    rcases hq with rfl | rfl
    all_goals
      (repeat (first | refine E_st rfl ?_ | refine E_go rfl ?_))
      refine E_if rfl (show nI 0 < nI (m + 1) from nI_lt (by omega) (by omega)) ?_
      (repeat (first | refine E_st rfl ?_ | refine E_go rfl ?_))
      refine E_ial rfl rfl (n := 13824) c1 (by decide) ?_
      (iterate 3 (first | refine E_st rfl ?_ | refine E_go rfl ?_))
      rw [pk_m1]
      exact hnext
theorem t_nodeAfter (hq : tOk q) (hK : F q 2 = K) (hK3 : K ≤ 3) {k tn sr : Nat} (hs : sr < K) (hk : k ≤ 13824) (htn : tn ≤ k) (hc : tCh F q k (F q 8)) : pq_Ca (d + 2) 42 [.ref q, .int (nI tn), .int (nI sr)] (pq_Sh L, pn F, pl G, pq_rt h) (fun r M' => r = some (.int (nI (sitPos K (tUp F q (k - tn) (F q 8)) sr))) ∧ M' = (pq_Sh L, pn (plF F (q + 1) K (tUp F q (k - tn) (F q 8) / 64)), pl (G), pq_rt h)) := by
  have h1 := t_turns (d := d) (L := L) (G := G) (h := h) hq hk hc
  have h2 := l_nodeAfter2 (d := d) (L := L) (G := G) (h := h) hq hK hK3 hs (z := .int (nI tn)) (k - tn) tn (F q 8) (by rw [show k - tn + tn = k by omega]; exact hc) (by omega)
  rcases hq with rfl | rfl
  all_goals
    refine Ca_mk rfl rfl ?_
    (repeat (first | refine E_st rfl ?_ | refine E_go rfl ?_))
    refine E_cx rfl (Nat.le_refl _) h1 ?_
    (iterate 3 (first | refine E_st rfl ?_ | refine E_go rfl ?_))
    rw [pk_sub htn]
    exact h2
def frF (F : FF) (q n : Nat) : Nat → Nat
  | 0 => 1 <<< n - 1
  | k + 1 => an (frF F q n k) (1 <<< F (q + 1) k)
theorem frF_lt (hn : n ≤ 6) : ∀ k, frF F q n k < 64 := by
  intro k
  induction k with
  | zero =>
    show 1 <<< n - 1 < 64
    rw [Nat.one_shiftLeft]
    have : 2 ^ n ≤ 2 ^ 6 := Nat.pow_le_pow_right (by decide) hn
    omega
  | succ k ih => exact Nat.lt_of_le_of_lt (an_le _ _) ih
def esF (F : FF) (q n K places : Nat) : FF := if ∀ k, k < K → F (q + 1) k < n then enF F q (places + frF F q n K) N2 else F
set_option maxHeartbeats 1000000 in
theorem l_enterStart (hq : tOk q) (hn : n ≤ 6) (hK : K ≤ 3) (hI : tInv q n K F) (hat : ∀ k, k < K → F (q + 1) k < 6) {i : Nat} (hi : i < 6 ^ K) : ∀ m k, k + m = K → (∀ k', k' < k → F (q + 1) k' < n) → pq_Ev (d + 1) 44 11 [some (.ref q), some (.int (nI (64 * i))), some (.int (nI (frF F q n k))), some (.int (nI k))] [] (pq_Sh L, pn F, pl G, pq_rt h) (fun r M' => r = none ∧ M' = (pq_Sh L, pn (esF F q n K (64 * i)), pl (G), pq_rt h)) := by
  have hkb := K_le hK
  obtain ⟨i0, i1, i2, i3, i4, i5⟩ := hI
  intro m
  induction m with
  | zero =>
    intro k hk hall
    have hk : k = K := by omega
    subst hk
    have e : esF F q n k (64 * i) = enF F q (64 * i + frF F q n k) N2 := if_pos hall
    have hfr := frF_lt (F := F) (q := q) hn k
    have hen := t_enter (d := d) (L := L) (F := F) (G := G) (h := h) (s := 64 * i + frF F q n k) (b := N2) hq (by omega) i2 (i4 _ (by omega)) i3
    rw [e]
    rcases hq with rfl | rfl
    all_goals
      (repeat (first | refine E_st rfl ?_ | refine E_go rfl ?_))
      refine E_nif rfl (by rw [pn_at, i1]; exact nI_nlt (Nat.le_refl _) (by omega)) ?_
      (repeat (first | refine E_st rfl ?_ | refine E_go rfl ?_))
      rw [nI_add, zm2]
      refine E_cx rfl (Nat.le_refl _) hen ?_
      exact E_rt rfl ⟨rfl, rfl⟩
  | succ m ih =>
    intro k hk hall
    have h6 := hat k (by omega)
    have h32 : F (q + 1) k < 32 := Nat.lt_trans h6 (by decide)
    by_cases hc : F (q + 1) k < n
    · have hl1 : nI (F (q + 1) k) < nI n := nI_lt hc (by omega)
      have hnext := ih (k + 1) (by omega) (fun k' hk' => by
        by_cases e : k' = k
        · rw [e]; exact hc
        · exact hall k' (by omega))
      rcases hq with rfl | rfl
      all_goals
        (repeat (first | refine E_st rfl ?_ | refine E_go rfl ?_))
        refine E_if rfl (by rw [pn_at, i1]; exact nI_lt (by omega) (by omega)) ?_
        (repeat (first | refine E_st rfl ?_ | refine E_go rfl ?_))
        refine E_ial rfl rfl (n := 3) (by omega) (by decide) ?_
        (repeat (first | refine E_st rfl ?_ | refine E_go rfl ?_))
        refine E_if rfl (by rw [pn_at, i0]; exact hl1) ?_
        (repeat (first | refine E_st rfl ?_ | refine E_go rfl ?_))
        refine E_ial rfl rfl (n := 3) (by omega) (by decide) ?_
        (iterate 7 (first | refine E_st rfl ?_ | refine E_go rfl ?_))
        rw [zi_shl _ h32, zi_not, nI_add]
        exact hnext
    · have e : esF F q n K (64 * i) = F := if_neg (fun z => hc (z k (by omega)))
      have hl1 : ¬ nI (F (q + 1) k) < nI n := nI_nlt (by omega) (by omega)
      rw [e]
      rcases hq with rfl | rfl
      all_goals
        (repeat (first | refine E_st rfl ?_ | refine E_go rfl ?_))
        refine E_if rfl (by rw [pn_at, i1]; exact nI_lt (by omega) (by omega)) ?_
        (repeat (first | refine E_st rfl ?_ | refine E_go rfl ?_))
        refine E_ial rfl rfl (n := 3) (by omega) (by decide) ?_
        (repeat (first | refine E_st rfl ?_ | refine E_go rfl ?_))
        refine E_nif rfl (by rw [pn_at, i0]; exact hl1) ?_
        exact E_rt rfl ⟨rfl, rfl⟩
theorem t_enterStart (hq : tOk q) (hn : n ≤ 6) (hK : K ≤ 3) (hI : tInv q n K F) (hat : ∀ k, k < K → F (q + 1) k < 6) {i : Nat} (hi : i < 6 ^ K) : pq_Ca (d + 2) 44 [.ref q, .int (nI (64 * i))] (pq_Sh L, pn F, pl G, pq_rt h) (fun r M' => r = none ∧ M' = (pq_Sh L, pn (esF F q n K (64 * i)), pl (G), pq_rt h)) := by
  have h1 := l_enterStart (d := d) (L := L) (G := G) (h := h) hq hn hK hI hat hi K 0 (by omega) (fun k' hk' => by omega)
  obtain ⟨i0, i1, i2, i3, i4, i5⟩ := hI
  rcases hq with rfl | rfl
  all_goals
    refine Ca_mk rfl rfl ?_
    (iterate 9 (first | refine E_st rfl ?_ | refine E_go rfl ?_))
    rw [pn_at, i0, zi_shl _ (by omega), pk_sub (by rw [Nat.one_shiftLeft]; exact Nat.one_le_two_pow)]
    exact h1
def eaF (q n K : Nat) : Nat → FF → FF
  | 0, F => F
  | i + 1, F => esF (plF (eaF q n K i F) (q + 1) K i) q n K (64 * i)
theorem pl_inv2 (hI : tInv q n K F) (i : Nat) : tInv q n K (plF F (q + 1) K i) := by
  have off : ∀ p j, ¬ p = q + 1 → plF F (q + 1) K i p j = F p j := fun p j hp => plF_off _ _ _ _ _ (fun z => hp z.1)
  obtain ⟨i0, i1, i2, i3, i4, i5⟩ := hI
  refine ⟨?_, ?_, ?_, ?_, fun s hs => ?_, fun i2 hi => ?_⟩
  · rw [off _ _ (by omega)]; exact i0
  · rw [off _ _ (by omega)]; exact i1
  · rw [off _ _ (by omega)]; exact i2
  · rw [off _ _ (by omega)]; exact i3
  · rw [off _ _ (by omega)]; exact i4 s hs
  · rw [off _ _ (by omega)] at hi
    rw [off _ _ (by omega)]; exact i5 i2 hi
theorem es_inv (hn : n ≤ 6) (hK : K ≤ 3) (hI : tInv q n K F) {i : Nat} (hi : i < 6 ^ K) : tInv q n K (esF F q n K (64 * i)) := by
  unfold esF
  split
  · have := frF_lt (F := F) (q := q) hn K
    exact en_inv hK hI (by omega) (by decide)
  · exact hI
theorem ea_inv (hn : n ≤ 6) (hK : K ≤ 3) (hI : tInv q n K F) : ∀ i, i ≤ 6 ^ K → tInv q n K (eaF q n K i F) := by
  intro i
  induction i with
  | zero => intro _; exact hI
  | succ i ih => intro hi; exact es_inv hn hK (pl_inv2 (ih (by omega)) i) (by omega)
theorem l_allStarts (hq : tOk q) (hn : n ≤ 6) (hK : K ≤ 3) (hI : tInv q n K F) : ∀ m i, i + m = 6 ^ K → pq_Ev (d + 2) 43 7 [some (.ref q), some (.int (nI (64 * 6 ^ K))), some (.int (nI (64 * i)))] [] (pq_Sh L, pn (eaF q n K i F), pl G, pq_rt h) (fun r M' => r = none ∧ M' = (pq_Sh L, pn (eaF q n K (6 ^ K) F), pl (G), pq_rt h)) := by
  have hkb := K_le hK
  intro m
  induction m with
  | zero =>
    intro i hi
    have hi : i = 6 ^ K := by omega
    subst hi
    (repeat (first | refine E_st rfl ?_ | refine E_go rfl ?_))
    refine E_nif rfl (nI_nlt (Nat.le_refl _) (by omega)) ?_
    exact E_rt rfl ⟨rfl, rfl⟩
  | succ m ih =>
    intro i hi
    have hIi := ea_inv hn hK hI i (by omega)
    have hpl := s_place (d := 0) (L := L) (G := G) (h := h) (F := eaF q n K i F) hq.q (by rw [hIi.2.1]; exact hK) (sit := 64 * i) (by omega)
    rw [hIi.2.1, Nat.mul_div_cancel_left i (by decide : 0 < 64)] at hpl
    have hes := t_enterStart (d := 0) (L := L) (G := G) (h := h) hq hn hK (pl_inv2 hIi i) (fun k hk => by rw [plF_in _ _ _ _ hk]; exact Nat.mod_lt _ (by decide)) (i := i) (by omega)
    have hnext := ih (i + 1) (by omega)
    rcases hq with rfl | rfl
    all_goals
      (repeat (first | refine E_st rfl ?_ | refine E_go rfl ?_))
      refine E_if rfl (nI_lt (by omega) (by omega)) ?_
      (repeat (first | refine E_st rfl ?_ | refine E_go rfl ?_))
      refine E_cx rfl (by omega) hpl ?_
      (repeat (first | refine E_st rfl ?_ | refine E_go rfl ?_))
      refine E_cx rfl (by omega) hes ?_
      (iterate 2 (first | refine E_st rfl ?_ | refine E_go rfl ?_))
      rw [nI_add]
      exact hnext
theorem t_allStarts (hq : tOk q) (hn : n ≤ 6) (hK : K ≤ 3) (hI : tInv q n K F) : pq_Ca (d + 3) 43 [.ref q] (pq_Sh L, pn F, pl G, pq_rt h) (fun r M' => r = none ∧ M' = (pq_Sh L, pn (eaF q n K (6 ^ K) F), pl (G), pq_rt h)) := by
  have h1 := l_allStarts (d := d) (L := L) (G := G) (h := h) hq hn hK hI (6 ^ K) 0 (by omega)
  have h2 := s_bound (d := 0) (L := L) (F := F) (G := G) (h := h) hq.q (by rw [hI.2.1]; exact hK)
  rw [hI.2.1] at h2
  rcases hq with rfl | rfl
  all_goals
    refine Ca_mk rfl rfl ?_
    (repeat (first | refine E_st rfl ?_ | refine E_go rfl ?_))
    refine E_cx rfl (by omega) h2 ?_
    (iterate 3 (first | refine E_st rfl ?_ | refine E_go rfl ?_))
    exact h1
theorem t_search (hq : tOk q) (hn : n ≤ 6) (hK : K ≤ 3) (hpa : pa < 2 ^ 63) (hG : G q 1 = pa) (hI : tInv q n K F) : pq_Ca (d + K + 8) 39 [.ref q] (pq_Sh L, pn F, pl G, pq_rt h) (fun r M' => r = none ∧ M' = (pq_Sh L, pn (seF q n pa K 13825 0 F), pl (G), pq_rt h)) := by
  have h1 := l_search (d := d) (L := L) (h := h) hq hn hK hpa hG 13825 0 F (by omega) (by omega) hI
  refine Ca_mk rfl rfl ?_
  (iterate 2 (first | refine E_st rfl ?_ | refine E_go rfl ?_))
  exact h1
end TRM
