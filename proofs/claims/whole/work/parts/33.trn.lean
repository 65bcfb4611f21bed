/-! TurnSearch: q = 52 (plan) or 56 (bestStart) -/
def tOk (q : Nat) : Prop := q = 52 ∨ q = 56
theorem tOk.q {q : Nat} (h : tOk q) : qOk q := h.elim Or.inl (fun e => Or.inr (Or.inl e))
def enF (F : FF) (q s b : Nat) : FF :=
  if F q 8 = N1 ∧ F (q + 2) s = N1 ∧ F q 6 < 13824 then
    (if s % 64 = 0 then pq_u (pq_u (pq_u (pq_u F (q + 2) s b) (q + 3) (F q 6) s) q 6 (F q 6 + 1)) q 8 s
     else pq_u (pq_u (pq_u F (q + 2) s b) (q + 3) (F q 6) s) q 6 (F q 6 + 1))
  else F
/-- bounds that a TurnSearch keeps -/
def tInv (q n K : Nat) (F : FF) : Prop := F q 0 = n ∧ F q 2 = K ∧ F q 8 < 2 ^ 32 ∧ F q 6 ≤ 13824 ∧ (∀ s, s < 13824 → F (q + 2) s < 2 ^ 32) ∧ (∀ i, i < F q 6 → F (q + 3) i < 64 * 6 ^ K)
section TRN
variable {d L q n K pa : Nat} {F G : Nat → Nat → Nat} {h : Nat → Nat}
theorem K_le (hK : K ≤ 3) : 64 * 6 ^ K ≤ 13824 := by
  have : 6 ^ K ≤ 6 ^ 3 := Nat.pow_le_pow_right (by decide) hK
  omega
theorem en_inv {s b : Nat} (hK : K ≤ 3) (hI : tInv q n K F) (hs : s < 64 * 6 ^ K) (hb : b < 2 ^ 32) : tInv q n K (enF F q s b) := by
  have hk := K_le hK
  obtain ⟨i0, i1, i2, i3, i4, i5⟩ := id hI
  unfold enF
  split
  · rename_i hc
    have key : ∀ e, e < 2 ^ 32 → tInv q n K (pq_u (pq_u (pq_u (pq_u F (q + 2) s b) (q + 3) (F q 6) s) q 6 (F q 6 + 1)) q 8 e) := by
      intro e he
      refine ⟨?_, ?_, ?_, ?_, fun s2 hs2 => ?_, fun i hi => ?_⟩
      · simp only [pu_at]; repeat rw [if_neg (by omega)]
        exact i0
      · simp only [pu_at]; repeat rw [if_neg (by omega)]
        exact i1
      · rw [pu_at, if_pos ⟨rfl, rfl⟩]; exact he
      · rw [pu_at, if_neg (by omega), pu_at, if_pos ⟨rfl, rfl⟩]; omega
      · simp only [pu_at]; rw [if_neg (by omega), if_neg (by omega), if_neg (by omega)]
        split
        · exact hb
        · exact i4 s2 hs2
      · rw [pu_at, if_neg (by omega), pu_at, if_pos ⟨rfl, rfl⟩] at hi
        rw [pu_at, if_neg (by omega), pu_at, if_neg (by omega), pu_at]
        by_cases hne : i = F q 6
        · rw [if_pos ⟨rfl, hne⟩]; exact hs
        · rw [if_neg (fun z => hne z.2), pu_at, if_neg (by omega)]
          exact i5 i (by omega)
    split
    · exact key s (by omega)
    · have h2 := key (F q 8) i2
      have e : pq_u (pq_u (pq_u (pq_u F (q + 2) s b) (q + 3) (F q 6) s) q 6 (F q 6 + 1)) q 8 (F q 8) = pq_u (pq_u (pq_u F (q + 2) s b) (q + 3) (F q 6) s) q 6 (F q 6 + 1) := by
        funext p j
        simp only [pu_at]
        by_cases hp : p = q ∧ j = 8
        · obtain ⟨rfl, rfl⟩ := hp
          rw [if_pos ⟨rfl, rfl⟩, if_neg (by omega), if_neg (by omega), if_neg (by omega)]
        · rw [if_neg hp]
      rw [e] at h2
      exact h2
  · exact hI
set_option maxHeartbeats 1000000 in
theorem t_enter (hq : tOk q) {s b : Nat} (hs : s < 13824) (h8 : F q 8 < 2 ^ 32) (hc : F (q + 2) s < 2 ^ 32) (h6 : F q 6 ≤ 13824) : pq_Ca (d + 1) 38 [.ref q, .int (nI s), .int (nI b)] (pq_Sh L, pn F, pl G, pq_rt h) (fun r M' => r = none ∧ M' = (pq_Sh L, pn (enF F q s b), pl (G), pq_rt h)) := by
  by_cases c1 : F q 8 = N1
  case neg =>
    have e : enF F q s b = F := if_neg (fun z => c1 z.1)
    rw [e]
    rcases hq with rfl | rfl
    all_goals
      refine Ca_mk rfl rfl ?_
      (repeat (first | refine E_st rfl ?_ | refine E_go rfl ?_))
      refine E_nif rfl (fun z => c1 ((zi_eq h8 (by decide)).mp (by rw [← zm1]; exact z))) ?_
      exact E_rt rfl ⟨rfl, rfl⟩
  by_cases c2 : F (q + 2) s = N1
  case neg =>
    have e : enF F q s b = F := if_neg (fun z => c2 z.2.1)
    rw [e]
    rcases hq with rfl | rfl
    all_goals
      refine Ca_mk rfl rfl ?_
      (repeat (first | refine E_st rfl ?_ | refine E_go rfl ?_))
      refine E_if rfl (by rw [pn_at, c1, zm1]) ?_
      (repeat (first | refine E_st rfl ?_ | refine E_go rfl ?_))
      refine E_ial rfl rfl (n := 13824) hs (by decide) ?_
      (repeat (first | refine E_st rfl ?_ | refine E_go rfl ?_))
      refine E_nif rfl (fun z => c2 ((zi_eq hc (by decide)).mp (by rw [← zm1]; exact z))) ?_
      exact E_rt rfl ⟨rfl, rfl⟩
  by_cases c3 : F q 6 < 13824
  case neg =>
    have e : enF F q s b = F := if_neg (fun z => c3 z.2.2)
    rw [e]
    rcases hq with rfl | rfl
    all_goals
      refine Ca_mk rfl rfl ?_
      (repeat (first | refine E_st rfl ?_ | refine E_go rfl ?_))
      refine E_if rfl (by rw [pn_at, c1, zm1]) ?_
      (repeat (first | refine E_st rfl ?_ | refine E_go rfl ?_))
      refine E_ial rfl rfl (n := 13824) hs (by decide) ?_
      (repeat (first | refine E_st rfl ?_ | refine E_go rfl ?_))
      refine E_if rfl (by rw [show (-1 : Int32) = nI N1 from zm1]; exact congrArg nI c2) ?_
      (repeat (first | refine E_st rfl ?_ | refine E_go rfl ?_))
      refine E_nif rfl (by rw [pn_at]; exact nI_nlt (by omega) (by omega)) ?_
      exact E_rt rfl ⟨rfl, rfl⟩
  have e : enF F q s b = (if s % 64 = 0 then pq_u (pq_u (pq_u (pq_u F (q + 2) s b) (q + 3) (F q 6) s) q 6 (F q 6 + 1)) q 8 s else pq_u (pq_u (pq_u F (q + 2) s b) (q + 3) (F q 6) s) q 6 (F q 6 + 1)) := if_pos ⟨c1, c2, c3⟩
  rw [e]
  rcases hq with rfl | rfl
  all_goals
    refine Ca_mk rfl rfl ?_
    (repeat (first | refine E_st rfl ?_ | refine E_go rfl ?_))
    refine E_if rfl (by rw [pn_at, c1, zm1]) ?_
    (repeat (first | refine E_st rfl ?_ | refine E_go rfl ?_))
    refine E_ial rfl rfl (n := 13824) hs (by decide) ?_
    (repeat (first | refine E_st rfl ?_ | refine E_go rfl ?_))
    refine E_if rfl (by rw [show (-1 : Int32) = nI N1 from zm1]; exact congrArg nI c2) ?_
    (repeat (first | refine E_st rfl ?_ | refine E_go rfl ?_))
    refine E_if rfl (by rw [pn_at]; exact nI_lt c3 (by decide)) ?_
    (repeat (first | refine E_st rfl ?_ | refine E_go rfl ?_))
    refine E_ias rfl rfl (n := 13824) hs (by decide) (by decide) ?_
    (repeat (first | refine E_st rfl ?_ | refine E_go rfl ?_))
    refine E_ias rfl rfl (n := 13824) c3 (by decide) (by decide) ?_
    (repeat (first | refine E_st rfl ?_ | refine E_go rfl ?_))
    rw [pk_rem (by omega) (by decide) (by decide)]
    simp +decide only [pn_at, pl_at, pu_n, pu_l, pc_n, pc_l, pu_at, nI_add, if_true, if_false, and_true, true_and, and_false, false_and, and_self]
    by_cases c4 : s % 64 = 0
    · refine E_if rfl (by rw [c4]; rfl) ?_
      (repeat (first | refine E_st rfl ?_ | refine E_go rfl ?_))
      simp only [pu_n, pu_l, pc_n, pc_l]
      refine E_rt rfl ⟨rfl, ?_⟩
      rw [if_pos c4]
    · refine E_nif rfl (nI_ne0 (by omega) (by omega)) ?_
      refine E_rt rfl ⟨rfl, ?_⟩
      rw [if_neg c4]
theorem t_forget (hq : tOk q) (hK : F q 2 ≤ 3) : pq_Ca (d + 3) 37 [.ref q] (pq_Sh L, pn F, pl G, pq_rt h) (fun r M' => r = none ∧ M' = (pq_Sh L, pn (pq_u (pq_u (clF F (q + 2) (64 * 6 ^ F q 2)) q 6 0) q 8 N1), pl (G), pq_rt h)) := by
  have h1 := s_clear (d := 0) (L := L) (F := F) (G := G) (h := h) hq.q hK
  rcases hq with rfl | rfl
  all_goals
    refine Ca_mk rfl rfl ?_
    (repeat (first | refine E_st rfl ?_ | refine E_go rfl ?_))
    refine E_cx rfl (by omega) h1 ?_
    (repeat (first | refine E_st rfl ?_ | refine E_go rfl ?_))
    rw [zm1]
    simp only [pu_n, pu_l, pc_n, pc_l]
    exact E_rt rfl ⟨rfl, rfl⟩
def tA (q : Nat) : Nat → Nat → FF → FF := fun s _ F => enF F q s (F q 7)
theorem t_arrive (hq : tOk q) {s mv : Nat} (hs : s < 13824) (h8 : F q 8 < 2 ^ 32) (hc : F (q + 2) s < 2 ^ 32) (h6 : F q 6 ≤ 13824) : pq_Ca (d + 2) 40 [.ref q, .int (nI s), .int (nI mv)] (pq_Sh L, pn F, pl G, pq_rt h) (fun r M' => r = none ∧ M' = (pq_Sh L, pn (tA q s mv F), pl (G), pq_rt h)) := by
  have h1 := t_enter (d := d) (L := L) (F := F) (G := G) (h := h) (s := s) (b := F q 7) hq hs h8 hc h6
  rcases hq with rfl | rfl
  all_goals
    refine Ca_mk rfl rfl ?_
    (repeat (first | refine E_st rfl ?_ | refine E_go rfl ?_))
    refine E_cx rfl (Nat.le_refl _) h1 ?_
    exact E_rt rfl ⟨rfl, rfl⟩
theorem en_off {s b p j : Nat} (hp : ¬ (p = q ∧ (j = 6 ∨ j = 8))) (h2 : ¬ p = q + 2) (h3 : ¬ p = q + 3) : enF F q s b p j = F p j := by
  unfold enF
  split
  · split
    · simp only [pu_at]; repeat rw [if_neg (by omega)]
    · simp only [pu_at]; repeat rw [if_neg (by omega)]
  · rfl
/-- arrive, for the search from a situation whose searchers stand at pos -/
theorem t_arOk (hq : tOk q) (hK : K ≤ 3) {pos : Nat → Nat} {hr : Nat} (hh : hr < 2 ^ 32) : arOk L q n K (d + 2) G h pos (fun F => tInv q n K F ∧ F q 7 = hr ∧ ∀ k, k < K → F (q + 1) k = pos k) (tA q) := by
  have hk := K_le hK
  refine ⟨fun F hF => ⟨hF.1.1, hF.1.2.1, hF.2.2⟩, fun F s mv hF hs hmv => ?_⟩
  obtain ⟨hI, h7, hp⟩ := hF
  refine ⟨⟨en_inv hK hI hs (by rw [h7]; exact hh), ?_, fun k hk2 => ?_⟩, ?_⟩
  · show enF F q s (F q 7) q 7 = hr
    rw [en_off (by omega) (by omega) (by omega)]; exact h7
  · show enF F q s (F q 7) (q + 1) k = pos k
    rw [en_off (by omega) (by omega) (by omega)]; exact hp k hk2
  · have h1 := t_arrive (d := d) (L := L) (F := F) (G := G) (h := h) (s := s) (mv := mv) hq (by omega) hI.2.2.1 (hI.2.2.2.2.1 s (by omega)) hI.2.2.2.1
    rcases hq with rfl | rfl
    all_goals exact h1
def sitPos (K sit k : Nat) : Nat := sit / 64 / 6 ^ (K - 1 - k) % 6
def seStep (q n pa K : Nat) (F : FF) (sit : Nat) : FF := arrs (tA q) (ords n pa (sitPos K sit) K 0 (wOnly pa (sit % 64)) 0 0) (plF (pq_u F q 7 sit) (q + 1) K (sit / 64))
def seF (q n pa K : Nat) : Nat → Nat → FF → FF
  | 0, _, F => F
  | m + 1, i, F => if i < F q 6 ∧ i < 13824 ∧ F q 8 = N1 then seF q n pa K m (i + 1) (seStep q n pa K F (F (q + 3) i)) else F
theorem pl_inv (hq : tOk q) (hK : K ≤ 3) (hI : tInv q n K F) (sit : Nat) : tInv q n K (plF (pq_u F q 7 sit) (q + 1) K (sit / 64)) ∧ plF (pq_u F q 7 sit) (q + 1) K (sit / 64) q 7 = sit ∧ ∀ k, k < K → plF (pq_u F q 7 sit) (q + 1) K (sit / 64) (q + 1) k = sitPos K sit k := by
  have off : ∀ p j, ¬ p = q + 1 → plF (pq_u F q 7 sit) (q + 1) K (sit / 64) p j = pq_u F q 7 sit p j := fun p j hp => plF_off _ _ _ _ _ (fun z => hp z.1)
  obtain ⟨i0, i1, i2, i3, i4, i5⟩ := hI
  refine ⟨⟨?_, ?_, ?_, ?_, fun s hs => ?_, fun i hi => ?_⟩, ?_, fun k hk => ?_⟩
  · rw [off _ _ (by omega), pu_at, if_neg (by omega)]; exact i0
  · rw [off _ _ (by omega), pu_at, if_neg (by omega)]; exact i1
  · rw [off _ _ (by omega), pu_at, if_neg (by omega)]; exact i2
  · rw [off _ _ (by omega), pu_at, if_neg (by omega)]; exact i3
  · rw [off _ _ (by omega), pu_at, if_neg (by omega)]; exact i4 s hs
  · rw [off _ _ (by omega), pu_at, if_neg (by omega)] at hi
    rw [off _ _ (by omega), pu_at, if_neg (by omega)]; exact i5 i hi
  · rw [off _ _ (by omega), pu_at, if_pos ⟨rfl, rfl⟩]
  · exact plF_in _ _ _ _ hk
theorem se_inv (hq : tOk q) (hn : n ≤ 6) (hK : K ≤ 3) (hI : tInv q n K F) {sit : Nat} (hs : sit < 2 ^ 32) : tInv q n K (seStep q n pa K F sit) := by
  have h1 := pl_inv hq hK hI sit
  refine (arrs_inv (t_arOk (d := 0) (L := 0) (G := F) (h := fun k => k) hq hK hs) _ _ (fun s hs => ?_) h1).1
  have := ords_ok hn K 0 _ 0 0 (by decide) (Nat.le_refl _) s hs
  simpa using this
set_option maxHeartbeats 1000000 in
theorem l_search (hq : tOk q) (hn : n ≤ 6) (hK : K ≤ 3) (hpa : pa < 2 ^ 63) (hG : G q 1 = pa) : ∀ m i (F : FF), 13825 ≤ i + m → i ≤ 13825 → tInv q n K F → pq_Ev (d + K + 7) 39 2 [some (.ref q), some (.int (nI i))] [] (pq_Sh L, pn F, pl G, pq_rt h) (fun r M' => r = none ∧ M' = (pq_Sh L, pn (seF q n pa K m i F), pl (G), pq_rt h)) := by
  have hk := K_le hK
  intro m
  induction m with
  | zero =>
    intro i F hi hi2 hI
    obtain ⟨i0, i1, i2, i3, i4, i5⟩ := hI
    rcases hq with rfl | rfl
    all_goals
      (repeat (first | refine E_st rfl ?_ | refine E_go rfl ?_))
      refine E_nif rfl (by rw [pn_at]; exact nI_nlt (by omega) (by omega)) ?_
      exact E_rt rfl ⟨rfl, rfl⟩
  | succ m ih =>
    intro i F hi hi2 hI
    have hI2 := hI
    obtain ⟨i0, i1, i2, i3, i4, i5⟩ := hI
    by_cases c1 : i < F q 6
    case neg =>
      have e : seF q n pa K (m + 1) i F = F := by simp only [seF]; rw [if_neg (fun z => c1 z.1)]
      rw [e]
      rcases hq with rfl | rfl
      all_goals
        (repeat (first | refine E_st rfl ?_ | refine E_go rfl ?_))
        refine E_nif rfl (by rw [pn_at]; exact nI_nlt (by omega) (by omega)) ?_
        exact E_rt rfl ⟨rfl, rfl⟩
    have c2 : i < 13824 := by omega
    by_cases c3 : F q 8 = N1
    case neg =>
      have e : seF q n pa K (m + 1) i F = F := by simp only [seF]; rw [if_neg (fun z => c3 z.2.2)]
      rw [e]
      rcases hq with rfl | rfl
      all_goals
        (repeat (first | refine E_st rfl ?_ | refine E_go rfl ?_))
        refine E_if rfl (by rw [pn_at]; exact nI_lt c1 (by omega)) ?_
        (repeat (first | refine E_st rfl ?_ | refine E_go rfl ?_))
        refine E_if rfl (nI_lt c2 (by decide)) ?_
        (repeat (first | refine E_st rfl ?_ | refine E_go rfl ?_))
        refine E_nif rfl (fun z => c3 ((zi_eq i2 (by decide)).mp (by rw [← zm1]; exact z))) ?_
        exact E_rt rfl ⟨rfl, rfl⟩
    have e : seF q n pa K (m + 1) i F = seF q n pa K m (i + 1) (seStep q n pa K F (F (q + 3) i)) := by simp only [seF]; rw [if_pos ⟨c1, c2, c3⟩]
    rw [e]
    have hsit := i5 i c1
    have hpl := pl_inv hq hK hI2 (F (q + 3) i)
    have hex := s_expand (F := pq_u F q 7 (F (q + 3) i)) hq.q hn hK hpa hG (pos := sitPos K (F (q + 3) i)) (fun k _ => Nat.mod_lt _ (by decide)) (t_arOk (d := d) (L := L) (h := h) hq hK (hr := F (q + 3) i) (by omega)) (sit := F (q + 3) i) (by omega) (by rw [pu_at, if_neg (by omega)]; exact i1) hpl
    have hnext := ih (i + 1) _ (by omega) (by omega) (se_inv (pa := pa) hq hn hK hI2 (sit := F (q + 3) i) (by omega))
    rcases hq with rfl | rfl
    all_goals
      (repeat (first | refine E_st rfl ?_ | refine E_go rfl ?_))
      refine E_if rfl (by rw [pn_at]; exact nI_lt c1 (by omega)) ?_
      (repeat (first | refine E_st rfl ?_ | refine E_go rfl ?_))
      refine E_if rfl (nI_lt c2 (by decide)) ?_
      (repeat (first | refine E_st rfl ?_ | refine E_go rfl ?_))
      refine E_if rfl (by rw [pn_at, c3, zm1]) ?_
      (repeat (first | refine E_st rfl ?_ | refine E_go rfl ?_))
      refine E_ial rfl rfl (n := 13824) c2 (by decide) ?_
      (repeat (first | refine E_st rfl ?_ | refine E_go rfl ?_))
      simp +decide only [pn_at, pl_at, pu_n, pu_l, pc_n, pc_l, pu_at, nI_add, if_true, if_false, and_true, true_and, and_false, false_and, and_self]
      refine E_cx rfl (by omega) hex ?_
      (iterate 2 (first | refine E_st rfl ?_ | refine E_go rfl ?_))
      rw [nI_add]
      exact hnext
end TRN
