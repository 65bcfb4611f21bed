/-! what the searches leave as it is; planMoves, leastSearchers, bestTurns -/
section PLO
variable {d L n K pa q : Nat} {F G : Nat → Nat → Nat} {h : Nat → Nat}
theorem en_off2 {s b p j : Nat} (hp : p < q ∨ q + 3 < p) : enF F q s b p j = F p j := en_off (fun z => by omega) (by omega) (by omega)
theorem ar_off {p j : Nat} (hp : p < q ∨ q + 3 < p) : ∀ (l : List (Nat × Nat)) (F : FF), arrs (tA q) l F p j = F p j := by
  intro l
  induction l with
  | nil => intro F; rfl
  | cons a l ih => intro F; show arrs (tA q) l (tA q a.1 a.2 F) p j = _; rw [ih]; exact en_off2 hp
theorem ss_off {p j sit : Nat} (hp : p < q ∨ q + 3 < p) : seStep q n pa K F sit p j = F p j := by
  unfold seStep
  rw [ar_off hp, plF_off _ _ _ _ _ (by omega), pu_at, if_neg (by omega)]
theorem se_off {p j : Nat} (hp : p < q ∨ q + 3 < p) : ∀ m i (F : FF), seF q n pa K m i F p j = F p j := by
  intro m
  induction m with
  | zero => intro i F; rfl
  | succ m ih =>
    intro i F
    show (if _ then _ else _ : FF) p j = _
    split
    · rw [ih, ss_off hp]
    · rfl
theorem es_off {p j x : Nat} (hp : p < q ∨ q + 3 < p) : esF F q n K x p j = F p j := by
  unfold esF
  split
  · exact en_off2 hp
  · rfl
theorem ea_off {p j : Nat} (hp : p < q ∨ q + 3 < p) : ∀ i, eaF q n K i F p j = F p j := by
  intro i
  induction i with
  | zero => rfl
  | succ i ih => show esF (plF (eaF q n K i F) (q + 1) K i) q n K (64 * i) p j = _; rw [es_off hp, plF_off _ _ _ _ _ (by omega), ih]
theorem fg_off {p j : Nat} (hp : p < q ∨ q + 3 < p) : fgF F q n K p j = F p j := by
  unfold fgF
  rw [pu_at, if_neg (by omega), pu_at, if_neg (by omega)]
  unfold clF
  rw [if_neg (by omega), pu_at, if_neg (by omega), pu_at, if_neg (by omega)]
theorem bs_off {p j : Nat} (hp : p < 56 ∨ 59 < p) : bsF F G K p j = F p j := by
  unfold bsF
  rw [se_off (by omega), ea_off (by omega), fg_off (by omega)]
theorem kp_off {p j : Nat} (hp : p < 52 ∨ 55 < p) (h1 : ¬ (p = 1 ∧ j = 6)) : kpF F G p j = F p j := by
  unfold kpF
  rw [pu_at, if_neg h1, se_off (by omega), en_off2 (by omega), fg_off (by omega)]
theorem seF_inv (hq : tOk q) (hn : n ≤ 6) (hK : K ≤ 3) : ∀ m i (F : FF), tInv q n K F → tInv q n K (seF q n pa K m i F) := by
  have hk := K_le hK
  intro m
  induction m with
  | zero => intro i F hI; exact hI
  | succ m ih =>
    intro i F hI
    show tInv q n K (if _ then _ else _ : FF)
    split
    · rename_i hc
      refine ih _ _ (se_inv hq hn hK hI ?_)
      have := hI.2.2.2.2.2 i hc.1
      omega
    · exact hI
theorem bs_inv (hn : nOk F G) (hs : sOk F) (hK : K ≤ 3) : tInv 56 (F 2 0) K (bsF F G K) :=
  seF_inv (Or.inr rfl) hn.1 hK _ _ _ (ea_inv hn.1 hK (fg_inv (fun s h1 => (hs.1 s h1).2.1)) _ (Nat.le_refl _))
theorem nm_sit {tp b : Nat} (hK : K ≤ 3) (ha : ∀ k, k < 3 → F tp k < 6) (hb : b < 64) : nmF F tp K * 64 + b < 64 * 6 ^ K := by
  have := nm_lt ha K hK
  omega
theorem kp_inv (hn : nOk F G) (hs : sOk F) : tInv 52 (F 2 0) (F 2 2) (pq_u (kpF F G) 1 6 (F 1 6)) := by
  obtain ⟨n1, n2, n3, n4, n5, n6, n7, n8, n9, n10, n11, n12, n13, n14, n15, n16, n17, n18, n19, n20⟩ := hn
  have h1 := seF_inv (pa := G 2 1) (Or.inl rfl) n1 n2 13825 0 _ (en_inv (b := N2) n2 (fg_inv (F := F) (n := F 2 0) (K := F 2 2) (q := 52) (fun s h1 => (hs.1 s h1).1)) (nm_sit (tp := 3) n2 n7 (n9 (F 2 5 % 8) (Nat.mod_lt _ (by decide)))) (by decide))
  obtain ⟨i0, i1, i2, i3, i4, i5⟩ := h1
  exact ⟨i0, i1, i2, i3, i4, i5⟩
theorem nOk_of {F' G' : FF} (hn : nOk F G) (h1 : ∀ p j, 2 ≤ p → p ≤ 9 → F' p j = F p j) (h2 : ∀ p j, 2 ≤ p → p ≤ 9 → G' p j = G p j) : nOk F' G' := by
  obtain ⟨n1, n2, n3, n4, n5, n6, n7, n8, n9, n10, n11, n12, n13, n14, n15, n16, n17, n18, n19, n20⟩ := hn
  have e : ∀ p j, 2 ≤ p → p ≤ 9 → F' p j = F p j := h1
  refine ⟨?_, ?_, ?_, ?_, ?_, ?_, fun k hk => ?_, fun k hk => ?_, fun k hk => ?_, fun k hk => ?_, ?_, ?_, ?_, ?_, ?_, ?_, ?_, ?_, ?_, fun k hk => ?_⟩
  · rw [e _ _ (by decide) (by decide)]; exact n1
  · rw [e _ _ (by decide) (by decide)]; exact n2
  · rw [e _ _ (by decide) (by decide)]; exact n3
  · rw [e _ _ (by decide) (by decide)]; exact n4
  · rw [e _ _ (by decide) (by decide)]; exact n5
  · rw [h2 _ _ (by decide) (by decide)]; exact n6
  · rw [e _ _ (by decide) (by decide)]; exact n7 k hk
  · rw [e _ _ (by decide) (by decide)]; exact n8 k hk
  · rw [e _ _ (by decide) (by decide)]; exact n9 k hk
  · rw [h2 _ _ (by decide) (by decide)]; exact n10 k hk
  · rw [e _ _ (by decide) (by decide), e _ _ (by decide) (by decide)]; exact n11
  · rw [e _ _ (by decide) (by decide)]; exact n12
  · rw [e _ _ (by decide) (by decide), e _ _ (by decide) (by decide)]; exact n13
  · rw [e _ _ (by decide) (by decide)]; exact n14
  · rw [e _ _ (by decide) (by decide)]; exact n15
  · rw [e _ _ (by decide) (by decide)]; exact n16
  · rw [e _ _ (by decide) (by decide)]; exact n17
  · rw [e _ _ (by decide) (by decide)]; exact n18
  · rw [e _ _ (by decide) (by decide)]; exact n19
  · rw [e _ _ (by decide) (by decide)]; exact n20 k hk
theorem bs_sOk (hn : nOk F G) (hs : sOk F) (hK : K ≤ 3) : sOk (bsF F G K) := by
  have hi := bs_inv hn hs hK
  refine ⟨fun s hs2 => ⟨?_, hi.2.2.2.2.1 s hs2, ?_⟩, ?_⟩
  · rw [bs_off (by omega)]; exact (hs.1 s hs2).1
  · rw [bs_off (by omega)]; exact (hs.1 s hs2).2.2
  · rw [bs_off (by omega)]; exact hs.2
theorem kp_sOk (hn : nOk F G) (hs : sOk F) : sOk (kpF F G) := by
  have hi := kp_inv hn hs
  refine ⟨fun s hs2 => ⟨hi.2.2.2.2.1 s hs2, ?_, ?_⟩, ?_⟩
  · rw [kp_off (by omega) (by omega)]; exact (hs.1 s hs2).2.1
  · rw [kp_off (by omega) (by omega)]; exact (hs.1 s hs2).2.2
  · rw [kp_off (by omega) (by omega)]; exact hs.2
theorem pu_off {F : FF} {p j a b v : Nat} (hp : ¬ p = a) : pq_u F a b v p j = F p j := by rw [pu_at, if_neg (fun z => hp z.1)]
theorem bs_nOk (hn : nOk F G) : nOk (bsF F G K) (pq_u G 56 1 (G 2 1)) := nOk_of hn (fun p j _ _ => bs_off (by omega)) (fun p j _ _ => pu_off (by omega))
theorem kp_nOk (hn : nOk F G) : nOk (kpF F G) (pq_u G 52 1 (G 2 1)) := nOk_of hn (fun p j _ _ => kp_off (by omega) (by omega)) (fun p j _ _ => pu_off (by omega))
theorem o_best {x : Int32} (hn : nOk F G) (hs : sOk F) (hK : K ≤ 3) (h1 : 1 ≤ K) (hr : bRes F G K x) : pq_Ca (d + 22) 97 [.ref 1, .int (nI K)] (pq_Sh L, pn F, pl G, pq_rt h) (fun r M' => r = some (.int x) ∧ M' = (pq_Sh L, pn (bsF F G K), pl (pq_u G 56 1 (G 2 1)), pq_rt h)) := by
  refine Ca_mk rfl rfl ?_
  (repeat (first | refine E_st rfl ?_ | refine E_go rfl ?_))
  refine E_nif rfl (by exact nI_nlt (b := 1) h1 (by omega)) ?_
  (repeat (first | refine E_st rfl ?_ | refine E_go rfl ?_))
  refine E_nif rfl (by exact nI_nlt (a := 3) (b := K) hK (by decide)) ?_
  (repeat (first | refine E_st rfl ?_ | refine E_go rfl ?_))
  refine E_cx rfl (by omega) (k_best (d := 0) hn hs hK hr) ?_
  exact E_rt rfl ⟨rfl, rfl⟩
theorem o_best0 {x : Int32} (hx : x < 1 ∨ 3 < x) : pq_Ca (d + 2) 97 [.ref 1, .int x] (pq_Sh L, pn F, pl G, pq_rt h) (fun r M' => r = some (.int (-1)) ∧ M' = (pq_Sh L, pn (F), pl (G), pq_rt h)) := by
  refine Ca_mk rfl rfl ?_
  (repeat (first | refine E_st rfl ?_ | refine E_go rfl ?_))
  refine E_br rfl (fun c => ?_) (fun c => ?_)
  · (repeat (first | refine E_st rfl ?_ | refine E_go rfl ?_))
    exact E_rt rfl ⟨rfl, rfl⟩
  · (repeat (first | refine E_st rfl ?_ | refine E_go rfl ?_))
    refine E_if rfl (hx.resolve_left c) ?_
    (repeat (first | refine E_st rfl ?_ | refine E_go rfl ?_))
    exact E_rt rfl ⟨rfl, rfl⟩
/-- leastSearchers: three searches, one behind the other -/
theorem o_least {x y z : Int32} (hn : nOk F G) (hs : sOk F) (h1 : bRes F G 1 x) (h2 : bRes (bsF F G 1) (pq_u G 56 1 (G 2 1)) 2 y) (h3 : bRes (bsF (bsF F G 1) (pq_u G 56 1 (G 2 1)) 2) (pq_u G 56 1 (G 2 1)) 3 z) :
    pq_Ca (d + 22) 95 [.ref 1] (pq_Sh L, pn F, pl G, pq_rt h) (fun r M' => r = some (.int (if x ≠ -4 then 1 else if y ≠ -4 then 2 else if z ≠ -4 then 3 else -4)) ∧ ∃ F', M' = (pq_Sh L, pn F', pl (pq_u G 56 1 (G 2 1)), pq_rt h) ∧ (∀ p j, p < 56 ∨ 59 < p → F' p j = F p j) ∧ sOk F') := by
  have eG : pq_u (pq_u G 56 1 (G 2 1)) 56 1 (pq_u G 56 1 (G 2 1) 2 1) = pq_u G 56 1 (G 2 1) := by
    funext p j
    simp only [pu_at]
    split
    · rw [if_neg (by decide)]
    · rfl
  have a1 := bs_nOk (K := 1) hn
  have b1 := bs_sOk (K := 1) hn hs (by decide)
  have a2 := bs_nOk (K := 2) a1
  have b2 := bs_sOk (K := 2) a1 b1 (by decide)
  rw [eG] at a2
  have b3 := bs_sOk (K := 3) a2 b2 (by decide)
  have c1 := k_best (d := 0) (L := L) (h := h) hn hs (by decide) h1
  have c2 := k_best (d := 0) (L := L) (h := h) a1 b1 (by decide) h2
  have c3 := k_best (d := 0) (L := L) (h := h) a2 b2 (by decide) h3
  rw [eG] at c2 c3
  refine Ca_mk rfl rfl ?_
  (repeat (first | refine E_st rfl ?_ | refine E_go rfl ?_))
  refine E_cx rfl (by omega) c1 ?_
  (repeat (first | refine E_st rfl ?_ | refine E_go rfl ?_))
  by_cases e1 : x = -4
  case neg =>
    refine E_nif rfl e1 ?_
    (repeat (first | refine E_st rfl ?_ | refine E_go rfl ?_))
    refine E_rt rfl ⟨?_, _, rfl, fun p j hp => bs_off hp, b1⟩
    rw [if_pos e1]; rfl
  refine E_if rfl e1 ?_
  rw [if_neg (fun q => q e1)]
  (repeat (first | refine E_st rfl ?_ | refine E_go rfl ?_))
  refine E_cx rfl (by omega) c2 ?_
  (repeat (first | refine E_st rfl ?_ | refine E_go rfl ?_))
  by_cases e2 : y = -4
  case neg =>
    refine E_nif rfl e2 ?_
    (repeat (first | refine E_st rfl ?_ | refine E_go rfl ?_))
    refine E_rt rfl ⟨?_, _, rfl, fun p j hp => by rw [bs_off hp, bs_off hp], b2⟩
    rw [if_pos e2]; rfl
  refine E_if rfl e2 ?_
  rw [if_neg (fun q => q e2)]
  (repeat (first | refine E_st rfl ?_ | refine E_go rfl ?_))
  refine E_cx rfl (by omega) c3 ?_
  (repeat (first | refine E_st rfl ?_ | refine E_go rfl ?_))
  by_cases e3 : z = -4
  case neg =>
    refine E_nif rfl e3 ?_
    (repeat (first | refine E_st rfl ?_ | refine E_go rfl ?_))
    refine E_rt rfl ⟨?_, _, rfl, fun p j hp => by rw [bs_off hp, bs_off hp, bs_off hp], b3⟩
    rw [if_pos e3]; rfl
  refine E_if rfl e3 ?_
  rw [if_neg (fun q => q e3)]
  (repeat (first | refine E_st rfl ?_ | refine E_go rfl ?_))
  refine E_if rfl (by decide) ?_
  (repeat (first | refine E_st rfl ?_ | refine E_go rfl ?_))
  refine E_rt rfl ⟨rfl, _, rfl, fun p j hp => by rw [bs_off hp, bs_off hp, bs_off hp], b3⟩
/-- planMoves -/
def pmF (F G : FF) : FF := fmS (pq_u (pq_u F 60 0 (F 2 0)) 60 2 (F 2 2)) (F 2 2) (nmF F 3 (F 2 2) * 64 + F 6 (F 2 5 % 8))
theorem o_planMoves (hn : nOk F G) (hs : sOk F) : pq_Ca (d + 20) 93 [.ref 1] (pq_Sh L, pn F, pl G, pq_rt h) (fun r M' => r = some (.int (oI (fmF (F 2 0) (G 2 1) (F 2 2) 41474 0 (pmF F G)).1)) ∧ M' = (pq_Sh L, pn ((fmF (F 2 0) (G 2 1) (F 2 2) 41474 0 (pmF F G)).2), pl (pq_u G 60 1 (G 2 1)), pq_rt h)) := by
  obtain ⟨n1, n2, n3, n4, n5, n6, n7, n8, n9, n10, n11, n12, n13, n14, n15, n16, n17, n18, n19, n20⟩ := hn
  have enm : ∀ k, nmF (pq_u (pq_u F 60 0 (F 2 0)) 60 2 (F 2 2)) 3 k = nmF F 3 k := by
    intro k
    induction k with
    | zero => rfl
    | succ k ih => show nmF _ 3 k * 6 + F 3 k = _; rw [ih]; rfl
  have h1 := s_number (d := 0) (L := L) (F := pq_u (pq_u F 60 0 (F 2 0)) 60 2 (F 2 2)) (G := pq_u G 60 1 (G 2 1)) (h := h) (q := 60) (Or.inr (Or.inr rfl)) (show F 2 2 ≤ 3 from n2) (s := F 6 (F 2 5 % 8))
  rw [show pq_u (pq_u F 60 0 (F 2 0)) 60 2 (F 2 2) 60 2 = F 2 2 from rfl, enm] at h1
  have h2 := m_few (d := 0) (L := L) (F := pq_u (pq_u F 60 0 (F 2 0)) 60 2 (F 2 2)) (G := pq_u G 60 1 (G 2 1)) (h := h) n1 n2 n6 (show pq_u G 60 1 (G 2 1) 60 1 = G 2 1 from rfl) rfl rfl hs.2 (fun s h3 => (hs.1 s h3).2.2) (nm_sit (tp := 3) n2 n7 (n9 (F 2 5 % 8) (Nat.mod_lt _ (by decide))))
  refine Ca_mk rfl rfl ?_
  (repeat (first | refine E_st rfl ?_ | refine E_go rfl ?_))
  refine E_cx rfl (by omega) (s_prepare (d := 0) (q := 60) (Or.inr (Or.inr rfl)) (n := F 2 0) (w := G 2 1) (K := F 2 2)) ?_
  (repeat (first | refine E_st rfl ?_ | refine E_go rfl ?_))
  refine E_cx rfl (by omega) (c_belief (d := 0)) ?_
  (repeat (first | refine E_st rfl ?_ | refine E_go rfl ?_))
  refine E_cx rfl (by omega) h1 ?_
  (repeat (first | refine E_st rfl ?_ | refine E_go rfl ?_))
  refine E_cx rfl (by omega) h2 ?_
  exact E_rt rfl ⟨rfl, rfl⟩
end PLO
