section PLN
variable {d L n K pa : Nat} {F G : Nat → Nat → Nat} {h : Nat → Nat}
/-- bounds of the search objects -/
def sOk (F : FF) : Prop := (∀ s, s < 13824 → F 54 s < 2 ^ 32 ∧ F 58 s < 2 ^ 32 ∧ (F 62 s = N1 ∨ F 62 s ≤ 41475)) ∧ F 60 5 ≤ 41472
def fgF (F : FF) (q n K : Nat) : FF := pq_u (pq_u (clF (pq_u (pq_u F q 0 n) q 2 K) (q + 2) (64 * 6 ^ K)) q 6 0) q 8 N1
theorem N1_lt : N1 < 2 ^ 32 := by decide
theorem N2_lt : N2 < 2 ^ 32 := by decide
theorem fg_inv {q : Nat} (hs : ∀ s, s < 13824 → F (q + 2) s < 2 ^ 32) : tInv q n K (fgF F q n K) := by
  refine ⟨?_, ?_, ?_, ?_, fun s hs2 => ?_, fun i hi => ?_⟩
  · unfold fgF
    rw [pu_at, if_neg (by omega), pu_at, if_neg (by omega)]
    unfold clF
    rw [if_neg (by omega), pu_at, if_neg (by omega), pu_at, if_pos ⟨rfl, rfl⟩]
  · unfold fgF
    rw [pu_at, if_neg (by omega), pu_at, if_neg (by omega)]
    unfold clF
    rw [if_neg (by omega), pu_at, if_pos ⟨rfl, rfl⟩]
  · unfold fgF
    rw [pu_at, if_pos ⟨rfl, rfl⟩]; decide
  · unfold fgF
    rw [pu_at, if_neg (by omega), pu_at, if_pos ⟨rfl, rfl⟩]; omega
  · unfold fgF
    rw [pu_at, if_neg (by omega), pu_at, if_neg (by omega)]
    unfold clF
    split
    · decide
    · rw [pu_at, if_neg (by omega), pu_at, if_neg (by omega)]; exact hs s hs2
  · unfold fgF at hi
    rw [pu_at, if_neg (by omega), pu_at, if_pos ⟨rfl, rfl⟩] at hi
    omega
def kpF (F G : FF) : FF := pq_u (seF 52 (F 2 0) (G 2 1) (F 2 2) 13825 0 (enF (fgF F 52 (F 2 0) (F 2 2)) 52 (nmF F 3 (F 2 2) * 64 + F 6 (F 2 5 % 8)) N2)) 1 6 1
theorem nm_lt {tp : Nat} (ha : ∀ k, k < 3 → F tp k < 6) : ∀ k, k ≤ 3 → nmF F tp k < 6 ^ k := by
  intro k
  induction k with
  | zero => intro _; show 0 < 1; exact Nat.one_pos
  | succ k ih =>
    intro hk
    have h1 := ih (by omega)
    have h2 := ha k (by omega)
    show nmF F tp k * 6 + F tp k < 6 ^ (k + 1)
    rw [Nat.pow_succ]; omega
set_option maxHeartbeats 1000000 in
theorem k_know (hn : nOk F G) (hs : sOk F) (h16 : F 1 6 = 0) : pq_Ca (d + 20) 91 [.ref 1] (pq_Sh L, pn F, pl G, pq_rt h) (fun r M' => r = none ∧ M' = (pq_Sh L, pn (kpF F G), pl (pq_u G 52 1 (G 2 1)), pq_rt h)) := by
  obtain ⟨n1, n2, n3, n4, n5, n6, n7, n8, n9, n10, n11, n12, n13, n14, n15, n16, n17, n18, n19, n20⟩ := hn
  have hinv := fg_inv (n := F 2 0) (K := F 2 2) (q := 52) (fun s h1 => (hs.1 s h1).1)
  have hkb := K_le n2
  have hnm := nm_lt (tp := 3) n7 (F 2 2) n2
  have hb := n9 (F 2 5 % 8) (by omega)
  have hst : nmF F 3 (F 2 2) * 64 + F 6 (F 2 5 % 8) < 64 * 6 ^ F 2 2 := by omega
  refine Ca_mk rfl rfl ?_
  (repeat (first | refine E_st rfl ?_ | refine E_go rfl ?_))
  refine E_if rfl (by rw [pn_at, h16]; rfl) ?_
  (repeat (first | refine E_st rfl ?_ | refine E_go rfl ?_))
  refine E_cx rfl (by omega) (s_prepare (d := 0) (q := 52) (Or.inl rfl) (n := F 2 0) (w := G 2 1) (K := F 2 2)) ?_
  (repeat (first | refine E_st rfl ?_ | refine E_go rfl ?_))
  refine E_cx rfl (by omega) (t_forget (d := 0) (q := 52) (Or.inl rfl) n2) ?_
  (repeat (first | refine E_st rfl ?_ | refine E_go rfl ?_))
  refine E_cx rfl (by omega) (c_belief (d := 0)) ?_
  refine E_cx rfl (by omega) (s_number (d := 0) (q := 52) (Or.inl rfl) n2) ?_
  (repeat (first | refine E_st rfl ?_ | refine E_go rfl ?_))
  rw [zm2]
  have en : nmF (fgF F 52 (F 2 0) (F 2 2)) 3 (F 2 2) = nmF F 3 (F 2 2) := by
    have : ∀ k, nmF (fgF F 52 (F 2 0) (F 2 2)) 3 k = nmF F 3 k := by
      intro k
      induction k with
      | zero => rfl
      | succ k ih => show _ * 6 + _ = _ * 6 + _; rw [ih]; rfl
    exact this _
  have hen := t_enter (d := 0) (L := L) (F := fgF F 52 (F 2 0) (F 2 2)) (G := pq_u G 52 1 (G 2 1)) (h := h) (q := 52) (Or.inl rfl) (s := nmF F 3 (F 2 2) * 64 + F 6 (F 2 5 % 8)) (b := N2) (by omega) hinv.2.2.1 (hinv.2.2.2.2.1 _ (by omega)) hinv.2.2.2.1
  have hnum : nmF (fgF F 52 (F 2 0) (F 2 2)) 3 (F 2 2) * 64 + F 6 (F 2 5 % 8) = nmF F 3 (F 2 2) * 64 + F 6 (F 2 5 % 8) := by rw [en]
  refine E_cx rfl (by omega) (show pq_Ca 1 38 [.ref 52, .int (nI (nmF (fgF F 52 (F 2 0) (F 2 2)) 3 (F 2 2) * 64 + F 6 (F 2 5 % 8))), .int (nI N2)] (pq_Sh L, pn (fgF F 52 (F 2 0) (F 2 2)), pl (pq_u G 52 1 (G 2 1)), pq_rt h) _ by rw [hnum]; exact hen) ?_
  (repeat (first | refine E_st rfl ?_ | refine E_go rfl ?_))
  have hse := t_search (d := 0) (L := L) (h := h) (q := 52) (Or.inl rfl) n1 n2 n6 (show pq_u G 52 1 (G 2 1) 52 1 = G 2 1 from rfl) (en_inv n2 hinv hst N2_lt)
  refine E_cx rfl (by omega) hse ?_
  (repeat (first | refine E_st rfl ?_ | refine E_go rfl ?_))
  simp only [pu_n, pu_l, pc_n, pc_l]
  exact E_rt rfl ⟨rfl, rfl⟩
theorem k_know1 (h16 : F 1 6 = 1) : pq_Ca (d + 1) 91 [.ref 1] (pq_Sh L, pn F, pl G, pq_rt h) (fun r M' => r = none ∧ M' = (pq_Sh L, pn (F), pl (G), pq_rt h)) := by
  refine Ca_mk rfl rfl ?_
  (repeat (first | refine E_st rfl ?_ | refine E_go rfl ?_))
  refine E_nif rfl (by rw [pn_at, h16]; decide) ?_
  exact E_rt rfl ⟨rfl, rfl⟩
theorem o_planTurns {F' G' : FF} {k : Nat} (hk : pq_Ca (d + 20) 91 [.ref 1] (pq_Sh L, pn F, pl G, pq_rt h) (fun r M' => r = none ∧ M' = (pq_Sh L, pn F', pl G', pq_rt h))) (hkl : k ≤ 13824) (hc : tCh F' 52 k (F' 52 8)) : pq_Ca (d + 21) 90 [.ref 1] (pq_Sh L, pn F, pl G, pq_rt h) (fun r M' => r = some (.int (nI k)) ∧ M' = (pq_Sh L, pn F', pl G', pq_rt h)) := by
  refine Ca_mk rfl rfl ?_
  (repeat (first | refine E_st rfl ?_ | refine E_go rfl ?_))
  refine E_cx rfl (by omega) hk ?_
  (repeat (first | refine E_st rfl ?_ | refine E_go rfl ?_))
  refine E_cx rfl (by omega) (t_turns (d := 0) (q := 52) (Or.inl rfl) hkl hc) ?_
  exact E_rt rfl ⟨rfl, rfl⟩
theorem o_planTurns0 {F' G' : FF} (hk : pq_Ca (d + 20) 91 [.ref 1] (pq_Sh L, pn F, pl G, pq_rt h) (fun r M' => r = none ∧ M' = (pq_Sh L, pn F', pl G', pq_rt h))) (he : F' 52 8 = N1) : pq_Ca (d + 21) 90 [.ref 1] (pq_Sh L, pn F, pl G, pq_rt h) (fun r M' => r = some (.int (-4)) ∧ M' = (pq_Sh L, pn F', pl G', pq_rt h)) := by
  refine Ca_mk rfl rfl ?_
  (repeat (first | refine E_st rfl ?_ | refine E_go rfl ?_))
  refine E_cx rfl (by omega) hk ?_
  (repeat (first | refine E_st rfl ?_ | refine E_go rfl ?_))
  refine E_cx rfl (by omega) (t_turns0 (d := 0) (q := 52) (Or.inl rfl) he) ?_
  exact E_rt rfl ⟨rfl, rfl⟩
theorem o_planOrder {F' G' : FF} {k t sr : Nat} (hn : nOk F G) (hsr : sr < F 2 2) (hk : pq_Ca (d + 20) 91 [.ref 1] (pq_Sh L, pn F, pl G, pq_rt h) (fun r M' => r = none ∧ M' = (pq_Sh L, pn F', pl G', pq_rt h))) (h2 : F' 52 2 = F 2 2) (hkl : k ≤ 13824) (hc : tCh F' 52 k (F' 52 8)) (ht : t < k) : pq_Ca (d + 21) 92 [.ref 1, .int (nI t), .int (nI sr)] (pq_Sh L, pn F, pl G, pq_rt h) (fun r M' => r = some (.int (nI (sitPos (F 2 2) (tUp F' 52 (k - (t + 1)) (F' 52 8)) sr))) ∧ M' = (pq_Sh L, pn (plF F' 53 (F 2 2) (tUp F' 52 (k - (t + 1)) (F' 52 8) / 64)), pl G', pq_rt h)) := by
  refine Ca_mk rfl rfl ?_
  (repeat (first | refine E_st rfl ?_ | refine E_go rfl ?_))
  refine E_nif rfl (nI_pos (by omega)) ?_
  (repeat (first | refine E_st rfl ?_ | refine E_go rfl ?_))
  refine E_cx rfl (by omega) (c_isSearcher (d := 0) hn.2.1 hsr) ?_
  refine E_nif rfl (nI_ne0 (by decide) (by decide)) ?_
  (repeat (first | refine E_st rfl ?_ | refine E_go rfl ?_))
  refine E_cx rfl (by omega) hk ?_
  (repeat (first | refine E_st rfl ?_ | refine E_go rfl ?_))
  refine E_cx rfl (by omega) (t_turns (d := 0) (q := 52) (Or.inl rfl) hkl hc) ?_
  (repeat (first | refine E_st rfl ?_ | refine E_go rfl ?_))
  refine E_if rfl (nI_lt ht (by omega)) ?_
  (repeat (first | refine E_st rfl ?_ | refine E_go rfl ?_))
  rw [nI_add]
  refine E_cx rfl (by omega) (t_nodeAfter (d := 0) (q := 52) (Or.inl rfl) h2 hn.2.1 hsr hkl (by omega) hc) ?_
  exact E_rt rfl ⟨rfl, rfl⟩
theorem o_planOrder4 {F' G' : FF} {x : Int32} {sr : Nat} (hn : nOk F G) (hx : ¬ x < 0) (hsr : sr < F 2 2) (hk : pq_Ca (d + 20) 91 [.ref 1] (pq_Sh L, pn F, pl G, pq_rt h) (fun r M' => r = none ∧ M' = (pq_Sh L, pn F', pl G', pq_rt h))) (hc : F' 52 8 = N1 ∨ ∃ k, k ≤ 13824 ∧ tCh F' 52 k (F' 52 8) ∧ nI k ≤ x) : pq_Ca (d + 21) 92 [.ref 1, .int x, .int (nI sr)] (pq_Sh L, pn F, pl G, pq_rt h) (fun r M' => r = some (.int (-4)) ∧ M' = (pq_Sh L, pn F', pl G', pq_rt h)) := by
  refine Ca_mk rfl rfl ?_
  (repeat (first | refine E_st rfl ?_ | refine E_go rfl ?_))
  refine E_nif rfl hx ?_
  (repeat (first | refine E_st rfl ?_ | refine E_go rfl ?_))
  refine E_cx rfl (by omega) (c_isSearcher (d := 0) hn.2.1 hsr) ?_
  refine E_nif rfl (nI_ne0 (by decide) (by decide)) ?_
  (repeat (first | refine E_st rfl ?_ | refine E_go rfl ?_))
  refine E_cx rfl (by omega) hk ?_
  (repeat (first | refine E_st rfl ?_ | refine E_go rfl ?_))
  rcases hc with he | ⟨k, hkl, hc, hle⟩
  · refine E_cx rfl (by omega) (t_turns0 (d := 0) (q := 52) (Or.inl rfl) he) ?_
    (repeat (first | refine E_st rfl ?_ | refine E_go rfl ?_))
    refine E_nif rfl (fun z => hx (Int32.lt_trans z (by decide))) ?_
    (repeat (first | refine E_st rfl ?_ | refine E_go rfl ?_))
    exact E_rt rfl ⟨rfl, rfl⟩
  · refine E_cx rfl (by omega) (t_turns (d := 0) (q := 52) (Or.inl rfl) hkl hc) ?_
    (repeat (first | refine E_st rfl ?_ | refine E_go rfl ?_))
    refine E_nif rfl (Int32.not_lt.mpr hle) ?_
    (repeat (first | refine E_st rfl ?_ | refine E_go rfl ?_))
    exact E_rt rfl ⟨rfl, rfl⟩
theorem o_planOrder0 {x y : Int32} (hx : x < 0 ∨ y < 0 ∨ nI (F 2 2) ≤ y) : pq_Ca (d + 2) 92 [.ref 1, .int x, .int y] (pq_Sh L, pn F, pl G, pq_rt h) (fun r M' => r = some (.int (-1)) ∧ M' = (pq_Sh L, pn (F), pl (G), pq_rt h)) := by
  refine Ca_mk rfl rfl ?_
  (repeat (first | refine E_st rfl ?_ | refine E_go rfl ?_))
  refine E_br rfl (fun c => ?_) (fun c => ?_)
  · (repeat (first | refine E_st rfl ?_ | refine E_go rfl ?_))
    exact E_rt rfl ⟨rfl, rfl⟩
  · (repeat (first | refine E_st rfl ?_ | refine E_go rfl ?_))
    refine E_cx rfl (by omega) (c_isSearcher0 (d := 0) (hx.resolve_left c)) ?_
    refine E_if rfl rfl ?_
    (repeat (first | refine E_st rfl ?_ | refine E_go rfl ?_))
    exact E_rt rfl ⟨rfl, rfl⟩
def bsF (F G : FF) (K : Nat) : FF := seF 56 (F 2 0) (G 2 1) K 13825 0 (eaF 56 (F 2 0) K (6 ^ K) (fgF F 56 (F 2 0) K))
/-- what the search from the best start answers -/
def bRes (F G : FF) (K : Nat) (r : Int32) : Prop := (bsF F G K 56 8 = N1 ∧ r = -4) ∨ ∃ k, k ≤ 13824 ∧ tCh (bsF F G K) 56 k (bsF F G K 56 8) ∧ r = nI k
set_option maxHeartbeats 1000000 in
theorem k_best {x : Int32} (hn : nOk F G) (hs : sOk F) (hK : K ≤ 3) (hr : bRes F G K x) : pq_Ca (d + 20) 96 [.ref 1, .int (nI K)] (pq_Sh L, pn F, pl G, pq_rt h) (fun r M' => r = some (.int x) ∧ M' = (pq_Sh L, pn (bsF F G K), pl (pq_u G 56 1 (G 2 1)), pq_rt h)) := by
  obtain ⟨n1, n2, n3, n4, n5, n6, n7, n8, n9, n10, n11, n12, n13, n14, n15, n16, n17, n18, n19, n20⟩ := hn
  have hinv := fg_inv (n := F 2 0) (K := K) (q := 56) (fun s h1 => (hs.1 s h1).2.1)
  have hst := t_allStarts (d := 0) (L := L) (G := pq_u G 56 1 (G 2 1)) (h := h) (q := 56) (Or.inr rfl) n1 hK hinv
  have hse := t_search (d := 0) (L := L) (h := h) (q := 56) (Or.inr rfl) n1 hK n6 (show pq_u G 56 1 (G 2 1) 56 1 = G 2 1 from rfl) (ea_inv n1 hK hinv (6 ^ K) (Nat.le_refl _))
  have hfg := t_forget (d := 0) (L := L) (F := pq_u (pq_u F 56 0 (F 2 0)) 56 2 K) (G := pq_u G 56 1 (G 2 1)) (h := h) (q := 56) (Or.inr rfl) hK
  refine Ca_mk rfl rfl ?_
  (repeat (first | refine E_st rfl ?_ | refine E_go rfl ?_))
  refine E_cx rfl (by omega) (s_prepare (d := 0) (q := 56) (Or.inr (Or.inl rfl)) (n := F 2 0) (w := G 2 1) (K := K)) ?_
  (repeat (first | refine E_st rfl ?_ | refine E_go rfl ?_))
  refine E_cx rfl (by omega) hfg ?_
  (repeat (first | refine E_st rfl ?_ | refine E_go rfl ?_))
  refine E_cx rfl (by omega) hst ?_
  (repeat (first | refine E_st rfl ?_ | refine E_go rfl ?_))
  refine E_cx rfl (by omega) hse ?_
  (repeat (first | refine E_st rfl ?_ | refine E_go rfl ?_))
  rcases hr with ⟨he, e2⟩ | ⟨k, hkl, hch, e2⟩
  · refine E_cx rfl (by omega) (t_turns0 (d := 0) (q := 56) (Or.inr rfl) he) ?_
    rw [e2]
    exact E_rt rfl ⟨rfl, rfl⟩
  · refine E_cx rfl (by omega) (t_turns (d := 0) (q := 56) (Or.inr rfl) hkl hch) ?_
    rw [e2]
    exact E_rt rfl ⟨rfl, rfl⟩
end PLN
