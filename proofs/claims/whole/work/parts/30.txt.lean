section TXT
variable {d L : Nat} {F G : Nat → Nat → Nat} {h : Nat → Nat}
/-- an edge's four characters at s -/
def edC (F : Nat → Nat → Nat) (s : Nat) : Prop := s + 4 ≤ F 1 4 ∧ (48 ≤ F 51 s ∧ F 51 s < 48 + F 2 0) ∧ (48 ≤ F 51 (s + 2) ∧ F 51 (s + 2) < 48 + F 2 0) ∧ F 51 s ≠ F 51 (s + 2) ∧ F 51 (s + 1) = 45 ∧ F 51 (s + 3) = 59
theorem zsub48 {c n : Nat} (hc : c < 65536) (hn : n ≤ 6) : (48 ≤ c ∧ c < 48 + n → nI c - nI 48 = nI (c - 48)) ∧ (¬ (48 ≤ c ∧ c < 48 + n) → nI c - nI 48 < 0 ∨ nI n ≤ nI c - nI 48) := by
  refine ⟨fun q => pk_sub q.1, fun q => ?_⟩
  by_cases h1 : 48 ≤ c
  · right; rw [pk_sub h1]; exact nI_le (by omega) (by omega)
  · left; exact pk_sneg (by decide) (by omega)
set_option maxHeartbeats 1000000 in
theorem c_edgeAt1 {s : Nat} (hn : F 2 0 ≤ 6) (ht : F 1 4 ≤ 60) (hch : ∀ i, i < 60 → F 51 i < 65536) (he : edC F s) : pq_Ca (d + 3) 70 [.ref 1, .int (nI s)] (pq_Sh L, pn F, pl G, pq_rt h) (fun r M' => r = some (.long (lN (wEdge (F 51 s - 48) (F 51 (s + 2) - 48)))) ∧ M' = (pq_Sh L, pn (F), pl (G), pq_rt h)) := by
  obtain ⟨e0, e1, e2, e3, e4, e5⟩ := he
  have c0 := hch s (by omega)
  have c2 := hch (s + 2) (by omega)
  refine Ca_mk rfl rfl ?_
  (repeat (first | refine E_st rfl ?_ | refine E_go rfl ?_))
  rw [nI_add]
  refine E_nif rfl (show ¬ nI (F 1 4) < nI (s + 4) from nI_nlt (by omega) (by omega)) ?_
  (repeat (first | refine E_st rfl ?_ | refine E_go rfl ?_))
  refine E_cal rfl rfl (k := s) (by omega) (by decide) ?_
  (repeat (first | refine E_st rfl ?_ | refine E_go rfl ?_))
  rw [nI_add]
  refine E_cal rfl rfl (k := s + 2) (by omega) (by decide) ?_
  (repeat (first | refine E_st rfl ?_ | refine E_go rfl ?_))
  rw [(zsub48 c0 hn).1 e1, (zsub48 c2 hn).1 e2]
  refine E_cx rfl (by omega) (c_isNode (d := 0) hn (by omega)) ?_
  refine E_nif rfl (nI_ne0 (by decide) (by decide)) ?_
  (repeat (first | refine E_st rfl ?_ | refine E_go rfl ?_))
  refine E_cx rfl (by omega) (c_isNode (d := 0) hn (by omega)) ?_
  refine E_nif rfl (nI_ne0 (by decide) (by decide)) ?_
  (repeat (first | refine E_st rfl ?_ | refine E_go rfl ?_))
  refine E_nif rfl (fun q => e3 (by have := (nI_eq (by omega) (by omega)).mp q; omega)) ?_
  (repeat (first | refine E_st rfl ?_ | refine E_go rfl ?_))
  rw [nI_add]
  refine E_cal rfl rfl (k := s + 1) (by omega) (by decide) ?_
  rw [e4]
  (repeat (first | refine E_st rfl ?_ | refine E_go rfl ?_))
  rw [nI_add]
  refine E_cal rfl rfl (k := s + 3) (by omega) (by decide) ?_
  rw [e5]
  (repeat (first | refine E_st rfl ?_ | refine E_go rfl ?_))
  refine E_if rfl rfl ?_
  (repeat (first | refine E_st rfl ?_ | refine E_go rfl ?_))
  refine E_cx rfl (by omega) (c_edge (d := 0) (by omega) (by omega)) ?_
  exact E_rt rfl ⟨rfl, rfl⟩
set_option maxHeartbeats 1000000 in
theorem c_edgeAt0 {s : Nat} (hn : F 2 0 ≤ 6) (ht : F 1 4 ≤ 60) (hs : s ≤ 60) (hch : ∀ i, i < 60 → F 51 i < 65536) (he : ¬ edC F s) : pq_Ca (d + 3) 70 [.ref 1, .int (nI s)] (pq_Sh L, pn F, pl G, pq_rt h) (fun r M' => r = some (.long (lN 0)) ∧ M' = (pq_Sh L, pn (F), pl (G), pq_rt h)) := by
  refine Ca_mk rfl rfl ?_
  (repeat (first | refine E_st rfl ?_ | refine E_go rfl ?_))
  rw [nI_add]
  by_cases e0 : s + 4 ≤ F 1 4
  case neg =>
    refine E_if rfl (show nI (F 1 4) < nI (s + 4) from nI_lt (by omega) (by omega)) ?_
    (repeat (first | refine E_st rfl ?_ | refine E_go rfl ?_))
    exact E_rt rfl ⟨rfl, rfl⟩
  have c0 := hch s (by omega)
  have c2 := hch (s + 2) (by omega)
  have c1 := hch (s + 1) (by omega)
  have c3 := hch (s + 3) (by omega)
  refine E_nif rfl (show ¬ nI (F 1 4) < nI (s + 4) from nI_nlt (by omega) (by omega)) ?_
  (repeat (first | refine E_st rfl ?_ | refine E_go rfl ?_))
  refine E_cal rfl rfl (k := s) (by omega) (by decide) ?_
  (repeat (first | refine E_st rfl ?_ | refine E_go rfl ?_))
  rw [nI_add]
  refine E_cal rfl rfl (k := s + 2) (by omega) (by decide) ?_
  (repeat (first | refine E_st rfl ?_ | refine E_go rfl ?_))
  by_cases e1 : 48 ≤ F 51 s ∧ F 51 s < 48 + F 2 0
  case neg =>
    refine E_cx rfl (by omega) (c_isNode0 (d := 0) ((zsub48 c0 hn).2 e1)) ?_
    refine E_if rfl rfl ?_
    (repeat (first | refine E_st rfl ?_ | refine E_go rfl ?_))
    exact E_rt rfl ⟨rfl, rfl⟩
  rw [(zsub48 c0 hn).1 e1]
  refine E_cx rfl (by omega) (c_isNode (d := 0) hn (by omega)) ?_
  refine E_nif rfl (nI_ne0 (by decide) (by decide)) ?_
  (repeat (first | refine E_st rfl ?_ | refine E_go rfl ?_))
  by_cases e2 : 48 ≤ F 51 (s + 2) ∧ F 51 (s + 2) < 48 + F 2 0
  case neg =>
    refine E_cx rfl (by omega) (c_isNode0 (d := 0) ((zsub48 c2 hn).2 e2)) ?_
    refine E_if rfl rfl ?_
    (repeat (first | refine E_st rfl ?_ | refine E_go rfl ?_))
    exact E_rt rfl ⟨rfl, rfl⟩
  rw [(zsub48 c2 hn).1 e2]
  refine E_cx rfl (by omega) (c_isNode (d := 0) hn (by omega)) ?_
  refine E_nif rfl (nI_ne0 (by decide) (by decide)) ?_
  (repeat (first | refine E_st rfl ?_ | refine E_go rfl ?_))
  refine E_br rfl (fun q => ?_) (fun q => ?_)
  · (repeat (first | refine E_st rfl ?_ | refine E_go rfl ?_))
    exact E_rt rfl ⟨rfl, rfl⟩
  have e3 : F 51 s ≠ F 51 (s + 2) := fun z => q (by rw [z])
  (repeat (first | refine E_st rfl ?_ | refine E_go rfl ?_))
  rw [nI_add]
  refine E_cal rfl rfl (k := s + 1) (by omega) (by decide) ?_
  (repeat (first | refine E_st rfl ?_ | refine E_go rfl ?_))
  refine E_br rfl (fun q => ?_) (fun q => ?_)
  case refine_2 =>
    (repeat (first | refine E_st rfl ?_ | refine E_go rfl ?_))
    exact E_rt rfl ⟨rfl, rfl⟩
  have e4 : F 51 (s + 1) = 45 := (nI_eq (by omega) (by omega)).mp q
  (repeat (first | refine E_st rfl ?_ | refine E_go rfl ?_))
  rw [nI_add]
  refine E_cal rfl rfl (k := s + 3) (by omega) (by decide) ?_
  (repeat (first | refine E_st rfl ?_ | refine E_go rfl ?_))
  refine E_br rfl (fun q => ?_) (fun q => ?_)
  · have e5 : F 51 (s + 3) = 59 := (nI_eq (by omega) (by omega)).mp q
    exact absurd ⟨e0, e1, e2, e3, e4, e5⟩ he
  · (repeat (first | refine E_st rfl ?_ | refine E_go rfl ?_))
    exact E_rt rfl ⟨rfl, rfl⟩
noncomputable def edF (F : Nat → Nat → Nat) (s : Nat) : Nat := @ite _ (edC F s) (Classical.propDecidable _) (wEdge (F 51 s - 48) (F 51 (s + 2) - 48)) 0
theorem edF_1 {s : Nat} (he : edC F s) : edF F s = wEdge (F 51 s - 48) (F 51 (s + 2) - 48) := by unfold edF; exact @if_pos _ (Classical.propDecidable _) he _ _ _
theorem edF_0 {s : Nat} (he : ¬ edC F s) : edF F s = 0 := by unfold edF; exact @if_neg _ (Classical.propDecidable _) he _ _ _
theorem c_edgeAt {s : Nat} (hn : F 2 0 ≤ 6) (ht : F 1 4 ≤ 60) (hs : s ≤ 60) (hch : ∀ i, i < 60 → F 51 i < 65536) : pq_Ca (d + 3) 70 [.ref 1, .int (nI s)] (pq_Sh L, pn F, pl G, pq_rt h) (fun r M' => r = some (.long (lN (edF F s))) ∧ M' = (pq_Sh L, pn (F), pl (G), pq_rt h)) := by
  by_cases he : edC F s
  · rw [edF_1 he]; exact c_edgeAt1 hn ht hch he
  · rw [edF_0 he]; exact c_edgeAt0 hn ht hs hch he
theorem wy_lt {u v : Nat} (hu : u < 6) (hv : v < 6) : wy u v < 2 ^ 36 := by
  unfold wy; rw [Nat.one_shiftLeft]; exact Nat.pow_lt_pow_right (by decide) (by omega)
theorem wEdge_lt {a b : Nat} (ha : a < 6) (hb : b < 6) : wEdge a b < 2 ^ 36 := Nat.or_lt_two_pow (wy_lt ha hb) (wy_lt hb ha)
theorem edF_lt {s : Nat} (hn : F 2 0 ≤ 6) : edF F s < 2 ^ 36 := by
  by_cases he : edC F s
  · rw [edF_1 he]
    obtain ⟨e0, e1, e2, e3, e4, e5⟩ := he
    exact wEdge_lt (by omega) (by omega)
  · rw [edF_0 he]; decide
/-- the fault, from position s on, with the edges seen -/
noncomputable def fltI (F : Nat → Nat → Nat) : Nat → Nat → Nat → Int32
  | 0, _, _ => -4
  | m + 1, s, seen => if s < F 1 4 then (if edF F s = 0 ∨ ¬ seen &&& edF F s = 0 then nI s else fltI F m (s + 4) (seen ||| edF F s)) else -4
set_option maxHeartbeats 1000000 in
theorem l_fault (hn : F 2 0 ≤ 6) (ht : F 1 4 ≤ 60) (hch : ∀ i, i < 60 → F 51 i < 65536) : ∀ m s seen (z : Option Value), 64 ≤ s + 4 * m → s ≤ 63 → seen < 2 ^ 36 → pq_Ev (d + 3) 69 4 [some (.ref 1), some (.long (lN seen)), none, some (.int (nI s)), z, none] [] (pq_Sh L, pn F, pl G, pq_rt h) (fun r M' => r = some (.int (fltI F m s seen)) ∧ M' = (pq_Sh L, pn (F), pl (G), pq_rt h)) := by
  intro m
  induction m with
  | zero =>
    intro s seen z hm hs hsn
    omega
  | succ m ih =>
    intro s seen z hm hs hsn
    refine E_fo 4 ?_
    (repeat (first | refine E_st rfl ?_ | refine E_go rfl ?_))
    by_cases hc : s < F 1 4
    case neg =>
      refine E_nif rfl (show ¬ nI s < nI (F 1 4) from nI_nlt (by omega) (by omega)) ?_
      (repeat (first | refine E_st rfl ?_ | refine E_go rfl ?_))
      exact E_rt rfl ⟨by simp only [fltI, if_neg hc], rfl⟩
    refine E_if rfl (show nI s < nI (F 1 4) from nI_lt hc (by omega)) ?_
    (repeat (first | refine E_st rfl ?_ | refine E_go rfl ?_))
    refine E_cx rfl (by omega) (c_edgeAt (d := 0) hn ht (by omega) hch) ?_
    have hel := edF_lt (F := F) (s := s) hn
    generalize hE : edF F s = E at hel
    (repeat (first | refine E_st rfl ?_ | refine E_go rfl ?_))
    by_cases hz : E = 0
    · refine E_if rfl ((zl_cmp (Nat.lt_trans hel (by decide))).mpr hz) ?_
      (repeat (first | refine E_st rfl ?_ | refine E_go rfl ?_))
      exact E_rt rfl ⟨by simp only [fltI, if_pos hc, hE, if_pos (Or.inl hz)], rfl⟩
    refine E_nif rfl (fun q => hz ((zl_cmp (Nat.lt_trans hel (by decide))).mp q)) ?_
    (repeat (first | refine E_st rfl ?_ | refine E_go rfl ?_))
    rw [zl_and]
    have hal : seen &&& E < 2 ^ 63 := Nat.lt_of_le_of_lt Nat.and_le_left (Nat.lt_trans hsn (by decide))
    by_cases hy : seen &&& E = 0
    · refine E_if rfl ((zl_cmp hal).mpr hy) ?_
      (iterate 6 (first | refine E_st rfl ?_ | refine E_go rfl ?_))
      rw [zl_or, nI_add]
      have e : fltI F (m + 1) s seen = fltI F m (s + 4) (seen ||| E) := by simp only [fltI, if_pos hc, hE, if_neg (show ¬ (E = 0 ∨ ¬ seen &&& E = 0) from fun q => q.elim hz (fun q => q hy))]
      rw [e]
      by_cases hs2 : s + 4 ≤ 63
      · exact ih (s + 4) (seen ||| E) _ (by omega) hs2 (Nat.or_lt_two_pow hsn hel)
      · omega
    · refine E_nif rfl (fun q => hy ((zl_cmp hal).mp q)) ?_
      (repeat (first | refine E_st rfl ?_ | refine E_go rfl ?_))
      exact E_rt rfl ⟨by simp only [fltI, if_pos hc, hE, if_pos (Or.inr hy)], rfl⟩
theorem o_fault (hn : F 2 0 ≤ 6) (ht : F 1 4 ≤ 60) (hch : ∀ i, i < 60 → F 51 i < 65536) : pq_Ca (d + 4) 69 [.ref 1] (pq_Sh L, pn F, pl G, pq_rt h) (fun r M' => r = some (.int (fltI F 16 0 0)) ∧ M' = (pq_Sh L, pn (F), pl (G), pq_rt h)) := by
  refine Ca_mk rfl rfl ?_
  (iterate 4 (first | refine E_st rfl ?_ | refine E_go rfl ?_))
  exact l_fault hn ht hch 16 0 0 none (by decide) (by decide) (by decide)
noncomputable def txE (F : Nat → Nat → Nat) : Nat → Nat → Nat → Nat
  | 0, _, acc => acc
  | m + 1, s, acc => if s < F 1 4 then txE F m (s + 4) (acc ||| edF F s) else acc
theorem l_texts (hn : F 2 0 ≤ 6) (ht : F 1 4 ≤ 60) (hch : ∀ i, i < 60 → F 51 i < 65536) : ∀ m s acc, 64 ≤ s + 4 * m → s ≤ 63 → pq_Ev (d + 3) 71 4 [some (.ref 1), some (.long (lN acc)), none, some (.int (nI s))] [] (pq_Sh L, pn F, pl G, pq_rt h) (fun r M' => r = some (.long (lN (txE F m s acc))) ∧ M' = (pq_Sh L, pn (F), pl (G), pq_rt h)) := by
  intro m
  induction m with
  | zero => intro s acc hm hs; omega
  | succ m ih =>
    intro s acc hm hs
    (repeat (first | refine E_st rfl ?_ | refine E_go rfl ?_))
    by_cases hc : s < F 1 4
    case neg =>
      refine E_nif rfl (show ¬ nI s < nI (F 1 4) from nI_nlt (by omega) (by omega)) ?_
      (repeat (first | refine E_st rfl ?_ | refine E_go rfl ?_))
      exact E_rt rfl ⟨by simp only [txE, if_neg hc], rfl⟩
    refine E_if rfl (show nI s < nI (F 1 4) from nI_lt hc (by omega)) ?_
    (repeat (first | refine E_st rfl ?_ | refine E_go rfl ?_))
    refine E_cx rfl (by omega) (c_edgeAt (d := 0) hn ht (by omega) hch) ?_
    (iterate 4 (first | refine E_st rfl ?_ | refine E_go rfl ?_))
    rw [zl_or, nI_add]
    have e : txE F (m + 1) s acc = txE F m (s + 4) (acc ||| edF F s) := by simp only [txE, if_pos hc]
    rw [e]
    exact ih (s + 4) _ (by omega) (by omega)
theorem c_texts (hn : F 2 0 ≤ 6) (ht : F 1 4 ≤ 60) (hch : ∀ i, i < 60 → F 51 i < 65536) : pq_Ca (d + 4) 71 [.ref 1] (pq_Sh L, pn F, pl G, pq_rt h) (fun r M' => r = some (.long (lN (txE F 16 0 0))) ∧ M' = (pq_Sh L, pn (F), pl (G), pq_rt h)) := by
  refine Ca_mk rfl rfl ?_
  (iterate 4 (first | refine E_st rfl ?_ | refine E_go rfl ?_))
  exact l_texts hn ht hch 16 0 0 (by decide) (by decide)
end TXT
