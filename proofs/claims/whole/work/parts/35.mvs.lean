/-! MoveSearch: places 60, 61 (at), 62 (prices) -/
def mA : Nat → Nat → FF → FF := fun s mv F => if mv = 0 then F else if F 62 s = N1 ∨ F 60 5 + mv < F 62 s then pq_u (pq_u F 62 s (F 60 5 + mv)) 60 6 (if F 60 6 < F 60 5 + mv then F 60 5 + mv else F 60 6) else F
def mInv (n K : Nat) (F : FF) : Prop := F 60 0 = n ∧ F 60 2 = K ∧ F 60 5 ≤ 41472 ∧ F 60 6 ≤ 41475 ∧ ∀ s, s < 13824 → F 62 s = N1 ∨ F 62 s ≤ 41475
section MVS
variable {d L n K pa : Nat} {F G : Nat → Nat → Nat} {h : Nat → Nat}
theorem mA_off {s mv p j : Nat} (h1 : ¬ p = 62) (h2 : ¬ (p = 60 ∧ j = 6)) : mA s mv F p j = F p j := by
  unfold mA
  split
  · rfl
  · split
    · rw [pu_at, if_neg h2, pu_at, if_neg (fun z => h1 z.1)]
    · rfl
theorem mA_inv {s mv : Nat} (hI : mInv n K F) (hmv : mv ≤ 3) : mInv n K (mA s mv F) := by
  obtain ⟨i0, i1, i2, i3, i4⟩ := hI
  refine ⟨by rw [mA_off (by decide) (by decide)]; exact i0, by rw [mA_off (by decide) (by decide)]; exact i1, by rw [mA_off (by decide) (by decide)]; exact i2, ?_, fun s2 hs2 => ?_⟩
  · unfold mA
    split
    · exact i3
    · split
      · rw [pu_at, if_pos ⟨rfl, rfl⟩]; split <;> omega
      · exact i3
  · unfold mA
    split
    · exact i4 s2 hs2
    · split
      · rw [pu_at, if_neg (by omega), pu_at]
        split
        · right; omega
        · exact i4 s2 hs2
      · exact i4 s2 hs2
set_option maxHeartbeats 1000000 in
theorem m_arrive {s mv : Nat} (hI : mInv n K F) (hs : s < 13824) (hmv : mv ≤ 3) : pq_Ca (d + 1) 46 [.ref 60, .int (nI s), .int (nI mv)] (pq_Sh L, pn F, pl G, pq_rt h) (fun r M' => r = none ∧ M' = (pq_Sh L, pn (mA s mv F), pl (G), pq_rt h)) := by
  obtain ⟨i0, i1, i2, i3, i4⟩ := hI
  by_cases c0 : mv = 0
  · subst c0
    refine Ca_mk rfl rfl ?_
    (repeat (first | refine E_st rfl ?_ | refine E_go rfl ?_))
    exact E_rt rfl ⟨rfl, rfl⟩
  have hlt : F 62 s < 2 ^ 32 := by
    rcases i4 s hs with e | e
    · rw [e]; decide
    · omega
  have emax : (if pn F 60 6 < nI (F 60 5 + mv) then nI (F 60 5 + mv) else pn F 60 6) = nI (if F 60 6 < F 60 5 + mv then F 60 5 + mv else F 60 6) := by
    rw [pn_at]
    by_cases hc : F 60 6 < F 60 5 + mv
    · rw [if_pos hc, if_pos (nI_lt hc (by omega))]
    · rw [if_neg hc, if_neg (nI_nlt (by omega) (by omega))]
  have store : ∀ (z : Option Value), (F 62 s = N1 ∨ F 60 5 + mv < F 62 s) → pq_Ev d 46 27 [some (.ref 60), some (.int (nI s)), some (.int (nI mv)), z] [] (pq_Sh L, pn F, pl G, pq_rt h) (fun r M' => r = none ∧ M' = (pq_Sh L, pn (mA s mv F), pl (G), pq_rt h)) := by
    intro z hc
    have e : mA s mv F = pq_u (pq_u F 62 s (F 60 5 + mv)) 60 6 (if F 60 6 < F 60 5 + mv then F 60 5 + mv else F 60 6) := by
      unfold mA; rw [if_neg c0, if_pos hc]
    rw [e]
    (repeat (first | refine E_st rfl ?_ | refine E_go rfl ?_))
    rw [pn_at, nI_add]
    refine E_ias rfl rfl (n := 13824) hs (by decide) (by decide) ?_
    (repeat (first | refine E_st rfl ?_ | refine E_go rfl ?_))
    have e6 : pn (pq_u F 62 s (F 60 5 + mv)) 60 6 = pn F 60 6 := rfl
    have e5 : pn (pq_u F 62 s (F 60 5 + mv)) 60 5 = nI (F 60 5) := rfl
    rw [e6, e5, nI_add, emax]
    simp only [pu_n, pu_l, pc_n, pc_l]
    exact E_rt rfl ⟨rfl, rfl⟩
  refine Ca_mk rfl rfl ?_
  (repeat (first | refine E_st rfl ?_ | refine E_go rfl ?_))
  refine E_nif rfl (nI_ne0 (by omega) (by omega)) ?_
  (repeat (first | refine E_st rfl ?_ | refine E_go rfl ?_))
  refine E_ial rfl rfl (n := 13824) hs (by decide) ?_
  (repeat (first | refine E_st rfl ?_ | refine E_go rfl ?_))
  by_cases c1 : F 62 s = N1
  · refine E_if rfl (by rw [c1, zm1]) ?_
    exact store _ (Or.inl c1)
  · refine E_nif rfl (fun z => c1 ((zi_eq hlt (by decide)).mp (by rw [← zm1]; exact z))) ?_
    have h4 := (i4 s hs).resolve_left c1
    (repeat (first | refine E_st rfl ?_ | refine E_go rfl ?_))
    rw [pn_at, nI_add]
    by_cases c2 : F 60 5 + mv < F 62 s
    · refine E_if rfl (nI_lt c2 (by omega)) ?_
      exact store _ (Or.inr c2)
    · refine E_nif rfl (nI_nlt (by omega) (by omega)) ?_
      refine E_rt rfl ⟨rfl, ?_⟩
      unfold mA
      rw [if_neg c0, if_neg (fun z => z.elim c1 c2)]
theorem m_arOk (hK : K ≤ 3) {pos : Nat → Nat} : arOk L 60 n K (d + 1) G h pos (fun F => mInv n K F ∧ ∀ k, k < K → F 61 k = pos k) mA := by
  have hk := K_le hK
  refine ⟨fun F hF => ⟨hF.1.1, hF.1.2.1, hF.2⟩, fun F s mv hF hs hmv => ?_⟩
  refine ⟨⟨mA_inv hF.1 (by omega), fun k hk2 => ?_⟩, m_arrive hF.1 (by omega) (by omega)⟩
  rw [mA_off (by decide) (by omega)]; exact hF.2 k hk2
def mStep (n pa K : Nat) (F : FF) (sit : Nat) : FF := arrs mA (ords n pa (sitPos K sit) K 0 (wOnly pa (sit % 64)) 0 0) (plF F 61 K (sit / 64))
def mAll (n pa K : Nat) : Nat → Nat → FF → Bool × FF
  | 0, _, F => (false, F)
  | m + 1, i, F => if F 62 i = F 60 5 then (if i % 64 = 0 then (true, F) else mAll n pa K m (i + 1) (mStep n pa K F i)) else mAll n pa K m (i + 1) F
theorem mpl_inv (hI : mInv n K F) (i : Nat) : mInv n K (plF F 61 K i) := by
  have off : ∀ p j, ¬ p = 61 → plF F 61 K i p j = F p j := fun p j hp => plF_off _ _ _ _ _ (fun z => hp z.1)
  obtain ⟨i0, i1, i2, i3, i4⟩ := hI
  refine ⟨?_, ?_, ?_, ?_, fun s hs => ?_⟩
  · rw [off _ _ (by decide)]; exact i0
  · rw [off _ _ (by decide)]; exact i1
  · rw [off _ _ (by decide)]; exact i2
  · rw [off _ _ (by decide)]; exact i3
  · rw [off _ _ (by decide)]; exact i4 s hs
theorem ms_inv (hn : n ≤ 6) (hK : K ≤ 3) (hI : mInv n K F) (sit : Nat) : mInv n K (mStep n pa K F sit) := by
  refine (arrs_inv (m_arOk (d := 0) (L := 0) (G := F) (h := fun k => k) hK) _ _ (fun s hs => ?_) ⟨mpl_inv hI (sit / 64), fun k hk => plF_in _ _ _ _ hk⟩).1
  have := ords_ok hn K 0 _ 0 0 (by decide) (Nat.le_refl _) s hs
  simpa using this
theorem arrs_m5 : ∀ (l : List (Nat × Nat)) (F : FF), arrs mA l F 60 5 = F 60 5 := by
  intro l
  induction l with
  | nil => intro F; rfl
  | cons a l ih => intro F; show arrs mA l (mA a.1 a.2 F) 60 5 = _; rw [ih, mA_off (by decide) (by decide)]
theorem ms_5 (sit : Nat) : mStep n pa K F sit 60 5 = F 60 5 := by
  unfold mStep; rw [arrs_m5, plF_off _ _ _ _ _ (by omega)]
theorem mAll_inv (hn : n ≤ 6) (hK : K ≤ 3) : ∀ m i (F : FF), mInv n K F → mInv n K (mAll n pa K m i F).2 ∧ (mAll n pa K m i F).2 60 5 = F 60 5 := by
  intro m
  induction m with
  | zero => intro i F hI; exact ⟨hI, rfl⟩
  | succ m ih =>
    intro i F hI
    simp only [mAll]
    split
    · split
      · exact ⟨hI, rfl⟩
      · have := ih (i + 1) _ (ms_inv (pa := pa) hn hK hI i)
        rw [ms_5] at this
        exact this
    · exact ih (i + 1) F hI
set_option maxHeartbeats 1000000 in
theorem l_mAll (hn : n ≤ 6) (hK : K ≤ 3) (hpa : pa < 2 ^ 63) (hG : G 60 1 = pa) : ∀ m i (F : FF), i + m = 64 * 6 ^ K → mInv n K F → pq_Ev (d + K + 6) 48 7 [some (.ref 60), some (.int (nI (64 * 6 ^ K))), some (.int (nI i))] [] (pq_Sh L, pn F, pl G, pq_rt h) (fun r M' => r = some (.int (nI (if (mAll n pa K m i F).1 then 1 else 0))) ∧ M' = (pq_Sh L, pn ((mAll n pa K m i F).2), pl (G), pq_rt h)) := by
  have hk := K_le hK
  intro m
  induction m with
  | zero =>
    intro i F hi hI
    have hi : i = 64 * 6 ^ K := by omega
    subst hi
    (repeat (first | refine E_st rfl ?_ | refine E_go rfl ?_))
    refine E_nif rfl (nI_nlt (Nat.le_refl _) (by omega)) ?_
    (repeat (first | refine E_st rfl ?_ | refine E_go rfl ?_))
    exact E_rt rfl ⟨rfl, rfl⟩
  | succ m ih =>
    intro i F hi hI
    have hI2 := hI
    obtain ⟨i0, i1, i2, i3, i4⟩ := hI
    have hlt : F 62 i < 2 ^ 32 := by
      rcases i4 i (by omega) with e | e
      · rw [e]; decide
      · omega
    (repeat (first | refine E_st rfl ?_ | refine E_go rfl ?_))
    refine E_if rfl (nI_lt (by omega) (by omega)) ?_
    (repeat (first | refine E_st rfl ?_ | refine E_go rfl ?_))
    refine E_ial rfl rfl (n := 13824) (by omega) (by decide) ?_
    (repeat (first | refine E_st rfl ?_ | refine E_go rfl ?_))
    by_cases c1 : F 62 i = F 60 5
    · refine E_if rfl (by rw [c1]; rfl) ?_
      (repeat (first | refine E_st rfl ?_ | refine E_go rfl ?_))
      rw [pk_rem (by omega) (by decide) (by decide)]
      by_cases c2 : i % 64 = 0
      · refine E_if rfl (by rw [c2]; rfl) ?_
        (repeat (first | refine E_st rfl ?_ | refine E_go rfl ?_))
        have e : mAll n pa K (m + 1) i F = (true, F) := by simp only [mAll, if_pos c1, if_pos c2]
        rw [e]
        exact E_rt rfl ⟨rfl, rfl⟩
      · refine E_nif rfl (nI_ne0 (by omega) (by omega)) ?_
        have e : mAll n pa K (m + 1) i F = mAll n pa K m (i + 1) (mStep n pa K F i) := by simp only [mAll, if_pos c1, if_neg c2]
        rw [e]
        have hex := s_expand (F := F) (q := 60) (Or.inr (Or.inr rfl)) hn hK hpa hG (pos := sitPos K i) (fun k _ => Nat.mod_lt _ (by decide)) (m_arOk (d := d) (L := L) (h := h) hK) (sit := i) (by omega) i1 ⟨mpl_inv hI2 (i / 64), fun k hk => plF_in _ _ _ _ hk⟩
        (repeat (first | refine E_st rfl ?_ | refine E_go rfl ?_))
        refine E_cx rfl (by omega) hex ?_
        (iterate 2 (first | refine E_st rfl ?_ | refine E_go rfl ?_))
        rw [nI_add]
        exact ih (i + 1) _ (by omega) (ms_inv hn hK hI2 i)
    · refine E_nif rfl (fun z => c1 ((zi_eq hlt (by omega)).mp z)) ?_
      have e : mAll n pa K (m + 1) i F = mAll n pa K m (i + 1) F := by simp only [mAll, if_neg c1]
      rw [e]
      (iterate 2 (first | refine E_st rfl ?_ | refine E_go rfl ?_))
      rw [nI_add]
      exact ih (i + 1) F (by omega) hI2
theorem m_all (hn : n ≤ 6) (hK : K ≤ 3) (hpa : pa < 2 ^ 63) (hG : G 60 1 = pa) (hI : mInv n K F) : pq_Ca (d + K + 7) 48 [.ref 60] (pq_Sh L, pn F, pl G, pq_rt h) (fun r M' => r = some (.int (nI (if (mAll n pa K (64 * 6 ^ K) 0 F).1 then 1 else 0))) ∧ M' = (pq_Sh L, pn ((mAll n pa K (64 * 6 ^ K) 0 F).2), pl (G), pq_rt h)) := by
  have h2 := s_bound (d := 0) (L := L) (F := F) (G := G) (h := h) (q := 60) (Or.inr (Or.inr rfl)) (by rw [hI.2.1]; exact hK)
  rw [hI.2.1] at h2
  refine Ca_mk rfl rfl ?_
  (repeat (first | refine E_st rfl ?_ | refine E_go rfl ?_))
  refine E_cx rfl (by omega) h2 ?_
  (iterate 3 (first | refine E_st rfl ?_ | refine E_go rfl ?_))
  exact l_mAll hn hK hpa hG (64 * 6 ^ K) 0 F (by omega) hI
/-- by rising prices: the price at which an empty belief is found -/
def fmF (n pa K : Nat) : Nat → Nat → FF → Option Nat × FF
  | 0, _, F => (none, F)
  | m + 1, c, F => if c ≤ F 60 6 ∧ c ≤ 41472 then (if (mAll n pa K (64 * 6 ^ K) 0 (pq_u F 60 5 c)).1 then (some c, (mAll n pa K (64 * 6 ^ K) 0 (pq_u F 60 5 c)).2) else fmF n pa K m (c + 1) (mAll n pa K (64 * 6 ^ K) 0 (pq_u F 60 5 c)).2) else (none, F)
def oI (o : Option Nat) : Int32 := match o with
  | some c => nI c
  | none => -4
set_option maxHeartbeats 1000000 in
theorem l_few {z : Nat} (hn : n ≤ 6) (hK : K ≤ 3) (hpa : pa < 2 ^ 63) (hG : G 60 1 = pa) : ∀ m c (F : FF), 41474 ≤ c + m → c ≤ 41474 → mInv n K F → pq_Ev (d + K + 7) 47 22 [some (.ref 60), some (.int (nI z)), some (.int (nI c))] [] (pq_Sh L, pn F, pl G, pq_rt h) (fun r M' => r = some (.int (oI (fmF n pa K m c F).1)) ∧ M' = (pq_Sh L, pn ((fmF n pa K m c F).2), pl (G), pq_rt h)) := by
  intro m
  induction m with
  | zero =>
    intro c F hc hc2 hI
    obtain ⟨i0, i1, i2, i3, i4⟩ := hI
    by_cases c1 : c ≤ F 60 6
    · (repeat (first | refine E_st rfl ?_ | refine E_go rfl ?_))
      refine E_nif rfl (by rw [pn_at]; exact nI_nlt c1 (by omega)) ?_
      (repeat (first | refine E_st rfl ?_ | refine E_go rfl ?_))
      refine E_if rfl (nI_lt (by omega) (by omega)) ?_
      (repeat (first | refine E_st rfl ?_ | refine E_go rfl ?_))
      exact E_rt rfl ⟨rfl, rfl⟩
    · (repeat (first | refine E_st rfl ?_ | refine E_go rfl ?_))
      refine E_if rfl (by rw [pn_at]; exact nI_lt (by omega) (by omega)) ?_
      (repeat (first | refine E_st rfl ?_ | refine E_go rfl ?_))
      exact E_rt rfl ⟨rfl, rfl⟩
  | succ m ih =>
    intro c F hc hc2 hI
    have hI2 := hI
    obtain ⟨i0, i1, i2, i3, i4⟩ := hI
    by_cases c1 : c ≤ F 60 6
    case neg =>
      have e : fmF n pa K (m + 1) c F = (none, F) := by simp only [fmF]; rw [if_neg (fun z => c1 z.1)]
      rw [e]
      (repeat (first | refine E_st rfl ?_ | refine E_go rfl ?_))
      refine E_if rfl (by rw [pn_at]; exact nI_lt (by omega) (by omega)) ?_
      (repeat (first | refine E_st rfl ?_ | refine E_go rfl ?_))
      exact E_rt rfl ⟨rfl, rfl⟩
    (repeat (first | refine E_st rfl ?_ | refine E_go rfl ?_))
    refine E_nif rfl (by rw [pn_at]; exact nI_nlt c1 (by omega)) ?_
    (repeat (first | refine E_st rfl ?_ | refine E_go rfl ?_))
    by_cases c2 : c ≤ 41472
    case neg =>
      have e : fmF n pa K (m + 1) c F = (none, F) := by simp only [fmF]; rw [if_neg (fun z => c2 z.2)]
      rw [e]
      refine E_if rfl (nI_lt (by omega) (by omega)) ?_
      (repeat (first | refine E_st rfl ?_ | refine E_go rfl ?_))
      exact E_rt rfl ⟨rfl, rfl⟩
    refine E_nif rfl (nI_nlt c2 (by decide)) ?_
    have hI3 : mInv n K (pq_u F 60 5 c) := by
      refine ⟨i0, i1, ?_, i3, i4⟩
      rw [pu_at, if_pos ⟨rfl, rfl⟩]; exact c2
    have hall := m_all (d := d) (L := L) (h := h) hn hK hpa hG hI3
    have hinv := mAll_inv (pa := pa) hn hK (64 * 6 ^ K) 0 _ hI3
    (repeat (first | refine E_st rfl ?_ | refine E_go rfl ?_))
    simp only [pu_n, pu_l, pc_n, pc_l]
    refine E_cx rfl (by omega) hall ?_
    by_cases hb : (mAll n pa K (64 * 6 ^ K) 0 (pq_u F 60 5 c)).1 = true
    · have e : fmF n pa K (m + 1) c F = (some c, (mAll n pa K (64 * 6 ^ K) 0 (pq_u F 60 5 c)).2) := by simp only [fmF]; rw [if_pos ⟨c1, c2⟩, if_pos hb]
      rw [e, if_pos hb]
      refine E_nif rfl (nI_ne0 (by decide) (by decide)) ?_
      (repeat (first | refine E_st rfl ?_ | refine E_go rfl ?_))
      refine E_rt rfl ⟨?_, rfl⟩
      rw [pn_at, hinv.2, pu_at, if_pos ⟨rfl, rfl⟩]; rfl
    · have e : fmF n pa K (m + 1) c F = fmF n pa K m (c + 1) (mAll n pa K (64 * 6 ^ K) 0 (pq_u F 60 5 c)).2 := by simp only [fmF]; rw [if_pos ⟨c1, c2⟩, if_neg hb]
      rw [e, if_neg hb]
      refine E_if rfl rfl ?_
      (iterate 2 (first | refine E_st rfl ?_ | refine E_go rfl ?_))
      rw [nI_add]
      exact ih (c + 1) _ (by omega) (by omega) hinv.1
def fmS (F : FF) (K start : Nat) : FF := pq_u (pq_u (clF F 62 (64 * 6 ^ K)) 62 start 0) 60 6 0
theorem m_few (hn : n ≤ 6) (hK : K ≤ 3) (hpa : pa < 2 ^ 63) (hG : G 60 1 = pa) (h0 : F 60 0 = n) (h2 : F 60 2 = K) (h5 : F 60 5 ≤ 41472) (h62 : ∀ s, s < 13824 → F 62 s = N1 ∨ F 62 s ≤ 41475) {start : Nat} (hs : start < 64 * 6 ^ K) : pq_Ca (d + K + 8) 47 [.ref 60, .int (nI start)] (pq_Sh L, pn F, pl G, pq_rt h) (fun r M' => r = some (.int (oI (fmF n pa K 41474 0 (fmS F K start)).1)) ∧ M' = (pq_Sh L, pn ((fmF n pa K 41474 0 (fmS F K start)).2), pl (G), pq_rt h)) := by
  have hk := K_le hK
  have hcl := s_clear (d := 0) (L := L) (F := F) (G := G) (h := h) (q := 60) (Or.inr (Or.inr rfl)) (by rw [h2]; exact hK)
  rw [h2] at hcl
  have hI : mInv n K (fmS F K start) := by
    refine ⟨h0, h2, h5, by show 0 ≤ _; omega, fun s hs2 => ?_⟩
    show pq_u (pq_u (clF F 62 (64 * 6 ^ K)) 62 start 0) 60 6 0 62 s = N1 ∨ pq_u (pq_u (clF F 62 (64 * 6 ^ K)) 62 start 0) 60 6 0 62 s ≤ 41475
    rw [pu_at, if_neg (by omega), pu_at]
    split
    · right; omega
    · unfold clF
      split
      · left; rfl
      · exact h62 s hs2
  refine Ca_mk rfl rfl ?_
  (repeat (first | refine E_st rfl ?_ | refine E_go rfl ?_))
  refine E_cx rfl (by omega) hcl ?_
  (repeat (first | refine E_st rfl ?_ | refine E_go rfl ?_))
  refine E_ias rfl rfl (n := 13824) (by omega) (by decide) (by decide) ?_
  (iterate 5 (first | refine E_st rfl ?_ | refine E_go rfl ?_))
  simp only [pu_n, pu_l, pc_n, pc_l]
  exact l_few hn hK hpa hG 41474 0 _ (by omega) (by omega) hI
end MVS
