/-! the model: type, clearText, letter, fault, lay -/
def ltM (F : FF) (k : Nat) : Nat := if k < F 63 4 then F 66 k else N1
abbrev ndM (F : FF) (c : Nat) : Prop := 48 ≤ c ∧ c < 48 + F 64 0
abbrev mEd (F : FF) (s : Nat) : Prop := ndM F (ltM F s) ∧ ltM F (s + 1) = 45 ∧ ndM F (ltM F (s + 2)) ∧ ¬ ltM F s = ltM F (s + 2) ∧ ltM F (s + 3) = 59
def seM (F : FF) (a b : Nat) : FF := pq_u (pq_u F 73 a (F 73 a ||| 1 <<< b)) 73 b (F 73 b ||| 1 <<< a)
def fltM : Nat → Nat → FF → Int32 × FF
  | 0, _, F => (-4, F)
  | m + 1, s, F => if s < F 63 4 then (if mEd F s ∧ (F 73 (ltM F s - 48)).testBit (ltM F (s + 2) - 48) = false then fltM m (s + 4) (seM F (ltM F s - 48) (ltM F (s + 2) - 48)) else (nI s, F)) else (-4, F)
def ze (F : FF) (k : Nat) : FF := fun p j => if p = 73 ∧ j < k then 0 else F p j
theorem ze_s {F : FF} (k : Nat) : pq_u (ze F k) 73 k 0 = ze F (k + 1) := by
  funext p j
  simp only [pu_at, ze]
  by_cases c : p = 73 ∧ j = k
  · rw [if_pos c, if_pos ⟨c.1, by omega⟩]
  · rw [if_neg c]
    by_cases c2 : p = 73 ∧ j < k
    · rw [if_pos c2, if_pos ⟨c2.1, by omega⟩]
    · rw [if_neg c2, if_neg (by omega)]
theorem ze_0 {F : FF} : ze F 0 = F := by funext p j; simp only [ze]; rw [if_neg (by omega)]
section MOU
variable {d L : Nat} {F G : Nat → Nat → Nat} {h : Nat → Nat}
theorem g_type0 {x : Int32} (hx : x < 32 ∨ 126 < x) : pq_Ca (d + 2) 151 [.ref 63, .int x] (pq_Sh L, pn F, pl G, pq_rt h) (fun r M' => r = some (.int (-1)) ∧ M' = (pq_Sh L, pn (F), pl (G), pq_rt h)) := by
  refine Ca_mk rfl rfl ?_
  (repeat (first | refine E_st rfl ?_ | refine E_go rfl ?_))
  refine E_cx rfl (by omega) (g_in0 (d := 0) hx) ?_
  refine E_if rfl rfl ?_
  (repeat (first | refine E_st rfl ?_ | refine E_go rfl ?_))
  exact E_rt rfl ⟨rfl, rfl⟩
theorem g_type3 {c : Nat} (hc : 32 ≤ c) (hc2 : c ≤ 126) (ht : F 63 4 = 60) : pq_Ca (d + 2) 151 [.ref 63, .int (nI c)] (pq_Sh L, pn F, pl G, pq_rt h) (fun r M' => r = some (.int (-3)) ∧ M' = (pq_Sh L, pn (F), pl (G), pq_rt h)) := by
  refine Ca_mk rfl rfl ?_
  (repeat (first | refine E_st rfl ?_ | refine E_go rfl ?_))
  refine E_cx rfl (by omega) (g_in1 (d := 0) (nI_le (a := 32) hc (by omega)) (nI_le (b := 126) hc2 (by decide))) ?_
  refine E_nif rfl (by decide) ?_
  (repeat (first | refine E_st rfl ?_ | refine E_go rfl ?_))
  refine E_if rfl (by rw [pn_at, ht]) ?_
  (repeat (first | refine E_st rfl ?_ | refine E_go rfl ?_))
  exact E_rt rfl ⟨rfl, rfl⟩
theorem g_type {c : Nat} (hc : 32 ≤ c) (hc2 : c ≤ 126) (ht : F 63 4 < 60) : pq_Ca (d + 2) 151 [.ref 63, .int (nI c)] (pq_Sh L, pn F, pl G, pq_rt h) (fun r M' => r = some (.int (nI (F 63 4 + 1))) ∧ M' = (pq_Sh L, pn (pq_u (pq_u F 66 (F 63 4) c) 63 4 (F 63 4 + 1)), pl (G), pq_rt h)) := by
  refine Ca_mk rfl rfl ?_
  (repeat (first | refine E_st rfl ?_ | refine E_go rfl ?_))
  refine E_cx rfl (by omega) (g_in1 (d := 0) (nI_le (a := 32) hc (by omega)) (nI_le (b := 126) hc2 (by decide))) ?_
  refine E_nif rfl (by decide) ?_
  (repeat (first | refine E_st rfl ?_ | refine E_go rfl ?_))
  refine E_nif rfl (fun z => by have := (zi_eq (by omega) (by decide)).mp z; omega) ?_
  (repeat (first | refine E_st rfl ?_ | refine E_go rfl ?_))
  have ech : ((nI c).toUInt32 % 65536).toInt32 = nI c := by
    rw [pk_char, pk_tn (by omega), Nat.mod_eq_of_lt (by omega)]
  rw [ech]
  refine E_cas rfl rfl (k := F 63 4) ht (by decide) (by decide) (by omega) ?_
  (repeat (first | refine E_st rfl ?_ | refine E_go rfl ?_))
  simp +decide only [pn_at, pl_at, pu_n, pu_l, pc_n, pc_l, pu_at, nI_add, if_true, if_false, and_true, true_and, and_false, false_and, and_self]
  exact E_rt rfl ⟨rfl, rfl⟩
theorem g_clearText : pq_Ca (d + 1) 152 [.ref 63] (pq_Sh L, pn F, pl G, pq_rt h) (fun r M' => r = some (.int (nI (F 63 4))) ∧ M' = (pq_Sh L, pn (pq_u F 63 4 0), pl (G), pq_rt h)) := by
  refine Ca_mk rfl rfl ?_
  (repeat (first | refine E_st rfl ?_ | refine E_go rfl ?_))
  simp only [pu_n, pu_l, pc_n, pc_l]
  exact E_rt rfl ⟨rfl, rfl⟩
theorem g_letter {k : Nat} (hk : k < 2 ^ 31) (ht : F 63 4 ≤ 60) : pq_Ca (d + 1) 154 [.ref 63, .int (nI k)] (pq_Sh L, pn F, pl G, pq_rt h) (fun r M' => r = some (.int (nI (ltM F k))) ∧ M' = (pq_Sh L, pn (F), pl (G), pq_rt h)) := by
  unfold ltM
  refine Ca_mk rfl rfl ?_
  (repeat (first | refine E_st rfl ?_ | refine E_go rfl ?_))
  by_cases c : k < F 63 4
  · rw [if_pos c]
    refine E_if rfl (by rw [pn_at]; exact nI_lt c (by omega)) ?_
    (iterate 3 (first | refine E_st rfl ?_ | refine E_go rfl ?_))
    refine E_cal rfl rfl (n := 60) (by omega) (by decide) ?_
    (repeat (first | refine E_st rfl ?_ | refine E_go rfl ?_))
    exact E_rt rfl ⟨rfl, rfl⟩
  · rw [if_neg c, ← zm1]
    refine E_nif rfl (by rw [pn_at]; exact nI_nlt (by omega) (by omega)) ?_
    (repeat (first | refine E_st rfl ?_ | refine E_go rfl ?_))
    exact E_rt rfl ⟨rfl, rfl⟩
theorem lt_ok (hch : ∀ i, i < 60 → F 66 i < 65536) (ht : F 63 4 ≤ 60) (k : Nat) : ltM F k < 65536 ∨ ltM F k = N1 := by
  unfold ltM
  split
  · exact Or.inl (hch k (by omega))
  · exact Or.inr rfl
theorem sub48 {c : Nat} (hc : c < 65536 ∨ c = N1) (hn : F 64 0 ≤ 6) : (ndM F c → nI c - nI 48 = nI (c - 48)) ∧ (¬ ndM F c → nI c - nI 48 < 0 ∨ nI (F 64 0) ≤ nI c - nI 48) := by
  rcases hc with hc | hc
  · exact zsub48 hc hn
  · refine ⟨fun z => ?_, fun _ => Or.inl (by rw [hc]; decide)⟩
    rw [hc] at z
    have : 4294967295 < 48 + F 64 0 := z.2
    omega
theorem g_node48 {c : Nat} (hn : F 64 0 ≤ 6) (hc : ndM F c) : pq_Ca (d + 2) 107 [.ref 63, .int (nI (c - 48))] (pq_Sh L, pn F, pl G, pq_rt h) (fun r M' => r = some (.int 1) ∧ M' = (pq_Sh L, pn (F), pl (G), pq_rt h)) := g_isNode (by have := hc.1; have := hc.2; omega) hn
set_option maxRecDepth 4000 in
theorem l_fltM (h1 : 1 ≤ F 64 0) (hn : F 64 0 ≤ 6) (ht : F 63 4 ≤ 60) (hch : ∀ i, i < 60 → F 66 i < 65536) : ∀ m s (F1 : FF) (z2 z3 z4 : Option Value), 64 ≤ s + 4 * m → s ≤ 63 → (∀ p j, ¬ p = 73 → F1 p j = F p j) → (∀ v, v < 6 → F1 73 v < 64) →
    pq_Ev (d + 2) 153 23 [some (.ref 63), some (.int (nI s)), z2, z3, z4] [] (pq_Sh L, pn F1, pl G, pq_rt h) (fun r M' => r = some (.int (fltM m s F1).1) ∧ M' = (pq_Sh L, pn (fltM m s F1).2, pl G, pq_rt h)) := by
  intro m
  induction m with
  | zero => intro s F1 z2 z3 z4 hm hs; omega
  | succ m ih =>
    intro s F1 z2 z3 z4 hm hs ho h73
    have e4 : F1 63 4 = F 63 4 := ho 63 4 (by decide)
    have e0 : F1 64 0 = F 64 0 := ho 64 0 (by decide)
    have hch1 : ∀ i, i < 60 → F1 66 i < 65536 := fun i hi => by rw [ho 66 i (by decide)]; exact hch i hi
    have hl := fun k hk => g_letter (d := 1) (L := L) (F := F1) (G := G) (h := h) (k := k) hk (by rw [e4]; exact ht)
    have ok := lt_ok hch1 (by rw [e4]; exact ht)
    have hn1 : F1 64 0 ≤ 6 := by rw [e0]; exact hn
    have lt32 : ∀ k, ltM F1 k < 2 ^ 32 := fun k => by
      rcases ok k with z | z
      · omega
      · rw [z]; decide
    refine E_fo 2 (E_fo 3 (E_fo 4 ?_))
    (repeat (first | refine E_st rfl ?_ | refine E_go rfl ?_))
    by_cases c : s < F1 63 4
    case neg =>
      have e : fltM (m + 1) s F1 = (-4, F1) := by unfold fltM; rw [if_neg c]
      rw [e]
      refine E_nif rfl (by rw [pn_at]; exact nI_nlt (by omega) (by omega)) ?_
      (repeat (first | refine E_st rfl ?_ | refine E_go rfl ?_))
      exact E_rt rfl ⟨rfl, rfl⟩
    refine E_if rfl (by rw [pn_at]; exact nI_lt c (by omega)) ?_
    have BAD : ¬ (mEd F1 s ∧ (F1 73 (ltM F1 s - 48)).testBit (ltM F1 (s + 2) - 48) = false) → fltM (m + 1) s F1 = (nI s, F1) := by
      intro z
      unfold fltM
      rw [if_pos c, if_neg z]
    have NO : ¬ mEd F1 s → ∀ (x2 x3 : Int32), pq_Ev (d + 2) 153 100 [some (.ref 63), some (.int (nI s)), some (.int x2), some (.int x3), none] [] (pq_Sh L, pn F1, pl G, pq_rt h) (fun r M' => r = some (.int (fltM (m + 1) s F1).1) ∧ M' = (pq_Sh L, pn (fltM (m + 1) s F1).2, pl G, pq_rt h)) := by
      intro z x2 x3
      rw [BAD (fun y => z y.1)]
      (repeat (first | refine E_st rfl ?_ | refine E_go rfl ?_))
      refine E_if rfl rfl ?_
      (repeat (first | refine E_st rfl ?_ | refine E_go rfl ?_))
      exact E_rt rfl ⟨rfl, rfl⟩
    (repeat (first | refine E_st rfl ?_ | refine E_go rfl ?_))
    refine E_cx rfl (by omega) (hl s (by omega)) ?_
    (iterate 7 (first | refine E_st rfl ?_ | refine E_go rfl ?_))
    rw [nI_add]
    refine E_cx rfl (by omega) (hl (s + 2) (by omega)) ?_
    (repeat (first | refine E_st rfl ?_ | refine E_go rfl ?_))
    by_cases c0 : ndM F1 (ltM F1 s)
    case neg =>
      refine E_cx rfl (by omega) (g_isNode0 (d := 0) ((sub48 (F := F1) (ok s) hn1).2 c0) (by omega) hn1) ?_
      refine E_if rfl rfl ?_
      exact NO (fun z => c0 z.1) _ _
    rw [(sub48 (F := F1) (ok s) hn1).1 c0]
    refine E_cx rfl (by omega) (g_node48 (d := 0) hn1 c0) ?_
    refine E_nif rfl (by decide) ?_
    (iterate 4 (first | refine E_st rfl ?_ | refine E_go rfl ?_))
    rw [nI_add]
    refine E_cx rfl (by omega) (hl (s + 1) (by omega)) ?_
    (repeat (first | refine E_st rfl ?_ | refine E_go rfl ?_))
    by_cases c1 : ltM F1 (s + 1) = 45
    case neg =>
      refine E_nif rfl (fun z => c1 ((zi_eq (lt32 _) (by decide)).mp z)) ?_
      exact NO (fun z => c1 z.2.1) _ _
    refine E_if rfl (by rw [c1]) ?_
    (repeat (first | refine E_st rfl ?_ | refine E_go rfl ?_))
    by_cases c2 : ndM F1 (ltM F1 (s + 2))
    case neg =>
      refine E_cx rfl (by omega) (g_isNode0 (d := 0) ((sub48 (F := F1) (ok (s + 2)) hn1).2 c2) (by omega) hn1) ?_
      refine E_if rfl rfl ?_
      exact NO (fun z => c2 z.2.2.1) _ _
    rw [(sub48 (F := F1) (ok (s + 2)) hn1).1 c2]
    refine E_cx rfl (by omega) (g_node48 (d := 0) hn1 c2) ?_
    refine E_nif rfl (by decide) ?_
    (repeat (first | refine E_st rfl ?_ | refine E_go rfl ?_))
    by_cases c3 : ltM F1 s = ltM F1 (s + 2)
    · refine E_if rfl (by rw [c3]) ?_
      exact NO (fun z => z.2.2.2.1 c3) _ _
    have hne : ¬ ltM F1 s - 48 = ltM F1 (s + 2) - 48 := by have := c0.1; have := c2.1; omega
    have ha6 : ltM F1 s - 48 < 6 := by have := c0.2; omega
    have hb6 : ltM F1 (s + 2) - 48 < 6 := by have := c2.2; omega
    refine E_nif rfl (fun z => hne ((zi_eq (by omega) (by omega)).mp z)) ?_
    (iterate 4 (first | refine E_st rfl ?_ | refine E_go rfl ?_))
    rw [nI_add]
    refine E_cx rfl (by omega) (hl (s + 3) (by omega)) ?_
    (repeat (first | refine E_st rfl ?_ | refine E_go rfl ?_))
    by_cases c4 : ltM F1 (s + 3) = 59
    case neg =>
      refine E_nif rfl (fun z => c4 ((zi_eq (lt32 _) (by decide)).mp z)) ?_
      exact NO (fun z => c4 z.2.2.2.2) _ _
    refine E_if rfl (by rw [c4]) ?_
    have hEd : mEd F1 s := ⟨c0, c1, c2, c3, c4⟩
    (repeat (first | refine E_st rfl ?_ | refine E_go rfl ?_))
    generalize hA : ltM F1 s - 48 = A at *
    generalize hB : ltM F1 (s + 2) - 48 = B at *
    refine E_ial rfl rfl (n := 6) ha6 (by decide) ?_
    (iterate 5 (first | refine E_st rfl ?_ | refine E_go rfl ?_))
    rw [zi_shr (Nat.lt_trans (h73 A ha6) (by decide)) (by omega), zi_and, zb_and1]
    by_cases c5 : (F1 73 A).testBit B = true
    · rw [if_pos c5]
      rw [BAD (fun z => by rw [c5] at z; exact absurd z.2 (by decide))]
      refine E_if rfl rfl ?_
      (repeat (first | refine E_st rfl ?_ | refine E_go rfl ?_))
      exact E_rt rfl ⟨rfl, rfl⟩
    · rw [if_neg c5]
      refine E_nif rfl (show ¬ nI 0 = nI 1 by decide) ?_
      have c5' : (F1 73 A).testBit B = false := by simpa using c5
      have e : fltM (m + 1) s F1 = fltM m (s + 4) (seM F1 A B) := by
        show (if _ then _ else _) = _
        rw [if_pos c, hA, hB, if_pos ⟨hEd, c5'⟩]
      rw [e]
      (iterate 4 (first | refine E_st rfl ?_ | refine E_go rfl ?_))
      refine E_ial rfl rfl (n := 6) ha6 (by decide) ?_
      (iterate 3 (first | refine E_st rfl ?_ | refine E_go rfl ?_))
      rw [zi_shl 1 (by omega)]
      (iterate 1 (first | refine E_st rfl ?_ | refine E_go rfl ?_))
      rw [zi_or]
      refine E_ias rfl rfl (n := 6) ha6 (by decide) (by decide) ?_
      (iterate 4 (first | refine E_st rfl ?_ | refine E_go rfl ?_))
      refine E_ial rfl rfl (n := 6) hb6 (by decide) ?_
      rw [show pq_u F1 73 A (F1 73 A ||| 1 <<< B) 73 B = F1 73 B by rw [pu_at, if_neg (fun z => hne z.2.symm)]]
      (iterate 3 (first | refine E_st rfl ?_ | refine E_go rfl ?_))
      rw [zi_shl 1 (by omega)]
      (iterate 1 (first | refine E_st rfl ?_ | refine E_go rfl ?_))
      rw [zi_or]
      refine E_ias rfl rfl (n := 6) hb6 (by decide) (by decide) ?_
      (iterate 2 (first | refine E_st rfl ?_ | refine E_go rfl ?_))
      rw [nI_add]
      have sh : ∀ x, x < 6 → 1 <<< x < 64 := fun x hx => by rw [Nat.one_shiftLeft]; exact Nat.pow_lt_pow_right (by decide) hx
      refine ih (s + 4) (seM F1 A B) _ _ _ (by omega) ?_ (fun p j hp => ?_) (fun v hv => ?_)
      · have hlt3 : s + 3 < F1 63 4 := by
          by_cases c6 : s + 3 < F1 63 4
          · exact c6
          · unfold ltM at c4
            rw [if_neg c6] at c4
            exact absurd c4 (by decide)
        omega
      · unfold seM
        rw [pu_off hp, pu_off hp]
        exact ho p j hp
      · unfold seM
        rw [pu_at]
        split
        · exact Nat.or_lt_two_pow (n := 6) (h73 B hb6) (sh A ha6)
        · rw [pu_at]
          split
          · exact Nat.or_lt_two_pow (n := 6) (h73 A ha6) (sh B hb6)
          · exact h73 v hv
theorem l_ze {Post : Option Value → pq_M → Prop} (C : pq_Ev d 153 23 [some (.ref 63), some (.int (nI 0)), none, none, none] [] (pq_Sh L, pn (ze F 6), pl G, pq_rt h) Post) : ∀ m k, k + m = 6 → pq_Ev d 153 2 [some (.ref 63), some (.int (nI k)), none, none, none] [] (pq_Sh L, pn (ze F k), pl G, pq_rt h) Post := by
  intro m
  induction m with
  | zero =>
    intro k hk
    have hk : k = 6 := by omega
    subst hk
    (repeat (first | refine E_st rfl ?_ | refine E_go rfl ?_))
    refine E_nif rfl (by decide) ?_
    (iterate 2 (first | refine E_st rfl ?_ | refine E_go rfl ?_))
    exact C
  | succ m ih =>
    intro k hk
    (repeat (first | refine E_st rfl ?_ | refine E_go rfl ?_))
    refine E_if rfl (nI_lt (by omega) (by decide)) ?_
    (iterate 4 (first | refine E_st rfl ?_ | refine E_go rfl ?_))
    refine E_ias rfl rfl (n := 6) (by omega) (by decide) (by decide) ?_
    rw [ze_s]
    (iterate 2 (first | refine E_st rfl ?_ | refine E_go rfl ?_))
    rw [nI_add]
    exact ih (k + 1) (by omega)
theorem g_fault (h1 : 1 ≤ F 64 0) (hn : F 64 0 ≤ 6) (ht : F 63 4 ≤ 60) (hch : ∀ i, i < 60 → F 66 i < 65536) : pq_Ca (d + 3) 153 [.ref 63] (pq_Sh L, pn F, pl G, pq_rt h) (fun r M' => r = some (.int (fltM 16 0 (ze F 6)).1) ∧ M' = (pq_Sh L, pn (fltM 16 0 (ze F 6)).2, pl G, pq_rt h)) := by
  have hl := l_fltM (d := d) (L := L) (G := G) (h := h) h1 hn ht hch 16 0 (ze F 6) none none none (by decide) (by decide) (fun p j hp => by unfold ze; rw [if_neg (fun z => hp z.1)]) (fun v hv => by unfold ze; rw [if_pos ⟨rfl, hv⟩]; decide)
  have hz := l_ze (F := F) hl 6 0 rfl
  rw [ze_0] at hz
  refine Ca_mk rfl rfl ?_
  (iterate 2 (first | refine E_st rfl ?_ | refine E_go rfl ?_))
  exact hz
/-! lay -/
def ly1 (F : FF) (k : Nat) : FF := fun p j => if p = 64 ∧ 5 ≤ j ∧ j < 5 + k then F 73 (j - 5) else F p j
def ly2 (F : FF) (k : Nat) : FF := fun p j => if p = 64 ∧ 14 ≤ j ∧ j < 14 + k then F 64 (j - 3) else F p j
def lyM (F : FF) : FF := bgM (pq_u (ly2 (ly1 F 6) (F 64 1)) 64 19 (F 64 18))
theorem ly1_s (k : Nat) : pq_u (ly1 F k) 64 (5 + k) (F 73 k) = ly1 F (k + 1) := by
  funext p j
  simp only [pu_at, ly1]
  by_cases c : p = 64 ∧ j = 5 + k
  · rw [if_pos c, if_pos ⟨c.1, by omega, by omega⟩, c.2, show 5 + k - 5 = k by omega]
  · rw [if_neg c]
    by_cases c2 : p = 64 ∧ 5 ≤ j ∧ j < 5 + k
    · rw [if_pos c2, if_pos ⟨c2.1, by omega, by omega⟩]
    · rw [if_neg c2, if_neg (by omega)]
theorem ly2_s (k : Nat) : pq_u (ly2 F k) 64 (14 + k) (F 64 (11 + k)) = ly2 F (k + 1) := by
  funext p j
  simp only [pu_at, ly2]
  by_cases c : p = 64 ∧ j = 14 + k
  · rw [if_pos c, if_pos ⟨c.1, by omega, by omega⟩, c.2, show 14 + k - 3 = 11 + k by omega]
  · rw [if_neg c]
    by_cases c2 : p = 64 ∧ 14 ≤ j ∧ j < 14 + k
    · rw [if_pos c2, if_pos ⟨c2.1, by omega, by omega⟩]
    · rw [if_neg c2, if_neg (by omega)]
theorem ly1_0 : ly1 F 0 = F := by funext p j; simp only [ly1]; rw [if_neg (by omega)]
theorem ly2_0 : ly2 F 0 = F := by funext p j; simp only [ly2]; rw [if_neg (by omega)]
theorem l_ly2 {Post : Option Value → pq_M → Prop} (hK : F 64 1 ≤ 3) (C : pq_Ev d 155 80 [some (.ref 63), some (.int (nI (F 64 1)))] [] (pq_Sh L, pn (ly2 F (F 64 1)), pl G, pq_rt h) Post) : ∀ m k, k + m = F 64 1 → pq_Ev d 155 46 [some (.ref 63), some (.int (nI k))] [] (pq_Sh L, pn (ly2 F k), pl G, pq_rt h) Post := by
  intro m
  induction m with
  | zero =>
    intro k hk
    have hk : k = F 64 1 := by omega
    subst hk
    (repeat (first | refine E_st rfl ?_ | refine E_go rfl ?_))
    simp +decide only [nI_clamp, pn_at, pu_n, pu_l]
    rw [show ly2 F (F 64 1) 64 1 = F 64 1 by simp only [ly2]; rw [if_neg (by omega)]]
    refine E_nif rfl (nI_nlt (Nat.le_refl _) (by omega)) ?_
    exact C
  | succ m ih =>
    intro k hk
    (repeat (first | refine E_st rfl ?_ | refine E_go rfl ?_))
    simp +decide only [nI_clamp, pn_at, pu_n, pu_l]
    rw [show ly2 F k 64 1 = F 64 1 by simp only [ly2]; rw [if_neg (by omega)]]
    refine E_if rfl (nI_lt (by omega) (by omega)) ?_
    (iterate 5 (first | refine E_st rfl ?_ | refine E_go rfl ?_))
    rw [nI_add]
    (iterate 5 (first | refine E_st rfl ?_ | refine E_go rfl ?_))
    rw [nI_add]
    refine E_ial rfl rfl (n := 144) (by omega) (by decide) ?_
    rw [show ly2 F k 64 (11 + k) = F 64 (11 + k) by simp only [ly2]; rw [if_neg (by omega)]]
    refine E_ias rfl rfl (n := 144) (by omega) (by decide) (by decide) ?_
    rw [ly2_s]
    (iterate 2 (first | refine E_st rfl ?_ | refine E_go rfl ?_))
    rw [nI_add]
    exact ih (k + 1) (by omega)
theorem l_ly1 {Post : Option Value → pq_M → Prop} (C : pq_Ev d 155 44 [some (.ref 63), some (.int (nI 6))] [] (pq_Sh L, pn (ly1 F 6), pl G, pq_rt h) Post) : ∀ m k, k + m = 6 → pq_Ev d 155 18 [some (.ref 63), some (.int (nI k))] [] (pq_Sh L, pn (ly1 F k), pl G, pq_rt h) Post := by
  intro m
  induction m with
  | zero =>
    intro k hk
    have hk : k = 6 := by omega
    subst hk
    (repeat (first | refine E_st rfl ?_ | refine E_go rfl ?_))
    refine E_nif rfl (by decide) ?_
    exact C
  | succ m ih =>
    intro k hk
    (repeat (first | refine E_st rfl ?_ | refine E_go rfl ?_))
    refine E_if rfl (nI_lt (by omega) (by decide)) ?_
    (iterate 5 (first | refine E_st rfl ?_ | refine E_go rfl ?_))
    rw [nI_add]
    (iterate 3 (first | refine E_st rfl ?_ | refine E_go rfl ?_))
    refine E_ial rfl rfl (n := 6) (by omega) (by decide) ?_
    rw [show ly1 F k 73 k = F 73 k by simp only [ly1]; rw [if_neg (by omega)]]
    refine E_ias rfl rfl (n := 144) (by omega) (by decide) (by decide) ?_
    rw [ly1_s]
    (iterate 2 (first | refine E_st rfl ?_ | refine E_go rfl ?_))
    rw [nI_add]
    exact ih (k + 1) (by omega)
theorem g_lay0 {x : Int32} {F' : FF} (hf : pq_Ca 3 153 [.ref 63] (pq_Sh L, pn F, pl G, pq_rt h) (fun r M' => r = some (.int x) ∧ M' = (pq_Sh L, pn F', pl G, pq_rt h))) (hx : ¬ x = -4) : pq_Ca (d + 4) 155 [.ref 63] (pq_Sh L, pn F, pl G, pq_rt h) (fun r M' => r = some (.int (-2)) ∧ M' = (pq_Sh L, pn (F'), pl (G), pq_rt h)) := by
  refine Ca_mk rfl rfl ?_
  (repeat (first | refine E_st rfl ?_ | refine E_go rfl ?_))
  refine E_cx rfl (by omega) hf ?_
  (repeat (first | refine E_st rfl ?_ | refine E_go rfl ?_))
  refine E_nif rfl hx ?_
  (repeat (first | refine E_st rfl ?_ | refine E_go rfl ?_))
  exact E_rt rfl ⟨rfl, rfl⟩
theorem g_lay {F' : FF} (hf : pq_Ca 3 153 [.ref 63] (pq_Sh L, pn F, pl G, pq_rt h) (fun r M' => r = some (.int (-4)) ∧ M' = (pq_Sh L, pn F', pl G, pq_rt h))) (hg : gOk F') (hgo : gOk (lyM (rcM F'))) (h73 : ∀ v, v < 6 → F' 73 v < 64) : pq_Ca (d + 4) 155 [.ref 63] (pq_Sh L, pn F, pl G, pq_rt h) (fun r M' => r = some (.int (nI (edM (lyM (rcM F')) 36))) ∧ M' = (pq_Sh L, pn (lyM (rcM F')), pl (G), pq_rt h)) := by
  have hg2 := rc_gOk hg
  obtain ⟨g0, g1, g2, g3, g4, g5, g6, g7, g8, g9, g10, g11, g12, g13, g14, g15, g16, g17, g18, g19⟩ := hg
  obtain ⟨r0, r1, r2, r3, r4, r5, r6, r7, r8, r9, r10, r11, r12, r13, r14, r15, r16, r17, r18, r19⟩ := hg2
  have e11 : ly1 (rcM F') 6 64 1 = F' 64 1 := by simp only [ly1]; rw [if_neg (by omega), rc64]
  have off : ∀ j, (j < 5 ∨ 11 ≤ j) → (j < 14 ∨ 17 ≤ j) → ¬ j = 19 → pq_u (ly2 (ly1 (rcM F') 6) (F' 64 1)) 64 19 (F' 64 18) 64 j = F' 64 j := by
    intro j h1 h2 h3
    rw [pu_at, if_neg (by omega)]
    simp only [ly2]
    rw [if_neg (by omega)]
    simp only [ly1]
    rw [if_neg (by omega), rc64]
  have hb := g_begins (d := 0) (L := L) (F := pq_u (ly2 (ly1 (rcM F') 6) (F' 64 1)) 64 19 (F' 64 18)) (G := G) (h := h) (by rw [off 0 (by omega) (by omega) (by omega)]; exact g1) (by rw [off 1 (by omega) (by omega) (by omega)]; exact g2) (fun k hk => by rw [off (11 + k) (by omega) (by omega) (by omega)]; exact g7 k hk) (by rw [off 17 (by omega) (by omega) (by omega)]; exact g9)
  have eb : bgM (pq_u (ly2 (ly1 (rcM F') 6) (F' 64 1)) 64 19 (F' 64 18)) = lyM (rcM F') := by unfold lyM; rw [rc64, rc64]
  rw [eb] at hb
  have D2 : pq_Ev (d + 3) 155 80 [some (.ref 63), some (.int (nI (ly1 (rcM F') 6 64 1)))] [] (pq_Sh L, pn (ly2 (ly1 (rcM F') 6) (ly1 (rcM F') 6 64 1)), pl G, pq_rt h) (fun r M' => r = some (.int (nI (edM (lyM (rcM F')) 36))) ∧ M' = (pq_Sh L, pn (lyM (rcM F')), pl (G), pq_rt h)) := by
    rw [e11]
    (iterate 8 (first | refine E_st rfl ?_ | refine E_go rfl ?_))
    simp +decide only [nI_clamp, pn_at, pu_n, pu_l]
    rw [show ly2 (ly1 (rcM F') 6) (F' 64 1) 64 18 = F' 64 18 by simp only [ly2]; rw [if_neg (by omega)]; simp only [ly1]; rw [if_neg (by omega), rc64]]
    (repeat (first | refine E_st rfl ?_ | refine E_go rfl ?_))
    refine E_cx rfl (by omega) hb ?_
    (repeat (first | refine E_st rfl ?_ | refine E_go rfl ?_))
    refine E_cx rfl (by omega) (g_edges (d := 0) hgo) ?_
    exact E_rt rfl ⟨rfl, rfl⟩
  have D1 := l_ly2 (F := ly1 (rcM F') 6) (by rw [e11]; exact g2) D2 (ly1 (rcM F') 6 64 1) 0 (by omega)
  rw [ly2_0] at D1
  have D05 : pq_Ev (d + 3) 155 44 [some (.ref 63), some (.int (nI 6))] [] (pq_Sh L, pn (ly1 (rcM F') 6), pl G, pq_rt h) (fun r M' => r = some (.int (nI (edM (lyM (rcM F')) 36))) ∧ M' = (pq_Sh L, pn (lyM (rcM F')), pl (G), pq_rt h)) := by
    (iterate 2 (first | refine E_st rfl ?_ | refine E_go rfl ?_))
    exact D1
  have D0 := l_ly1 D05 6 0 rfl
  rw [ly1_0] at D0
  refine Ca_mk rfl rfl ?_
  (repeat (first | refine E_st rfl ?_ | refine E_go rfl ?_))
  refine E_cx rfl (by omega) hf ?_
  (iterate 1 (first | refine E_st rfl ?_ | refine E_go rfl ?_))
  refine E_if rfl rfl ?_
  (repeat (first | refine E_st rfl ?_ | refine E_go rfl ?_))
  refine E_cx rfl (by omega) (g_records (d := 0) g19) ?_
  (iterate 2 (first | refine E_st rfl ?_ | refine E_go rfl ?_))
  exact D0
end MOU
