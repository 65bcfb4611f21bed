/-! the model: ahead, settles, placed, clears, moves, now, leaving, moved -/
def sfM (F : Nat → Nat → Nat) (b : Nat) : Nat → Nat → Nat := fun p j => if p = 68 ∧ j < b then F 67 j else F p j
def itN (T : Nat → Nat) : Nat → Nat → Nat
  | 0, s => s
  | n + 1, s => itN T n (T s)
def plc (s k v : Nat) : Nat := an s (7 <<< (6 + 3 * k)) ||| v <<< (6 + 3 * k)
def frS (s k : Nat) : Nat := (s >>> (6 + 3 * k)) &&& 7
/-- places laid on a state, the first searcher first -/
def pkA (pos : Nat → Nat) : Nat → Nat → Nat
  | 0, s => s
  | k + 1, s => plc (pkA pos k s) k (pos k)
/-- places laid on a state, the last searcher first -/
def pkD (pos : Nat → Nat) : Nat → Nat → Nat
  | 0, s => s
  | k + 1, s => pkD pos k (plc s k (pos k))
/-- a situation of the class as a state of the model -/
def md (K s : Nat) : Nat := pkA (sitPos K s) K (s % 64)
theorem z7_bit (j : Nat) : Nat.testBit 7 j = decide (j < 3) := by
  by_cases h : j < 3
  · rcases (show j = 0 ∨ j = 1 ∨ j = 2 by omega) with rfl | rfl | rfl <;> rfl
  · rw [zb_lt (show 7 < 2 ^ 3 by decide) (by omega)]; simp [h]
theorem plc_bit {s k v : Nat} (hv : v < 8) (i : Nat) : (plc s k v).testBit i = if 6 + 3 * k ≤ i ∧ i < 9 + 3 * k then v.testBit (i - (6 + 3 * k)) else s.testBit i := by
  unfold plc
  rw [Nat.testBit_or, an_bit, Nat.testBit_shiftLeft, Nat.testBit_shiftLeft, z7_bit]
  by_cases h1 : 6 + 3 * k ≤ i
  · by_cases h2 : i < 9 + 3 * k
    · rw [if_pos ⟨h1, h2⟩]
      simp [h1, show i - (6 + 3 * k) < 3 by omega]
    · rw [if_neg (fun z => h2 z.2), zb_lt (show v < 2 ^ 3 from hv) (show 3 ≤ i - (6 + 3 * k) by omega)]
      simp [show ¬ i - (6 + 3 * k) < 3 by omega]
  · rw [if_neg (fun z => h1 z.1)]
    simp [h1]
theorem frS_bit (s k i : Nat) : (frS s k).testBit i = (decide (i < 3) && s.testBit (6 + 3 * k + i)) := by
  unfold frS
  rw [Nat.testBit_and, Nat.testBit_shiftRight, z7_bit, Bool.and_comm]
theorem frS_lt (s k : Nat) : frS s k < 8 := Nat.and_lt_two_pow _ (by decide : 7 < 2 ^ 3)
theorem pkA_bit {pos : Nat → Nat} {s : Nat} : ∀ K, (∀ k, k < K → pos k < 8) → ∀ i, (pkA pos K s).testBit i = if 6 ≤ i ∧ i < 6 + 3 * K then (pos ((i - 6) / 3)).testBit ((i - 6) % 3) else s.testBit i := by
  intro K
  induction K with
  | zero => intro _ i; rw [if_neg (by omega)]; rfl
  | succ K ih =>
    intro hp i
    unfold pkA
    rw [plc_bit (hp K (by omega))]
    by_cases c : 6 + 3 * K ≤ i ∧ i < 9 + 3 * K
    · rw [if_pos c, if_pos (by omega), show (i - 6) / 3 = K by omega, show (i - 6) % 3 = i - (6 + 3 * K) by omega]
    · rw [if_neg c, ih (fun k hk => hp k (by omega))]
      by_cases c2 : 6 ≤ i ∧ i < 6 + 3 * K
      · rw [if_pos c2, if_pos (by omega)]
      · rw [if_neg c2, if_neg (by omega)]
theorem pkD_bit {pos : Nat → Nat} : ∀ K s, (∀ k, k < K → pos k < 8) → ∀ i, (pkD pos K s).testBit i = if 6 ≤ i ∧ i < 6 + 3 * K then (pos ((i - 6) / 3)).testBit ((i - 6) % 3) else s.testBit i := by
  intro K
  induction K with
  | zero => intro s _ i; rw [if_neg (by omega)]; rfl
  | succ K ih =>
    intro s hp i
    unfold pkD
    rw [ih _ (fun k hk => hp k (by omega)), plc_bit (hp K (by omega))]
    by_cases c : 6 + 3 * K ≤ i ∧ i < 9 + 3 * K
    · rw [if_neg (by omega), if_pos c, if_pos (by omega), show (i - 6) / 3 = K by omega, show (i - 6) % 3 = i - (6 + 3 * K) by omega]
    · rw [if_neg c]
      by_cases c2 : 6 ≤ i ∧ i < 6 + 3 * K
      · rw [if_pos c2, if_pos (by omega)]
      · rw [if_neg c2, if_neg (by omega)]
theorem sit_lt6 (K s k : Nat) : sitPos K s k < 6 := Nat.mod_lt _ (by decide)
theorem sit_lt8 (K s k : Nat) : sitPos K s k < 8 := Nat.lt_trans (sit_lt6 K s k) (by decide)
theorem pkA_lt {pos : Nat → Nat} {K s : Nat} (hp : ∀ k, k < K → pos k < 8) (hs : s < 64) : pkA pos K s < 2 ^ (6 + 3 * K) := by
  apply zb_bound
  intro i hi
  rw [pkA_bit K hp, if_neg (by omega)]
  exact zb_lt (show s < 2 ^ 6 from hs) (by omega)
theorem pkA_fr {pos : Nat → Nat} {K s k : Nat} (hp : ∀ k, k < K → pos k < 8) (hk : k < K) : frS (pkA pos K s) k = pos k := by
  apply zb_ext (k := 3) (frS_lt _ _) (hp k hk)
  intro i hi
  rw [frS_bit, pkA_bit K hp, if_pos (by omega), show (6 + 3 * k + i - 6) / 3 = k by omega, show (6 + 3 * k + i - 6) % 3 = i by omega]
  simp [hi]
theorem pkA_63 {pos : Nat → Nat} {K s : Nat} (hp : ∀ k, k < K → pos k < 8) (hs : s < 64) : pkA pos K s &&& 63 = s := by
  apply zb_ext (k := 6) (Nat.and_lt_two_pow _ (by decide)) hs
  intro i hi
  rw [Nat.testBit_and, pkA_bit K hp, if_neg (by omega), show (63 : Nat) = 2 ^ 6 - 1 from rfl, Nat.testBit_two_pow_sub_one]
  simp [hi]
theorem pkA_congr {pos pos' : Nat → Nat} {s : Nat} : ∀ K, (∀ k, k < K → pos k = pos' k) → pkA pos K s = pkA pos' K s := by
  intro K
  induction K with
  | zero => intro _; rfl
  | succ K ih => intro hp; unfold pkA; rw [ih (fun k hk => hp k (by omega)), hp K (by omega)]
theorem md_lt {K : Nat} (hK : K ≤ 3) (s : Nat) : md K s < 32768 := by
  have h1 := pkA_lt (pos := sitPos K s) (K := K) (s := s % 64) (fun k _ => sit_lt8 K s k) (Nat.mod_lt _ (by decide))
  exact Nat.lt_of_lt_of_le h1 (Nat.pow_le_pow_right (n := 2) (i := 6 + 3 * K) (j := 15) (by decide) (by omega))
theorem md_fr {K s k : Nat} (hk : k < K) : frS (md K s) k = sitPos K s k := pkA_fr (fun k _ => sit_lt8 K s k) hk
theorem md_63 (K s : Nat) : md K s &&& 63 = s % 64 := pkA_63 (fun k _ => sit_lt8 K s k) (Nat.mod_lt _ (by decide))
/-- a number of base six by its figures -/
theorem dig_inj : ∀ K a b, a < 6 ^ K → b < 6 ^ K → (∀ k, k < K → a / 6 ^ (K - 1 - k) % 6 = b / 6 ^ (K - 1 - k) % 6) → a = b := by
  intro K
  induction K with
  | zero => intro a b ha hb _; simp at ha hb; omega
  | succ K ih =>
    intro a b ha hb hd
    have h1 : a / 6 = b / 6 := by
      apply ih
      · rw [Nat.pow_succ] at ha; omega
      · rw [Nat.pow_succ] at hb; omega
      · intro k hk
        have := hd k (by omega)
        rw [show K + 1 - 1 - k = K - 1 - k + 1 by omega, Nat.pow_succ, Nat.mul_comm, ← Nat.div_div_eq_div_mul, ← Nat.div_div_eq_div_mul] at this
        exact this
    have h2 := hd K (by omega)
    rw [show K + 1 - 1 - K = 0 by omega] at h2
    simp at h2
    omega
theorem md_inj {K a b : Nat} (ha : a < 64 * 6 ^ K) (hb : b < 64 * 6 ^ K) (h : md K a = md K b) : a = b := by
  have h1 : a % 64 = b % 64 := by rw [← md_63 K a, ← md_63 K b, h]
  have h2 : a / 64 = b / 64 := by
    apply dig_inj K
    · omega
    · omega
    · intro k hk
      have e1 := md_fr (s := a) hk
      have e2 := md_fr (s := b) hk
      rw [h, e2] at e1
      exact e1.symm
  omega
section MOM
variable {d L : Nat} {F G : Nat → Nat → Nat} {h : Nat → Nat}
theorem g_ahead (hg : gOk F) : pq_Ca (d + 3) 135 [.ref 63] (pq_Sh L, pn F, pl G, pq_rt h) (fun r M' => r = some (.int (nI (stepM (lvM F 5 11 14 6 3) (F 64 1) (F 64 (la F))))) ∧ M' = (pq_Sh L, pn (lvM F 5 11 14 6 3), pl (G), pq_rt h)) := by
  obtain ⟨g0, g1, g2, g3, g4, g5, g6, g7, g8, g9, g10, g11, g12, g13, g14, g15, g16, g17, g18, g19⟩ := hg
  have hb := g_belief (d := d) (L := L) (F := lvM F 5 11 14 6 3) (G := G) (h := h) (by rw [lv64]; exact g15) (by rw [lv64]; exact g16)
  rw [lv64, lv64] at hb
  have hs := g_step (d := d) (L := L) (F := lvM F 5 11 14 6 3) (G := G) (h := h) (s := F 64 (24 + 15 * (F 64 23 - 1))) (K := F 64 1) (g18 _ (by omega)) (by rw [lv64]; exact g1) g2
    (fun k hk => by rw [lv67 (by omega)]; exact Nat.lt_trans (g7 k (by omega)) (by decide)) (fun k hk => by rw [lv68 (by omega)]; exact Nat.lt_trans (g8 k (by omega)) (by decide))
  refine Ca_mk rfl rfl ?_
  (repeat (first | refine E_st rfl ?_ | refine E_go rfl ?_))
  refine E_cx rfl (by omega) (g_looks (d := 0)) ?_
  (repeat (first | refine E_st rfl ?_ | refine E_go rfl ?_))
  refine E_cx rfl (by omega) hb ?_
  (repeat (first | refine E_st rfl ?_ | refine E_go rfl ?_))
  simp +decide only [nI_clamp, pn_at, pu_n, pu_l]
  rw [lv64]
  refine E_cx rfl (by omega) hs ?_
  exact E_rt rfl ⟨rfl, rfl⟩
theorem sfM_s (b : Nat) : pq_u (sfM F b) 68 b (F 67 b) = sfM F (b + 1) := by
  funext p j
  simp only [pu_at, sfM]
  by_cases c : p = 68 ∧ j = b
  · rw [if_pos c, if_pos ⟨c.1, by omega⟩, c.2]
  · rw [if_neg c]
    by_cases c2 : p = 68 ∧ j < b
    · rw [if_pos c2, if_pos ⟨c2.1, by omega⟩]
    · rw [if_neg c2, if_neg (by omega)]
theorem sfM_0 : sfM F 0 = F := by funext p j; simp only [sfM]; rw [if_neg (by omega)]
theorem sf64 (b j : Nat) : sfM F b 64 j = F 64 j := by simp only [sfM]; rw [if_neg (by omega)]
theorem l_set1 {Q : Option Value → pq_M → Prop} (K : pq_Ev d 136 29 [some (.ref 63), some (.int (nI 3)), none, none] [] (pq_Sh L, pn (sfM F 3), pl G, pq_rt h) Q) : ∀ m b, b + m = 3 → pq_Ev d 136 6 [some (.ref 63), some (.int (nI b)), none, none] [] (pq_Sh L, pn (sfM F b), pl G, pq_rt h) Q := by
  intro m
  induction m with
  | zero =>
    intro b hb
    have hb : b = 3 := by omega
    subst hb
    (repeat (first | refine E_st rfl ?_ | refine E_go rfl ?_))
    refine E_nif rfl (by decide) ?_
    exact K
  | succ m ih =>
    intro b hb
    (repeat (first | refine E_st rfl ?_ | refine E_go rfl ?_))
    refine E_if rfl (nI_lt (by omega) (by decide)) ?_
    (iterate 6 (first | refine E_st rfl ?_ | refine E_go rfl ?_))
    refine E_ial rfl rfl (n := 3) (by omega) (by decide) ?_
    rw [show sfM F b 67 b = F 67 b by simp only [sfM]; rw [if_neg (by omega)]]
    refine E_ias rfl rfl (n := 3) (by omega) (by decide) (by decide) ?_
    rw [sfM_s]
    (iterate 2 (first | refine E_st rfl ?_ | refine E_go rfl ?_))
    rw [nI_add]
    exact ih (b + 1) (by omega)
theorem spM_lt {K s : Nat} : ∀ n, n ≤ 6 → spM F K s n < 2 ^ n := by
  intro n
  induction n with
  | zero => intro _; exact Nat.one_pos
  | succ n ih =>
    intro hn
    have := ih (by omega)
    unfold spM
    split
    · exact Nat.lt_trans this (Nat.pow_lt_pow_right (by decide) (by omega))
    · exact Nat.or_lt_two_pow (Nat.lt_trans this (Nat.pow_lt_pow_right (by decide) (by omega))) (by rw [Nat.one_shiftLeft]; exact Nat.pow_lt_pow_right (by decide) (by omega))
theorem stepM_lt {K s : Nat} (hn : F 64 0 ≤ 6) : stepM F K s < 64 := Nat.lt_of_lt_of_le (spM_lt (F 64 0) hn) (Nat.pow_le_pow_right (n := 2) (j := 6) (by decide) hn)
theorem l_set2 (hn : F 64 0 ≤ 6) (hK : F 64 1 ≤ 3) (hf : ∀ k, k < F 64 1 → F 67 k < 8) (ht : ∀ k, k < F 64 1 → F 68 k < 8) : ∀ m c s, c + m < 1000 → s < 64 → (∀ i, i < m → ¬ itN (stepM F (F 64 1)) (i + 1) s = itN (stepM F (F 64 1)) i s) → itN (stepM F (F 64 1)) (m + 1) s = itN (stepM F (F 64 1)) m s →
    pq_Ev (d + 1) 136 48 [some (.ref 63), some (.int (nI s)), some (.int (nI c)), some (.int (nI (stepM F (F 64 1) s)))] [] (pq_Sh L, pn F, pl G, pq_rt h) (fun r M' => r = some (.int (nI (c + m))) ∧ M' = (pq_Sh L, pn (F), pl (G), pq_rt h)) := by
  intro m
  induction m with
  | zero =>
    intro c s hc hs h1 h2
    (repeat (first | refine E_st rfl ?_ | refine E_go rfl ?_))
    refine E_if rfl (by rw [show stepM F (F 64 1) s = s from h2]) ?_
    (repeat (first | refine E_st rfl ?_ | refine E_go rfl ?_))
    exact E_rt rfl ⟨rfl, rfl⟩
  | succ m ih =>
    intro c s hc hs h1 h2
    have hlt := stepM_lt (F := F) (K := F 64 1) (s := s) hn
    have hne : ¬ stepM F (F 64 1) s = s := h1 0 (by omega)
    have hst := g_step (d := d) (L := L) (F := F) (G := G) (h := h) (s := stepM F (F 64 1) s) (K := F 64 1) hlt hn hK hf ht
    have ih2 := ih (c + 1) (stepM F (F 64 1) s) (by omega) hlt (fun i hi => h1 (i + 1) (by omega)) h2
    rw [show c + (m + 1) = c + 1 + m by omega]
    (repeat (first | refine E_st rfl ?_ | refine E_go rfl ?_))
    refine E_nif rfl (fun z => hne ((zi_eq (by omega) (by omega)).mp z)) ?_
    (repeat (first | refine E_st rfl ?_ | refine E_go rfl ?_))
    simp +decide only [nI_clamp, pn_at, pu_n, pu_l]
    refine E_cx rfl (by omega) hst ?_
    (iterate 3 (first | refine E_st rfl ?_ | refine E_go rfl ?_))
    rw [nI_add]
    exact ih2
theorem g_settles {m : Nat} (hg : gOk F) (hm : m < 999) (h1 : ∀ i, i < m → ¬ itN (stepM (sfM (lvM F 5 11 14 6 3) 3) (F 64 1)) (i + 1) (F 64 (la F)) = itN (stepM (sfM (lvM F 5 11 14 6 3) 3) (F 64 1)) i (F 64 (la F))) (h2 : itN (stepM (sfM (lvM F 5 11 14 6 3) 3) (F 64 1)) (m + 1) (F 64 (la F)) = itN (stepM (sfM (lvM F 5 11 14 6 3) 3) (F 64 1)) m (F 64 (la F))) :
    pq_Ca (d + 3) 136 [.ref 63] (pq_Sh L, pn F, pl G, pq_rt h) (fun r M' => r = some (.int (nI m)) ∧ M' = (pq_Sh L, pn (sfM (lvM F 5 11 14 6 3) 3), pl (G), pq_rt h)) := by
  obtain ⟨g0, g1, g2, g3, g4, g5, g6, g7, g8, g9, g10, g11, g12, g13, g14, g15, g16, g17, g18, g19⟩ := hg
  have e64 : ∀ j, sfM (lvM F 5 11 14 6 3) 3 64 j = F 64 j := fun j => by rw [sf64, lv64]
  have hb := g_belief (d := d) (L := L) (F := sfM (lvM F 5 11 14 6 3) 3) (G := G) (h := h) (by rw [e64]; exact g15) (by rw [e64]; exact g16)
  rw [e64, e64] at hb
  have hf : ∀ k, k < F 64 1 → sfM (lvM F 5 11 14 6 3) 3 67 k < 8 := fun k hk => by
    simp only [sfM]; rw [if_neg (by omega), lv67 (by omega)]; exact Nat.lt_trans (g7 k (by omega)) (by decide)
  have ht : ∀ k, k < F 64 1 → sfM (lvM F 5 11 14 6 3) 3 68 k < 8 := fun k hk => by
    simp only [sfM]; rw [if_pos ⟨trivial, by omega⟩, lv67 (by omega)]; exact Nat.lt_trans (g7 k (by omega)) (by decide)
  have h18 := g18 (F 64 23 - 1) (by omega)
  have hs := g_step (d := d) (L := L) (F := sfM (lvM F 5 11 14 6 3) 3) (G := G) (h := h) (s := F 64 (24 + 15 * (F 64 23 - 1))) (K := F 64 1) h18 (by rw [e64]; exact g1) g2 hf ht
  have hl := l_set2 (d := d + 1) (L := L) (F := sfM (lvM F 5 11 14 6 3) 3) (G := G) (h := h) (by rw [e64]; exact g1) (by rw [e64]; exact g2) (by rw [e64]; exact hf) (by rw [e64]; exact ht) m 0 (F 64 (la F)) (by omega) h18 (by rw [e64]; exact h1) (by rw [e64]; exact h2)
  rw [e64, Nat.zero_add] at hl
  refine Ca_mk rfl rfl ?_
  (repeat (first | refine E_st rfl ?_ | refine E_go rfl ?_))
  refine E_cx rfl (by omega) (g_looks (d := 0)) ?_
  (iterate 2 (first | refine E_st rfl ?_ | refine E_go rfl ?_))
  have h0 := l_set1 (d := d + 2) (L := L) (F := lvM F 5 11 14 6 3) (G := G) (h := h) (Q := fun r M' => r = some (.int (nI m)) ∧ M' = (pq_Sh L, pn (sfM (lvM F 5 11 14 6 3) 3), pl G, pq_rt h)) ?_ 3 0 rfl
  · rw [sfM_0] at h0
    exact h0
  · (repeat (first | refine E_st rfl ?_ | refine E_go rfl ?_))
    refine E_cx rfl (by omega) hb ?_
    (repeat (first | refine E_st rfl ?_ | refine E_go rfl ?_))
    simp +decide only [nI_clamp, pn_at, pu_n, pu_l]
    rw [e64]
    refine E_cx rfl (by omega) hs ?_
    (iterate 1 (first | refine E_st rfl ?_ | refine E_go rfl ?_))
    exact hl
theorem g_placed {M : pq_M} {s k v : Nat} (hk : k < 4) : pq_Ca (d + 1) 141 [.int (nI s), .int (nI k), .int (nI v)] M (fun r M' => r = some (.int (nI (plc s k v))) ∧ M' = M) := by
  refine Ca_mk rfl rfl ?_
  (repeat (first | refine E_st rfl ?_ | refine E_go rfl ?_))
  refine E_rt rfl ⟨?_, rfl⟩
  rw [zi_mul, nI_add, zi_shl 7 (by omega), zi_not, zi_shl v (by omega), zi_or]
  rfl
theorem g_moves {M : pq_M} {K : Nat} (hK : K ≤ 3) : pq_Ca (d + 1) 143 [.int (nI K)] M (fun r M' => r = some (.int (nI (6 ^ K))) ∧ M' = M) := by
  rcases (show K = 0 ∨ K = 1 ∨ K = 2 ∨ K = 3 by omega) with rfl | rfl | rfl | rfl
  · refine Ca_mk rfl rfl ?_
    (repeat (first | refine E_st rfl ?_ | refine E_go rfl ?_))
    exact E_rt rfl ⟨rfl, rfl⟩
  · refine Ca_mk rfl rfl ?_
    (repeat (first | refine E_st rfl ?_ | refine E_go rfl ?_))
    refine E_nif rfl (by decide) ?_
    (repeat (first | refine E_st rfl ?_ | refine E_go rfl ?_))
    exact E_rt rfl ⟨rfl, rfl⟩
  · refine Ca_mk rfl rfl ?_
    (repeat (first | refine E_st rfl ?_ | refine E_go rfl ?_))
    refine E_nif rfl (by decide) ?_
    (repeat (first | refine E_st rfl ?_ | refine E_go rfl ?_))
    refine E_nif rfl (by decide) ?_
    (repeat (first | refine E_st rfl ?_ | refine E_go rfl ?_))
    exact E_rt rfl ⟨rfl, rfl⟩
  · refine Ca_mk rfl rfl ?_
    (repeat (first | refine E_st rfl ?_ | refine E_go rfl ?_))
    refine E_nif rfl (by decide) ?_
    (repeat (first | refine E_st rfl ?_ | refine E_go rfl ?_))
    refine E_nif rfl (by decide) ?_
    (repeat (first | refine E_st rfl ?_ | refine E_go rfl ?_))
    refine E_nif rfl (by decide) ?_
    (repeat (first | refine E_st rfl ?_ | refine E_go rfl ?_))
    exact E_rt rfl ⟨rfl, rfl⟩
theorem l_clears : ∀ m k, k + m = 32768 → pq_Ev d 139 6 [some (.ref 63), some (.int (nI k))] [] (pq_Sh L, pn (clF F 70 k), pl G, pq_rt h) (fun r M' => r = none ∧ M' = (pq_Sh L, pn (clF F 70 32768), pl (G), pq_rt h)) := by
  intro m
  induction m with
  | zero =>
    intro k hk
    have hk : k = 32768 := by omega
    subst hk
    (repeat (first | refine E_st rfl ?_ | refine E_go rfl ?_))
    refine E_nif rfl (by decide) ?_
    exact E_rt rfl ⟨rfl, rfl⟩
  | succ m ih =>
    intro k hk
    (repeat (first | refine E_st rfl ?_ | refine E_go rfl ?_))
    refine E_if rfl (nI_lt (by omega) (by decide)) ?_
    (iterate 4 (first | refine E_st rfl ?_ | refine E_go rfl ?_))
    rw [zm1]
    refine E_ias rfl rfl (n := 32768) (by omega) (by decide) (by decide) ?_
    rw [clF_s]
    (iterate 2 (first | refine E_st rfl ?_ | refine E_go rfl ?_))
    rw [nI_add]
    exact ih (k + 1) (by omega)
theorem g_clears : pq_Ca (d + 2) 139 [.ref 63] (pq_Sh L, pn F, pl G, pq_rt h) (fun r M' => r = none ∧ M' = (pq_Sh L, pn (clF (lvM F 5 11 14 6 3) 70 32768), pl (G), pq_rt h)) := by
  have hl := l_clears (d := d + 1) (L := L) (F := lvM F 5 11 14 6 3) (G := G) (h := h) 32768 0 rfl
  rw [clF_0] at hl
  refine Ca_mk rfl rfl ?_
  (repeat (first | refine E_st rfl ?_ | refine E_go rfl ?_))
  refine E_cx rfl (by omega) (g_looks (d := 0)) ?_
  (iterate 2 (first | refine E_st rfl ?_ | refine E_go rfl ?_))
  exact hl
theorem l_now {s : Nat} (hK : F 64 1 ≤ 3) : ∀ m k, k + m = F 64 1 → pq_Ev (d + 1) 140 7 [some (.ref 63), some (.int (nI (pkA (fun k => F 64 (11 + k)) k s))), some (.int (nI k))] [] (pq_Sh L, pn F, pl G, pq_rt h) (fun r M' => r = some (.int (nI (pkA (fun k => F 64 (11 + k)) (F 64 1) s))) ∧ M' = (pq_Sh L, pn (F), pl (G), pq_rt h)) := by
  intro m
  induction m with
  | zero =>
    intro k hk
    have hk : k = F 64 1 := by omega
    subst hk
    (repeat (first | refine E_st rfl ?_ | refine E_go rfl ?_))
    simp +decide only [nI_clamp, pn_at, pu_n, pu_l]
    refine E_nif rfl (nI_nlt (Nat.le_refl _) (by omega)) ?_
    (repeat (first | refine E_st rfl ?_ | refine E_go rfl ?_))
    exact E_rt rfl ⟨rfl, rfl⟩
  | succ m ih =>
    intro k hk
    (repeat (first | refine E_st rfl ?_ | refine E_go rfl ?_))
    simp +decide only [nI_clamp, pn_at, pu_n, pu_l]
    refine E_if rfl (nI_lt (by omega) (by omega)) ?_
    (iterate 7 (first | refine E_st rfl ?_ | refine E_go rfl ?_))
    rw [nI_add]
    refine E_ial rfl rfl (n := 144) (by omega) (by decide) ?_
    refine E_cx rfl (by omega) (g_placed (d := 0) (by omega)) ?_
    (iterate 3 (first | refine E_st rfl ?_ | refine E_go rfl ?_))
    rw [nI_add]
    exact ih (k + 1) (by omega)
theorem g_now (hK : F 64 1 ≤ 3) (h1 : 1 ≤ F 64 23) (h2 : F 64 23 ≤ 8) : pq_Ca (d + 3) 140 [.ref 63] (pq_Sh L, pn F, pl G, pq_rt h) (fun r M' => r = some (.int (nI (pkA (fun k => F 64 (11 + k)) (F 64 1) (F 64 (la F))))) ∧ M' = (pq_Sh L, pn (F), pl (G), pq_rt h)) := by
  refine Ca_mk rfl rfl ?_
  (repeat (first | refine E_st rfl ?_ | refine E_go rfl ?_))
  refine E_cx rfl (by omega) (g_belief (d := 0) h1 h2) ?_
  (iterate 3 (first | refine E_st rfl ?_ | refine E_go rfl ?_))
  exact l_now hK (F 64 1) 0 (by omega)
def lvN (a b : Nat) : Nat → Nat
  | 0 => 0
  | k + 1 => if frS a k = frS b k then lvN a b k else lvN a b k + 1
theorem l_leaving {M : pq_M} {a b K : Nat} (ha : a < 2 ^ 31) (hb : b < 2 ^ 31) (hK : K ≤ 3) : ∀ m k, k + m = K → pq_Ev d 147 5 [some (.int (nI a)), some (.int (nI b)), some (.int (nI K)), some (.int (nI (lvN a b k))), some (.int (nI k))] [] M (fun r M' => r = some (.int (nI (lvN a b K))) ∧ M' = M) := by
  intro m
  induction m with
  | zero =>
    intro k hk
    have hk : k = K := by omega
    subst hk
    (repeat (first | refine E_st rfl ?_ | refine E_go rfl ?_))
    refine E_nif rfl (nI_nlt (Nat.le_refl _) (by omega)) ?_
    (repeat (first | refine E_st rfl ?_ | refine E_go rfl ?_))
    exact E_rt rfl ⟨rfl, rfl⟩
  | succ m ih =>
    intro k hk
    have h1 := frS_lt a k
    have h2 := frS_lt b k
    (repeat (first | refine E_st rfl ?_ | refine E_go rfl ?_))
    refine E_if rfl (nI_lt (by omega) (by omega)) ?_
    (repeat (first | refine E_st rfl ?_ | refine E_go rfl ?_))
    rw [zi_mul, nI_add, zi_shr ha (by omega), zi_and, zi_shr hb (by omega), zi_and]
    by_cases c : frS a k = frS b k
    · refine E_if rfl (by show nI (frS a k) = nI (frS b k); rw [c]) ?_
      (iterate 2 (first | refine E_st rfl ?_ | refine E_go rfl ?_))
      rw [nI_add]
      (iterate 3 (first | refine E_st rfl ?_ | refine E_go rfl ?_))
      rw [nI_add]
      have e : lvN a b (k + 1) = lvN a b k + 0 := by show (if _ then _ else _) = _; rw [if_pos c]; rfl
      rw [← e]
      exact ih (k + 1) (by omega)
    · refine E_nif rfl (by show ¬ nI (frS a k) = nI (frS b k); exact fun z => c ((zi_eq (by omega) (by omega)).mp z)) ?_
      (iterate 3 (first | refine E_st rfl ?_ | refine E_go rfl ?_))
      rw [nI_add]
      (iterate 3 (first | refine E_st rfl ?_ | refine E_go rfl ?_))
      rw [nI_add]
      have e : lvN a b (k + 1) = lvN a b k + 1 := by show (if _ then _ else _) = _; rw [if_neg c]
      rw [← e]
      exact ih (k + 1) (by omega)
theorem g_leaving {M : pq_M} {a b K : Nat} (ha : a < 2 ^ 31) (hb : b < 2 ^ 31) (hK : K ≤ 3) : pq_Ca (d + 1) 147 [.int (nI a), .int (nI b), .int (nI K)] M (fun r M' => r = some (.int (nI (lvN a b K))) ∧ M' = M) := by
  refine Ca_mk rfl rfl ?_
  (iterate 4 (first | refine E_st rfl ?_ | refine E_go rfl ?_))
  exact l_leaving ha hb hK K 0 (by omega)
end MOM
