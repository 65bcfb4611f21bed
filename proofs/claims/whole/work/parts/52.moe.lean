/-! the model: moved, told as a situation of the class -/
def stepG (n : Nat) (gr pos tgt : Nat → Nat) (K s : Nat) : Nat := stepM (fun p j => if p = 64 then n else if p = 69 then gr j else if p = 67 then pos j else tgt j) K s
def dig (K mv k : Nat) : Nat := mv / 6 ^ (K - 1 - k) % 6
abbrev mvO (n : Nat) (gr : Nat → Nat) (K s mv k : Nat) : Prop := dig K mv k < n ∧ (sitPos K s k = dig K mv k ∨ (gr (sitPos K s k)).testBit (dig K mv k) = true)
def mvS (n : Nat) (gr : Nat → Nat) (K s mv : Nat) : Option Nat := if ∀ k, k < K → mvO n gr K s mv k then some (mv * 64 + stepG n gr (sitPos K s) (dig K mv) K (s % 64)) else none
def moI (K : Nat) (o : Option Nat) : Int32 := match o with
  | none => -1
  | some x => nI (md K x)
section MON
variable {d L : Nat} {F G : Nat → Nat → Nat} {h : Nat → Nat}
theorem byM_congr {F F' : FF} {K s v : Nat} (h69 : F 69 v = F' 69 v) (h67 : ∀ k, k < K → F 67 k = F' 67 k) (h68 : ∀ k, k < K → F 68 k = F' 68 k) : ∀ k, k ≤ K → byM F s v k = byM F' s v k := by
  intro k
  induction k with
  | zero => intro _; unfold byM; rw [h69]
  | succ k ih => intro hk; unfold byM; rw [ih (by omega), h67 k (by omega), h68 k (by omega)]
theorem fxM_congr {F F' : FF} {K v : Nat} (h68 : ∀ k, k < K → F 68 k = F' 68 k) : ∀ k, k ≤ K → fxM F v k = fxM F' v k := by
  intro k
  induction k with
  | zero => intro _; rfl
  | succ k ih => intro hk; unfold fxM; rw [ih (by omega), h68 k (by omega)]
theorem stepM_congr {F F' : FF} {K s : Nat} (h0 : F 64 0 = F' 64 0) (hn : F 64 0 ≤ 6) (h69 : ∀ v, v < 6 → F 69 v = F' 69 v) (h67 : ∀ k, k < K → F 67 k = F' 67 k) (h68 : ∀ k, k < K → F 68 k = F' 68 k) : stepM F K s = stepM F' K s := by
  have key : ∀ v, v ≤ 6 → spM F K s v = spM F' K s v := by
    intro v
    induction v with
    | zero => intro _; rfl
    | succ v ih => intro hv; unfold spM; rw [ih (by omega), byM_congr (h69 v (by omega)) h67 h68 K (Nat.le_refl _), fxM_congr h68 K (Nat.le_refl _)]
  unfold stepM
  rw [← h0]
  exact key _ hn
theorem stepG_lt {n K s : Nat} {gr pos tgt : Nat → Nat} (hn : n ≤ 6) : stepG n gr pos tgt K s < 64 := stepM_lt (F := fun p j => if p = 64 then n else if p = 69 then gr j else if p = 67 then pos j else tgt j) hn
theorem mvS_lt {n K s mv x : Nat} {gr : Nat → Nat} (hn : n ≤ 6) (hmv : mv < 6 ^ K) (hx : mvS n gr K s mv = some x) : x < 64 * 6 ^ K := by
  unfold mvS at hx
  split at hx
  · cases hx
    have := stepG_lt (n := n) (gr := gr) (pos := sitPos K s) (tgt := dig K mv) (K := K) (s := s % 64) hn
    omega
  · cases hx
theorem dig_lt (K mv k : Nat) : dig K mv k < 6 := Nat.mod_lt _ (by decide)
theorem md_mv {K mv b : Nat} (hb : b < 64) : md K (mv * 64 + b) = pkD (dig K mv) K 0 ||| b := by
  have h1 : (mv * 64 + b) % 64 = b := by omega
  have h2 : ∀ k, sitPos K (mv * 64 + b) k = dig K mv k := fun k => by unfold sitPos dig; rw [show (mv * 64 + b) / 64 = mv by omega]
  apply Nat.eq_of_testBit_eq
  intro i
  unfold md
  rw [pkA_bit K (fun k _ => sit_lt8 _ _ _), Nat.testBit_or, pkD_bit K 0 (fun k _ => Nat.lt_trans (dig_lt K mv k) (by decide)), h1, h2]
  by_cases c : 6 ≤ i ∧ i < 6 + 3 * K
  · rw [if_pos c, if_pos c, zb_lt (show b < 2 ^ 6 from hb) c.1, Bool.or_false]
  · rw [if_neg c, if_neg c, Nat.zero_testBit, Bool.false_or]
theorem l_moved {n K s mv : Nat} {gr : Nat → Nat} (hn : F 64 0 = n) (hn6 : n ≤ 6) (hgr : ∀ u, u < 6 → F 64 (5 + u) = gr u ∧ F 69 u = gr u ∧ gr u < 64) (hK : K ≤ 3) (hmv : mv < 6 ^ K) : ∀ c (F1 : FF) nx, c ≤ K → (∀ p j, ¬ p = 67 → ¬ p = 68 → F1 p j = F p j) → (∀ k, c ≤ k → k < K → F1 67 k = sitPos K s k ∧ F1 68 k = dig K mv k ∧ mvO n gr K s mv k) →
    pq_Ev (d + 1) 144 11 [some (.ref 63), some (.int (nI (md K s))), some (.int (nI mv)), some (.int (nI K)), some (.int (nI (mv / 6 ^ (K - c)))), some (.int (nI nx)), some (.int (nI c + (-1)))] [] (pq_Sh L, pn F1, pl G, pq_rt h) (fun r M' => r = some (.int (if ∀ k, k < K → mvO n gr K s mv k then nI (pkD (dig K mv) c nx ||| stepG n gr (sitPos K s) (dig K mv) K (s % 64)) else -1)) ∧ ∃ F', M' = (pq_Sh L, pn F', pl G, pq_rt h) ∧ ∀ p j, ¬ p = 67 → ¬ p = 68 → F' p j = F p j) := by
  have hm3 : mv < 2 ^ 31 := Nat.lt_of_lt_of_le hmv (Nat.le_trans (Nat.pow_le_pow_right (by decide) hK) (by decide))
  intro c
  induction c with
  | zero =>
    intro F1 nx hc ho hk
    have hall : ∀ k, k < K → mvO n gr K s mv k := fun k hk2 => (hk k (Nat.zero_le _) hk2).2.2
    have e : stepM F1 K (s % 64) = stepG n gr (sitPos K s) (dig K mv) K (s % 64) := by
      unfold stepG
      refine stepM_congr ?_ ?_ ?_ ?_ ?_
      · rw [ho _ _ (by decide) (by decide), hn]; rfl
      · rw [ho _ _ (by decide) (by decide), hn]; exact hn6
      · intro v hv; rw [ho _ _ (by decide) (by decide)]; exact (hgr v hv).2.1
      · intro k hk2; exact (hk k (Nat.zero_le _) hk2).1
      · intro k hk2; exact (hk k (Nat.zero_le _) hk2).2.1
    have hs := g_step (d := d) (L := L) (F := F1) (G := G) (h := h) (s := s % 64) (K := K) (Nat.mod_lt _ (by decide)) (by rw [ho _ _ (by decide) (by decide), hn]; exact hn6) hK (fun k hk2 => by rw [(hk k (Nat.zero_le _) hk2).1]; exact sit_lt8 _ _ _) (fun k hk2 => by rw [(hk k (Nat.zero_le _) hk2).2.1]; exact Nat.lt_trans (dig_lt _ _ _) (by decide))
    rw [e] at hs
    (iterate 1 (first | refine E_st rfl ?_ | refine E_go rfl ?_))
    refine E_if rfl (by decide) ?_
    (iterate 5 (first | refine E_st rfl ?_ | refine E_go rfl ?_))
    rw [zi_and, md_63]
    (repeat (first | refine E_st rfl ?_ | refine E_go rfl ?_))
    refine E_cx rfl (by omega) hs ?_
    (iterate 1 (first | refine E_st rfl ?_ | refine E_go rfl ?_))
    rw [zi_or]
    refine E_rt rfl ⟨?_, F1, rfl, ho⟩
    rw [if_pos hall]
    rfl
  | succ c ih =>
    intro F1 nx hc ho hk
    rw [pk_m1]
    have hd := dig_lt K mv c
    have hsp := sit_lt6 K s c
    have hdv : mv / 6 ^ (K - (c + 1)) < 2 ^ 31 := Nat.lt_of_le_of_lt (Nat.div_le_self _ _) hm3
    have edig : mv / 6 ^ (K - (c + 1)) % 6 = dig K mv c := by unfold dig; rw [show K - 1 - c = K - (c + 1) by omega]
    have ediv : mv / 6 ^ (K - (c + 1)) / 6 = mv / 6 ^ (K - c) := by rw [Nat.div_div_eq_div_mul, ← Nat.pow_succ, show (K - (c + 1)).succ = K - c by omega]
    have e67 : pq_u (pq_u F1 67 c (sitPos K s c)) 68 c (dig K mv c) 67 c = sitPos K s c := by rw [pu_at, if_neg (by omega), pu_at, if_pos ⟨rfl, rfl⟩]
    have e68 : pq_u (pq_u F1 67 c (sitPos K s c)) 68 c (dig K mv c) 68 c = dig K mv c := by rw [pu_at, if_pos ⟨rfl, rfl⟩]
    have eo : ∀ p j, ¬ p = 67 → ¬ p = 68 → pq_u (pq_u F1 67 c (sitPos K s c)) 68 c (dig K mv c) p j = F p j := fun p j h1 h2 => by rw [pu_at, if_neg (fun z => h2 z.1), pu_at, if_neg (fun z => h1 z.1)]; exact ho p j h1 h2
    have hw := g_isWay (d := d) (L := L) (F := pq_u (pq_u F1 67 c (sitPos K s c)) 68 c (dig K mv c)) (G := G) (h := h) (a := sitPos K s c) (b := dig K mv c) hsp (by omega) (by rw [eo _ _ (by decide) (by decide), (hgr _ hsp).1]; exact Nat.lt_trans (hgr _ hsp).2.2 (by decide))
    rw [eo _ _ (by decide) (by decide), (hgr _ hsp).1] at hw
    have hmd : md K s < 2 ^ 31 := Nat.lt_trans (md_lt hK s) (by decide)
    (iterate 1 (first | refine E_st rfl ?_ | refine E_go rfl ?_))
    refine E_nif rfl (nI_pos (by omega)) ?_
    (iterate 12 (first | refine E_st rfl ?_ | refine E_go rfl ?_))
    rw [zi_mul, nI_add, zi_shr hmd (by omega), zi_and, show md K s >>> (6 + 3 * c) &&& 7 = sitPos K s c from md_fr (by omega)]
    refine E_ias rfl rfl (n := 3) (by omega) (by decide) (by decide) ?_
    (iterate 6 (first | refine E_st rfl ?_ | refine E_go rfl ?_))
    rw [pk_rem hdv (by decide) (by decide), edig]
    refine E_ias rfl rfl (n := 3) (by omega) (by decide) (by decide) ?_
    (iterate 4 (first | refine E_st rfl ?_ | refine E_go rfl ?_))
    rw [pk_div hdv (by decide) (by decide), ediv]
    (iterate 3 (first | refine E_st rfl ?_ | refine E_go rfl ?_))
    refine E_ial rfl rfl (n := 3) (by omega) (by decide) ?_
    rw [e68]
    (iterate 4 (first | refine E_st rfl ?_ | refine E_go rfl ?_))
    simp +decide only [nI_clamp, pn_at, pu_n, pu_l]
    rw [eo 64 0 (by decide) (by decide), hn]
    by_cases c1 : dig K mv c < n
    case neg =>
      refine E_nif rfl (nI_nlt (by omega) (by omega)) ?_
      (repeat (first | refine E_st rfl ?_ | refine E_go rfl ?_))
      refine E_rt rfl ⟨?_, _, rfl, eo⟩
      rw [if_neg (fun z => c1 (z c (by omega)).1)]
    refine E_if rfl (nI_lt c1 (by omega)) ?_
    (iterate 4 (first | refine E_st rfl ?_ | refine E_go rfl ?_))
    refine E_ial rfl rfl (n := 3) (by omega) (by decide) ?_
    rw [e67]
    (iterate 3 (first | refine E_st rfl ?_ | refine E_go rfl ?_))
    refine E_ial rfl rfl (n := 3) (by omega) (by decide) ?_
    rw [e68]
    by_cases c2 : sitPos K s c = dig K mv c ∨ (gr (sitPos K s c)).testBit (dig K mv c) = true
    case neg =>
      rw [if_neg c2] at hw
      refine E_cx rfl (by omega) hw ?_
      refine E_if rfl rfl ?_
      (repeat (first | refine E_st rfl ?_ | refine E_go rfl ?_))
      refine E_rt rfl ⟨?_, _, rfl, eo⟩
      rw [if_neg (fun z => c2 (z c (by omega)).2)]
    rw [if_pos c2] at hw
    refine E_cx rfl (by omega) hw ?_
    refine E_nif rfl (by decide) ?_
    (iterate 5 (first | refine E_st rfl ?_ | refine E_go rfl ?_))
    refine E_ial rfl rfl (n := 3) (by omega) (by decide) ?_
    rw [e68]
    refine E_cx rfl (by omega) (g_placed (d := 0) (by omega)) ?_
    (iterate 3 (first | refine E_st rfl ?_ | refine E_go rfl ?_))
    refine ih _ (plc nx c (dig K mv c)) (by omega) eo ?_
    intro k hk1 hk2
    by_cases e : k = c
    · subst e
      exact ⟨e67, e68, c1, c2⟩
    · have := hk k (by omega) hk2
      refine ⟨?_, ?_, this.2.2⟩
      · rw [pu_at, if_neg (by omega), pu_at, if_neg (by omega)]; exact this.1
      · rw [pu_at, if_neg (by omega), pu_at, if_neg (by omega)]; exact this.2.1
theorem g_moved {n K s mv : Nat} {gr : Nat → Nat} (hn : F 64 0 = n) (hn6 : n ≤ 6) (hgr : ∀ u, u < 6 → F 64 (5 + u) = gr u ∧ F 69 u = gr u ∧ gr u < 64) (hK : K ≤ 3) (hmv : mv < 6 ^ K) :
    pq_Ca (d + 2) 144 [.ref 63, .int (nI (md K s)), .int (nI mv), .int (nI K)] (pq_Sh L, pn F, pl G, pq_rt h) (fun r M' => r = some (.int (moI K (mvS n gr K s mv))) ∧ ∃ F', M' = (pq_Sh L, pn F', pl G, pq_rt h) ∧ ∀ p j, ¬ p = 67 → ¬ p = 68 → F' p j = F p j) := by
  have hl := l_moved (d := d) (L := L) (G := G) (h := h) (s := s) hn hn6 hgr hK hmv K F 0 (Nat.le_refl _) (fun _ _ _ _ => rfl) (fun k h1 h2 => by omega)
  rw [Nat.sub_self, Nat.pow_zero, Nat.div_one] at hl
  have e : moI K (mvS n gr K s mv) = (if ∀ k, k < K → mvO n gr K s mv k then nI (pkD (dig K mv) K 0 ||| stepG n gr (sitPos K s) (dig K mv) K (s % 64)) else -1) := by
    unfold mvS
    split
    · rw [← md_mv (stepG_lt hn6)]; rfl
    · rfl
  rw [e]
  refine Ca_mk rfl rfl ?_
  (iterate 7 (first | refine E_st rfl ?_ | refine E_go rfl ?_))
  rw [zsub1]
  (iterate 1 (first | refine E_st rfl ?_ | refine E_go rfl ?_))
  exact hl
end MON
