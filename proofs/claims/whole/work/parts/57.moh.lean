/-! the model: turnsOf, leastSearchers, bestTurns -/
def rdg (i k : Nat) : Nat := i / 6 ^ k % 6
def frG (n : Nat) (pos : Nat → Nat) : Nat → Nat
  | 0 => 1 <<< n - 1
  | k + 1 => an (frG n pos k) (1 <<< pos k)
def tsS (n : Nat) (pos : Nat → Nat) : Nat → Nat
  | 0 => 1 <<< n - 1
  | k + 1 => plc (an (tsS n pos k) (1 <<< pos k)) k (pos k)
def stN (n K : Nat) (pos : Nat → Nat) : Nat := nmG pos K * 64 + frG n pos K
def stL (n K i : Nat) : Option Nat := if ∀ k, k < K → rdg i k < n then some (stN n K (rdg i)) else none
def stMl (n K c : Nat) : List Nat := (List.range c).filterMap (stL n K)
theorem rdg_lt (i k : Nat) : rdg i k < 6 := Nat.mod_lt _ (by decide)
theorem frG_lt {n : Nat} {pos : Nat → Nat} (hn : n ≤ 6) : ∀ k, frG n pos k < 64 := by
  intro k
  induction k with
  | zero =>
    unfold frG
    rw [Nat.one_shiftLeft]
    have : 2 ^ n ≤ 2 ^ 6 := Nat.pow_le_pow_right (by decide) hn
    have : 0 < 2 ^ n := Nat.two_pow_pos n
    omega
  | succ k ih => exact Nat.lt_of_le_of_lt (an_le _ _) ih
theorem tsS_bit {n : Nat} {pos : Nat → Nat} (hn : n ≤ 6) : ∀ K, (∀ k, k < K → pos k < 6) → ∀ i, (tsS n pos K).testBit i = if 6 ≤ i ∧ i < 6 + 3 * K then (pos ((i - 6) / 3)).testBit ((i - 6) % 3) else (frG n pos K).testBit i := by
  intro K
  induction K with
  | zero => intro _ i; rw [if_neg (by omega)]; rfl
  | succ K ih =>
    intro hp i
    have hK := hp K (by omega)
    unfold tsS frG
    rw [plc_bit (by omega)]
    by_cases c : 6 + 3 * K ≤ i ∧ i < 9 + 3 * K
    · rw [if_pos c, if_pos (by omega), show (i - 6) / 3 = K by omega, show (i - 6) % 3 = i - (6 + 3 * K) by omega]
    · rw [if_neg c, an_bit, zb_one, ih (fun k hk => hp k (by omega))]
      by_cases c2 : 6 ≤ i ∧ i < 6 + 3 * K
      · rw [if_pos c2, if_pos (by omega), show decide (pos K = i) = false by simp; omega]
        simp
      · rw [if_neg c2, if_neg (by omega), an_bit, zb_one]
theorem tsS_eq {n K : Nat} {pos : Nat → Nat} (hn : n ≤ 6) (hp : ∀ k, k < K → pos k < 6) : tsS n pos K = pkA pos K (frG n pos K) := by
  apply Nat.eq_of_testBit_eq
  intro i
  rw [tsS_bit hn K hp, pkA_bit K (fun k hk => Nat.lt_trans (hp k hk) (by decide))]
theorem stN_sit {n K : Nat} {pos : Nat → Nat} (hn : n ≤ 6) (hp : ∀ k, k < K → pos k < 6) : stN n K pos % 64 = frG n pos K ∧ (∀ k, k < K → sitPos K (stN n K pos) k = pos k) ∧ stN n K pos < 64 * 6 ^ K := by
  have h1 := frG_lt (pos := pos) hn K
  have h2 := nmG_lt K hp
  unfold stN
  refine ⟨by omega, fun k hk => ?_, by omega⟩
  have := nm_dig K hp k hk
  unfold sitPos
  unfold dig at this
  rw [show (nmG pos K * 64 + frG n pos K) / 64 = nmG pos K by omega]
  exact this
theorem stN_md {n K : Nat} {pos : Nat → Nat} (hn : n ≤ 6) (hp : ∀ k, k < K → pos k < 6) : tsS n pos K = md K (stN n K pos) := by
  obtain ⟨h1, h2, _⟩ := stN_sit hn hp
  rw [tsS_eq hn hp]
  exact md_of h1 h2
theorem stMl_lt {n K c : Nat} (hn : n ≤ 6) : ∀ s, s ∈ stMl n K c → s < 64 * 6 ^ K := by
  intro s hs
  unfold stMl at hs
  rw [List.mem_filterMap] at hs
  obtain ⟨i, _, h2⟩ := hs
  unfold stL at h2
  split at h2
  · cases h2; exact (stN_sit hn (fun k _ => rdg_lt i k)).2.2
  · cases h2
theorem stMl_s {n K c : Nat} : stMl n K (c + 1) = stMl n K c ++ (match stL n K c with | none => [] | some x => [x]) := by
  unfold stMl
  rw [List.range_succ, List.filterMap_append]
  congr 1
  rw [List.filterMap_cons]
  cases stL n K c <;> rfl
theorem bfX_app {p k : Nat} (Q : BQ) (a b : List Nat) : bfX p k Q (a ++ b) = bfX p k (bfX p k Q a) b := by unfold bfX; rw [List.foldl_append]
section MOQ
variable {d L n K : Nat} {gr : Nat → Nat} {F F0 G : FF} {h : Nat → Nat}
theorem l_tsI {i : Nat} {v2 : Int32} (hn : F 64 0 = n) (hn6 : n ≤ 6) (hK : K ≤ 3) (hi : i < 2 ^ 31) {Post : Option Value → pq_M → Prop}
    (C : ∀ z5 z8 : Option Value, pq_Ev (d + 1) 149 98 [some (.ref 63), some (.int (nI K)), some (.int v2), some (.int (nI i)), some (.int (nI (tsS n (rdg i) K))), z5, some (.int (nI (if ∀ k, k < K → rdg i k < n then 1 else 0))), some (.int (nI K)), z8] [] (pq_Sh L, pn F, pl G, pq_rt h) Post) :
    ∀ m k (z8 : Option Value), k + m = K → pq_Ev (d + 1) 149 31 [some (.ref 63), some (.int (nI K)), some (.int v2), some (.int (nI i)), some (.int (nI (tsS n (rdg i) k))), some (.int (nI (i / 6 ^ k))), some (.int (nI (if ∀ k', k' < k → rdg i k' < n then 1 else 0))), some (.int (nI k)), z8] [] (pq_Sh L, pn F, pl G, pq_rt h) Post := by
  intro m
  induction m with
  | zero =>
    intro k z8 hk
    have hk : k = K := by omega
    subst hk
    (repeat (first | refine E_st rfl ?_ | refine E_go rfl ?_))
    refine E_nif rfl (nI_nlt (Nat.le_refl _) (by omega)) ?_
    exact C _ _
  | succ m ih =>
    intro k z8 hk
    have hd := rdg_lt i k
    have hdv : i / 6 ^ k < 2 ^ 31 := Nat.lt_of_le_of_lt (Nat.div_le_self _ _) hi
    have ediv : i / 6 ^ k / 6 = i / 6 ^ (k + 1) := by rw [Nat.div_div_eq_div_mul, ← Nat.pow_succ]
    have ih2 := ih (k + 1) (some (.int (nI (rdg i k)))) (by omega)
    have B : ∀ x : Int32, x = nI (if ∀ k', k' < k + 1 → rdg i k' < n then 1 else 0) → pq_Ev (d + 1) 149 72 [some (.ref 63), some (.int (nI K)), some (.int v2), some (.int (nI i)), some (.int (nI (tsS n (rdg i) k))), some (.int (nI (i / 6 ^ (k + 1)))), some (.int (nI (if ∀ k', k' < k → rdg i k' < n then 1 else 0))), some (.int (nI k)), some (.int (nI (rdg i k)))] [.int x] (pq_Sh L, pn F, pl G, pq_rt h) Post := by
      intro x hx
      rw [hx]
      (iterate 5 (first | refine E_st rfl ?_ | refine E_go rfl ?_))
      rw [zi_shl 1 (by omega)]
      (iterate 3 (first | refine E_st rfl ?_ | refine E_go rfl ?_))
      rw [zi_not]
      (iterate 2 (first | refine E_st rfl ?_ | refine E_go rfl ?_))
      refine E_cx rfl (by omega) (g_placed (d := 0) (by omega)) ?_
      (iterate 3 (first | refine E_st rfl ?_ | refine E_go rfl ?_))
      rw [nI_add]
      exact ih2
    refine E_fo 8 ?_
    (repeat (first | refine E_st rfl ?_ | refine E_go rfl ?_))
    refine E_if rfl (nI_lt (by omega) (by omega)) ?_
    (iterate 4 (first | refine E_st rfl ?_ | refine E_go rfl ?_))
    rw [pk_rem hdv (by decide) (by decide), show i / 6 ^ k % 6 = rdg i k from rfl]
    (iterate 4 (first | refine E_st rfl ?_ | refine E_go rfl ?_))
    rw [pk_div hdv (by decide) (by decide), ediv]
    (repeat (first | refine E_st rfl ?_ | refine E_go rfl ?_))
    by_cases c : ∀ k', k' < k → rdg i k' < n
    · refine E_nif rfl (by rw [if_pos c]; decide) ?_
      (repeat (first | refine E_st rfl ?_ | refine E_go rfl ?_))
      simp +decide only [nI_clamp, pn_at, pu_n, pu_l]
      rw [hn]
      by_cases c2 : rdg i k < n
      · refine E_if rfl (nI_lt c2 (by omega)) ?_
        (iterate 2 (first | refine E_st rfl ?_ | refine E_go rfl ?_))
        refine B _ ?_
        rw [if_pos (fun k' hk' => if e : k' = k then by rw [e]; exact c2 else c k' (by omega))]
      · refine E_nif rfl (nI_nlt (by omega) (by omega)) ?_
        (iterate 1 (first | refine E_st rfl ?_ | refine E_go rfl ?_))
        refine B _ ?_
        rw [if_neg (fun z => c2 (z k (by omega)))]
    · refine E_if rfl (by rw [if_neg c]; rfl) ?_
      (iterate 1 (first | refine E_st rfl ?_ | refine E_go rfl ?_))
      refine B _ ?_
      rw [if_neg (fun z => c (fun k' hk' => z k' (by omega)))]
theorem l_ts {Q : BQ} (hn : F0 64 0 = n) (hn6 : n ≤ 6) (hK : K ≤ 3) {Post : Option Value → pq_M → Prop}
    (C : ∀ (F' : FF) (z3 z4 z5 z6 z7 z8 : Option Value), MR K F' (bfX N2 0 [] (stMl n K (6 ^ K))) → ag F' F0 → (z3 = none ∨ ∃ x, z3 = some (.int x)) → pq_Ev (d + 1) 149 138 [some (.ref 63), some (.int (nI K)), some (.int (nI (bfX N2 0 [] (stMl n K (6 ^ K))).length)), z3, z4, z5, z6, z7, z8] [] (pq_Sh L, pn F', pl G, pq_rt h) Post) :
    ∀ m i (F : FF) (z4 z5 z6 z7 z8 : Option Value), i + m = 6 ^ K → MR K F (bfX N2 0 [] (stMl n K i)) → ag F F0 → pq_Ev (d + 1) 149 8 [some (.ref 63), some (.int (nI K)), some (.int (nI (bfX N2 0 [] (stMl n K i)).length)), some (.int (nI i)), z4, z5, z6, z7, z8] [] (pq_Sh L, pn F, pl G, pq_rt h) Post := by
  have h6K : 6 ^ K ≤ 216 := Nat.pow_le_pow_right (n := 6) (j := 3) (by decide) hK
  have hB := K_le hK
  intro m
  induction m with
  | zero =>
    intro i F z4 z5 z6 z7 z8 hi hM ha
    have hi : i = 6 ^ K := by omega
    subst hi
    (repeat (first | refine E_st rfl ?_ | refine E_go rfl ?_))
    refine E_cx rfl (by omega) (g_moves (d := 0) hK) ?_
    refine E_nif rfl (nI_nlt (Nat.le_refl _) (by omega)) ?_
    exact C F _ _ _ _ _ _ hM ha (Or.inr ⟨_, rfl⟩)
  | succ m ih =>
    intro i F z4 z5 z6 z7 z8 hi hM ha
    have hbI := bS_0 (suc := fun _ => []) (B := 64 * 6 ^ K) (stMl n K i) (fun s hs => stMl_lt hn6 s hs)
    have hlen := bI_len hbI
    have hall := g_all (d := 0) (L := L) (F := F) (G := G) (h := h) (by rw [ha _ _ (by omega), hn]; exact hn6)
    rw [ha 64 0 (by omega), hn] at hall
    refine E_fo 4 (E_fo 5 (E_fo 6 (E_fo 7 (E_fo 8 ?_))))
    (repeat (first | refine E_st rfl ?_ | refine E_go rfl ?_))
    refine E_cx rfl (by omega) (g_moves (d := 0) hK) ?_
    refine E_if rfl (nI_lt (by omega) (by omega)) ?_
    (repeat (first | refine E_st rfl ?_ | refine E_go rfl ?_))
    refine E_cx rfl (by omega) hall ?_
    (iterate 7 (first | refine E_st rfl ?_ | refine E_go rfl ?_))
    have hI := l_tsI (d := d) (L := L) (F := F) (G := G) (h := h) (n := n) (i := i) (v2 := nI (bfX N2 0 [] (stMl n K i)).length) (Post := Post) (by rw [ha 64 0 (by omega)]; exact hn) hn6 hK (by omega) ?_ K 0 none (by omega)
    · rw [Nat.pow_zero, Nat.div_one, if_pos (fun k hk => absurd hk (Nat.not_lt_zero _))] at hI
      exact hI
    intro y5 y8
    have hnext := ih (i + 1)
    by_cases c : ∀ k, k < K → rdg i k < n
    case neg =>
      have e : stMl n K (i + 1) = stMl n K i := by
        rw [stMl_s]
        have : stL n K i = none := by unfold stL; rw [if_neg c]
        rw [this, List.append_nil]
      rw [e] at hnext
      (repeat (first | refine E_st rfl ?_ | refine E_go rfl ?_))
      refine E_if rfl (by rw [if_neg c]; rfl) ?_
      (iterate 2 (first | refine E_st rfl ?_ | refine E_go rfl ?_))
      rw [nI_add]
      exact hnext F _ _ _ _ _ (by omega) hM ha
    have hst := stN_sit (n := n) (K := K) (pos := rdg i) hn6 (fun k _ => rdg_lt i k)
    have hmd := md_lt hK (stN n K (rdg i))
    have e : bfX N2 0 [] (stMl n K (i + 1)) = bfE N2 0 (bfX N2 0 [] (stMl n K i)) (stN n K (rdg i)) := by
      rw [stMl_s]
      have : stL n K i = some (stN n K (rdg i)) := by unfold stL; rw [if_pos c]
      rw [this, bfX_app]
      rfl
    rw [e] at hnext
    (repeat (first | refine E_st rfl ?_ | refine E_go rfl ?_))
    refine E_nif rfl (by rw [if_pos c]; decide) ?_
    rw [stN_md hn6 (fun k _ => rdg_lt i k)]
    (iterate 3 (first | refine E_st rfl ?_ | refine E_go rfl ?_))
    refine E_ial rfl rfl (n := 32768) hmd (by decide) ?_
    by_cases c2 : bHas (bfX N2 0 [] (stMl n K i)) (stN n K (rdg i)) = true
    · obtain ⟨e2, h2, h3⟩ := bHas_iff.mp c2
      have hd := bI_depB hbI h2
      have e3 : bfE N2 0 (bfX N2 0 [] (stMl n K i)) (stN n K (rdg i)) = bfX N2 0 [] (stMl n K i) := by unfold bfE; rw [if_pos c2]
      rw [e3] at hnext
      rw [show F 70 (md K (stN n K (rdg i))) = e2.2.2 by rw [← h3]; exact (hM.2.1 e2 h2).1]
      refine E_nif rfl (nI_pos (by omega)) ?_
      (iterate 2 (first | refine E_st rfl ?_ | refine E_go rfl ?_))
      rw [nI_add]
      exact hnext F _ _ _ _ _ (by omega) hM ha
    · have hne : ∀ e2 : BE, e2 ∈ bfX N2 0 [] (stMl n K i) → ¬ md K e2.1 = md K (stN n K (rdg i)) := by
        intro e2 h2 h3
        exact c2 (bHas_iff.mpr ⟨e2, h2, md_inj (hbI.2.1 e2 h2) hst.2.2 h3⟩)
      have e3 : bfE N2 0 (bfX N2 0 [] (stMl n K i)) (stN n K (rdg i)) = bfX N2 0 [] (stMl n K i) ++ [(stN n K (rdg i), N2, 0)] := by unfold bfE; rw [if_neg c2]
      rw [e3] at hnext
      rw [hM.2.2 _ hmd hne, ← zm1]
      refine E_if rfl (by decide) ?_
      (iterate 4 (first | refine E_st rfl ?_ | refine E_go rfl ?_))
      refine E_ias rfl rfl (n := 32768) hmd (by decide) (by decide) ?_
      (iterate 4 (first | refine E_st rfl ?_ | refine E_go rfl ?_))
      refine E_ias rfl rfl (n := 32768) (by omega) (by decide) (by decide) ?_
      (iterate 3 (first | refine E_st rfl ?_ | refine E_go rfl ?_))
      rw [nI_add, nI_add]
      rw [List.length_append, List.length_singleton] at hnext
      refine hnext _ _ _ _ _ _ (by omega) ?_ ?_
      · refine ⟨?_, ?_, ?_⟩
        · intro a e2 h2
          rcases ap_1 h2 with h2 | ⟨h2, h3⟩
          · have := (List.getElem?_eq_some_iff.mp h2).1
            rw [pu_at, if_neg (by omega), pu_off (by decide)]
            exact hM.1 a e2 h2
          · rw [pu_at, if_pos ⟨rfl, h2⟩, h3]
        · intro e2 h2
          rw [List.mem_append, List.mem_singleton] at h2
          rcases h2 with h2 | h2
          · rw [pu_off (by decide), pu_at, if_neg (fun z => hne e2 h2 z.2), pu_off (by decide), pu_off (by decide)]
            exact hM.2.1 e2 h2
          · rw [h2]
            exact ⟨by rw [pu_off (by decide), pu_at, if_pos ⟨rfl, rfl⟩], fun z => absurd rfl z⟩
        · intro y hy h2
          have h3 : ¬ md K (stN n K (rdg i)) = y := h2 (stN n K (rdg i), N2, 0) (by simp)
          rw [pu_off (by decide), pu_at, if_neg (fun z => h3 z.2.symm)]
          exact hM.2.2 y hy (fun e2 h4 => h2 e2 (List.mem_append_left _ h4))
      · intro p j hp
        rw [pu_off (by omega), pu_off (by omega)]
        exact ha p j hp
theorem g_turnsOf {Z : BQ} (hZ : bZ (sucM (F 64 0) (fun u => F 64 (5 + u)) K) (bfX N2 0 [] (stMl (F 64 0) K (6 ^ K))) = Z) (hn : F 64 0 ≤ 6) (hgr : ∀ u, u < 6 → F 64 (5 + u) < 64) (hK : K ≤ 3) :
    pq_Ca (d + 4) 149 [.ref 63, .int (nI K)] (pq_Sh L, pn F, pl G, pq_rt h) (fun r M' => r = some (.int (trI Z (-1))) ∧ ∃ F' : FF, M' = (pq_Sh L, pn F', pl G, pq_rt h) ∧ ag2 F' F) := by
  have f64 : ∀ j, clF (lvM F 5 11 14 6 3) 70 32768 64 j = F 64 j := fun j => by unfold clF; rw [if_neg (by omega), lv64]
  have hGF : GF (F 64 0) (fun u => F 64 (5 + u)) (clF (lvM F 5 11 14 6 3) 70 32768) := by
    refine ⟨f64 0, fun u hu => ⟨f64 _, ?_, hgr u hu⟩⟩
    unfold clF
    rw [if_neg (by omega), lv69 hu]
  have hMR : MR K (clF (lvM F 5 11 14 6 3) 70 32768) (bfX N2 0 [] (stMl (F 64 0) K 0)) := by
    refine ⟨?_, ?_, ?_⟩
    · intro a e he; cases he
    · intro e he; exact absurd he List.not_mem_nil
    · intro x hx _
      unfold clF
      rw [if_pos ⟨rfl, hx⟩]
  have hbI := bS_0 (suc := sucM (F 64 0) (fun u => F 64 (5 + u)) K) (B := 64 * 6 ^ K) (stMl (F 64 0) K (6 ^ K)) (fun s hs => stMl_lt hn s hs)
  have hL := l_ts (d := d + 2) (L := L) (G := G) (h := h) (F0 := clF (lvM F 5 11 14 6 3) 70 32768) (n := F 64 0) (Q := []) (f64 0) hn hK (Post := fun r M' => r = some (.int (trI Z (-1))) ∧ ∃ F' : FF, M' = (pq_Sh L, pn F', pl G, pq_rt h) ∧ ag2 F' F) ?_ (6 ^ K) 0 (clF (lvM F 5 11 14 6 3) 70 32768) none none none none none (by omega) hMR (fun _ _ _ => rfl)
  · refine Ca_mk rfl rfl ?_
    (repeat (first | refine E_st rfl ?_ | refine E_go rfl ?_))
    refine E_cx rfl (by omega) (g_clears (d := 0)) ?_
    (iterate 4 (first | refine E_st rfl ?_ | refine E_go rfl ?_))
    exact hL
  · intro F1 z3 z4 z5 z6 z7 z8 hM1 ha1 hz3
    have hsr := m_res (d := d) (L := L) (G := G) (h := h) hn hK (GF_ag hGF ha1) hbI hM1
    rw [hZ] at hsr
    refine E_fo 3 ?_
    (repeat (first | refine E_st rfl ?_ | refine E_go rfl ?_))
    refine E_ca rfl (by omega) hsr ?_
    rintro r M' ⟨F', rfl, h3, h4⟩
    have hag : ag2 F' F := by
      intro p j hp
      rw [h3 p j (by omega), ha1 p j (by omega)]
      unfold clF
      rw [if_neg (by omega), lv_off (by omega)]
    rcases h4 with ⟨h5, rfl⟩ | ⟨e, h5, rfl, h6, h7⟩
    · show pq_Ev (d + 3) 149 144 _ (.int (-1) :: _) _ _
      (repeat (first | refine E_st rfl ?_ | refine E_go rfl ?_))
      exact E_rt rfl ⟨by unfold trI; rw [h5], F', rfl, hag⟩
    · show pq_Ev (d + 3) 149 144 _ (.int (nI (md K e.1)) :: _) _ _
      have hmd := md_lt hK e.1
      (iterate 2 (first | refine E_st rfl ?_ | refine E_go rfl ?_))
      refine E_nif rfl (nI_pos (by omega)) ?_
      (iterate 3 (first | refine E_st rfl ?_ | refine E_go rfl ?_))
      refine E_ial rfl rfl (n := 32768) hmd (by decide) ?_
      refine E_rt rfl ⟨?_, F', rfl, hag⟩
      have := (h7 0 (Nat.zero_le _)).2
      rw [show bUp Z 0 e.1 = e.1 from rfl] at this
      rw [this]
      unfold trI
      rw [h5]
      rfl
theorem g_best0 {x : Int32} (hx : x < 1 ∨ 3 < x) : pq_Ca (d + 2) 150 [.ref 63, .int x] (pq_Sh L, pn F, pl G, pq_rt h) (fun r M' => r = some (.int (-1)) ∧ M' = (pq_Sh L, pn (F), pl (G), pq_rt h)) := by
  refine Ca_mk rfl rfl ?_
  (repeat (first | refine E_st rfl ?_ | refine E_go rfl ?_))
  refine E_cx rfl (by omega) (g_in0 (d := 0) hx) ?_
  refine E_if rfl rfl ?_
  (repeat (first | refine E_st rfl ?_ | refine E_go rfl ?_))
  exact E_rt rfl ⟨rfl, rfl⟩
theorem tr_pos {Z : BQ} {e : BE} (hf : fE Z = some e) (hd : e.2.2 ≤ 13824) : ¬ trI Z (-1) < 0 := by
  unfold trI
  rw [hf]
  exact nI_pos (by omega)
theorem tr_neg {Z : BQ} (hf : fE Z = none) : trI Z (-1) < 0 := by
  unfold trI
  rw [hf]
  show (-1 : Int32) < 0
  decide
theorem tr_some {Z : BQ} {e : BE} (hf : fE Z = some e) : trI Z (-1) = trI Z (-4) := by
  unfold trI
  rw [hf]
theorem tr_none {Z : BQ} (hf : fE Z = none) (x : Int32) : trI Z x = x := by
  unfold trI
  rw [hf]
/-- depths of the search are small -/
theorem bZ_dep {suc : Nat → List Nat} {Q0 Z : BQ} {S : Nat → Prop} {B : Nat} {e : BE} (hZ : bZ suc Q0 = Z) (hB : ∀ s t, s < B → t ∈ suc s → t < B) (h0 : bI suc S B 0 Q0) (hb : B ≤ 13824) (he : fE Z = some e) : e.2.2 ≤ 13824 := by
  have hI := bI_Q hB h0 13824
  have h1 : e ∈ Z := List.mem_of_find?_eq_some he
  rw [← hZ] at h1
  exact Nat.le_trans (bI_depB hI h1) hb
theorem g_best {Z : BQ} (hZ : bZ (sucM (F 64 0) (fun u => F 64 (5 + u)) K) (bfX N2 0 [] (stMl (F 64 0) K (6 ^ K))) = Z) (hn : F 64 0 ≤ 6) (hgr : ∀ u, u < 6 → F 64 (5 + u) < 64) (hK : K ≤ 3) (h1 : 1 ≤ K) :
    pq_Ca (d + 5) 150 [.ref 63, .int (nI K)] (pq_Sh L, pn F, pl G, pq_rt h) (fun r M' => r = some (.int (trI Z (-4))) ∧ ∃ F' : FF, M' = (pq_Sh L, pn F', pl G, pq_rt h) ∧ ag2 F' F) := by
  have hbI := bS_0 (suc := sucM (F 64 0) (fun u => F 64 (5 + u)) K) (B := 64 * 6 ^ K) (stMl (F 64 0) K (6 ^ K)) (fun s hs => stMl_lt hn s hs)
  have ht := g_turnsOf (d := d) (L := L) (F := F) (G := G) (h := h) hZ hn hgr hK
  refine Ca_mk rfl rfl ?_
  (repeat (first | refine E_st rfl ?_ | refine E_go rfl ?_))
  refine E_cx rfl (by omega) (g_in1 (d := 0) (nI_le (a := 1) h1 (by omega)) (nI_le (b := 3) hK (by decide))) ?_
  refine E_nif rfl (by decide) ?_
  (repeat (first | refine E_st rfl ?_ | refine E_go rfl ?_))
  refine E_ca rfl (by omega) ht ?_
  rintro r M' ⟨rfl, F', rfl, h3⟩
  show pq_Ev (d + 4) 150 16 _ (.int (trI Z (-1)) :: _) _ _
  (iterate 2 (first | refine E_st rfl ?_ | refine E_go rfl ?_))
  cases hf : fE Z with
  | none =>
    refine E_if rfl (tr_neg hf) ?_
    (repeat (first | refine E_st rfl ?_ | refine E_go rfl ?_))
    exact E_rt rfl ⟨by rw [tr_none hf], F', rfl, h3⟩
  | some e =>
    refine E_nif rfl (tr_pos hf (bZ_dep hZ (fun s t _ ht => sucM_lt hn s t ht) hbI (K_le hK) hf)) ?_
    (repeat (first | refine E_st rfl ?_ | refine E_go rfl ?_))
    exact E_rt rfl ⟨by rw [tr_some hf], F', rfl, h3⟩
/-- the least number of searchers, by the three searches -/
def lsI (Z1 Z2 Z3 : BQ) : Int32 := if fE Z1 = none then (if fE Z2 = none then (if fE Z3 = none then -4 else 3) else 2) else 1
theorem g_least {Z1 Z2 Z3 : BQ} (hZ1 : bZ (sucM (F 64 0) (fun u => F 64 (5 + u)) 1) (bfX N2 0 [] (stMl (F 64 0) 1 (6 ^ 1))) = Z1) (hZ2 : bZ (sucM (F 64 0) (fun u => F 64 (5 + u)) 2) (bfX N2 0 [] (stMl (F 64 0) 2 (6 ^ 2))) = Z2) (hZ3 : bZ (sucM (F 64 0) (fun u => F 64 (5 + u)) 3) (bfX N2 0 [] (stMl (F 64 0) 3 (6 ^ 3))) = Z3) (hn : F 64 0 ≤ 6) (hgr : ∀ u, u < 6 → F 64 (5 + u) < 64) :
    pq_Ca (d + 5) 148 [.ref 63] (pq_Sh L, pn F, pl G, pq_rt h) (fun r M' => r = some (.int (lsI Z1 Z2 Z3)) ∧ ∃ F' : FF, M' = (pq_Sh L, pn F', pl G, pq_rt h) ∧ ag2 F' F) := by
  have hbI := fun K => bS_0 (suc := sucM (F 64 0) (fun u => F 64 (5 + u)) K) (B := 64 * 6 ^ K) (stMl (F 64 0) K (6 ^ K)) (fun s hs => stMl_lt hn s hs)
  have hdep : ∀ K Z e, K ≤ 3 → bZ (sucM (F 64 0) (fun u => F 64 (5 + u)) K) (bfX N2 0 [] (stMl (F 64 0) K (6 ^ K))) = Z → fE Z = some e → e.2.2 ≤ 13824 := fun K Z e hK hZ hf => bZ_dep hZ (fun s t _ ht => sucM_lt hn s t ht) (hbI K) (K_le hK) hf
  have ht1 := g_turnsOf (d := d) (L := L) (F := F) (G := G) (h := h) hZ1 hn hgr (by omega)
  refine Ca_mk rfl rfl ?_
  (iterate 2 (first | refine E_st rfl ?_ | refine E_go rfl ?_))
  (repeat (first | refine E_st rfl ?_ | refine E_go rfl ?_))
  refine E_ca rfl (by omega) ht1 ?_
  rintro r M' ⟨rfl, F1, rfl, a1⟩
  show pq_Ev (d + 4) 148 12 _ (.int (trI Z1 (-1)) :: _) _ _
  cases hf1 : fE Z1 with
  | some e =>
    refine E_nif rfl (tr_pos hf1 (hdep 1 Z1 e (by omega) hZ1 hf1)) ?_
    (repeat (first | refine E_st rfl ?_ | refine E_go rfl ?_))
    exact E_rt rfl ⟨by unfold lsI; rw [if_neg (by rw [hf1]; exact fun z => by cases z)]; rfl, F1, rfl, a1⟩
  | none =>
    refine E_if rfl (tr_neg hf1) ?_
    have e1 : F1 64 0 = F 64 0 := a1 _ _ (by omega)
    have e2 : ∀ u, F1 64 (5 + u) = F 64 (5 + u) := fun u => a1 _ _ (by omega)
    have ht2 := g_turnsOf (d := d) (L := L) (F := F1) (G := G) (h := h) (K := 2) (Z := Z2) (by rw [e1, ← hZ2]; simp only [e2]) (by rw [e1]; exact hn) (fun u hu => by rw [e2]; exact hgr u hu) (by omega)
    (iterate 2 (first | refine E_st rfl ?_ | refine E_go rfl ?_))
    rw [show nI 1 + nI 1 = nI 2 by decide]
    (repeat (first | refine E_st rfl ?_ | refine E_go rfl ?_))
    refine E_ca rfl (by omega) ht2 ?_
    rintro r M' ⟨rfl, F2, rfl, a2⟩
    show pq_Ev (d + 4) 148 12 _ (.int (trI Z2 (-1)) :: _) _ _
    have a3 : ag2 F2 F := fun p j hp => by rw [a2 p j hp, a1 p j hp]
    cases hf2 : fE Z2 with
    | some e =>
      refine E_nif rfl (tr_pos hf2 (hdep 2 Z2 e (by omega) hZ2 hf2)) ?_
      (repeat (first | refine E_st rfl ?_ | refine E_go rfl ?_))
      exact E_rt rfl ⟨by unfold lsI; rw [if_pos hf1, if_neg (by rw [hf2]; exact fun z => by cases z)]; rfl, F2, rfl, a3⟩
    | none =>
      refine E_if rfl (tr_neg hf2) ?_
      have e3 : F2 64 0 = F 64 0 := a3 _ _ (by omega)
      have e4 : ∀ u, F2 64 (5 + u) = F 64 (5 + u) := fun u => a3 _ _ (by omega)
      have ht3 := g_turnsOf (d := d) (L := L) (F := F2) (G := G) (h := h) (K := 3) (Z := Z3) (by rw [e3, ← hZ3]; simp only [e4]) (by rw [e3]; exact hn) (fun u hu => by rw [e4]; exact hgr u hu) (by omega)
      (iterate 2 (first | refine E_st rfl ?_ | refine E_go rfl ?_))
      rw [show nI 2 + nI 1 = nI 3 by decide]
      (repeat (first | refine E_st rfl ?_ | refine E_go rfl ?_))
      refine E_ca rfl (by omega) ht3 ?_
      rintro r M' ⟨rfl, F3, rfl, a4⟩
      show pq_Ev (d + 4) 148 12 _ (.int (trI Z3 (-1)) :: _) _ _
      have a5 : ag2 F3 F := fun p j hp => by rw [a4 p j hp, a3 p j hp]
      cases hf3 : fE Z3 with
      | some e =>
        refine E_nif rfl (tr_pos hf3 (hdep 3 Z3 e (by omega) hZ3 hf3)) ?_
        (repeat (first | refine E_st rfl ?_ | refine E_go rfl ?_))
        exact E_rt rfl ⟨by unfold lsI; rw [if_pos hf1, if_pos hf2, if_neg (by rw [hf3]; exact fun z => by cases z)]; rfl, F3, rfl, a5⟩
      | none =>
        refine E_if rfl (tr_neg hf3) ?_
        (iterate 2 (first | refine E_st rfl ?_ | refine E_go rfl ?_))
        rw [show nI 3 + nI 1 = nI 4 by decide]
        (repeat (first | refine E_st rfl ?_ | refine E_go rfl ?_))
        refine E_nif rfl (by decide) ?_
        (repeat (first | refine E_st rfl ?_ | refine E_go rfl ?_))
        exact E_rt rfl ⟨by unfold lsI; rw [if_pos hf1, if_pos hf2, if_pos hf3], F3, rfl, a5⟩
end MOQ
