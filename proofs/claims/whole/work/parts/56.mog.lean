/-! the model: plan, planTurns, planOrder -/
def ag2 (F F0 : FF) : Prop := ∀ p j, (p < 67 ∨ 72 < p) → F p j = F0 p j
def nmG (pos : Nat → Nat) : Nat → Nat
  | 0 => 0
  | k + 1 => nmG pos k * 6 + pos k
def trI (Z : BQ) (x : Int32) : Int32 := match fE Z with
  | none => x
  | some e => nI e.2.2
theorem nm_dig {pos : Nat → Nat} : ∀ K, (∀ k, k < K → pos k < 6) → ∀ k, k < K → dig K (nmG pos K) k = pos k := by
  intro K
  induction K with
  | zero => intro _ k hk; omega
  | succ K ih =>
    intro hp k hk
    have hK := hp K (by omega)
    unfold dig nmG
    by_cases c : k = K
    · subst c
      rw [show k + 1 - 1 - k = 0 by omega, Nat.pow_zero, Nat.div_one]
      omega
    · have := ih (fun k hk => hp k (by omega)) k (by omega)
      unfold dig at this
      rw [show K + 1 - 1 - k = (K - 1 - k) + 1 by omega, Nat.pow_succ, Nat.mul_comm (6 ^ (K - 1 - k)) 6, ← Nat.div_div_eq_div_mul, show (nmG pos K * 6 + pos K) / 6 = nmG pos K by omega]
      exact this
theorem nmG_lt {pos : Nat → Nat} : ∀ K, (∀ k, k < K → pos k < 6) → nmG pos K < 6 ^ K := by
  intro K
  induction K with
  | zero => intro _; exact Nat.one_pos
  | succ K ih =>
    intro hp
    have := ih (fun k hk => hp k (by omega))
    have := hp K (by omega)
    unfold nmG
    rw [Nat.pow_succ]; omega
section MOP
variable {d L n K : Nat} {gr : Nat → Nat} {F G : FF} {h : Nat → Nat}
theorem md_of {pos : Nat → Nat} {s0 b : Nat} (h1 : s0 % 64 = b) (h2 : ∀ k, k < K → sitPos K s0 k = pos k) : pkA pos K b = md K s0 := by
  unfold md
  rw [h1]
  exact (pkA_congr K h2).symm
theorem g_plan {s0 : Nat} {Z : BQ} (hZ : bZ (sucM (F 64 0) (fun u => F 64 (5 + u)) K) (bfX N2 0 [] [s0]) = Z) (hg : gOk F) (hK : F 64 1 = K) (hB : s0 < 64 * 6 ^ K) (h1 : s0 % 64 = F 64 (la F)) (h2 : ∀ k, k < K → sitPos K s0 k = F 64 (11 + k)) :
    pq_Ca (d + 4) 138 [.ref 63] (pq_Sh L, pn F, pl G, pq_rt h) (fun r M' => ∃ F' : FF, M' = (pq_Sh L, pn F', pl G, pq_rt h) ∧ ag2 F' F ∧ mRes K F' Z r) := by
  subst hZ
  obtain ⟨g0, g1, g2, g3, g4, g5, g6, g7, g8, g9, g10, g11, g12, g13, g14, g15, g16, g17, g18, g19⟩ := hg
  have hK3 : K ≤ 3 := by omega
  have hmd := md_lt hK3 s0
  have f64 : ∀ j, clF (lvM F 5 11 14 6 3) 70 32768 64 j = F 64 j := fun j => by unfold clF; rw [if_neg (by omega), lv64]
  have hnow := g_now (d := d) (L := L) (F := clF (lvM F 5 11 14 6 3) 70 32768) (G := G) (h := h) (by rw [f64]; exact g2) (by rw [f64]; exact g15) (by rw [f64]; exact g16)
  rw [show la (clF (lvM F 5 11 14 6 3) 70 32768) = la F by unfold la; rw [f64], f64, f64, hK, md_of (K := K) (s0 := s0) (pos := fun k => clF (lvM F 5 11 14 6 3) 70 32768 64 (11 + k)) h1 (fun k hk => by rw [f64]; exact h2 k hk)] at hnow
  have eQ : bfX N2 0 [] [s0] = [(s0, N2, 0)] := rfl
  have hbI := bS_0 (suc := sucM (F 64 0) (fun u => F 64 (5 + u)) K) (B := 64 * 6 ^ K) [s0] (fun s hs => by rw [List.mem_singleton] at hs; rw [hs]; exact hB)
  have hGF : GF (F 64 0) (fun u => F 64 (5 + u)) (pq_u (pq_u (clF (lvM F 5 11 14 6 3) 70 32768) 72 0 (md K s0)) 70 (md K s0) 0) := by
    refine ⟨?_, fun u hu => ⟨?_, ?_, g6 u hu⟩⟩
    · rw [pu_off (by decide), pu_off (by decide), f64]
    · rw [pu_off (by decide), pu_off (by decide), f64]
    · rw [pu_off (by decide), pu_off (by decide)]
      unfold clF
      rw [if_neg (by omega), lv69 hu]
  have hMR : MR K (pq_u (pq_u (clF (lvM F 5 11 14 6 3) 70 32768) 72 0 (md K s0)) 70 (md K s0) 0) (bfX N2 0 [] [s0]) := by
    rw [eQ]
    refine ⟨?_, ?_, ?_⟩
    · intro a e he
      have hl := (List.getElem?_eq_some_iff.mp he).1
      simp only [List.length_singleton] at hl
      have : a = 0 := by omega
      subst this
      simp only [List.getElem?_cons_zero, Option.some.injEq] at he
      rw [pu_off (by decide), pu_at, if_pos ⟨rfl, rfl⟩, ← he]
    · intro e he
      rw [List.mem_singleton] at he
      rw [he]
      exact ⟨by rw [pu_at, if_pos ⟨rfl, rfl⟩], fun z => absurd rfl z⟩
    · intro x hx hne
      have := hne (s0, N2, 0) (by simp)
      rw [pu_at, if_neg (fun z => this z.2.symm), pu_off (by decide)]
      unfold clF
      rw [if_pos ⟨rfl, hx⟩]
  have hsr := m_res (d := d) (L := L) (G := G) (h := h) g1 hK3 hGF hbI hMR
  rw [show (bfX N2 0 [] [s0]).length = 1 from rfl] at hsr
  refine Ca_mk rfl rfl ?_
  (repeat (first | refine E_st rfl ?_ | refine E_go rfl ?_))
  refine E_cx rfl (by omega) (g_clears (d := 0)) ?_
  (repeat (first | refine E_st rfl ?_ | refine E_go rfl ?_))
  refine E_cx rfl (by omega) hnow ?_
  (iterate 1 (first | refine E_st rfl ?_ | refine E_go rfl ?_))
  simp +decide only [nI_clamp, pn_at, pu_n, pu_l]
  (iterate 6 (first | refine E_st rfl ?_ | refine E_go rfl ?_))
  simp +decide only [nI_clamp, pn_at, pu_n, pu_l]
  rw [show pq_u (clF (lvM F 5 11 14 6 3) 70 32768) 72 0 (md K s0) 72 0 = md K s0 from rfl]
  (iterate 1 (first | refine E_st rfl ?_ | refine E_go rfl ?_))
  refine E_ias rfl rfl (n := 32768) hmd (by decide) (by decide) ?_
  (repeat (first | refine E_st rfl ?_ | refine E_go rfl ?_))
  simp +decide only [nI_clamp, pn_at, pu_n, pu_l]
  rw [show pq_u (pq_u (clF (lvM F 5 11 14 6 3) 70 32768) 72 0 (md K s0)) 70 (md K s0) 0 64 1 = F 64 1 by rw [pu_off (by decide), pu_off (by decide), f64], hK]
  refine E_ca rfl (by omega) hsr ?_
  rintro r M' ⟨F', rfl, h3, h4⟩
  have hag : ag2 F' F := by
    intro p j hp
    rw [h3 p j (by omega), pu_off (by omega), pu_off (by omega)]
    unfold clF
    rw [if_neg (by omega), lv_off (by omega)]
  rcases id h4 with ⟨h5, h6⟩ | ⟨e, h5, h6, _⟩
  · subst h6
    exact E_rt rfl ⟨F', rfl, hag, h4⟩
  · subst h6
    exact E_rt rfl ⟨F', rfl, hag, h4⟩
theorem g_planTurns {s0 : Nat} {Z : BQ} (hZ : bZ (sucM (F 64 0) (fun u => F 64 (5 + u)) K) (bfX N2 0 [] [s0]) = Z) (hg : gOk F) (hK : F 64 1 = K) (hB : s0 < 64 * 6 ^ K) (h1 : s0 % 64 = F 64 (la F)) (h2 : ∀ k, k < K → sitPos K s0 k = F 64 (11 + k)) :
    pq_Ca (d + 5) 137 [.ref 63] (pq_Sh L, pn F, pl G, pq_rt h) (fun r M' => r = some (.int (trI Z (-4))) ∧ ∃ F' : FF, M' = (pq_Sh L, pn F', pl G, pq_rt h) ∧ ag2 F' F) := by
  have hp := g_plan (d := d) (L := L) (G := G) (h := h) hZ hg hK hB h1 h2
  have hK3 : K ≤ 3 := by have := hg.2.2.1; omega
  refine Ca_mk rfl rfl ?_
  (repeat (first | refine E_st rfl ?_ | refine E_go rfl ?_))
  refine E_ca rfl (by omega) hp ?_
  rintro r M' ⟨F', rfl, h3, h4⟩
  rcases h4 with ⟨h5, rfl⟩ | ⟨e, h5, rfl, h6, h7⟩
  · show pq_Ev (d + 4) 137 4 _ (.int (-1) :: _) _ _
    (repeat (first | refine E_st rfl ?_ | refine E_go rfl ?_))
    exact E_rt rfl ⟨by unfold trI; rw [h5], F', rfl, h3⟩
  · show pq_Ev (d + 4) 137 4 _ (.int (nI (md K e.1)) :: _) _ _
    have hmd := md_lt hK3 e.1
    (iterate 2 (first | refine E_st rfl ?_ | refine E_go rfl ?_))
    refine E_nif rfl (nI_pos (by omega)) ?_
    (iterate 3 (first | refine E_st rfl ?_ | refine E_go rfl ?_))
    refine E_ial rfl rfl (n := 32768) hmd (by decide) ?_
    refine E_rt rfl ⟨?_, F', rfl, h3⟩
    have := (h7 0 (Nat.zero_le _)).2
    rw [show bUp Z 0 e.1 = e.1 from rfl] at this
    rw [this]
    unfold trI
    rw [h5]
    rfl
theorem l_planOrder {F1 : FF} {t k : Nat} (hk : k < 3) (ht : t < 20000) : ∀ m x, m < 20000 → (∀ i, i ≤ m → mUp F1 i x < 32768 ∧ F1 70 (mUp F1 i x) = t + 1 + m - i) → pq_Ev d 145 36 [some (.ref 63), some (.int (nI t)), some (.int (nI k)), some (.int (nI x))] [] (pq_Sh L, pn F1, pl G, pq_rt h) (fun r M' => r = some (.int (nI (frS (mUp F1 m x) k))) ∧ M' = (pq_Sh L, pn F1, pl G, pq_rt h)) := by
  intro m
  induction m with
  | zero =>
    intro x hm hx
    have h0 := hx 0 (Nat.le_refl _)
    have h1 : x < 32768 := h0.1
    have h2 : F1 70 x = t + 1 := h0.2
    (iterate 3 (first | refine E_st rfl ?_ | refine E_go rfl ?_))
    refine E_ial rfl rfl (n := 32768) h1 (by decide) ?_
    rw [h2]
    (iterate 3 (first | refine E_st rfl ?_ | refine E_go rfl ?_))
    rw [nI_add]
    refine E_nif rfl (nI_nlt (Nat.le_refl _) (by omega)) ?_
    (repeat (first | refine E_st rfl ?_ | refine E_go rfl ?_))
    refine E_rt rfl ⟨?_, rfl⟩
    rw [zi_mul, nI_add, zi_shr (by omega) (by omega), zi_and]
    rfl
  | succ m ih =>
    intro x hm hx
    have h0 := hx 0 (by omega)
    have h1 : x < 32768 := h0.1
    have h2 : F1 70 x = t + 1 + (m + 1) := h0.2
    (iterate 3 (first | refine E_st rfl ?_ | refine E_go rfl ?_))
    refine E_ial rfl rfl (n := 32768) h1 (by decide) ?_
    rw [h2]
    (iterate 3 (first | refine E_st rfl ?_ | refine E_go rfl ?_))
    rw [nI_add]
    refine E_if rfl (nI_lt (by omega) (by omega)) ?_
    (iterate 3 (first | refine E_st rfl ?_ | refine E_go rfl ?_))
    refine E_ial rfl rfl (n := 32768) h1 (by decide) ?_
    (iterate 2 (first | refine E_st rfl ?_ | refine E_go rfl ?_))
    refine ih (F1 71 x) (by omega) (fun i hi => ?_)
    have := hx (i + 1) (by omega)
    refine ⟨this.1, ?_⟩
    rw [show t + 1 + m - i = t + 1 + (m + 1) - (i + 1) by omega]
    exact this.2
theorem g_planOrder0 {x y : Int32} (hg : gOk F) (hx : x < 0 ∨ (¬ x < 0 ∧ (y < 0 ∨ nI (F 64 1) ≤ y))) : pq_Ca (d + 5) 145 [.ref 63, .int x, .int y] (pq_Sh L, pn F, pl G, pq_rt h) (fun r M' => r = some (.int (-1)) ∧ M' = (pq_Sh L, pn (F), pl (G), pq_rt h)) := by
  refine Ca_mk rfl rfl ?_
  (repeat (first | refine E_st rfl ?_ | refine E_go rfl ?_))
  rcases hx with hx | ⟨hx, hy⟩
  · refine E_if rfl hx ?_
    (repeat (first | refine E_st rfl ?_ | refine E_go rfl ?_))
    exact E_rt rfl ⟨rfl, rfl⟩
  · refine E_nif rfl hx ?_
    (repeat (first | refine E_st rfl ?_ | refine E_go rfl ?_))
    refine E_cx rfl (by omega) (g_isSearcher0 (d := 0) hy hg.2.2.1) ?_
    refine E_if rfl rfl ?_
    (repeat (first | refine E_st rfl ?_ | refine E_go rfl ?_))
    exact E_rt rfl ⟨rfl, rfl⟩
/-- what planOrder answers -/
def poI (K : Nat) (Z : BQ) (t k : Nat) : Int32 := match fE Z with
  | none => -4
  | some e => if t < e.2.2 then nI (sitPos K (bUp Z (e.2.2 - (t + 1)) e.1) k) else -4
theorem g_planOrder {s0 t k : Nat} {Z : BQ} (hZ : bZ (sucM (F 64 0) (fun u => F 64 (5 + u)) K) (bfX N2 0 [] [s0]) = Z) (hg : gOk F) (hK : F 64 1 = K) (hB : s0 < 64 * 6 ^ K) (h1 : s0 % 64 = F 64 (la F)) (h2 : ∀ k, k < K → sitPos K s0 k = F 64 (11 + k)) (hk : k < K) (ht : t < 2 ^ 31) :
    pq_Ca (d + 5) 145 [.ref 63, .int (nI t), .int (nI k)] (pq_Sh L, pn F, pl G, pq_rt h) (fun r M' => r = some (.int (poI K Z t k)) ∧ ∃ F' : FF, M' = (pq_Sh L, pn F', pl G, pq_rt h) ∧ ag2 F' F) := by
  have hp := g_plan (d := d) (L := L) (G := G) (h := h) hZ hg hK hB h1 h2
  have hK3 : K ≤ 3 := by have := hg.2.2.1; omega
  refine Ca_mk rfl rfl ?_
  (repeat (first | refine E_st rfl ?_ | refine E_go rfl ?_))
  refine E_nif rfl (nI_pos ht) ?_
  (repeat (first | refine E_st rfl ?_ | refine E_go rfl ?_))
  refine E_cx rfl (by omega) (g_isSearcher (d := 0) (by omega) hg.2.2.1) ?_
  refine E_nif rfl (by decide) ?_
  (repeat (first | refine E_st rfl ?_ | refine E_go rfl ?_))
  refine E_ca rfl (by omega) hp ?_
  rintro r M' ⟨F', rfl, h3, h4⟩
  rcases h4 with ⟨h5, rfl⟩ | ⟨e, h5, rfl, h6, h7⟩
  · show pq_Ev (d + 4) 145 18 _ (.int (-1) :: _) _ _
    (repeat (first | refine E_st rfl ?_ | refine E_go rfl ?_))
    refine E_if rfl (by decide) ?_
    (repeat (first | refine E_st rfl ?_ | refine E_go rfl ?_))
    exact E_rt rfl ⟨by unfold poI; rw [h5], F', rfl, h3⟩
  · show pq_Ev (d + 4) 145 18 _ (.int (nI (md K e.1)) :: _) _ _
    have hmd := md_lt hK3 e.1
    have hb0 : F' 70 (md K e.1) = e.2.2 := (h7 0 (Nat.zero_le _)).2
    (iterate 2 (first | refine E_st rfl ?_ | refine E_go rfl ?_))
    refine E_nif rfl (nI_pos (by omega)) ?_
    (iterate 4 (first | refine E_st rfl ?_ | refine E_go rfl ?_))
    refine E_ial rfl rfl (n := 32768) hmd (by decide) ?_
    rw [hb0]
    by_cases c : t < e.2.2
    · refine E_if rfl (nI_lt c (by omega)) ?_
      have hl := l_planOrder (d := d + 4) (L := L) (G := G) (h := h) (F1 := F') (t := t) (k := k) (by omega) (by omega) (e.2.2 - (t + 1)) (md K e.1) (by omega) (fun i hi => by
        have := h7 i (by omega)
        rw [this.1]
        refine ⟨md_lt hK3 _, ?_⟩
        rw [this.2]; omega)
      refine hl.mono ?_
      rintro r M' ⟨rfl, rfl⟩
      refine ⟨?_, F', rfl, h3⟩
      rw [(h7 (e.2.2 - (t + 1)) (by omega)).1, md_fr hk]
      unfold poI
      rw [h5]
      show _ = some (Value.int (if t < e.2.2 then _ else _))
      rw [if_pos c]
    · refine E_nif rfl (nI_nlt (by omega) ht) ?_
      (repeat (first | refine E_st rfl ?_ | refine E_go rfl ?_))
      refine E_rt rfl ⟨?_, F', rfl, h3⟩
      unfold poI
      rw [h5]
      show _ = some (Value.int (if t < e.2.2 then _ else _))
      rw [if_neg c]
end MOP
