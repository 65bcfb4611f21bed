/-! a turn on both sides: the equations -/
section OPE
variable {R F G : FF} {w : Nat}
theorem tuB_lo {j : Nat} (hj : j < 23) : tuB R 64 j = flM (tuA R) 64 j := by unfold tuB; exact mr_off (by omega)
theorem tuB_23 : tuB R 64 23 = kp1 (R 64) := by
  unfold tuB kp1
  rw [mr_23, fl_off (by omega), tuA_at (by decide)]
theorem tuB_la : la (tuB R) = 24 + 15 * (kp1 (R 64) - 1) := by unfold la; rw [tuB_23]
theorem tuB_rec {r o : Nat} (h1 : 1 ≤ R 64 23) (h8 : R 64 23 ≤ 8) (hr : r < kp1 (R 64) - 1) (ho : o < 15) : tuB R 64 (24 + 15 * r + o) = R 64 (24 + 15 * (r + sh0 (R 64)) + o) := by
  have e23 : flM (tuA R) 64 23 = R 64 23 := by rw [fl_off (by omega), tuA_at (by decide)]
  have hm : mrM (flM (tuA R)) 64 23 = kp1 (R 64) := tuB_23
  unfold tuB
  rw [mr_rec (by omega) (by rw [hm]; omega) (by rw [e23]; exact h8), e23]
  unfold sh0
  by_cases c : R 64 23 = 8
  · rw [if_pos c, if_pos c, fl_off (by omega), tuA_at (by omega), show 24 + 15 * r + o + 15 = 24 + 15 * (r + 1) + o by omega]
  · rw [if_neg c, if_neg c, fl_off (by omega), tuA_at (by omega), Nat.add_zero]
theorem tuB_69 {v : Nat} (hv : v < 6) : tuB R 69 v = R 64 (5 + v) := by
  unfold tuB
  rw [mr_off (by omega), fl_off (by omega)]
  unfold tuA
  rw [pu_off (by decide), lv69 hv]
theorem tuB_67 {k : Nat} (hk : k < 3) : tuB R 67 k = R 64 (11 + k) := by
  unfold tuB
  rw [mr_off (by omega), fl_off (by omega)]
  unfold tuA
  rw [pu_off (by decide), lv67 hk]
theorem tuB_68 {k : Nat} (hk : k < 3) : tuB R 68 k = R 64 (14 + k) := by
  unfold tuB
  rw [mr_off (by omega), fl_off (by omega)]
  unfold tuA
  rw [pu_off (by decide), lv68 hk]
section
variable {B : FF} {nx : Nat}
theorem w1_in {X : FF} {c o : Nat} (ho : o < 6) : w1M X c 6 64 (c + 2 + o) = X 69 o := by
  simp only [w1M]
  rw [if_pos ⟨trivial, by omega, by omega⟩, show c + 2 + o - (c + 2) = o by omega]
theorem w1_out {X : FF} {c p j : Nat} (h : ¬ (p = 64 ∧ c + 2 ≤ j ∧ j < c + 8)) : w1M X c 6 p j = X p j := by
  simp only [w1M]
  rw [if_neg (by omega)]
theorem w2_out {X : FF} {c p j : Nat} (h : ¬ (p = 64 ∧ c + 9 ≤ j ∧ j < c + 15)) : w2M X c 3 p j = X p j := by
  simp only [w2M]
  rw [if_neg (by omega), if_neg (by omega)]
theorem tuC_out {p j : Nat} (h : ¬ (p = 64 ∧ (j = la B ∨ j = la B + 1))) : tuC B nx p j = B p j := by
  unfold tuC
  rw [pu_at, if_neg (by omega), pu_at, if_neg (by omega)]
theorem tuD_out {p j : Nat} (h : ¬ (p = 64 ∧ la B ≤ j ∧ j < la B + 15)) : tuD B nx p j = B p j := by
  unfold tuD
  rw [w2_out (by omega), pu_at, if_neg (by omega), w1_out (by omega), tuC_out (by omega)]
theorem tuD_0 : tuD B nx 64 (la B) = nx := by
  unfold tuD
  rw [w2_out (by omega), pu_at, if_neg (by omega), w1_out (by omega)]
  unfold tuC
  rw [pu_at, if_neg (by omega), pu_at, if_pos ⟨rfl, rfl⟩]
theorem tuD_1a : tuD B nx 64 (la B + 1) = if B 64 17 = 1 then B 64 18 else N1 := by
  unfold tuD
  rw [w2_out (by omega), pu_at, if_neg (by omega), w1_out (by omega)]
  unfold tuC
  rw [pu_at, if_pos ⟨rfl, rfl⟩]
theorem tuD_2 {v : Nat} (hv : v < 6) : tuD B nx 64 (la B + 2 + v) = B 69 v := by
  unfold tuD
  rw [w2_out (by omega), pu_at, if_neg (by omega), w1_in hv, tuC_out (by omega)]
theorem tuD_8 : tuD B nx 64 (la B + 8) = B 64 1 := by
  unfold tuD
  rw [w2_out (by omega), pu_at, if_pos ⟨rfl, rfl⟩]
theorem tuD_9 {k : Nat} (hk : k < 3) : tuD B nx 64 (la B + 9 + k) = B 67 k := by
  unfold tuD
  simp only [w2M]
  rw [if_pos ⟨trivial, by omega, by omega⟩, show la B + 9 + k - (la B + 9) = k by omega, pu_off (by decide), w1_out (by omega), tuC_out (by omega)]
theorem tuD_12 {k : Nat} (hk : k < 3) : tuD B nx 64 (la B + 12 + k) = B 68 k := by
  unfold tuD
  simp only [w2M]
  rw [if_neg (by omega), if_pos ⟨trivial, by omega, by omega⟩, show la B + 12 + k - (la B + 12) = k by omega, pu_off (by decide), w1_out (by omega), tuC_out (by omega)]
end
theorem tuE_out {p j : Nat} (h3 : R 64 1 ≤ 3) (h : ¬ (p = 64 ∧ 11 ≤ j ∧ j < 11 + R 64 1)) : tuE R p j = tuD (tuB R) (tuN R) p j := by
  unfold tuE
  simp only [w3M]
  rw [if_neg (by omega)]
theorem tuM_out {p j : Nat} (h : ¬ (p = 64 ∧ j = 19)) : tuM R p j = tuE R p j := by
  unfold tuM
  rw [pu_at, if_neg h]
theorem tuM_lo {j : Nat} (h3 : R 64 1 ≤ 3) (hj : j < 23) (h19 : ¬ j = 19) (h11 : ¬ (11 ≤ j ∧ j < 11 + R 64 1)) : tuM R 64 j = flM (tuA R) 64 j := by
  rw [tuM_out (by omega), tuE_out h3 (by omega), tuD_out (by rw [tuB_la]; omega), tuB_lo hj]
theorem tuM_11 {k : Nat} (h3 : R 64 1 ≤ 3) (hk : k < R 64 1) : tuM R 64 (11 + k) = R 64 (14 + k) := by
  rw [tuM_out (by omega)]
  unfold tuE
  simp only [w3M]
  rw [if_pos ⟨trivial, by omega, by omega⟩, show 11 + k + 3 = 14 + k by omega, tuD_out (by rw [tuB_la]; omega), tuB_lo (by omega), fl_off (by omega), tuA_at (by omega)]
theorem tuM_19 (h3 : R 64 1 ≤ 3) : tuM R 64 19 = flM (tuA R) 64 18 := by
  unfold tuM
  rw [pu_at, if_pos ⟨rfl, rfl⟩, tuE_out h3 (by omega), tuD_out (by rw [tuB_la]; omega), tuB_lo (by omega)]
theorem tuM_hi {j : Nat} (h3 : R 64 1 ≤ 3) (hj : 23 ≤ j) : tuM R 64 j = tuD (tuB R) (tuN R) 64 j := by
  rw [tuM_out (by omega), tuE_out h3 (by omega)]
theorem flL_hit : ∀ k, ((∃ k', k' < k ∧ (F 64 (14 + k') = F 64 19 ∨ (¬ F 64 18 = F 64 19 ∧ F 64 (11 + k') = F 64 19 ∧ F 64 (14 + k') = F 64 18))) → flL F k 64 20 = 1 ∧ flL F k 64 21 = F 64 2) ∧ ((¬ ∃ k', k' < k ∧ (F 64 (14 + k') = F 64 19 ∨ (¬ F 64 18 = F 64 19 ∧ F 64 (11 + k') = F 64 19 ∧ F 64 (14 + k') = F 64 18))) → flL F k 64 20 = F 64 20 ∧ flL F k 64 21 = F 64 21) := by
  intro k
  induction k with
  | zero => exact ⟨fun ⟨k', hk, _⟩ => absurd hk (Nat.not_lt_zero _), fun _ => ⟨rfl, rfl⟩⟩
  | succ k ih =>
    unfold flL
    by_cases c : F 64 (14 + k) = F 64 19 ∨ (¬ F 64 18 = F 64 19 ∧ F 64 (11 + k) = F 64 19 ∧ F 64 (14 + k) = F 64 18)
    · rw [if_pos c]
      refine ⟨fun _ => ⟨?_, ?_⟩, fun z => absurd ⟨k, by omega, c⟩ z⟩
      · rw [pu_at, if_neg (by omega), pu_at, if_pos ⟨rfl, rfl⟩]
      · rw [pu_at, if_pos ⟨rfl, rfl⟩]
    · rw [if_neg c]
      refine ⟨fun ⟨k', hk, z⟩ => ih.1 ⟨k', ?_, z⟩, fun z => ih.2 (fun ⟨k', hk, y⟩ => z ⟨k', by omega, y⟩)⟩
      by_cases e : k' = k
      · subst e; exact absurd z c
      · omega
/-- the model's turn, slot by slot -/
theorem tu_eqs (hg : gOk R) : tuM R 64 2 = R 64 2 + 1 ∧ tuM R 64 23 = kp1 (R 64) ∧ (∀ j, j < 11 → ¬ j = 2 → tuM R 64 j = R 64 j) ∧ (∀ k, k < 3 → tuM R 64 (11 + k) = if k < R 64 1 then R 64 (14 + k) else R 64 (11 + k)) ∧ (∀ k, k < 3 → tuM R 64 (14 + k) = R 64 (14 + k)) ∧ (∀ r o, r < kp1 (R 64) - 1 → o < 15 → tuM R 64 (24 + 15 * r + o) = R 64 (24 + 15 * (r + sh0 (R 64)) + o)) ∧ tuM R 64 (24 + 15 * (kp1 (R 64) - 1)) = tuN R ∧ (∀ v, v < 6 → tuM R 64 (24 + 15 * (kp1 (R 64) - 1) + 2 + v) = R 64 (5 + v)) ∧ tuM R 64 (24 + 15 * (kp1 (R 64) - 1) + 8) = R 64 1 ∧ (∀ k, k < 3 → tuM R 64 (24 + 15 * (kp1 (R 64) - 1) + 9 + k) = R 64 (11 + k)) ∧ (∀ k, k < 3 → tuM R 64 (24 + 15 * (kp1 (R 64) - 1) + 12 + k) = R 64 (14 + k)) ∧ tuM R 64 17 = R 64 17 ∧ tuM R 64 22 = R 64 22 ∧ tuM R 64 19 = tuM R 64 18 ∧ (R 64 17 = 1 → tuM R 64 (24 + 15 * (kp1 (R 64) - 1) + 1) = tuM R 64 18) := by
  obtain ⟨g0, g1, g2, g3, g4, g5, g6, g7, g8, g9, g10, g11, g12, g13, g14, g15, g16, g17, g18, g19⟩ := hg
  obtain ⟨k1, k2, k3, k4⟩ := kp_sh (d := R 64) g15 g16
  have hla := tuB_la (R := R)
  have b1 : tuB R 64 1 = R 64 1 := by rw [tuB_lo (by omega), fl_off (by omega), tuA_at (by omega)]
  refine ⟨?_, ?_, fun j h1 h2 => ?_, fun k hk => ?_, fun k hk => ?_, fun r o hr ho => ?_, ?_, fun v hv => ?_, ?_, fun k hk => ?_, fun k hk => ?_, ?_, ?_, ?_, fun z => ?_⟩
  · rw [tuM_lo g2 (by omega) (by omega) (by omega), fl_off (by omega)]; rfl
  · rw [tuM_hi g2 (by omega), tuD_out (by omega), tuB_23]
  · rw [tuM_lo g2 (by omega) (by omega) (by omega), fl_off (by omega), tuA_at h2]
  · by_cases c : k < R 64 1
    · rw [if_pos c, tuM_11 g2 c]
    · rw [if_neg c, tuM_lo g2 (by omega) (by omega) (by omega), fl_off (by omega), tuA_at (by omega)]
  · rw [tuM_lo g2 (by omega) (by omega) (by omega), fl_off (by omega), tuA_at (by omega)]
  · rw [tuM_hi g2 (by omega), tuD_out (by omega), tuB_rec g15 g16 hr ho]
  · rw [tuM_hi g2 (by omega), ← hla, tuD_0]
  · rw [tuM_hi g2 (by omega), ← hla, tuD_2 hv, tuB_69 hv]
  · rw [tuM_hi g2 (by omega), ← hla, tuD_8, b1]
  · rw [tuM_hi g2 (by omega), ← hla, tuD_9 hk, tuB_67 hk]
  · rw [tuM_hi g2 (by omega), ← hla, tuD_12 hk, tuB_68 hk]
  · rw [tuM_lo g2 (by omega) (by omega) (by omega), fl_off (by omega), tuA_at (by omega)]
  · rw [tuM_lo g2 (by omega) (by omega) (by omega), fl_off (by omega), tuA_at (by omega)]
  · rw [tuM_19 g2, tuM_lo g2 (by omega) (by omega) (by omega)]
  · rw [tuM_hi g2 (by omega), ← hla, tuD_1a, tuB_lo (by omega), tuB_lo (by omega), fl_off (show ¬ (64 = 64 ∧ (17 = 18 ∨ 17 = 20 ∨ 17 = 21)) by omega), tuA_at (by omega), if_pos z, tuM_lo g2 (by omega) (by omega) (by omega)]
/-- the model's evader in a turn -/
theorem tu_ev1 (hg : gOk R) (h17 : R 64 17 = 1) (h20 : R 64 20 = 0) : tuM R 64 18 = R 64 19 ∧ (hitM (R 64) → tuM R 64 20 = 1 ∧ tuM R 64 21 = R 64 2 + 1) ∧ (¬ hitM (R 64) → tuM R 64 20 = R 64 20 ∧ tuM R 64 21 = R 64 21) := by
  have g2 := hg.2.2.1
  have e : flM (tuA R) = pq_u (flL (tuA R) (R 64 1)) 64 18 (R 64 19) := by
    unfold flM
    rw [tuA_at (by omega), tuA_at (by omega), tuA_at (by omega), tuA_at (by omega), if_neg (by omega)]
  have hh := flL_hit (F := tuA R) (R 64 1)
  have hm : (∃ k', k' < R 64 1 ∧ (tuA R 64 (14 + k') = tuA R 64 19 ∨ (¬ tuA R 64 18 = tuA R 64 19 ∧ tuA R 64 (11 + k') = tuA R 64 19 ∧ tuA R 64 (14 + k') = tuA R 64 18))) ↔ hitM (R 64) := by
    unfold hitM
    constructor
    · rintro ⟨k, hk, z⟩
      rw [tuA_at (by omega), tuA_at (by omega), tuA_at (by omega), tuA_at (by omega)] at z
      exact ⟨k, hk, z⟩
    · rintro ⟨k, hk, z⟩
      refine ⟨k, hk, ?_⟩
      rw [tuA_at (by omega), tuA_at (by omega), tuA_at (by omega), tuA_at (by omega)]
      exact z
  refine ⟨?_, fun z => ?_, fun z => ?_⟩
  · rw [tuM_lo g2 (by omega) (by omega) (by omega), e, pu_at, if_pos ⟨rfl, rfl⟩]
  · obtain ⟨z1, z2⟩ := hh.1 (hm.mpr z)
    rw [tuM_lo g2 (by omega) (by omega) (by omega), tuM_lo g2 (by omega) (by omega) (by omega), e, pu_at, if_neg (by omega), pu_at, if_neg (by omega), z1, z2]
    exact ⟨rfl, rfl⟩
  · obtain ⟨z1, z2⟩ := hh.2 (fun y => z (hm.mp y))
    rw [tuM_lo g2 (by omega) (by omega) (by omega), tuM_lo g2 (by omega) (by omega) (by omega), e, pu_at, if_neg (by omega), pu_at, if_neg (by omega), z1, z2, tuA_at (by omega), tuA_at (by omega)]
    exact ⟨rfl, rfl⟩
theorem tu_ev0 (hg : gOk R) (hf : R 64 17 = 0 ∨ R 64 20 = 1) : tuM R 64 18 = R 64 18 ∧ tuM R 64 20 = R 64 20 ∧ tuM R 64 21 = R 64 21 := by
  have g2 := hg.2.2.1
  have e : flM (tuA R) = tuA R := by
    unfold flM
    rw [tuA_at (by omega), tuA_at (by omega), if_pos hf]
  rw [tuM_lo g2 (by omega) (by omega) (by omega), tuM_lo g2 (by omega) (by omega) (by omega), tuM_lo g2 (by omega) (by omega) (by omega), e, tuA_at (by omega), tuA_at (by omega), tuA_at (by omega)]
  exact ⟨rfl, rfl, rfl⟩
/-! the class's turn -/
theorem fwF_eq (tp : Nat) : ∀ K, fwF F G tp K = fwG (F 3) (F tp) (G 2 1) K := by
  intro K
  induction K with
  | zero => rfl
  | succ K ih => unfold fwF fwG; rw [ih]
theorem mt_cp {X : FF} {p k : Nat} : pq_cpy X 4 0 3 0 3 p k = if p = 3 ∧ k < 3 then X 4 k else X p k := by
  rw [pcp_at]
  by_cases c : p = 3 ∧ k < 3
  · rw [if_pos ⟨c.1, Nat.zero_le _, by omega⟩, if_pos c, show 0 + (k - 0) = k by omega]
  · rw [if_neg (by omega), if_neg c]
theorem mtE_at {p k : Nat} : mtE F G w p k = if p = 6 ∧ k = (F 5 2 + 1) % 8 then wSpread w (F 6 (F 5 2 % 8)) else if p = 5 ∧ k = 3 then (if 8 < F 5 3 + 1 then 8 else F 5 3 + 1) else if p = 5 ∧ k = 2 then F 5 2 + 1 else if p = 2 ∧ k = 5 then F 2 5 + 1 else F p k := by
  unfold mtE exF
  simp only [pu_at, show pq_u F 2 5 (F 2 5 + 1) 5 2 = F 5 2 from rfl, show pq_u F 2 5 (F 2 5 + 1) 5 3 = F 5 3 from rfl, show ∀ j, pq_u F 2 5 (F 2 5 + 1) 6 j = F 6 j from fun j => pu_off (by decide)]
  rfl
end OPE
