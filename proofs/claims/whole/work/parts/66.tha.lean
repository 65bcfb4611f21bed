/-! ways as pairs of nodes: what spreads, by both -/
def fwG (pos tgt : Nat → Nat) (w : Nat) : Nat → Nat
  | 0 => w
  | k + 1 => an (fwG pos tgt w k) (wClosed (pos k) (tgt k))
/-- the graph in both forms -/
def pR (n pa : Nat) (gr : Nat → Nat) : Prop := n ≤ 6 ∧ pa < 2 ^ 36 ∧ (∀ u v, u < 6 → v < 6 → (pa.testBit (6 * u + v) = true ↔ ((u = v ∧ u < n) ∨ (gr u).testBit v = true))) ∧ (∀ u, u < 6 → gr u < 64 ∧ (gr u).testBit u = false) ∧ (∀ u v, u < 6 → v < 6 → (gr u).testBit v = (gr v).testBit u) ∧ (∀ u v, u < 6 → (gr u).testBit v = true → u < n ∧ v < n)
theorem wEnds_bit (w v : Nat) : (wEnds w).testBit v = true ↔ v < 6 ∧ ∃ u, u < 6 ∧ w.testBit (6 * u + v) = true := by
  unfold wEnds
  rw [show (63 : Nat) = 2 ^ 6 - 1 from rfl, Nat.testBit_and, Nat.testBit_two_pow_sub_one]
  simp only [Nat.testBit_or, Nat.testBit_shiftRight, Bool.and_eq_true, Bool.or_eq_true, decide_eq_true_eq]
  constructor
  · rintro ⟨h, hv⟩
    refine ⟨hv, ?_⟩
    rcases h with ((h | h) | (h | h)) | (h | h)
    · exact ⟨0, by omega, by rw [show 6 * 0 + v = v by omega]; exact h⟩
    · exact ⟨3, by omega, by rw [show 6 * 3 + v = 18 + v by omega]; exact h⟩
    · exact ⟨1, by omega, by rw [show 6 * 1 + v = 6 + v by omega]; exact h⟩
    · exact ⟨4, by omega, by rw [show 6 * 4 + v = 18 + (6 + v) by omega]; exact h⟩
    · exact ⟨2, by omega, by rw [show 6 * 2 + v = 12 + v by omega]; exact h⟩
    · exact ⟨5, by omega, by rw [show 6 * 5 + v = 18 + (12 + v) by omega]; exact h⟩
  · rintro ⟨hv, u, hu, h⟩
    refine ⟨?_, hv⟩
    rcases (show u = 0 ∨ u = 1 ∨ u = 2 ∨ u = 3 ∨ u = 4 ∨ u = 5 by omega) with rfl | rfl | rfl | rfl | rfl | rfl
    · exact Or.inl (Or.inl (Or.inl (by rw [show 6 * 0 + v = v by omega] at h; exact h)))
    · exact Or.inl (Or.inr (Or.inl (by rw [show 6 * 1 + v = 6 + v by omega] at h; exact h)))
    · exact Or.inr (Or.inl (by rw [show 6 * 2 + v = 12 + v by omega] at h; exact h))
    · exact Or.inl (Or.inl (Or.inr (by rw [show 6 * 3 + v = 18 + v by omega] at h; exact h)))
    · exact Or.inl (Or.inr (Or.inr (by rw [show 6 * 4 + v = 18 + (6 + v) by omega] at h; exact h)))
    · exact Or.inr (Or.inr (by rw [show 6 * 5 + v = 18 + (12 + v) by omega] at h; exact h))
theorem z63_bit (j : Nat) : Nat.testBit 63 j = decide (j < 6) := by
  rw [show (63 : Nat) = 2 ^ 6 - 1 from rfl, Nat.testBit_two_pow_sub_one]
theorem wRows_bit (s : Nat) : ∀ k i, (wRows s k).testBit i = true ↔ i < 6 * k ∧ s.testBit (i / 6) = true := by
  intro k
  induction k with
  | zero => intro i; show (Nat.testBit 0 i = true) ↔ _; rw [Nat.zero_testBit]; constructor
            · intro h; cases h
            · rintro ⟨h, _⟩; omega
  | succ k ih =>
    intro i
    unfold wRows
    by_cases c : s.testBit k = true
    · rw [if_pos c, Nat.testBit_or, Nat.testBit_shiftLeft, z63_bit]
      simp only [Bool.or_eq_true, Bool.and_eq_true, decide_eq_true_eq, ih]
      constructor
      · rintro (⟨h1, h2⟩ | ⟨h1, h2⟩)
        · exact ⟨by omega, h2⟩
        · exact ⟨by omega, by rw [show i / 6 = k by omega]; exact c⟩
      · rintro ⟨h1, h2⟩
        by_cases c2 : i < 6 * k
        · exact Or.inl ⟨c2, h2⟩
        · exact Or.inr ⟨by omega, by omega⟩
    · rw [if_neg c, ih]
      constructor
      · rintro ⟨h1, h2⟩; exact ⟨by omega, h2⟩
      · rintro ⟨h1, h2⟩
        refine ⟨?_, h2⟩
        by_cases c2 : i < 6 * k
        · exact c2
        · rw [show i / 6 = k by omega] at h2; exact absurd h2 c
theorem wOnly_bit {w s u v : Nat} (hu : u < 6) (hv : v < 6) : (wOnly w s).testBit (6 * u + v) = true ↔ w.testBit (6 * u + v) = true ∧ s.testBit u = true := by
  unfold wOnly
  rw [Nat.testBit_and, Bool.and_eq_true, wRows_bit, show (6 * u + v) / 6 = u by omega]
  constructor
  · rintro ⟨h1, h2, h3⟩; exact ⟨h1, h3⟩
  · rintro ⟨h1, h2⟩; exact ⟨h1, by omega, h2⟩
theorem all0_bit : ∀ u, u < 6 → ∀ v, v < 6 → ∀ t, t < 6 → (1090785345 <<< t).testBit (6 * u + v) = decide (v = t) := by decide
theorem wClosed_bit {f t u v : Nat} (hf : f < 6) (ht : t < 6) (hu : u < 6) (hv : v < 6) : (wClosed f t).testBit (6 * u + v) = true ↔ v = t ∨ (u = t ∧ v = f) := by
  unfold wClosed
  rw [Nat.testBit_or, all0_bit u hu v hv t ht, wy_bit]
  simp only [Bool.or_eq_true, decide_eq_true_eq]
  constructor
  · rintro (h | h)
    · exact Or.inl h
    · exact Or.inr (by omega)
  · rintro (h | h)
    · exact Or.inl h
    · exact Or.inr (by omega)
theorem fwG_bit {pos tgt : Nat → Nat} {w u v : Nat} (hu : u < 6) (hv : v < 6) : ∀ K, (∀ k, k < K → pos k < 6 ∧ tgt k < 6) → ((fwG pos tgt w K).testBit (6 * u + v) = true ↔ w.testBit (6 * u + v) = true ∧ ∀ k, k < K → ¬ v = tgt k ∧ ¬ (u = tgt k ∧ v = pos k)) := by
  intro K
  induction K with
  | zero => intro _; exact ⟨fun h => ⟨h, fun k hk => absurd hk (Nat.not_lt_zero _)⟩, fun h => h.1⟩
  | succ K ih =>
    intro hp
    have ih2 := ih (fun k hk => hp k (by omega))
    obtain ⟨p1, p2⟩ := hp K (by omega)
    unfold fwG
    rw [an_bit, Bool.and_eq_true, ih2, Bool.not_eq_true']
    have hc := wClosed_bit p1 p2 hu hv
    constructor
    · rintro ⟨⟨h1, h2⟩, h3⟩
      have h4 : ¬ (v = tgt K ∨ (u = tgt K ∧ v = pos K)) := fun z => by rw [hc.mpr z] at h3; cases h3
      refine ⟨h1, fun k hk => ?_⟩
      by_cases e : k = K
      · subst e; exact ⟨fun z => h4 (Or.inl z), fun z => h4 (Or.inr z)⟩
      · exact h2 k (by omega)
    · rintro ⟨h1, h2⟩
      refine ⟨⟨h1, fun k hk => h2 k (by omega)⟩, ?_⟩
      have := h2 K (by omega)
      cases hh : (wClosed (pos K) (tgt K)).testBit (6 * u + v) with
      | false => rfl
      | true =>
        rcases hc.mp hh with z | z
        · exact absurd z this.1
        · exact absurd z this.2
/-- who can come to v -/
def spB (pos tgt : Nat → Nat) (pa K s v : Nat) : Prop := ∃ u, u < 6 ∧ s.testBit u = true ∧ pa.testBit (6 * u + v) = true ∧ ∀ k, k < K → ¬ v = tgt k ∧ ¬ (u = tgt k ∧ v = pos k)
theorem spread_bit {pos tgt : Nat → Nat} {pa K s v : Nat} (hp : ∀ k, k < K → pos k < 6 ∧ tgt k < 6) : (wSpread (fwG pos tgt pa K) s).testBit v = true ↔ v < 6 ∧ spB pos tgt pa K s v := by
  unfold wSpread spB
  rw [wEnds_bit]
  constructor
  · rintro ⟨hv, u, hu, h⟩
    rw [wOnly_bit hu hv, fwG_bit hu hv K hp] at h
    exact ⟨hv, u, hu, h.2, h.1.1, h.1.2⟩
  · rintro ⟨hv, u, hu, h1, h2, h3⟩
    refine ⟨hv, u, hu, ?_⟩
    rw [wOnly_bit hu hv, fwG_bit hu hv K hp]
    exact ⟨⟨h2, h3⟩, h1⟩
theorem ends_bit {pos tgt : Nat → Nat} {pa K s v : Nat} (hp : ∀ k, k < K → pos k < 6 ∧ tgt k < 6) : (wEnds (fwG pos tgt (wOnly pa s) K)).testBit v = true ↔ v < 6 ∧ spB pos tgt pa K s v := by
  unfold spB
  rw [wEnds_bit]
  constructor
  · rintro ⟨hv, u, hu, h⟩
    rw [fwG_bit hu hv K hp, wOnly_bit hu hv] at h
    exact ⟨hv, u, hu, h.1.2, h.1.1, h.2⟩
  · rintro ⟨hv, u, hu, h1, h2, h3⟩
    refine ⟨hv, u, hu, ?_⟩
    rw [fwG_bit hu hv K hp, wOnly_bit hu hv]
    exact ⟨⟨h2, h1⟩, h3⟩
theorem fxM_iff {F : FF} {v : Nat} : ∀ K, ¬ fxM F v K = 0 ↔ ∀ k, k < K → ¬ F 68 k = v := by
  intro K
  induction K with
  | zero => exact ⟨fun _ k hk => absurd hk (Nat.not_lt_zero _), fun _ => (show ¬ (1 : Nat) = 0 by decide)⟩
  | succ K ih =>
    unfold fxM
    by_cases c : fxM F v K = 0 ∨ F 68 K = v
    · rw [if_pos c]
      refine ⟨fun h => absurd rfl h, fun h => ?_⟩
      rcases c with c | c
      · exact absurd c (ih.mpr (fun k hk => h k (by omega)))
      · exact absurd c (h K (by omega))
    · rw [if_neg c]
      refine ⟨fun _ k hk => ?_, fun _ => by decide⟩
      by_cases e : k = K
      · subst e; exact fun z => c (Or.inr z)
      · exact ih.mp (fun z => c (Or.inl z)) k (by omega)
theorem byM_bit {F : FF} {s v u : Nat} : ∀ K, (byM F s v K).testBit u = true ↔ (s.testBit u = true ∧ ((F 69 v).testBit u = true ∨ u = v)) ∧ ∀ k, k < K → F 67 k = v → ¬ F 68 k = v → ¬ u = F 68 k := by
  intro K
  induction K with
  | zero =>
    unfold byM
    rw [Nat.testBit_and, Nat.testBit_or, zb_one]
    simp only [Bool.and_eq_true, Bool.or_eq_true, decide_eq_true_eq]
    constructor
    · rintro ⟨h1, h2⟩
      exact ⟨⟨h1, h2.imp id Eq.symm⟩, fun k hk => absurd hk (Nat.not_lt_zero _)⟩
    · rintro ⟨⟨h1, h2⟩, _⟩
      exact ⟨h1, h2.imp id Eq.symm⟩
  | succ K ih =>
    unfold byM
    by_cases c : F 67 K = v ∧ ¬ F 68 K = v
    · rw [if_pos c, an_bit, zb_one, Bool.and_eq_true, ih]
      simp only [Bool.not_eq_true', decide_eq_false_iff_not]
      constructor
      · rintro ⟨⟨h1, h2⟩, h3⟩
        refine ⟨h1, fun k hk => ?_⟩
        by_cases e : k = K
        · subst e; exact fun _ _ z => h3 z.symm
        · exact h2 k (by omega)
      · rintro ⟨h1, h2⟩
        exact ⟨⟨h1, fun k hk => h2 k (by omega)⟩, fun z => h2 K (by omega) c.1 c.2 z.symm⟩
    · rw [if_neg c, ih]
      constructor
      · rintro ⟨h1, h2⟩
        refine ⟨h1, fun k hk => ?_⟩
        by_cases e : k = K
        · subst e; exact fun z1 z2 => absurd ⟨z1, z2⟩ c
        · exact h2 k (by omega)
      · rintro ⟨h1, h2⟩
        exact ⟨h1, fun k hk => h2 k (by omega)⟩
theorem ne0_bit {x : Nat} (hx : x < 64) : ¬ x = 0 ↔ ∃ u, u < 6 ∧ x.testBit u = true := by
  constructor
  · intro h
    by_cases c : ∃ u, u < 6 ∧ x.testBit u = true
    · exact c
    · exfalso
      apply h
      apply zb_ext (k := 6) hx (by decide)
      intro i hi
      rw [Nat.zero_testBit]
      cases hh : x.testBit i with
      | false => rfl
      | true => exact absurd ⟨i, hi, hh⟩ c
  · rintro ⟨u, _, h⟩ z
    rw [z, Nat.zero_testBit] at h
    cases h
theorem spM_bit {F : FF} {K s v : Nat} (hs : s < 64) : ∀ N, (spM F K s N).testBit v = true ↔ v < N ∧ (∀ k, k < K → ¬ F 68 k = v) ∧ ∃ u, u < 6 ∧ (byM F s v K).testBit u = true := by
  intro N
  induction N with
  | zero => show (Nat.testBit 0 v = true) ↔ _; rw [Nat.zero_testBit]; constructor
            · intro h; cases h
            · rintro ⟨h, _⟩; omega
  | succ N ih =>
    have hN := ne0_bit (byM_lt (F := F) (v := N) hs K)
    unfold spM
    by_cases c : fxM F N K = 0 ∨ byM F s N K = 0
    · rw [if_pos c, ih]
      constructor
      · rintro ⟨h1, h2⟩; exact ⟨by omega, h2⟩
      · rintro ⟨h1, h2, h3⟩
        refine ⟨?_, h2, h3⟩
        by_cases e : v = N
        · subst e
          rcases c with c | c
          · exact absurd c ((fxM_iff K).mpr h2)
          · exact absurd c (hN.mpr h3)
        · omega
    · rw [if_neg c, Nat.testBit_or, zb_one, Bool.or_eq_true, ih, decide_eq_true_eq]
      have c1 : ¬ fxM F N K = 0 := fun z => c (Or.inl z)
      have c2 : ¬ byM F s N K = 0 := fun z => c (Or.inr z)
      constructor
      · rintro (⟨h1, h2⟩ | h)
        · exact ⟨by omega, h2⟩
        · subst h; exact ⟨by omega, (fxM_iff K).mp c1, hN.mp c2⟩
      · rintro ⟨h1, h2⟩
        by_cases e : v = N
        · exact Or.inr e.symm
        · exact Or.inl ⟨by omega, h2⟩
theorem stepM_bit {F : FF} {n pa K s v : Nat} {gr pos tgt : Nat → Nat} (hg : pR n pa gr) (hs : s < 64) (h0 : F 64 0 = n) (h69 : ∀ v, v < 6 → F 69 v = gr v) (h67 : ∀ k, k < K → F 67 k = pos k) (h68 : ∀ k, k < K → F 68 k = tgt k) : (stepM F K s).testBit v = true ↔ v < 6 ∧ spB pos tgt pa K s v := by
  obtain ⟨g1, g2, g3, g4, g5, g6⟩ := hg
  unfold stepM spB
  rw [h0, spM_bit hs]
  constructor
  · rintro ⟨hv, h1, u, hu, h2⟩
    have hv6 : v < 6 := by omega
    rw [byM_bit, h69 v hv6] at h2
    refine ⟨hv6, u, hu, h2.1.1, ?_, fun k hk => ?_⟩
    · rw [g3 u v hu hv6]
      rcases h2.1.2 with z | z
      · exact Or.inr (by rw [g5 u v hu hv6]; exact z)
      · exact Or.inl ⟨z, by omega⟩
    · have a1 := h1 k hk
      rw [h68 k hk] at a1
      refine ⟨fun z => a1 z.symm, fun z => ?_⟩
      have := h2.2 k hk (by rw [h67 k hk]; exact z.2.symm) (by rw [h68 k hk]; exact a1)
      rw [h68 k hk] at this
      exact this z.1
  · rintro ⟨hv6, u, hu, h1, h2, h3⟩
    rw [g3 u v hu hv6] at h2
    have hvn : v < n := by
      rcases h2 with z | z
      · omega
      · exact (g6 u v hu z).2
    refine ⟨hvn, fun k hk => ?_, u, hu, ?_⟩
    · rw [h68 k hk]; exact fun z => (h3 k hk).1 z.symm
    · rw [byM_bit, h69 v hv6]
      refine ⟨⟨h1, ?_⟩, fun k hk z1 z2 z3 => ?_⟩
      · rcases h2 with z | z
        · exact Or.inr z.1
        · exact Or.inl (by rw [g5 v u hv6 hu]; exact z)
      · rw [h67 k hk] at z1
        rw [h68 k hk] at z3
        exact (h3 k hk).2 ⟨z3, z1.symm⟩
theorem bit_ext {a b : Nat} (h : ∀ i, a.testBit i = true ↔ b.testBit i = true) : a = b := by
  apply Nat.eq_of_testBit_eq
  intro i
  cases ha : a.testBit i with
  | true => exact ((h i).mp ha).symm
  | false =>
    cases hb : b.testBit i with
    | false => rfl
    | true => rw [(h i).mpr hb] at ha; cases ha
theorem spread_step {F : FF} {n pa K s : Nat} {gr pos tgt : Nat → Nat} (hg : pR n pa gr) (hs : s < 64) (h0 : F 64 0 = n) (h69 : ∀ v, v < 6 → F 69 v = gr v) (h67 : ∀ k, k < K → F 67 k = pos k) (h68 : ∀ k, k < K → F 68 k = tgt k) (hp : ∀ k, k < K → pos k < 6 ∧ tgt k < 6) : wSpread (fwG pos tgt pa K) s = stepM F K s :=
  bit_ext (fun i => by rw [spread_bit hp, stepM_bit hg hs h0 h69 h67 h68])
theorem ends_step {F : FF} {n pa K s : Nat} {gr pos tgt : Nat → Nat} (hg : pR n pa gr) (hs : s < 64) (h0 : F 64 0 = n) (h69 : ∀ v, v < 6 → F 69 v = gr v) (h67 : ∀ k, k < K → F 67 k = pos k) (h68 : ∀ k, k < K → F 68 k = tgt k) (hp : ∀ k, k < K → pos k < 6 ∧ tgt k < 6) : wEnds (fwG pos tgt (wOnly pa s) K) = stepM F K s :=
  bit_ext (fun i => by rw [ends_bit hp, stepM_bit hg hs h0 h69 h67 h68])
theorem ends_stepG {n pa K s : Nat} {gr pos tgt : Nat → Nat} (hg : pR n pa gr) (hs : s < 64) (hp : ∀ k, k < K → pos k < 6 ∧ tgt k < 6) : wEnds (fwG pos tgt (wOnly pa s) K) = stepG n gr pos tgt K s :=
  ends_step hg hs rfl (fun _ _ => rfl) (fun _ _ => rfl) (fun _ _ => rfl) hp
