/-! a turn in which all stay is of no use: the cheapest way with and without it -/
def sc3 (n : Nat) (gr : Nat → Nat) (K s : Nat) : List (Nat × Nat) := (sc2 n gr K s).filter (fun x => x.2 != 0)
def sub6 (a b : Nat) : Prop := ∀ v, v < 6 → a.testBit v = true → b.testBit v = true
def djn (n K s : Nat) : Prop := (∀ k, k < K → (s % 64).testBit (sitPos K s k) = false) ∧ ∀ v, (s % 64).testBit v = true → v < n
section THD
variable {n K pa : Nat} {gr : Nat → Nat}
theorem stepG_bit {pos tgt : Nat → Nat} {s v : Nat} (hg : pR n pa gr) (hs : s < 64) : (stepG n gr pos tgt K s).testBit v = true ↔ v < 6 ∧ spB pos tgt pa K s v := stepM_bit hg hs rfl (fun _ _ => rfl) (fun _ _ => rfl) (fun _ _ => rfl)
theorem stepG_mono {pos tgt : Nat → Nat} {a b : Nat} (hg : pR n pa gr) (ha : a < 64) (hb : b < 64) (h : sub6 a b) : sub6 (stepG n gr pos tgt K a) (stepG n gr pos tgt K b) := by
  intro v hv h1
  rw [stepG_bit hg ha] at h1
  rw [stepG_bit hg hb]
  obtain ⟨_, u, hu, h2, h3⟩ := h1
  exact ⟨hv, u, hu, h u hu h2, h3⟩
theorem stepG_stay {pos tgt : Nat → Nat} {s : Nat} (hg : pR n pa gr) (hs : s < 64) (hp : ∀ k, k < K → tgt k = pos k) (hd : ∀ k, k < K → s.testBit (pos k) = false) (hn : ∀ v, s.testBit v = true → v < n) : sub6 s (stepG n gr pos tgt K s) := by
  intro v hv h1
  rw [stepG_bit hg hs]
  refine ⟨hv, v, hv, h1, ?_, fun k hk => ?_⟩
  · rw [hg.2.2.1 v v hv hv]; exact Or.inl ⟨rfl, hn v h1⟩
  · have hne : ¬ v = tgt k := fun z => by
      rw [hp k hk] at z
      have := hd k hk
      rw [← z, h1] at this
      cases this
    exact ⟨hne, fun z => hne z.1⟩
theorem stepG_dj {pos tgt : Nat → Nat} {s : Nat} (hg : pR n pa gr) (hs : s < 64) : (∀ k, k < K → (stepG n gr pos tgt K s).testBit (tgt k) = false) ∧ ∀ v, (stepG n gr pos tgt K s).testBit v = true → v < n := by
  refine ⟨fun k hk => ?_, fun v hv => ?_⟩
  · cases hh : (stepG n gr pos tgt K s).testBit (tgt k) with
    | false => rfl
    | true =>
      rw [stepG_bit hg hs] at hh
      obtain ⟨_, u, _, _, _, h3⟩ := hh
      exact absurd rfl (h3 k hk).1
  · rw [stepG_bit hg hs] at hv
    obtain ⟨hv6, u, hu, _, h2, _⟩ := hv
    rw [hg.2.2.1 u v hu hv6] at h2
    rcases h2 with z | z
    · omega
    · exact (hg.2.2.2.2.2 u v hu z).2
theorem lvN_0 {a b : Nat} : ∀ K, lvN a b K = 0 → ∀ k, k < K → frS a k = frS b k := by
  intro K
  induction K with
  | zero => intro _ k hk; omega
  | succ K ih =>
    intro h k hk
    unfold lvN at h
    split at h
    · rename_i c
      by_cases e : k = K
      · subst e; exact c
      · exact ih h k (by omega)
    · omega
theorem sc3_mem {s t w : Nat} : (t, w) ∈ sc3 n gr K s ↔ (t, w) ∈ sc2 n gr K s ∧ ¬ w = 0 := by
  unfold sc3
  rw [List.mem_filter]
  simp
theorem lvN_congr {a b a' b' : Nat} : ∀ K, (∀ k, k < K → frS a k = frS a' k ∧ frS b k = frS b' k) → lvN a b K = lvN a' b' K := by
  intro K
  induction K with
  | zero => intro _; rfl
  | succ K ih =>
    intro h
    unfold lvN
    rw [ih (fun k hk => h k (by omega)), (h K (by omega)).1, (h K (by omega)).2]
theorem sit_congr {s t k : Nat} (h : s / 64 = t / 64) : sitPos K s k = sitPos K t k := by unfold sitPos; rw [h]
/-- the same move, from a smaller belief -/
theorem sc2_low {x' x y' w : Nat} (hg : pR n pa gr) (hx : (x, w) ∈ sc2 n gr K x') (he : y' / 64 = x' / 64) (hs : sub6 (y' % 64) (x' % 64)) : ∃ y, (y, w) ∈ sc2 n gr K y' ∧ y / 64 = x / 64 ∧ sub6 (y % 64) (x % 64) ∧ djn n K y := by
  obtain ⟨mv, h1, h2, h3⟩ := sc2_mem.mp hx
  have hpos : ∀ k, sitPos K y' k = sitPos K x' k := fun k => sit_congr he
  have hpf : sitPos K y' = sitPos K x' := funext hpos
  have hm1 : x' % 64 < 64 := Nat.mod_lt _ (by decide)
  have hm2 : y' % 64 < 64 := Nat.mod_lt _ (by decide)
  unfold mvS at h2
  split at h2
  · rename_i hc
    cases h2
    have hl1 := stepG_lt (n := n) (gr := gr) (pos := sitPos K x') (tgt := dig K mv) (K := K) (s := x' % 64) hg.1
    have hl2 := stepG_lt (n := n) (gr := gr) (pos := sitPos K y') (tgt := dig K mv) (K := K) (s := y' % 64) hg.1
    have hmv : mvS n gr K y' mv = some (mv * 64 + stepG n gr (sitPos K y') (dig K mv) K (y' % 64)) := by
      unfold mvS
      rw [if_pos (fun k hk => by unfold mvO; rw [hpos k]; exact hc k hk)]
    have hdj := stepG_dj (K := K) (pos := sitPos K y') (tgt := dig K mv) hg hm2
    refine ⟨_, sc2_mem.mpr ⟨mv, h1, hmv, ?_⟩, by omega, ?_, fun k hk => ?_, fun v hv => ?_⟩
    · rw [h3]
      exact lvN_congr K (fun k hk => by
        rw [md_fr hk, md_fr hk, md_fr hk, md_fr hk, hpos k, sit_mv hl1, sit_mv hl2]
        exact ⟨rfl, rfl⟩)
    · rw [show (mv * 64 + stepG n gr (sitPos K y') (dig K mv) K (y' % 64)) % 64 = stepG n gr (sitPos K y') (dig K mv) K (y' % 64) by omega, show (mv * 64 + stepG n gr (sitPos K x') (dig K mv) K (x' % 64)) % 64 = stepG n gr (sitPos K x') (dig K mv) K (x' % 64) by omega, hpf]
      exact stepG_mono hg hm2 hm1 hs
    · rw [sit_mv hl2, show (mv * 64 + stepG n gr (sitPos K y') (dig K mv) K (y' % 64)) % 64 = stepG n gr (sitPos K y') (dig K mv) K (y' % 64) by omega]
      exact hdj.1 k hk
    · rw [show (mv * 64 + stepG n gr (sitPos K y') (dig K mv) K (y' % 64)) % 64 = stepG n gr (sitPos K y') (dig K mv) K (y' % 64) by omega] at hv
      exact hdj.2 v hv
  · cases h2
theorem stay_sim {s0 : Nat} (hg : pR n pa gr) (h0 : s0 < 64 * 6 ^ K) (hd : djn n K s0) : ∀ l c x, rcs (sc2 n gr K) s0 l c x → ∃ y, Rcc (sc3 n gr K) s0 c y ∧ y / 64 = x / 64 ∧ sub6 (y % 64) (x % 64) ∧ djn n K y := by
  intro l
  induction l with
  | zero =>
    intro c x h
    obtain ⟨rfl, rfl⟩ := h
    exact ⟨x, Rcc_0 _ _, rfl, fun v _ z => z, hd⟩
  | succ l ih =>
    intro c x h
    obtain ⟨x', w, h1, h2, h3⟩ := h
    obtain ⟨y', r, e, hs, hdy⟩ := ih _ x' h3
    obtain ⟨y, a1, a2, a3, a4⟩ := sc2_low hg h1 e hs
    by_cases cw : w = 0
    · subst cw
      have hx' := rcs_lt hg.1 h0 l _ x' h3
      obtain ⟨mv, m1, m2, m3⟩ := sc2_mem.mp h1
      have hx := mvS_lt hg.1 m1 m2
      have hfr := lvN_0 K m3.symm
      have hxx : x / 64 = x' / 64 := by
        apply dig_inj K
        · omega
        · omega
        · intro k hk
          have := hfr k hk
          rw [md_fr hk, md_fr hk] at this
          exact this.symm
      obtain ⟨mv2, n1, n2, n3⟩ := sc2_mem.mp a1
      have hfr2 := lvN_0 K n3.symm
      refine ⟨y', by rw [Nat.sub_zero] at r; exact r, by omega, ?_, hdy⟩
      intro v hv hb
      apply a3 v hv
      unfold mvS at n2
      split at n2
      · cases n2
        have hl2 := stepG_lt (n := n) (gr := gr) (pos := sitPos K y') (tgt := dig K mv2) (K := K) (s := y' % 64) hg.1
        rw [show (mv2 * 64 + stepG n gr (sitPos K y') (dig K mv2) K (y' % 64)) % 64 = stepG n gr (sitPos K y') (dig K mv2) K (y' % 64) by omega]
        refine stepG_stay hg (Nat.mod_lt _ (by decide)) (fun k hk => ?_) hdy.1 hdy.2 v hv hb
        have := hfr2 k hk
        rw [md_fr hk, md_fr hk, sit_mv hl2] at this
        exact this.symm
      · cases n2
    · refine ⟨y, ?_, a2, a3, a4⟩
      have := Rcc_s r (sc3_mem.mpr ⟨a1, cw⟩)
      rw [Nat.sub_add_cancel h2] at this
      exact this
theorem rcs_32 {s0 : Nat} : ∀ l c x, rcs (sc3 n gr K) s0 l c x → rcs (sc2 n gr K) s0 l c x := by
  intro l
  induction l with
  | zero => intro c x h; exact h
  | succ l ih =>
    intro c x h
    obtain ⟨x', w, h1, h2, h3⟩ := h
    exact ⟨x', w, (sc3_mem.mp h1).1, h2, ih _ _ h3⟩
theorem min_32 {s0 : Nat} {o : Option Nat} (hg : pR n pa gr) (h0 : s0 < 64 * 6 ^ K) (hd : djn n K s0) (h : isMin (Rcc (sc3 n gr K) s0) o) : isMin (Rcc (sc2 n gr K) s0) o := by
  refine isMin_of ?_ ?_ h
  · rintro c s ⟨l, hl⟩ he
    exact ⟨s, ⟨l, rcs_32 l c s hl⟩, he⟩
  · rintro c s ⟨l, hl⟩ he
    obtain ⟨y, r, e, hs, _⟩ := stay_sim hg h0 hd l c s hl
    refine ⟨y, r, ?_⟩
    apply zb_ext (k := 6) (Nat.mod_lt _ (by decide)) (by decide)
    intro i hi
    rw [Nat.zero_testBit]
    cases hh : (y % 64).testBit i with
    | false => rfl
    | true =>
      have := hs i hi hh
      rw [he, Nat.zero_testBit] at this
      cases this
end THD
