/-! settles -/
def c6 (x : Nat) : Nat := cn (fun v => x.testBit v) 6
theorem c6_lt {a b : Nat} (ha : a < 64) (hb : b < 64) (h : sub6 a b) (hne : ¬ a = b) : c6 a < c6 b := by
  by_cases c : ∃ v, v < 6 ∧ b.testBit v = true ∧ a.testBit v = false
  · obtain ⟨v, h1, h2, h3⟩ := c
    exact cn_lt 6 v h1 (fun x hx z => h x hx z) h2 h3
  · exfalso
    apply hne
    apply zb_ext (k := 6) ha hb
    intro i hi
    cases h1 : a.testBit i with
    | true => exact (h i hi h1).symm
    | false =>
      cases h2 : b.testBit i with
      | false => rfl
      | true => exact absurd ⟨i, hi, h2, h1⟩ c
theorem settle_ex {T : Nat → Nat} {P : Nat → Prop} (hT : ∀ s, P s → s < 64 → T s < 64 ∧ P (T s) ∧ sub6 s (T s)) : ∀ f s, P s → s < 64 → 6 - c6 s ≤ f → ∃ m, m ≤ f ∧ (∀ i, i < m → ¬ itN T (i + 1) s = itN T i s) ∧ itN T (m + 1) s = itN T m s := by
  intro f
  induction f with
  | zero =>
    intro s hp hs hf
    obtain ⟨t1, t2, t3⟩ := hT s hp hs
    refine ⟨0, Nat.le_refl _, fun i hi => absurd hi (Nat.not_lt_zero _), ?_⟩
    show T s = s
    by_cases e : s = T s
    · exact e.symm
    · have := c6_lt hs t1 t3 e
      have := cn_N (P := fun v => (T s).testBit v) 6
      unfold c6 at *
      omega
  | succ f ih =>
    intro s hp hs hf
    obtain ⟨t1, t2, t3⟩ := hT s hp hs
    by_cases e : T s = s
    · exact ⟨0, Nat.zero_le _, fun i hi => absurd hi (Nat.not_lt_zero _), e⟩
    · have := c6_lt hs t1 t3 (fun z => e z.symm)
      obtain ⟨m, m1, m2, m3⟩ := ih (T s) t2 t1 (by omega)
      refine ⟨m + 1, by omega, fun i hi => ?_, m3⟩
      cases i with
      | zero => exact e
      | succ i => exact m2 i (by omega)
theorem stl_it {T : Nat → Nat} {P : Nat → Prop} {w : Nat} (hT : ∀ s, P s → s < 64 → T s < 64 ∧ P (T s) ∧ sub6 s (T s)) (hw : ∀ s, s < 64 → wSpread w s = T s) : ∀ f s k m, k + f = 6 → P s → s < 64 → m ≤ f → (∀ i, i < m → ¬ itN T (i + 1) s = itN T i s) → itN T (m + 1) s = itN T m s → stl w f s k = k + m := by
  intro f
  induction f with
  | zero =>
    intro s k m hk hp hs hm h1 h2
    show 6 = k + m
    omega
  | succ f ih =>
    intro s k m hk hp hs hm h1 h2
    obtain ⟨t1, t2, t3⟩ := hT s hp hs
    unfold stl
    rw [hw s hs]
    cases m with
    | zero =>
      rw [if_pos (show T s = s from h2)]
      rfl
    | succ m =>
      rw [if_neg (show ¬ T s = s from h1 0 (by omega)), ih (T s) (k + 1) m (by omega) t2 t1 (by omega) (fun i hi => h1 (i + 1) (by omega)) h2]
      omega
section THF
variable {n K pa : Nat} {gr pos : Nat → Nat} {F : FF}
theorem stay_T (hg : pR n pa gr) (h0 : F 64 0 = n) (h69 : ∀ v, v < 6 → F 69 v = gr v) (h67 : ∀ k, k < K → F 67 k = pos k) (h68 : ∀ k, k < K → F 68 k = pos k) : ∀ s, ((∀ k, k < K → s.testBit (pos k) = false) ∧ ∀ v, s.testBit v = true → v < n) → s < 64 → stepM F K s < 64 ∧ ((∀ k, k < K → (stepM F K s).testBit (pos k) = false) ∧ ∀ v, (stepM F K s).testBit v = true → v < n) ∧ sub6 s (stepM F K s) := by
  intro s hp hs
  have e : stepM F K s = stepG n gr pos pos K s := by
    unfold stepG
    exact stepM_congr h0 (by rw [h0]; exact hg.1) h69 h67 h68
  rw [e]
  exact ⟨stepG_lt hg.1, stepG_dj hg hs, stepG_stay hg hs (fun _ _ => rfl) hp.1 hp.2⟩
/-- settles of both: the same number -/
theorem settles_eq (hg : pR n pa gr) (h0 : F 64 0 = n) (h69 : ∀ v, v < 6 → F 69 v = gr v) (h67 : ∀ k, k < K → F 67 k = pos k) (h68 : ∀ k, k < K → F 68 k = pos k) (hp : ∀ k, k < K → pos k < 6) {s : Nat} (hs : s < 64) (hd : ∀ k, k < K → s.testBit (pos k) = false) (hn : ∀ v, s.testBit v = true → v < n) : ∃ m, m ≤ 6 ∧ stl (fwG pos pos pa K) 6 s 0 = m ∧ (∀ i, i < m → ¬ itN (stepM F K) (i + 1) s = itN (stepM F K) i s) ∧ itN (stepM F K) (m + 1) s = itN (stepM F K) m s := by
  have hT := stay_T hg h0 h69 h67 h68
  obtain ⟨m, m1, m2, m3⟩ := settle_ex hT 6 s ⟨hd, hn⟩ hs (by omega)
  refine ⟨m, m1, ?_, m2, m3⟩
  have := stl_it hT (fun s hs => spread_step hg hs h0 h69 h67 h68 (fun k hk => ⟨hp k hk, hp k hk⟩)) 6 s 0 m rfl ⟨hd, hn⟩ hs m1 m2 m3
  rw [this]; omega
end THF
