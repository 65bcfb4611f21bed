/-! the cheapest way: what is reached at which price, and what it means to be least -/
def rcs (sc : Nat → List (Nat × Nat)) (s0 : Nat) : Nat → Nat → Nat → Prop
  | 0, c, s => s = s0 ∧ c = 0
  | l + 1, c, s => ∃ s' w, (s, w) ∈ sc s' ∧ w ≤ c ∧ rcs sc s0 l (c - w) s'
def Rcc (sc : Nat → List (Nat × Nat)) (s0 c s : Nat) : Prop := ∃ l, rcs sc s0 l c s
def isMin (R : Nat → Nat → Prop) (o : Option Nat) : Prop := match o with
  | none => ∀ c s, R c s → ¬ s % 64 = 0
  | some c => (∃ s, R c s ∧ s % 64 = 0) ∧ ∀ c' s, R c' s → s % 64 = 0 → c ≤ c'
theorem isMin_u {R : Nat → Nat → Prop} {o o' : Option Nat} (h1 : isMin R o) (h2 : isMin R o') : o = o' := by
  cases o with
  | none =>
    cases o' with
    | none => rfl
    | some c =>
      obtain ⟨⟨s, z1, z2⟩, _⟩ := h2
      exact absurd z2 (h1 c s z1)
  | some c =>
    cases o' with
    | none =>
      obtain ⟨⟨s, z1, z2⟩, _⟩ := h1
      exact absurd z2 (h2 c s z1)
    | some c' =>
      obtain ⟨⟨s, z1, z2⟩, z3⟩ := h1
      obtain ⟨⟨s', y1, y2⟩, y3⟩ := h2
      have a := z3 c' s' y1 y2
      have b := y3 c s z1 z2
      rw [Nat.le_antisymm a b]
theorem isMin_of {R R' : Nat → Nat → Prop} {o : Option Nat} (h12 : ∀ c s, R c s → s % 64 = 0 → ∃ s', R' c s' ∧ s' % 64 = 0) (h21 : ∀ c s, R' c s → s % 64 = 0 → ∃ s', R c s' ∧ s' % 64 = 0) (h1 : isMin R o) : isMin R' o := by
  cases o with
  | none =>
    intro c s z1 z2
    obtain ⟨s', y1, y2⟩ := h21 c s z1 z2
    exact h1 c s' y1 y2
  | some c =>
    obtain ⟨⟨s, z1, z2⟩, z3⟩ := h1
    refine ⟨h12 c s z1 z2, fun c' s' y1 y2 => ?_⟩
    obtain ⟨s2, w1, w2⟩ := h21 c' s' y1 y2
    exact z3 c' s2 w1 w2
theorem Rcc_0 (sc : Nat → List (Nat × Nat)) (s0 : Nat) : Rcc sc s0 0 s0 := ⟨0, rfl, rfl⟩
theorem Rcc_s {sc : Nat → List (Nat × Nat)} {s0 c s t w : Nat} (h : Rcc sc s0 c s) (ht : (t, w) ∈ sc s) : Rcc sc s0 (c + w) t := by
  obtain ⟨l, hl⟩ := h
  exact ⟨l + 1, s, w, ht, by omega, by rw [Nat.add_sub_cancel]; exact hl⟩
/-- counting -/
def cn (P : Nat → Bool) : Nat → Nat
  | 0 => 0
  | x + 1 => cn P x + (if P x = true then 1 else 0)
theorem cn_le {P P' : Nat → Bool} : ∀ N, (∀ x, x < N → P' x = true → P x = true) → cn P' N ≤ cn P N := by
  intro N
  induction N with
  | zero => intro _; exact Nat.le_refl _
  | succ N ih =>
    intro h
    have h1 := ih (fun x hx => h x (by omega))
    unfold cn
    by_cases c : P' N = true
    · rw [if_pos c, if_pos (h N (by omega) c)]; omega
    · rw [if_neg c]; omega
theorem cn_lt {P P' : Nat → Bool} : ∀ N y, y < N → (∀ x, x < N → P' x = true → P x = true) → P y = true → P' y = false → cn P' N < cn P N := by
  intro N
  induction N with
  | zero => intro y hy; omega
  | succ N ih =>
    intro y hy h h1 h2
    unfold cn
    by_cases e : y = N
    · subst e
      have := cn_le (P := P) (P' := P') y (fun x hx => h x (by omega))
      rw [if_pos h1, if_neg (by rw [h2]; decide)]
      omega
    · have := ih y (by omega) (fun x hx => h x (by omega)) h1 h2
      by_cases c : P' N = true
      · rw [if_pos c, if_pos (h N (by omega) c)]; omega
      · rw [if_neg c]; omega
theorem cn_N {P : Nat → Bool} : ∀ N, cn P N ≤ N := by
  intro N
  induction N with
  | zero => exact Nat.le_refl _
  | succ N ih => unfold cn; split <;> omega
