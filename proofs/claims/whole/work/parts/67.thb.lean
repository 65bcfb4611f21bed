/-! the class's orders are the model's moves, in the same order -/
def fwf (pos tgt : Nat → Nat) : Nat → Nat → Nat → Nat
  | 0, _, w => w
  | m + 1, k, w => fwf pos tgt m (k + 1) (an w (wClosed (pos k) (tgt k)))
def cf (pos tgt : Nat → Nat) : Nat → Nat → Nat → Nat
  | 0, _, c => c
  | m + 1, k, c => cf pos tgt m (k + 1) (if tgt k = pos k then c else c + 1)
def cb (pos tgt : Nat → Nat) : Nat → Nat
  | 0 => 0
  | k + 1 => if tgt k = pos k then cb pos tgt k else cb pos tgt k + 1
theorem fwf_eq (pos tgt : Nat → Nat) (w : Nat) : ∀ m k, fwf pos tgt m k (fwG pos tgt w k) = fwG pos tgt w (k + m) := by
  intro m
  induction m with
  | zero => intro k; rfl
  | succ m ih =>
    intro k
    show fwf pos tgt m (k + 1) (fwG pos tgt w (k + 1)) = _
    rw [ih (k + 1), show k + 1 + m = k + (m + 1) by omega]
theorem cf_eq (pos tgt : Nat → Nat) : ∀ m k, cf pos tgt m k (cb pos tgt k) = cb pos tgt (k + m) := by
  intro m
  induction m with
  | zero => intro k; rfl
  | succ m ih =>
    intro k
    show cf pos tgt m (k + 1) (cb pos tgt (k + 1)) = _
    rw [ih (k + 1), show k + 1 + m = k + (m + 1) by omega]
theorem range_mul {α : Type} (f : Nat → Option α) (b : Nat) : ∀ a, (List.range (a * b)).filterMap f = (List.range a).flatMap (fun t => (List.range b).filterMap (fun x => f (t * b + x))) := by
  intro a
  induction a with
  | zero => rw [Nat.zero_mul]; rfl
  | succ a ih =>
    rw [Nat.succ_mul, List.range_add, List.filterMap_append, ih, List.range_succ, List.flatMap_append, List.filterMap_map]
    congr 1
    simp only [List.flatMap_cons, List.flatMap_nil, List.append_nil]
    rfl
theorem range_cut {α : Type} (g : Nat → List α) {n : Nat} (hn : n ≤ 6) (hg : ∀ t, n ≤ t → t < 6 → g t = []) : (List.range 6).flatMap g = (List.range n).flatMap g := by
  have h1 : List.range 6 = List.range n ++ (List.range (6 - n)).map (fun x => n + x) := by
    rw [← List.range_add, show n + (6 - n) = 6 by omega]
  have h2 : ((List.range (6 - n)).map (fun x => n + x)).flatMap g = [] := by
    rw [List.flatMap_eq_nil_iff]
    intro x hx
    rw [List.mem_map] at hx
    obtain ⟨y, hy1, hy⟩ := hx
    have := List.mem_range.mp hy1
    exact hg x (by omega) (by omega)
  rw [h1, List.flatMap_append, h2, List.append_nil]
theorem flat_congr {α : Type} (f g : Nat → List α) : ∀ (l : List Nat), (∀ x, x ∈ l → f x = g x) → l.flatMap f = l.flatMap g := by
  intro l
  induction l with
  | nil => intro _; rfl
  | cons a l ih =>
    intro h
    rw [List.flatMap_cons, List.flatMap_cons, h a List.mem_cons_self, ih (fun x hx => h x (List.mem_cons_of_mem _ hx))]
theorem fm_congr {α : Type} (f g : Nat → Option α) : ∀ (l : List Nat), (∀ x, x ∈ l → f x = g x) → l.filterMap f = l.filterMap g := by
  intro l
  induction l with
  | nil => intro _; rfl
  | cons a l ih =>
    intro h
    rw [List.filterMap_cons, List.filterMap_cons, h a List.mem_cons_self, ih (fun x hx => h x (List.mem_cons_of_mem _ hx))]
theorem fm_none {α : Type} (f : Nat → Option α) (l : List Nat) (h : ∀ x, x ∈ l → f x = none) : l.filterMap f = [] := by
  rw [List.filterMap_eq_nil_iff]; exact h
section THB
variable {n pa K : Nat} {pos : Nat → Nat}
abbrev okO (n pa : Nat) (pos : Nat → Nat) (K y j : Nat) : Prop := dig K y j < n ∧ (wFrom pa (pos j)).testBit (dig K y j) = true
theorem ords_eq (hn : n ≤ 6) : ∀ m k w rc mv, k + m = K → ords n pa pos m k w rc mv = (List.range (6 ^ m)).filterMap (fun x => if ∀ j, j < K → (k ≤ j → okO n pa pos K (rc * 6 ^ m + x) j) then some ((rc * 6 ^ m + x) * 64 + wEnds (fwf pos (dig K (rc * 6 ^ m + x)) m k w), cf pos (dig K (rc * 6 ^ m + x)) m k mv) else none) := by
  intro m
  induction m with
  | zero =>
    intro k w rc mv hk
    unfold ords
    rw [Nat.pow_zero]
    show _ = List.filterMap _ [0]
    rw [List.filterMap_cons, if_pos (fun j h1 h2 => by omega)]
    show _ = [((rc * 1 + 0) * 64 + wEnds w, mv)]
    rw [Nat.mul_one, Nat.add_zero]
  | succ m ih =>
    intro k w rc mv hk
    unfold ords
    rw [show 6 ^ (m + 1) = 6 * 6 ^ m by rw [Nat.pow_succ, Nat.mul_comm], range_mul]
    have hpos : 0 < 6 ^ m := Nat.pow_pos (by decide)
    have hdig : ∀ t x, t < 6 → x < 6 ^ m → dig K (rc * (6 * 6 ^ m) + (t * 6 ^ m + x)) k = t := by
      intro t x ht hx
      unfold dig
      rw [show K - 1 - k = m by omega, show rc * (6 * 6 ^ m) + (t * 6 ^ m + x) = 6 ^ m * (rc * 6 + t) + x by rw [← Nat.mul_assoc, ← Nat.add_assoc, ← Nat.add_mul, Nat.mul_comm], Nat.mul_add_div hpos, Nat.div_eq_of_lt hx]
      omega
    rw [range_cut _ hn]
    · apply flat_congr
      intro t ht
      have ht : t < n := List.mem_range.mp ht
      by_cases c : (wFrom pa (pos k)).testBit t = true
      · rw [if_pos c, ih (k + 1) _ _ _ (by omega)]
        apply fm_congr
        intro x hx
        have hx : x < 6 ^ m := List.mem_range.mp hx
        have hd := hdig t x (by omega) hx
        have ey : (rc * 6 + t) * 6 ^ m + x = rc * (6 * 6 ^ m) + (t * 6 ^ m + x) := by rw [← Nat.mul_assoc, ← Nat.add_assoc, ← Nat.add_mul]
        rw [ey]
        generalize rc * (6 * 6 ^ m) + (t * 6 ^ m + x) = y at hd ⊢
        have e1 : fwf pos (dig K y) (m + 1) k w = fwf pos (dig K y) m (k + 1) (an w (wClosed (pos k) t)) := by
          show fwf pos (dig K y) m (k + 1) (an w (wClosed (pos k) (dig K y k))) = _
          rw [hd]
        have e2 : cf pos (dig K y) (m + 1) k mv = cf pos (dig K y) m (k + 1) (if t = pos k then mv else mv + 1) := by
          show cf pos (dig K y) m (k + 1) (if dig K y k = pos k then mv else mv + 1) = _
          rw [hd]
        rw [e1, e2]
        by_cases c2 : ∀ j, j < K → (k + 1 ≤ j → okO n pa pos K y j)
        · rw [if_pos c2, if_pos (fun j h1 h2 => ?_)]
          by_cases e : j = k
          · subst e
            unfold okO
            rw [hd]; exact ⟨ht, c⟩
          · exact c2 j h1 (by omega)
        · rw [if_neg c2, if_neg (fun z => c2 (fun j h1 h2 => z j h1 (by omega)))]
      · rw [if_neg c]
        symm
        apply fm_none
        intro x hx
        have hx : x < 6 ^ m := List.mem_range.mp hx
        have hd := hdig t x (by omega) hx
        rw [if_neg]
        intro z
        have := (z k (by omega) (Nat.le_refl _)).2
        rw [hd] at this
        exact c this
    · intro t ht c6
      apply fm_none
      intro x hx
      have hx : x < 6 ^ m := List.mem_range.mp hx
      rw [if_neg]
      intro z
      have h1 := (z k (by omega) (Nat.le_refl _)).1
      rw [hdig t x c6 hx] at h1; omega
theorem wFrom_bit {u t : Nat} : (wFrom pa u).testBit t = true ↔ t < 6 ∧ pa.testBit (6 * u + t) = true := by
  unfold wFrom
  rw [Nat.testBit_and, Nat.testBit_shiftRight, z63_bit, Bool.and_eq_true, decide_eq_true_eq, and_comm]
theorem okO_iff {gr : Nat → Nat} {s mv j : Nat} (hg : pR n pa gr) : okO n pa (sitPos K s) K mv j ↔ mvO n gr K s mv j := by
  have hd := dig_lt K mv j
  have hp := sit_lt6 K s j
  unfold okO mvO
  rw [wFrom_bit, hg.2.2.1 _ _ hp hd]
  constructor
  · rintro ⟨h1, h2, h3 | h3⟩
    · exact ⟨h1, Or.inl h3.1⟩
    · exact ⟨h1, Or.inr h3⟩
  · rintro ⟨h1, h2 | h2⟩
    · exact ⟨h1, hd, Or.inl ⟨h2, by omega⟩⟩
    · exact ⟨h1, hd, Or.inr h2⟩
theorem sit_mv {mv b k : Nat} (hb : b < 64) : sitPos K (mv * 64 + b) k = dig K mv k := by
  unfold sitPos dig
  rw [show (mv * 64 + b) / 64 = mv by omega]
theorem cb_lv {s mv b : Nat} (hb : b < 64) : ∀ k, k ≤ K → cb (sitPos K s) (dig K mv) k = lvN (md K s) (md K (mv * 64 + b)) k := by
  intro k
  induction k with
  | zero => intro _; rfl
  | succ k ih =>
    intro hk
    unfold cb lvN
    rw [ih (by omega), md_fr (by omega), md_fr (by omega), sit_mv hb]
    by_cases c : dig K mv k = sitPos K s k
    · rw [if_pos c, if_pos c.symm]
    · rw [if_neg c, if_neg (fun z => c z.symm)]
theorem ords_sc2 {gr : Nat → Nat} (hg : pR n pa gr) (s : Nat) : ords n pa (sitPos K s) K 0 (wOnly pa (s % 64)) 0 0 = sc2 n gr K s := by
  rw [ords_eq (K := K) hg.1 K 0 _ 0 0 (by omega)]
  unfold sc2
  apply fm_congr
  intro mv hmv
  rw [Nat.zero_mul, Nat.zero_add]
  have hp : ∀ k, k < K → sitPos K s k < 6 ∧ dig K mv k < 6 := fun k _ => ⟨sit_lt6 K s k, dig_lt K mv k⟩
  have e1 : wEnds (fwf (sitPos K s) (dig K mv) K 0 (wOnly pa (s % 64))) = stepG n gr (sitPos K s) (dig K mv) K (s % 64) := by
    have := fwf_eq (sitPos K s) (dig K mv) (wOnly pa (s % 64)) K 0
    rw [show fwG (sitPos K s) (dig K mv) (wOnly pa (s % 64)) 0 = wOnly pa (s % 64) from rfl, Nat.zero_add] at this
    rw [this]
    exact ends_stepG hg (Nat.mod_lt _ (by decide)) hp
  have hb := stepG_lt (n := n) (gr := gr) (pos := sitPos K s) (tgt := dig K mv) (K := K) (s := s % 64) hg.1
  have e2 : cf (sitPos K s) (dig K mv) K 0 0 = lvN (md K s) (md K (mv * 64 + stepG n gr (sitPos K s) (dig K mv) K (s % 64))) K := by
    have := cf_eq (sitPos K s) (dig K mv) K 0
    rw [show cb (sitPos K s) (dig K mv) 0 = 0 from rfl, Nat.zero_add] at this
    rw [this]
    exact cb_lv hb K (Nat.le_refl _)
  rw [e1, e2]
  unfold mvS
  by_cases c : ∀ k, k < K → mvO n gr K s mv k
  · rw [if_pos c, if_pos (fun j h1 _ => (okO_iff hg).mpr (c j h1))]
    rfl
  · rw [if_neg c, if_neg (fun z => c (fun j h1 => (okO_iff hg).mp (z j h1 (Nat.zero_le _))))]
    rfl
theorem sucC_eq {gr : Nat → Nat} (hg : pR n pa gr) : sucC n pa K = sucM n gr K := by
  funext s
  unfold sucC
  rw [ords_sc2 hg]
  unfold sc2 sucM
  rw [List.map_filterMap]
  apply fm_congr
  intro mv _
  cases mvS n gr K s mv <;> rfl
end THB
