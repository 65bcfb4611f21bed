/-! breadth-first search, over lists of (situation, situation before, depth) -/
abbrev BE : Type := Nat × Nat × Nat
abbrev BQ : Type := List BE
def bHas (Q : BQ) (s : Nat) : Bool := Q.any (fun e => e.1 == s)
def bfE (p k : Nat) (Q : BQ) (s : Nat) : BQ := if bHas Q s = true then Q else Q ++ [(s, p, k)]
def bfX (p k : Nat) (Q : BQ) (l : List Nat) : BQ := l.foldl (bfE p k) Q
def bfQ (suc : Nat → List Nat) (Q0 : BQ) : Nat → BQ
  | 0 => Q0
  | i + 1 => match (bfQ suc Q0 i)[i]? with
    | some e => bfX e.1 (e.2.2 + 1) (bfQ suc Q0 i) (suc e.1)
    | none => bfQ suc Q0 i
def rch (suc : Nat → List Nat) (S : Nat → Prop) : Nat → Nat → Prop
  | 0, s => S s
  | k + 1, s => ∃ s', rch suc S k s' ∧ s ∈ suc s'
def bI (suc : Nat → List Nat) (S : Nat → Prop) (B i : Nat) (Q : BQ) : Prop :=
  (Q.map (fun e => e.1)).Nodup ∧ (∀ e : BE, e ∈ Q → e.1 < B) ∧
  (∀ (a : Nat) (e : BE), Q[a]? = some e → (e.2.2 = 0 ∧ e.2.1 = N2) ∨ ∃ (b : Nat) (e' : BE), b < a ∧ Q[b]? = some e' ∧ e'.1 = e.2.1 ∧ e.2.2 = e'.2.2 + 1) ∧
  (∀ (a b : Nat) (e e' : BE), a ≤ b → Q[a]? = some e → Q[b]? = some e' → e.2.2 ≤ e'.2.2) ∧
  (∀ e : BE, e ∈ Q → rch suc S e.2.2 e.1) ∧
  (∀ s, S s → ∃ e : BE, e ∈ Q ∧ e.1 = s ∧ e.2.2 = 0) ∧
  (∀ (a : Nat) (e : BE) (s : Nat), a < i → Q[a]? = some e → s ∈ suc e.1 → ∃ e' : BE, e' ∈ Q ∧ e'.1 = s ∧ e'.2.2 ≤ e.2.2 + 1) ∧
  (∀ e e' : BE, Q[i]? = some e → e' ∈ Q → e'.2.2 ≤ e.2.2 + 1)
theorem bHas_iff {Q : BQ} {s : Nat} : bHas Q s = true ↔ ∃ e, e ∈ Q ∧ e.1 = s := by
  unfold bHas
  rw [List.any_eq_true]
  constructor
  · rintro ⟨e, h1, h2⟩; exact ⟨e, h1, by simpa using h2⟩
  · rintro ⟨e, h1, h2⟩; exact ⟨e, h1, by simpa using h2⟩
theorem ap_l {Q R : BQ} {b : Nat} {e : BE} (h : Q[b]? = some e) : (Q ++ R)[b]? = some e := by
  have hl : b < Q.length := (List.getElem?_eq_some_iff.mp h).1
  rw [List.getElem?_append_left hl]; exact h
theorem ap_1 {Q : BQ} {x : BE} {a : Nat} {e : BE} (h : (Q ++ [x])[a]? = some e) : Q[a]? = some e ∨ (a = Q.length ∧ e = x) := by
  rw [List.getElem?_append] at h
  split at h
  · exact Or.inl h
  · rename_i hn
    have h2 := (List.getElem?_eq_some_iff.mp h).1
    simp only [List.length_singleton] at h2
    have h3 : a - Q.length = 0 := by omega
    rw [h3] at h
    simp only [List.getElem?_cons_zero, Option.some.injEq] at h
    exact Or.inr ⟨by omega, h.symm⟩
theorem bI_E {suc : Nat → List Nat} {S : Nat → Prop} {B i s : Nat} {Q : BQ} {e : BE} (hI : bI suc S B i Q) (he : Q[i]? = some e) (hs : s ∈ suc e.1) (hB : s < B) : bI suc S B i (bfE e.1 (e.2.2 + 1) Q s) ∧ (bfE e.1 (e.2.2 + 1) Q s)[i]? = some e ∧ (∃ e', e' ∈ bfE e.1 (e.2.2 + 1) Q s ∧ e'.1 = s ∧ e'.2.2 ≤ e.2.2 + 1) ∧ ∃ R, bfE e.1 (e.2.2 + 1) Q s = Q ++ R := by
  have hI0 := hI
  obtain ⟨i1, i2, i3, i4, i5, i6, i7, i8⟩ := hI
  unfold bfE
  by_cases c : bHas Q s = true
  · rw [if_pos c]
    obtain ⟨e', h1, h2⟩ := bHas_iff.mp c
    exact ⟨hI0, he, ⟨e', h1, h2, i8 e e' he h1⟩, [], by simp⟩
  · rw [if_neg c]
    have hn : ∀ e', e' ∈ Q → ¬ e'.1 = s := fun e' h1 h2 => c (bHas_iff.mpr ⟨e', h1, h2⟩)
    have hi : i < Q.length := (List.getElem?_eq_some_iff.mp he).1
    refine ⟨⟨?_, ?_, ?_, ?_, ?_, ?_, ?_, ?_⟩, ap_l he, ⟨(s, e.1, e.2.2 + 1), by simp, rfl, Nat.le_refl _⟩, _, rfl⟩
    · rw [List.map_append, List.nodup_append]
      refine ⟨i1, by simp, ?_⟩
      intro a ha b hb
      rw [List.mem_map] at ha
      obtain ⟨e', h1, h2⟩ := ha
      simp only [List.map_cons, List.map_nil, List.mem_singleton] at hb
      rw [hb, ← h2]
      exact hn e' h1
    · intro e' h1
      rw [List.mem_append, List.mem_singleton] at h1
      rcases h1 with h1 | h1
      · exact i2 e' h1
      · rw [h1]; exact hB
    · intro a e' h1
      rcases ap_1 h1 with h1 | ⟨h1, h2⟩
      · rcases i3 a e' h1 with z | ⟨b, e2, z1, z2, z3⟩
        · exact Or.inl z
        · exact Or.inr ⟨b, e2, z1, ap_l z2, z3⟩
      · subst h2
        exact Or.inr ⟨i, e, by omega, ap_l he, rfl, rfl⟩
    · intro a b e1 e2 hab h1 h2
      rcases ap_1 h1 with h1 | ⟨h1, h1'⟩
      · rcases ap_1 h2 with h2 | ⟨h2, h2'⟩
        · exact i4 a b e1 e2 hab h1 h2
        · subst h2'
          exact i8 e e1 he (List.mem_of_getElem? h1)
      · subst h1'
        rcases ap_1 h2 with h2 | ⟨h2, h2'⟩
        · have := (List.getElem?_eq_some_iff.mp h2).1
          omega
        · subst h2'; exact Nat.le_refl _
    · intro e' h1
      rw [List.mem_append, List.mem_singleton] at h1
      rcases h1 with h1 | h1
      · exact i5 e' h1
      · rw [h1]; exact ⟨e.1, i5 e (List.mem_of_getElem? he), hs⟩
    · intro t ht
      obtain ⟨e', z1, z2⟩ := i6 t ht
      exact ⟨e', List.mem_append_left _ z1, z2⟩
    · intro a e1 t ha h1 ht
      rcases ap_1 h1 with h1 | ⟨h1, h1'⟩
      · obtain ⟨e', z1, z2⟩ := i7 a e1 t ha h1 ht
        exact ⟨e', List.mem_append_left _ z1, z2⟩
      · omega
    · intro e1 e2 h1 h2
      rcases ap_1 h1 with h1 | ⟨h1, h1'⟩
      · rw [List.mem_append, List.mem_singleton] at h2
        rcases h2 with h2 | h2
        · exact i8 e1 e2 h1 h2
        · rw [he] at h1
          cases h1
          rw [h2]; exact Nat.le_refl _
      · omega
theorem bI_X {suc : Nat → List Nat} {S : Nat → Prop} {B i : Nat} {e : BE} : ∀ (l : List Nat) (Q : BQ), (∀ s, s ∈ l → s ∈ suc e.1 ∧ s < B) → bI suc S B i Q → Q[i]? = some e → bI suc S B i (bfX e.1 (e.2.2 + 1) Q l) ∧ (bfX e.1 (e.2.2 + 1) Q l)[i]? = some e ∧ (∀ s, s ∈ l → ∃ e', e' ∈ bfX e.1 (e.2.2 + 1) Q l ∧ e'.1 = s ∧ e'.2.2 ≤ e.2.2 + 1) ∧ ∃ R, bfX e.1 (e.2.2 + 1) Q l = Q ++ R := by
  intro l
  induction l with
  | nil => intro Q _ hI he; exact ⟨hI, he, fun s hs => absurd hs List.not_mem_nil, [], by simp [bfX]⟩
  | cons s l ih =>
    intro Q hl hI he
    have hs := hl s (List.mem_cons_self)
    obtain ⟨a1, a2, ⟨e', a3, a4, a5⟩, R, a6⟩ := bI_E hI he hs.1 hs.2
    obtain ⟨b1, b2, b3, R2, b4⟩ := ih _ (fun t ht => hl t (List.mem_cons_of_mem _ ht)) a1 a2
    refine ⟨b1, b2, ?_, R ++ R2, ?_⟩
    · intro t ht
      rcases List.mem_cons.mp ht with rfl | ht
      · refine ⟨e', ?_, a4, a5⟩
        show e' ∈ bfX e.1 (e.2.2 + 1) (bfE e.1 (e.2.2 + 1) Q t) l
        rw [b4]
        exact List.mem_append_left _ a3
      · exact b3 t ht
    · show bfX e.1 (e.2.2 + 1) (bfE e.1 (e.2.2 + 1) Q s) l = _
      rw [b4, a6, List.append_assoc]
theorem bI_Q {suc : Nat → List Nat} {S : Nat → Prop} {B : Nat} {Q0 : BQ} (hB : ∀ s t, s < B → t ∈ suc s → t < B) (h0 : bI suc S B 0 Q0) : ∀ i, bI suc S B i (bfQ suc Q0 i) := by
  intro i
  induction i with
  | zero => exact h0
  | succ i ih =>
    unfold bfQ
    split
    · rename_i e he
      obtain ⟨a1, a2, a3, R, a4⟩ := bI_X (suc e.1) _ (fun s hs => ⟨hs, hB e.1 s (ih.2.1 e (List.mem_of_getElem? he)) hs⟩) ih he
      obtain ⟨i1, i2, i3, i4, i5, i6, i7, i8⟩ := a1
      refine ⟨i1, i2, i3, i4, i5, i6, ?_, ?_⟩
      · intro a e1 s ha h1 hs
        by_cases c : a = i
        · subst c
          rw [a2] at h1
          cases h1
          exact a3 s hs
        · exact i7 a e1 s (by omega) h1 hs
      · intro e1 e2 h1 h2
        have := i8 e e2 a2 h2
        have := i4 i (i + 1) e e1 (by omega) a2 h1
        omega
    · rename_i he
      obtain ⟨i1, i2, i3, i4, i5, i6, i7, i8⟩ := ih
      have hl : (bfQ suc Q0 i).length ≤ i := List.getElem?_eq_none_iff.mp he
      refine ⟨i1, i2, i3, i4, i5, i6, ?_, ?_⟩
      · intro a e1 s ha h1 hs
        have := (List.getElem?_eq_some_iff.mp h1).1
        exact i7 a e1 s (by omega) h1 hs
      · intro e1 e2 h1 h2
        have := (List.getElem?_eq_some_iff.mp h1).1
        omega
theorem bfX_pre {p k : Nat} : ∀ (l : List Nat) (Q : BQ), ∃ R, bfX p k Q l = Q ++ R := by
  intro l
  induction l with
  | nil => intro Q; exact ⟨[], by simp [bfX]⟩
  | cons s l ih =>
    intro Q
    obtain ⟨R, h1⟩ := ih (bfE p k Q s)
    have h2 : ∃ R', bfE p k Q s = Q ++ R' := by
      unfold bfE
      split
      · exact ⟨[], by simp⟩
      · exact ⟨_, rfl⟩
    obtain ⟨R', h2⟩ := h2
    refine ⟨R' ++ R, ?_⟩
    show bfX p k (bfE p k Q s) l = _
    rw [h1, h2, List.append_assoc]
theorem bfQ_some {suc : Nat → List Nat} {Q0 : BQ} {i : Nat} {e : BE} (he : (bfQ suc Q0 i)[i]? = some e) : bfQ suc Q0 (i + 1) = bfX e.1 (e.2.2 + 1) (bfQ suc Q0 i) (suc e.1) := by
  rw [bfQ, he]
theorem bfQ_none {suc : Nat → List Nat} {Q0 : BQ} {i : Nat} (he : (bfQ suc Q0 i)[i]? = none) : bfQ suc Q0 (i + 1) = bfQ suc Q0 i := by
  rw [bfQ, he]
theorem bfQ_pre {suc : Nat → List Nat} {Q0 : BQ} (i : Nat) : ∀ k, ∃ R, bfQ suc Q0 (i + k) = bfQ suc Q0 i ++ R := by
  intro k
  induction k with
  | zero => exact ⟨[], by simp⟩
  | succ k ih =>
    obtain ⟨R, h1⟩ := ih
    show ∃ R, bfQ suc Q0 (i + k + 1) = _
    cases he : (bfQ suc Q0 (i + k))[i + k]? with
    | some e =>
      rw [bfQ_some he]
      obtain ⟨R2, h2⟩ := bfX_pre (p := e.1) (k := e.2.2 + 1) (suc e.1) (bfQ suc Q0 (i + k))
      exact ⟨R ++ R2, by rw [h2, h1, List.append_assoc]⟩
    | none => rw [bfQ_none he]; exact ⟨R, h1⟩
theorem bfQ_cl {suc : Nat → List Nat} {Q0 : BQ} {i : Nat} (hl : (bfQ suc Q0 i).length ≤ i) : ∀ k, bfQ suc Q0 (i + k) = bfQ suc Q0 i := by
  intro k
  induction k with
  | zero => rfl
  | succ k ih =>
    show bfQ suc Q0 (i + k + 1) = _
    rw [bfQ_none (List.getElem?_eq_none_iff.mpr (by rw [ih]; omega))]
    exact ih
theorem nd_len : ∀ (B : Nat) (l : List Nat), l.Nodup → (∀ x, x ∈ l → x < B) → l.length ≤ B := by
  intro B
  induction B with
  | zero =>
    intro l _ h
    cases l with
    | nil => exact Nat.le_refl _
    | cons x l => exact absurd (h x List.mem_cons_self) (Nat.not_lt_zero _)
  | succ B ih =>
    intro l hn h
    by_cases c : B ∈ l
    · have h1 := ih (l.erase B) (hn.erase B) (fun x hx => by
        have := (List.Nodup.mem_erase_iff hn).mp hx
        have := h x this.2
        omega)
      rw [List.length_erase_of_mem c] at h1
      omega
    · have := ih l hn (fun x hx => by
        have h1 := h x hx
        have : ¬ x = B := fun e => c (e ▸ hx)
        omega)
      omega
theorem bI_len {suc : Nat → List Nat} {S : Nat → Prop} {B i : Nat} {Q : BQ} (hI : bI suc S B i Q) : Q.length ≤ B := by
  have := nd_len B (Q.map (fun e => e.1)) hI.1 (fun x hx => by
    rw [List.mem_map] at hx
    obtain ⟨e, h1, h2⟩ := hx
    rw [← h2]; exact hI.2.1 e h1)
  rw [List.length_map] at this
  exact this
/-- the whole search -/
def bZ (suc : Nat → List Nat) (Q0 : BQ) : BQ := bfQ suc Q0 13824
def fE (Q : BQ) : Option BE := Q.find? (fun e => e.1 % 64 == 0)
theorem bZ_pre {suc : Nat → List Nat} {S : Nat → Prop} {B : Nat} {Q0 : BQ} (hB : ∀ s t, s < B → t ∈ suc s → t < B) (h0 : bI suc S B 0 Q0) (hb : B ≤ 13824) (i : Nat) : ∃ R, bZ suc Q0 = bfQ suc Q0 i ++ R := by
  have hl := bI_len (bI_Q hB h0 13824)
  by_cases c : i ≤ 13824
  · obtain ⟨R, h1⟩ := bfQ_pre (suc := suc) (Q0 := Q0) i (13824 - i)
    rw [show i + (13824 - i) = 13824 by omega] at h1
    exact ⟨R, h1⟩
  · have h1 := bfQ_cl (suc := suc) (Q0 := Q0) (i := 13824) (by omega) (i - 13824)
    rw [show 13824 + (i - 13824) = i by omega] at h1
    exact ⟨[], by rw [h1]; simp [bZ]⟩
theorem bZ_cl {suc : Nat → List Nat} {S : Nat → Prop} {B i : Nat} {Q0 : BQ} (hB : ∀ s t, s < B → t ∈ suc s → t < B) (h0 : bI suc S B 0 Q0) (hb : B ≤ 13824) (hl : (bfQ suc Q0 i).length ≤ i) : bZ suc Q0 = bfQ suc Q0 i := by
  have hl2 := bI_len (bI_Q hB h0 13824)
  by_cases c : i ≤ 13824
  · have h1 := bfQ_cl hl (13824 - i)
    rw [show i + (13824 - i) = 13824 by omega] at h1
    exact h1
  · have h1 := bfQ_cl (suc := suc) (Q0 := Q0) (i := 13824) (by omega) (i - 13824)
    rw [show 13824 + (i - 13824) = i by omega] at h1
    exact h1.symm
theorem fE_app {Q R : BQ} {e : BE} (h : fE Q = some e) : fE (Q ++ R) = some e := by
  unfold fE at *
  rw [List.find?_append, h]
  rfl
/-- what is reached is in the closed list -/
theorem bI_all {suc : Nat → List Nat} {S : Nat → Prop} {B i : Nat} {Q : BQ} (hI : bI suc S B i Q) (hl : Q.length ≤ i) : ∀ m s, rch suc S m s → ∃ e, e ∈ Q ∧ e.1 = s ∧ e.2.2 ≤ m := by
  intro m
  induction m with
  | zero =>
    intro s hs
    obtain ⟨e, h1, h2, h3⟩ := hI.2.2.2.2.2.1 s hs
    exact ⟨e, h1, h2, by omega⟩
  | succ m ih =>
    intro s hs
    obtain ⟨s', h1, h2⟩ := hs
    obtain ⟨e, h3, h4, h5⟩ := ih s' h1
    obtain ⟨a, h6⟩ := List.getElem?_of_mem h3
    have := (List.getElem?_eq_some_iff.mp h6).1
    rw [← h4] at h2
    obtain ⟨e', h7, h8, h9⟩ := hI.2.2.2.2.2.2.1 a e s (by omega) h6 h2
    exact ⟨e', h7, h8, by omega⟩
theorem bMin1 {suc : Nat → List Nat} {S : Nat → Prop} {B i : Nat} {Q : BQ} {e : BE} (hI : bI suc S B i Q) (hl : Q.length ≤ i) (he : fE Q = some e) : rch suc S e.2.2 e.1 ∧ e.1 % 64 = 0 ∧ ∀ m s, rch suc S m s → s % 64 = 0 → e.2.2 ≤ m := by
  unfold fE at he
  obtain ⟨h1, a, ha, h2, h3⟩ := List.find?_eq_some_iff_getElem.mp he
  refine ⟨hI.2.2.2.2.1 e (List.mem_of_find?_eq_some he), by simpa using h1, fun m s hs h0 => ?_⟩
  obtain ⟨e', z1, z2, z3⟩ := bI_all hI hl m s hs
  obtain ⟨b, z4⟩ := List.getElem?_of_mem z1
  obtain ⟨hb, z5⟩ := List.getElem?_eq_some_iff.mp z4
  have hab : a ≤ b := by
    by_cases c : b < a
    · have := h3 b c
      rw [z5, z2] at this
      simp [h0] at this
    · omega
  have := hI.2.2.2.1 a b e e' hab (List.getElem?_eq_some_iff.mpr ⟨ha, h2⟩) z4
  omega
theorem bMin0 {suc : Nat → List Nat} {S : Nat → Prop} {B i : Nat} {Q : BQ} (hI : bI suc S B i Q) (hl : Q.length ≤ i) (he : fE Q = none) : ∀ m s, rch suc S m s → ¬ s % 64 = 0 := by
  intro m s hs h0
  obtain ⟨e', z1, z2, z3⟩ := bI_all hI hl m s hs
  unfold fE at he
  have := List.find?_eq_none.mp he e' z1
  rw [z2] at this
  simp [h0] at this
/-! starts -/
theorem bS_ok {suc : Nat → List Nat} {B : Nat} : ∀ (l : List Nat) (Q : BQ) (S : Nat → Prop), (∀ s, s ∈ l → s < B) → (Q.map (fun e => e.1)).Nodup → (∀ e, e ∈ Q → e.1 < B ∧ e.2 = (N2, 0) ∧ S e.1) → (∀ s, S s → ∃ e, e ∈ Q ∧ e.1 = s) → bI suc (fun s => S s ∨ s ∈ l) B 0 (bfX N2 0 Q l) := by
  intro l
  induction l with
  | nil =>
    intro Q S _ hn hq hs
    refine ⟨hn, fun e he => (hq e he).1, ?_, ?_, ?_, ?_, ?_, ?_⟩
    · intro a e he
      have := (hq e (List.mem_of_getElem? he)).2.1
      exact Or.inl ⟨by rw [this], by rw [this]⟩
    · intro a b e e' _ h1 h2
      rw [(hq e (List.mem_of_getElem? h1)).2.1, (hq e' (List.mem_of_getElem? h2)).2.1]
      exact Nat.le_refl _
    · intro e he
      have he : e ∈ Q := he
      rw [(hq e he).2.1]
      exact Or.inl (hq e he).2.2
    · intro s h1
      rcases h1 with h1 | h1
      · obtain ⟨e, z1, z2⟩ := hs s h1
        exact ⟨e, z1, z2, by rw [(hq e z1).2.1]⟩
      · exact absurd h1 List.not_mem_nil
    · intro a e s ha; omega
    · intro e e' h1 h2
      have h2 : e' ∈ Q := h2
      rw [(hq e' h2).2.1]; exact Nat.zero_le _
  | cons s l ih =>
    intro Q S hl hn hq hs
    show bI suc _ B 0 (bfX N2 0 (bfE N2 0 Q s) l)
    have hiff : ∀ t, ((S t ∨ t = s) ∨ t ∈ l) ↔ (S t ∨ t ∈ s :: l) := by
      intro t; rw [List.mem_cons]; exact or_assoc
    have hfun : (fun t => S t ∨ t ∈ s :: l) = (fun t => (S t ∨ t = s) ∨ t ∈ l) := by
      funext t; exact propext (hiff t).symm
    rw [hfun]
    refine ih (bfE N2 0 Q s) (fun t => S t ∨ t = s) (fun t ht => hl t (List.mem_cons_of_mem _ ht)) ?_ ?_ ?_
    · unfold bfE
      split
      · exact hn
      · rename_i c
        rw [List.map_append, List.nodup_append]
        refine ⟨hn, by simp, ?_⟩
        intro a ha b hb
        rw [List.mem_map] at ha
        obtain ⟨e', h1, h2⟩ := ha
        simp only [List.map_cons, List.map_nil, List.mem_singleton] at hb
        rw [hb, ← h2]
        exact fun z => c (bHas_iff.mpr ⟨e', h1, z⟩)
    · unfold bfE
      split
      · intro e he
        have := hq e he
        exact ⟨this.1, this.2.1, Or.inl this.2.2⟩
      · intro e he
        rw [List.mem_append, List.mem_singleton] at he
        rcases he with he | he
        · have := hq e he
          exact ⟨this.1, this.2.1, Or.inl this.2.2⟩
        · rw [he]; exact ⟨hl s List.mem_cons_self, rfl, Or.inr rfl⟩
    · intro t ht
      unfold bfE
      split
      · rename_i c
        rcases ht with ht | ht
        · exact hs t ht
        · rw [ht]; exact bHas_iff.mp c
      · rcases ht with ht | ht
        · obtain ⟨e, z1, z2⟩ := hs t ht
          exact ⟨e, List.mem_append_left _ z1, z2⟩
        · exact ⟨(s, N2, 0), by simp, ht.symm⟩
theorem bS_0 {suc : Nat → List Nat} {B : Nat} (l : List Nat) (hl : ∀ s, s ∈ l → s < B) : bI suc (fun s => s ∈ l) B 0 (bfX N2 0 [] l) := by
  have := bS_ok (suc := suc) (B := B) l [] (fun _ => False) hl (by simp) (fun e he => absurd he List.not_mem_nil) (fun s hs => hs.elim)
  have hfun : (fun s => False ∨ s ∈ l) = (fun s => s ∈ l) := by funext s; exact propext ⟨fun z => z.elim False.elim id, Or.inr⟩
  rw [hfun] at this
  exact this
