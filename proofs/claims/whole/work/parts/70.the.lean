/-! the class's search of the fewest moves finds the least price -/
def cnC (B : Nat) (F : FF) : Nat := cn (fun x => F 62 x == N1) B
/-- one or more arrivals at the price c -/
def upC (sc : Nat → List (Nat × Nat)) (s0 B c : Nat) (F F' : FF) : Prop := (∀ x, F' 62 x = F 62 x ∨ (c < F' 62 x ∧ F' 62 x ≤ c + 3 ∧ F' 62 x ≤ F' 60 6 ∧ (F 62 x = N1 ∨ F' 62 x < F 62 x) ∧ x < B ∧ Rcc sc s0 (F' 62 x) x)) ∧ F' 60 5 = F 60 5 ∧ F 60 6 ≤ F' 60 6 ∧ ((cnC B F' ≤ cnC B F ∧ F' 60 6 = F 60 6) ∨ (cnC B F' + 1 ≤ cnC B F ∧ (F' 60 6 = F 60 6 ∨ F' 60 6 ≤ c + 3)))
def exC (sc : Nat → List (Nat × Nat)) (F : FF) (s : Nat) : Prop := ¬ s % 64 = 0 ∧ ∀ t w, (t, w) ∈ sc s → ¬ F 62 t = N1 ∧ F 62 t ≤ F 62 s + w
def cI (sc : Nat → List (Nat × Nat)) (s0 B c i : Nat) (F : FF) : Prop := (∀ s, s < B → F 62 s = N1 ∨ (F 62 s < 2 ^ 20 ∧ Rcc sc s0 (F 62 s) s)) ∧ F 62 s0 = 0 ∧ (∀ s, s < B → ¬ F 62 s = N1 → (F 62 s < c ∨ (F 62 s = c ∧ s < i)) → exC sc F s) ∧ (∀ s, s < B → ¬ F 62 s = N1 → F 62 s ≤ F 60 6)
section THE
variable {n K pa s0 B c : Nat} {gr : Nat → Nat} {sc : Nat → List (Nat × Nat)}
theorem upC_rf (F : FF) : upC sc s0 B c F F := ⟨fun x => Or.inl rfl, rfl, Nat.le_refl _, Or.inl ⟨Nat.le_refl _, rfl⟩⟩
theorem N1_big {y : Nat} (h : y < 2 ^ 20) : ¬ y = N1 := fun z => by have z : y = 4294967295 := z; omega
theorem upC_tr {F F' F'' : FF} (hc : c + 3 < 2 ^ 20) (h1 : upC sc s0 B c F F') (h2 : upC sc s0 B c F' F'') : upC sc s0 B c F F'' := by
  obtain ⟨a1, a2, a3, a4⟩ := h1
  obtain ⟨b1, b2, b3, b4⟩ := h2
  refine ⟨fun x => ?_, by rw [b2, a2], by omega, ?_⟩
  · rcases b1 x with e | ⟨e1, e2, e3, e4, e5, e6⟩
    · rcases a1 x with f | ⟨f1, f2, f3, f4, f5, f6⟩
      · exact Or.inl (by rw [e, f])
      · refine Or.inr ⟨by omega, by omega, by omega, ?_, f5, by rw [e]; exact f6⟩
        rw [e]; exact f4
    · refine Or.inr ⟨e1, e2, e3, ?_, e5, e6⟩
      rcases a1 x with f | ⟨f1, f2, f3, f4, f5, f6⟩
      · rw [← f]; exact e4
      · rcases e4 with e4 | e4
        · exact absurd e4 (N1_big (by omega))
        · rcases f4 with f4 | f4
          · exact Or.inl f4
          · exact Or.inr (by omega)
  · rcases a4 with a4 | a4 <;> rcases b4 with b4 | b4
    · exact Or.inl ⟨by omega, by omega⟩
    · refine Or.inr ⟨by omega, ?_⟩
      rcases b4.2 with z | z
      · exact Or.inl (by omega)
      · exact Or.inr z
    · refine Or.inr ⟨by omega, ?_⟩
      rcases a4.2 with z | z
      · exact Or.inl (by omega)
      · exact Or.inr (by omega)
    · refine Or.inr ⟨by omega, ?_⟩
      rcases b4.2 with z | z
      · rcases a4.2 with y | y
        · exact Or.inl (by omega)
        · exact Or.inr (by omega)
      · exact Or.inr z
theorem upC_d {F F' : FF} (h : upC sc s0 B c F F') (hd : ∀ s, s < B → ¬ F 62 s = N1 → F 62 s ≤ F 60 6) : ∀ s, s < B → ¬ F' 62 s = N1 → F' 62 s ≤ F' 60 6 := by
  intro s hs h1
  rcases h.1 s with e | ⟨_, _, e3, _⟩
  · rw [e] at h1 ⊢
    have := hd s hs h1
    have := h.2.2.1
    omega
  · exact e3
theorem upC_1 {F : FF} {s t w : Nat} (hc : c + 3 < 2 ^ 20) (h5 : F 60 5 = c) (hd : ∀ s, s < B → ¬ F 62 s = N1 → F 62 s ≤ F 60 6) (ht : t < B) (hw : w ≤ 3) (hr : ¬ w = 0 → Rcc sc s0 (c + w) t) (hv : F 62 t = N1 ∨ F 62 t < 2 ^ 20) : upC sc s0 B c F (mA t w F) ∧ (¬ w = 0 → ¬ mA t w F 62 t = N1 ∧ mA t w F 62 t ≤ c + w) := by
  unfold mA
  by_cases c0 : w = 0
  · rw [if_pos c0]
    exact ⟨upC_rf F, fun z => absurd c0 z⟩
  rw [if_neg c0, h5]
  by_cases c1 : F 62 t = N1 ∨ c + w < F 62 t
  · rw [if_pos c1]
    have e62 : pq_u (pq_u F 62 t (c + w)) 60 6 (if F 60 6 < c + w then c + w else F 60 6) 62 t = c + w := by rw [pu_off (by decide), pu_at, if_pos ⟨rfl, rfl⟩]
    have o62 : ∀ x, ¬ x = t → pq_u (pq_u F 62 t (c + w)) 60 6 (if F 60 6 < c + w then c + w else F 60 6) 62 x = F 62 x := fun x hx => by rw [pu_off (by decide), pu_at, if_neg (fun z => hx z.2)]
    have e6 : pq_u (pq_u F 62 t (c + w)) 60 6 (if F 60 6 < c + w then c + w else F 60 6) 60 6 = (if F 60 6 < c + w then c + w else F 60 6) := by rw [pu_at, if_pos ⟨rfl, rfl⟩]
    have e5 : pq_u (pq_u F 62 t (c + w)) 60 6 (if F 60 6 < c + w then c + w else F 60 6) 60 5 = F 60 5 := by rw [pu_at, if_neg (by omega), pu_off (by decide)]
    have hN : ¬ c + w = N1 := N1_big (by omega)
    have himp : ∀ x, x < B → (pq_u (pq_u F 62 t (c + w)) 60 6 (if F 60 6 < c + w then c + w else F 60 6) 62 x == N1) = true → (F 62 x == N1) = true := by
      intro x hx h
      by_cases e : x = t
      · rw [e, e62] at h; exact absurd (by simpa using h) hN
      · rw [o62 x e] at h; exact h
    refine ⟨⟨fun x => ?_, e5, ?_, ?_⟩, fun _ => by rw [e62]; exact ⟨hN, Nat.le_refl _⟩⟩
    · by_cases e : x = t
      · rw [e, e62, e6]
        refine Or.inr ⟨by omega, by omega, ?_, c1, ht, hr c0⟩
        split <;> omega
      · exact Or.inl (o62 x e)
    · rw [e6]; split <;> omega
    · rw [e6]
      by_cases cN : F 62 t = N1
      · right
        refine ⟨?_, ?_⟩
        · have : cnC B (pq_u (pq_u F 62 t (c + w)) 60 6 (if F 60 6 < c + w then c + w else F 60 6)) < cnC B F := cn_lt B t ht himp (by rw [cN]; decide) (by rw [e62]; simpa using hN)
          omega
        · split
          · exact Or.inr (by omega)
          · exact Or.inl rfl
      · left
        have h1 := hd t ht cN
        have h2 := c1.resolve_left cN
        refine ⟨cn_le B himp, ?_⟩
        rw [if_neg (by omega)]
  · rw [if_neg c1]
    have h1 : ¬ F 62 t = N1 := fun z => c1 (Or.inl z)
    have h2 : ¬ c + w < F 62 t := fun z => c1 (Or.inr z)
    exact ⟨upC_rf F, fun _ => ⟨h1, by omega⟩⟩
theorem upC_v {F F' : FF} (hc : c + 3 < 2 ^ 20) (h : upC sc s0 B c F F') (hv : ∀ t, t < B → F 62 t = N1 ∨ F 62 t < 2 ^ 20) : ∀ t, t < B → F' 62 t = N1 ∨ F' 62 t < 2 ^ 20 := by
  intro t ht
  rcases h.1 t with e | ⟨_, e2, _⟩
  · rw [e]; exact hv t ht
  · exact Or.inr (by omega)
theorem upC_le {F F' : FF} {t b : Nat} (hc : c + 3 < 2 ^ 20) (h : upC sc s0 B c F F') (h1 : ¬ F 62 t = N1) (h2 : F 62 t ≤ b) : ¬ F' 62 t = N1 ∧ F' 62 t ≤ b := by
  rcases h.1 t with e | ⟨e1, e2, e3, e4, _⟩
  · rw [e]; exact ⟨h1, h2⟩
  · refine ⟨N1_big (by omega), ?_⟩
    have := e4.resolve_left h1
    omega
theorem upC_l (hc : c + 3 < 2 ^ 20) : ∀ (l : List (Nat × Nat)) (F : FF), F 60 5 = c → (∀ s, s < B → ¬ F 62 s = N1 → F 62 s ≤ F 60 6) → (∀ t, t < B → F 62 t = N1 ∨ F 62 t < 2 ^ 20) → (∀ x : Nat × Nat, x ∈ l → x.1 < B ∧ x.2 ≤ 3 ∧ (¬ x.2 = 0 → Rcc sc s0 (c + x.2) x.1)) → upC sc s0 B c F (arrs mA l F) ∧ ∀ x : Nat × Nat, x ∈ l → ¬ x.2 = 0 → ¬ arrs mA l F 62 x.1 = N1 ∧ arrs mA l F 62 x.1 ≤ c + x.2 := by
  intro l
  induction l with
  | nil => intro F _ _ _ _; exact ⟨upC_rf F, fun x hx => absurd hx List.not_mem_nil⟩
  | cons a l ih =>
    intro F h5 hd hv hl
    obtain ⟨a1, a2, a3⟩ := hl a List.mem_cons_self
    obtain ⟨u1, u2⟩ := upC_1 (s := 0) hc h5 hd a1 a2 a3 (hv a.1 a1)
    obtain ⟨v1, v2⟩ := ih (mA a.1 a.2 F) (by rw [u1.2.1]; exact h5) (upC_d u1 hd) (upC_v hc u1 hv) (fun x hx => hl x (List.mem_cons_of_mem _ hx))
    refine ⟨upC_tr hc u1 v1, fun x hx hw => ?_⟩
    rcases List.mem_cons.mp hx with rfl | hx
    · obtain ⟨z1, z2⟩ := u2 hw
      exact upC_le hc v1 z1 z2
    · exact v2 x hx hw
theorem cI_up {i : Nat} {F F' : FF} (hc : c + 3 < 2 ^ 20) (hs0 : s0 < B) (hI : cI sc s0 B c i F) (h : upC sc s0 B c F F') : cI sc s0 B c i F' := by
  obtain ⟨i1, i2, i3, i4⟩ := hI
  refine ⟨fun s hs => ?_, ?_, fun s hs h1 h2 => ?_, upC_d h i4⟩
  · rcases h.1 s with e | ⟨e1, e2, e3, e4, e5, e6⟩
    · rw [e]; exact i1 s hs
    · exact Or.inr ⟨by omega, e6⟩
  · rcases h.1 s0 with e | ⟨e1, e2, e3, e4, e5, e6⟩
    · rw [e]; exact i2
    · rw [i2] at e4
      rcases e4 with e4 | e4
      · exact absurd e4 (by decide)
      · omega
  · have es : F' 62 s = F 62 s := by
      rcases h.1 s with e | ⟨e1, _⟩
      · exact e
      · omega
    rw [es] at h1 h2
    obtain ⟨x1, x2⟩ := i3 s hs h1 h2
    refine ⟨x1, fun t w ht => ?_⟩
    obtain ⟨y1, y2⟩ := x2 t w ht
    rw [es]
    exact upC_le hc h y1 y2
theorem mStep_up {i : Nat} {F : FF} (hg : pR n pa gr) (hK : K ≤ 3) (hB : B = 64 * 6 ^ K) (hc : c + 3 < 2 ^ 20) (hs0 : s0 < B) (hi : i < B) (h5 : F 60 5 = c) (hI : cI (sc3 n gr K) s0 B c i F) (hv : F 62 i = c) (he : ¬ i % 64 = 0) : cI (sc3 n gr K) s0 B c (i + 1) (mStep n pa K F i) ∧ upC (sc3 n gr K) s0 B c F (mStep n pa K F i) := by
  have hR : Rcc (sc3 n gr K) s0 c i := by
    rcases hI.1 i hi with z | z
    · rw [hv] at z; exact absurd z (N1_big (by omega))
    · rw [hv] at z; exact z.2
  have off : ∀ p j, ¬ p = 61 → plF F 61 K (i / 64) p j = F p j := fun p j hp => plF_off _ _ _ _ _ (fun z => hp z.1)
  have u0 : upC (sc3 n gr K) s0 B c F (plF F 61 K (i / 64)) := by
    refine ⟨fun x => Or.inl (off _ _ (by decide)), off _ _ (by decide), Nat.le_of_eq (off _ _ (by decide)).symm, Or.inl ⟨?_, off _ _ (by decide)⟩⟩
    apply Nat.le_of_eq
    unfold cnC
    simp only [off 62 _ (by decide)]
  have hl : ∀ x : Nat × Nat, x ∈ sc2 n gr K i → x.1 < B ∧ x.2 ≤ 3 ∧ (¬ x.2 = 0 → Rcc (sc3 n gr K) s0 (c + x.2) x.1) := by
    intro x hx
    obtain ⟨mv, m1, m2, m3⟩ := sc2_mem.mp (show (x.1, x.2) ∈ sc2 n gr K i from hx)
    refine ⟨by rw [hB]; exact mvS_lt hg.1 m1 m2, by rw [m3]; exact Nat.le_trans (lvN_le _ _ K) hK, fun hw => Rcc_s hR (sc3_mem.mpr ⟨hx, hw⟩)⟩
  obtain ⟨u1, u2⟩ := upC_l (sc := sc3 n gr K) (s0 := s0) (B := B) hc (sc2 n gr K i) (plF F 61 K (i / 64)) (by rw [off _ _ (by decide)]; exact h5) (upC_d u0 hI.2.2.2) (upC_v hc u0 (fun t ht => (hI.1 t ht).imp id (fun z => z.1))) hl
  have eS : mStep n pa K F i = arrs mA (sc2 n gr K i) (plF F 61 K (i / 64)) := by unfold mStep; rw [ords_sc2 hg]
  rw [eS]
  have hu := upC_tr hc u0 u1
  refine ⟨?_, hu⟩
  obtain ⟨j1, j2, j3, j4⟩ := cI_up hc hs0 hI hu
  refine ⟨j1, j2, fun s hs h1 h2 => ?_, j4⟩
  by_cases e : s = i
  · subst e
    refine ⟨he, fun t w ht => ?_⟩
    obtain ⟨a1, a2⟩ := sc3_mem.mp ht
    have es : arrs mA (sc2 n gr K s) (plF F 61 K (s / 64)) 62 s = c := by
      rcases hu.1 s with z | ⟨z1, z2, z3, z4, _⟩
      · rw [z]; exact hv
      · rw [hv] at z4
        rcases z4 with z4 | z4
        · exact absurd z4 (N1_big (by omega))
        · omega
    rw [es]
    exact u2 (t, w) a1 a2
  · exact j3 s hs h1 (by
      rcases h2 with z | z
      · exact Or.inl z
      · exact Or.inr ⟨z.1, by omega⟩)
theorem mAll_ok (hg : pR n pa gr) (hK : K ≤ 3) (hB : B = 64 * 6 ^ K) (hc : c + 3 < 2 ^ 20) (hs0 : s0 < B) : ∀ m i (F : FF), i + m = B → F 60 5 = c → cI (sc3 n gr K) s0 B c i F →
    ((mAll n pa K m i F).1 = true → ∃ s F1, s < B ∧ s % 64 = 0 ∧ cI (sc3 n gr K) s0 B c s F1 ∧ F1 62 s = c) ∧ ((mAll n pa K m i F).1 = false → cI (sc3 n gr K) s0 B c B (mAll n pa K m i F).2 ∧ upC (sc3 n gr K) s0 B c F (mAll n pa K m i F).2) := by
  intro m
  induction m with
  | zero =>
    intro i F hi h5 hI
    have hi : i = B := by omega
    rw [hi] at hI
    exact ⟨(fun z => nomatch z), fun _ => ⟨hI, upC_rf F⟩⟩
  | succ m ih =>
    intro i F hi h5 hI
    unfold mAll
    by_cases c1 : F 62 i = F 60 5
    · rw [if_pos c1]
      rw [h5] at c1
      by_cases c2 : i % 64 = 0
      · rw [if_pos c2]
        exact ⟨fun _ => ⟨i, F, by omega, c2, hI, c1⟩, (fun z => nomatch z)⟩
      · rw [if_neg c2]
        obtain ⟨a1, a2⟩ := mStep_up hg hK hB hc hs0 (by omega) h5 hI c1 c2
        obtain ⟨b1, b2⟩ := ih (i + 1) (mStep n pa K F i) (by omega) (by rw [a2.2.1]; exact h5) a1
        refine ⟨b1, fun z => ?_⟩
        obtain ⟨d1, d2⟩ := b2 z
        exact ⟨d1, upC_tr hc a2 d2⟩
    · rw [if_neg c1]
      rw [h5] at c1
      refine ih (i + 1) F (by omega) h5 ?_
      obtain ⟨i1, i2, i3, i4⟩ := hI
      refine ⟨i1, i2, fun s hs h1 h2 => i3 s hs h1 ?_, i4⟩
      rcases h2 with z | z
      · exact Or.inl z
      · by_cases e : s = i
        · subst e; exact absurd z.1 c1
        · exact Or.inr ⟨z.1, by omega⟩
theorem cI_all {i : Nat} {F : FF} (hs0 : s0 < B) (hsc : ∀ s t w, (t, w) ∈ sc s → t < B) (hI : cI sc s0 B c i F) : ∀ l c1 s1, rcs sc s0 l c1 s1 → c1 < c → s1 < B ∧ ¬ F 62 s1 = N1 ∧ F 62 s1 ≤ c1 := by
  obtain ⟨i1, i2, i3, i4⟩ := hI
  intro l
  induction l with
  | zero =>
    intro c1 s1 h _
    rw [h.1, i2]
    exact ⟨hs0, by decide, Nat.zero_le _⟩
  | succ l ih =>
    intro c1 s1 h hc
    obtain ⟨s', w, h1, h2, h3⟩ := h
    obtain ⟨a0, a1, a2⟩ := ih _ s' h3 (by omega)
    obtain ⟨_, e2⟩ := i3 s' a0 a1 (Or.inl (by omega))
    obtain ⟨b1, b2⟩ := e2 s1 w h1
    exact ⟨hsc _ _ _ h1, b1, by omega⟩
theorem cI_min {s : Nat} {F : FF} (hc : c < 2 ^ 20) (hs0 : s0 < B) (hsc : ∀ s t w, (t, w) ∈ sc s → t < B) (hI : cI sc s0 B c s F) (hs : s < B) (he : s % 64 = 0) (hv : F 62 s = c) : isMin (Rcc sc s0) (some c) := by
  refine ⟨⟨s, ?_, he⟩, fun c' s' hr he' => ?_⟩
  · rcases hI.1 s hs with z | z
    · rw [hv] at z; exact absurd z (N1_big hc)
    · rw [hv] at z; exact z.2
  · by_cases cl : c ≤ c'
    · exact cl
    · exfalso
      obtain ⟨l, hl⟩ := hr
      obtain ⟨a0, a1, a2⟩ := cI_all hs0 hsc hI l c' s' hl (by omega)
      exact (hI.2.2.1 s' a0 a1 (Or.inl (by omega))).1 he'
theorem cI_none {F : FF} (hs0 : s0 < B) (hsc : ∀ s t w, (t, w) ∈ sc s → t < B) (hI : cI sc s0 B c 0 F) (hH : F 60 6 < c) : isMin (Rcc sc s0) none := by
  obtain ⟨i1, i2, i3, i4⟩ := hI
  have key : ∀ l c1 s1, rcs sc s0 l c1 s1 → s1 < B ∧ ¬ F 62 s1 = N1 := by
    intro l
    induction l with
    | zero => intro c1 s1 h; rw [h.1, i2]; exact ⟨hs0, by decide⟩
    | succ l ih =>
      intro c1 s1 h
      obtain ⟨s', w, h1, h2, h3⟩ := h
      obtain ⟨a0, a1⟩ := ih _ s' h3
      have := i4 s' a0 a1
      exact ⟨hsc _ _ _ h1, ((i3 s' a0 a1 (Or.inl (by omega))).2 s1 w h1).1⟩
  intro c1 s1 hr he
  obtain ⟨l, hl⟩ := hr
  obtain ⟨a0, a1⟩ := key l c1 s1 hl
  have := i4 s1 a0 a1
  exact (i3 s1 a0 a1 (Or.inl (by omega))).1 he
theorem fm_min (hg : pR n pa gr) (hK : K ≤ 3) (hB : B = 64 * 6 ^ K) (hs0 : s0 < B) : ∀ m c (F : FF), c + m = 41474 → cI (sc3 n gr K) s0 B c 0 F → c + (3 * cnC B F + (F 60 6 + 1 - c)) ≤ 41470 → isMin (Rcc (sc3 n gr K) s0) (fmF n pa K m c F).1 := by
  have hsc : ∀ s t w, (t, w) ∈ sc3 n gr K s → t < B := fun s t w h => by rw [hB]; exact sc2_lt hg.1 (sc3_mem.mp h).1
  intro m
  induction m with
  | zero => intro c F h1 hI hm; omega
  | succ m ih =>
    intro c F h1 hI hm
    unfold fmF
    by_cases c1 : c ≤ F 60 6 ∧ c ≤ 41472
    · rw [if_pos c1]
      have hI5 : cI (sc3 n gr K) s0 B c 0 (pq_u F 60 5 c) := by
        unfold cI exC at *
        simp only [pu_off (show ¬ 62 = 60 by decide), show pq_u F 60 5 c 60 6 = F 60 6 by rw [pu_at, if_neg (by omega)]]
        exact hI
      obtain ⟨a1, a2⟩ := mAll_ok hg hK hB (by omega) hs0 B 0 (pq_u F 60 5 c) (by omega) (by rw [pu_at, if_pos ⟨rfl, rfl⟩]) hI5
      rw [← hB]
      cases hb : (mAll n pa K B 0 (pq_u F 60 5 c)).1 with
      | true =>
        obtain ⟨s, F1, z1, z2, z3, z4⟩ := a1 hb
        exact cI_min (by omega) hs0 hsc z3 z1 z2 z4
      | false =>
        obtain ⟨z1, z2⟩ := a2 hb
        rw [if_neg (by decide)]
        refine ih (c + 1) _ (by omega) ?_ ?_
        · obtain ⟨i1, i2, i3, i4⟩ := z1
          refine ⟨i1, i2, fun s hs h1 h2 => i3 s hs h1 ?_, i4⟩
          rcases h2 with z | z
          · by_cases e : (mAll n pa K B 0 (pq_u F 60 5 c)).2 62 s = c
            · exact Or.inr ⟨e, hs⟩
            · exact Or.inl (by omega)
          · omega
        · have e6 : pq_u F 60 5 c 60 6 = F 60 6 := by rw [pu_at, if_neg (by omega)]
          have ec : cnC B (pq_u F 60 5 c) = cnC B F := by
            unfold cnC
            simp only [pu_off (show ¬ 62 = 60 by decide)]
          have h4 := z2.2.2.2
          rw [e6, ec] at h4
          rcases h4 with h4 | h4
          · omega
          · rcases h4.2 with y | y <;> omega
    · rw [if_neg c1]
      refine cI_none hs0 hsc hI ?_
      omega
theorem pm_min {F G : FF} (hn : nOk F G) (hg : pR (F 2 0) (G 2 1) gr) : isMin (Rcc (sc3 (F 2 0) gr (F 2 2)) (sit0 F)) (fmF (F 2 0) (G 2 1) (F 2 2) 41474 0 (pmF F G)).1 := by
  have hs0 := (sit0_ok hn).1
  have hB := K_le hn.2.1
  have e62 : ∀ s, s < 64 * 6 ^ F 2 2 → pmF F G 62 s = if s = sit0 F then 0 else N1 := by
    intro s hs
    unfold pmF fmS
    rw [pu_off (by decide), pu_at]
    by_cases e : s = sit0 F
    · rw [if_pos ⟨rfl, e⟩, if_pos e]
    · rw [if_neg (fun z => e z.2), if_neg e]
      unfold clF
      rw [if_pos ⟨rfl, hs⟩]
  have e6 : pmF F G 60 6 = 0 := by unfold pmF fmS; rw [pu_at, if_pos ⟨rfl, rfl⟩]
  refine fm_min hg hn.2.1 rfl hs0 41474 0 (pmF F G) rfl ⟨fun s hs => ?_, ?_, fun s hs h1 h2 => ?_, fun s hs h1 => ?_⟩ ?_
  · rw [e62 s hs]
    by_cases e : s = sit0 F
    · rw [if_pos e, e]; exact Or.inr ⟨by decide, Rcc_0 _ _⟩
    · rw [if_neg e]; exact Or.inl rfl
  · rw [e62 _ hs0, if_pos rfl]
  · rcases h2 with z | z <;> omega
  · rw [e62 s hs] at h1 ⊢
    by_cases e : s = sit0 F
    · rw [if_pos e]; exact Nat.zero_le _
    · rw [if_neg e] at h1; exact absurd rfl h1
  · rw [e6]
    have h1 : cnC (64 * 6 ^ F 2 2) (pmF F G) < cn (fun _ => true) (64 * 6 ^ F 2 2) := cn_lt _ (sit0 F) hs0 (fun _ _ _ => rfl) rfl (by rw [e62 _ hs0, if_pos rfl]; decide)
    have h2 := cn_N (P := fun _ => true) (64 * 6 ^ F 2 2)
    omega
end THE
