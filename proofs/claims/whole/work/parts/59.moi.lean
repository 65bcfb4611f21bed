/-! the model: planMoves, what it keeps -/
def sc2 (n : Nat) (gr : Nat → Nat) (K s : Nat) : List (Nat × Nat) := (List.range (6 ^ K)).filterMap (fun mv => (mvS n gr K s mv).map (fun x => (x, lvN (md K s) (md K x) K)))
def pOk (n : Nat) (gr : Nat → Nat) (K s0 : Nat) (F : FF) : Prop := (∀ x, x < 32768 → F 71 x ≤ 1) ∧ (∀ x, x < 32768 → F 70 x = N1 ∨ (F 70 x < 2 ^ 20 ∧ ∃ s, s < 64 * 6 ^ K ∧ md K s = x ∧ Rcc (sc2 n gr K) s0 (F 70 x) s)) ∧ F 70 (md K s0) = 0
def pEx (n : Nat) (gr : Nat → Nat) (K : Nat) (F : FF) (s : Nat) : Prop := ¬ s % 64 = 0 ∧ ∀ t w, (t, w) ∈ sc2 n gr K s → ¬ F 70 (md K t) = N1 ∧ F 70 (md K t) ≤ F 70 (md K s) + w
def pH (n : Nat) (gr : Nat → Nat) (K s0 c : Nat) (F : FF) : Prop := pOk n gr K s0 F ∧ (∀ x, x < 32768 → F 71 x = 1 → ¬ F 70 x = N1 ∧ F 70 x < c) ∧ (∀ x, x < 32768 → ¬ F 70 x = N1 → F 70 x < c → F 71 x = 1) ∧ (∀ s, s < 64 * 6 ^ K → F 71 (md K s) = 1 → pEx n gr K F s)
def pQ (n : Nat) (gr : Nat → Nat) (K s0 c : Nat) (W : List Nat) (q : Nat) (F : FF) : Prop := pOk n gr K s0 F ∧ (∀ x, x < 32768 → F 71 x = 1 → ¬ F 70 x = N1 ∧ F 70 x ≤ c) ∧ (∀ x, x < 32768 → ¬ F 70 x = N1 → F 70 x ≤ c → F 71 x = 1) ∧ (∀ (i s : Nat), W[i]? = some s → s < 64 * 6 ^ K ∧ F 72 i = md K s ∧ F 70 (md K s) = c) ∧ W.Nodup ∧ (∀ s, s < 64 * 6 ^ K → F 71 (md K s) = 1 → (∀ i : Nat, q ≤ i → ¬ W[i]? = some s) → pEx n gr K F s)
def cnU (F : FF) : Nat := cn (fun x => F 70 x == N1) 32768
def pT (c U Mx more : Nat) (F : FF) : Prop := (more = 0 ∨ more = 1) ∧ (more = 0 → ∀ x, x < 32768 → ¬ F 70 x = N1 → F 70 x ≤ c) ∧ ((cnU F ≤ U ∧ (∀ x, x < 32768 → ¬ F 70 x = N1 → F 70 x ≤ Mx) ∧ (more = 1 → c < Mx)) ∨ (cnU F + 1 ≤ U ∧ ∀ x, x < 32768 → ¬ F 70 x = N1 → F 70 x ≤ Mx ∨ F 70 x ≤ c + 3))
theorem lvN_le (a b : Nat) : ∀ k, lvN a b k ≤ k := by
  intro k
  induction k with
  | zero => exact Nat.le_refl _
  | succ k ih => unfold lvN; split <;> omega
section MOR
variable {n K s0 : Nat} {gr : Nat → Nat}
theorem sc2_mem {s t w : Nat} : (t, w) ∈ sc2 n gr K s ↔ ∃ mv, mv < 6 ^ K ∧ mvS n gr K s mv = some t ∧ w = lvN (md K s) (md K t) K := by
  unfold sc2
  rw [List.mem_filterMap]
  constructor
  · rintro ⟨mv, h1, h2⟩
    rw [List.mem_range] at h1
    cases h3 : mvS n gr K s mv with
    | none => rw [h3] at h2; cases h2
    | some x =>
      rw [h3] at h2
      simp only [Option.map_some, Option.some.injEq, Prod.mk.injEq] at h2
      obtain ⟨rfl, rfl⟩ := h2
      exact ⟨mv, h1, h3, rfl⟩
  · rintro ⟨mv, h1, h2, h3⟩
    refine ⟨mv, List.mem_range.mpr h1, ?_⟩
    rw [h2, h3]
    rfl
theorem sc2_lt (hn : n ≤ 6) {s t w : Nat} (h : (t, w) ∈ sc2 n gr K s) : t < 64 * 6 ^ K := by
  obtain ⟨mv, h1, h2, _⟩ := sc2_mem.mp h
  exact mvS_lt hn h1 h2
theorem rcs_lt (hn : n ≤ 6) (h0 : s0 < 64 * 6 ^ K) : ∀ l c s, rcs (sc2 n gr K) s0 l c s → s < 64 * 6 ^ K := by
  intro l c s h
  cases l with
  | zero => rw [h.1]; exact h0
  | succ l =>
    obtain ⟨s', w, h1, _⟩ := h
    exact sc2_lt hn h1
/-- all that is cheaper is known -/
theorem pQ_all {c q : Nat} {W : List Nat} {F : FF} (hn : n ≤ 6) (hK : K ≤ 3) (h0 : s0 < 64 * 6 ^ K) (hQ : pQ n gr K s0 c W q F) : ∀ l c1 s1, rcs (sc2 n gr K) s0 l c1 s1 → c1 < c → ¬ F 70 (md K s1) = N1 ∧ F 70 (md K s1) ≤ c1 := by
  obtain ⟨⟨p1, p2, p3⟩, q1, q2, q3, q4, q5⟩ := hQ
  intro l
  induction l with
  | zero =>
    intro c1 s1 h hc
    rw [h.1, p3]
    exact ⟨by decide, Nat.zero_le _⟩
  | succ l ih =>
    intro c1 s1 h hc
    obtain ⟨s', w, h1, h2, h3⟩ := h
    obtain ⟨a1, a2⟩ := ih (c1 - w) s' h3 (by omega)
    have hs' := rcs_lt hn h0 l _ s' h3
    have hv := q2 (md K s') (md_lt hK s') a1 (by omega)
    have hx := q5 s' hs' hv (fun i _ hi => by have := (q3 i s' hi).2.2; omega)
    obtain ⟨b1, b2⟩ := hx.2 s1 w h1
    exact ⟨b1, by omega⟩
theorem pQ_min {c q s : Nat} {W : List Nat} {F : FF} (hn : n ≤ 6) (hK : K ≤ 3) (h0 : s0 < 64 * 6 ^ K) (hc : c < 2 ^ 20) (hQ : pQ n gr K s0 c W q F) (hs : W[q]? = some s) (he : s % 64 = 0) : isMin (Rcc (sc2 n gr K) s0) (some c) := by
  have hall := pQ_all hn hK h0 hQ
  obtain ⟨⟨p1, p2, p3⟩, q1, q2, q3, q4, q5⟩ := hQ
  obtain ⟨w1, w2, w3⟩ := q3 q s hs
  refine ⟨⟨s, ?_, he⟩, fun c' s' hr he' => ?_⟩
  · rcases p2 (md K s) (md_lt hK s) with h | ⟨_, s2, h2, h3, h4⟩
    · rw [w3] at h
      have h : c = 4294967295 := h
      omega
    · rw [w3] at h4
      rw [← md_inj h2 w1 h3]
      exact h4
  · by_cases cl : c ≤ c'
    · exact cl
    · exfalso
      obtain ⟨l, hl⟩ := hr
      obtain ⟨a1, a2⟩ := hall l c' s' hl (by omega)
      have hs' := rcs_lt hn h0 l _ s' hl
      have hv := q2 (md K s') (md_lt hK s') a1 (by omega)
      have hx := q5 s' hs' hv (fun i _ hi => by have := (q3 i s' hi).2.2; omega)
      exact hx.1 he'
theorem pH_min {c : Nat} {F : FF} (hn : n ≤ 6) (hK : K ≤ 3) (h0 : s0 < 64 * 6 ^ K) (hH : pH n gr K s0 c F) (hall : ∀ x, x < 32768 → ¬ F 70 x = N1 → F 70 x < c) : isMin (Rcc (sc2 n gr K) s0) none := by
  obtain ⟨⟨p1, p2, p3⟩, q1, q2, q3⟩ := hH
  have key : ∀ l c1 s1, rcs (sc2 n gr K) s0 l c1 s1 → ¬ F 70 (md K s1) = N1 := by
    intro l
    induction l with
    | zero => intro c1 s1 h; rw [h.1, p3]; decide
    | succ l ih =>
      intro c1 s1 h
      obtain ⟨s', w, h1, h2, h3⟩ := h
      have a1 := ih _ s' h3
      have hs' := rcs_lt hn h0 l _ s' h3
      exact ((q3 s' hs' (q2 _ (md_lt hK s') a1 (hall _ (md_lt hK s') a1))).2 s1 w h1).1
  intro c s hr he
  obtain ⟨l, hl⟩ := hr
  have a1 := key l c s hl
  have hs' := rcs_lt hn h0 l _ s hl
  exact (q3 s hs' (q2 _ (md_lt hK s) a1 (hall _ (md_lt hK s) a1))).1 he
/-- a price is set, dearer than the present one -/
theorem pQ_up1 {c q t w : Nat} {W : List Nat} {F : FF} (hK : K ≤ 3) (hc : c + w < 2 ^ 20) (hQ : pQ n gr K s0 c W q F) (ht : t < 64 * 6 ^ K) (hr : Rcc (sc2 n gr K) s0 (c + w) t) (hv : F 70 (md K t) = N1 ∨ c + w < F 70 (md K t)) (hw : 0 < w) : pQ n gr K s0 c W q (pq_u F 70 (md K t) (c + w)) := by
  obtain ⟨⟨p1, p2, p3⟩, q1, q2, q3, q4, q5⟩ := hQ
  have hN : ∀ y, y < 2 ^ 20 → ¬ y = N1 := fun y hy z => by have z : y = 4294967295 := z; omega
  have o71 : ∀ x, pq_u F 70 (md K t) (c + w) 71 x = F 71 x := fun x => pu_off (by decide)
  have o72 : ∀ x, pq_u F 70 (md K t) (c + w) 72 x = F 72 x := fun x => pu_off (by decide)
  have o70 : ∀ x, ¬ x = md K t → pq_u F 70 (md K t) (c + w) 70 x = F 70 x := fun x hx => by rw [pu_at, if_neg (fun z => hx z.2)]
  have n70 : pq_u F 70 (md K t) (c + w) 70 (md K t) = c + w := by rw [pu_at, if_pos ⟨rfl, rfl⟩]
  have hne1 : ¬ F 71 (md K t) = 1 := fun z => by
    have := q1 _ (md_lt hK t) z
    rcases hv with h | h
    · exact this.1 h
    · omega
  refine ⟨⟨fun x hx => by rw [o71]; exact p1 x hx, fun x hx => ?_, ?_⟩, fun x hx h1 => ?_, fun x hx h1 h2 => ?_, fun i s hi => ?_, q4, fun s hs h1 h2 => ?_⟩
  · by_cases e : x = md K t
    · rw [e, n70]; exact Or.inr ⟨hc, t, ht, rfl, hr⟩
    · rw [o70 x e]; exact p2 x hx
  · rw [o70]
    · exact p3
    · intro e
      rw [← e, p3] at hv
      rcases hv with h | h
      · exact absurd h (by decide)
      · omega
  · rw [o71] at h1
    have e : ¬ x = md K t := fun e => hne1 (e ▸ h1)
    rw [o70 x e]
    exact q1 x hx h1
  · rw [o71]
    by_cases e : x = md K t
    · rw [e, n70] at h2; omega
    · rw [o70 x e] at h1 h2; exact q2 x hx h1 h2
  · obtain ⟨a1, a2, a3⟩ := q3 i s hi
    refine ⟨a1, by rw [o72]; exact a2, ?_⟩
    rw [o70]
    · exact a3
    · intro e
      rw [← e, a3] at hv
      rcases hv with h | h
      · exact hN c (by omega) h
      · omega
  · rw [o71] at h1
    obtain ⟨e1, e2⟩ := q5 s hs h1 h2
    refine ⟨e1, fun t' w' h3 => ?_⟩
    have es : ¬ md K s = md K t := fun e => hne1 (e ▸ h1)
    rw [o70 _ es]
    obtain ⟨b1, b2⟩ := e2 t' w' h3
    by_cases e : md K t' = md K t
    · rw [e, n70]
      rw [e] at b1 b2
      rcases hv with h | h
      · exact absurd h b1
      · exact ⟨hN _ hc, by omega⟩
    · rw [o70 _ e]; exact ⟨b1, b2⟩
/-- the present price is set: one more in the queue -/
theorem pQ_up0 {c q t : Nat} {W : List Nat} {F : FF} (hK : K ≤ 3) (hc : c < 2 ^ 20) (hQ : pQ n gr K s0 c W q F) (hqW : q < W.length) (ht : t < 64 * 6 ^ K) (hr : Rcc (sc2 n gr K) s0 c t) (hv : F 70 (md K t) = N1 ∨ c < F 70 (md K t)) : pQ n gr K s0 c (W ++ [t]) q (pq_u (pq_u (pq_u F 70 (md K t) c) 71 (md K t) 1) 72 W.length (md K t)) := by
  obtain ⟨⟨p1, p2, p3⟩, q1, q2, q3, q4, q5⟩ := hQ
  have hN : ∀ y, y < 2 ^ 20 → ¬ y = N1 := fun y hy z => by have z : y = 4294967295 := z; omega
  have o71 : ∀ x, ¬ x = md K t → pq_u (pq_u (pq_u F 70 (md K t) c) 71 (md K t) 1) 72 W.length (md K t) 71 x = F 71 x := fun x hx => by rw [pu_off (by decide), pu_at, if_neg (fun z => hx z.2), pu_off (by decide)]
  have n71 : pq_u (pq_u (pq_u F 70 (md K t) c) 71 (md K t) 1) 72 W.length (md K t) 71 (md K t) = 1 := by rw [pu_off (by decide), pu_at, if_pos ⟨rfl, rfl⟩]
  have o72 : ∀ x, ¬ x = W.length → pq_u (pq_u (pq_u F 70 (md K t) c) 71 (md K t) 1) 72 W.length (md K t) 72 x = F 72 x := fun x hx => by rw [pu_at, if_neg (fun z => hx z.2), pu_off (by decide), pu_off (by decide)]
  have o70 : ∀ x, ¬ x = md K t → pq_u (pq_u (pq_u F 70 (md K t) c) 71 (md K t) 1) 72 W.length (md K t) 70 x = F 70 x := fun x hx => by rw [pu_off (by decide), pu_off (by decide), pu_at, if_neg (fun z => hx z.2)]
  have n70 : pq_u (pq_u (pq_u F 70 (md K t) c) 71 (md K t) 1) 72 W.length (md K t) 70 (md K t) = c := by rw [pu_off (by decide), pu_off (by decide), pu_at, if_pos ⟨rfl, rfl⟩]
  have hvc : ¬ F 70 (md K t) = c := fun z => by
    rw [z] at hv
    rcases hv with h | h
    · exact hN c hc h
    · omega
  have hne1 : ¬ F 71 (md K t) = 1 := fun z => by
    have := q1 _ (md_lt hK t) z
    rcases hv with h | h
    · exact this.1 h
    · omega
  refine ⟨⟨fun x hx => ?_, fun x hx => ?_, ?_⟩, fun x hx h1 => ?_, fun x hx h1 h2 => ?_, fun i s hi => ?_, ?_, fun s hs h1 h2 => ?_⟩
  · by_cases e : x = md K t
    · rw [e, n71]; exact Nat.le_refl _
    · rw [o71 x e]; exact p1 x hx
  · by_cases e : x = md K t
    · rw [e, n70]; exact Or.inr ⟨hc, t, ht, rfl, hr⟩
    · rw [o70 x e]; exact p2 x hx
  · rw [o70]
    · exact p3
    · intro e
      rw [← e, p3] at hv
      rcases hv with h | h
      · exact absurd h (by decide)
      · omega
  · by_cases e : x = md K t
    · rw [e, n70]; exact ⟨hN c hc, Nat.le_refl _⟩
    · rw [o71 x e] at h1
      rw [o70 x e]; exact q1 x hx h1
  · by_cases e : x = md K t
    · rw [e, n71]
    · rw [o70 x e] at h1 h2
      rw [o71 x e]; exact q2 x hx h1 h2
  · rw [List.getElem?_append] at hi
    split at hi
    · rename_i hl
      obtain ⟨a1, a2, a3⟩ := q3 i s hi
      refine ⟨a1, by rw [o72 i (by omega)]; exact a2, ?_⟩
      rw [o70]
      · exact a3
      · intro e; exact hvc (e ▸ a3)
    · rename_i hl
      have h2 := (List.getElem?_eq_some_iff.mp hi).1
      simp only [List.length_singleton] at h2
      have h3 : i - W.length = 0 := by omega
      rw [h3] at hi
      simp only [List.getElem?_cons_zero, Option.some.injEq] at hi
      subst hi
      have : i = W.length := by omega
      subst this
      exact ⟨ht, by rw [pu_at, if_pos ⟨rfl, rfl⟩], n70⟩
  · rw [List.nodup_append]
    refine ⟨q4, by simp, ?_⟩
    intro a ha b hb
    rw [List.mem_singleton] at hb
    rw [hb]
    intro e
    obtain ⟨i, hi⟩ := List.getElem?_of_mem ha
    rw [e] at hi
    exact hvc (q3 i t hi).2.2
  · have es : ¬ md K s = md K t := by
      intro e
      have : s = t := md_inj hs ht e
      subst this
      exact h2 W.length (by omega) (by rw [List.getElem?_append_right (Nat.le_refl _), Nat.sub_self]; rfl)
    rw [o71 _ es] at h1
    obtain ⟨e1, e2⟩ := q5 s hs h1 (fun i hi h3 => h2 i hi (by rw [List.getElem?_append_left (List.getElem?_eq_some_iff.mp h3).1]; exact h3))
    refine ⟨e1, fun t' w' h3 => ?_⟩
    rw [o70 _ es]
    obtain ⟨b1, b2⟩ := e2 t' w' h3
    by_cases e : md K t' = md K t
    · rw [e, n70]
      rw [e] at b1 b2
      rcases hv with h | h
      · exact absurd h b1
      · exact ⟨hN _ hc, by omega⟩
    · rw [o70 _ e]; exact ⟨b1, b2⟩
theorem pT_up {c U Mx more t w : Nat} {F F' : FF} (hK : K ≤ 3) (hw : w ≤ 3) (hc : c + w < 2 ^ 20) (hT : pT c U Mx more F) (hv : F 70 (md K t) = N1 ∨ c + w < F 70 (md K t)) (ho : ∀ x, ¬ x = md K t → F' 70 x = F 70 x) (hn : F' 70 (md K t) = c + w) : pT c U Mx 1 F' := by
  obtain ⟨t1, t2, t3⟩ := hT
  have hN : ¬ c + w = N1 := fun z => by have z : c + w = 4294967295 := z; omega
  have hmd := md_lt hK t
  refine ⟨Or.inr rfl, fun z => by omega, ?_⟩
  have himp : ∀ x, x < 32768 → (F' 70 x == N1) = true → (F 70 x == N1) = true := by
    intro x hx h
    by_cases e : x = md K t
    · rw [e, hn] at h
      exact absurd (by simpa using h) hN
    · rw [ho x e] at h; exact h
  have hle : cnU F' ≤ cnU F := cn_le 32768 himp
  by_cases cN : F 70 (md K t) = N1
  · have hlt : cnU F' < cnU F := cn_lt 32768 (md K t) hmd himp (by rw [cN]; decide) (by rw [hn]; simpa using hN)
    right
    refine ⟨by rcases t3 with h | h <;> omega, fun x hx h => ?_⟩
    by_cases e : x = md K t
    · rw [e, hn]; exact Or.inr (by omega)
    · rw [ho x e] at h ⊢
      rcases t3 with z | z
      · exact Or.inl (z.2.1 x hx h)
      · exact z.2 x hx h
  · have hv2 := hv.resolve_left cN
    rcases t3 with z | z
    · have h3 := z.2.1 _ hmd cN
      left
      refine ⟨by omega, fun x hx h => ?_, fun _ => by omega⟩
      by_cases e : x = md K t
      · rw [e, hn]; omega
      · rw [ho x e] at h ⊢; exact z.2.1 x hx h
    · right
      refine ⟨by omega, fun x hx h => ?_⟩
      by_cases e : x = md K t
      · rw [e, hn]; exact Or.inr (by omega)
      · rw [ho x e] at h ⊢; exact z.2 x hx h
end MOR
