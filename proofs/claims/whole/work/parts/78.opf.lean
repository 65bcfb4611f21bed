/-! a turn on both sides, before news -/
section OPF
variable {Rc Gc R : FF} {w : Nat}
theorem stF_out {X : FF} {v t p k : Nat} (h8 : ¬ p = 8) (h9 : ¬ p = 9) : stF X v t p k = X p k := by
  unfold stF
  rw [pu_off h9, pu_off h8, pu_off h8]
theorem caF_out {X : FF} {v t p k : Nat} (h8 : ¬ p = 8) (h9 : ¬ p = 9) : caF X v t p k = X p k := by
  unfold caF
  rw [stF_out h8 h9, pu_off h8, pu_off h8]
theorem mt_out {p k : Nat} (h8 : ¬ p = 8) (h9 : ¬ p = 9) : mtF Rc Gc w p k = if p = 3 ∧ k < 3 then mtE Rc Gc w 4 k else mtE Rc Gc w p k := by
  unfold mtF
  rw [mt_cp]
  split
  · split
    · rfl
    · split
      · rw [stF_out (by decide) (by decide)]
      · rw [caF_out (by decide) (by decide)]
  · split
    · rfl
    · split
      · rw [stF_out h8 h9]
      · rw [caF_out h8 h9]
theorem mt_0 {p k : Nat} (hf : Rc 8 0 = 0 ∨ Rc 8 3 ≠ 0) (hp : p = 8 ∨ p = 9) : mtF Rc Gc w p k = Rc p k := by
  unfold mtF
  rw [if_pos hf, mt_cp, if_neg (by omega), mtE_at, if_neg (by omega), if_neg (by omega), if_neg (by omega), if_neg (by omega)]
theorem mtE_89 {p k : Nat} (hp : p = 8 ∨ p = 9) : mtE Rc Gc w p k = Rc p k := by
  rw [mtE_at, if_neg (by omega), if_neg (by omega), if_neg (by omega), if_neg (by omega)]
theorem mt_1 (hf : ¬ (Rc 8 0 = 0 ∨ Rc 8 3 ≠ 0)) : mtF Rc Gc w 8 0 = Rc 8 0 ∧ mtF Rc Gc w 8 1 = Rc 8 2 ∧ mtF Rc Gc w 8 2 = Rc 8 2 ∧ mtF Rc Gc w 8 3 = (if w.testBit (6 * Rc 8 1 + Rc 8 2) = true then Rc 8 3 else 1) ∧ mtF Rc Gc w 8 4 = (if w.testBit (6 * Rc 8 1 + Rc 8 2) = true then Rc 8 4 else Rc 2 5 + 1) ∧ mtF Rc Gc w 8 5 = Rc 8 5 ∧ mtF Rc Gc w 9 ((Rc 2 5 + 1) % 8) = Rc 8 2 ∧ ∀ i, ¬ i = (Rc 2 5 + 1) % 8 → mtF Rc Gc w 9 i = Rc 9 i := by
  have e := fun k => mtE_89 (Rc := Rc) (Gc := Gc) (w := w) (p := 8) (k := k) (Or.inl rfl)
  have e9 := fun k => mtE_89 (Rc := Rc) (Gc := Gc) (w := w) (p := 9) (k := k) (Or.inr rfl)
  unfold mtF
  rw [if_neg hf]
  simp only [mt_cp]
  by_cases c : w.testBit (6 * Rc 8 1 + Rc 8 2) = true
  · rw [if_pos c, if_pos c, if_pos c]
    refine ⟨?_, ?_, ?_, ?_, ?_, ?_, ?_, fun i hi => ?_⟩
    · rw [if_neg (by omega)]; unfold stF; rw [pu_off (by decide), pu_at, if_neg (by omega), pu_at, if_neg (by omega)]; exact e 0
    · rw [if_neg (by omega)]; unfold stF; rw [pu_off (by decide), pu_at, if_neg (by omega), pu_at, if_pos ⟨rfl, rfl⟩]
    · rw [if_neg (by omega)]; unfold stF; rw [pu_off (by decide), pu_at, if_pos ⟨rfl, rfl⟩]
    · rw [if_neg (by omega)]; unfold stF; rw [pu_off (by decide), pu_at, if_neg (by omega), pu_at, if_neg (by omega)]; exact e 3
    · rw [if_neg (by omega)]; unfold stF; rw [pu_off (by decide), pu_at, if_neg (by omega), pu_at, if_neg (by omega)]; exact e 4
    · rw [if_neg (by omega)]; unfold stF; rw [pu_off (by decide), pu_at, if_neg (by omega), pu_at, if_neg (by omega)]; exact e 5
    · rw [if_neg (by omega)]; unfold stF; rw [pu_at, if_pos ⟨rfl, rfl⟩]
    · rw [if_neg (by omega)]; unfold stF; rw [pu_at, if_neg (fun z => hi z.2), pu_off (by decide), pu_off (by decide)]; exact e9 i
  · rw [if_neg c, if_neg c, if_neg c]
    refine ⟨?_, ?_, ?_, ?_, ?_, ?_, ?_, fun i hi => ?_⟩
    · rw [if_neg (by omega)]; unfold caF stF; rw [pu_off (by decide), pu_at, if_neg (by omega), pu_at, if_neg (by omega), pu_at, if_neg (by omega), pu_at, if_neg (by omega)]; exact e 0
    · rw [if_neg (by omega)]; unfold caF stF; rw [pu_off (by decide), pu_at, if_neg (by omega), pu_at, if_pos ⟨rfl, rfl⟩]
    · rw [if_neg (by omega)]; unfold caF stF; rw [pu_off (by decide), pu_at, if_pos ⟨rfl, rfl⟩]
    · rw [if_neg (by omega)]; unfold caF stF; rw [pu_off (by decide), pu_at, if_neg (by omega), pu_at, if_neg (by omega), pu_at, if_neg (by omega), pu_at, if_pos ⟨rfl, rfl⟩]
    · rw [if_neg (by omega)]; unfold caF stF; rw [pu_off (by decide), pu_at, if_neg (by omega), pu_at, if_neg (by omega), pu_at, if_pos ⟨rfl, rfl⟩]
    · rw [if_neg (by omega)]; unfold caF stF; rw [pu_off (by decide), pu_at, if_neg (by omega), pu_at, if_neg (by omega), pu_at, if_neg (by omega), pu_at, if_neg (by omega)]; exact e 5
    · rw [if_neg (by omega)]; unfold caF stF; rw [pu_at, if_pos ⟨rfl, rfl⟩]
    · rw [if_neg (by omega)]; unfold caF stF; rw [pu_at, if_neg (fun z => hi z.2), pu_off (by decide), pu_off (by decide), pu_off (by decide), pu_off (by decide)]; exact e9 i
theorem turn_pre (h : Sr (vw Rc 2) (vw Gc 2) (R 64)) (hg : gOk R) (ht : R 64 2 < 10000) (hw : w = fwF Rc Gc 4 (Rc 2 2)) : Sr (vw (mtF Rc Gc w) 2) (vw (pq_u Gc 7 ((Rc 5 2 + 1) % 8) w) 2) (tuM R 64) := by
  obtain ⟨q1, q2, q3, q4, q5, q6, q7, q8, q9, q10, q11, q12, q13, q14, q15⟩ := tu_eqs hg
  have e22 : Rc 2 2 = R 64 1 := h.1.2.2.2.1
  have e25 : Rc 2 5 = R 64 2 := h.1.2.2.2.2.2.1
  have e52 : Rc 5 2 = R 64 2 := h.2.2.2.1.1
  have e53 : Rc 5 3 = R 64 23 := h.2.2.2.1.2.1
  have d3 := h.2.2.2.1.2.2.1
  have d4 := h.2.2.2.1.2.2.2.1
  have h3 := h.1.2.2.2.2.1
  have h80 : Rc 8 0 = R 64 17 := h.2.2.2.2.2.1
  have hw2 : w = fwG (vw Rc 2 1) (vw Rc 2 2) (vw Gc 2 0 1) (R 64 1) := by
    rw [hw, fwF_eq, e22]; rfl
  have ebl : Rc 6 (Rc 5 2 % 8) = R 64 (24 + 15 * (R 64 23 - 1)) := by
    have := h.2.2.2.1.2.2.2.2.2.2.2.1 (R 64 23 - 1) (by omega)
    rw [tq_last d3] at this
    rw [e52]; exact this
  have hbl : R 64 (24 + 15 * (R 64 23 - 1)) < 64 := by rw [← ebl]; exact h.2.2.2.1.2.2.2.2.2.1 _ (Nat.mod_lt _ (by decide))
  have etu : tuN R = wSpread w (R 64 (24 + 15 * (R 64 23 - 1))) := by
    rw [(turn_w h hw2).2.2 _ hbl]
    unfold tuN stepG
    exact stepM_congr (lv64 0) (by rw [lv64]; exact h.1.2.2.1) (fun v hv => lv69 hv) (fun k hk => lv67 (by omega)) (fun k hk => lv68 (by omega))
  have hmk : (if 8 < Rc 5 3 + 1 then 8 else Rc 5 3 + 1) = kp1 (R 64) := by
    unfold kp1
    rw [e53]
    by_cases z : R 64 23 = 8
    · rw [if_pos (by omega), if_pos z]
    · rw [if_neg (by omega), if_neg z]
  have mc : ∀ a k, ¬ a = 6 → ¬ a = 7 → vw (mtF Rc Gc w) 2 a k = if 2 + a = 3 ∧ k < 3 then mtE Rc Gc w 4 k else mtE Rc Gc w (2 + a) k := fun a k h6 h7 => mt_out (by omega) (by omega)
  have hA := S_turnA (c' := vw (mtF Rc Gc w) 2) (g' := vw (pq_u Gc 7 ((Rc 5 2 + 1) % 8) w) 2) (d' := tuM R 64) h ht hw2 rfl
    (by rw [mc 0 5 (by omega) (by omega), if_neg (by omega), mtE_at, if_neg (by omega), if_neg (by omega), if_neg (by omega), if_pos ⟨rfl, rfl⟩, e25])
    (fun k hk => by rw [mc 0 k (by omega) (by omega), if_neg (by omega), mtE_at, if_neg (by omega), if_neg (by omega), if_neg (by omega), if_neg (by omega)]; rfl)
    (fun k hk => by rw [mc 1 k (by omega) (by omega), if_pos ⟨rfl, hk⟩, mtE_at, if_neg (by omega), if_neg (by omega), if_neg (by omega), if_neg (by omega)]; rfl)
    (fun k hk => by rw [mc 2 k (by omega) (by omega), if_neg (by omega), mtE_at, if_neg (by omega), if_neg (by omega), if_neg (by omega), if_neg (by omega)]; rfl)
    (by rw [mc 3 2 (by omega) (by omega), if_neg (by omega), mtE_at, if_neg (by omega), if_neg (by omega), if_pos ⟨rfl, rfl⟩, e52])
    (by rw [mc 3 3 (by omega) (by omega), if_neg (by omega), mtE_at, if_neg (by omega), if_pos ⟨rfl, rfl⟩, hmk])
    (by rw [mc 4 _ (by omega) (by omega), if_neg (by omega), mtE_at, if_pos ⟨rfl, by rw [e52]⟩, ebl])
    (fun i hi => by rw [mc 4 i (by omega) (by omega), if_neg (by omega), mtE_at, if_neg (by rw [e52]; omega), if_neg (by omega), if_neg (by omega), if_neg (by omega)]; rfl)
    (by unfold vw; rw [e52, pu_at, if_pos ⟨rfl, rfl⟩])
    (fun i hi => by unfold vw; rw [pu_at, if_neg (by rw [e52]; omega)])
    (by unfold vw; rw [pu_off (by omega)])
    q1 q2 q3 q4 q5 q6 (by rw [q7, etu]) q8 q9 q10 q11
  obtain ⟨s1, s2, s3, s4, s5⟩ := hA
  refine ⟨s1, s2, s3, s4, s5, ?_⟩
  have hg0 : vw (pq_u Gc 7 ((Rc 5 2 + 1) % 8) w) 2 0 1 = vw Gc 2 0 1 := by unfold vw; rw [pu_off (by omega)]
  have f2 := h.2.2.2.2.2.2.1
  have f4 := h.2.2.2.2.2.2.2.2.1
  by_cases hf : R 64 17 = 1 ∧ R 64 20 = 0
  · obtain ⟨v1, v2, v3⟩ := tu_ev1 hg hf.1 hf.2
    have h83 : Rc 8 3 = R 64 20 := (h.2.2.2.2.2.2.2.2.2.2.2.2.2.2.2.2.2.2.1 hf.1).2.2.1
    have hfc : ¬ (Rc 8 0 = 0 ∨ Rc 8 3 ≠ 0) := by omega
    obtain ⟨m0, m1, m2, m3, m4, m5, m6, m7⟩ := mt_1 (Rc := Rc) (Gc := Gc) (w := w) hfc
    rw [e25] at m4 m6 m7
    exact S_turnE1 h ht hw2 hf.1 hf.2 m0 m1 m2 m3 m4 m5 m6 m7 hg0 q1 q2 q12 v1 (by rw [q14]; exact v1) v2 v3 q13 q6 (q15 hf.1)
  · have hf0 : R 64 17 = 0 ∨ R 64 20 = 1 := by omega
    obtain ⟨v1, v2, v3⟩ := tu_ev0 hg hf0
    have hfc : Rc 8 0 = 0 ∨ Rc 8 3 ≠ 0 := by
      by_cases z : R 64 17 = 0
      · left; omega
      · right
        have h83 : Rc 8 3 = R 64 20 := (h.2.2.2.2.2.2.2.2.2.2.2.2.2.2.2.2.2.2.1 (by omega)).2.2.1
        omega
    exact S_turnE0 h ht hf0 (fun k hk => mt_0 hfc (Or.inl rfl)) (fun i hi => mt_0 hfc (Or.inr rfl)) hg0 q1 q12 v1 (by rw [q14]; exact v1) v2 v3 q13
end OPF
