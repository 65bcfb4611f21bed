/-! the relation over a turn -/
def kp1 (d : Nat → Nat) : Nat := if d 23 = 8 then 8 else d 23 + 1
def sh0 (d : Nat → Nat) : Nat := if d 23 = 8 then 1 else 0
section OPD
variable {c c' g g' : FF} {d d' : Nat → Nat} {w nb : Nat}
theorem kp_sh (h1 : 1 ≤ d 23) (h8 : d 23 ≤ 8) : kp1 d + sh0 d = d 23 + 1 ∧ 2 ≤ kp1 d ∧ kp1 d ≤ 8 ∧ sh0 d ≤ 1 := by
  unfold kp1 sh0
  split <;> omega
theorem tq_old {r : Nat} (h1 : 1 ≤ d 23) (h8 : d 23 ≤ 8) (h2 : d 23 ≤ d 2 + 1) (hd2 : d' 2 = d 2 + 1) (hd23 : d' 23 = kp1 d) (hr : r < kp1 d - 1) : tq d' r = tq d (r + sh0 d) := by
  have := kp_sh h1 h8
  unfold tq
  rw [hd2, hd23, show d 2 + 1 + r + 1 - kp1 d = d 2 + (r + sh0 d) + 1 - d 23 by omega]
theorem tq_new (h1 : 1 ≤ d 23) (h8 : d 23 ≤ 8) (hd2 : d' 2 = d 2 + 1) (hd23 : d' 23 = kp1 d) : tq d' (kp1 d - 1) = (d 2 + 1) % 8 := by
  have := kp_sh h1 h8
  unfold tq
  rw [hd2, hd23, show d 2 + 1 + (kp1 d - 1) + 1 - kp1 d = d 2 + 1 by omega]
theorem fwG_lt {pos tgt : Nat → Nat} {w : Nat} : ∀ K, fwG pos tgt w K ≤ w := by
  intro K
  induction K with
  | zero => exact Nat.le_refl _
  | succ K ih => exact Nat.le_trans (an_le _ _) ih
theorem fwG_congr {pos tgt pos' tgt' : Nat → Nat} {w : Nat} : ∀ K, (∀ k, k < K → pos k = pos' k ∧ tgt k = tgt' k) → fwG pos tgt w K = fwG pos' tgt' w K := by
  intro K
  induction K with
  | zero => intro _; rfl
  | succ K ih => intro h; unfold fwG; rw [ih (fun k hk => h k (by omega)), (h K (by omega)).1, (h K (by omega)).2]
theorem turn_w (h : Sr c g d) (hw : w = fwG (c 1) (c 2) (g 0 1) (d 1)) : w = fwG (fun k => d (11 + k)) (fun k => d (14 + k)) (g 0 1) (d 1) ∧ w < 2 ^ 36 ∧ ∀ s, s < 64 → wSpread w s = stepG (d 0) (fun v => d (5 + v)) (fun k => d (11 + k)) (fun k => d (14 + k)) (d 1) s := by
  obtain ⟨a, p, s, e, j, f⟩ := h
  have h3 := a.2.2.2.2.1
  have e1 : w = fwG (fun k => d (11 + k)) (fun k => d (14 + k)) (g 0 1) (d 1) := by
    rw [hw]
    exact fwG_congr _ (fun k hk => s.2.1 k hk)
  refine ⟨e1, ?_, fun x hx => ?_⟩
  · rw [hw]; exact Nat.lt_of_le_of_lt (fwG_lt _) p.2.1
  · rw [e1]
    exact spread_step p hx rfl (fun _ _ => rfl) (fun _ _ => rfl) (fun _ _ => rfl) (fun k hk => ⟨(s.1 k (by omega)).2.2.1, (s.1 k (by omega)).2.2.2⟩)
theorem S_turnA (h : Sr c g d) (ht : d 2 < 10000) (hw : w = fwG (c 1) (c 2) (g 0 1) (d 1)) (hnb : nb = wSpread w (d (24 + 15 * (d 23 - 1))))
    (hc05 : c' 0 5 = d 2 + 1) (hc0 : ∀ k, ¬ k = 5 → c' 0 k = c 0 k) (hc1 : ∀ k, k < 3 → c' 1 k = c 2 k) (hc2 : ∀ k, k < 3 → c' 2 k = c 2 k) (hc32 : c' 3 2 = d 2 + 1) (hc33 : c' 3 3 = kp1 d) (hc4 : c' 4 ((d 2 + 1) % 8) = nb) (hc4o : ∀ i, ¬ i = (d 2 + 1) % 8 → c' 4 i = c 4 i) (hg5 : g' 5 ((d 2 + 1) % 8) = w) (hg5o : ∀ i, ¬ i = (d 2 + 1) % 8 → g' 5 i = g 5 i) (hg0 : g' 0 1 = g 0 1)
    (hd2 : d' 2 = d 2 + 1) (hd23 : d' 23 = kp1 d) (hdl : ∀ j, j < 11 → ¬ j = 2 → d' j = d j) (hd11 : ∀ k, k < 3 → d' (11 + k) = if k < d 1 then d (14 + k) else d (11 + k)) (hd14 : ∀ k, k < 3 → d' (14 + k) = d (14 + k)) (hrec : ∀ r o, r < kp1 d - 1 → o < 15 → d' (24 + 15 * r + o) = d (24 + 15 * (r + sh0 d) + o)) (hl0 : d' (24 + 15 * (kp1 d - 1)) = nb) (hl2 : ∀ v, v < 6 → d' (24 + 15 * (kp1 d - 1) + 2 + v) = d (5 + v)) (hl8 : d' (24 + 15 * (kp1 d - 1) + 8) = d 1) (hl9 : ∀ k, k < 3 → d' (24 + 15 * (kp1 d - 1) + 9 + k) = d (11 + k)) (hl12 : ∀ k, k < 3 → d' (24 + 15 * (kp1 d - 1) + 12 + k) = d (14 + k)) : SA c' d' ∧ pRd g' d' ∧ SC c' d' ∧ SD c' g' d' ∧ SJ d' := by
  obtain ⟨tw1, tw2, tw3⟩ := turn_w h hw
  obtain ⟨a, p, s, e, j, f⟩ := h
  obtain ⟨a1, a2, a3, a4, a5, a6, a7, a8, a9, a10, a11⟩ := a
  obtain ⟨d1, d2, d3, d4, d5, d6, d7, d8, d9⟩ := e
  obtain ⟨k1, k2, k3, k4⟩ := kp_sh d3 d4
  have hbl : d (24 + 15 * (d 23 - 1)) < 64 := by rw [← d8 (d 23 - 1) (by omega)]; exact d6 _ (tq_lt _ _)
  have enb : nb = stepG (d 0) (fun v => d (5 + v)) (fun k => d (11 + k)) (fun k => d (14 + k)) (d 1) (d (24 + 15 * (d 23 - 1))) := by rw [hnb]; exact tw3 _ hbl
  have hnb64 : nb < 64 := by rw [enb]; exact stepG_lt a3
  have hdj := stepG_dj (K := d 1) (pos := fun k => d (11 + k)) (tgt := fun k => d (14 + k)) p hbl
  rw [← enb] at hdj
  have e0 := hdl 0 (by omega) (by omega)
  have e1 := hdl 1 (by omega) (by omega)
  refine ⟨?_, pRd_c p hg0 (fun i hi => hdl i (by omega) (by omega)), ⟨fun k hk => ?_, fun k hk => ?_, fun k hk => ?_⟩, ⟨by rw [hc32, hd2], by rw [hc33, hd23], by omega, by omega, by omega, fun i hi => ?_, fun i hi => ?_, fun r hr => ?_, fun r h1 hr => ?_⟩, ⟨fun k hk => ?_, fun v hv => ?_⟩⟩
  · unfold SA
    rw [hc0 0 (by omega), hc0 2 (by omega), hc05, hc0 6 (by omega), hc0 7 (by omega), e0, e1, hd2, hdl 3 (by omega) (by omega), hdl 4 (by omega) (by omega)]
    exact ⟨a1, a2, a3, a4, a5, rfl, by omega, a8, a9, a10, a11⟩
  · obtain ⟨s1, s2, s3, s4⟩ := s.1 k hk
    rw [hc1 k hk, hc2 k hk, hd11 k hk, hd14 k hk]
    refine ⟨s2, s2, ?_, s4⟩
    split
    · exact s4
    · exact s3
  · rw [e1] at hk
    rw [hc1 k (by omega), hc2 k (by omega), hd11 k (by omega), hd14 k (by omega), if_pos hk]
    exact ⟨(s.2.1 k hk).2, (s.2.1 k hk).2⟩
  · rw [e1] at hk
    rw [hd11 k (by omega), hd14 k (by omega), if_pos hk]
    exact Or.inl rfl
  · by_cases z : i = (d 2 + 1) % 8
    · rw [z, hc4]; exact hnb64
    · rw [hc4o i z]; exact d6 i hi
  · by_cases z : i = (d 2 + 1) % 8
    · rw [z, hg5]; exact Nat.lt_trans tw2 (by decide)
    · rw [hg5o i z]; exact d7 i hi
  · rw [hd23] at hr
    by_cases z : r = kp1 d - 1
    · subst z
      rw [tq_new d3 d4 hd2 hd23, hc4, hl0]
    · have hne := tq_ne (d := d') (by omega) (by omega) (show r < d' 23 by omega) (show kp1 d - 1 < d' 23 by omega) z
      rw [tq_new d3 d4 hd2 hd23] at hne
      rw [hc4o _ hne, tq_old d3 d4 d5 hd2 hd23 (by omega), d8 _ (by omega)]
      have := hrec r 0 (by omega) (by omega)
      rw [Nat.add_zero, Nat.add_zero] at this
      exact this.symm
  · rw [hd23] at hr
    by_cases z : r = kp1 d - 1
    · subst z
      rw [tq_new d3 d4 hd2 hd23, hg5]
      refine ⟨by rw [hl8]; exact a5, fun k hk => ?_, fun x hx => ?_⟩
      · rw [hl9 k hk, hl12 k hk]; exact ⟨(s.1 k hk).2.2.1, (s.1 k hk).2.2.2⟩
      · rw [tw3 x hx, e0, hl8]
        exact stepG_congr a3 (fun v hv => (hl2 v hv).symm) (fun k hk => (hl9 k (by omega)).symm) (fun k hk => (hl12 k (by omega)).symm)
    · have hne := tq_ne (d := d') (by omega) (by omega) (show r < d' 23 by omega) (show kp1 d - 1 < d' 23 by omega) z
      rw [tq_new d3 d4 hd2 hd23] at hne
      rw [hg5o _ hne, tq_old d3 d4 d5 hd2 hd23 (by omega)]
      exact rO_c (d9 (r + sh0 d) (by omega) (by omega)) a3 e0 (fun o h1 h2 => hrec r o (by omega) h2)
  · rw [e1] at hk
    rw [hd23, hl0, hd11 k (by omega), if_pos hk]
    exact hdj.1 k hk
  · rw [hd23, hl0] at hv
    rw [e0]; exact hdj.2 v hv
/-- whether the evader is caught in a turn -/
def hitM (d : Nat → Nat) : Prop := ∃ k, k < d 1 ∧ (d (14 + k) = d 19 ∨ (¬ d 18 = d 19 ∧ d (11 + k) = d 19 ∧ d (14 + k) = d 18))
theorem hit_iff (h : Sr c g d) (h17 : d 17 = 1) (hw : w = fwG (c 1) (c 2) (g 0 1) (d 1)) : w.testBit (6 * d 18 + d 19) = true ↔ ¬ hitM d := by
  obtain ⟨tw1, tw2, tw3⟩ := turn_w h hw
  obtain ⟨a, p, s, e, j, f⟩ := h
  obtain ⟨f1, f2, f3, f4, f5, f6, f7, f8, f9, f10, f11, f12, f13, f14, f15⟩ := f
  obtain ⟨b1, b2, b3, b4, b5, b6, b7, b8⟩ := f14 h17
  have h3 := a.2.2.2.2.1
  rw [tw1, fwG_bit f9 f10 _ (fun k hk => ⟨(s.1 k (by omega)).2.2.1, (s.1 k (by omega)).2.2.2⟩)]
  unfold hitM
  constructor
  · rintro ⟨_, z⟩ ⟨k, hk, y⟩
    obtain ⟨z1, z2⟩ := z k hk
    rcases y with y | ⟨_, y2, y3⟩
    · exact z1 y.symm
    · exact z2 ⟨y3.symm, y2.symm⟩
  · intro z
    refine ⟨b6, fun k hk => ⟨fun y => z ⟨k, hk, Or.inl y.symm⟩, fun y => ?_⟩⟩
    by_cases q : d 18 = d 19
    · exact z ⟨k, hk, Or.inl (by rw [← y.1, q])⟩
    · exact z ⟨k, hk, Or.inr ⟨q, y.2.symm, y.1.symm⟩⟩
theorem S_turnE1 (h : Sr c g d) (ht : d 2 < 10000) (hw : w = fwG (c 1) (c 2) (g 0 1) (d 1)) (h17 : d 17 = 1) (h20 : d 20 = 0)
    (hc0 : c' 6 0 = c 6 0) (hc1 : c' 6 1 = c 6 2) (hc2 : c' 6 2 = c 6 2) (hc3 : c' 6 3 = if w.testBit (6 * c 6 1 + c 6 2) = true then c 6 3 else 1) (hc4 : c' 6 4 = if w.testBit (6 * c 6 1 + c 6 2) = true then c 6 4 else d 2 + 1) (hc5 : c' 6 5 = c 6 5) (hc7 : c' 7 ((d 2 + 1) % 8) = c 6 2) (hc7o : ∀ i, ¬ i = (d 2 + 1) % 8 → c' 7 i = c 7 i) (hg0 : g' 0 1 = g 0 1)
    (hd2 : d' 2 = d 2 + 1) (hd23 : d' 23 = kp1 d) (hd17 : d' 17 = d 17) (hd18 : d' 18 = d 19) (hd19 : d' 19 = d 19) (hd20a : hitM d → d' 20 = 1 ∧ d' 21 = d 2 + 1) (hd20b : ¬ hitM d → d' 20 = d 20 ∧ d' 21 = d 21) (hd22 : d' 22 = d 22) (hrec : ∀ r o, r < kp1 d - 1 → o < 15 → d' (24 + 15 * r + o) = d (24 + 15 * (r + sh0 d) + o)) (hl1 : d' (24 + 15 * (kp1 d - 1) + 1) = d' 18) : SE c' g' d' := by
  have hit := hit_iff h h17 hw
  obtain ⟨a, p, s, e, j, f⟩ := h
  obtain ⟨d1, d2, d3, d4, d5, d6, d7, d8, d9⟩ := e
  obtain ⟨k1, k2, k3, k4⟩ := kp_sh d3 d4
  obtain ⟨f1, f2, f3, f4, f5, f6, f7, f8, f9, f10, f11, f12, f13, f14, f15⟩ := f
  obtain ⟨b1, b2, b3, b4, b5, b6, b7, b8⟩ := f14 h17
  obtain ⟨q1, q2⟩ := f15 h17 h20
  rw [b1, b2] at hc3 hc4
  have h19n : d 19 < d 0 := by
    rw [p.2.2.1 (d 18) (d 19) f9 f10] at b6
    rcases b6 with z | z
    · omega
    · exact (p.2.2.2.2.2 _ _ f9 z).2
  have hp99 : (g 0 1).testBit (6 * d 19 + d 19) = true := by rw [p.2.2.1 (d 19) (d 19) f10 f10]; exact Or.inl ⟨rfl, h19n⟩
  have h34 : c' 6 3 = d' 20 ∧ c' 6 4 = d' 21 ∧ d' 20 ≤ 1 ∧ d' 21 ≤ 10000 := by
    by_cases z : hitM d
    · obtain ⟨z1, z2⟩ := hd20a z
      have hwf : ¬ w.testBit (6 * d 18 + d 19) = true := fun y => (hit.mp y) z
      rw [hc3, hc4, if_neg hwf, if_neg hwf, z1, z2]
      exact ⟨rfl, rfl, by omega, by omega⟩
    · obtain ⟨z1, z2⟩ := hd20b z
      rw [hc3, hc4, if_pos (hit.mpr z), if_pos (hit.mpr z), z1, z2]
      exact ⟨b3, b4, f4, f11⟩
  unfold SE
  rw [hc0, hc1, hc2, hc5, hd2, hd17, hd18, hd19, hd22, hd23, hg0, h34.1, h34.2.1]
  refine ⟨f1, f2, h34.2.2.1, h34.2.2.1, f6, f6, h34.2.2.2, f8, f10, f10, h34.2.2.2, f12, fun i hi => ?_, fun _ => ⟨b2, b2, rfl, rfl, b5, hp99, by omega, fun _ => rfl⟩, fun _ z => ⟨by rw [hl1, hd18], fun r hr y => ?_⟩⟩
  · by_cases z : i = (d 2 + 1) % 8
    · rw [z, hc7]; exact f6
    · rw [hc7o i z]; exact f13 i hi
  · by_cases x : r = kp1 d - 1
    · subst x
      rw [tq_new d3 d4 hd2 hd23, hc7, hl1, hd18]; exact b2
    · have hne := tq_ne (d := d') (by omega) (by omega) (show r < d' 23 by omega) (show kp1 d - 1 < d' 23 by omega) x
      rw [tq_new d3 d4 hd2 hd23] at hne
      rw [hc7o _ hne, tq_old d3 d4 d5 hd2 hd23 (by omega), hrec r 1 (by omega) (by omega)]
      exact q2 (r + sh0 d) (by omega) (by omega)
theorem S_turnE0 (h : Sr c g d) (ht : d 2 < 10000) (hf : d 17 = 0 ∨ d 20 = 1) (hc6 : ∀ k, k < 6 → c' 6 k = c 6 k) (hc7 : ∀ i, i < 8 → c' 7 i = c 7 i) (hg0 : g' 0 1 = g 0 1) (hd2 : d' 2 = d 2 + 1) (hd17 : d' 17 = d 17) (hd18 : d' 18 = d 18) (hd19 : d' 19 = d 18) (hd20 : d' 20 = d 20) (hd21 : d' 21 = d 21) (hd22 : d' 22 = d 22) : SE c' g' d' := by
  obtain ⟨a, p, s, e, j, f⟩ := h
  obtain ⟨f1, f2, f3, f4, f5, f6, f7, f8, f9, f10, f11, f12, f13, f14, f15⟩ := f
  unfold SE
  rw [hc6 0 (by omega), hc6 1 (by omega), hc6 2 (by omega), hc6 3 (by omega), hc6 4 (by omega), hc6 5 (by omega), hd2, hd17, hd18, hd19, hd20, hd21, hd22, hg0]
  refine ⟨f1, f2, f3, f4, f5, f6, f7, f8, f9, f9, f11, f12, fun i hi => by rw [hc7 i hi]; exact f13 i hi, fun z => ?_, fun z1 z2 => by omega⟩
  obtain ⟨b1, b2, b3, b4, b5, b6, b7, b8⟩ := f14 z
  have h20 : d 20 = 1 := by omega
  have e := b8 h20
  rw [← e] at b6 b2
  exact ⟨b1, b2, b3, b4, b5, b6, by omega, fun _ => rfl⟩
end OPD
