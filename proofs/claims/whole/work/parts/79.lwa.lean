/-! one call of the law: both answer alike, and the relation holds behind it -/
def Bo (L : Nat) (xs : Nat → Int32) (jc jm : Nat) (as : List Value) (F G : FF) (h : Nat → Nat) : Prop := pq_Ca 30 jc (.ref 1 :: as) (pq_Sh L, pn F, pl G, pq_rt h) (fun r M' => ∃ (x : Int32) (F1 G1 : FF) (h1 : Nat → Nat), r = some (.int x) ∧ M' = (pq_Sh L, pn F1, pl G1, pq_rt h1) ∧ (∀ j, nI (F1 0 j) = xs j) ∧ pq_Ca 30 jm (.ref 63 :: as) (pq_Sh L, pn F1, pl G1, pq_rt h1) (fun r2 M2 => r2 = some (.int x) ∧ ∃ F2 : FF, M2 = (pq_Sh L, pn F2, pl G1, pq_rt h1) ∧ J xs F2 G1 h1))
theorem Bo_mk {L : Nat} {xs : Nat → Int32} {jc jm d1 d2 : Nat} {as : List Value} {F G F1 G1 F2 : FF} {h h1 : Nat → Nat} {x y : Int32} (hc : pq_Ca d1 jc (.ref 1 :: as) (pq_Sh L, pn F, pl G, pq_rt h) (fun r M' => r = some (.int x) ∧ M' = (pq_Sh L, pn F1, pl G1, pq_rt h1))) (hm : pq_Ca d2 jm (.ref 63 :: as) (pq_Sh L, pn F1, pl G1, pq_rt h1) (fun r M' => r = some (.int y) ∧ M' = (pq_Sh L, pn F2, pl G1, pq_rt h1))) (hd1 : d1 ≤ 30) (hd2 : d2 ≤ 30) (hxy : x = y) (hJ : (∀ j, nI (F1 0 j) = xs j) ∧ J xs F2 G1 h1) : Bo L xs jc jm as F G h := by
  refine (hc.le hd1).mono ?_
  rintro r M' ⟨rfl, rfl⟩
  refine ⟨x, F1, G1, h1, rfl, rfl, hJ.1, (hm.le hd2).mono ?_⟩
  rintro r M' ⟨rfl, rfl⟩
  exact ⟨by rw [hxy], F2, rfl, hJ.2⟩
theorem Bo_m0 {L : Nat} {xs : Nat → Int32} {jc jm d1 d2 : Nat} {as : List Value} {F G F1 G1 : FF} {h h1 : Nat → Nat} {x y : Int32} (hc : pq_Ca d1 jc (.ref 1 :: as) (pq_Sh L, pn F, pl G, pq_rt h) (fun r M' => r = some (.int x) ∧ M' = (pq_Sh L, pn F1, pl G1, pq_rt h1))) (hm : pq_Ca d2 jm (.ref 63 :: as) (pq_Sh L, pn F1, pl G1, pq_rt h1) (fun r M' => r = some (.int y) ∧ M' = (pq_Sh L, pn F1, pl G1, pq_rt h1))) (hd1 : d1 ≤ 30) (hd2 : d2 ≤ 30) (hxy : x = y) (hJ : J xs F1 G1 h1) : Bo L xs jc jm as F G h := Bo_mk hc hm hd1 hd2 hxy ⟨hJ.2.2.2.2.2.2.2.2, hJ⟩
theorem J_opp {F G F1 G1 F2 : FF} {h : Nat → Nat} {xs : Nat → Int32} (hJ : J xs F G h) (hC : ∀ p j, p = 0 ∨ p = 1 ∨ 10 ≤ p → F1 p j = rmF F h p j) (hCG : ∀ p j, 10 ≤ p → G1 p j = rmG F G h p j) (hM : ∀ p j, p < 67 → ¬ p = 64 → F2 p j = rcM F1 p j) (hS : Sr (vw F2 2) (vw G1 2) (F2 64)) : (∀ j, nI (F1 0 j) = xs j) ∧ J xs F2 G1 (rmH F h) := by
  refine ⟨fun j => ?_, J_op hJ hC hCG hM hS⟩
  rw [hC 0 j (by omega), rmF_off hJ.1 (Or.inl (by omega)) (by omega)]
  exact hJ.2.2.2.2.2.2.2.2 j
theorem Bo_ag {L : Nat} {xs : Nat → Int32} {jc jm d1 d2 : Nat} {as : List Value} {F G F1 G1 : FF} {h h1 : Nat → Nat} {x y : Int32} (hc : pq_Ca d1 jc (.ref 1 :: as) (pq_Sh L, pn F, pl G, pq_rt h) (fun r M' => r = some (.int x) ∧ M' = (pq_Sh L, pn F1, pl G1, pq_rt h1))) (hm : pq_Ca d2 jm (.ref 63 :: as) (pq_Sh L, pn F1, pl G1, pq_rt h1) (fun r M' => r = some (.int y) ∧ ∃ F2 : FF, M' = (pq_Sh L, pn F2, pl G1, pq_rt h1) ∧ ag2 F2 F1)) (hd1 : d1 ≤ 30) (hd2 : d2 ≤ 30) (hxy : x = y) (hJ : ∀ F2, ag2 F2 F1 → J xs F2 G1 h1) : Bo L xs jc jm as F G h := by
  refine (hc.le hd1).mono ?_
  rintro r M' ⟨rfl, rfl⟩
  refine ⟨x, F1, G1, h1, rfl, rfl, (hJ F1 (fun _ _ _ => rfl)).2.2.2.2.2.2.2.2, (hm.le hd2).mono ?_⟩
  rintro r M' ⟨rfl, F2, rfl, h2⟩
  exact ⟨by rw [hxy], F2, rfl, hJ F2 h2⟩
section LWA
variable {L : Nat} {F G : FF} {h : Nat → Nat} {xs : Nat → Int32}
theorem sit0_c {F F' : FF} (h' : ∀ p j, 2 ≤ p → p ≤ 9 → F' p j = F p j) : sit0 F' = sit0 F := by
  unfold sit0
  have e : ∀ K, nmF F' 3 K = nmF F 3 K := by
    intro K
    induction K with
    | zero => rfl
    | succ K ih => unfold nmF; rw [ih, h' 3 K (by omega) (by omega)]
  rw [e, h' 2 2 (by omega) (by omega), h' 6 _ (by omega) (by omega), h' 2 5 (by omega) (by omega)]
/-- the model's scratch rows don't count -/
theorem J_scr {F2 : FF} (hJ : J xs F G h) (ha : ∀ p j, p < 67 → F2 p j = F p j) : J xs F2 G h := by
  obtain ⟨j1, j2, j3, j4, j5, j6, j7, j8, j9⟩ := hJ
  have hh := j1.2
  refine ⟨⟨by rw [ha 1 2 (by omega)]; exact j1.1, hh⟩, by rw [ha 63 2 (by omega), ha 1 2 (by omega)]; exact j2, ?_, fun i hi => ?_, ⟨?_, ?_, fun i hi => ?_, fun i hi => ?_⟩, by rw [ha 1 6 (by omega)]; exact j6, fun z => ?_, ⟨fun s hs => ?_, ?_⟩, fun j => by rw [ha 0 j (by omega)]; exact j9 j⟩
  · exact Sr_c j3 (fun a b hs => by unfold vw; exact ha _ _ (by unfold slF at hs; omega)) (fun _ _ _ => rfl) (fun j hj => ha 64 j (by omega))
  · rw [ha 1 2 (by omega)] at hi
    have hr := h_rng hh (show i < 5 by have := j1.1; omega)
    exact Sr_c (j4 i hi) (fun a b hs => by unfold vw; exact ha _ _ (by unfold slF at hs; omega)) (fun _ _ _ => rfl) (fun j hj => ha 65 _ (by omega))
  · rw [ha 63 4 (by omega), ha 1 4 (by omega)]; exact j5.1
  · rw [ha 1 4 (by omega)]; exact j5.2.1
  · rw [ha 51 i (by omega), ha 66 i (by omega)]; exact j5.2.2.1 i hi
  · rw [ha 1 4 (by omega)] at hi
    rw [ha 51 i (by omega), ha 66 i (by omega)]; exact j5.2.2.2 i hi
  · rw [ha 1 6 (by omega)] at z
    obtain ⟨g1, Z, g2, g3⟩ := j7 z
    refine ⟨by rw [ha 52 2 (by omega), ha 2 2 (by omega)]; exact g1, Z, ?_, cRes_of g3 (ha 52 8 (by omega)) (fun s => ha 54 s (by omega))⟩
    rw [ha 2 0 (by omega), ha 2 2 (by omega), sit0_c (fun p j _ _ => ha p j (by omega))]; exact g2
  · rw [ha 54 s (by omega), ha 58 s (by omega), ha 62 s (by omega)]; exact j8.1 s hs
  · rw [ha 60 5 (by omega)]; exact j8.2
theorem J_scrp {F2 : FF} (hJ : J xs F G h) (ha : ∀ p j, p < 67 → F2 p j = F p j) : (∀ j, nI (F 0 j) = xs j) ∧ J xs F2 G h := ⟨hJ.2.2.2.2.2.2.2.2, J_scr hJ ha⟩
theorem J_ag2 {F2 : FF} (hJ : J xs F G h) (ha : ag2 F2 F) : J xs F2 G h := J_scr hJ (fun p j hp => ha p j (by omega))
theorem J_g5 (hJ : J xs F G h) : F 63 2 ≤ 5 := by have := hJ.1.1; have := hJ.2.1; omega
theorem J_nOk (hJ : J xs F G h) : nOk F G := Sr_nOk hJ.2.2.1
theorem J_gOk (hJ : J xs F G h) : gOk F := Sr_gOk hJ.2.2.1 (J_g5 hJ)
theorem J_e (hJ : J xs F G h) : F 2 0 = F 64 0 ∧ F 2 2 = F 64 1 ∧ F 2 5 = F 64 2 ∧ F 2 6 = F 64 3 ∧ F 2 7 = F 64 4 ∧ F 5 2 = F 64 2 ∧ F 5 3 = F 64 23 ∧ F 8 0 = F 64 17 := by
  obtain ⟨_, _, ⟨⟨a1, a2, a3, a4, a5, a6, a7, a8, a9, a10, a11⟩, _, _, ⟨d1, d2, _⟩, _, ⟨e1, _⟩⟩, _⟩ := hJ
  exact ⟨a1, a4, a6, a8, a10, d1, d2, e1⟩
theorem J_bel (hJ : J xs F G h) {t : Nat} (ht : t ≤ F 64 2) (hk : F 64 2 - t < F 64 23) : F 6 (t % 8) = F 64 (24 + 15 * (F 64 23 - 1 - (F 64 2 - t))) := by
  have := hJ.2.2.1.2.2.2.1.2.2.2.2.2.2.2.1 (F 64 23 - 1 - (F 64 2 - t)) (by omega)
  have d5 := hJ.2.2.1.2.2.2.1.2.2.2.2.1
  unfold tq at this
  rw [show F 64 2 + (F 64 23 - 1 - (F 64 2 - t)) + 1 - F 64 23 = t by omega] at this
  exact this
theorem J_bel0 (hJ : J xs F G h) : F 6 (F 2 5 % 8) = F 64 (24 + 15 * (F 64 23 - 1)) := by
  have h1 := hJ.2.2.1.2.2.2.1.2.2.1
  have := J_bel hJ (Nat.le_refl _) (by omega)
  rw [(J_e hJ).2.2.1, this, Nat.sub_self, Nat.sub_zero]
theorem b_belief (hJ : J xs F G h) : Bo L xs 77 116 [] F G h := by
  have hg := J_gOk hJ
  exact Bo_m0 (c_belief (d := 0)) (g_belief (d := 0) hg.2.2.2.2.2.2.2.2.2.2.2.2.2.2.2.1 hg.2.2.2.2.2.2.2.2.2.2.2.2.2.2.2.2.1) (by omega) (by omega) (by rw [J_bel0 hJ]) hJ
theorem b_bafter (hJ : J xs F G h) (x : Int32) : Bo L xs 78 117 [.int x] F G h := by
  have hg := J_gOk hJ
  have hn := J_nOk hJ
  obtain ⟨e0, e1, e2, e3, e4, e5, e6, e7⟩ := J_e hJ
  have h2 := hg.2.2.2.1
  rcases pk_ix x (n := F 64 2 + 1) (by omega) with hx | hx | ⟨t, ht, rfl⟩
  · exact Bo_m0 (o_bafter0 (d := 0) (Or.inl hx)) (g_bafter0 (d := 0) (Or.inl hx)) (by omega) (by omega) rfl hJ
  · have hlt : nI (F 64 2) < x := Int32.lt_of_lt_of_le (nI_lt (by omega) (by omega)) hx
    exact Bo_m0 (o_bafter0 (d := 0) (Or.inr (by rw [e2]; exact hlt))) (g_bafter0 (d := 0) (Or.inr hlt)) (by omega) (by omega) rfl hJ
  · by_cases hk : F 64 2 - t < F 64 23
    · refine Bo_m0 (o_bafter (d := 0) hn (by omega)) (g_bafter (d := 0) hg (by omega) hk) (by omega) (by omega) ?_ hJ
      rw [if_pos (by omega), J_bel hJ (by omega) hk]
    · refine Bo_m0 (o_bafter (d := 0) hn (by omega)) (g_bafter4 (d := 0) hg (by omega) hk) (by omega) (by omega) ?_ hJ
      rw [if_neg (by omega)]
theorem ix_node (x : Int32) {n : Nat} (hn : n < 2 ^ 31) : (x < 0 ∨ nI n ≤ x) ∨ ∃ j, j < n ∧ x = nI j := by
  rcases pk_ix x hn with z | z | z
  · exact Or.inl (Or.inl z)
  · exact Or.inl (Or.inr z)
  · exact Or.inr z
theorem b_neigh (hJ : J xs F G h) (x : Int32) : Bo L xs 83 129 [.int x] F G h := by
  have hg := J_gOk hJ
  have hn := J_nOk hJ
  obtain ⟨e0, e1, e2, e3, e4, e5, e6, e7⟩ := J_e hJ
  have h6 := hg.2.1
  rcases ix_node x (n := F 64 0) (by omega) with hx | ⟨v, hv, rfl⟩
  · exact Bo_m0 (o_neigh0 (d := 0) (by rw [e0]; exact hx)) (g_neigh0 (d := 0) hg hx) (by omega) (by omega) rfl hJ
  · refine Bo_m0 (o_neigh (d := 0) hn.1 hn.2.2.2.2.2.1 (by omega)) (g_neigh (d := 0) hg hv) (by omega) (by omega) ?_ hJ
    have hp := hJ.2.2.1.2.1
    have key : an (wFrom (G 2 1) v) (1 <<< v) = F 64 (5 + v) := by
      apply bit_ext
      intro i
      rw [an1_bit, wFrom_bit]
      constructor
      · rintro ⟨⟨h1, h2⟩, h3⟩
        rcases (hp.2.2.1 v i (by omega) h1).mp h2 with z | z
        · exact absurd z.1.symm h3
        · exact z
      · intro z
        have h1 := (hp.2.2.2.2.2 v i (by omega) z).2
        refine ⟨⟨by omega, (hp.2.2.1 v i (by omega) (by omega)).mpr (Or.inr z)⟩, fun e => ?_⟩
        rw [e] at z
        have := (hp.2.2.2.1 v (by omega)).2
        rw [show F 64 (5 + v) = (fun u => F 64 (5 + u)) v from rfl, this] at z
        cases z
    rw [key]
theorem b_searcher (hJ : J xs F G h) (x y : Int32) : Bo L xs 84 130 [.int x, .int y] F G h := by
  have hg := J_gOk hJ
  have hn := J_nOk hJ
  obtain ⟨e0, e1, e2, e3, e4, e5, e6, e7⟩ := J_e hJ
  have h3 := hg.2.2.1
  rcases ix_node x (n := F 64 1) (by omega) with hx | ⟨k, hk, rfl⟩
  · exact Bo_m0 (o_searcher0 (d := 0) (by rw [e1]; exact hx)) (g_searcher0 (d := 0) hg hx) (by omega) (by omega) rfl hJ
  · rcases ix_node y (n := 2) (by omega) with hy | ⟨w, hw, rfl⟩
    · have hy2 : y < 0 ∨ nI 1 < y := hy.imp id (fun z => Int32.lt_of_lt_of_le (by decide) z)
      exact Bo_m0 (o_searcher1 (d := 0) hn.2.1 (by omega) hy2) (g_searcher1 (d := 0) hg hk hy2) (by omega) (by omega) rfl hJ
    · refine Bo_m0 (o_searcher (d := 0) hn.2.1 (by omega) hw) (g_searcher (d := 0) hg hk (by omega)) (by omega) (by omega) ?_ hJ
      obtain ⟨s1, s2⟩ := hJ.2.2.1.2.2.1.2.1 k hk
      rcases (show w = 0 ∨ w = 1 by omega) with rfl | rfl
      · rw [show F (3 + 0) k = F 64 (11 + k) from s1]
      · rw [show F (3 + 1) k = F 64 (14 + k) from s2]
theorem b_evader (hJ : J xs F G h) (x : Int32) : Bo L xs 88 134 [.int x] F G h := by
  have hg := J_gOk hJ
  have hn := J_nOk hJ
  obtain ⟨e0, e1, e2, e3, e4, e5, e6, e7⟩ := J_e hJ
  rcases ix_node x (n := 5) (by omega) with hx | ⟨k, hk, rfl⟩
  · have hx2 : x < 0 ∨ nI 4 < x := hx.imp id (fun z => Int32.lt_of_lt_of_le (by decide) z)
    exact Bo_m0 (o_evader0 (d := 0) hx2) (g_evader0 (d := 0) hx2) (by omega) (by omega) rfl hJ
  · have h17 := hg.2.2.2.2.2.2.2.2.2.1
    by_cases z : F 64 17 = 0
    · refine Bo_m0 (o_evader (d := 0) hn hk) (g_evader4 (d := 0) (by omega) z) (by omega) (by omega) ?_ hJ
      rw [if_pos (by omega)]
    · refine Bo_m0 (o_evader (d := 0) hn hk) (g_evader (d := 0) (by omega) (by omega)) (by omega) (by omega) ?_ hJ
      rw [if_neg (by omega)]
      obtain ⟨b1, b2, b3, b4, b5, _⟩ := hJ.2.2.1.2.2.2.2.2.2.2.2.2.2.2.2.2.2.2.2.2.2.1 (by omega)
      rcases (show k = 0 ∨ k = 1 ∨ k = 2 ∨ k = 3 ∨ k = 4 by omega) with rfl | rfl | rfl | rfl | rfl
      · rw [show F 8 (0 + 1) = F 64 18 from b1]
      · rw [show F 8 (1 + 1) = F 64 19 from b2]
      · rw [show F 8 (2 + 1) = F 64 20 from b3]
      · rw [show F 8 (3 + 1) = F 64 21 from b4]
      · rw [show F 8 (4 + 1) = F 64 22 from b5]
theorem b_ahead (hJ : J xs F G h) : Bo L xs 89 135 [] F G h := by
  have hg := J_gOk hJ
  have hn := J_nOk hJ
  obtain ⟨e0, e1, e2, e3, e4, e5, e6, e7⟩ := J_e hJ
  refine Bo_mk (o_ahead (d := 0) hn) (g_ahead (d := 0) hg) (by omega) (by omega) ?_ (J_scrp hJ (fun p j hp => lv_off (by omega)))
  have hS := hJ.2.2.1
  have hw : fwF F G 4 (F 2 2) = fwG (vw F 2 1) (vw F 2 2) (vw G 2 0 1) (F 64 1) := by rw [fwF_eq, e1]; rfl
  have hb := J_bel0 hJ
  have hbl : F 64 (24 + 15 * (F 64 23 - 1)) < 64 := hg.2.2.2.2.2.2.2.2.2.2.2.2.2.2.2.2.2.2.1 _ (by have := hS.2.2.2.1.2.2.1; omega)
  have h3 := hg.2.2.1
  rw [hb, (turn_w hS hw).2.2 _ hbl]
  have : stepM (lvM F 5 11 14 6 3) (F 64 1) (F 64 (la F)) = stepG (F 64 0) (fun v => F 64 (5 + v)) (fun k => F 64 (11 + k)) (fun k => F 64 (14 + k)) (F 64 1) (F 64 (24 + 15 * (F 64 23 - 1))) := by
    unfold stepG la
    exact stepM_congr (lv64 0) (by rw [lv64]; exact hg.2.1) (fun v hv => lv69 hv) (fun k hk => lv67 (by omega)) (fun k hk => lv68 (by omega))
  rw [this]
theorem b_settles (hJ : J xs F G h) : Bo L xs 94 136 [] F G h := by
  have hg := J_gOk hJ
  have hn := J_nOk hJ
  obtain ⟨e0, e1, e2, e3, e4, e5, e6, e7⟩ := J_e hJ
  have hS := hJ.2.2.1
  have h3 := hg.2.2.1
  have hbl : F 64 (24 + 15 * (F 64 23 - 1)) < 64 := hg.2.2.2.2.2.2.2.2.2.2.2.2.2.2.2.2.2.2.1 _ (by have := hS.2.2.2.1.2.2.1; omega)
  have e64 : ∀ j, sfM (lvM F 5 11 14 6 3) 3 64 j = F 64 j := fun j => by rw [sf64, lv64]
  have hw : fwF F G 3 (F 2 2) = fwG (fun k => F 64 (11 + k)) (fun k => F 64 (11 + k)) (G 2 1) (F 64 1) := by
    rw [fwF_eq, e1]
    exact fwG_congr _ (fun k hk => ⟨(hS.2.2.1.2.1 k hk).1, (hS.2.2.1.2.1 k hk).1⟩)
  obtain ⟨m, m1, m2, m3, m4⟩ := settles_eq (F := sfM (lvM F 5 11 14 6 3) 3) (pos := fun k => F 64 (11 + k)) (K := F 64 1) (pa := G 2 1) hS.2.1 (e64 0) (fun v hv => by simp only [sfM]; rw [if_neg (by omega), lv69 hv]) (fun k hk => by simp only [sfM]; rw [if_neg (by omega), lv67 (by omega)]) (fun k hk => by simp only [sfM]; rw [if_pos ⟨trivial, by omega⟩, lv67 (by omega)]) (fun k hk => (hS.2.2.1.1 k (by omega)).2.2.1) hbl hS.2.2.2.2.1.1 hS.2.2.2.2.1.2
  refine Bo_mk (o_settles (d := 0) hn) (g_settles (d := 0) hg (m := m) (by omega) m3 m4) (by omega) (by omega) ?_ (J_scrp hJ (fun p j hp => by simp only [sfM]; rw [if_neg (by omega), lv_off (by omega)]))
  rw [hw, J_bel0 hJ, m2]
end LWA
