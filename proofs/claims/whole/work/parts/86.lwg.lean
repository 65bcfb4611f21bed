/-! the law's calls: plans -/
theorem ex_eq {α : Type} (a : α) : ∃ b, a = b := ⟨a, rfl⟩
section LWG
variable {L : Nat} {F G : FF} {h : Nat → Nat} {xs : Nat → Int32}
/-- the class's search objects are changed alone -/
theorem J_srch {F' G' : FF} (hJ : J xs F G h) (ho : ∀ p j, (p < 52 ∨ 62 < p) → ¬ (p = 1 ∧ j = 6) → F' p j = F p j) (hGo : ∀ p j, p < 52 → G' p j = G p j) (h16 : F' 1 6 ≤ 1) (hpg : F' 1 6 = 1 → planGood F' G') (hs : sOk F') : J xs F' G' h := by
  obtain ⟨j1, j2, j3, j4, j5, j6, j7, j8, j9⟩ := hJ
  have hh := j1.2
  have e12 : F' 1 2 = F 1 2 := ho 1 2 (by omega) (by omega)
  have e14 : F' 1 4 = F 1 4 := ho 1 4 (by omega) (by omega)
  refine ⟨⟨by rw [e12]; exact j1.1, hh⟩, by rw [ho 63 2 (by omega) (by omega), e12]; exact j2, ?_, fun i hi => ?_, ⟨?_, ?_, fun i hi => ?_, fun i hi => ?_⟩, h16, hpg, hs, fun j => by rw [ho 0 j (by omega) (by omega)]; exact j9 j⟩
  · exact Sr_c j3 (fun a b hs => by have := slF_le hs; unfold vw; exact ho _ _ (by omega) (by omega)) (fun a b hs => by have := slG_le hs; unfold vw; exact hGo _ _ (by omega)) (fun j hj => ho 64 j (by omega) (by omega))
  · rw [e12] at hi
    have hr := h_rng hh (show i < 5 by have := j1.1; omega)
    exact Sr_c (j4 i hi) (fun a b hs => by have := slF_le hs; unfold vw; exact ho _ _ (by omega) (by omega)) (fun a b hs => by have := slG_le hs; unfold vw; exact hGo _ _ (by omega)) (fun j hj => ho 65 _ (by omega) (by omega))
  · rw [ho 63 4 (by omega) (by omega), e14]; exact j5.1
  · rw [e14]; exact j5.2.1
  · rw [ho 51 i (by omega) (by omega), ho 66 i (by omega) (by omega)]; exact j5.2.2.1 i hi
  · rw [e14] at hi
    rw [ho 51 i (by omega) (by omega), ho 66 i (by omega) (by omega)]; exact j5.2.2.2 i hi
theorem planGood_c {F' G' : FF} (hp : planGood F G) (h1 : ∀ p j, 2 ≤ p → p ≤ 9 → F' p j = F p j) (h2 : G' 2 1 = G 2 1) (h3 : ∀ j, j = 2 ∨ j = 8 → F' 52 j = F 52 j) (h4 : ∀ s, F' 54 s = F 54 s) : planGood F' G' := by
  obtain ⟨g1, Z, g2, g3⟩ := hp
  refine ⟨by rw [h3 2 (by omega), h1 2 2 (by omega) (by omega)]; exact g1, Z, ?_, cRes_of g3 (h3 8 (by omega)) h4⟩
  rw [h1 2 0 (by omega) (by omega), h1 2 2 (by omega) (by omega), h2, sit0_c h1]; exact g2
theorem know_ok (hJ : J xs F G h) : ∃ F' G' : FF, pq_Ca 20 91 [.ref 1] (pq_Sh L, pn F, pl G, pq_rt h) (fun r M' => r = none ∧ M' = (pq_Sh L, pn F', pl G', pq_rt h)) ∧ planGood F' G' ∧ J xs F' G' h ∧ F' 1 6 = 1 ∧ (∀ p j, p < 52 → ¬ (p = 1 ∧ j = 6) → F' p j = F p j) := by
  have hn := J_nOk hJ
  have hs := hJ.2.2.2.2.2.2.2.1
  by_cases c : F 1 6 = 1
  · exact ⟨F, G, (k_know1 (d := 0) c).le (by omega), hJ.2.2.2.2.2.2.1 c, hJ, c, fun _ _ _ _ => rfl⟩
  · have c0 : F 1 6 = 0 := by have := hJ.2.2.2.2.2.1; omega
    have e16 : kpF F G 1 6 = 1 := by unfold kpF; rw [pu_at, if_pos ⟨rfl, rfl⟩]
    have hpg : planGood (kpF F G) (pq_u G 52 1 (G 2 1)) := by
      have hr := kp_res hn
      obtain ⟨Z, hZ⟩ : ∃ Z, bZ (sucC (F 2 0) (G 2 1) (F 2 2)) (bfX N2 0 [] [sit0 F]) = Z := ⟨_, rfl⟩
      rw [hZ] at hr
      have e2 : kpF F G 52 2 = F 2 2 := by
        have := (kp_inv hn hs).2.1
        rw [pu_at, if_neg (by omega)] at this
        exact this
      refine ⟨by rw [e2, kp_off (by omega) (by omega)], Z, ?_, hr⟩
      rw [kp_off (by omega) (by omega), kp_off (by omega) (by omega), pu_off (by omega), sit0_c (fun p j h1 h2 => kp_off (by omega) (by omega))]
      exact hZ
    exact ⟨kpF F G, pq_u G 52 1 (G 2 1), k_know (d := 0) hn hs c0, hpg, J_srch hJ (fun p j h1 h2 => kp_off (by omega) h2) (fun p j hp => pu_off (by omega)) (by omega) (fun _ => hpg) (kp_sOk hn hs), e16, fun p j h1 h2 => kp_off (by omega) h2⟩
theorem md_hyp (hJ : J xs F G h) {Z : BQ} (hZ : bZ (sucC (F 2 0) (G 2 1) (F 2 2)) (bfX N2 0 [] [sit0 F]) = Z) : bZ (sucM (F 64 0) (fun u => F 64 (5 + u)) (F 64 1)) (bfX N2 0 [] [sit0 F]) = Z := by
  obtain ⟨e0, e1, e2, e3, e4, e5, e6, e7⟩ := J_e hJ
  have hp := hJ.2.2.1.2.1
  rw [e0, e1, sucC_eq (show pR (F 64 0) (G 2 1) (fun u => F 64 (5 + u)) from hp)] at hZ
  exact hZ
theorem md_sit (hJ : J xs F G h) : sit0 F < 64 * 6 ^ F 64 1 ∧ sit0 F % 64 = F 64 (la F) ∧ ∀ k, k < F 64 1 → sitPos (F 64 1) (sit0 F) k = F 64 (11 + k) := by
  obtain ⟨e0, e1, e2, e3, e4, e5, e6, e7⟩ := J_e hJ
  obtain ⟨s1, s2, s3⟩ := sit0_ok (J_nOk hJ)
  rw [e1] at s1 s3
  refine ⟨s1, by rw [s2, J_bel0 hJ]; rfl, fun k hk => by rw [s3 k hk]; exact (hJ.2.2.1.2.2.1.2.1 k hk).1⟩
theorem b_planTurns (hJ : J xs F G h) : Bo L xs 90 137 [] F G h := by
  obtain ⟨F', G', k1, ⟨p1, Z, p2, p3⟩, hJ', k3, k4⟩ := know_ok (L := L) hJ
  obtain ⟨m1, m2, m3⟩ := md_sit hJ'
  have hm := g_planTurns (d := 0) (L := L) (F := F') (G := G') (h := h) (md_hyp hJ' p2) (J_gOk hJ') rfl m1 m2 m3
  rcases p3 with ⟨a, b⟩ | ⟨e, a1, a2, a3, a4, a5⟩
  · exact Bo_ag (o_planTurns0 (d := 0) k1 b) hm (by omega) (by omega) (tr_none a _).symm (fun F2 h2 => J_ag2 hJ' h2)
  · refine Bo_ag (o_planTurns (d := 0) k1 a5 (by rw [a2]; exact a3)) hm (by omega) (by omega) ?_ (fun F2 h2 => J_ag2 hJ' h2)
    unfold trI
    rw [a1]
theorem b_planOrder (hJ : J xs F G h) (x y : Int32) : Bo L xs 92 145 [.int x, .int y] F G h := by
  have hg := J_gOk hJ
  have hn := J_nOk hJ
  obtain ⟨e0, e1, e2, e3, e4, e5, e6, e7⟩ := J_e hJ
  have h3 := hg.2.2.1
  by_cases hx : x < 0
  · exact Bo_m0 (o_planOrder0 (d := 0) (Or.inl hx)) (g_planOrder0 (d := 0) hg (Or.inl hx)) (by omega) (by omega) rfl hJ
  rcases ix_node y (n := F 64 1) (by omega) with hy | ⟨k, hk, rfl⟩
  · exact Bo_m0 (o_planOrder0 (d := 0) (Or.inr (by rw [e1]; exact hy))) (g_planOrder0 (d := 0) hg (Or.inr ⟨hx, hy⟩)) (by omega) (by omega) rfl hJ
  obtain ⟨t, ht, rfl⟩ := nI_of hx
  obtain ⟨F', G', k1, hpg, hJ', k3, k4⟩ := know_ok (L := L) hJ
  have hpg0 := hpg
  obtain ⟨p1, Z, p2, p3⟩ := hpg
  have e22 : F' 2 2 = F 2 2 := k4 2 2 (by omega) (by omega)
  have e641 : F' 64 1 = F 64 1 := by rw [← (J_e hJ').2.1, e22, e1]
  obtain ⟨m1, m2, m3⟩ := md_sit hJ'
  have hno : ∀ (hc : F' 52 8 = N1 ∨ ∃ k, k ≤ 13824 ∧ tCh F' 52 k (F' 52 8) ∧ nI k ≤ nI t) (hz : poI (F' 64 1) Z t k = -4), Bo L xs 92 145 [.int (nI t), .int (nI k)] F G h := fun hc hz => by
    have hm := g_planOrder (d := 0) (L := L) (F := F') (G := G') (h := h) (t := t) (k := k) (md_hyp hJ' p2) (J_gOk hJ') rfl m1 m2 m3 (by omega) ht
    exact Bo_ag (o_planOrder4 (d := 0) hn hx (by omega) k1 hc) hm (by omega) (by omega) hz.symm (fun F2 h2 => J_ag2 hJ' h2)
  rcases p3 with ⟨a, b⟩ | ⟨e, a1, a2, a3, a4, a5⟩
  · refine hno (Or.inl b) ?_
    unfold poI
    rw [a]
  by_cases ct : t < e.2.2
  case neg =>
    refine hno (Or.inr ⟨e.2.2, a5, by rw [a2]; exact a3, nI_le (by omega) ht⟩) ?_
    unfold poI
    rw [a1]
    exact if_neg ct
  have hcl := o_planOrder (d := 0) (L := L) hn (sr := k) (t := t) (k := e.2.2) (by omega) k1 (by rw [p1, e22]) a5 (by rw [a2]; exact a3) ct
  generalize hq : tUp F' 52 (e.2.2 - (t + 1)) (F' 52 8) = q at hcl
  have hoff : ∀ p j, ¬ p = 53 → plF F' 53 (F 2 2) (q / 64) p j = F' p j := fun p j hp => plF_off _ _ _ _ _ (fun z => hp z.1)
  have hJ2 : J xs (plF F' 53 (F 2 2) (q / 64)) G' h := by
    refine J_srch hJ' (fun p j h1 h2 => hoff p j (by omega)) (fun _ _ _ => rfl) (by rw [hoff 1 6 (by omega)]; omega) (fun _ => planGood_c hpg0 (fun p j h1 h2 => hoff p j (by omega)) rfl (fun j _ => hoff 52 j (by omega)) (fun s => hoff 54 s (by omega))) ?_
    obtain ⟨s1, s2⟩ := hJ'.2.2.2.2.2.2.2.1
    refine ⟨fun s hs => ?_, by rw [hoff 60 5 (by omega)]; exact s2⟩
    rw [hoff 54 s (by omega), hoff 58 s (by omega), hoff 62 s (by omega)]; exact s1 s hs
  have hZ2 : bZ (sucC (plF F' 53 (F 2 2) (q / 64) 2 0) (G' 2 1) (plF F' 53 (F 2 2) (q / 64) 2 2)) (bfX N2 0 [] [sit0 (plF F' 53 (F 2 2) (q / 64))]) = Z := by
    rw [hoff 2 0 (by omega), hoff 2 2 (by omega), sit0_c (fun p j h1 h2 => hoff p j (by omega))]; exact p2
  generalize plF F' 53 (F 2 2) (q / 64) = F3 at hcl hoff hJ2 hZ2
  obtain ⟨n1, n2, n3⟩ := md_sit hJ2
  have e643 : F3 64 1 = F 64 1 := by rw [hoff 64 1 (by omega)]; exact e641
  have hm := g_planOrder (d := 0) (L := L) (F := F3) (G := G') (h := h) (t := t) (k := k) (md_hyp hJ2 hZ2) (J_gOk hJ2) rfl n1 n2 n3 (by omega) ht
  refine Bo_ag hcl hm (by omega) (by omega) ?_ (fun F2 h2 => J_ag2 hJ2 h2)
  unfold poI
  rw [a1]
  show _ = if t < e.2.2 then _ else _
  rw [if_pos ct, ← a4 _ (by omega), ← a2, hq, e643, e1]
theorem arrs_off {p j : Nat} (hp : p < 60 ∨ 62 < p) : ∀ (l : List (Nat × Nat)) (X : FF), arrs mA l X p j = X p j := by
  intro l
  induction l with
  | nil => intro X; rfl
  | cons a l ih => intro X; show arrs mA l (mA a.1 a.2 X) p j = _; rw [ih, mA_off (by omega) (by omega)]
theorem mAll_off {n pa K p j : Nat} (hp : p < 60 ∨ 62 < p) : ∀ m i (X : FF), (mAll n pa K m i X).2 p j = X p j := by
  intro m
  induction m with
  | zero => intro i X; rfl
  | succ m ih =>
    intro i X
    simp only [mAll]
    split
    · split
      · rfl
      · rw [ih]
        unfold mStep
        rw [arrs_off hp, plF_off _ _ _ _ _ (by omega)]
    · exact ih _ _
theorem fm_off {n pa K p j : Nat} (hp : p < 60 ∨ 62 < p) : ∀ m c (X : FF), (fmF n pa K m c X).2 p j = X p j := by
  intro m
  induction m with
  | zero => intro c X; rfl
  | succ m ih =>
    intro c X
    simp only [fmF]
    split
    · split
      · show (mAll n pa K (64 * 6 ^ K) 0 (pq_u X 60 5 c)).2 p j = _
        rw [mAll_off hp, pu_off (by omega)]
      · rw [ih, mAll_off hp, pu_off (by omega)]
    · rfl
theorem fm_inv {n pa K : Nat} (hn : n ≤ 6) (hK : K ≤ 3) : ∀ m c (X : FF), mInv n K X → mInv n K (fmF n pa K m c X).2 := by
  intro m
  induction m with
  | zero => intro c X hI; exact hI
  | succ m ih =>
    intro c X hI
    simp only [fmF]
    split
    · rename_i hc
      obtain ⟨i0, i1, i2, i3, i4⟩ := hI
      have hI3 : mInv n K (pq_u X 60 5 c) := by
        refine ⟨i0, i1, ?_, i3, i4⟩
        rw [pu_at, if_pos ⟨rfl, rfl⟩]; exact hc.2
      have hinv := mAll_inv (pa := pa) hn hK (64 * 6 ^ K) 0 _ hI3
      split
      · exact hinv.1
      · exact ih _ _ hinv.1
    · exact hI
theorem pm_inv (hn : nOk F G) (hs : sOk F) : mInv (F 2 0) (F 2 2) (pmF F G) := by
  unfold pmF fmS
  refine ⟨rfl, rfl, hs.2, by show 0 ≤ _; omega, fun s hs2 => ?_⟩
  rw [pu_at, if_neg (by omega), pu_at]
  split
  · right; omega
  · unfold clF
    split
    · left; rfl
    · exact (hs.1 s hs2).2.2
theorem pm_off {p j : Nat} (hp : p < 60 ∨ 62 < p) : pmF F G p j = F p j := by
  unfold pmF fmS
  rw [pu_off (by omega), pu_off (by omega)]
  unfold clF
  rw [if_neg (by omega), pu_off (by omega), pu_off (by omega)]
theorem b_planMoves (hJ : J xs F G h) : Bo L xs 93 146 [] F G h := by
  have hg := J_gOk hJ
  have hn := J_nOk hJ
  have hs := hJ.2.2.2.2.2.2.2.1
  obtain ⟨e0, e1, e2, e3, e4, e5, e6, e7⟩ := J_e hJ
  have hp : pR (F 2 0) (G 2 1) (fun u => F 64 (5 + u)) := by rw [e0]; exact hJ.2.2.1.2.1
  have hmin := pm_min hn hp
  obtain ⟨s1, s2, s3⟩ := sit0_ok hn
  have hdj : djn (F 2 0) (F 2 2) (sit0 F) := by
    obtain ⟨j1, j2⟩ := hJ.2.2.1.2.2.2.2.1
    unfold djn
    rw [s2, J_bel0 hJ]
    refine ⟨fun k hk => ?_, fun v hv => by rw [e0]; exact j2 v hv⟩
    rw [s3 k hk, show F 3 k = F 64 (11 + k) from (hJ.2.2.1.2.2.1.2.1 k (by omega)).1]
    exact j1 k (by omega)
  have hmin2 := min_32 hp s1 hdj hmin
  have hcl := o_planMoves (d := 0) (L := L) (h := h) hn hs
  have hoff : ∀ p j, p < 60 ∨ 62 < p → (fmF (F 2 0) (G 2 1) (F 2 2) 41474 0 (pmF F G)).2 p j = F p j := fun p j hp => by rw [fm_off hp, pm_off hp]
  have hinv := fm_inv (pa := G 2 1) hn.1 hn.2.1 41474 0 _ (pm_inv (G := G) hn hs)
  generalize (fmF (F 2 0) (G 2 1) (F 2 2) 41474 0 (pmF F G)).1 = o1 at hmin2 hcl
  generalize (fmF (F 2 0) (G 2 1) (F 2 2) 41474 0 (pmF F G)).2 = F3 at hcl hoff hinv
  have hJ2 : J xs F3 (pq_u G 60 1 (G 2 1)) h := by
    refine J_srch hJ (fun p j h1 h2 => hoff p j (by omega)) (fun p j hp => pu_off (by omega)) (by rw [hoff 1 6 (by omega)]; exact hJ.2.2.2.2.2.1) (fun z => ?_) ?_
    · rw [hoff 1 6 (by omega)] at z
      exact planGood_c (hJ.2.2.2.2.2.2.1 z) (fun p j h1 h2 => hoff p j (by omega)) (pu_off (by omega)) (fun j _ => hoff 52 j (by omega)) (fun s => hoff 54 s (by omega))
    · refine ⟨fun s hs2 => ?_, hinv.2.2.1⟩
      rw [hoff 54 s (by omega), hoff 58 s (by omega)]
      exact ⟨(hs.1 s hs2).1, (hs.1 s hs2).2.1, hinv.2.2.2.2 s hs2⟩
  obtain ⟨m1, m2, m3⟩ := md_sit hJ2
  have hm := g_planMoves (d := 0) (L := L) (F := F3) (G := pq_u G 60 1 (G 2 1)) (h := h) (J_gOk hJ2) rfl m1 m2 m3
  have es : sit0 F3 = sit0 F := sit0_c (fun p j h1 h2 => hoff p j (by omega))
  have e64 : F3 64 = F 64 := by funext j; exact hoff 64 j (by omega)
  rw [e0, e1] at hmin2
  have hm2 : pq_Ca 4 146 [.ref 63] (pq_Sh L, pn F3, pl (pq_u G 60 1 (G 2 1)), pq_rt h) (fun r M' => r = some (.int (oI o1)) ∧ ∃ F2 : FF, M' = (pq_Sh L, pn F2, pl (pq_u G 60 1 (G 2 1)), pq_rt h) ∧ ag2 F2 F3) := by
    refine hm.mono ?_
    rintro r M' ⟨o, o2, rfl, o4⟩
    rw [es, e64] at o2
    exact ⟨by rw [isMin_u hmin2 o2], o4⟩
  exact Bo_ag hcl hm2 (by omega) (by omega) rfl (fun F2 h2 => J_ag2 hJ2 h2)
theorem J_bs {F' : FF} (hJ : J xs F G h) (ho : ∀ p j, p < 56 ∨ 59 < p → F' p j = F p j) (hs : sOk F') : J xs F' (pq_u G 56 1 (G 2 1)) h := by
  refine J_srch hJ (fun p j h1 h2 => ho p j (by omega)) (fun p j hp => pu_off (by omega)) (by rw [ho 1 6 (by omega)]; exact hJ.2.2.2.2.2.1) (fun z => ?_) hs
  rw [ho 1 6 (by omega)] at z
  exact planGood_c (hJ.2.2.2.2.2.2.1 z) (fun p j h1 h2 => ho p j (by omega)) (pu_off (by omega)) (fun j _ => ho 52 j (by omega)) (fun s => ho 54 s (by omega))
theorem b_best (hJ : J xs F G h) (x : Int32) : Bo L xs 97 150 [.int x] F G h := by
  have hg := J_gOk hJ
  have hn := J_nOk hJ
  have hs := hJ.2.2.2.2.2.2.2.1
  obtain ⟨e0, e1, e2, e3, e4, e5, e6, e7⟩ := J_e hJ
  by_cases hx : x < 1 ∨ 3 < x
  · exact Bo_m0 (o_best0 (d := 0) hx) (g_best0 (d := 0) hx) (by omega) (by omega) rfl hJ
  have h1 : ¬ x < 1 := fun z => hx (Or.inl z)
  have h2 : ¬ 3 < x := fun z => hx (Or.inr z)
  obtain ⟨K, hK, rfl⟩ : ∃ K : Nat, K < 4 ∧ x = nI K := by
    rcases pk_ix x (n := 4) (by omega) with z | z | z
    · exact absurd (Int32.lt_trans z (by decide)) h1
    · exact absurd (Int32.lt_of_lt_of_le (by decide) z) h2
    · exact z
  have hK1 : 1 ≤ K := by
    by_cases z : 1 ≤ K
    · exact z
    · exact absurd (nI_lt (b := 1) (by omega) (by decide)) h1
  have hp : pR (F 2 0) (G 2 1) (fun u => F 64 (5 + u)) := by rw [e0]; exact hJ.2.2.1.2.1
  obtain ⟨Z, hZ⟩ : ∃ Z, bZ (sucM (F 2 0) (fun u => F 64 (5 + u)) K) (bfX N2 0 [] (stMl (F 2 0) K (6 ^ K))) = Z := ⟨_, rfl⟩
  have hr := bs_res hn (by omega) hp hZ
  have hoff : ∀ p j, p < 56 ∨ 59 < p → bsF F G K p j = F p j := fun p j hp => bs_off hp
  have hJ2 := J_bs hJ hoff (bs_sOk hn hs (by omega))
  have hcl := o_best (d := 0) (L := L) (h := h) hn hs (show K ≤ 3 by omega) hK1 hr.1
  generalize bsF F G K = F3 at hcl hoff hJ2
  have e64 : F3 64 = F 64 := by funext j; exact hoff 64 j (by omega)
  have hg3 := J_gOk hJ2
  have hm := g_best (d := 0) (L := L) (F := F3) (G := pq_u G 56 1 (G 2 1)) (h := h) (K := K) (Z := Z) (by rw [e64, ← e0]; exact hZ) hg3.2.1 hg3.2.2.2.2.2.2.1 (by omega) hK1
  exact Bo_ag hcl hm (by omega) (by omega) rfl (fun F2 h2 => J_ag2 hJ2 h2)
theorem b_least (hJ : J xs F G h) : Bo L xs 95 148 [] F G h := by
  have hg := J_gOk hJ
  have hn := J_nOk hJ
  have hs := hJ.2.2.2.2.2.2.2.1
  obtain ⟨e0, e1, e2, e3, e4, e5, e6, e7⟩ := J_e hJ
  have hp : pR (F 2 0) (G 2 1) (fun u => F 64 (5 + u)) := by rw [e0]; exact hJ.2.2.1.2.1
  obtain ⟨Z1, hZ1⟩ : ∃ Z, bZ (sucM (F 2 0) (fun u => F 64 (5 + u)) 1) (bfX N2 0 [] (stMl (F 2 0) 1 (6 ^ 1))) = Z := ex_eq _
  obtain ⟨Z2, hZ2⟩ : ∃ Z, bZ (sucM (F 2 0) (fun u => F 64 (5 + u)) 2) (bfX N2 0 [] (stMl (F 2 0) 2 (6 ^ 2))) = Z := ex_eq _
  obtain ⟨Z3, hZ3⟩ : ∃ Z, bZ (sucM (F 2 0) (fun u => F 64 (5 + u)) 3) (bfX N2 0 [] (stMl (F 2 0) 3 (6 ^ 3))) = Z := ex_eq _
  have eG : pq_u (pq_u G 56 1 (G 2 1)) 56 1 (pq_u G 56 1 (G 2 1) 2 1) = pq_u G 56 1 (G 2 1) := by
    funext p j
    simp only [pu_at]
    split
    · rw [if_neg (by decide)]
    · rfl
  have a1 := bs_nOk (K := 1) hn
  have a2 := bs_nOk (K := 2) a1
  rw [eG] at a2
  have o1 : bsF F G 1 2 0 = F 2 0 := bs_off (by omega)
  have o2 : bsF (bsF F G 1) (pq_u G 56 1 (G 2 1)) 2 2 0 = F 2 0 := by rw [bs_off (by omega)]; exact o1
  have og : pq_u G 56 1 (G 2 1) 2 1 = G 2 1 := pu_off (by omega)
  have r1 := bs_res hn (show 1 ≤ 3 by omega) hp hZ1
  have r2 := bs_res a1 (show 2 ≤ 3 by omega) (gr := fun u => F 64 (5 + u)) (Z := Z2) (by rw [o1, og]; exact hp) (by rw [o1]; exact hZ2)
  have r3 := bs_res a2 (show 3 ≤ 3 by omega) (gr := fun u => F 64 (5 + u)) (Z := Z3) (by rw [o2, og]; exact hp) (by rw [o2]; exact hZ3)
  have hcl := o_least (d := 0) (L := L) (h := h) hn hs r1.1 r2.1 r3.1
  have hans : (if trI Z1 (-4) ≠ -4 then 1 else if trI Z2 (-4) ≠ -4 then 2 else if trI Z3 (-4) ≠ -4 then 3 else -4 : Int32) = lsI Z1 Z2 Z3 := by
    unfold lsI
    by_cases c1 : fE Z1 = none
    · rw [if_pos c1, if_neg (fun z => z (r1.2.1 c1))]
      by_cases c2 : fE Z2 = none
      · rw [if_pos c2, if_neg (fun z => z (r2.2.1 c2))]
        by_cases c3 : fE Z3 = none
        · rw [if_pos c3, if_neg (fun z => z (r3.2.1 c3))]
        · rw [if_neg c3, if_pos (r3.2.2 c3)]
      · rw [if_neg c2, if_pos (r2.2.2 c2)]
    · rw [if_neg c1, if_pos (r1.2.2 c1)]
  rw [hans] at hcl
  clear r1 r2 r3 a1 a2 o1 o2
  refine (hcl.le (by omega)).mono ?_
  rintro r M' ⟨rfl, F3, rfl, hoff, hs3⟩
  have hJ2 := J_bs hJ hoff hs3
  have e64 : F3 64 = F 64 := by funext j; exact hoff 64 j (by omega)
  have hg3 := J_gOk hJ2
  have hm := g_least (d := 0) (L := L) (F := F3) (G := pq_u G 56 1 (G 2 1)) (h := h) (Z1 := Z1) (Z2 := Z2) (Z3 := Z3) (by rw [e64, ← e0]; exact hZ1) (by rw [e64, ← e0]; exact hZ2) (by rw [e64, ← e0]; exact hZ3) hg3.2.1 hg3.2.2.2.2.2.2.1
  refine ⟨lsI Z1 Z2 Z3, F3, _, h, rfl, rfl, hJ2.2.2.2.2.2.2.2.2, (hm.le (by omega)).mono ?_⟩
  rintro r M' ⟨rfl, F2, rfl, h2⟩
  exact ⟨rfl, F2, rfl, J_ag2 hJ2 h2⟩
end LWG
