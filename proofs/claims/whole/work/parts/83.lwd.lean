/-! the law's calls: put, hide, undo -/
theorem du (F : FF) (k v : Nat) : pq_u F 64 k v 64 = up1 (F 64) k v := by
  funext j
  rw [pu_at]
  by_cases c : j = k
  · rw [if_pos ⟨rfl, c⟩, c, up1_s]
  · rw [if_neg (fun z => c z.2), up1_o c]
theorem vw_pu {F : FF} {x i k v : Nat} : vw (pq_u F (x + i) k v) x = pq_u (vw F x) i k v := by
  funext a b
  unfold vw
  rw [pu_at, pu_at]
  by_cases c : a = i ∧ b = k
  · rw [if_pos (by omega), if_pos c]
  · rw [if_neg (by omega), if_neg c]
theorem vp0 {F : FF} {k v : Nat} : vw (pq_u F 2 k v) 2 = pq_u (vw F 2) 0 k v := vw_pu (i := 0)
theorem vp1 {F : FF} {k v : Nat} : vw (pq_u F 3 k v) 2 = pq_u (vw F 2) 1 k v := vw_pu (i := 1)
theorem vp2 {F : FF} {k v : Nat} : vw (pq_u F 4 k v) 2 = pq_u (vw F 2) 2 k v := vw_pu (i := 2)
theorem vp3 {F : FF} {k v : Nat} : vw (pq_u F 5 k v) 2 = pq_u (vw F 2) 3 k v := vw_pu (i := 3)
theorem vp4 {F : FF} {k v : Nat} : vw (pq_u F 6 k v) 2 = pq_u (vw F 2) 4 k v := vw_pu (i := 4)
theorem vp6 {F : FF} {k v : Nat} : vw (pq_u F 8 k v) 2 = pq_u (vw F 2) 6 k v := vw_pu (i := 6)
theorem vp7 {F : FF} {k v : Nat} : vw (pq_u F 9 k v) 2 = pq_u (vw F 2) 7 k v := vw_pu (i := 7)
theorem pu_cg {f g : FF} {i k v a b : Nat} (h : f a b = g a b) : pq_u f i k v a b = pq_u g i k v a b := by
  rw [pu_at, pu_at, h]
section LWD
variable {L : Nat} {F G : FF} {h : Nat → Nat} {xs : Nat → Int32}
theorem rc64f {F1 : FF} (hh : ∀ p j, 63 ≤ p → F1 p j = F p j) : rcM F1 64 = F 64 := by
  funext j
  rw [rc64]; exact hh 64 j (by omega)
theorem vw_rc {F1 : FF} {a b : Nat} (ha : a ≤ 7) : vw (rcM F1) 2 a b = vw F1 2 a b := by
  unfold vw
  exact rc_off (by omega) (by omega)
theorem b_put (hJ : J xs F G h) (x : Int32) : Bo L xs 72 110 [.int x] F G h := by
  have hg := J_gOk hJ
  have hn := J_nOk hJ
  obtain ⟨e0, e1, e2, e3, e4, e5, e6, e7⟩ := J_e hJ
  have h3 := hg.2.2.1
  have h6 := hg.2.1
  rcases ix_node x (n := F 64 0) (by omega) with hx | ⟨v, hv, rfl⟩
  · exact Bo_m0 (o_put0 (d := 0) (by rw [e0]; exact hx)) (g_put0 (d := 0) hg hx) (by omega) (by omega) rfl hJ
  by_cases hK : F 64 1 = 3
  · exact Bo_m0 (o_put3 (d := 0) hn (by omega) (by omega)) (g_put3 (d := 0) hg hv hK) (by omega) (by omega) rfl hJ
  have hgt : ∀ p j, 63 ≤ p → adF (rmF F h) v p j = F p j := by
    intro p j hp
    unfold adF
    split
    · unfold loF; rw [pu_off (by omega), pu_off (by omega), pu_off (by omega), pu_off (by omega)]; exact rm_hi hJ (by omega)
    · rw [caF_out (by omega) (by omega)]; unfold loF; rw [pu_off (by omega), pu_off (by omega), pu_off (by omega), pu_off (by omega)]; exact rm_hi hJ (by omega)
  have hm := g_put (d := 0) (L := L) (G := rmG F G h) (h := rmH F h) (F := adF (rmF F h) v) (v := v) (gOk_hi hg hgt) (by rw [hgt 64 0 (by omega)]; exact hv) (by rw [hgt 64 1 (by omega)]; omega)
  rw [hgt 64 1 (by omega)] at hm
  have hR := rc64f hgt
  have r := fun a b (ha : a ≤ 7) => rm_lo (a := a) (b := b) hJ ha
  have r22 : rmF F h 2 2 = F 64 1 := (r 0 2 (by omega)).trans e1
  have r25 : rmF F h 2 5 = F 64 2 := (r 0 5 (by omega)).trans e2
  have r52 : rmF F h 5 2 = F 64 2 := (r 3 2 (by omega)).trans e5
  have r6 : ∀ i, rmF F h 6 i = F 6 i := fun i => r 4 i (by omega)
  have r80 : rmF F h 8 0 = F 8 0 := r 6 0 (by omega)
  have r81 : rmF F h 8 1 = F 8 1 := r 6 1 (by omega)
  have r83 : rmF F h 8 3 = F 8 3 := r 6 3 (by omega)
  have hS1 := S_put0 (v := v) (c' := pq_u (pq_u (pq_u (pq_u (vw F 2) 1 (F 64 1) v) 2 (F 64 1) v) 0 2 (F 64 1 + 1)) 4 (F 64 2 % 8) (an (F 6 (F 64 2 % 8)) (1 <<< v))) (d' := up1 (up1 (up1 (up1 (F 64) (11 + F 64 1) v) (14 + F 64 1) v) 1 (F 64 1 + 1)) (24 + 15 * (F 64 23 - 1)) (an (F 64 (24 + 15 * (F 64 23 - 1))) (1 <<< v))) hJ.2.2.1 (by omega) hv
    (fun i k z1 z2 z3 z4 => by rw [pu_at, if_neg z4, pu_at, if_neg z3, pu_at, if_neg z2, pu_at, if_neg z1]) (by rw [pu_at, if_neg (by omega), pu_at, if_neg (by omega), pu_at, if_neg (by omega), pu_at, if_pos ⟨rfl, rfl⟩]) (by rw [pu_at, if_neg (by omega), pu_at, if_neg (by omega), pu_at, if_pos ⟨rfl, rfl⟩]) (by rw [pu_at, if_neg (by omega), pu_at, if_pos ⟨rfl, rfl⟩]) (by rw [pu_at, if_pos ⟨rfl, rfl⟩]; rfl)
    (fun j z1 z2 z3 z4 => by rw [up1_o z4, up1_o z3, up1_o z2, up1_o z1]) (by rw [up1_o (by omega), up1_o (by omega), up1_o (by omega), up1_s]) (by rw [up1_o (by omega), up1_o (by omega), up1_s]) (by rw [up1_o (by omega), up1_s]) (up1_s _ _ _)
  have hd2 : ptM2 (rcM (adF (rmF F h) v)) v 64 = up1 (up1 (up1 (up1 (F 64) (11 + F 64 1) v) (14 + F 64 1) v) 1 (F 64 1 + 1)) (24 + 15 * (F 64 23 - 1)) (an (F 64 (24 + 15 * (F 64 23 - 1))) (1 <<< v)) := by
    unfold ptM2 ptM1 la
    rw [du, du, du, du, hR]
  have hX : vw (loF (pq_u (pq_u (pq_u (rmF F h) 3 (rmF F h 2 2) v) 4 (rmF F h 2 2) v) 2 2 (rmF F h 2 2 + 1)) v) 2 = pq_u (pq_u (pq_u (pq_u (vw (rmF F h) 2) 1 (F 64 1) v) 2 (F 64 1) v) 0 2 (F 64 1 + 1)) 4 (F 64 2 % 8) (an (F 6 (F 64 2 % 8)) (1 <<< v)) := by
    unfold loF
    rw [vp4, vp0, vp2, vp1, r22, show pq_u (pq_u (pq_u (rmF F h) 3 (F 64 1) v) 4 (F 64 1) v) 2 2 (F 64 1 + 1) 5 2 = F 64 2 by rw [pu_off (by decide), pu_off (by decide), pu_off (by decide), r52], show pq_u (pq_u (pq_u (rmF F h) 3 (F 64 1) v) 4 (F 64 1) v) 2 2 (F 64 1 + 1) 6 (F 64 2 % 8) = F 6 (F 64 2 % 8) by rw [pu_off (by decide), pu_off (by decide), pu_off (by decide), r6]]
  have hpm : ∀ p j, ¬ p = 64 → ptM (rcM (adF (rmF F h) v)) v p j = rcM (adF (rmF F h) v) p j := by
    intro p j hp
    unfold ptM
    split
    · unfold ptM2 ptM1; rw [pu_off hp, pu_off hp, pu_off hp, pu_off hp, pu_off hp, pu_off hp, pu_off hp]
    · unfold ptM2 ptM1; rw [pu_off hp, pu_off hp, pu_off hp, pu_off hp]
  have hadr : ∀ p j, p = 0 ∨ p = 1 ∨ 10 ≤ p → adF (rmF F h) v p j = rmF F h p j := by
    intro p j hp
    unfold adF
    split
    · unfold loF; rw [pu_off (by omega), pu_off (by omega), pu_off (by omega), pu_off (by omega)]
    · rw [caF_out (by omega) (by omega)]; unfold loF; rw [pu_off (by omega), pu_off (by omega), pu_off (by omega), pu_off (by omega)]
  refine Bo_mk (o_put (d := 0) hJ.1 hn (by omega) (by omega)) hm (by omega) (by omega) (by rw [e1]) (J_opp (F1 := adF (rmF F h) v) hJ hadr (fun _ _ _ => rfl) (fun p j h1 h2 => hpm p j h2) ?_)
  have hvw : ∀ a b, a ≤ 7 → vw (ptM (rcM (adF (rmF F h) v)) v) 2 a b = vw (adF (rmF F h) v) 2 a b := fun a b ha => by
    unfold vw
    rw [hpm _ _ (by omega)]; exact rc_off (by omega) (by omega)
  by_cases hc : F 64 17 = 1 ∧ F 64 20 = 0 ∧ F 64 18 = v
  · obtain ⟨b1, b2, b3, b4, b5⟩ := J_ev hJ hc.1
    have hcc : ¬ (rmF F h 8 0 = 0 ∨ rmF F h 8 3 ≠ 0 ∨ rmF F h 8 1 ≠ v) := by rw [r80, r83, r81]; omega
    have ead : adF (rmF F h) v = caF (loF (pq_u (pq_u (pq_u (rmF F h) 3 (rmF F h 2 2) v) 4 (rmF F h 2 2) v) 2 2 (rmF F h 2 2 + 1)) v) v (rmF F h 2 5) := by unfold adF; rw [if_neg hcc]
    have ept : ptM (rcM (adF (rmF F h) v)) v 64 = up1 (up1 (up1 (up1 (up1 (up1 (up1 (F 64) (11 + F 64 1) v) (14 + F 64 1) v) 1 (F 64 1 + 1)) (24 + 15 * (F 64 23 - 1)) (an (F 64 (24 + 15 * (F 64 23 - 1))) (1 <<< v))) 20 1) 21 (F 64 2)) 19 v := by
      unfold ptM
      rw [hR, if_pos hc, du, du, du, hd2]
    rw [ept]
    have hS2 := S_catch (c' := pq_u (pq_u (pq_u (pq_u (pq_u (pq_u (pq_u (pq_u (pq_u (vw F 2) 1 (F 64 1) v) 2 (F 64 1) v) 0 2 (F 64 1 + 1)) 4 (F 64 2 % 8) (an (F 6 (F 64 2 % 8)) (1 <<< v))) 6 3 1) 6 4 (F 64 2)) 6 1 v) 6 2 v) 7 (F 64 2 % 8) v) (d' := up1 (up1 (up1 (up1 (up1 (up1 (up1 (F 64) (11 + F 64 1) v) (14 + F 64 1) v) 1 (F 64 1 + 1)) (24 + 15 * (F 64 23 - 1)) (an (F 64 (24 + 15 * (F 64 23 - 1))) (1 <<< v))) 20 1) 21 (F 64 2)) 19 v) hS1
      (by rw [up1_o (by omega), up1_o (by omega), up1_o (by omega), up1_o (by omega)]; exact hc.1) (by rw [up1_o (by omega), up1_o (by omega), up1_o (by omega), up1_o (by omega)]; exact hc.2.1)
      (fun i k z1 z2 => by
        rw [up1_o (by omega), up1_o (by omega), up1_o (by omega), up1_o (by omega)] at z2
        rw [pu_at, if_neg z2, pu_at, if_neg (by omega), pu_at, if_neg (by omega), pu_at, if_neg (by omega), pu_at, if_neg (by omega)])
      (by rw [pu_at, if_neg (by omega), pu_at, if_neg (by omega), pu_at, if_pos ⟨rfl, rfl⟩, up1_o (by omega), up1_o (by omega), up1_o (by omega), up1_o (by omega), hc.2.2]) (by rw [pu_at, if_neg (by omega), pu_at, if_pos ⟨rfl, rfl⟩, up1_o (by omega), up1_o (by omega), up1_o (by omega), up1_o (by omega), hc.2.2]) (by rw [pu_at, if_neg (by omega), pu_at, if_neg (by omega), pu_at, if_neg (by omega), pu_at, if_neg (by omega), pu_at, if_pos ⟨rfl, rfl⟩]) (by rw [pu_at, if_neg (by omega), pu_at, if_neg (by omega), pu_at, if_neg (by omega), pu_at, if_pos ⟨rfl, rfl⟩, up1_o (by omega), up1_o (by omega), up1_o (by omega), up1_o (by omega)])
      (by rw [up1_o (j := 2) (by omega), up1_o (j := 2) (by omega), up1_o (j := 2) (by omega), up1_o (j := 2) (by omega), pu_at, if_pos ⟨rfl, rfl⟩, up1_o (by omega), up1_o (by omega), up1_o (by omega), up1_o (by omega), hc.2.2])
      (fun j z1 z2 z3 => by rw [up1_o z1, up1_o z3, up1_o z2]) (by rw [up1_s, up1_o (by omega), up1_o (by omega), up1_o (by omega), up1_o (by omega), hc.2.2]) (by rw [up1_o (by omega), up1_o (by omega), up1_s]) (by rw [up1_o (by omega), up1_s, up1_o (by omega), up1_o (by omega), up1_o (by omega), up1_o (by omega)])
    refine Sr_c hS2 (fun a b hs => ?_) (fun a b hs => rmG_lo hJ (slG_le hs)) (fun j hj => rfl)
    rw [hvw a b (slF_le hs), ead]
    unfold caF stF
    rw [vp7, vp6, vp6, vp6, vp6, hX, r25]
    exact pu_cg (pu_cg (pu_cg (pu_cg (pu_cg (pu_cg (pu_cg (pu_cg (pu_cg (r a b (slF_le hs))))))))))
  · have hcc : rmF F h 8 0 = 0 ∨ rmF F h 8 3 ≠ 0 ∨ rmF F h 8 1 ≠ v := by
      rw [r80, r83, r81]
      have h17 := hg.2.2.2.2.2.2.2.2.2.1
      by_cases z : F 64 17 = 1
      · obtain ⟨b1, b2, b3, b4, b5⟩ := J_ev hJ z
        omega
      · omega
    have ead : adF (rmF F h) v = loF (pq_u (pq_u (pq_u (rmF F h) 3 (rmF F h 2 2) v) 4 (rmF F h 2 2) v) 2 2 (rmF F h 2 2 + 1)) v := by unfold adF; rw [if_pos hcc]
    have ept : ptM (rcM (adF (rmF F h) v)) v 64 = ptM2 (rcM (adF (rmF F h) v)) v 64 := by
      unfold ptM
      rw [hR, if_neg hc]
    rw [ept, hd2]
    refine Sr_c hS1 (fun a b hs => ?_) (fun a b hs => rmG_lo hJ (slG_le hs)) (fun j hj => rfl)
    rw [hvw a b (slF_le hs), ead, hX]
    exact pu_cg (pu_cg (pu_cg (pu_cg (r a b (slF_le hs)))))
theorem b_hide (hJ : J xs F G h) (x : Int32) : Bo L xs 85 131 [.int x] F G h := by
  have hg := J_gOk hJ
  have hn := J_nOk hJ
  obtain ⟨e0, e1, e2, e3, e4, e5, e6, e7⟩ := J_e hJ
  have h3 := hg.2.2.1
  have h6 := hg.2.1
  have h23 := hg.2.2.2.2.2.2.2.2.2.2.2.2.2.2.2.1
  rcases ix_node x (n := F 64 0) (by omega) with hx | ⟨v, hv, rfl⟩
  · exact Bo_m0 (o_hide0 (d := 0) (by rw [e0]; exact hx)) (g_hide0 (d := 0) hg hx) (by omega) (by omega) rfl hJ
  have hsp := fun k hk => (hJ.2.2.1.2.2.1.2.1 k hk).1
  have hol : occ F (F 2 2) < 2 ^ 31 := by
    refine Nat.lt_of_lt_of_le (m := 2 ^ 6) ?_ (by decide)
    apply zb_bound
    intro i hi
    cases hh : (occ F (F 2 2)).testBit i with
    | false => rfl
    | true =>
      obtain ⟨k, hk, z⟩ := (occ_bit _ _).mp hh
      have := hn.2.2.2.2.2.2.1 k (by omega)
      omega
  by_cases ho : ∃ k, k < F 64 1 ∧ F 64 (11 + k) = v
  · refine Bo_m0 (o_hide2 (d := 0) hn (by omega) ((occ_bit _ _).mpr ?_) hol) (g_hide2 (d := 0) hg hv ho) (by omega) (by omega) rfl hJ
    obtain ⟨k, hk, z⟩ := ho
    exact ⟨k, by omega, by rw [show F 3 k = F 64 (11 + k) from hsp k hk]; exact z⟩
  have hof : (occ F (F 2 2)).testBit v = false := by
    cases hh : (occ F (F 2 2)).testBit v with
    | false => rfl
    | true =>
      obtain ⟨k, hk, z⟩ := (occ_bit _ _).mp hh
      exact absurd ⟨k, by omega, by rw [← show F 3 k = F 64 (11 + k) from hsp k (by omega)]; exact z⟩ ho
  have hho : ∀ p j, ¬ p = 8 → ¬ p = 9 → hiF (rmF F h) v (F 2 5) p j = rmF F h p j := fun p j z8 z9 => by
    unfold hiF
    rw [stF_out z8 z9, pu_off z8, pu_off z8, pu_off z8, pu_off z8]
  have hgt : ∀ p j, 63 ≤ p → hiF (rmF F h) v (F 2 5) p j = F p j := fun p j hp => by rw [hho p j (by omega) (by omega)]; exact rm_hi hJ (by omega)
  have hm := g_hide (d := 0) (L := L) (G := rmG F G h) (h := rmH F h) (F := hiF (rmF F h) v (F 2 5)) (v := v) (gOk_hi hg hgt) (by rw [hgt 64 0 (by omega)]; exact hv) (fun k hk => by rw [hgt 64 1 (by omega)] at hk; rw [hgt 64 _ (by omega)]; exact fun z => ho ⟨k, hk, z⟩)
  have ela : la (hiF (rmF F h) v (F 2 5)) = 24 + 15 * (F 64 23 - 1) := by unfold la; rw [hgt 64 23 (by omega)]
  rw [ela, hgt 64 _ (by omega)] at hm
  have hR := rc64f hgt
  have elr : la (rcM (hiF (rmF F h) v (F 2 5))) = 24 + 15 * (F 64 23 - 1) := by unfold la; rw [hR]
  have r := fun a b (ha : a ≤ 7) => rm_lo (a := a) (b := b) hJ ha
  have ed : hdM (rcM (hiF (rmF F h) v (F 2 5))) v 64 = up1 (up1 (up1 (up1 (up1 (up1 (up1 (F 64) 17 1) 18 v) 19 v) 20 0) 21 0) 22 (F 64 2)) (24 + 15 * (F 64 23 - 1) + 1) v := by
    unfold hdM hdM1
    rw [elr, du, du, du, du, du, du, du, hR]
  have hpm : ∀ p j, ¬ p = 64 → hdM (rcM (hiF (rmF F h) v (F 2 5))) v p j = rcM (hiF (rmF F h) v (F 2 5)) p j := fun p j hp => by
    unfold hdM hdM1
    rw [pu_off hp, pu_off hp, pu_off hp, pu_off hp, pu_off hp, pu_off hp, pu_off hp]
  refine Bo_mk (o_hide (d := 0) hJ.1 hn (by omega) hof hol) hm (by omega) (by omega) (by rw [J_bel0 hJ]) (J_opp (F1 := hiF (rmF F h) v (F 2 5)) hJ (fun p j hp => hho p j (by omega) (by omega)) (fun _ _ _ => rfl) (fun p j h1 h2 => hpm p j h2) ?_)
  rw [ed]
  have hS := S_hide (v := v) (c' := pq_u (pq_u (pq_u (pq_u (pq_u (pq_u (pq_u (vw F 2) 6 0 1) 6 3 0) 6 4 0) 6 5 (F 64 2)) 6 1 v) 6 2 v) 7 (F 64 2 % 8) v) (d' := up1 (up1 (up1 (up1 (up1 (up1 (up1 (F 64) 17 1) 18 v) 19 v) 20 0) 21 0) 22 (F 64 2)) (24 + 15 * (F 64 23 - 1) + 1) v) hJ.2.2.1 hv
    (fun i k z1 z2 => by rw [pu_at, if_neg z2, pu_at, if_neg (by omega), pu_at, if_neg (by omega), pu_at, if_neg (by omega), pu_at, if_neg (by omega), pu_at, if_neg (by omega), pu_at, if_neg (by omega)])
    (by rw [pu_at, if_neg (by omega), pu_at, if_neg (by omega), pu_at, if_neg (by omega), pu_at, if_neg (by omega), pu_at, if_neg (by omega), pu_at, if_neg (by omega), pu_at, if_pos ⟨rfl, rfl⟩]) (by rw [pu_at, if_neg (by omega), pu_at, if_neg (by omega), pu_at, if_pos ⟨rfl, rfl⟩]) (by rw [pu_at, if_neg (by omega), pu_at, if_pos ⟨rfl, rfl⟩]) (by rw [pu_at, if_neg (by omega), pu_at, if_neg (by omega), pu_at, if_neg (by omega), pu_at, if_neg (by omega), pu_at, if_neg (by omega), pu_at, if_pos ⟨rfl, rfl⟩]) (by rw [pu_at, if_neg (by omega), pu_at, if_neg (by omega), pu_at, if_neg (by omega), pu_at, if_neg (by omega), pu_at, if_pos ⟨rfl, rfl⟩]) (by rw [pu_at, if_neg (by omega), pu_at, if_neg (by omega), pu_at, if_neg (by omega), pu_at, if_pos ⟨rfl, rfl⟩]) (by rw [pu_at, if_pos ⟨rfl, rfl⟩])
    (fun j z1 z2 => by rw [up1_o z2, up1_o (by omega), up1_o (by omega), up1_o (by omega), up1_o (by omega), up1_o (by omega), up1_o (by omega)])
    (by rw [up1_o (by omega), up1_o (by omega), up1_o (by omega), up1_o (by omega), up1_o (by omega), up1_o (by omega), up1_s]) (by rw [up1_o (by omega), up1_o (by omega), up1_o (by omega), up1_o (by omega), up1_o (by omega), up1_s]) (by rw [up1_o (by omega), up1_o (by omega), up1_o (by omega), up1_o (by omega), up1_s]) (by rw [up1_o (by omega), up1_o (by omega), up1_o (by omega), up1_s]) (by rw [up1_o (by omega), up1_o (by omega), up1_s]) (by rw [up1_o (by omega), up1_s]) (up1_s _ _ _)
  refine Sr_c hS (fun a b hs => ?_) (fun a b hs => rmG_lo hJ (slG_le hs)) (fun j hj => rfl)
  have ha := slF_le hs
  have hvw : vw (hdM (rcM (hiF (rmF F h) v (F 2 5))) v) 2 a b = vw (hiF (rmF F h) v (F 2 5)) 2 a b := by
    unfold vw
    rw [hpm _ _ (by omega)]; exact rc_off (by omega) (by omega)
  rw [hvw]
  unfold hiF stF
  rw [vp7, vp6, vp6, vp6, vp6, vp6, vp6, e2]
  exact pu_cg (pu_cg (pu_cg (pu_cg (pu_cg (pu_cg (pu_cg (r a b ha)))))))
theorem b_undo (hJ : J xs F G h) : Bo L xs 81 126 [] F G h := by
  have hg := J_gOk hJ
  have hn := J_nOk hJ
  have hJ0 := hJ
  obtain ⟨j1, j2, j3, j4, j5, j6, j7, j8, j9⟩ := hJ
  obtain ⟨hr, hh⟩ := id j1
  by_cases h0 : F 1 2 = 0
  · exact Bo_m0 (o_undo0 (d := 0) h0) (g_undo0 (d := 0) (by omega)) (by omega) (by omega) rfl hJ0
  have hk : F 1 2 - 1 < 5 := by omega
  have hrg := h_rng hh hk
  have hS := j4 (F 1 2 - 1) (by omega)
  have hb0 : F (h (F 1 2 - 1) + 6) 0 ≤ 1 := by
    have a1 := hS.2.2.2.2.2.1
    have a2 := hS.2.2.2.2.2.2.1
    have a1 : F (h (F 1 2 - 1) + 6) 0 = _ := a1
    omega
  have hb3 : F (h (F 1 2 - 1) + 6) 3 ≤ 1 := hS.2.2.2.2.2.2.2.1
  have hc := o_undo (d := 0) (L := L) (G := G) (h := h) j1 (by omega) hb0 hb3
  have hou : ∀ p j, (p < 2 ∨ 10 ≤ p) → ¬ (p = 1 ∧ (j = 2 ∨ j = 6)) → pq_u (cpF (pq_u F 1 2 (F 1 2 - 1)) 2 (h (F 1 2 - 1))) 1 6 0 p j = F p j := fun p j z1 z2 => by
    rw [pu_at, if_neg (by omega), cpF_off (by omega), pu_at, if_neg (by omega)]
  have e12 : pq_u (cpF (pq_u F 1 2 (F 1 2 - 1)) 2 (h (F 1 2 - 1))) 1 6 0 1 2 = F 1 2 - 1 := by rw [pu_at, if_neg (by omega), cpF_off (by omega), pu_at, if_pos ⟨rfl, rfl⟩]
  have hm := g_undo (d := 0) (L := L) (F := pq_u (cpF (pq_u F 1 2 (F 1 2 - 1)) 2 (h (F 1 2 - 1))) 1 6 0) (G := cpG G 2 (h (F 1 2 - 1))) (h := h) (by rw [hou 63 2 (by omega) (by omega)]; omega) (by rw [hou 63 2 (by omega) (by omega)]; omega)
  rw [hou 63 2 (by omega) (by omega)] at hm
  have hu63 : unM (pq_u (cpF (pq_u F 1 2 (F 1 2 - 1)) 2 (h (F 1 2 - 1))) 1 6 0) 63 2 = F 1 2 - 1 := by
    unfold unM
    simp only [sh3]
    rw [if_neg (by omega), pu_at, if_pos ⟨rfl, rfl⟩, hou 63 2 (by omega) (by omega), j2]
  have hu64 : ∀ j, j < 144 → unM (pq_u (cpF (pq_u F 1 2 (F 1 2 - 1)) 2 (h (F 1 2 - 1))) 1 6 0) 64 j = F 65 (144 * (F 1 2 - 1) + j) := by
    intro j hj
    unfold unM
    simp only [sh3]
    rw [if_pos ⟨trivial, hj⟩, pu_off (by decide), hou 65 _ (by omega) (by omega), hou 63 2 (by omega) (by omega), j2]
  have huo : ∀ p j, ¬ p = 64 → ¬ (p = 63 ∧ j = 2) → unM (pq_u (cpF (pq_u F 1 2 (F 1 2 - 1)) 2 (h (F 1 2 - 1))) 1 6 0) p j = pq_u (cpF (pq_u F 1 2 (F 1 2 - 1)) 2 (h (F 1 2 - 1))) 1 6 0 p j := by
    intro p j z1 z2
    unfold unM
    simp only [sh3]
    rw [if_neg (fun y => z1 y.1), pu_at, if_neg z2]
  have hall : ∀ p j, (p < 2 ∨ 10 ≤ p) → ¬ p = 64 → ¬ (p = 63 ∧ j = 2) → ¬ (p = 1 ∧ (j = 2 ∨ j = 6)) → unM (pq_u (cpF (pq_u F 1 2 (F 1 2 - 1)) 2 (h (F 1 2 - 1))) 1 6 0) p j = F p j := fun p j z1 z2 z3 z4 => by rw [huo p j z2 z3, hou p j z1 z4]
  have e16 : unM (pq_u (cpF (pq_u F 1 2 (F 1 2 - 1)) 2 (h (F 1 2 - 1))) 1 6 0) 1 6 = 0 := by rw [huo 1 6 (by omega) (by omega), pu_at, if_pos ⟨rfl, rfl⟩]
  have e12' : unM (pq_u (cpF (pq_u F 1 2 (F 1 2 - 1)) 2 (h (F 1 2 - 1))) 1 6 0) 1 2 = F 1 2 - 1 := by rw [huo 1 2 (by omega) (by omega), e12]
  refine Bo_mk hc hm (by omega) (by omega) (by rw [j2]) ⟨fun j => by rw [hou 0 j (by omega) (by omega)]; exact j9 j, ⟨by rw [e12']; omega, hh⟩, by rw [hu63, e12'], ?_, fun i hi => ?_, ⟨?_, ?_, fun i hi => ?_, fun i hi => ?_⟩, by rw [e16]; omega, fun z => by rw [e16] at z; omega, ⟨fun s hs => ?_, ?_⟩, fun j => ?_⟩
  · refine Sr_c hS (fun a b hs => ?_) (fun a b hs => ?_) (fun j hj => hu64 j hj)
    · have ha := slF_le hs
      unfold vw
      rw [huo _ _ (by omega) (by omega), pu_off (by omega), cpF_in (by omega) hs, pu_off (by omega)]
    · unfold vw
      rw [cpG_in (by omega) hs]
  · rw [e12'] at hi
    have hri := h_rng hh (show i < 5 by omega)
    refine Sr_c (j4 i (by omega)) (fun a b hs => ?_) (fun a b hs => ?_) (fun j hj => ?_)
    · have ha := slF_le hs
      unfold vw
      exact hall _ _ (by omega) (by omega) (by omega) (by omega)
    · have ha := slG_le hs
      unfold vw
      rw [cpG_off (by omega)]
    · exact hall 65 _ (by omega) (by omega) (by omega) (by omega)
  · rw [hall 63 4 (by omega) (by omega) (by omega) (by omega), hall 1 4 (by omega) (by omega) (by omega) (by omega)]; exact j5.1
  · rw [hall 1 4 (by omega) (by omega) (by omega) (by omega)]; exact j5.2.1
  · rw [hall 51 i (by omega) (by omega) (by omega) (by omega), hall 66 i (by omega) (by omega) (by omega) (by omega)]; exact j5.2.2.1 i hi
  · rw [hall 1 4 (by omega) (by omega) (by omega) (by omega)] at hi
    rw [hall 51 i (by omega) (by omega) (by omega) (by omega), hall 66 i (by omega) (by omega) (by omega) (by omega)]; exact j5.2.2.2 i hi
  · rw [hall 54 s (by omega) (by omega) (by omega) (by omega), hall 58 s (by omega) (by omega) (by omega) (by omega), hall 62 s (by omega) (by omega) (by omega) (by omega)]; exact j8.1 s hs
  · rw [hall 60 5 (by omega) (by omega) (by omega) (by omega)]; exact j8.2
  · rw [hall 0 j (by omega) (by omega) (by omega) (by omega)]; exact j9 j
end LWD
