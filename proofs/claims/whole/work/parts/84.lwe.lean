/-! the law's calls: tell, turn -/
section LWE
variable {L : Nat} {F G : FF} {h : Nat → Nat} {xs : Nat → Int32}
theorem Sr_gOk2 {c g Fm : FF} (hS : Sr c g (Fm 64)) (h5 : Fm 63 2 ≤ 5) : gOk Fm := by
  obtain ⟨⟨a1, a2, a3, a4, a5, a6, a7, a8, a9, a10, a11⟩, hp, ⟨c1, c2, c3⟩, ⟨d1, d2, d3, d4, d5, d6, d7, d8, d9⟩, _, ⟨e1, e2, e3, e4, e5, e6, e7, e8, e9, e10, e11, e12, e13, e14, e15⟩⟩ := hS
  refine ⟨a2, a3, a5, a7, a9, a11, fun v hv => (hp.2.2.2.1 v hv).1, fun k hk => (c1 k hk).2.2.1, fun k hk => (c1 k hk).2.2.2, e2, e9, e10, e4, e11, e12, d3, d4, d5, fun i hi => ?_, h5⟩
  rw [← d8 i hi]
  exact d6 _ (tq_lt _ _)
theorem Sr_rbOk2 {c g Fm : FF} (hS : Sr c g (Fm 64)) : rbOk Fm := by
  obtain ⟨_, _, _, ⟨d1, d2, d3, d4, d5, d6, d7, d8, d9⟩, _, _⟩ := hS
  intro r h1 h2
  obtain ⟨z1, z2, _⟩ := d9 r h1 h2
  exact ⟨z1, fun k hk => ⟨Nat.lt_trans (z2 k hk).1 (by decide), Nat.lt_trans (z2 k hk).2 (by decide)⟩⟩
theorem rb_hi {F1 : FF} (hr : rbOk F) (hh : ∀ p j, 63 ≤ p → F1 p j = F p j) : rbOk F1 := by
  intro r h1 h2
  rw [hh 64 23 (by omega)] at h2
  rw [hh 64 _ (by omega)]
  refine ⟨(hr r h1 h2).1, fun k hk => ?_⟩
  rw [hh 64 _ (by omega), hh 64 _ (by omega)]
  exact (hr r h1 h2).2 k hk
theorem S_rm (hJ : J xs F G h) {d' : Nat → Nat} (hd : ∀ j, d' j = F 64 j) : Sr (vw (rmF F h) 2) (vw (rmG F G h) 2) d' := Sr_c hJ.2.2.1 (fun a b hs => rm_lo hJ (slF_le hs)) (fun a b hs => rmG_lo hJ (slG_le hs)) (fun j _ => hd j)
theorem b_tell (hJ : J xs F G h) (x y : Int32) : Bo L xs 79 119 [.int x, .int y] F G h := by
  have hg := J_gOk hJ
  have hn := J_nOk hJ
  obtain ⟨e0, e1, e2, e3, e4, e5, e6, e7⟩ := J_e hJ
  have h6 := hg.2.1
  have h2t := hg.2.2.2.1
  have h23 := hg.2.2.2.2.2.2.2.2.2.2.2.2.2.2.2.1
  have h5 := hg.2.2.2.2.2.2.2.2.2.2.2.2.2.2.2.2.2.1
  rcases pk_ix x (n := F 64 2 + 1) (by omega) with hx | hx | ⟨t, ht, rfl⟩
  · exact Bo_m0 (o_tell0 (d := 0) (Or.inl hx)) (g_tell0 (d := 0) hg (Or.inl hx)) (by omega) (by omega) rfl hJ
  · have hlt : nI (F 64 2) < x := Int32.lt_of_lt_of_le (nI_lt (by omega) (by omega)) hx
    exact Bo_m0 (o_tell0 (d := 0) (Or.inr (Or.inl (by rw [e2]; exact hlt)))) (g_tell0 (d := 0) hg (Or.inr hlt)) (by omega) (by omega) rfl hJ
  rcases ix_node y (n := F 64 0) (by omega) with hy | ⟨v, hv, rfl⟩
  · exact Bo_m0 (o_tell0 (d := 0) (Or.inr (Or.inr (by rw [e0]; exact hy)))) (g_tell1 (d := 0) hg (by omega) hy) (by omega) (by omega) rfl hJ
  by_cases hk : F 64 2 - t < F 64 23
  case neg => exact Bo_m0 (o_tell4 (d := 0) hn (by omega) (by omega) (by omega)) (g_tell4 (d := 0) hg (by omega) hv hk) (by omega) (by omega) rfl hJ
  have hbl := J_bel hJ (show t ≤ F 64 2 by omega) hk
  by_cases hb : (F 6 (t % 8)).testBit v = true
  case neg => exact Bo_m0 (o_tell2 (d := 0) hn (by omega) (by omega) (by omega) (by simpa using hb)) (g_tell2 (d := 0) hg (by omega) hv hk (by rw [← hbl]; exact hb)) (by omega) (by omega) rfl hJ
  obtain ⟨i, hi⟩ : ∃ i, i = F 64 23 - 1 - (F 64 2 - t) := ⟨_, rfl⟩
  rw [← hi] at hbl
  have hno : ∀ p j, ¬ p = 6 → nwF (rmF F h) (rmG F G h) t v (F 2 5 - t) p j = rmF F h p j := fun p j hp => nwF_off _ _ _ _ _ hp
  have hgt : ∀ p j, 63 ≤ p → nwF (rmF F h) (rmG F G h) t v (F 2 5 - t) p j = F p j := fun p j hp => by rw [hno p j (by omega)]; exact rm_hi hJ (by omega)
  have hR := rc64f hgt
  have hm := g_tell (d := 0) (L := L) (G := rmG F G h) (h := rmH F h) (F := nwF (rmF F h) (rmG F G h) t v (F 2 5 - t)) (t := t) (v := v) (i := i) (gOk_hi hg hgt) (rb_hi (Sr_rbOk hJ.2.2.1) hgt) (by rw [hgt 64 2 (by omega)]; omega) (by rw [hgt 64 0 (by omega)]; exact hv) (by rw [hgt 64 2 (by omega), hgt 64 23 (by omega)]; exact hk) (by rw [hgt 64 2 (by omega), hgt 64 23 (by omega)]; exact hi) (by rw [hgt 64 _ (by omega), ← hbl]; exact hb)
  have ela : la (nwF (rmF F h) (rmG F G h) t v (F 2 5 - t)) = 24 + 15 * (F 64 23 - 1) := by unfold la; rw [hgt 64 23 (by omega)]
  rw [ela, hgt 64 23 (by omega)] at hm
  have hS0 : Sr (vw (rmF F h) 2) (vw (rmG F G h) 2) (rcM (nwF (rmF F h) (rmG F G h) t v (F 2 5 - t)) 64) := S_rm hJ (fun j => by rw [hR])
  have f23 : rcM (nwF (rmF F h) (rmG F G h) t v (F 2 5 - t)) 64 23 = F 64 23 := by rw [hR]
  have f2 : rcM (nwF (rmF F h) (rmG F G h) t v (F 2 5 - t)) 64 2 = F 64 2 := by rw [hR]
  have et : F 64 2 + i + 1 - F 64 23 = t := by omega
  have ek : F 2 5 - t = F 64 23 - 1 - i := by omega
  have hSn := S_nar (c' := vw (neM (rcM (nwF (rmF F h) (rmG F G h) t v (F 2 5 - t))) v i (F 64 23 - 1 - i)) 2) (g' := vw (rmG F G h) 2) (d' := neM (rcM (nwF (rmF F h) (rmG F G h) t v (F 2 5 - t))) v i (F 64 23 - 1 - i) 64) hS0 (i := i) (node := v) (by rw [f23]; omega) (by omega) (by rw [hR, ← hbl]; exact hb)
    (fun a k ha => by
      rw [f2, f23, et, ← ek]
      unfold vw
      rw [ne_off (by omega) (by omega), rc_off (by omega) (by omega)]) (fun _ _ _ => rfl) (fun j => by rw [f23])
  have heq := nar_eq hS0 (i := i) (node := v) (by rw [f23]; omega) (by omega) (F 64 23 - 1 - i) (by rw [f23]; omega) (F 64 23 - 1) (by rw [f23]; omega)
  rw [f2, f23, et, ← ek] at heq
  have hmod : tq (rcM (nwF (rmF F h) (rmG F G h) t v (F 2 5 - t)) 64) (F 64 23 - 1) = F 2 5 % 8 := by
    unfold tq
    rw [f2, f23, e2, show F 64 2 + (F 64 23 - 1) + 1 - F 64 23 = F 64 2 by omega]
  rw [hmod] at heq
  refine Bo_mk (o_tell (d := 0) hJ.1 hn (by omega) (by omega) (by omega) hb) hm (by omega) (by omega) (by rw [heq, ek]) (J_opp (F1 := nwF (rmF F h) (rmG F G h) t v (F 2 5 - t)) hJ (fun p j hp => hno p j (by omega)) (fun _ _ _ => rfl) (fun p j h1 h2 => ne_off (by omega) (by omega) _) hSn)
theorem tuM_off {R : FF} {p j : Nat} (h3 : R 64 1 ≤ 3) (hp : p < 67) (h64 : ¬ p = 64) : tuM R p j = R p j := by
  rw [tuM_out (by omega), tuE_out h3 (by omega), tuD_out (by omega)]
  unfold tuB
  rw [mr_off (by omega), fl_off (by omega)]
  unfold tuA
  rw [pu_off h64, lv_off (by omega)]
theorem mt_far {Rc Gc : FF} {w p k : Nat} (hp : p < 2 ∨ 10 ≤ p) : mtF Rc Gc w p k = Rc p k := by
  rw [mt_out (by omega) (by omega), if_neg (by omega), mtE_at, if_neg (by omega), if_neg (by omega), if_neg (by omega), if_neg (by omega)]
theorem nwM_off {R : FF} {p j : Nat} (hp : p < 67) (h64 : ¬ p = 64) : nwM R p j = R p j := by
  unfold nwM
  split
  · split
    · exact ne_off (by omega) (by omega) _
    · rfl
  · rfl
/-- the news of a turn, on both sides -/
theorem news_both {Fa Ga Fm FC : FF} (hS : Sr (vw Fa 2) (vw Ga 2) (Fm 64)) (hFC : FC = (@ite _ (gnC Fa) (Classical.propDecidable _) (gnN Fa Ga (Fa 2 5 - Fa 2 7) (Fa 9 ((Fa 2 5 - Fa 2 7) % 8))) Fa)) : (nwC Fm → Fm 64 (24 + 15 * nwI Fm + 1) < 6) ∧ (∀ (c' g' : FF) (d' : Nat → Nat), (∀ a k, a ≤ 7 → c' a k = FC (2 + a) k) → (∀ a k, a ≤ 7 → g' a k = Ga (2 + a) k) → (∀ j, d' j = nwM Fm 64 j) → Sr c' g' d') ∧ FC 6 (Fa 2 5 % 8) = nwM Fm 64 (la Fm) := by
  have hS0 := hS
  obtain ⟨⟨a1, a2, a3, a4, a5, a6, a7, a8, a9, a10, a11⟩, hp, hC, ⟨d1, d2, d3, d4, d5, d6, d7, d8, d9⟩, hj, ⟨f1, f2, f3, f4, f5, f6, f7, f8, f9, f10, f11, f12, f13, f14, f15⟩⟩ := hS
  have a1 : Fa 2 0 = Fm 64 0 := a1
  have a6 : Fa 2 5 = Fm 64 2 := a6
  have a8 : Fa 2 6 = Fm 64 3 := a8
  have a10 : Fa 2 7 = Fm 64 4 := a10
  have d1 : Fa 5 2 = Fm 64 2 := d1
  have d2 : Fa 5 3 = Fm 64 23 := d2
  have f1 : Fa 8 0 = Fm 64 17 := f1
  have hlast : Fa 6 (Fm 64 2 % 8) = Fm 64 (24 + 15 * (Fm 64 23 - 1)) := by
    have := d8 (Fm 64 23 - 1) (by omega)
    rw [tq_last d3] at this
    exact this
  have hfree : ¬ (Fa 8 0 = 0 ∨ Fa 8 3 ≠ 0) ↔ Fm 64 17 = 1 ∧ Fm 64 20 = 0 := by
    by_cases z : Fm 64 17 = 1
    · have b3 : Fa 8 3 = Fm 64 20 := (f14 z).2.2.1
      omega
    · omega
  have hiff : gnC Fa ↔ nwC Fm := by
    unfold gnC nwC
    rw [hfree, a6, a8, a10, d1, d2]
    constructor
    · rintro ⟨z1, z2, z3, z4, z5, z6⟩
      have b5 : Fa 8 5 = Fm 64 22 := (f14 z1.1).2.2.2.2.1
      exact ⟨z1.1, z1.2, z2, z3, z4, by omega, by omega⟩
    · rintro ⟨z0, z1, z2, z3, z4, z5, z6⟩
      have b5 : Fa 8 5 = Fm 64 22 := (f14 z0).2.2.2.2.1
      exact ⟨⟨z0, z1⟩, z2, z3, z4, ⟨by omega, by omega⟩, by omega⟩
  have hnd : nwC Fm → Fa 9 ((Fa 2 5 - Fa 2 7) % 8) = Fm 64 (24 + 15 * nwI Fm + 1) ∧ Fa 9 ((Fa 2 5 - Fa 2 7) % 8) < 6 ∧ nwI Fm < Fm 64 23 ∧ Fm 64 2 + nwI Fm + 1 - Fm 64 23 = Fa 2 5 - Fa 2 7 ∧ Fm 64 23 - 1 - nwI Fm = Fa 5 2 - (Fa 2 5 - Fa 2 7) := by
    rintro ⟨z0, z1, z2, z3, z4, z5, z6⟩
    have hlt : nwI Fm < Fm 64 23 := by unfold nwI; omega
    have e1 : Fm 64 2 + nwI Fm + 1 - Fm 64 23 = Fa 2 5 - Fa 2 7 := by unfold nwI; omega
    have e2 : Fm 64 23 - 1 - nwI Fm = Fa 5 2 - (Fa 2 5 - Fa 2 7) := by unfold nwI; omega
    have h1 := (f15 z0 z1).2 (nwI Fm) hlt (by omega)
    unfold tq at h1
    rw [e1] at h1
    have h1 : Fa 9 ((Fa 2 5 - Fa 2 7) % 8) = _ := h1
    exact ⟨h1, f13 _ (Nat.mod_lt _ (by decide)), hlt, e1, e2⟩
  refine ⟨fun z => ?_, ?_, ?_⟩
  · obtain ⟨q1, q2, _⟩ := hnd z
    rw [← q1]; exact q2
  · intro c' g' d' hc hgg hd
    by_cases z : nwC Fm
    · obtain ⟨q1, q2, q3, q4, q5⟩ := hnd z
      have eFC : FC = gnN Fa Ga (Fa 2 5 - Fa 2 7) (Fa 9 ((Fa 2 5 - Fa 2 7) % 8)) := by rw [hFC]; exact @if_pos _ (Classical.propDecidable _) (hiff.mpr z) _ _ _
      have ebel : Fa 6 ((Fa 2 5 - Fa 2 7) % 8) = Fm 64 (24 + 15 * nwI Fm) := by
        have := d8 (nwI Fm) q3
        unfold tq at this
        rw [q4] at this
        exact this
      by_cases y : (Fm 64 (24 + 15 * nwI Fm)).testBit (Fm 64 (24 + 15 * nwI Fm + 1)) = true
      · have e1 : nwM Fm = neM Fm (Fm 64 (24 + 15 * nwI Fm + 1)) (nwI Fm) (Fm 64 23 - 1 - nwI Fm) := by unfold nwM; rw [if_pos z, if_pos y]
        have e2 : gnN Fa Ga (Fa 2 5 - Fa 2 7) (Fa 9 ((Fa 2 5 - Fa 2 7) % 8)) = nwF Fa Ga (Fm 64 2 + nwI Fm + 1 - Fm 64 23) (Fm 64 (24 + 15 * nwI Fm + 1)) (Fm 64 23 - 1 - nwI Fm) := by
          unfold gnN
          rw [ebel, q1, if_pos y, q4, q5]
        refine S_nar hS0 (i := nwI Fm) (node := Fm 64 (24 + 15 * nwI Fm + 1)) q3 (by rw [← q1]; exact q2) y (fun a k ha => ?_) hgg (fun j => by rw [hd j, e1])
        rw [hc a k ha, eFC, e2]
      · have e1 : nwM Fm = Fm := by unfold nwM; rw [if_pos z, if_neg y]
        have e2 : gnN Fa Ga (Fa 2 5 - Fa 2 7) (Fa 9 ((Fa 2 5 - Fa 2 7) % 8)) = Fa := by
          unfold gnN
          rw [ebel, q1, if_neg y]
        refine Sr_c hS0 (fun a b hs => ?_) (fun a b hs => hgg a b (slG_le hs)) (fun j _ => by rw [hd j, e1])
        rw [hc a b (slF_le hs), eFC, e2]; rfl
    · have eFC : FC = Fa := by rw [hFC]; exact @if_neg _ (Classical.propDecidable _) (fun y => z (hiff.mp y)) _ _ _
      have e1 : nwM Fm = Fm := by unfold nwM; rw [if_neg z]
      refine Sr_c hS0 (fun a b hs => ?_) (fun a b hs => hgg a b (slG_le hs)) (fun j _ => by rw [hd j, e1])
      rw [hc a b (slF_le hs), eFC]; rfl
  · rw [a6]
    by_cases z : nwC Fm
    · obtain ⟨q1, q2, q3, q4, q5⟩ := hnd z
      have eFC : FC = gnN Fa Ga (Fa 2 5 - Fa 2 7) (Fa 9 ((Fa 2 5 - Fa 2 7) % 8)) := by rw [hFC]; exact @if_pos _ (Classical.propDecidable _) (hiff.mpr z) _ _ _
      have ebel : Fa 6 ((Fa 2 5 - Fa 2 7) % 8) = Fm 64 (24 + 15 * nwI Fm) := by
        have := d8 (nwI Fm) q3
        unfold tq at this
        rw [q4] at this
        exact this
      by_cases y : (Fm 64 (24 + 15 * nwI Fm)).testBit (Fm 64 (24 + 15 * nwI Fm + 1)) = true
      · have e1 : nwM Fm = neM Fm (Fm 64 (24 + 15 * nwI Fm + 1)) (nwI Fm) (Fm 64 23 - 1 - nwI Fm) := by unfold nwM; rw [if_pos z, if_pos y]
        have e2 : gnN Fa Ga (Fa 2 5 - Fa 2 7) (Fa 9 ((Fa 2 5 - Fa 2 7) % 8)) = nwF Fa Ga (Fm 64 2 + nwI Fm + 1 - Fm 64 23) (Fm 64 (24 + 15 * nwI Fm + 1)) (Fm 64 23 - 1 - nwI Fm) := by
          unfold gnN
          rw [ebel, q1, if_pos y, q4, q5]
        have heq := nar_eq hS0 (i := nwI Fm) (node := Fm 64 (24 + 15 * nwI Fm + 1)) q3 (by rw [← q1]; exact q2) (Fm 64 23 - 1 - nwI Fm) (by omega) (Fm 64 23 - 1) (by omega)
        rw [tq_last d3] at heq
        rw [eFC, e2, heq, e1]
        rfl
      · have e1 : nwM Fm = Fm := by unfold nwM; rw [if_pos z, if_neg y]
        have e2 : gnN Fa Ga (Fa 2 5 - Fa 2 7) (Fa 9 ((Fa 2 5 - Fa 2 7) % 8)) = Fa := by
          unfold gnN
          rw [ebel, q1, if_neg y]
        rw [eFC, e2, e1]; exact hlast
    · have eFC : FC = Fa := by rw [hFC]; exact @if_neg _ (Classical.propDecidable _) (fun y => z (hiff.mp y)) _ _ _
      have e1 : nwM Fm = Fm := by unfold nwM; rw [if_neg z]
      rw [eFC, e1]; exact hlast
theorem gnN_out {Fa Ga : FF} {t v p j : Nat} (hp : ¬ p = 6) : gnN Fa Ga t v p j = Fa p j := by
  unfold gnN
  split
  · exact nwF_off _ _ _ _ _ hp
  · rfl
theorem b_turn (hJ : J xs F G h) : Bo L xs 80 122 [] F G h := by
  have hg := J_gOk hJ
  have hn := J_nOk hJ
  obtain ⟨e0, e1, e2, e3, e4, e5, e6, e7⟩ := J_e hJ
  have h2t := hg.2.2.2.1
  by_cases ht : F 64 2 = 10000
  · exact Bo_m0 (o_turn3 (d := 0) (by omega)) (g_turn3 (d := 0) ht) (by omega) (by omega) rfl hJ
  have hc := o_turn (d := 0) (L := L) (G := G) (h := h) hJ.1 hn (by omega)
  refine (hc.le (by omega)).mono ?_
  rintro r M' ⟨F1, Fa, Ga, rfl, hFa, hGa, hres⟩
  obtain ⟨FC, hFC⟩ : ∃ FC, FC = (@ite _ (gnC Fa) (Classical.propDecidable _) (gnN Fa Ga (Fa 2 5 - Fa 2 7) (Fa 9 ((Fa 2 5 - Fa 2 7) % 8))) Fa) := ⟨_, rfl⟩
  have hr : r = some (.int (nI (FC 6 (Fa 2 5 % 8)))) ∧ M' = (pq_Sh L, pn FC, pl Ga, pq_rt (rmH F h)) := by
    rcases hres with ⟨z1, z2, z3⟩ | ⟨z1, z2, z3⟩
    · have : FC = gnN Fa Ga (Fa 2 5 - Fa 2 7) (Fa 9 ((Fa 2 5 - Fa 2 7) % 8)) := by rw [hFC]; exact @if_pos _ (Classical.propDecidable _) z1 _ _ _
      rw [this]; exact ⟨z2, z3⟩
    · have : FC = Fa := by rw [hFC]; exact @if_neg _ (Classical.propDecidable _) z1 _ _ _
      rw [this]; exact ⟨z2, z3⟩
  have hFCo : ∀ p j, p < 2 ∨ 10 ≤ p → FC p j = rmF F h p j := by
    intro p j hp
    have : FC p j = Fa p j := by
      rw [hFC]
      by_cases z : gnC Fa
      · rw [@if_pos _ (Classical.propDecidable _) z]; exact gnN_out (by omega)
      · rw [@if_neg _ (Classical.propDecidable _) z]
    rw [this, hFa]; exact mt_far hp
  have hgt : ∀ p j, 63 ≤ p → FC p j = F p j := fun p j hp => by rw [hFCo p j (by omega)]; exact rm_hi hJ (by omega)
  have hR := rc64f hgt
  have hgR : gOk (rcM FC) := rc_gOk (gOk_hi hg hgt)
  have hS0 : Sr (vw (rmF F h) 2) (vw (rmG F G h) 2) (rcM FC 64) := S_rm hJ (fun j => by rw [hR])
  have hS1 := turn_pre hS0 hgR (by rw [hR]; omega) rfl
  rw [← hFa, ← hGa] at hS1
  obtain ⟨n1, n2, n3⟩ := news_both hS1 hFC
  have h3 : rcM FC 64 1 ≤ 3 := hgR.2.2.1
  have e632 : tuM (rcM FC) 63 2 ≤ 5 := by rw [tuM_off h3 (by omega) (by omega)]; exact hgR.2.2.2.2.2.2.2.2.2.2.2.2.2.2.2.2.2.2.2
  have hm := g_turn (d := 0) (L := L) (F := FC) (G := Ga) (h := rmH F h) (gOk_hi hg hgt) (by rw [hgt 64 2 (by omega)]; omega) (Sr_gOk2 hS1 e632) (Sr_rbOk2 hS1) n1
  obtain ⟨rfl, rfl⟩ := hr
  refine ⟨_, FC, Ga, rmH F h, rfl, rfl, fun j => by rw [hFCo 0 j (by omega), rmF_off hJ.1 (Or.inl (by omega)) (by omega)]; exact hJ.2.2.2.2.2.2.2.2 j, (hm.le (by omega)).mono ?_⟩
  rintro r2 M2 ⟨rfl, rfl⟩
  refine ⟨by rw [n3], _, rfl, J_op (F1 := FC) hJ (fun p j hp => hFCo p j (by omega)) (fun p j hp => ?_) (fun p j h1 h2 => ?_) (n2 _ _ _ (fun a k ha => ?_) (fun a k ha => rfl) (fun j => rfl))⟩
  · rw [hGa, pu_off (by omega)]
  · rw [nwM_off h1 h2, tuM_off h3 h1 h2]
  · unfold vw
    rw [nwM_off (by omega) (by omega), tuM_off h3 (by omega) (by omega), rc_off (by omega) (by omega)]
end LWE
