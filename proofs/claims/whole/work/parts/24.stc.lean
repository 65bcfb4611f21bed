section STC
variable {d L : Nat} {F G : Nat → Nat → Nat} {h : Nat → Nat}
theorem E_pz {j pc p k nx na ci x idx : Nat} {lk : List (Nat × Nat)} {v : Value} {lo : pq_L} {r : List Value} {sh : List pq_S} {J : Nat → Nat → Int64} {R : Nat → Nat → Option Nat} {Q : Option Value → pq_M → Prop} (hf : pq_fetch j pc = some (pc, .putfield idx, nx, na, lk, v)) (hs : sh[p]? = some (.inr ci)) (hl : lk.lookup ci = some k) (ht : (pq_ft.getD ci [])[k]? = some .boolean) (hx : x = 0 ∨ x = 1)
    (K : pq_Ev d j nx lo r (sh, pn (pq_u F p k x), J, R) Q) : pq_Ev d j pc lo (.int (nI x) :: .ref p :: r) (sh, pn F, J, R) Q := by
  refine E_st (nx := nx) ?_ K
  have hx2 : nI x = 0 ∨ nI x = 1 := by rcases hx with rfl | rfl; exact Or.inl rfl; exact Or.inr rfl
  have h3 : pq_x3 (.putfield idx) lk (.int (nI x) :: .ref p :: r) (sh, pn F, J, R) = some (r, (sh, pn (pq_u F p k x), J, R)) := by
    simp only [pq_x3, hs, hl, pq_wf, ht, if_pos hx2, pu_n]
  unfold pq_step
  simp only [hf, pq_exec, pq_x1, pq_x2, h3]
theorem E_rem {j pc nx na a b : Nat} {lk : List (Nat × Nat)} {v : Value} {lo : pq_L} {r : List Value} {M : pq_M} {Q : Option Value → pq_M → Prop} (hf : pq_fetch j pc = some (pc, .irem, nx, na, lk, v)) (hb : 0 < b) (ha2 : a < 2 ^ 31) (hb2 : b < 2 ^ 31) (K : pq_Ev d j nx lo (.int (nI (a % b)) :: r) M Q) : pq_Ev d j pc lo (.int (nI b) :: .int (nI a) :: r) M Q := by
  refine E_st (nx := nx) ?_ K
  unfold pq_step
  simp only [hf, pq_exec, pq_x1, pq_i2, if_neg (nI_ne0 hb hb2), pk_rem ha2 hb hb2]
theorem E_div {j pc nx na a b : Nat} {lk : List (Nat × Nat)} {v : Value} {lo : pq_L} {r : List Value} {M : pq_M} {Q : Option Value → pq_M → Prop} (hf : pq_fetch j pc = some (pc, .idiv, nx, na, lk, v)) (hb : 0 < b) (ha2 : a < 2 ^ 31) (hb2 : b < 2 ^ 31) (K : pq_Ev d j nx lo (.int (nI (a / b)) :: r) M Q) : pq_Ev d j pc lo (.int (nI b) :: .int (nI a) :: r) M Q := by
  refine E_st (nx := nx) ?_ K
  unfold pq_step
  simp only [hf, pq_exec, pq_x1, pq_i2, if_neg (nI_ne0 hb hb2), pk_div ha2 hb hb2]
/-- source and target of a copy: the present state and one of the history's -/
def cpOk (x y : Nat) : Prop := (x = 2 ∧ (y = 11 ∨ y = 19 ∨ y = 27 ∨ y = 35 ∨ y = 43)) ∨ (y = 2 ∧ (x = 11 ∨ x = 19 ∨ x = 27 ∨ x = 35 ∨ x = 43))
def cpB (F : Nat → Nat → Nat) (x y : Nat) : Nat → Nat → Nat := pq_u (pq_u (pq_cpy F (y + 1) 0 (x + 1) 0 8) x 2 (F y 2)) x 3 (F y 3)
def cpE (F : Nat → Nat → Nat) (x y : Nat) : Nat → Nat → Nat := pq_cpy (pq_u (pq_u (pq_u (pq_u (pq_u (pq_u F x 0 (F y 0)) x 1 (F y 1)) x 2 (F y 2)) x 3 (F y 3)) x 4 (F y 4)) x 5 (F y 5)) (y + 1) 0 (x + 1) 0 8
def cpS (F : Nat → Nat → Nat) (x y : Nat) : Nat → Nat → Nat := pq_u (pq_u (pq_u (pq_cpy (pq_cpy (pq_u (pq_u F x 0 (F y 0)) x 2 (F y 2)) (y + 1) 0 (x + 1) 0 3) (y + 2) 0 (x + 2) 0 3) x 5 (F y 5)) x 6 (F y 6)) x 7 (F y 7)
def cpF (F : Nat → Nat → Nat) (x y : Nat) : Nat → Nat → Nat := cpE (cpB (cpS F x y) (x + 3) (y + 3)) (x + 6) (y + 6)
def cpG (G : Nat → Nat → Nat) (x y : Nat) : Nat → Nat → Nat := pq_cpy (pq_u G x 1 (G y 1)) (y + 5) 0 (x + 5) 0 8
theorem z_0 : (nI 0).toNatClampNeg = 0 := nI_clamp (by decide)
theorem z_3 : (nI 3).toNatClampNeg = 3 := nI_clamp (by decide)
theorem z_8 : (nI 8).toNatClampNeg = 8 := nI_clamp (by decide)
set_option maxHeartbeats 2000000 in
theorem c_copyB {x y : Nat} (hxy : cpOk x y) : pq_Ca (d + 1) 13 [.ref (x + 3), .ref (y + 3)] (pq_Sh L, pn F, pl G, pq_rt h) (fun r M' => r = none ∧ M' = (pq_Sh L, pn (cpB F (x + 3) (y + 3)), pl (pq_cpy G (y + 5) 0 (x + 5) 0 8), pq_rt h)) := by
  rcases hxy with ⟨rfl, rfl | rfl | rfl | rfl | rfl⟩ | ⟨rfl, rfl | rfl | rfl | rfl | rfl⟩
  all_goals
    refine Ca_mk rfl rfl ?_
    (repeat (first | refine E_st rfl ?_ | refine E_go rfl ?_))
    rw [z_0, z_8]
    simp only [pc_n, pc_l, pn_at, pu_n]
    exact E_rt rfl ⟨rfl, rfl⟩
set_option maxHeartbeats 2000000 in
theorem c_copyE {x y : Nat} (hxy : cpOk x y) (h0 : F (y + 6) 0 ≤ 1) (h3 : F (y + 6) 3 ≤ 1) : pq_Ca (d + 1) 20 [.ref (x + 6), .ref (y + 6)] (pq_Sh L, pn F, pl G, pq_rt h) (fun r M' => r = none ∧ M' = (pq_Sh L, pn (cpE F (x + 6) (y + 6)), pl (G), pq_rt h)) := by
  rcases hxy with ⟨rfl, rfl | rfl | rfl | rfl | rfl⟩ | ⟨rfl, rfl | rfl | rfl | rfl | rfl⟩
  all_goals
    refine Ca_mk rfl rfl ?_
    (repeat (first | refine E_st rfl ?_ | refine E_go rfl ?_))
    refine E_pz rfl rfl rfl rfl (by omega) ?_
    (repeat (first | refine E_st rfl ?_ | refine E_go rfl ?_))
    simp only [pn_at, pu_n]
    refine E_pz rfl rfl rfl rfl (by simp +decide only [pu_at, if_false, and_false, false_and]; omega) ?_
    (repeat (first | refine E_st rfl ?_ | refine E_go rfl ?_))
    rw [z_0, z_8]
    simp only [pc_n, pn_at, pu_n]
    exact E_rt rfl ⟨rfl, rfl⟩
set_option maxHeartbeats 2000000 in
theorem c_copyS {x y : Nat} (hxy : cpOk x y) (h0 : F (y + 6) 0 ≤ 1) (h3 : F (y + 6) 3 ≤ 1) : pq_Ca (d + 2) 53 [.ref x, .ref y] (pq_Sh L, pn F, pl G, pq_rt h) (fun r M' => r = none ∧ M' = (pq_Sh L, pn (cpF F x y), pl (cpG G x y), pq_rt h)) := by
  have hxy2 := hxy
  rcases hxy with ⟨rfl, rfl | rfl | rfl | rfl | rfl⟩ | ⟨rfl, rfl | rfl | rfl | rfl | rfl⟩
  all_goals
    refine Ca_mk rfl rfl ?_
    (repeat (first | refine E_st rfl ?_ | refine E_go rfl ?_))
    rw [z_0, z_3]
    simp only [pc_n, pn_at, pl_at, pu_n, pu_l]
    refine E_cx rfl (Nat.le_refl _) (c_copyB hxy2) ?_
    (repeat (first | refine E_st rfl ?_ | refine E_go rfl ?_))
    refine E_cx rfl (Nat.le_refl _) (c_copyE hxy2 h0 h3) ?_
    exact E_rt rfl ⟨rfl, rfl⟩
/-! what a copy holds -/
theorem pcp_at {α : Type} (f : Nat → Nat → α) (a sp b dp n q j : Nat) : pq_cpy f a sp b dp n q j = if q = b ∧ dp ≤ j ∧ j < dp + n then f a (sp + (j - dp)) else f q j := rfl
def gnC (F : Nat → Nat → Nat) : Prop := ¬ (F 8 0 = 0 ∨ F 8 3 ≠ 0) ∧ 0 < F 2 6 ∧ F 2 5 % F 2 6 = 0 ∧ F 2 7 ≤ F 2 5 ∧ (F 2 5 - F 2 7 ≤ F 5 2 ∧ F 5 2 < F 2 5 - F 2 7 + F 5 3) ∧ F 8 5 ≤ F 2 5 - F 2 7
def gnN (F G : Nat → Nat → Nat) (t v : Nat) : Nat → Nat → Nat := if (F 6 (t % 8)).testBit v then nwF F G t v (F 5 2 - t) else F
set_option maxHeartbeats 2000000 in
theorem c_giveNews (h80 : F 8 0 < 2 ^ 31) (h83 : F 8 3 < 2 ^ 31) (h26 : F 2 6 < 2 ^ 20) (h25 : F 2 5 < 2 ^ 20) (h27 : F 2 7 < 2 ^ 20) (h52 : F 5 2 = F 2 5) (h53 : F 5 3 ≤ F 5 2 + 1) (h85 : F 8 5 < 2 ^ 31) (h9 : gnC F → F 9 ((F 2 5 - F 2 7) % 8) < 6) (hF : ∀ i, i < 8 → F 6 i < 64) (hG : ∀ i, i < 8 → G 7 i < 2 ^ 64) :
    pq_Ca (d + 5) 61 [.ref 2] (pq_Sh L, pn F, pl G, pq_rt h) (fun r M' => r = none ∧ ((gnC F ∧ M' = (pq_Sh L, pn (gnN F G (F 2 5 - F 2 7) (F 9 ((F 2 5 - F 2 7) % 8))), pl G, pq_rt h)) ∨ (¬ gnC F ∧ M' = (pq_Sh L, pn F, pl G, pq_rt h)))) := by
  refine Ca_mk rfl rfl ?_
  (repeat (first | refine E_st rfl ?_ | refine E_go rfl ?_))
  refine E_cx rfl (by omega) (c_isFree (d := 0) h80 h83) ?_
  by_cases c1 : F 8 0 = 0 ∨ F 8 3 ≠ 0
  · rw [if_pos c1]
    refine E_if rfl rfl ?_
    exact E_rt rfl ⟨rfl, Or.inr ⟨fun q => q.1 c1, rfl⟩⟩
  rw [if_neg c1]
  refine E_nif rfl (nI_ne0 (by decide) (by decide)) ?_
  (repeat (first | refine E_st rfl ?_ | refine E_go rfl ?_))
  refine E_br rfl (fun c2 => ?_) (fun c2 => ?_)
  case refine_2 =>
    have c2 : ¬ 0 < F 2 6 := fun q => c2 (show nI 0 < nI (F 2 6) from nI_lt q (by omega))
    exact E_rt rfl ⟨rfl, Or.inr ⟨fun q => c2 q.2.1, rfl⟩⟩
  have c2 : 0 < F 2 6 := (nI_ltI (by decide) (by omega)).mp c2
  (repeat (first | refine E_st rfl ?_ | refine E_go rfl ?_))
  refine E_rem rfl c2 (by omega) (by omega) ?_
  have h4 : F 2 5 % F 2 6 < F 2 6 := Nat.mod_lt _ c2
  refine E_br rfl (fun c3 => ?_) (fun c3 => ?_)
  case refine_2 =>
    have c3 : ¬ F 2 5 % F 2 6 = 0 := fun q => c3 (by rw [q]; rfl)
    exact E_rt rfl ⟨rfl, Or.inr ⟨fun q => c3 q.2.2.1, rfl⟩⟩
  have c3 : F 2 5 % F 2 6 = 0 := (nI_eq (by omega) (by decide)).mp c3
  (repeat (first | refine E_st rfl ?_ | refine E_go rfl ?_))
  refine E_br rfl (fun c4 => ?_) (fun c4 => ?_)
  · have c4 : F 2 5 < F 2 7 := (nI_ltI (by omega) (by omega)).mp c4
    exact E_rt rfl ⟨rfl, Or.inr ⟨fun q => absurd q.2.2.2.1 (by omega), rfl⟩⟩
  have c4 : ¬ F 2 5 < F 2 7 := fun q => c4 ((nI_ltI (by omega) (by omega)).mpr q)
  (repeat (first | refine E_st rfl ?_ | refine E_go rfl ?_))
  simp only [pn_at]
  rw [pk_sub (by omega)]
  refine E_cx rfl (by omega) (c_keeps (d := 0) h53 (by omega) (by omega)) ?_
  by_cases c5 : F 2 5 - F 2 7 ≤ F 5 2 ∧ F 5 2 < F 2 5 - F 2 7 + F 5 3
  case neg =>
    rw [if_neg c5]
    refine E_if rfl rfl ?_
    exact E_rt rfl ⟨rfl, Or.inr ⟨fun q => c5 q.2.2.2.2.1, rfl⟩⟩
  rw [if_pos c5]
  refine E_nif rfl (nI_ne0 (by decide) (by decide)) ?_
  (repeat (first | refine E_st rfl ?_ | refine E_go rfl ?_))
  refine E_br rfl (fun c6 => ?_) (fun c6 => ?_)
  · have c6 : F 2 5 - F 2 7 < F 8 5 := (nI_ltI (by omega) (by omega)).mp c6
    exact E_rt rfl ⟨rfl, Or.inr ⟨fun q => absurd q.2.2.2.2.2 (by omega), rfl⟩⟩
  have c6 : ¬ F 2 5 - F 2 7 < F 8 5 := fun q => c6 ((nI_ltI (by omega) (by omega)).mpr q)
  have hc : gnC F := ⟨c1, c2, c3, (by omega), c5, (by omega)⟩
  (repeat (first | refine E_st rfl ?_ | refine E_go rfl ?_))
  refine E_cx rfl (by omega) (c_nodeAfter (d := 0)) ?_
  refine E_cx rfl (by omega) (c_narrow (d := 0) (by omega) (h9 hc) hF hG (by omega)) ?_
  exact E_rt rfl ⟨rfl, Or.inl ⟨hc, rfl⟩⟩
end STC
