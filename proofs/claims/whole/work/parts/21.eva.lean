/-! Evader (of the present state): places 8, 9 -/
section EVA
variable {d L : Nat} {F G : Nat → Nat → Nat} {h : Nat → Nat}
def stF (F : Nat → Nat → Nat) (v t : Nat) : Nat → Nat → Nat := pq_u (pq_u (pq_u F 8 1 v) 8 2 v) 9 (t % 8) v
def caF (F : Nat → Nat → Nat) (v t : Nat) : Nat → Nat → Nat := stF (pq_u (pq_u F 8 3 1) 8 4 t) v t
def hiF (F : Nat → Nat → Nat) (v t : Nat) : Nat → Nat → Nat := stF (pq_u (pq_u (pq_u (pq_u F 8 0 1) 8 3 0) 8 4 0) 8 5 t) v t
theorem c_isFree (h1 : F 8 0 < 2 ^ 31) (h2 : F 8 3 < 2 ^ 31) : pq_Ca (d + 1) 21 [.ref 8] (pq_Sh L, pn F, pl G, pq_rt h) (fun r M' => r = some (.int (nI (if F 8 0 = 0 ∨ F 8 3 ≠ 0 then 0 else 1))) ∧ M' = (pq_Sh L, pn (F), pl (G), pq_rt h)) := by
  refine Ca_mk rfl rfl ?_
  (repeat (first | refine E_st rfl ?_ | refine E_go rfl ?_))
  refine E_br rfl (fun c => ?_) (fun c => ?_)
  · have c1 : F 8 0 = 0 := (nI_eq h1 (by decide)).mp c
    (repeat (first | refine E_st rfl ?_ | refine E_go rfl ?_))
    refine E_rt rfl ⟨?_, rfl⟩
    rw [if_pos (Or.inl c1)]
  · have c1 : ¬ F 8 0 = 0 := fun q => c (by show nI (F 8 0) = 0; rw [q]; rfl)
    (repeat (first | refine E_st rfl ?_ | refine E_go rfl ?_))
    refine E_br rfl (fun c => ?_) (fun c => ?_)
    · have c2 : F 8 3 = 0 := (nI_eq h2 (by decide)).mp c
      (repeat (first | refine E_st rfl ?_ | refine E_go rfl ?_))
      refine E_rt rfl ⟨?_, rfl⟩
      rw [if_neg (fun q => q.elim c1 (fun q => q c2))]
    · have c2 : ¬ F 8 3 = 0 := fun q => c (by show nI (F 8 3) = 0; rw [q]; rfl)
      (repeat (first | refine E_st rfl ?_ | refine E_go rfl ?_))
      refine E_rt rfl ⟨?_, rfl⟩
      rw [if_pos (Or.inr c2)]
theorem c_standAt {v t : Nat} : pq_Ca (d + 2) 23 [.ref 8, .int (nI v), .int (nI t)] (pq_Sh L, pn F, pl G, pq_rt h) (fun r M' => r = none ∧ M' = (pq_Sh L, pn (stF F v t), pl (G), pq_rt h)) := by
  refine Ca_mk rfl rfl ?_
  (repeat (first | refine E_st rfl ?_ | refine E_go rfl ?_))
  refine E_cx rfl (Nat.le_refl _) c_slot ?_
  (repeat (first | refine E_st rfl ?_ | refine E_go rfl ?_))
  simp only [pu_n, pu_l, pc_n, pc_l]
  refine E_ias rfl rfl (by omega) (by decide) (by decide) ?_
  exact E_rt rfl ⟨rfl, rfl⟩
theorem c_catchAt {v t : Nat} : pq_Ca (d + 3) 22 [.ref 8, .int (nI v), .int (nI t)] (pq_Sh L, pn F, pl G, pq_rt h) (fun r M' => r = none ∧ M' = (pq_Sh L, pn (caF F v t), pl (G), pq_rt h)) := by
  refine Ca_mk rfl rfl ?_
  (repeat (first | refine E_st rfl ?_ | refine E_go rfl ?_))
  simp only [pu_n, pu_l, pc_n, pc_l]
  refine E_cx rfl (Nat.le_refl _) c_standAt ?_
  (repeat (first | refine E_st rfl ?_ | refine E_go rfl ?_))
  exact E_rt rfl ⟨rfl, rfl⟩
theorem c_hideAt {v t : Nat} : pq_Ca (d + 3) 26 [.ref 8, .int (nI v), .int (nI t)] (pq_Sh L, pn F, pl G, pq_rt h) (fun r M' => r = none ∧ M' = (pq_Sh L, pn (hiF F v t), pl (G), pq_rt h)) := by
  refine Ca_mk rfl rfl ?_
  (repeat (first | refine E_st rfl ?_ | refine E_go rfl ?_))
  simp only [pu_n, pu_l, pc_n, pc_l]
  refine E_cx rfl (Nat.le_refl _) c_standAt ?_
  (repeat (first | refine E_st rfl ?_ | refine E_go rfl ?_))
  exact E_rt rfl ⟨rfl, rfl⟩
theorem c_nodeAfter {t : Nat} : pq_Ca (d + 2) 25 [.ref 8, .int (nI t)] (pq_Sh L, pn F, pl G, pq_rt h) (fun r M' => r = some (.int (nI (F 9 (t % 8)))) ∧ M' = (pq_Sh L, pn (F), pl (G), pq_rt h)) := by
  refine Ca_mk rfl rfl ?_
  (repeat (first | refine E_st rfl ?_ | refine E_go rfl ?_))
  refine E_cx rfl (Nat.le_refl _) c_slot ?_
  refine E_ial rfl rfl (by omega) (by decide) ?_
  exact E_rt rfl ⟨rfl, rfl⟩
theorem wy_bit (u v i : Nat) : (wy u v).testBit i = decide (6 * u + v = i) := zb_one _ _
theorem and_way (w u v : Nat) : w &&& wy u v = 0 ↔ w.testBit (6 * u + v) = false := by
  constructor
  · intro e
    have := congrArg (fun z => z.testBit (6 * u + v)) e
    simpa [Nat.testBit_and, wy_bit] using this
  · intro e
    apply Nat.eq_of_testBit_eq
    intro i
    rw [Nat.testBit_and, wy_bit, Nat.zero_testBit]
    by_cases hi : 6 * u + v = i
    · subst hi; simp [e]
    · simp [hi]
theorem c_go {w t : Nat} (hw : w < 2 ^ 63) (h1 : F 8 1 < 6) (h2 : F 8 2 < 6) : pq_Ca (d + 4) 24 [.ref 8, .long (lN w), .int (nI t)] (pq_Sh L, pn F, pl G, pq_rt h) (fun r M' => r = none ∧ M' = (pq_Sh L, pn (if w.testBit (6 * F 8 1 + F 8 2) then stF F (F 8 2) t else caF F (F 8 2) t), pl (G), pq_rt h)) := by
  refine Ca_mk rfl rfl ?_
  (repeat (first | refine E_st rfl ?_ | refine E_go rfl ?_))
  refine E_cx rfl (by omega) (c_way (d := 0) (u := F 8 1) (v := F 8 2) (by omega)) ?_
  (repeat (first | refine E_st rfl ?_ | refine E_go rfl ?_))
  rw [zl_and]
  have hlt : w &&& wy (F 8 1) (F 8 2) < 2 ^ 63 := Nat.lt_of_le_of_lt Nat.and_le_left hw
  by_cases hb : w.testBit (6 * F 8 1 + F 8 2) = true
  · simp only [if_pos hb]
    have hne : ¬ w &&& wy (F 8 1) (F 8 2) = 0 := fun e => by rw [and_way, hb] at e; cases e
    refine E_nif rfl (fun e => hne ((zl_cmp hlt).mp e)) ?_
    (repeat (first | refine E_st rfl ?_ | refine E_go rfl ?_))
    refine E_cx rfl (by omega) (c_standAt (d := 0)) ?_
    (repeat (first | refine E_st rfl ?_ | refine E_go rfl ?_))
    exact E_rt rfl ⟨rfl, rfl⟩
  · simp only [if_neg hb]
    have he : w &&& wy (F 8 1) (F 8 2) = 0 := (and_way _ _ _).mpr (by simpa using hb)
    refine E_if rfl ((zl_cmp hlt).mpr he) ?_
    (repeat (first | refine E_st rfl ?_ | refine E_go rfl ?_))
    refine E_cx rfl (by omega) (c_catchAt (d := 0)) ?_
    (repeat (first | refine E_st rfl ?_ | refine E_go rfl ?_))
    exact E_rt rfl ⟨rfl, rfl⟩
end EVA
