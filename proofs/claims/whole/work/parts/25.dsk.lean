section DSK
variable {d L : Nat} {F G : Nat → Nat → Nat} {h : Nat → Nat}
theorem cpF_off {x y p j : Nat} (hp : p < x ∨ x + 8 ≤ p) : cpF F x y p j = F p j := by
  simp only [cpF, cpE, cpB, cpS, pcp_at, pu_at]
  repeat rw [if_neg (by omega)]
theorem cpG_off {x y p j : Nat} (hp : p < x ∨ x + 8 ≤ p) : cpG G x y p j = G p j := by
  simp only [cpG, pcp_at, pu_at]
  repeat rw [if_neg (by omega)]
/-- the slots of a state that count: by the place in its block, and the slot -/
def slF (i k : Nat) : Prop := (i = 0 ∧ (k = 0 ∨ k = 2 ∨ k = 5 ∨ k = 6 ∨ k = 7)) ∨ (i = 1 ∧ k < 3) ∨ (i = 2 ∧ k < 3) ∨ (i = 3 ∧ (k = 2 ∨ k = 3)) ∨ (i = 4 ∧ k < 8) ∨ (i = 6 ∧ k < 6) ∨ (i = 7 ∧ k < 8)
def slG (i k : Nat) : Prop := (i = 0 ∧ k = 1) ∨ (i = 5 ∧ k < 8)
theorem cpF_in {x y i k : Nat} (hxy : x + 8 ≤ y ∨ y + 8 ≤ x) (hs : slF i k) : cpF F x y (x + i) k = F (y + i) k := by
  unfold slF at hs
  simp only [cpF, cpE, cpB, cpS, pcp_at, pu_at]
  rcases hs with ⟨rfl, rfl | rfl | rfl | rfl | rfl⟩ | ⟨rfl, hk⟩ | ⟨rfl, hk⟩ | ⟨rfl, rfl | rfl⟩ | ⟨rfl, hk⟩ | ⟨rfl, hk⟩ | ⟨rfl, hk⟩
  case inr.inr.inr.inr.inr.inl =>
    rcases (show k = 0 ∨ k = 1 ∨ k = 2 ∨ k = 3 ∨ k = 4 ∨ k = 5 by omega) with rfl | rfl | rfl | rfl | rfl | rfl <;>
    (repeat (first | rw [if_neg (by omega)] | rw [if_pos (by omega)] | rfl))
  all_goals
    (repeat (first | rw [if_neg (by omega)] | rw [if_pos (by omega)] | rfl | (simp only [Nat.zero_add, Nat.sub_zero])))
theorem cpG_in {x y i k : Nat} (hxy : x + 8 ≤ y ∨ y + 8 ≤ x) (hs : slG i k) : cpG G x y (x + i) k = G (y + i) k := by
  unfold slG at hs
  simp only [cpG, pcp_at, pu_at]
  rcases hs with ⟨rfl, rfl⟩ | ⟨rfl, hk⟩
  all_goals
    (repeat (first | rw [if_neg (by omega)] | rw [if_pos (by omega)] | rfl | (simp only [Nat.zero_add, Nat.sub_zero])))
def hOk (h : Nat → Nat) : Prop := (∀ k, k < 5 → h k = 11 ∨ h k = 19 ∨ h k = 27 ∨ h k = 35 ∨ h k = 43) ∧ ∀ i k, i < 5 → k < 5 → h i = h k → i = k
def rotH (h : Nat → Nat) : Nat → Nat := fun i => match i with
  | 0 => h 1
  | 1 => h 2
  | 2 => h 3
  | 3 => h 4
  | 4 => h 0
  | i => h i
theorem rotH_ok (hh : hOk h) : hOk (rotH h) := by
  refine ⟨fun k hk => ?_, fun i k hi hk e => ?_⟩
  · rcases (show k = 0 ∨ k = 1 ∨ k = 2 ∨ k = 3 ∨ k = 4 by omega) with rfl | rfl | rfl | rfl | rfl
    · exact hh.1 1 (by decide)
    · exact hh.1 2 (by decide)
    · exact hh.1 3 (by decide)
    · exact hh.1 4 (by decide)
    · exact hh.1 0 (by decide)
  · rcases (show k = 0 ∨ k = 1 ∨ k = 2 ∨ k = 3 ∨ k = 4 by omega) with rfl | rfl | rfl | rfl | rfl <;>
    rcases (show i = 0 ∨ i = 1 ∨ i = 2 ∨ i = 3 ∨ i = 4 by omega) with rfl | rfl | rfl | rfl | rfl <;>
    first | rfl | exact absurd (hh.2 _ _ (by decide) (by decide) e) (by decide)
theorem hSh (hh : hOk h) {k : Nat} (hk : k < 5) : (pq_Sh L)[h k]? = some (.inr 3) := by
  rcases hh.1 k hk with e | e | e | e | e <;> rw [e] <;> rfl
theorem prt_at {k : Nat} (hk : k < 5) : pq_rt h 10 k = some (h k) := by unfold pq_rt; rw [if_pos rfl, if_pos hk]
theorem prt_rot : pq_u (pq_u (pq_u (pq_u (pq_u (pq_rt h) 10 0 (some (h 1))) 10 1 (some (h 2))) 10 2 (some (h 3))) 10 3 (some (h 4))) 10 4 (some (h 0)) = pq_rt (rotH h) := by
  funext p k
  simp only [pu_at, pq_rt]
  by_cases hp : p = 10
  · subst hp
    match k with
    | 0 => rfl
    | 1 => rfl
    | 2 => rfl
    | 3 => rfl
    | 4 => rfl
    | k + 5 => simp [rotH]
  · simp [hp]
set_option maxHeartbeats 2000000 in
theorem c_drop (hh : hOk h) : pq_Ca (d + 1) 65 [.ref 1] (pq_Sh L, pn F, pl G, pq_rt h) (fun r M' => r = none ∧ M' = (pq_Sh L, pn (pq_u F 1 2 4), pl G, pq_rt (rotH h))) := by
  refine Ca_mk rfl rfl ?_
  (repeat (first | refine E_st rfl ?_ | refine E_go rfl ?_))
  rw [show nI 1 - nI 1 = nI 0 from rfl]
  refine E_aas rfl rfl (by decide) (by decide) (by decide) (hSh hh (by decide)) ?_
  (repeat (first | refine E_st rfl ?_ | refine E_go rfl ?_))
  rw [show nI 1 + nI 1 - nI 1 = nI 1 from rfl]
  refine E_aas rfl rfl (by decide) (by decide) (by decide) (hSh hh (by decide)) ?_
  (repeat (first | refine E_st rfl ?_ | refine E_go rfl ?_))
  rw [show nI 1 + nI 1 + nI 1 - nI 1 = nI 2 from rfl]
  refine E_aas rfl rfl (by decide) (by decide) (by decide) (hSh hh (by decide)) ?_
  (repeat (first | refine E_st rfl ?_ | refine E_go rfl ?_))
  rw [show nI 1 + nI 1 + nI 1 + nI 1 - nI 1 = nI 3 from rfl]
  refine E_aas rfl rfl (by decide) (by decide) (by decide) (hSh hh (by decide)) ?_
  (repeat (first | refine E_st rfl ?_ | refine E_go rfl ?_))
  refine E_nif rfl (by decide) ?_
  (repeat (first | refine E_st rfl ?_ | refine E_go rfl ?_))
  refine E_aas rfl rfl (by decide) (by decide) (by decide) (hSh hh (by decide)) ?_
  (repeat (first | refine E_st rfl ?_ | refine E_go rfl ?_))
  refine E_rt rfl ⟨rfl, ?_⟩
  rw [pu_n]
  exact congrArg (fun z => (pq_Sh L, pn (pq_u F 1 2 4), pl G, z)) prt_rot
def rmH (F : Nat → Nat → Nat) (h : Nat → Nat) : Nat → Nat := if F 1 2 < 5 then h else rotH h
def rmK (F : Nat → Nat → Nat) : Nat := if F 1 2 < 5 then F 1 2 else 4
def rmF (F : Nat → Nat → Nat) (h : Nat → Nat) : Nat → Nat → Nat := pq_u (pq_u (cpF (if F 1 2 < 5 then F else pq_u F 1 2 4) (rmH F h (rmK F)) 2) 1 2 (rmK F + 1)) 1 6 0
def rmG (F G : Nat → Nat → Nat) (h : Nat → Nat) : Nat → Nat → Nat := cpG G (rmH F h (rmK F)) 2
theorem hCp (hh : hOk h) {k : Nat} (hk : k < 5) : cpOk (h k) 2 := Or.inr ⟨rfl, hh.1 k hk⟩
theorem hCp2 (hh : hOk h) {k : Nat} (hk : k < 5) : cpOk 2 (h k) := Or.inl ⟨rfl, hh.1 k hk⟩
theorem l_rem {k : Nat} (hk : k < 5) (hK : F 1 2 = k) (hh : hOk h) (h0 : F 8 0 ≤ 1) (h3 : F 8 3 ≤ 1) : pq_Ev (d + 2) 64 12 [some (.ref 1)] [] (pq_Sh L, pn F, pl G, pq_rt h) (fun r M' => r = none ∧ M' = (pq_Sh L, pn (pq_u (pq_u (cpF F (h k) 2) 1 2 (k + 1)) 1 6 0), pl (cpG G (h k) 2), pq_rt h)) := by
  (repeat (first | refine E_st rfl ?_ | refine E_go rfl ?_))
  rw [pn_at, hK]
  refine E_aal rfl rfl hk (by decide) (q := h k) (prt_at hk) ?_
  have hcp := hCp hh hk
  rcases hh.1 k hk with e | e | e | e | e
  all_goals
    rw [e] at hcp ⊢
    (repeat (first | refine E_st rfl ?_ | refine E_go rfl ?_))
    refine E_cx rfl (by omega) (c_copyS (d := 0) hcp h0 h3) ?_
    (repeat (first | refine E_st rfl ?_ | refine E_go rfl ?_))
    rw [pn_at, cpF_off (Or.inl (by omega)), hK, nI_add]
    simp only [pu_n]
    exact E_rt rfl ⟨rfl, rfl⟩
theorem c_remember (hr : F 1 2 ≤ 5) (hh : hOk h) (h0 : F 8 0 ≤ 1) (h3 : F 8 3 ≤ 1) : pq_Ca (d + 3) 64 [.ref 1] (pq_Sh L, pn F, pl G, pq_rt h) (fun r M' => r = none ∧ M' = (pq_Sh L, pn (rmF F h), pl (rmG F G h), pq_rt (rmH F h))) := by
  refine Ca_mk rfl rfl ?_
  (repeat (first | refine E_st rfl ?_ | refine E_go rfl ?_))
  by_cases hc : F 1 2 < 5
  · refine E_if rfl (show nI (F 1 2) < nI 5 from nI_lt hc (by decide)) ?_
    simp only [rmF, rmG, rmH, rmK, if_pos hc]
    exact l_rem hc rfl hh h0 h3
  · refine E_nif rfl (show ¬ nI (F 1 2) < nI 5 from nI_nlt (by omega) (by omega)) ?_
    (repeat (first | refine E_st rfl ?_ | refine E_go rfl ?_))
    refine E_cx rfl (by omega) (c_drop (d := 0) hh) ?_
    simp only [rmF, rmG, rmH, rmK, if_neg hc]
    exact l_rem (F := pq_u F 1 2 4) (h := rotH h) (k := 4) (by decide) rfl (rotH_ok hh) h0 h3
theorem c_isNode {v : Nat} (hn : F 2 0 ≤ 6) (hv : v < F 2 0) : pq_Ca (d + 1) 67 [.ref 1, .int (nI v)] (pq_Sh L, pn F, pl G, pq_rt h) (fun r M' => r = some (.int (nI 1)) ∧ M' = (pq_Sh L, pn (F), pl (G), pq_rt h)) := by
  refine Ca_mk rfl rfl ?_
  (repeat (first | refine E_st rfl ?_ | refine E_go rfl ?_))
  refine E_nif rfl (nI_pos (by omega)) ?_
  (repeat (first | refine E_st rfl ?_ | refine E_go rfl ?_))
  refine E_if rfl (show nI v < nI (F 2 0) from nI_lt hv (by omega)) ?_
  (repeat (first | refine E_st rfl ?_ | refine E_go rfl ?_))
  exact E_rt rfl ⟨rfl, rfl⟩
theorem c_isNode0 {x : Int32} (hx : x < 0 ∨ nI (F 2 0) ≤ x) : pq_Ca (d + 1) 67 [.ref 1, .int x] (pq_Sh L, pn F, pl G, pq_rt h) (fun r M' => r = some (.int (nI 0)) ∧ M' = (pq_Sh L, pn (F), pl (G), pq_rt h)) := by
  refine Ca_mk rfl rfl ?_
  (repeat (first | refine E_st rfl ?_ | refine E_go rfl ?_))
  refine E_br rfl (fun c => ?_) (fun c => ?_)
  · (repeat (first | refine E_st rfl ?_ | refine E_go rfl ?_))
    exact E_rt rfl ⟨rfl, rfl⟩
  · (repeat (first | refine E_st rfl ?_ | refine E_go rfl ?_))
    refine E_nif rfl (show ¬ x < nI (F 2 0) from Int32.not_lt.mpr (hx.resolve_left c)) ?_
    (repeat (first | refine E_st rfl ?_ | refine E_go rfl ?_))
    exact E_rt rfl ⟨rfl, rfl⟩
theorem c_isSearcher {v : Nat} (hn : F 2 2 ≤ 3) (hv : v < F 2 2) : pq_Ca (d + 1) 75 [.ref 1, .int (nI v)] (pq_Sh L, pn F, pl G, pq_rt h) (fun r M' => r = some (.int (nI 1)) ∧ M' = (pq_Sh L, pn (F), pl (G), pq_rt h)) := by
  refine Ca_mk rfl rfl ?_
  (repeat (first | refine E_st rfl ?_ | refine E_go rfl ?_))
  refine E_nif rfl (nI_pos (by omega)) ?_
  (repeat (first | refine E_st rfl ?_ | refine E_go rfl ?_))
  refine E_if rfl (show nI v < nI (F 2 2) from nI_lt hv (by omega)) ?_
  (repeat (first | refine E_st rfl ?_ | refine E_go rfl ?_))
  exact E_rt rfl ⟨rfl, rfl⟩
theorem c_isSearcher0 {x : Int32} (hx : x < 0 ∨ nI (F 2 2) ≤ x) : pq_Ca (d + 1) 75 [.ref 1, .int x] (pq_Sh L, pn F, pl G, pq_rt h) (fun r M' => r = some (.int (nI 0)) ∧ M' = (pq_Sh L, pn (F), pl (G), pq_rt h)) := by
  refine Ca_mk rfl rfl ?_
  (repeat (first | refine E_st rfl ?_ | refine E_go rfl ?_))
  refine E_br rfl (fun c => ?_) (fun c => ?_)
  · (repeat (first | refine E_st rfl ?_ | refine E_go rfl ?_))
    exact E_rt rfl ⟨rfl, rfl⟩
  · (repeat (first | refine E_st rfl ?_ | refine E_go rfl ?_))
    refine E_nif rfl (show ¬ x < nI (F 2 2) from Int32.not_lt.mpr (hx.resolve_left c)) ?_
    (repeat (first | refine E_st rfl ?_ | refine E_go rfl ?_))
    exact E_rt rfl ⟨rfl, rfl⟩
theorem c_belief : pq_Ca (d + 3) 77 [.ref 1] (pq_Sh L, pn F, pl G, pq_rt h) (fun r M' => r = some (.int (nI (F 6 (F 2 5 % 8)))) ∧ M' = (pq_Sh L, pn (F), pl (G), pq_rt h)) := by
  refine Ca_mk rfl rfl ?_
  (repeat (first | refine E_st rfl ?_ | refine E_go rfl ?_))
  refine E_cx rfl (by omega) (c_after (d := 0) (t := F 2 5)) ?_
  exact E_rt rfl ⟨rfl, rfl⟩
end DSK
