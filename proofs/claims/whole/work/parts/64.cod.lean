/-! the class's constructor (written by cod.py) -/
def dR1 (R : Nat → Nat → Option Nat) : Nat → Nat → Option Nat := pa (pq_u (sR (bn R 2) 2) 1 0 (some 2)) 1 1 10
def dRh (R : Nat → Nat → Option Nat) : Nat → Nat → Nat → Option Nat
  | 0 => dR1 R
  | i + 1 => pq_u (sR (bn (dRh R i) (11 + 8 * i)) (11 + 8 * i)) 10 i (some (11 + 8 * i))
def dR4 (R : Nat → Nat → Option Nat) : Nat → Nat → Option Nat := pa (dRh R 5) 1 3 51
def dR5 (R : Nat → Nat → Option Nat) : Nat → Nat → Option Nat := pq_u (tR (bn (dR4 R) 52) 52) 1 5 (some 52)
def dR6 (R : Nat → Nat → Option Nat) : Nat → Nat → Option Nat := pq_u (tR (bn (dR5 R) 56) 56) 1 7 (some 56)
def dR7 (R : Nat → Nat → Option Nat) : Nat → Nat → Option Nat := pq_u (mR (bn (dR6 R) 60) 60) 1 8 (some 60)
def saI (I : Nat → Nat → Int32) : Nat → Nat → Int32 := pq_u (pq_u (pq_u (pq_u (pq_u (pq_u (pq_u I 2 0 (nI 4)) 2 2 (nI 0)) 2 5 (nI 0)) 8 0 (nI 0)) 5 2 (nI 0)) 5 3 (nI 1)) 6 0 (nI 15)
section COD
variable {d L : Nat} {I : Nat → Nat → Int32} {J : Nat → Nat → Int64} {R : Nat → Nat → Option Nat}
theorem k_occ (h : I 2 2 = nI 0) : pq_Ca (d + 1) 52 [.ref 2] ((pq_Sh L).take 63, I, J, dR7 R) (fun r M' => r = some (.int (nI 0)) ∧ M' = ((pq_Sh L).take 63, I, J, dR7 R)) := by
  refine Ca_mk rfl rfl ?_
  (repeat (first | refine E_st rfl ?_ | refine E_go rfl ?_))
  refine E_nif rfl (show ¬ nI 0 < I 2 2 by rw [h]; decide) ?_
  (repeat (first | refine E_st rfl ?_ | refine E_go rfl ?_))
  exact E_rt rfl ⟨rfl, rfl⟩
theorem k_make {x : Int32} : pq_Ca (d + 2) 11 [.ref 5, .int (nI 0), .int x] ((pq_Sh L).take 63, I, J, dR7 R) (fun r M' => r = none ∧ M' = ((pq_Sh L).take 63, pq_u (pq_u (pq_u I 5 2 (nI 0)) 5 3 (nI 1)) 6 0 x, J, dR7 R)) := by
  refine Ca_mk rfl rfl ?_
  (repeat (first | refine E_st rfl ?_ | refine E_go rfl ?_))
  refine E_cx rfl (by omega) (c_slot (d := 0)) ?_
  (repeat (first | refine E_st rfl ?_ | refine E_go rfl ?_))
  exact E_rt rfl ⟨rfl, rfl⟩
theorem k_forget (h2 : I 2 2 = nI 0) (h0 : I 2 0 = nI 4) (h5 : I 2 5 = nI 0) : pq_Ca (d + 3) 51 [.ref 2] ((pq_Sh L).take 63, I, J, dR7 R) (fun r M' => r = none ∧ M' = ((pq_Sh L).take 63, pq_u (pq_u (pq_u I 5 2 (nI 0)) 5 3 (nI 1)) 6 0 (nI 15), J, dR7 R)) := by
  refine Ca_mk rfl rfl ?_
  (repeat (first | refine E_st rfl ?_ | refine E_go rfl ?_))
  refine E_cx rfl (by omega) (k_occ (d := 0) h2) ?_
  (repeat (first | refine E_st rfl ?_ | refine E_go rfl ?_))
  rw [h5, h0, show (nI 1 <<< (nI 4 &&& 31) - nI 1 &&& (nI 0 ^^^ (-1))) = nI 15 by decide]
  refine E_cx rfl (by omega) (k_make (d := 0)) ?_
  exact E_rt rfl ⟨rfl, rfl⟩
theorem k_start : pq_Ca (d + 4) 50 [.ref 2, .int (nI 4)] ((pq_Sh L).take 63, I, J, dR7 R) (fun r M' => r = none ∧ M' = ((pq_Sh L).take 63, saI I, pq_u J 2 1 (lN (wStays 4)), dR7 R)) := by
  refine Ca_mk rfl rfl ?_
  (repeat (first | refine E_st rfl ?_ | refine E_go rfl ?_))
  refine E_cx rfl (by omega) (c_stays (d := 0) (n := 4) (by decide)) ?_
  (repeat (first | refine E_st rfl ?_ | refine E_go rfl ?_))
  refine E_cx rfl (by omega) (k_forget (d := 0) (R := R) rfl rfl rfl) ?_
  exact E_rt rfl ⟨rfl, rfl⟩
set_option maxRecDepth 8000 in
theorem k_desk : pq_Ca (d + 5) 62 [.ref 1] ((pq_Sh L).take 2, I, J, R) (fun r M' => r = none ∧ M' = ((pq_Sh L).take 63, saI (bzs I 2 61), pq_u (bls J 2 61) 2 1 (lN (wStays 4)), dR7 R)) := by
  refine Ca_mk rfl rfl ?_
  (repeat (first | refine E_st rfl ?_ | refine E_go rfl ?_))
  refine E_cx rfl (by omega) (k_S_2 (d := 0)) ?_
  (repeat (first | refine E_st rfl ?_ | refine E_go rfl ?_))
  refine E_cx rfl (by omega) (k_S_11 (d := 0)) ?_
  (repeat (first | refine E_st rfl ?_ | refine E_go rfl ?_))
  refine E_cx rfl (by omega) (k_S_19 (d := 0)) ?_
  (repeat (first | refine E_st rfl ?_ | refine E_go rfl ?_))
  refine E_cx rfl (by omega) (k_S_27 (d := 0)) ?_
  (repeat (first | refine E_st rfl ?_ | refine E_go rfl ?_))
  refine E_cx rfl (by omega) (k_S_35 (d := 0)) ?_
  (repeat (first | refine E_st rfl ?_ | refine E_go rfl ?_))
  refine E_cx rfl (by omega) (k_S_43 (d := 0)) ?_
  (repeat (first | refine E_st rfl ?_ | refine E_go rfl ?_))
  refine E_nif rfl (by decide) ?_
  (repeat (first | refine E_st rfl ?_ | refine E_go rfl ?_))
  refine E_cx rfl (by omega) (k_T_52 (d := 0)) ?_
  (repeat (first | refine E_st rfl ?_ | refine E_go rfl ?_))
  refine E_cx rfl (by omega) (k_T_56 (d := 0)) ?_
  (repeat (first | refine E_st rfl ?_ | refine E_go rfl ?_))
  refine E_cx rfl (by omega) (k_M_60 (d := 0)) ?_
  (repeat (first | refine E_st rfl ?_ | refine E_go rfl ?_))
  refine E_cx rfl (by omega) (k_start (d := 0) (R := R) (I := bzs I 2 61) (J := bls J 2 61)) ?_
  exact E_rt rfl ⟨rfl, rfl⟩
end COD
