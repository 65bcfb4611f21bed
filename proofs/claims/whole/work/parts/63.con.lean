/-! the constructors of the class (written by con.py) -/
def bz (I : Nat → Nat → Int32) (p : Nat) : Nat → Nat → Int32 := pq_blank I p 0
def bl (J : Nat → Nat → Int64) (p : Nat) : Nat → Nat → Int64 := pq_blank J p 0
def bn (R : Nat → Nat → Option Nat) (p : Nat) : Nat → Nat → Option Nat := pq_blank R p none
def pa (R : Nat → Nat → Option Nat) (x k q : Nat) : Nat → Nat → Option Nat := pq_u (bn R q) x k (some q)
def bzs (I : Nat → Nat → Int32) (p : Nat) : Nat → Nat → Nat → Int32
  | 0 => I
  | k + 1 => bz (bzs I p k) (p + k)
def bls (J : Nat → Nat → Int64) (p : Nat) : Nat → Nat → Nat → Int64
  | 0 => J
  | k + 1 => bl (bls J p k) (p + k)
def bR (R : Nat → Nat → Option Nat) (y : Nat) : Nat → Nat → Option Nat := pa (pa R y 0 (y + 1)) y 1 (y + 2)
def eR (R : Nat → Nat → Option Nat) (y : Nat) : Nat → Nat → Option Nat := pa R y 6 (y + 1)
def sR (R : Nat → Nat → Option Nat) (x : Nat) : Nat → Nat → Option Nat := pq_u (eR (bn (pq_u (bR (bn (pa (pa R x 3 (x + 1)) x 4 (x + 2)) (x + 3)) (x + 3)) x 8 (some (x + 3))) (x + 6)) (x + 6)) x 9 (some (x + 6))
def tR (R : Nat → Nat → Option Nat) (x : Nat) : Nat → Nat → Option Nat := pa (pa (pa R x 3 (x + 1)) x 4 (x + 2)) x 5 (x + 3)
def mR (R : Nat → Nat → Option Nat) (x : Nat) : Nat → Nat → Option Nat := pa (pa R x 3 (x + 1)) x 4 (x + 2)
section CON
variable {d L : Nat} {I : Nat → Nat → Int32} {J : Nat → Nat → Int64} {R : Nat → Nat → Option Nat}
theorem k_B_5 : pq_Ca (d + 1) 10 [.ref 5] ((pq_Sh L).take 6, I, J, R) (fun r M' => r = none ∧ M' = ((pq_Sh L).take 8, bzs I 6 2, bls J 6 2, bR R 5)) := by
  refine Ca_mk rfl rfl ?_
  (repeat (first | refine E_st rfl ?_ | refine E_go rfl ?_))
  exact E_rt rfl ⟨rfl, rfl⟩
theorem k_E_8 : pq_Ca (d + 1) 19 [.ref 8] ((pq_Sh L).take 9, I, J, R) (fun r M' => r = none ∧ M' = ((pq_Sh L).take 10, bzs I 9 1, bls J 9 1, eR R 8)) := by
  refine Ca_mk rfl rfl ?_
  (repeat (first | refine E_st rfl ?_ | refine E_go rfl ?_))
  exact E_rt rfl ⟨rfl, rfl⟩
theorem k_S_2 : pq_Ca (d + 2) 49 [.ref 2] ((pq_Sh L).take 3, I, J, R) (fun r M' => r = none ∧ M' = ((pq_Sh L).take 10, bzs I 3 7, bls J 3 7, sR R 2)) := by
  refine Ca_mk rfl rfl ?_
  (repeat (first | refine E_st rfl ?_ | refine E_go rfl ?_))
  refine E_cx rfl (by omega) (k_B_5 (d := 0)) ?_
  (repeat (first | refine E_st rfl ?_ | refine E_go rfl ?_))
  refine E_cx rfl (by omega) (k_E_8 (d := 0)) ?_
  (repeat (first | refine E_st rfl ?_ | refine E_go rfl ?_))
  exact E_rt rfl ⟨rfl, rfl⟩
theorem k_B_14 : pq_Ca (d + 1) 10 [.ref 14] ((pq_Sh L).take 15, I, J, R) (fun r M' => r = none ∧ M' = ((pq_Sh L).take 17, bzs I 15 2, bls J 15 2, bR R 14)) := by
  refine Ca_mk rfl rfl ?_
  (repeat (first | refine E_st rfl ?_ | refine E_go rfl ?_))
  exact E_rt rfl ⟨rfl, rfl⟩
theorem k_E_17 : pq_Ca (d + 1) 19 [.ref 17] ((pq_Sh L).take 18, I, J, R) (fun r M' => r = none ∧ M' = ((pq_Sh L).take 19, bzs I 18 1, bls J 18 1, eR R 17)) := by
  refine Ca_mk rfl rfl ?_
  (repeat (first | refine E_st rfl ?_ | refine E_go rfl ?_))
  exact E_rt rfl ⟨rfl, rfl⟩
theorem k_S_11 : pq_Ca (d + 2) 49 [.ref 11] ((pq_Sh L).take 12, I, J, R) (fun r M' => r = none ∧ M' = ((pq_Sh L).take 19, bzs I 12 7, bls J 12 7, sR R 11)) := by
  refine Ca_mk rfl rfl ?_
  (repeat (first | refine E_st rfl ?_ | refine E_go rfl ?_))
  refine E_cx rfl (by omega) (k_B_14 (d := 0)) ?_
  (repeat (first | refine E_st rfl ?_ | refine E_go rfl ?_))
  refine E_cx rfl (by omega) (k_E_17 (d := 0)) ?_
  (repeat (first | refine E_st rfl ?_ | refine E_go rfl ?_))
  exact E_rt rfl ⟨rfl, rfl⟩
theorem k_B_22 : pq_Ca (d + 1) 10 [.ref 22] ((pq_Sh L).take 23, I, J, R) (fun r M' => r = none ∧ M' = ((pq_Sh L).take 25, bzs I 23 2, bls J 23 2, bR R 22)) := by
  refine Ca_mk rfl rfl ?_
  (repeat (first | refine E_st rfl ?_ | refine E_go rfl ?_))
  exact E_rt rfl ⟨rfl, rfl⟩
theorem k_E_25 : pq_Ca (d + 1) 19 [.ref 25] ((pq_Sh L).take 26, I, J, R) (fun r M' => r = none ∧ M' = ((pq_Sh L).take 27, bzs I 26 1, bls J 26 1, eR R 25)) := by
  refine Ca_mk rfl rfl ?_
  (repeat (first | refine E_st rfl ?_ | refine E_go rfl ?_))
  exact E_rt rfl ⟨rfl, rfl⟩
theorem k_S_19 : pq_Ca (d + 2) 49 [.ref 19] ((pq_Sh L).take 20, I, J, R) (fun r M' => r = none ∧ M' = ((pq_Sh L).take 27, bzs I 20 7, bls J 20 7, sR R 19)) := by
  refine Ca_mk rfl rfl ?_
  (repeat (first | refine E_st rfl ?_ | refine E_go rfl ?_))
  refine E_cx rfl (by omega) (k_B_22 (d := 0)) ?_
  (repeat (first | refine E_st rfl ?_ | refine E_go rfl ?_))
  refine E_cx rfl (by omega) (k_E_25 (d := 0)) ?_
  (repeat (first | refine E_st rfl ?_ | refine E_go rfl ?_))
  exact E_rt rfl ⟨rfl, rfl⟩
theorem k_B_30 : pq_Ca (d + 1) 10 [.ref 30] ((pq_Sh L).take 31, I, J, R) (fun r M' => r = none ∧ M' = ((pq_Sh L).take 33, bzs I 31 2, bls J 31 2, bR R 30)) := by
  refine Ca_mk rfl rfl ?_
  (repeat (first | refine E_st rfl ?_ | refine E_go rfl ?_))
  exact E_rt rfl ⟨rfl, rfl⟩
theorem k_E_33 : pq_Ca (d + 1) 19 [.ref 33] ((pq_Sh L).take 34, I, J, R) (fun r M' => r = none ∧ M' = ((pq_Sh L).take 35, bzs I 34 1, bls J 34 1, eR R 33)) := by
  refine Ca_mk rfl rfl ?_
  (repeat (first | refine E_st rfl ?_ | refine E_go rfl ?_))
  exact E_rt rfl ⟨rfl, rfl⟩
theorem k_S_27 : pq_Ca (d + 2) 49 [.ref 27] ((pq_Sh L).take 28, I, J, R) (fun r M' => r = none ∧ M' = ((pq_Sh L).take 35, bzs I 28 7, bls J 28 7, sR R 27)) := by
  refine Ca_mk rfl rfl ?_
  (repeat (first | refine E_st rfl ?_ | refine E_go rfl ?_))
  refine E_cx rfl (by omega) (k_B_30 (d := 0)) ?_
  (repeat (first | refine E_st rfl ?_ | refine E_go rfl ?_))
  refine E_cx rfl (by omega) (k_E_33 (d := 0)) ?_
  (repeat (first | refine E_st rfl ?_ | refine E_go rfl ?_))
  exact E_rt rfl ⟨rfl, rfl⟩
theorem k_B_38 : pq_Ca (d + 1) 10 [.ref 38] ((pq_Sh L).take 39, I, J, R) (fun r M' => r = none ∧ M' = ((pq_Sh L).take 41, bzs I 39 2, bls J 39 2, bR R 38)) := by
  refine Ca_mk rfl rfl ?_
  (repeat (first | refine E_st rfl ?_ | refine E_go rfl ?_))
  exact E_rt rfl ⟨rfl, rfl⟩
theorem k_E_41 : pq_Ca (d + 1) 19 [.ref 41] ((pq_Sh L).take 42, I, J, R) (fun r M' => r = none ∧ M' = ((pq_Sh L).take 43, bzs I 42 1, bls J 42 1, eR R 41)) := by
  refine Ca_mk rfl rfl ?_
  (repeat (first | refine E_st rfl ?_ | refine E_go rfl ?_))
  exact E_rt rfl ⟨rfl, rfl⟩
theorem k_S_35 : pq_Ca (d + 2) 49 [.ref 35] ((pq_Sh L).take 36, I, J, R) (fun r M' => r = none ∧ M' = ((pq_Sh L).take 43, bzs I 36 7, bls J 36 7, sR R 35)) := by
  refine Ca_mk rfl rfl ?_
  (repeat (first | refine E_st rfl ?_ | refine E_go rfl ?_))
  refine E_cx rfl (by omega) (k_B_38 (d := 0)) ?_
  (repeat (first | refine E_st rfl ?_ | refine E_go rfl ?_))
  refine E_cx rfl (by omega) (k_E_41 (d := 0)) ?_
  (repeat (first | refine E_st rfl ?_ | refine E_go rfl ?_))
  exact E_rt rfl ⟨rfl, rfl⟩
theorem k_B_46 : pq_Ca (d + 1) 10 [.ref 46] ((pq_Sh L).take 47, I, J, R) (fun r M' => r = none ∧ M' = ((pq_Sh L).take 49, bzs I 47 2, bls J 47 2, bR R 46)) := by
  refine Ca_mk rfl rfl ?_
  (repeat (first | refine E_st rfl ?_ | refine E_go rfl ?_))
  exact E_rt rfl ⟨rfl, rfl⟩
theorem k_E_49 : pq_Ca (d + 1) 19 [.ref 49] ((pq_Sh L).take 50, I, J, R) (fun r M' => r = none ∧ M' = ((pq_Sh L).take 51, bzs I 50 1, bls J 50 1, eR R 49)) := by
  refine Ca_mk rfl rfl ?_
  (repeat (first | refine E_st rfl ?_ | refine E_go rfl ?_))
  exact E_rt rfl ⟨rfl, rfl⟩
theorem k_S_43 : pq_Ca (d + 2) 49 [.ref 43] ((pq_Sh L).take 44, I, J, R) (fun r M' => r = none ∧ M' = ((pq_Sh L).take 51, bzs I 44 7, bls J 44 7, sR R 43)) := by
  refine Ca_mk rfl rfl ?_
  (repeat (first | refine E_st rfl ?_ | refine E_go rfl ?_))
  refine E_cx rfl (by omega) (k_B_46 (d := 0)) ?_
  (repeat (first | refine E_st rfl ?_ | refine E_go rfl ?_))
  refine E_cx rfl (by omega) (k_E_49 (d := 0)) ?_
  (repeat (first | refine E_st rfl ?_ | refine E_go rfl ?_))
  exact E_rt rfl ⟨rfl, rfl⟩
theorem k_H_52 : pq_Ca (d + 1) 28 [.ref 52] ((pq_Sh L).take 53, I, J, R) (fun r M' => r = none ∧ M' = ((pq_Sh L).take 54, bzs I 53 1, bls J 53 1, pa R 52 3 53)) := by
  refine Ca_mk rfl rfl ?_
  (repeat (first | refine E_st rfl ?_ | refine E_go rfl ?_))
  exact E_rt rfl ⟨rfl, rfl⟩
theorem k_H_56 : pq_Ca (d + 1) 28 [.ref 56] ((pq_Sh L).take 57, I, J, R) (fun r M' => r = none ∧ M' = ((pq_Sh L).take 58, bzs I 57 1, bls J 57 1, pa R 56 3 57)) := by
  refine Ca_mk rfl rfl ?_
  (repeat (first | refine E_st rfl ?_ | refine E_go rfl ?_))
  exact E_rt rfl ⟨rfl, rfl⟩
theorem k_H_60 : pq_Ca (d + 1) 28 [.ref 60] ((pq_Sh L).take 61, I, J, R) (fun r M' => r = none ∧ M' = ((pq_Sh L).take 62, bzs I 61 1, bls J 61 1, pa R 60 3 61)) := by
  refine Ca_mk rfl rfl ?_
  (repeat (first | refine E_st rfl ?_ | refine E_go rfl ?_))
  exact E_rt rfl ⟨rfl, rfl⟩
theorem k_T_52 : pq_Ca (d + 2) 36 [.ref 52] ((pq_Sh L).take 53, I, J, R) (fun r M' => r = none ∧ M' = ((pq_Sh L).take 56, bzs I 53 3, bls J 53 3, tR R 52)) := by
  refine Ca_mk rfl rfl ?_
  (repeat (first | refine E_st rfl ?_ | refine E_go rfl ?_))
  refine E_cx rfl (by omega) (k_H_52 (d := 0)) ?_
  (repeat (first | refine E_st rfl ?_ | refine E_go rfl ?_))
  exact E_rt rfl ⟨rfl, rfl⟩
theorem k_T_56 : pq_Ca (d + 2) 36 [.ref 56] ((pq_Sh L).take 57, I, J, R) (fun r M' => r = none ∧ M' = ((pq_Sh L).take 60, bzs I 57 3, bls J 57 3, tR R 56)) := by
  refine Ca_mk rfl rfl ?_
  (repeat (first | refine E_st rfl ?_ | refine E_go rfl ?_))
  refine E_cx rfl (by omega) (k_H_56 (d := 0)) ?_
  (repeat (first | refine E_st rfl ?_ | refine E_go rfl ?_))
  exact E_rt rfl ⟨rfl, rfl⟩
theorem k_M_60 : pq_Ca (d + 2) 45 [.ref 60] ((pq_Sh L).take 61, I, J, R) (fun r M' => r = none ∧ M' = ((pq_Sh L).take 63, bzs I 61 2, bls J 61 2, mR R 60)) := by
  refine Ca_mk rfl rfl ?_
  (repeat (first | refine E_st rfl ?_ | refine E_go rfl ?_))
  refine E_cx rfl (by omega) (k_H_60 (d := 0)) ?_
  (repeat (first | refine E_st rfl ?_ | refine E_go rfl ?_))
  exact E_rt rfl ⟨rfl, rfl⟩
end CON
