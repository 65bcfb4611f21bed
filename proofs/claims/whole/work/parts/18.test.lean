def pq_Sh (L : Nat) : List pq_S := [.inl (.int, L), .inr 5, .inr 3, .inl (.int, 3), .inl (.int, 3), .inr 0, .inl (.int, 8), .inl (.long, 8), .inr 1, .inl (.int, 8), .inl (.object "PursuitDesk$State", 5), .inr 3, .inl (.int, 3), .inl (.int, 3), .inr 0, .inl (.int, 8), .inl (.long, 8), .inr 1, .inl (.int, 8), .inr 3, .inl (.int, 3), .inl (.int, 3), .inr 0, .inl (.int, 8), .inl (.long, 8), .inr 1, .inl (.int, 8), .inr 3, .inl (.int, 3), .inl (.int, 3), .inr 0, .inl (.int, 8), .inl (.long, 8), .inr 1, .inl (.int, 8), .inr 3, .inl (.int, 3), .inl (.int, 3), .inr 0, .inl (.int, 8), .inl (.long, 8), .inr 1, .inl (.int, 8), .inr 3, .inl (.int, 3), .inl (.int, 3), .inr 0, .inl (.int, 8), .inl (.long, 8), .inr 1, .inl (.int, 8), .inl (.char, 60), .inr 4, .inl (.int, 3), .inl (.int, 13824), .inl (.int, 13824), .inr 4, .inl (.int, 3), .inl (.int, 13824), .inl (.int, 13824), .inr 2, .inl (.int, 3), .inl (.int, 13824), .inr 6, .inl (.int, 144), .inl (.int, 720), .inl (.char, 60), .inl (.int, 3), .inl (.int, 3), .inl (.int, 6), .inl (.int, 32768), .inl (.int, 32768), .inl (.int, 32768), .inl (.int, 6)]
def pq_Rt : List (List (Option Nat)) := [[], [some 2, some 10, none, some 51, none, some 52, none, some 56, some 60], [none, none, none, some 3, some 4, none, none, none, some 5, some 8], [], [], [some 6, some 7], [], [], [none, none, none, none, none, none, some 9], [], [], [none, none, none, some 12, some 13, none, none, none, some 14, some 17], [], [], [some 15, some 16], [], [], [none, none, none, none, none, none, some 18], [], [none, none, none, some 20, some 21, none, none, none, some 22, some 25], [], [], [some 23, some 24], [], [], [none, none, none, none, none, none, some 26], [], [none, none, none, some 28, some 29, none, none, none, some 30, some 33], [], [], [some 31, some 32], [], [], [none, none, none, none, none, none, some 34], [], [none, none, none, some 36, some 37, none, none, none, some 38, some 41], [], [], [some 39, some 40], [], [], [none, none, none, none, none, none, some 42], [], [none, none, none, some 44, some 45, none, none, none, some 46, some 49], [], [], [some 47, some 48], [], [], [none, none, none, none, none, none, some 50], [], [], [none, none, none, some 53, some 54, some 55], [], [], [], [none, none, none, some 57, some 58, some 59], [], [], [], [none, none, none, some 61, some 62], [], [], [some 64, some 65, none, some 66, none, some 67, some 68, some 69, some 70, some 71, some 72, some 73], [], [], [], [], [], [], [], [], [], []]
def pq_rt (h : Nat → Nat) (p k : Nat) : Option Nat := if p = 10 then some (h k) else (pq_Rt.getD p []).getD k none
theorem E_ial {d j pc p k n nx na : Nat} {lk : List (Nat × Nat)} {v : Value} {lo : pq_L} {r : List Value} {sh : List pq_S} {I : Nat → Nat → Int32} {J : Nat → Nat → Int64} {R : Nat → Nat → Option Nat} {Q : Option Value → pq_M → Prop} (hf : pq_fetch j pc = some (pc, .iaload, nx, na, lk, v)) (hs : sh[p]? = some (.inl (.int, n))) (hk : k < n) (hn : n < 2 ^ 31) (K : pq_Ev d j nx lo (.int (I p k) :: r) (sh, I, J, R) Q) : pq_Ev d j pc lo (.int (nI k) :: .ref p :: r) (sh, I, J, R) Q := by
  refine E_st (nx := nx) ?_ K
  have h1 : pq_arr (sh, I, J, R) p (nI k) = some .int := by
    unfold pq_arr
    rw [show (sh, I, J, R).1[p]? = some (.inl (.int, n)) from hs]
    exact if_neg (nI_in hk hn)
  have h3 : pq_x3 .iaload lk (.int (nI k) :: .ref p :: r) (sh, I, J, R) = some (.int (I p k) :: r, (sh, I, J, R)) := by
    simp only [pq_x3, h1, nI_clamp (show k < 2 ^ 31 by omega)]
  unfold pq_step
  simp only [hf, pq_exec, pq_x1, pq_x2, h3]
theorem t_contains (d : Nat) (M : pq_M) (s n : Int32) : pq_Ca (d + 1) 4 [.int s, .int n] M (fun r M' => r = some (.int (if (s >>> (n &&& 31)) &&& (nI 1) = (nI 1) then nI 1 else nI 0)) ∧ M' = M) := by
  refine Ca_mk rfl rfl ?_
  repeat (first | refine E_st rfl ?_ | refine E_go rfl ?_)
  refine E_br rfl (fun h => ?_) (fun h => ?_)
  · repeat (first | refine E_st rfl ?_ | refine E_go rfl ?_)
    refine E_rt rfl ?_
    rw [if_pos h]; exact ⟨rfl, rfl⟩
  · repeat (first | refine E_st rfl ?_ | refine E_go rfl ?_)
    refine E_rt rfl ?_
    rw [if_neg h]; exact ⟨rfl, rfl⟩
theorem t_slot (d : Nat) (M : pq_M) (t : Int32) : pq_Ca (d + 1) 12 [.int t] M (fun r M' => r = some (.int (t &&& nI 7)) ∧ M' = M) := by
  refine Ca_mk rfl rfl ?_
  repeat (first | refine E_st rfl ?_ | refine E_go rfl ?_)
  exact E_rt rfl ⟨rfl, rfl⟩
theorem t_after (d L k : Nat) (I : Nat → Nat → Int32) (J : Nat → Nat → Int64) (h : Nat → Nat) (t : Int32) (ht : t &&& nI 7 = nI k) (hk : k < 8) : pq_Ca (d + 2) 15 [.ref 5, .int t] (pq_Sh L, I, J, pq_rt h) (fun r M' => r = some (.int (I 6 k)) ∧ M' = (pq_Sh L, I, J, pq_rt h)) := by
  refine Ca_mk rfl rfl ?_
  repeat (first | refine E_st rfl ?_ | refine E_go rfl ?_)
  refine E_cx rfl (Nat.le_refl _) (t_slot d _ t) ?_
  rw [ht]
  refine E_ial rfl rfl hk (by decide) ?_
  exact E_rt rfl ⟨rfl, rfl⟩
