/-! the law's start: both objects are made -/
def h00 (k : Nat) : Nat := 11 + 8 * k
def oR (R : Nat → Nat → Option Nat) : Nat → Nat → Option Nat := pa (pa (pa (pa (pa (pa (pa (pa (pa (pa R 63 0 64) 63 1 65) 63 3 66) 63 5 67) 63 6 68) 63 7 69) 63 8 70) 63 9 71) 63 10 72) 63 11 73
def Rz : Nat → Nat → Option Nat := oR (bn (dR7 (bn (fun _ _ => none) 1)) 63)
def nnR (R : Nat → Nat → Option Nat) : Prop := ∀ p k, 12 ≤ k ∨ 74 ≤ p → R p k = none
theorem nn_u {R : Nat → Nat → Option Nat} {x k q : Nat} (h : nnR R) (hx : x < 74) (hk : k < 12) : nnR (pq_u R x k (some q)) := by
  intro p j hp
  unfold pq_u
  rw [if_neg (by omega)]
  exact h p j hp
theorem nn_b {R : Nat → Nat → Option Nat} {q : Nat} (h : nnR R) : nnR (bn R q) := by
  intro p j hp
  unfold bn pq_blank
  split
  · rfl
  · exact h p j hp
theorem nn_pa {R : Nat → Nat → Option Nat} {x k q : Nat} (h : nnR R) (hx : x < 74) (hk : k < 12) : nnR (pa R x k q) := nn_u (nn_b h) hx hk
theorem nn_sR {R : Nat → Nat → Option Nat} {x : Nat} (h : nnR R) (hx : x < 60) : nnR (sR R x) := by
  unfold sR eR bR
  exact nn_u (nn_pa (nn_b (nn_u (nn_pa (nn_pa (nn_b (nn_pa (nn_pa h (by omega) (by omega)) (by omega) (by omega))) (by omega) (by omega)) (by omega) (by omega)) (by omega) (by omega))) (by omega) (by omega)) (by omega) (by omega)
theorem nn_tR {R : Nat → Nat → Option Nat} {x : Nat} (h : nnR R) (hx : x < 70) : nnR (tR R x) := nn_pa (nn_pa (nn_pa h (by omega) (by omega)) (by omega) (by omega)) (by omega) (by omega)
theorem nn_mR {R : Nat → Nat → Option Nat} {x : Nat} (h : nnR R) (hx : x < 70) : nnR (mR R x) := nn_pa (nn_pa h (by omega) (by omega)) (by omega) (by omega)
theorem nn_dRh {R : Nat → Nat → Option Nat} (h : nnR R) : ∀ i, i ≤ 5 → nnR (dRh R i) := by
  intro i
  induction i with
  | zero => intro _; exact nn_pa (nn_u (nn_sR (nn_b h) (by omega)) (by omega) (by omega)) (by omega) (by omega)
  | succ i ih => intro hi; exact nn_u (nn_sR (nn_b (ih (by omega))) (by omega)) (by omega) (by omega)
theorem nn_Rz : nnR Rz := by
  have h1 : nnR (bn (fun _ _ => none) 1) := nn_b (fun _ _ _ => rfl)
  have h4 : nnR (dR4 (bn (fun _ _ => none) 1)) := nn_pa (nn_dRh h1 5 (by omega)) (by omega) (by omega)
  have h5 : nnR (dR5 (bn (fun _ _ => none) 1)) := nn_u (nn_tR (nn_b h4) (by omega)) (by omega) (by omega)
  have h6 : nnR (dR6 (bn (fun _ _ => none) 1)) := nn_u (nn_tR (nn_b h5) (by omega)) (by omega) (by omega)
  have h7 : nnR (dR7 (bn (fun _ _ => none) 1)) := nn_u (nn_mR (nn_b h6) (by omega)) (by omega) (by omega)
  unfold Rz oR
  exact nn_pa (nn_pa (nn_pa (nn_pa (nn_pa (nn_pa (nn_pa (nn_pa (nn_pa (nn_pa (nn_b h7) (by omega) (by omega)) (by omega) (by omega)) (by omega) (by omega)) (by omega) (by omega)) (by omega) (by omega)) (by omega) (by omega)) (by omega) (by omega)) (by omega) (by omega)) (by omega) (by omega)) (by omega) (by omega)
theorem Rz_low : ∀ p, p < 74 → ∀ k, k < 12 → Rz p k = pq_rt h00 p k := by decide +kernel
theorem Rt_len : ∀ p, p < 74 → (pq_Rt.getD p []).length ≤ 12 := by decide +kernel
theorem rt_none {p k : Nat} (h : 12 ≤ k ∨ 74 ≤ p) : pq_rt h00 p k = none := by
  unfold pq_rt
  by_cases c : p = 10
  · rw [if_pos c, if_neg (by omega)]
  · rw [if_neg c, List.getD_eq_getElem?_getD]
    have hl : (pq_Rt.getD p []).length ≤ k := by
      by_cases c2 : p < 74
      · have := Rt_len p c2; omega
      · rw [List.getD_eq_getElem?_getD, List.getElem?_eq_none (show pq_Rt.length ≤ p by show 74 ≤ p; omega)]
        exact Nat.zero_le _
    rw [List.getElem?_eq_none hl]
    rfl
theorem Rz_eq : Rz = pq_rt h00 := by
  funext p k
  by_cases c : p < 74 ∧ k < 12
  · exact Rz_low p c.1 k c.2
  · rw [nn_Rz p k (by omega), rt_none (by omega)]
def iN (I : Nat → Nat → Int32) : FF := fun p j => (I p j).toBitVec.toNat
def jN (J : Nat → Nat → Int64) : FF := fun p j => (J p j).toBitVec.toNat
theorem pn_iN (I : Nat → Nat → Int32) : pn (iN I) = I := by
  funext p j
  apply Int32.toBitVec_inj.1
  show BitVec.ofNat 32 (I p j).toBitVec.toNat = _
  simp
theorem pl_jN (J : Nat → Nat → Int64) : pl (jN J) = J := by
  funext p j
  apply Int64.toBitVec_inj.1
  show BitVec.ofNat 64 (J p j).toBitVec.toNat = _
  simp
theorem bzs_at (I : Nat → Nat → Int32) (p : Nat) : ∀ n q j, bzs I p n q j = if p ≤ q ∧ q < p + n then 0 else I q j := by
  intro n
  induction n with
  | zero => intro q j; rw [if_neg (by omega)]; rfl
  | succ n ih =>
    intro q j
    unfold bzs bz pq_blank
    by_cases c : q = p + n
    · rw [if_pos c, if_pos (by omega)]
    · rw [if_neg c, ih]
      by_cases c2 : p ≤ q ∧ q < p + n
      · rw [if_pos c2, if_pos (by omega)]
      · rw [if_neg c2, if_neg (by omega)]
theorem bls_at (J : Nat → Nat → Int64) (p : Nat) : ∀ n q j, bls J p n q j = if p ≤ q ∧ q < p + n then 0 else J q j := by
  intro n
  induction n with
  | zero => intro q j; rw [if_neg (by omega)]; rfl
  | succ n ih =>
    intro q j
    unfold bls bl pq_blank
    by_cases c : q = p + n
    · rw [if_pos c, if_pos (by omega)]
    · rw [if_neg c, ih]
      by_cases c2 : p ≤ q ∧ q < p + n
      · rw [if_pos c2, if_pos (by omega)]
      · rw [if_neg c2, if_neg (by omega)]
def I1z (xs : Nat → Int32) : Nat → Nat → Int32 := pq_u (bzs (bz (saI (bzs (bz (fun _ j => xs j) 1) 2 61)) 63) 64 10) 64 0 (nI 4)
def J1z : Nat → Nat → Int64 := bls (bl (pq_u (bls (bl (fun _ _ => 0) 1) 2 61) 2 1 (lN (wStays 4))) 63) 64 10
/-- what the ints are at the law's loop -/
def iniV (p j : Nat) : Nat := if p = 2 ∧ j = 0 then 4 else if p = 5 ∧ j = 3 then 1 else if p = 6 ∧ j = 0 then 15 else if p = 64 ∧ j = 0 then 4 else if p = 64 ∧ j = 23 then 1 else if p = 64 ∧ j = 24 then 15 else if p = 64 ∧ j = 25 then N1 else 0
def F1z (xs : Nat → Int32) : FF := bgM (iN (I1z xs))
theorem I1_at {xs : Nat → Int32} {p j : Nat} (h1 : 1 ≤ p) (h2 : p ≤ 73) : iN (I1z xs) p j = if p = 2 ∧ j = 0 then 4 else if p = 5 ∧ j = 3 then 1 else if p = 6 ∧ j = 0 then 15 else if p = 64 ∧ j = 0 then 4 else 0 := by
  unfold iN I1z
  simp only [pq_u]
  by_cases c64 : p = 64 ∧ j = 0
  · rw [if_pos c64, if_neg (by omega), if_neg (by omega), if_neg (by omega), if_pos c64]; rfl
  · rw [if_neg c64, if_neg c64, bzs_at]
    by_cases c1 : 64 ≤ p ∧ p < 64 + 10
    · rw [if_pos c1, if_neg (by omega), if_neg (by omega), if_neg (by omega)]; rfl
    · rw [if_neg c1]
      unfold bz pq_blank
      by_cases c63 : p = 63
      · rw [if_pos c63, if_neg (by omega), if_neg (by omega), if_neg (by omega)]; rfl
      · rw [if_neg c63]
        unfold saI
        simp only [pq_u, bzs_at]
        have hb : (if 2 ≤ p ∧ p < 2 + 61 then (0 : Int32) else bz (fun _ j => xs j) 1 p j) = 0 := by
          by_cases c2 : 2 ≤ p ∧ p < 2 + 61
          · rw [if_pos c2]
          · rw [if_neg c2]
            unfold bz pq_blank
            rw [if_pos (by omega)]
        have hb' : (if 2 ≤ p ∧ p < 2 + 61 then (0 : Int32) else if p = 1 then 0 else xs j) = 0 := by
          split
          · rfl
          · rw [if_pos (by omega)]
        by_cases c6 : p = 6 ∧ j = 0
        · rw [if_pos c6, if_neg (by omega), if_neg (by omega), if_pos c6]; rfl
        · rw [if_neg c6, if_neg c6]
          by_cases c53 : p = 5 ∧ j = 3
          · rw [if_pos c53, if_neg (by omega), if_pos c53]; rfl
          · rw [if_neg c53, if_neg c53]
            by_cases c20 : p = 2 ∧ j = 0
            · rw [if_neg (by omega), if_neg (by omega), if_neg (by omega), if_neg (by omega), if_pos c20, if_pos c20]; rfl
            · rw [if_neg c20, if_neg c20]
              have z0 : (nI 0 : Int32) = 0 := rfl
              have hz : (if p = 5 ∧ j = 2 then nI 0 else if p = 8 ∧ j = 0 then nI 0 else if p = 2 ∧ j = 5 then nI 0 else if p = 2 ∧ j = 2 then nI 0 else if 2 ≤ p ∧ p < 2 + 61 then (0 : Int32) else if p = 1 then 0 else xs j) = 0 := by
                rw [z0, hb']
                simp
              rw [hz]
              rfl
theorem F1_at {xs : Nat → Int32} {p j : Nat} (h1 : 1 ≤ p) (h2 : p ≤ 73) : F1z xs p j = iniV p j := by
  have e1 : iN (I1z xs) 64 1 = 0 := by rw [I1_at (by omega) (by omega)]; rfl
  have e0 : iN (I1z xs) 64 0 = 4 := by rw [I1_at (by omega) (by omega)]; rfl
  have e17 : iN (I1z xs) 64 17 = 0 := by rw [I1_at (by omega) (by omega)]; rfl
  unfold F1z bgM
  rw [e1, e17, show stM (iN (I1z xs)) 0 = 15 by unfold stM; rw [e0]; rfl]
  simp only [pu_at]
  unfold iniV
  rw [I1_at h1 h2]
  by_cases a : p = 64
  · subst a
    by_cases b : j = 25
    · subst b; rfl
    · by_cases b2 : j = 24
      · subst b2; rfl
      · by_cases b3 : j = 23
        · subst b3; rfl
        · simp [b, b2, b3]
  · simp [a]
theorem F1_0 {xs : Nat → Int32} (j : Nat) : nI (F1z xs 0 j) = xs j := by
  have : F1z xs 0 j = iN (I1z xs) 0 j := by
    unfold F1z bgM
    rw [pu_off (by decide), pu_off (by decide), pu_off (by decide)]
  rw [this]
  have h2 : pn (iN (I1z xs)) 0 j = I1z xs 0 j := by rw [pn_iN]
  rw [show nI (iN (I1z xs) 0 j) = pn (iN (I1z xs)) 0 j from rfl, h2]
  rfl
theorem J1_at (p j : Nat) : jN J1z p j = if p = 2 ∧ j = 1 then wStays 4 else 0 := by
  unfold jN J1z
  rw [bls_at]
  by_cases c1 : 64 ≤ p ∧ p < 64 + 10
  · rw [if_pos c1, if_neg (by omega)]; rfl
  · rw [if_neg c1]
    unfold bl pq_blank
    by_cases c63 : p = 63
    · rw [if_pos c63, if_neg (by omega)]; rfl
    · rw [if_neg c63]
      simp only [pq_u, bls_at]
      by_cases c2 : p = 2 ∧ j = 1
      · rw [if_pos c2, if_pos c2]; decide
      · rw [if_neg c2, if_neg c2]
        have : (if 2 ≤ p ∧ p < 2 + 61 then (0 : Int64) else if p = 1 then 0 else 0) = 0 := by
          split
          · rfl
          · split <;> rfl
        rw [this]; rfl
section COE
variable {d L : Nat} {xs : Nat → Int32}
set_option maxRecDepth 8000 in
theorem k_model : pq_Ca (d + 3) 100 [.ref 63] ((pq_Sh L).take 64, bz (saI (bzs (bz (fun _ j => xs j) 1) 2 61)) 63, bl (pq_u (bls (bl (fun _ _ => 0) 1) 2 61) 2 1 (lN (wStays 4))) 63, bn (dR7 (bn (fun _ _ => none) 1)) 63) (fun r M' => r = none ∧ M' = (pq_Sh L, pn (F1z xs), pl (jN J1z), pq_rt h00)) := by
  have hb := g_begins (d := 0) (L := L) (F := iN (I1z xs)) (G := jN J1z) (h := h00) (by rw [I1_at (by omega) (by omega)]; decide) (by rw [I1_at (by omega) (by omega)]; decide) (fun k hk => by rw [I1_at (by omega) (by omega), if_neg (by omega), if_neg (by omega), if_neg (by omega), if_neg (by omega)]; decide) (by rw [I1_at (by omega) (by omega)]; decide)
  rw [pn_iN, pl_jN, ← Rz_eq] at hb
  refine Ca_mk rfl rfl ?_
  (repeat (first | refine E_st rfl ?_ | refine E_go rfl ?_))
  refine E_cx rfl (by omega) hb ?_
  refine E_rt rfl ⟨rfl, ?_⟩
  rw [pl_jN, Rz_eq]
  rfl
set_option maxRecDepth 8000 in
theorem law_start {Q : Option Value → pq_M → Prop} (K : pq_Ev (d + 5) 156 18 [some (.ref 0), some (.ref 1), some (.ref 63), some (.int (nI 0))] [] (pq_Sh L, pn (F1z xs), pl (jN J1z), pq_rt h00) Q) : pq_Ev (d + 5) 156 0 [some (.ref 0), none, none, none] [] ([.inl (.int, L)], fun _ j => xs j, fun _ _ => 0, fun _ _ => none) Q := by
  (repeat (first | refine E_st rfl ?_ | refine E_go rfl ?_))
  refine E_cx rfl (by omega) (k_desk (d := 0) (L := L) (I := bz (fun _ j => xs j) 1) (J := bl (fun _ _ => 0) 1) (R := bn (fun _ _ => none) 1)) ?_
  (repeat (first | refine E_st rfl ?_ | refine E_go rfl ?_))
  refine E_cx rfl (by omega) (k_model (d := 0) (L := L) (xs := xs)) ?_
  (iterate 3 (first | refine E_st rfl ?_ | refine E_go rfl ?_))
  exact K
end COE
