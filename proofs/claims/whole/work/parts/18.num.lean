def pq_Sh (L : Nat) : List pq_S := [.inl (.int, L), .inr 5, .inr 3, .inl (.int, 3), .inl (.int, 3), .inr 0, .inl (.int, 8), .inl (.long, 8), .inr 1, .inl (.int, 8), .inl (.object "PursuitDesk$State", 5), .inr 3, .inl (.int, 3), .inl (.int, 3), .inr 0, .inl (.int, 8), .inl (.long, 8), .inr 1, .inl (.int, 8), .inr 3, .inl (.int, 3), .inl (.int, 3), .inr 0, .inl (.int, 8), .inl (.long, 8), .inr 1, .inl (.int, 8), .inr 3, .inl (.int, 3), .inl (.int, 3), .inr 0, .inl (.int, 8), .inl (.long, 8), .inr 1, .inl (.int, 8), .inr 3, .inl (.int, 3), .inl (.int, 3), .inr 0, .inl (.int, 8), .inl (.long, 8), .inr 1, .inl (.int, 8), .inr 3, .inl (.int, 3), .inl (.int, 3), .inr 0, .inl (.int, 8), .inl (.long, 8), .inr 1, .inl (.int, 8), .inl (.char, 60), .inr 4, .inl (.int, 3), .inl (.int, 13824), .inl (.int, 13824), .inr 4, .inl (.int, 3), .inl (.int, 13824), .inl (.int, 13824), .inr 2, .inl (.int, 3), .inl (.int, 13824), .inr 6, .inl (.int, 144), .inl (.int, 720), .inl (.char, 60), .inl (.int, 3), .inl (.int, 3), .inl (.int, 6), .inl (.int, 32768), .inl (.int, 32768), .inl (.int, 32768), .inl (.int, 6)]
def pq_Rt : List (List (Option Nat)) := [[], [some 2, some 10, none, some 51, none, some 52, none, some 56, some 60], [none, none, none, some 3, some 4, none, none, none, some 5, some 8], [], [], [some 6, some 7], [], [], [none, none, none, none, none, none, some 9], [], [], [none, none, none, some 12, some 13, none, none, none, some 14, some 17], [], [], [some 15, some 16], [], [], [none, none, none, none, none, none, some 18], [], [none, none, none, some 20, some 21, none, none, none, some 22, some 25], [], [], [some 23, some 24], [], [], [none, none, none, none, none, none, some 26], [], [none, none, none, some 28, some 29, none, none, none, some 30, some 33], [], [], [some 31, some 32], [], [], [none, none, none, none, none, none, some 34], [], [none, none, none, some 36, some 37, none, none, none, some 38, some 41], [], [], [some 39, some 40], [], [], [none, none, none, none, none, none, some 42], [], [none, none, none, some 44, some 45, none, none, none, some 46, some 49], [], [], [some 47, some 48], [], [], [none, none, none, none, none, none, some 50], [], [], [none, none, none, some 53, some 54, some 55], [], [], [], [none, none, none, some 57, some 58, some 59], [], [], [], [none, none, none, some 61, some 62], [], [], [some 64, some 65, none, some 66, none, some 67, some 68, some 69, some 70, some 71, some 72, some 73], [], [], [], [], [], [], [], [], [], []]
def pq_rt (h : Nat → Nat) (p k : Nat) : Option Nat := if p = 10 then (if k < 5 then some (h k) else none) else (pq_Rt.getD p []).getD k none
/-! numbers: all ints as nI of a Nat, all longs as lN of one -/
def an (a b : Nat) : Nat := a &&& (a ^^^ b)
theorem an_bit (a b i : Nat) : (an a b).testBit i = (a.testBit i && !(b.testBit i)) := by
  unfold an; rw [Nat.testBit_and, Nat.testBit_xor]; cases a.testBit i <;> cases b.testBit i <;> rfl
theorem an_le (a b : Nat) : an a b ≤ a := Nat.and_le_left
theorem zi_and (a b : Nat) : nI a &&& nI b = nI (a &&& b) := by
  apply Int32.toBitVec_inj.1
  show BitVec.ofNat 32 a &&& BitVec.ofNat 32 b = BitVec.ofNat 32 (a &&& b)
  apply BitVec.eq_of_getLsbD_eq
  intro i hi
  simp [hi]
theorem zi_or (a b : Nat) : nI a ||| nI b = nI (a ||| b) := by
  apply Int32.toBitVec_inj.1
  show BitVec.ofNat 32 a ||| BitVec.ofNat 32 b = BitVec.ofNat 32 (a ||| b)
  apply BitVec.eq_of_getLsbD_eq
  intro i hi
  simp [hi]
theorem zi_not (a b : Nat) : nI a &&& (nI b ^^^ (-1)) = nI (an a b) := by
  apply Int32.toBitVec_inj.1
  show BitVec.ofNat 32 a &&& (BitVec.ofNat 32 b ^^^ BitVec.allOnes 32) = BitVec.ofNat 32 (an a b)
  apply BitVec.eq_of_getLsbD_eq
  intro i hi
  rw [BitVec.getLsbD_and, BitVec.getLsbD_xor, BitVec.getLsbD_allOnes, BitVec.getLsbD_ofNat, BitVec.getLsbD_ofNat, BitVec.getLsbD_ofNat, an_bit]
  simp [hi]
theorem zi_c : ∀ k, k < 32 → ((nI k &&& 31).toBitVec.smod 32).toNat = k := by decide +kernel
theorem zi_shl (a : Nat) {k : Nat} (hk : k < 32) : nI a <<< (nI k &&& 31) = nI (a <<< k) := by
  apply Int32.toBitVec_inj.1
  apply BitVec.eq_of_toNat_eq
  rw [pk_shl _ _ k (zi_c k hk), Nat.shiftLeft_eq]
  show (BitVec.ofNat 32 a).toNat * 2 ^ k % 2 ^ 32 = (BitVec.ofNat 32 (a * 2 ^ k)).toNat
  rw [BitVec.toNat_ofNat, BitVec.toNat_ofNat, Nat.mod_mul_mod]
theorem zi_shr {a k : Nat} (ha : a < 2 ^ 31) (hk : k < 32) : nI a >>> (nI k &&& 31) = nI (a >>> k) := by
  rw [pk_shrN ha _ k (zi_c k hk), Nat.shiftRight_eq_div_pow]
theorem zl_inj {a b : Int64} (h : a.toBitVec = b.toBitVec) : a = b := Int64.toBitVec_inj.1 h
theorem zl_and (a b : Nat) : lN a &&& lN b = lN (a &&& b) := by
  apply zl_inj
  show BitVec.ofNat 64 a &&& BitVec.ofNat 64 b = BitVec.ofNat 64 (a &&& b)
  apply BitVec.eq_of_getLsbD_eq
  intro i hi
  simp [hi]
theorem zl_or (a b : Nat) : lN a ||| lN b = lN (a ||| b) := by
  apply zl_inj
  show BitVec.ofNat 64 a ||| BitVec.ofNat 64 b = BitVec.ofNat 64 (a ||| b)
  apply BitVec.eq_of_getLsbD_eq
  intro i hi
  simp [hi]
theorem zl_not (a b : Nat) : lN a &&& (lN b ^^^ (-1)) = lN (an a b) := by
  apply zl_inj
  show BitVec.ofNat 64 a &&& (BitVec.ofNat 64 b ^^^ BitVec.allOnes 64) = BitVec.ofNat 64 (an a b)
  apply BitVec.eq_of_getLsbD_eq
  intro i hi
  rw [BitVec.getLsbD_and, BitVec.getLsbD_xor, BitVec.getLsbD_allOnes, BitVec.getLsbD_ofNat, BitVec.getLsbD_ofNat, BitVec.getLsbD_ofNat, an_bit]
  simp [hi]
theorem zl_cu : ∀ k, k < 64 → ((nI k).toInt64.toUInt64 &&& Int64.toUInt64 63) = UInt64.ofNat k := by decide +kernel
theorem zl_c : ∀ k, k < 64 → (((nI k).toInt64 &&& 63).toBitVec.smod 64) = BitVec.ofNat 64 k := by decide +kernel
theorem zl_shr {n k : Nat} (hn : n < 2 ^ 64) (hk : k < 64) : ((lN n).toUInt64 >>> ((nI k).toInt64.toUInt64 &&& Int64.toUInt64 63)).toInt64 = lN (n >>> k) := by
  rw [zl_cu k hk]
  apply zl_inj
  apply BitVec.eq_of_toNat_eq
  show ((lN n).toUInt64 >>> UInt64.ofNat k).toNat = (BitVec.ofNat 64 _).toNat
  have h1 : (UInt64.ofNat k).toNat = k := by
    show (BitVec.ofNat 64 k).toNat = k
    rw [BitVec.toNat_ofNat, Nat.mod_eq_of_lt (by omega)]
  have h2 : (lN n).toUInt64.toNat = n := by
    show (BitVec.ofNat 64 n).toNat = n
    rw [BitVec.toNat_ofNat, Nat.mod_eq_of_lt hn]
  rw [UInt64.toNat_shiftRight, h1, h2, Nat.mod_eq_of_lt hk, BitVec.toNat_ofNat, Nat.mod_eq_of_lt]
  exact Nat.lt_of_le_of_lt (by rw [Nat.shiftRight_eq_div_pow]; exact Nat.div_le_self _ _) hn
theorem zl_shl (n : Nat) {k : Nat} (hk : k < 64) : lN n <<< ((nI k).toInt64 &&& 63) = lN (n <<< k) := by
  apply zl_inj
  rw [Int64.toBitVec_shiftLeft, zl_c k hk]
  apply BitVec.eq_of_toNat_eq
  show ((BitVec.ofNat 64 n) <<< (BitVec.ofNat 64 k)).toNat = (BitVec.ofNat 64 (n <<< k)).toNat
  rw [BitVec.shiftLeft_eq', BitVec.toNat_shiftLeft, BitVec.toNat_ofNat, BitVec.toNat_ofNat, BitVec.toNat_ofNat, Nat.mod_eq_of_lt (show k < 2 ^ 64 by omega), Nat.shiftLeft_eq, Nat.shiftLeft_eq, Nat.mod_mul_mod]
theorem zl_lt {a b : Nat} (ha : a < 2 ^ 63) (hb : b < 2 ^ 63) : lN a < lN b ↔ a < b := pk_lLT ha hb
theorem zl_cmp {a : Nat} (h : a < 2 ^ 63) : lg_cmp (lN a) (lN 0) = nI 0 ↔ a = 0 := by
  unfold lg_cmp
  by_cases h0 : a = 0
  · subst h0
    rw [if_neg (by rw [GT.gt, zl_lt (by decide) (by decide)]; omega), if_pos rfl]
    exact ⟨fun _ => rfl, fun _ => rfl⟩
  · rw [if_pos (by rw [GT.gt, zl_lt (by decide) h]; omega)]
    exact ⟨fun e => absurd e (by decide), fun e => absurd e h0⟩
theorem zb_lt {a k : Nat} (h : a < 2 ^ k) {i : Nat} (hi : k ≤ i) : a.testBit i = false := Nat.testBit_lt_two_pow (Nat.lt_of_lt_of_le h (Nat.pow_le_pow_right (by decide) hi))
theorem zb_ext {a b k : Nat} (ha : a < 2 ^ k) (hb : b < 2 ^ k) (h : ∀ i, i < k → a.testBit i = b.testBit i) : a = b := by
  apply Nat.eq_of_testBit_eq
  intro i
  by_cases hi : i < k
  · exact h i hi
  · rw [zb_lt ha (Nat.not_lt.mp hi), zb_lt hb (Nat.not_lt.mp hi)]
theorem zb_bound {a k : Nat} (h : ∀ i, k ≤ i → a.testBit i = false) : a < 2 ^ k := Nat.lt_pow_two_of_testBit a h
theorem zb_one (k i : Nat) : (1 <<< k).testBit i = decide (k = i) := by
  rw [Nat.one_shiftLeft, Nat.testBit_two_pow]
theorem zb_and1 (a k : Nat) : (a >>> k) &&& 1 = if a.testBit k then 1 else 0 := by
  have h : (a >>> k) &&& 1 = (a >>> k) % 2 := Nat.and_one_is_mod _
  unfold Nat.testBit
  rw [Nat.and_comm 1, h]
  rcases Nat.mod_two_eq_zero_or_one (a >>> k) with e | e <;> simp [e]
/-! memory of numbers -/
def pn (F : Nat → Nat → Nat) : Nat → Nat → Int32 := fun p j => nI (F p j)
def pl (G : Nat → Nat → Nat) : Nat → Nat → Int64 := fun p j => lN (G p j)
theorem pn_at (F : Nat → Nat → Nat) (p j : Nat) : pn F p j = nI (F p j) := rfl
theorem pl_at (G : Nat → Nat → Nat) (p j : Nat) : pl G p j = lN (G p j) := rfl
theorem pu_n (F : Nat → Nat → Nat) (p k x : Nat) : pq_u (pn F) p k (nI x) = pn (pq_u F p k x) := by
  funext q j; simp only [pq_u, pn]; split <;> rfl
theorem pu_l (G : Nat → Nat → Nat) (p k x : Nat) : pq_u (pl G) p k (lN x) = pl (pq_u G p k x) := by
  funext q j; simp only [pq_u, pl]; split <;> rfl
theorem pc_n (F : Nat → Nat → Nat) (a sp b dp n : Nat) : pq_cpy (pn F) a sp b dp n = pn (pq_cpy F a sp b dp n) := by
  funext q j; simp only [pq_cpy, pn]; split <;> rfl
theorem pc_l (G : Nat → Nat → Nat) (a sp b dp n : Nat) : pq_cpy (pl G) a sp b dp n = pl (pq_cpy G a sp b dp n) := by
  funext q j; simp only [pq_cpy, pl]; split <;> rfl
theorem pu_at {α : Type} (f : Nat → Nat → α) (p k : Nat) (x : α) (q j : Nat) : pq_u f p k x q j = if q = p ∧ j = k then x else f q j := rfl
section EV2
variable {d j pc p k n nx na : Nat} {lk : List (Nat × Nat)} {v : Value} {lo : pq_L} {r : List Value} {sh : List pq_S} {F G : Nat → Nat → Nat} {I : Nat → Nat → Int32} {J : Nat → Nat → Int64} {R : Nat → Nat → Option Nat} {Q : Option Value → pq_M → Prop}
theorem pq_arr_n {ty : FieldType} (hs : sh[p]? = some (.inl (ty, n))) (hk : k < n) (hn : n < 2 ^ 31) : pq_arr (sh, I, J, R) p (nI k) = some ty := by
  unfold pq_arr
  rw [show (sh, I, J, R).1[p]? = some (.inl (ty, n)) from hs]
  exact if_neg (nI_in hk hn)
theorem E_ial (hf : pq_fetch j pc = some (pc, .iaload, nx, na, lk, v)) (hs : sh[p]? = some (.inl (.int, n))) (hk : k < n) (hn : n < 2 ^ 31) (K : pq_Ev d j nx lo (.int (nI (F p k)) :: r) (sh, pn F, J, R) Q) : pq_Ev d j pc lo (.int (nI k) :: .ref p :: r) (sh, pn F, J, R) Q := by
  refine E_st (nx := nx) ?_ K
  have h3 : pq_x3 .iaload lk (.int (nI k) :: .ref p :: r) (sh, pn F, J, R) = some (.int (nI (F p k)) :: r, (sh, pn F, J, R)) := by
    simp only [pq_x3, pq_arr_n hs hk hn, nI_clamp (show k < 2 ^ 31 by omega)]
    rfl
  unfold pq_step
  simp only [hf, pq_exec, pq_x1, pq_x2, h3]
theorem E_cal (hf : pq_fetch j pc = some (pc, .caload, nx, na, lk, v)) (hs : sh[p]? = some (.inl (.char, n))) (hk : k < n) (hn : n < 2 ^ 31) (K : pq_Ev d j nx lo (.int (nI (F p k)) :: r) (sh, pn F, J, R) Q) : pq_Ev d j pc lo (.int (nI k) :: .ref p :: r) (sh, pn F, J, R) Q := by
  refine E_st (nx := nx) ?_ K
  have h3 : pq_x3 .caload lk (.int (nI k) :: .ref p :: r) (sh, pn F, J, R) = some (.int (nI (F p k)) :: r, (sh, pn F, J, R)) := by
    simp only [pq_x3, pq_arr_n hs hk hn, nI_clamp (show k < 2 ^ 31 by omega)]
    rfl
  unfold pq_step
  simp only [hf, pq_exec, pq_x1, pq_x2, h3]
theorem E_lal (hf : pq_fetch j pc = some (pc, .laload, nx, na, lk, v)) (hs : sh[p]? = some (.inl (.long, n))) (hk : k < n) (hn : n < 2 ^ 31) (K : pq_Ev d j nx lo (.long (lN (G p k)) :: r) (sh, I, pl G, R) Q) : pq_Ev d j pc lo (.int (nI k) :: .ref p :: r) (sh, I, pl G, R) Q := by
  refine E_st (nx := nx) ?_ K
  have h3 : pq_x3 .laload lk (.int (nI k) :: .ref p :: r) (sh, I, pl G, R) = some (.long (lN (G p k)) :: r, (sh, I, pl G, R)) := by
    simp only [pq_x3, pq_arr_n hs hk hn, nI_clamp (show k < 2 ^ 31 by omega)]
    rfl
  unfold pq_step
  simp only [hf, pq_exec, pq_x1, pq_x2, h3]
theorem E_aal {C : String} (hf : pq_fetch j pc = some (pc, .aaload, nx, na, lk, v)) (hs : sh[p]? = some (.inl (.object C, n))) (hk : k < n) (hn : n < 2 ^ 31) {q : Nat} (hq : R p k = some q) (K : pq_Ev d j nx lo (.ref q :: r) (sh, I, J, R) Q) : pq_Ev d j pc lo (.int (nI k) :: .ref p :: r) (sh, I, J, R) Q := by
  refine E_st (nx := nx) ?_ K
  have h3 : pq_x3 .aaload lk (.int (nI k) :: .ref p :: r) (sh, I, J, R) = some (.ref q :: r, (sh, I, J, R)) := by
    simp only [pq_x3, pq_arr_n hs hk hn, nI_clamp (show k < 2 ^ 31 by omega), hq]
    rfl
  unfold pq_step
  simp only [hf, pq_exec, pq_x1, pq_x2, h3]
theorem E_ias {x : Nat} (hf : pq_fetch j pc = some (pc, .iastore, nx, na, lk, v)) (hs : sh[p]? = some (.inl (.int, n))) (hk : k < n) (hn : n < 2 ^ 31) (hp : ¬ p = 0) (K : pq_Ev d j nx lo r (sh, pn (pq_u F p k x), J, R) Q) : pq_Ev d j pc lo (.int (nI x) :: .int (nI k) :: .ref p :: r) (sh, pn F, J, R) Q := by
  refine E_st (nx := nx) ?_ K
  have h3 : pq_x3 .iastore lk (.int (nI x) :: .int (nI k) :: .ref p :: r) (sh, pn F, J, R) = some (r, (sh, pn (pq_u F p k x), J, R)) := by
    simp only [pq_x3, pq_arr_n hs hk hn, nI_clamp (show k < 2 ^ 31 by omega), if_neg hp, pu_n]
  unfold pq_step
  simp only [hf, pq_exec, pq_x1, pq_x2, h3]
theorem zc_nar {x : Nat} (hx : x < 65536) : vp_nar .char (nI x) = nI x := by
  have h := (pk_charN hx).1
  unfold vp_nar
  rw [h]
theorem E_cas {x : Nat} (hf : pq_fetch j pc = some (pc, .castore, nx, na, lk, v)) (hs : sh[p]? = some (.inl (.char, n))) (hk : k < n) (hn : n < 2 ^ 31) (hp : ¬ p = 0) (hx : x < 65536) (K : pq_Ev d j nx lo r (sh, pn (pq_u F p k x), J, R) Q) : pq_Ev d j pc lo (.int (nI x) :: .int (nI k) :: .ref p :: r) (sh, pn F, J, R) Q := by
  refine E_st (nx := nx) ?_ K
  have h3 : pq_x3 .castore lk (.int (nI x) :: .int (nI k) :: .ref p :: r) (sh, pn F, J, R) = some (r, (sh, pn (pq_u F p k x), J, R)) := by
    simp only [pq_x3, pq_arr_n hs hk hn, nI_clamp (show k < 2 ^ 31 by omega), if_neg hp, zc_nar hx, pu_n]
  unfold pq_step
  simp only [hf, pq_exec, pq_x1, pq_x2, h3]
theorem E_las {x : Nat} (hf : pq_fetch j pc = some (pc, .lastore, nx, na, lk, v)) (hs : sh[p]? = some (.inl (.long, n))) (hk : k < n) (hn : n < 2 ^ 31) (hp : ¬ p = 0) (K : pq_Ev d j nx lo r (sh, I, pl (pq_u G p k x), R) Q) : pq_Ev d j pc lo (.long (lN x) :: .int (nI k) :: .ref p :: r) (sh, I, pl G, R) Q := by
  refine E_st (nx := nx) ?_ K
  have h3 : pq_x3 .lastore lk (.long (lN x) :: .int (nI k) :: .ref p :: r) (sh, I, pl G, R) = some (r, (sh, I, pl (pq_u G p k x), R)) := by
    simp only [pq_x3, pq_arr_n hs hk hn, nI_clamp (show k < 2 ^ 31 by omega), if_neg hp, pu_l]
  unfold pq_step
  simp only [hf, pq_exec, pq_x1, pq_x2, h3]
theorem E_aas {C : String} {w : Nat} (hf : pq_fetch j pc = some (pc, .aastore, nx, na, lk, v)) (hs : sh[p]? = some (.inl (.object C, n))) (hk : k < n) (hn : n < 2 ^ 31) (hp : ¬ p = 0) (hw : sh[w]? = some (.inr 3)) (K : pq_Ev d j nx lo r (sh, I, J, pq_u R p k (some w)) Q) : pq_Ev d j pc lo (.ref w :: .int (nI k) :: .ref p :: r) (sh, I, J, R) Q := by
  refine E_st (nx := nx) ?_ K
  have h3 : pq_x3 .aastore lk (.ref w :: .int (nI k) :: .ref p :: r) (sh, I, J, R) = some (r, (sh, I, J, pq_u R p k (some w))) := by
    simp only [pq_x3, pq_arr_n hs hk hn, nI_clamp (show k < 2 ^ 31 by omega), hw]
    simp [hp]
  unfold pq_step
  simp only [hf, pq_exec, pq_x1, pq_x2, h3]
/-- other names for what lies on the stack -/
theorem E_t1 {x y : Int32} (h : x = y) (K : pq_Ev d j pc lo (.int y :: r) (sh, I, J, R) Q) : pq_Ev d j pc lo (.int x :: r) (sh, I, J, R) Q := by subst h; exact K
theorem E_t2 {x y : Int32} {w : Value} (h : x = y) (K : pq_Ev d j pc lo (w :: .int y :: r) (sh, I, J, R) Q) : pq_Ev d j pc lo (w :: .int x :: r) (sh, I, J, R) Q := by subst h; exact K
theorem E_l1 {x y : Int64} (h : x = y) (K : pq_Ev d j pc lo (.long y :: r) (sh, I, J, R) Q) : pq_Ev d j pc lo (.long x :: r) (sh, I, J, R) Q := by subst h; exact K
theorem E_if {t f : Nat} {cd : Prop} {dc : Decidable cd} {lo' : pq_L} {st st' : List Value} {M M' : pq_M} (h : pq_step j pc lo st M = some (nx, .inl (if cd then t else f, lo', st', M'))) (hc : cd) (kt : pq_Ev d j t lo' st' M' Q) : pq_Ev d j pc lo st M Q := E_br h (fun _ => kt) (fun h => absurd hc h)
theorem E_nif {t f : Nat} {cd : Prop} {dc : Decidable cd} {lo' : pq_L} {st st' : List Value} {M M' : pq_M} (h : pq_step j pc lo st M = some (nx, .inl (if cd then t else f, lo', st', M'))) (hc : ¬ cd) (kf : pq_Ev d j f lo' st' M' Q) : pq_Ev d j pc lo st M Q := E_br h (fun h => absurd h hc) (fun _ => kf)
end EV2
