/-! the number of bits, as the library counts it -/
theorem sp_and (h c M m : Nat) (hc : c < 256) (hm : m < 256) : (256 * h + c) &&& (256 * M + m) = 256 * (h &&& M) + (c &&& m) := by
  have hcm : c &&& m < 256 := Nat.lt_of_le_of_lt Nat.and_le_left hc
  apply Nat.eq_of_testBit_eq
  intro i
  have e1 := Nat.testBit_two_pow_mul_add h (i := 8) hc i
  have e2 := Nat.testBit_two_pow_mul_add M (i := 8) hm i
  have e3 := Nat.testBit_two_pow_mul_add (h &&& M) (i := 8) hcm i
  rw [show (2 : Nat) ^ 8 = 256 from rfl] at e1 e2 e3
  rw [Nat.testBit_and, e1, e2, e3]
  split
  · rw [Nat.testBit_and]
  · rw [Nat.testBit_and]
def y1 (M w : Nat) : Nat := w - (w / 2 &&& M)
def y2 (M w : Nat) : Nat := (w &&& M) + (w / 4 &&& M)
def y3 (M w : Nat) : Nat := (w + w / 16) &&& M
def b8 (c : Nat) : Nat := c % 2 + c / 2 % 2 + c / 4 % 2 + c / 8 % 2 + c / 16 % 2 + c / 32 % 2 + c / 64 % 2 + c / 128 % 2
set_option maxRecDepth 100000 in
theorem by1 : ∀ c, c < 256 → ∀ r, r < 2 → (128 * r + c / 2) &&& 85 = c / 2 &&& 85 := by decide
set_option maxRecDepth 100000 in
theorem by2 : ∀ c, c < 256 → ∀ r, r < 4 → (64 * r + c / 4) &&& 51 = c / 4 &&& 51 := by decide
set_option maxRecDepth 100000 in
theorem by3 : ∀ c, c < 256 → (y2 51 (y1 85 c) < 69 ∧ y2 51 (y1 85 c) % 16 ≤ 4 ∧ y1 85 c < 256 ∧ y3 15 (y2 51 (y1 85 c)) = b8 c ∧ b8 c ≤ 8) := by decide
set_option maxRecDepth 100000 in
theorem by4 : ∀ c, c < 69 → ∀ r, r < 5 → (16 * r + c + c / 16) &&& 15 = y3 15 c := by decide
theorem st1 (h c M : Nat) (hc : c < 256) : y1 (256 * M + 85) (256 * h + c) = 256 * y1 M h + y1 85 c := by
  unfold y1
  have e : (256 * h + c) / 2 = 256 * (h / 2) + (128 * (h % 2) + c / 2) := by omega
  rw [e, sp_and _ _ _ _ (by omega) (by decide), by1 c hc _ (by omega)]
  have a1 : h / 2 &&& M ≤ h / 2 := Nat.and_le_left
  have a2 : c / 2 &&& 85 ≤ c / 2 := Nat.and_le_left
  generalize h / 2 &&& M = x at *
  generalize c / 2 &&& 85 = y at *
  omega
theorem st2 (h c M : Nat) (hc : c < 256) : y2 (256 * M + 51) (256 * h + c) = 256 * y2 M h + y2 51 c := by
  unfold y2
  have e : (256 * h + c) / 4 = 256 * (h / 4) + (64 * (h % 4) + c / 4) := by omega
  rw [e, sp_and _ _ _ _ hc (by decide), sp_and _ _ _ _ (by omega) (by decide), by2 c hc _ (by omega)]
  generalize h / 4 &&& M = x at *
  generalize c / 4 &&& 51 = y at *
  generalize h &&& M = z at *
  generalize c &&& 51 = t at *
  omega
theorem st3 (h c M : Nat) (hc : c < 69) (hh : h % 16 ≤ 4) : y3 (256 * M + 15) (256 * h + c) = 256 * y3 M h + y3 15 c := by
  have e : 256 * h + c + (256 * h + c) / 16 = 256 * (h + h / 16) + (16 * (h % 16) + c + c / 16) := by omega
  unfold y3
  rw [e, sp_and _ _ _ _ (by omega) (by decide), by4 c hc _ (by omega)]
  rfl
/-- one byte more -/
theorem st4 (h c A B C : Nat) (hc : c < 256) (hh : y2 B (y1 A h) % 16 ≤ 4) : y3 (256 * C + 15) (y2 (256 * B + 51) (y1 (256 * A + 85) (256 * h + c))) = 256 * y3 C (y2 B (y1 A h)) + b8 c ∧ y2 (256 * B + 51) (y1 (256 * A + 85) (256 * h + c)) % 16 ≤ 4 := by
  have h3 := by3 c hc
  rw [st1 _ _ _ hc, st2 _ _ _ h3.2.2.1, st3 _ _ _ h3.1 hh, h3.2.2.2.1]
  exact ⟨rfl, by omega⟩
set_option maxRecDepth 100000 in
theorem by5 : ∀ c, c < 16 → y3 0x0f0f0f0f (y2 0x33333333 (y1 0x55555555 c)) = b8 c ∧ y2 0x33333333 (y1 0x55555555 c) % 16 ≤ 4 := by decide
def bc (w : Nat) : Nat → Nat
  | 0 => 0
  | i + 1 => bc w i + w / 2 ^ i % 2
theorem pop36 (w : Nat) (hw : w < 2 ^ 36) : y3 0x0f0f0f0f0f0f0f0f (y2 0x3333333333333333 (y1 0x5555555555555555 w)) = b8 (w % 256) + 256 * (b8 (w / 256 % 256) + 256 * (b8 (w / 65536 % 256) + 256 * (b8 (w / 16777216 % 256) + 256 * b8 (w / 4294967296)))) := by
  have h5 := by5 (w / 4294967296) (by omega)
  have h4 := st4 (w / 4294967296) (w / 16777216 % 256) 0x55555555 0x33333333 0x0f0f0f0f (by omega) h5.2
  have h3 := st4 _ (w / 65536 % 256) _ _ (256 * 0x0f0f0f0f + 15) (by omega) h4.2
  have h2 := st4 _ (w / 256 % 256) _ _ (256 * (256 * 0x0f0f0f0f + 15) + 15) (by omega) h3.2
  have h1 := st4 _ (w % 256) _ _ (256 * (256 * (256 * 0x0f0f0f0f + 15) + 15) + 15) (by omega) h2.2
  have e : 256 * (256 * (256 * (256 * (w / 4294967296) + w / 16777216 % 256) + w / 65536 % 256) + w / 256 % 256) + w % 256 = w := by omega
  rw [e, h2.1, h3.1, h4.1, h5.1] at h1
  have h1 := h1.1
  simp only [Nat.reduceMul, Nat.reduceAdd] at h1
  rw [h1]
  omega
theorem bc_8 (w : Nat) : bc w 8 = b8 (w % 256) := by
  have e1 : w % 256 % 2 = w % 2 := by omega
  have e2 : w % 256 / 2 % 2 = w / 2 % 2 := by omega
  have e3 : w % 256 / 4 % 2 = w / 4 % 2 := by omega
  have e4 : w % 256 / 8 % 2 = w / 8 % 2 := by omega
  have e5 : w % 256 / 16 % 2 = w / 16 % 2 := by omega
  have e6 : w % 256 / 32 % 2 = w / 32 % 2 := by omega
  have e7 : w % 256 / 64 % 2 = w / 64 % 2 := by omega
  have e8 : w % 256 / 128 % 2 = w / 128 % 2 := by omega
  unfold b8
  rw [e1, e2, e3, e4, e5, e6, e7, e8]
  simp only [bc, Nat.reducePow, Nat.div_one, Nat.zero_add]
theorem bc_add (w i : Nat) : ∀ j, bc w (i + j) = bc w i + bc (w / 2 ^ i) j := by
  intro j
  induction j with
  | zero => rfl
  | succ j ih => show bc w (i + j) + w / 2 ^ (i + j) % 2 = bc w i + (bc (w / 2 ^ i) j + w / 2 ^ i / 2 ^ j % 2); rw [ih, Nat.div_div_eq_div_mul, ← Nat.pow_add]; omega
theorem bc_36 (w : Nat) (hw : w < 2 ^ 36) : bc w 36 = b8 (w % 256) + b8 (w / 256 % 256) + b8 (w / 65536 % 256) + b8 (w / 16777216 % 256) + b8 (w / 4294967296) := by
  have h1 := bc_add w 8 28
  have h2 := bc_add (w / 2 ^ 8) 8 20
  have h3 := bc_add (w / 2 ^ 8 / 2 ^ 8) 8 12
  have h4 := bc_add (w / 2 ^ 8 / 2 ^ 8 / 2 ^ 8) 8 4
  have e1 : w / 2 ^ 8 = w / 256 := rfl
  have e2 : w / 256 / 2 ^ 8 = w / 65536 := by omega
  have e3 : w / 65536 / 2 ^ 8 = w / 16777216 := by omega
  have e4 : w / 16777216 / 2 ^ 8 = w / 4294967296 := by omega
  rw [e1, e2, e3, e4, bc_8] at h4
  rw [e1, e2, e3, bc_8] at h3
  rw [e1, e2, bc_8] at h2
  rw [e1, bc_8] at h1
  have h5 : bc (w / 4294967296) 4 = b8 (w / 4294967296) := by
    have hl : w / 4294967296 < 16 := by omega
    generalize w / 4294967296 = c at hl
    unfold b8
    simp only [bc, Nat.reducePow, Nat.div_one, Nat.zero_add]
    omega
  rw [show (8 : Nat) + 28 = 36 from rfl] at h1
  rw [show (8 : Nat) + 20 = 28 from rfl] at h2
  rw [show (8 : Nat) + 12 = 20 from rfl] at h3
  rw [show (8 : Nat) + 4 = 12 from rfl] at h4
  rw [h1, h2, h3, h4, h5]
  omega
theorem b8_le (c : Nat) : b8 c ≤ 8 := by unfold b8; omega
theorem pop_end (w x : Nat) (hw : w < 2 ^ 36) (hx : x = y3 0x0f0f0f0f0f0f0f0f (y2 0x3333333333333333 (y1 0x5555555555555555 w))) : (x + x / 256 + (x + x / 256) / 65536 + (x + x / 256 + (x + x / 256) / 65536) / 4294967296) % 128 = bc w 36 := by
  rw [pop36 w hw] at hx
  rw [bc_36 w hw]
  have a0 := b8_le (w % 256)
  have a1 := b8_le (w / 256 % 256)
  have a2 := b8_le (w / 65536 % 256)
  have a3 := b8_le (w / 16777216 % 256)
  have a4 := b8_le (w / 4294967296)
  generalize b8 (w % 256) = p0 at *
  generalize b8 (w / 256 % 256) = p1 at *
  generalize b8 (w / 65536 % 256) = p2 at *
  generalize b8 (w / 16777216 % 256) = p3 at *
  generalize b8 (w / 4294967296) = p4 at *
  clear hw
  have e1 : x + x / 256 = (p0 + p1) + 256 * (p1 + p2) + 65536 * (p2 + p3) + 16777216 * (p3 + p4) + 4294967296 * p4 := by omega
  rw [e1]
  have e2 : (p0 + p1) + 256 * (p1 + p2) + 65536 * (p2 + p3) + 16777216 * (p3 + p4) + 4294967296 * p4 + ((p0 + p1) + 256 * (p1 + p2) + 65536 * (p2 + p3) + 16777216 * (p3 + p4) + 4294967296 * p4) / 65536 = (p0 + p1 + p2 + p3) + 256 * (p1 + p2 + p3 + p4) + 65536 * (p2 + p3 + p4) + 16777216 * (p3 + p4) + 4294967296 * p4 := by omega
  rw [e2]
  have e3 : ((p0 + p1 + p2 + p3) + 256 * (p1 + p2 + p3 + p4) + 65536 * (p2 + p3 + p4) + 16777216 * (p3 + p4) + 4294967296 * p4) / 4294967296 = p4 := by omega
  rw [e3]
  omega
section BIT
variable {d L : Nat} {F G : Nat → Nat → Nat} {h : Nat → Nat}
theorem zl_add (a b : Nat) : lN a + lN b = lN (a + b) := by
  apply zl_inj
  simp [lN]
theorem zl_sub {a b : Nat} (hb : b ≤ a) : lN a - lN b = lN (a - b) := by
  have e : lN a = lN (a - b) + lN b := by rw [zl_add, Nat.sub_add_cancel hb]
  rw [e]
  simp
theorem zl_i (a : Nat) : (lN a).toInt32 = nI a := by
  apply Int32.toBitVec_inj.1
  simp [lN, nI]
set_option maxHeartbeats 1000000 in
theorem c_bitCount {w : Nat} (hw : w < 2 ^ 36) : pq_Ca (d + 1) 0 [.long (lN w)] (pq_Sh L, pn F, pl G, pq_rt h) (fun r M' => r = some (.int (nI (bc w 36))) ∧ M' = (pq_Sh L, pn (F), pl (G), pq_rt h)) := by
  refine Ca_mk rfl rfl ?_
  (repeat (first | refine E_st rfl ?_ | refine E_go rfl ?_))
  refine E_rt rfl ⟨?_, rfl⟩
  have s1 : w >>> 1 &&& 6148914691236517205 ≤ w := Nat.le_trans Nat.and_le_left (by rw [Nat.shiftRight_eq_div_pow]; omega)
  rw [zl_shr (n := w) (Nat.lt_trans hw (by decide)) (by decide), zl_and, zl_sub s1]
  have e1 : w - (w >>> 1 &&& 6148914691236517205) = y1 0x5555555555555555 w := by unfold y1; rw [Nat.shiftRight_eq_div_pow]
  rw [e1]
  have b1 : y1 0x5555555555555555 w < 2 ^ 36 := by rw [← e1]; omega
  have hpe := pop_end w _ hw rfl
  generalize y1 0x5555555555555555 w = x1 at *
  rw [zl_shr (n := x1) (Nat.lt_trans b1 (by decide)) (by decide), zl_and, zl_and, zl_add]
  have e2 : (x1 &&& 3689348814741910323) + (x1 >>> 2 &&& 3689348814741910323) = y2 0x3333333333333333 x1 := by unfold y2; rw [Nat.shiftRight_eq_div_pow]
  have b2 : y2 0x3333333333333333 x1 < 2 ^ 37 := by
    rw [← e2]
    have a1 : x1 &&& 3689348814741910323 ≤ x1 := Nat.and_le_left
    have a2 : x1 >>> 2 &&& 3689348814741910323 ≤ x1 := Nat.le_trans Nat.and_le_left (by rw [Nat.shiftRight_eq_div_pow]; omega)
    omega
  rw [e2]
  generalize y2 0x3333333333333333 x1 = x2 at *
  rw [zl_shr (n := x2) (Nat.lt_trans b2 (by decide)) (by decide), zl_add, zl_and]
  have e3 : (x2 + x2 >>> 4) &&& 1085102592571150095 = y3 0x0f0f0f0f0f0f0f0f x2 := by unfold y3; rw [Nat.shiftRight_eq_div_pow]
  have b3 : y3 0x0f0f0f0f0f0f0f0f x2 < 2 ^ 38 := by
    have a1 : y3 0x0f0f0f0f0f0f0f0f x2 ≤ x2 + x2 / 16 := Nat.and_le_left
    omega
  rw [e3]
  generalize y3 0x0f0f0f0f0f0f0f0f x2 = x3 at *
  rw [zl_shr (n := x3) (Nat.lt_trans b3 (by decide)) (by decide), zl_add, show x3 >>> 8 = x3 / 256 from Nat.shiftRight_eq_div_pow _ _]
  rw [zl_shr (n := x3 + x3 / 256) (by omega) (by decide), zl_add, show (x3 + x3 / 256) >>> 16 = (x3 + x3 / 256) / 65536 from Nat.shiftRight_eq_div_pow _ _]
  rw [zl_shr (n := x3 + x3 / 256 + (x3 + x3 / 256) / 65536) (by omega) (by decide), zl_add, show (x3 + x3 / 256 + (x3 + x3 / 256) / 65536) >>> 32 = (x3 + x3 / 256 + (x3 + x3 / 256) / 65536) / 4294967296 from Nat.shiftRight_eq_div_pow _ _]
  rw [zl_i, zi_and, show (127 : Nat) = 2 ^ 7 - 1 from rfl, Nat.and_two_pow_sub_one_eq_mod, show (2 : Nat) ^ 7 = 128 from rfl, hpe]
end BIT
section LAY
variable {d L : Nat} {F G : Nat → Nat → Nat} {h : Nat → Nat}
theorem zi_sub {a b : Nat} (hb : b ≤ a) : nI a - nI b = nI (a - b) := by
  have e : nI a = nI (a - b) + nI b := by rw [nI_add, Nat.sub_add_cancel hb]
  rw [e]
  simp
theorem c_edges {e : Nat} (hw : G 2 1 < 2 ^ 36) (he : bc (G 2 1) 36 = F 2 0 + 2 * e) (hb : e < 36) : pq_Ca (d + 2) 57 [.ref 2] (pq_Sh L, pn F, pl G, pq_rt h) (fun r M' => r = some (.int (nI e)) ∧ M' = (pq_Sh L, pn (F), pl (G), pq_rt h)) := by
  refine Ca_mk rfl rfl ?_
  (repeat (first | refine E_st rfl ?_ | refine E_go rfl ?_))
  refine E_cx rfl (by omega) (c_bitCount (d := 0) hw) ?_
  rw [he]
  (iterate 3 (first | refine E_st rfl ?_ | refine E_go rfl ?_))
  rw [show pn F 2 0 = nI (F 2 0) from rfl, zi_sub (by omega), show F 2 0 + 2 * e - F 2 0 = e * 2 by omega]
  (repeat (first | refine E_st rfl ?_ | refine E_go rfl ?_))
  rw [pk_div (by omega) (by decide) (by decide), show e * 2 / 2 = e by omega]
  exact E_rt rfl ⟨rfl, rfl⟩
theorem rm1_off (hd : dOk F h) {j : Nat} (h2 : ¬ j = 2) (h6 : ¬ j = 6) : rmF F h 1 j = F 1 j := by
  have := rm_ge hd
  unfold rmF
  rw [pu_at, if_neg (fun q => h6 q.2), pu_at, if_neg (fun q => h2 q.2), cpF_off (by omega)]
  split
  · rfl
  · rw [pu_at, if_neg (fun q => h2 q.2)]
theorem o_lay0 (hn : F 2 0 ≤ 6) (ht : F 1 4 ≤ 60) (hch : ∀ i, i < 60 → F 51 i < 65536) (hf : ¬ fltI F 16 0 0 = -4) : pq_Ca (d + 5) 68 [.ref 1] (pq_Sh L, pn F, pl G, pq_rt h) (fun r M' => r = some (.int (-2)) ∧ M' = (pq_Sh L, pn (F), pl (G), pq_rt h)) := by
  refine Ca_mk rfl rfl ?_
  (repeat (first | refine E_st rfl ?_ | refine E_go rfl ?_))
  refine E_cx rfl (by omega) (o_fault (d := 0) hn ht hch) ?_
  (repeat (first | refine E_st rfl ?_ | refine E_go rfl ?_))
  refine E_nif rfl hf ?_
  (repeat (first | refine E_st rfl ?_ | refine E_go rfl ?_))
  exact E_rt rfl ⟨rfl, rfl⟩
noncomputable def lyG (F G : Nat → Nat → Nat) (h : Nat → Nat) : Nat → Nat → Nat := pq_u (rmG F G h) 2 1 (wStays (rmF F h 2 0) ||| txE (rmF F h) 16 0 0)
theorem o_lay {e : Nat} (hd : dOk F h) (hn : nOk F G) (ht : F 1 4 ≤ 60) (hch : ∀ i, i < 60 → F 51 i < 65536) (hf : fltI F 16 0 0 = -4) (hw : lyG F G h 2 1 < 2 ^ 36) (he : bc (lyG F G h 2 1) 36 = F 2 0 + 2 * e) (hb : e < 36) : pq_Ca (d + 6) 68 [.ref 1] (pq_Sh L, pn F, pl G, pq_rt h) (fun r M' => r = some (.int (nI e)) ∧ M' = (pq_Sh L, pn (reF (rmF F h)), pl (lyG F G h), pq_rt (rmH F h))) := by
  have hn2 := rm_nOk hd hn
  have e20 : reF (rmF F h) 2 0 = F 2 0 := (show reF (rmF F h) 2 0 = rmF F h 2 0 from rfl).trans (rmF_off hd (Or.inl (by decide)) (by decide))
  have ht2 : rmF F h 1 4 ≤ 60 := by rw [rm1_off hd (by decide) (by decide)]; exact ht
  have hch2 : ∀ i, i < 60 → rmF F h 51 i < 65536 := fun i hi => by rw [rmF_off hd (Or.inr (by decide)) (by decide)]; exact hch i hi
  refine Ca_mk rfl rfl ?_
  (repeat (first | refine E_st rfl ?_ | refine E_go rfl ?_))
  refine E_cx rfl (by omega) (o_fault (d := 0) hn.1 ht hch) ?_
  (repeat (first | refine E_st rfl ?_ | refine E_go rfl ?_))
  refine E_if rfl hf ?_
  (repeat (first | refine E_st rfl ?_ | refine E_go rfl ?_))
  refine E_cx rfl (by omega) (o_remember (d := 0) hd hn) ?_
  (repeat (first | refine E_st rfl ?_ | refine E_go rfl ?_))
  refine E_cx rfl (by omega) (c_texts (d := 0) hn2.1 ht2 hch2) ?_
  (repeat (first | refine E_st rfl ?_ | refine E_go rfl ?_))
  refine E_cx rfl (by omega) (c_replaceEdges (d := 0) hn2.2.1 (fun k hk => Nat.lt_trans (hn2.2.2.2.2.2.2.1 k hk) (by decide)) hn2.1) ?_
  (repeat (first | refine E_st rfl ?_ | refine E_go rfl ?_))
  refine E_cx rfl (by omega) (c_edges (d := 0) (e := e) hw (by rw [e20]; exact he) hb) ?_
  exact E_rt rfl ⟨rfl, rfl⟩
end LAY
