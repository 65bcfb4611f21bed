/-! the law's calls: link, lay -/
section LWF
variable {L : Nat} {F G : FF} {h : Nat → Nat} {xs : Nat → Int32}
theorem jn_bit {D : FF} {a b s u v : Nat} (hab : ¬ a = b) (hs : s ≤ 1) : (jnM D a b s 64 (5 + u)).testBit v = true ↔ (((u = a ∧ v = b) ∨ (u = b ∧ v = a)) ∧ s = 1) ∨ (¬ ((u = a ∧ v = b) ∨ (u = b ∧ v = a)) ∧ (D 64 (5 + u)).testBit v = true) := by
  have key : ∀ (x c : Nat), (an x (1 <<< c) ||| s <<< c).testBit v = true ↔ (v = c ∧ s = 1) ∨ (¬ v = c ∧ x.testBit v = true) := by
    intro x c
    rw [Nat.testBit_or, Bool.or_eq_true, an1_bit]
    rcases (show s = 0 ∨ s = 1 by omega) with rfl | rfl
    · rw [Nat.zero_shiftLeft, Nat.zero_testBit]
      constructor
      · rintro (z | z)
        · exact Or.inr ⟨z.2, z.1⟩
        · cases z
      · rintro (z | z)
        · exact absurd z.2 (by decide)
        · exact Or.inl ⟨z.2, z.1⟩
    · rw [zb_one, decide_eq_true_eq]
      constructor
      · rintro (z | z)
        · exact Or.inr ⟨z.2, z.1⟩
        · exact Or.inl ⟨z.symm, rfl⟩
      · rintro (z | z)
        · exact Or.inr z.1.symm
        · exact Or.inl ⟨z.2, z.1⟩
  unfold jnM
  rw [pu_at]
  by_cases c : u = b
  · subst c
    rw [if_pos ⟨rfl, rfl⟩, key, show jnM1 D a u s 64 (5 + u) = D 64 (5 + u) by unfold jnM1; rw [pu_at, if_neg (by omega)]]
    constructor
    · rintro (z | z)
      · exact Or.inl ⟨Or.inr ⟨rfl, z.1⟩, z.2⟩
      · exact Or.inr ⟨by omega, z.2⟩
    · rintro (z | z)
      · exact Or.inl ⟨by omega, z.2⟩
      · exact Or.inr ⟨by omega, z.2⟩
  · rw [if_neg (by omega)]
    unfold jnM1
    rw [pu_at]
    by_cases c2 : u = a
    · subst c2
      rw [if_pos ⟨rfl, rfl⟩, key]
      constructor
      · rintro (z | z)
        · exact Or.inl ⟨Or.inl ⟨rfl, z.1⟩, z.2⟩
        · exact Or.inr ⟨by omega, z.2⟩
      · rintro (z | z)
        · exact Or.inl ⟨by omega, z.2⟩
        · exact Or.inr ⟨by omega, z.2⟩
    · rw [if_neg (by omega)]
      constructor
      · intro z; exact Or.inr ⟨by omega, z⟩
      · rintro (z | z)
        · omega
        · exact z.2
theorem lkW_bit {w a b s u v : Nat} (ha : a < 6) (hb : b < 6) (hs : s ≤ 1) (hu : u < 6) (hv : v < 6) : (lkW w a b s).testBit (6 * u + v) = true ↔ (((u = a ∧ v = b) ∨ (u = b ∧ v = a)) ∧ s = 1) ∨ ((((u = a ∧ v = b) ∨ (u = b ∧ v = a)) → s = 1) ∧ w.testBit (6 * u + v) = true) := by
  have he := wEdge_bit ha hb hu hv
  unfold lkW
  rcases (show s = 0 ∨ s = 1 by omega) with rfl | rfl
  · rw [if_neg (by decide), an_bit, Bool.and_eq_true, Bool.not_eq_true']
    constructor
    · rintro ⟨z1, z2⟩
      exact Or.inr ⟨fun y => (by rw [he.mpr y] at z2; cases z2), z1⟩
    · rintro (z | z)
      · exact absurd z.2 (by decide)
      · refine ⟨z.2, ?_⟩
        cases hh : (wEdge a b).testBit (6 * u + v) with
        | false => rfl
        | true => exact absurd (z.1 (he.mp hh)) (by decide)
  · rw [if_pos rfl, Nat.testBit_or, Bool.or_eq_true, he]
    constructor
    · rintro (z | z)
      · exact Or.inr ⟨fun _ => rfl, z⟩
      · exact Or.inl ⟨z, rfl⟩
    · rintro (z | z)
      · exact Or.inr z.1
      · exact Or.inl z.2
theorem lkW_lt {w a b s : Nat} (ha : a < 6) (hb : b < 6) (hw : w < 2 ^ 36) : lkW w a b s < 2 ^ 36 := by
  unfold lkW
  split
  · exact Nat.or_lt_two_pow hw (wEdge_lt ha hb)
  · exact Nat.lt_of_le_of_lt (an_le _ _) hw
theorem lk_pR {D : FF} {n w a b s : Nat} (hp : pR n w (fun u => D 64 (5 + u))) (ha : a < n) (hb : b < n) (hab : ¬ a = b) (hs : s ≤ 1) : pR n (lkW w a b s) (fun u => jnM D a b s 64 (5 + u)) := by
  obtain ⟨p1, p2, p3, p4, p5, p6⟩ := hp
  refine ⟨p1, lkW_lt (by omega) (by omega) p2, fun u v hu hv => ?_, fun u hu => ⟨jn_near (by omega) (by omega) hs (fun v hv => (p4 v hv).1) u hu, ?_⟩, fun u v hu hv => ?_, fun u v hu hv => ?_⟩
  · show _ ↔ (_ ∨ (jnM D a b s 64 (5 + u)).testBit v = true)
    rw [lkW_bit (by omega) (by omega) hs hu hv, jn_bit hab hs, p3 u v hu hv]
    constructor
    · rintro (z | ⟨z1, z2 | z2⟩)
      · exact Or.inr (Or.inl z)
      · exact Or.inl z2
      · by_cases c : (u = a ∧ v = b) ∨ (u = b ∧ v = a)
        · exact Or.inr (Or.inl ⟨c, z1 c⟩)
        · exact Or.inr (Or.inr ⟨c, z2⟩)
    · rintro (z | z | z)
      · exact Or.inr ⟨fun y => by omega, Or.inl z⟩
      · exact Or.inl z
      · exact Or.inr ⟨fun y => absurd y z.1, Or.inr z.2⟩
  · cases hh : (jnM D a b s 64 (5 + u)).testBit u with
    | false => rfl
    | true =>
      rcases (jn_bit hab hs).mp hh with z | z
      · omega
      · rw [show D 64 (5 + u) = (fun u => D 64 (5 + u)) u from rfl, (p4 u hu).2] at z
        exact absurd z.2 (by decide)
  · have key : ∀ u v, u < 6 → v < 6 → (jnM D a b s 64 (5 + u)).testBit v = true → (jnM D a b s 64 (5 + v)).testBit u = true := by
      intro u v hu hv hh
      rw [jn_bit hab hs] at hh ⊢
      rcases hh with z | z
      · exact Or.inl ⟨by omega, z.2⟩
      · exact Or.inr ⟨by omega, (p5 u v hu hv).symm.trans z.2⟩
    show (jnM D a b s 64 (5 + u)).testBit v = (jnM D a b s 64 (5 + v)).testBit u
    cases h1 : (jnM D a b s 64 (5 + u)).testBit v with
    | true => exact (key u v hu hv h1).symm
    | false =>
      cases h2 : (jnM D a b s 64 (5 + v)).testBit u with
      | false => rfl
      | true => rw [key v u hv hu h2] at h1; cases h1
  · rcases (jn_bit hab hs).mp hv with z | z
    · omega
    · exact p6 u v hu z.2
theorem lkE_off {X : FF} {p j : Nat} (hh : ¬ (p = 64 ∧ j = 19)) : lkE X p j = X p j := by
  unfold lkE
  split
  · rw [pu_at, if_neg hh]
  · rfl
theorem lkE_19 {X : FF} : lkE X 64 19 = if X 64 17 = 1 ∧ ¬ (X 64 18 = X 64 19 ∨ (X 64 (5 + X 64 18)).testBit (X 64 19) = true) then X 64 18 else X 64 19 := by
  unfold lkE
  split
  · rw [pu_at, if_pos ⟨rfl, rfl⟩]
  · rfl
theorem co_in {X : FF} : ∀ K k, k < K → coM X K 64 (14 + k) = if X 64 (11 + k) = X 64 (14 + k) ∨ (X 64 (5 + X 64 (11 + k))).testBit (X 64 (14 + k)) = true then X 64 (14 + k) else X 64 (11 + k) := by
  intro K
  induction K with
  | zero => intro k hk; omega
  | succ K ih =>
    intro k hk
    by_cases c : k = K
    · subst c
      unfold coM
      split
      · exact co_off _ (by omega)
      · rw [pu_at, if_pos ⟨rfl, rfl⟩]
    · rw [← ih k (by omega)]
      show coM X (K + 1) 64 (14 + k) = _
      rw [coM]
      split
      · rfl
      · rw [pu_at, if_neg (by omega)]
theorem cu_in {X : FF} {w : Nat} : ∀ K k, k < K → cuF X w K 4 k = if w.testBit (6 * X 3 k + X 4 k) = true then X 4 k else X 3 k := by
  intro K
  induction K with
  | zero => intro k hk; omega
  | succ K ih =>
    intro k hk
    by_cases c : k = K
    · subst c
      unfold cuF
      split
      · exact cuF_off _ _ _ (by omega)
      · rw [pu_at, if_pos ⟨rfl, rfl⟩]
    · rw [← ih k (by omega)]
      show cuF X w (K + 1) 4 k = _
      rw [cuF]
      split
      · rfl
      · rw [pu_at, if_neg (by omega)]
theorem ct_off {X : FF} {w p j : Nat} (h4 : ¬ (p = 4 ∧ j < X 2 2)) (h8 : ¬ (p = 8 ∧ j = 2)) : ctF X w p j = X p j := by
  unfold ctF
  split
  · exact cuF_off _ _ _ h4
  · rw [pu_at, if_neg h8]; exact cuF_off _ _ _ h4
theorem ctb_4 {X : FF} {w k : Nat} (hk : k < X 2 2) : ctF X w 4 k = if w.testBit (6 * X 3 k + X 4 k) = true then X 4 k else X 3 k := by
  unfold ctF
  split
  · exact cu_in _ _ hk
  · rw [pu_off (by decide)]; exact cu_in _ _ hk
theorem ctb_8 {X : FF} {w : Nat} : ctF X w 8 2 = if X 8 0 = 0 ∨ w.testBit (6 * X 8 1 + X 8 2) = true then X 8 2 else X 8 1 := by
  unfold ctF
  split
  · exact cuF_off _ _ _ (by omega)
  · rw [pu_at, if_pos ⟨rfl, rfl⟩]
theorem b_link (hJ : J xs F G h) (x y z : Int32) : Bo L xs 66 106 [.int x, .int y, .int z] F G h := by
  have hg := J_gOk hJ
  have hn := J_nOk hJ
  obtain ⟨e0, e1, e2, e3, e4, e5, e6, e7⟩ := J_e hJ
  have h3 := hg.2.2.1
  have h6 := hg.2.1
  rcases ix_node x (n := F 64 0) (by omega) with hx | ⟨a, ha, rfl⟩
  · exact Bo_m0 (o_link0 (d := 0) (by rw [e0]; exact hx)) (g_link0 (d := 0) hg hx) (by omega) (by omega) rfl hJ
  rcases ix_node y (n := F 64 0) (by omega) with hy | ⟨b, hb, rfl⟩
  · exact Bo_m0 (o_link1 (d := 0) (by omega) (by omega) (by rw [e0]; exact hy)) (g_link1 (d := 0) hg ha hy) (by omega) (by omega) rfl hJ
  by_cases hab : a = b
  · exact Bo_m0 (o_link2 (d := 0) (by omega) (by omega) (by omega) (Or.inl hab)) (g_link2 (d := 0) hg ha hb (Or.inl hab)) (by omega) (by omega) rfl hJ
  rcases ix_node z (n := 2) (by omega) with hz | ⟨s, hs, rfl⟩
  · have hz2 : z < 0 ∨ nI 1 < z := hz.imp id (fun q => Int32.lt_of_lt_of_le (by decide) q)
    exact Bo_m0 (o_link2 (d := 0) (by omega) (by omega) (by omega) (Or.inr hz2)) (g_link2 (d := 0) hg ha hb (Or.inr hz2)) (by omega) (by omega) rfl hJ
  have hs1 : s ≤ 1 := by omega
  have hS := hJ.2.2.1
  have hp := hS.2.1
  have hG21 : rmG F G h 2 1 = G 2 1 := rmG_lo hJ (a := 0) (by omega)
  have hlo : ∀ p j, ¬ (p = 4 ∧ j < F 64 1) → ¬ (p = 8 ∧ j = 2) → lkF (rmF F h) (rmG F G h) a b s p j = rmF F h p j := by
    intro p j h4 h8
    unfold lkF
    split
    · rfl
    · exact ct_off (by rw [show rmF F h 2 2 = F 64 1 from (rm_lo hJ (a := 0) (by omega)).trans e1]; exact h4) h8
  have hgt : ∀ p j, 63 ≤ p → lkF (rmF F h) (rmG F G h) a b s p j = F p j := fun p j hp => by rw [hlo p j (by omega) (by omega)]; exact rm_hi hJ (by omega)
  have hm := g_link (d := 0) (L := L) (G := pq_u (rmG F G h) 2 1 (lkW (G 2 1) a b s)) (h := rmH F h) (F := lkF (rmF F h) (rmG F G h) a b s) (a := a) (b := b) (s := s) (gOk_hi hg hgt) (by rw [hgt 64 0 (by omega)]; exact ha) (by rw [hgt 64 0 (by omega)]; exact hb) hab hs1
  rw [hgt 64 (5 + a) (by omega)] at hm
  have hR := rc64f hgt
  have hco4 : ∀ k, k < F 64 1 → lkF (rmF F h) (rmG F G h) a b s 4 k = if (lkW (G 2 1) a b s).testBit (6 * F 3 k + F 4 k) = true then F 4 k else F 3 k := by
    intro k hk
    have r3 : rmF F h 3 k = F 3 k := rm_lo hJ (a := 1) (by omega)
    have r4 : rmF F h 4 k = F 4 k := rm_lo hJ (a := 2) (by omega)
    obtain ⟨s1, s2, s3, s4⟩ := hS.2.2.1.1 k (by omega)
    obtain ⟨t1, t2⟩ := hS.2.2.1.2.1 k hk
    have t1 : F 3 k = F 64 (11 + k) := t1
    have t2 : F 4 k = F 64 (14 + k) := t2
    unfold lkF lkW
    rw [hG21]
    by_cases c : s = 1
    · rw [if_pos c, if_pos c, r4]
      split
      · rfl
      · rename_i q
        rw [Nat.testBit_or] at q
        have hw := hp.2.2.1 (F 64 (11 + k)) (F 64 (14 + k)) s3 s4
        rcases hS.2.2.1.2.2 k hk with y | y
        · rw [t1, t2, y]
        · exfalso
          apply q
          rw [t1, t2, show (G 2 1).testBit (6 * F 64 (11 + k) + F 64 (14 + k)) = true from hw.mpr (Or.inr y)]
          rfl
    · rw [if_neg c, if_neg c, ctb_4 (by rw [show rmF F h 2 2 = F 64 1 from (rm_lo hJ (a := 0) (by omega)).trans e1]; exact hk), r3, r4]
  have hco8 : lkF (rmF F h) (rmG F G h) a b s 8 2 = if F 64 17 = 0 ∨ (lkW (G 2 1) a b s).testBit (6 * F 8 1 + F 8 2) = true then F 8 2 else F 8 1 := by
    have r0 : rmF F h 8 0 = F 64 17 := (rm_lo hJ (a := 6) (by omega)).trans e7
    have r1 : rmF F h 8 1 = F 8 1 := rm_lo hJ (a := 6) (by omega)
    have r2 : rmF F h 8 2 = F 8 2 := rm_lo hJ (a := 6) (by omega)
    unfold lkF lkW
    rw [hG21]
    by_cases c : s = 1
    · rw [if_pos c, if_pos c, r2]
      split
      · rfl
      · rename_i q
        have h17 := hg.2.2.2.2.2.2.2.2.2.1
        obtain ⟨b1, b2, b3, b4, b5, b6, _⟩ := hS.2.2.2.2.2.2.2.2.2.2.2.2.2.2.2.2.2.2.1 (by omega)
        exfalso
        apply q
        refine Or.inr ?_
        rw [show F 8 1 = F 64 18 from b1, show F 8 2 = F 64 19 from b2, Nat.testBit_or, show (G 2 1).testBit (6 * F 64 18 + F 64 19) = true from b6]
        rfl
    · rw [if_neg c, if_neg c, ctb_8, r0, r1, r2]
  generalize hF1 : lkF (rmF F h) (rmG F G h) a b s = F1 at hm hlo hgt hR hco4 hco8
  have hjo : ∀ p j, ¬ (p = 64 ∧ (j = 5 + a ∨ j = 5 + b)) → jnM (rcM F1) a b s p j = rcM F1 p j := fun p j hh => jn_off hh
  have eK : rcM F1 64 1 = F 64 1 := by rw [hR]
  have hoff : ∀ p j, ¬ (p = 64 ∧ (j = 5 + a ∨ j = 5 + b)) → ¬ (p = 64 ∧ 14 ≤ j ∧ j < 14 + F 64 1) → ¬ (p = 64 ∧ j = 19) → lkM (rcM F1) a b s p j = rcM F1 p j := fun p j h1 h2 h3 => by
    unfold lkM
    rw [lkE_off h3, eK, co_off _ h2, hjo p j h1]
  have hpm : ∀ p j, ¬ p = 64 → lkM (rcM F1) a b s p j = rcM F1 p j := fun p j hp => hoff p j (by omega) (by omega) (by omega)
  have hnear : ∀ u, u < 6 → lkM (rcM F1) a b s 64 (5 + u) = jnM (rcM F1) a b s 64 (5 + u) := fun u hu => by
    unfold lkM
    rw [lkE_off (by omega), co_off _ (by omega)]
  have hj64 : ∀ j, (j < 5 ∨ 11 ≤ j) → jnM (rcM F1) a b s 64 j = F 64 j := fun j hj => by rw [hjo 64 j (by omega), hR]
  have hp2 : pR (F 64 0) (lkW (G 2 1) a b s) (fun u => lkM (rcM F1) a b s 64 (5 + u)) := pR_congr (lk_pR (D := rcM F1) (by rw [hR]; exact hp) ha hb hab hs1) hnear
  have hbit : (if (G 2 1).testBit (6 * a + b) then 1 else 0 : Nat) = if (F 64 (5 + a)).testBit b then 1 else 0 := by
    have : (G 2 1).testBit (6 * a + b) = true ↔ (a = b ∧ a < F 64 0) ∨ (F 64 (5 + a)).testBit b = true := hp.2.2.1 a b (by omega) (by omega)
    by_cases c : (F 64 (5 + a)).testBit b = true
    · rw [if_pos c, if_pos (this.mpr (Or.inr c))]
    · rw [if_neg c, if_neg (fun q => (this.mp q).elim (fun r => hab r.1) c)]
  have hcl := o_link (d := 0) (L := L) hJ.1 hn (show a < F 2 0 by omega) (show b < F 2 0 by omega) hab hs1
  rw [hF1] at hcl
  refine Bo_mk hcl hm (by omega) (by omega) (by rw [hbit]) (J_opp (F1 := F1) hJ (fun p j hp => hlo p j (by omega) (by omega)) (fun p j hp => pu_off (by omega)) (fun p j h1 h2 => hpm p j h2) ?_)
  have hvw : ∀ i k, i ≤ 7 → ¬ (i = 2 ∧ k < F 64 1) → ¬ (i = 6 ∧ k = 2) → vw (lkM (rcM F1) a b s) 2 i k = vw F 2 i k := fun i k hi h1 h2 => by
    unfold vw
    rw [hpm _ _ (by omega), rc_off (by omega) (by omega), hlo _ _ (by omega) (by omega)]
    exact rm_lo hJ hi
  have hlast := S_link (w := lkW (G 2 1) a b s) (c' := fun i k => if i ≤ 7 then vw (lkM (rcM F1) a b s) 2 i k else vw F 2 i k) (g' := vw (pq_u (rmG F G h) 2 1 (lkW (G 2 1) a b s)) 2) (d' := lkM (rcM F1) a b s 64) hS hp2
    (by show pq_u (rmG F G h) 2 1 (lkW (G 2 1) a b s) 2 1 = _; rw [pu_at, if_pos ⟨rfl, rfl⟩])
    (fun i hi => by show pq_u (rmG F G h) 2 1 (lkW (G 2 1) a b s) 7 i = G 7 i; rw [pu_off (by decide)]; exact rmG_lo hJ (a := 5) (by omega))
    (fun i k h1 h2 => by
      show (if i ≤ 7 then vw (lkM (rcM F1) a b s) 2 i k else vw F 2 i k) = _
      by_cases c : i ≤ 7
      · rw [if_pos c]; exact hvw i k c h1 h2
      · rw [if_neg c])
    (fun k hk => by
      show lkM (rcM F1) a b s 4 k = _
      rw [hpm _ _ (by omega), rc_off (by omega) (by omega)]; exact hco4 k hk)
    (by
      show lkM (rcM F1) a b s 8 2 = _
      rw [hpm _ _ (by omega), rc_off (by omega) (by omega)]; exact hco8)
    (fun j h1 h2 h3 => by rw [hoff 64 j (by omega) (by omega) (by omega), hR])
    (fun k hk => by
      have s3 := (hS.2.2.1.1 k (by omega)).2.2.1
      rw [hnear _ s3]
      show lkE (coM (jnM (rcM F1) a b s) (rcM F1 64 1)) 64 (14 + k) = _
      rw [lkE_off (by omega), eK, co_in _ _ hk, hj64 (11 + k) (by omega), hj64 (14 + k) (by omega)])
    (by
      have f9 := hg.2.2.2.2.2.2.2.2.2.2.1
      rw [hnear _ f9]
      show lkE (coM (jnM (rcM F1) a b s) (rcM F1 64 1)) 64 19 = _
      rw [lkE_19, eK, co_off _ (by omega), co_off _ (by omega), co_off _ (by omega), co_off _ (by rw [hj64 18 (by omega)]; omega), hj64 17 (by omega), hj64 18 (by omega), hj64 19 (by omega)])
  exact Sr_c hlast (fun a b hs => (if_pos (slF_le hs)).symm) (fun _ _ _ => rfl) (fun _ _ => rfl)
/-! lay -/
theorem edC_c {F F' : FF} (h1 : F' 1 4 = F 1 4) (h2 : F' 2 0 = F 2 0) (h3 : ∀ i, F' 51 i = F 51 i) (s : Nat) : edC F' s = edC F s := by
  unfold edC
  rw [h1, h2, h3, h3, h3, h3]
theorem edF_c {F F' : FF} (h1 : F' 1 4 = F 1 4) (h2 : F' 2 0 = F 2 0) (h3 : ∀ i, F' 51 i = F 51 i) (s : Nat) : edF F' s = edF F s := by
  by_cases c : edC F s
  · rw [edF_1 c, edF_1 (by rw [edC_c h1 h2 h3]; exact c), h3, h3]
  · rw [edF_0 c, edF_0 (by rw [edC_c h1 h2 h3]; exact c)]
theorem flt_c {F F' : FF} (h1 : F' 1 4 = F 1 4) (h2 : F' 2 0 = F 2 0) (h3 : ∀ i, F' 51 i = F 51 i) : ∀ m s S, fltI F' m s S = fltI F m s S := by
  intro m
  induction m with
  | zero => intro s S; rfl
  | succ m ih => intro s S; unfold fltI; rw [h1, edF_c h1 h2 h3, ih]
theorem txE_c {F F' : FF} (h1 : F' 1 4 = F 1 4) (h2 : F' 2 0 = F 2 0) (h3 : ∀ i, F' 51 i = F 51 i) : ∀ m s S, txE F' m s S = txE F m s S := by
  intro m
  induction m with
  | zero => intro s S; rfl
  | succ m ih => intro s S; unfold txE; rw [h1, edF_c h1 h2 h3, ih]
theorem rc_c {X Y : FF} (hh : ∀ p j, ¬ p = 73 → X p j = Y p j) {p j : Nat} (hp : ¬ p = 73) : rcM X p j = rcM Y p j := by
  have e2 : X 63 2 = Y 63 2 := hh 63 2 (by omega)
  have ek : rcK X = rcK Y := by unfold rcK; rw [e2]
  by_cases c : p = 65
  · subst c
    rw [rc65, rc65, ek, e2, hh 65 _ (by omega), hh 65 _ (by omega), hh 64 _ (by omega)]
  · by_cases c2 : p = 63 ∧ j = 2
    · obtain ⟨rfl, rfl⟩ := c2
      rw [rc632, rc632, ek]
    · rw [rc_off c c2, rc_off c c2, hh p j hp]
theorem lay_pR {n S : Nat} {X : FF} (hn : n ≤ 6) (hR : seR n S X) : pR n (wStays n ||| S) (X 73) := by
  obtain ⟨r1, r2, r3, r4, r5⟩ := hR
  refine ⟨hn, Nat.or_lt_two_pow (stays_lt hn) r1, fun u v hu hv => ?_, r3, r4, r5⟩
  rw [Nat.testBit_or, Bool.or_eq_true, stays_uv hu hv, r2 u v hu hv]
theorem b_lay (hJ : J xs F G h) : Bo L xs 68 155 [] F G h := by
  have hg := J_gOk hJ
  have hn := J_nOk hJ
  obtain ⟨e0, e1, e2, e3, e4, e5, e6, e7⟩ := J_e hJ
  have ht := hJ.2.2.2.2.1
  have h2 := hg.1
  have h6 := hg.2.1
  have h3 := hg.2.2.1
  by_cases hf : fltI F 16 0 0 = -4
  case neg =>
    obtain ⟨f1, f2, f3⟩ := flt_eq e0 hg.2.1 ht 16 0 0 (ze F 6) (by omega) (fun p j hp => ze_off hp) seR_0
    exact Bo_mk (o_lay0 (d := 0) (by omega) ht.2.1 (fun i hi => (ht.2.2.1 i hi).1) hf) (g_lay0 (d := 0) (g_fault (d := 0) (by omega) hg.2.1 (by rw [ht.1]; exact ht.2.1) (fun i hi => (ht.2.2.1 i hi).2)) (by rw [← f1]; exact hf)) (by omega) (by omega) rfl (J_scrp hJ (fun p j hp => f2 p j (by omega)))
  have hre : ∀ p j, ¬ p = 4 → ¬ p = 5 → ¬ p = 6 → ¬ p = 8 → reF (rmF F h) p j = rmF F h p j := fun p j z4 z5 z6 z8 => by
    unfold reF
    rw [bg_off z5 z6, pu_off z8, pq_cpy_off _ _ _ _ _ _ z4]
  have hgt : ∀ p j, 51 ≤ p → reF (rmF F h) p j = F p j := fun p j hp => by rw [hre p j (by omega) (by omega) (by omega) (by omega)]; exact rm_hi hJ hp
  have e14 : reF (rmF F h) 1 4 = F 1 4 := by rw [hre 1 4 (by omega) (by omega) (by omega) (by omega)]; exact rm1_off hJ.1 (by omega) (by omega)
  have r20 : rmF F h 2 0 = F 2 0 := rm_lo hJ (a := 0) (by omega)
  have e20 : reF (rmF F h) 2 0 = F 2 0 := by rw [hre 2 0 (by omega) (by omega) (by omega) (by omega)]; exact r20
  have e640 : reF (rmF F h) 64 0 = F 64 0 := hgt 64 0 (by omega)
  have ht1 : txOk (reF (rmF F h)) := by
    unfold txOk
    rw [e14, hgt 63 4 (by omega)]
    refine ⟨ht.1, ht.2.1, fun i hi => ?_, fun i hi => ?_⟩
    · rw [hgt 51 i (by omega), hgt 66 i (by omega)]; exact ht.2.2.1 i hi
    · rw [hgt 51 i (by omega), hgt 66 i (by omega)]; exact ht.2.2.2 i hi
  obtain ⟨f1, f2, f3⟩ := flt_eq (F := reF (rmF F h)) (by rw [e20, e640]; exact e0) (by rw [e640]; exact h6) ht1 16 0 0 (ze (reF (rmF F h)) 6) (by omega) (fun p j hp => ze_off hp) seR_0
  have hf1 : fltI (reF (rmF F h)) 16 0 0 = -4 := by rw [flt_c e14 e20 (fun i => hgt 51 i (by omega))]; exact hf
  have f3 := f3 hf1
  have hfm := g_fault (d := 0) (L := L) (G := lyG F G h) (h := rmH F h) (F := reF (rmF F h)) (by rw [e640]; omega) (by rw [e640]; exact h6) (by rw [ht1.1]; exact ht1.2.1) (fun i hi => (ht1.2.2.1 i hi).2)
  rw [← f1, hf1] at hfm
  rw [e640] at f3
  rw [show txE (reF (rmF F h)) 16 0 0 = txE (rmF F h) 16 0 0 from txE_c (by rw [e14]; exact (rm1_off hJ.1 (by omega) (by omega)).symm) (by rw [e20, r20]) (fun i => by rw [hgt 51 i (by omega)]; exact (rm_hi hJ (by omega)).symm) 16 0 0] at f3
  generalize hF' : (fltM 16 0 (ze (reF (rmF F h)) 6)).2 = F' at hfm f2 f3
  have hR : ∀ j, rcM F' 64 j = F 64 j := fun j => by rw [rc64, f2 64 j (by omega)]; exact hgt 64 j (by omega)
  have hlo : ∀ p j, ¬ p = 64 → lyM (rcM F') p j = rcM F' p j := fun p j hp => by
    unfold lyM
    rw [bgM_off hp, pu_off hp]
    simp only [ly2, ly1]
    rw [if_neg (fun q => hp q.1), if_neg (fun q => hp q.1)]
  have hFm : ∀ j, pq_u (ly2 (ly1 (rcM F') 6) (rcM F' 64 1)) 64 19 (rcM F' 64 18) 64 j = if j = 19 then F 64 18 else if 14 ≤ j ∧ j < 14 + F 64 1 then F 64 (j - 3) else if 5 ≤ j ∧ j < 11 then F' 73 (j - 5) else F 64 j := by
    intro j
    rw [pu_at, hR, hR]
    by_cases c : j = 19
    · rw [if_pos ⟨rfl, c⟩, if_pos c]
    · rw [if_neg (fun q => c q.2), if_neg c]
      simp only [ly2, ly1]
      by_cases c2 : 14 ≤ j ∧ j < 14 + F 64 1
      · rw [if_pos ⟨trivial, c2⟩, if_pos c2, if_neg (by omega), hR]
      · rw [if_neg (fun q => c2 q.2), if_neg c2]
        by_cases c3 : 5 ≤ j ∧ j < 11
        · rw [if_pos ⟨trivial, c3⟩, if_pos c3, rc_off (by omega) (by omega)]
        · rw [if_neg (by omega), if_neg c3, hR]
  have hp : pR (F 64 0) (wStays (F 2 0) ||| txE (rmF F h) 16 0 0) (fun u => pq_u (ly2 (ly1 (rcM F') 6) (rcM F' 64 1)) 64 19 (rcM F' 64 18) 64 (5 + u)) := by
    rw [e0]
    refine pR_congr (lay_pR h6 f3) (fun u hu => ?_)
    rw [hFm, if_neg (by omega), if_neg (by omega), if_pos (by omega), show 5 + u - 5 = u by omega]
  have hS0 := S_rm hJ (d' := F 64) (fun _ => rfl)
  obtain ⟨q1, q2, q3, q4⟩ := S_lay (w := wStays (F 2 0) ||| txE (rmF F h) 16 0 0) (c' := vw (pq_u (pq_cpy (rmF F h) 3 0 4 0 3) 8 2 (rmF F h 8 1)) 2) (g' := vw (lyG F G h) 2) (d' := pq_u (ly2 (ly1 (rcM F') 6) (rcM F' 64 1)) 64 19 (rcM F' 64 18) 64) hS0 hp
    (by show lyG F G h 2 1 = _; unfold lyG; rw [pu_at, if_pos ⟨rfl, rfl⟩, r20])
    (fun i k h1 h2 => by
      unfold vw
      rw [pu_at, if_neg (by omega)]
      unfold pq_cpy
      rw [if_neg (by omega)])
    (fun k hk => by
      show pq_u (pq_cpy (rmF F h) 3 0 4 0 3) 8 2 (rmF F h 8 1) 4 k = rmF F h 3 k
      rw [pu_off (by decide)]
      unfold pq_cpy
      rw [if_pos (by omega), show 0 + (k - 0) = k by omega])
    (by show pq_u (pq_cpy (rmF F h) 3 0 4 0 3) 8 2 (rmF F h 8 1) 8 2 = _; rw [pu_at, if_pos ⟨rfl, rfl⟩]; rfl)
    (fun j h1 h2 h3 => by rw [hFm, if_neg h3, if_neg h2, if_neg (by omega)])
    (fun k hk => by rw [hFm, if_neg (by omega), if_pos (by omega), show 14 + k - 3 = 11 + k by omega])
    (by rw [hFm, if_pos rfl])
  have s4 := hS0.2.2.2.1
  have hB := S_begF (Fc := pq_u (pq_cpy (rmF F h) 3 0 4 0 3) 8 2 (rmF F h 8 1)) (Gc := lyG F G h) (Fm := pq_u (ly2 (ly1 (rcM F') 6) (rcM F' 64 1)) 64 19 (rcM F' 64 18)) (F2 := lyM (rcM F')) (G2 := lyG F G h) q1 q2 q3 q4
    (fun i hi => by rw [pu_off (by decide), pq_cpy_off _ _ _ _ _ _ (by decide)]; exact s4.2.2.2.2.2.1 i hi)
    (fun i hi => by unfold lyG; rw [pu_off (by decide)]; exact s4.2.2.2.2.2.2.1 i hi)
    (fun a b ha => by rw [hlo _ _ (by omega), rc_off (by omega) (by omega), f2 _ _ (by omega)]; rfl)
    (fun _ _ _ => rfl) (fun _ => rfl)
  have h632 : F' 63 2 ≤ 5 := by rw [f2 63 2 (by omega), hgt 63 2 (by omega)]; exact J_g5 hJ
  have hgF' : gOk F' := gOk_of hg (fun j => by rw [f2 64 j (by omega)]; exact hgt 64 j (by omega)) h632
  have hgo : gOk (lyM (rcM F')) := Sr_gOk2 hB.1 (by rw [hlo _ _ (by omega)]; exact (rc_gOk hgF').2.2.2.2.2.2.2.2.2.2.2.2.2.2.2.2.2.2.2)
  have hm := g_lay (d := 0) hfm hgF' hgo (fun v hv => (f3.2.2.1 v hv).1)
  have hed := edges_eq (F := lyM (rcM F')) hB.1.2.1
  have hw := hB.1.2.1.2.1
  have e640' : lyM (rcM F') 64 0 = F 2 0 := by rw [e0]; unfold lyM bgM; rw [pu_at, if_neg (by omega), pu_at, if_neg (by omega), pu_at, if_neg (by omega), hFm, if_neg (by omega), if_neg (by omega), if_neg (by omega)]
  rw [e640'] at hed
  exact Bo_mk (o_lay (d := 0) hJ.1 hn ht.2.1 (fun i hi => (ht.2.2.1 i hi).1) hf hw hed.1 hed.2) hm (by omega) (by omega) rfl (J_opp (F1 := reF (rmF F h)) hJ (fun p j hp => hre p j (by omega) (by omega) (by omega) (by omega)) (fun p j hp => pu_off (by omega)) (fun p j h1 h2 => by rw [hlo p j h2]; exact rc_c f2 (by omega)) hB.1)
end LWF
