/-! count, type, clearText, fault -/
section LWB
variable {L : Nat} {F G : FF} {h : Nat → Nat} {xs : Nat → Int32}
theorem b_count (hJ : J xs F G h) (x : Int32) : Bo L xs 82 127 [.int x] F G h := by
  have hg := J_gOk hJ
  obtain ⟨e0, e1, e2, e3, e4, e5, e6, e7⟩ := J_e hJ
  rcases ix_node x (n := 8) (by omega) with hx | ⟨k, hk, rfl⟩
  · exact Bo_m0 (o_count0 (d := 0) hx) (g_count0 (d := 0) hx) (by omega) (by omega) rfl hJ
  · have hp := hJ.2.2.1.2.1
    obtain ⟨b1, b2⟩ := edges_eq (F := F) (pa := G 2 1) hp
    refine Bo_m0 (o_count (d := 0) (e := edM F 36) hk (c_edges (d := 0) hp.2.1 (by rw [e0]; exact b1) b2)) (g_count (d := 0) hg hk) (by omega) (by omega) ?_ hJ
    rcases (show k = 0 ∨ k = 1 ∨ k = 2 ∨ k = 3 ∨ k = 4 ∨ k = 5 ∨ k = 6 ∨ k = 7 by omega) with rfl | rfl | rfl | rfl | rfl | rfl | rfl | rfl
    · exact congrArg nI e0
    · rfl
    · exact congrArg nI e1
    · exact congrArg nI e2
    · exact congrArg nI e6
    · exact congrArg nI e3
    · exact congrArg nI e4
    · exact congrArg nI hJ.2.1.symm
/-- the text alone is changed -/
theorem J_text {F2 : FF} (hJ : J xs F G h) (ho : ∀ p j, ¬ p = 51 → ¬ p = 66 → ¬ (p = 1 ∧ j = 4) → ¬ (p = 63 ∧ j = 4) → F2 p j = F p j) (ht : txOk F2) : J xs F2 G h := by
  obtain ⟨j1, j2, j3, j4, j5, j6, j7, j8, j9⟩ := hJ
  have hh := j1.2
  have ha : ∀ p j, ¬ p = 51 → ¬ p = 66 → ¬ p = 1 → ¬ p = 63 → F2 p j = F p j := fun p j h1 h2 h3 h4 => ho p j h1 h2 (by omega) (by omega)
  have e12 : F2 1 2 = F 1 2 := ho 1 2 (by omega) (by omega) (by omega) (by omega)
  have e16 : F2 1 6 = F 1 6 := ho 1 6 (by omega) (by omega) (by omega) (by omega)
  refine ⟨⟨by rw [e12]; exact j1.1, hh⟩, by rw [ho 63 2 (by omega) (by omega) (by omega) (by omega), e12]; exact j2, ?_, fun i hi => ?_, ht, by rw [e16]; exact j6, fun z => ?_, ⟨fun s hs => ?_, ?_⟩, fun j => by rw [ha 0 j (by omega) (by omega) (by omega) (by omega)]; exact j9 j⟩
  · exact Sr_c j3 (fun a b hs => by have : a ≤ 7 := by unfold slF at hs; omega
                                    unfold vw; exact ha _ _ (by omega) (by omega) (by omega) (by omega)) (fun _ _ _ => rfl) (fun j hj => ha 64 j (by omega) (by omega) (by omega) (by omega))
  · rw [e12] at hi
    have hr := h_rng hh (show i < 5 by have := j1.1; omega)
    exact Sr_c (j4 i hi) (fun a b hs => by have : a ≤ 7 := by unfold slF at hs; omega
                                           unfold vw; exact ha _ _ (by omega) (by omega) (by omega) (by omega)) (fun _ _ _ => rfl) (fun j hj => ha 65 _ (by omega) (by omega) (by omega) (by omega))
  · rw [e16] at z
    obtain ⟨g1, Z, g2, g3⟩ := j7 z
    refine ⟨by rw [ha 52 2 (by omega) (by omega) (by omega) (by omega), ha 2 2 (by omega) (by omega) (by omega) (by omega)]; exact g1, Z, ?_, cRes_of g3 (ha 52 8 (by omega) (by omega) (by omega) (by omega)) (fun s => ha 54 s (by omega) (by omega) (by omega) (by omega))⟩
    rw [ha 2 0 (by omega) (by omega) (by omega) (by omega), ha 2 2 (by omega) (by omega) (by omega) (by omega), sit0_c (fun p j _ _ => ha p j (by omega) (by omega) (by omega) (by omega))]; exact g2
  · rw [ha 54 s (by omega) (by omega) (by omega) (by omega), ha 58 s (by omega) (by omega) (by omega) (by omega), ha 62 s (by omega) (by omega) (by omega) (by omega)]; exact j8.1 s hs
  · rw [ha 60 5 (by omega) (by omega) (by omega) (by omega)]; exact j8.2
theorem J_textp {F1 F2 : FF} (hJ : J xs F G h) (ho : ∀ p j, ¬ p = 51 → ¬ p = 66 → ¬ (p = 1 ∧ j = 4) → ¬ (p = 63 ∧ j = 4) → F2 p j = F p j) (ht : txOk F2) (h0 : ∀ j, F1 0 j = F 0 j) : (∀ j, nI (F1 0 j) = xs j) ∧ J xs F2 G h := ⟨fun j => by rw [h0 j]; exact hJ.2.2.2.2.2.2.2.2 j, J_text hJ ho ht⟩
theorem b_type (hJ : J xs F G h) (x : Int32) : Bo L xs 98 151 [.int x] F G h := by
  obtain ⟨t1, t2, t3, t4⟩ := hJ.2.2.2.2.1
  by_cases hx : x < 32 ∨ 126 < x
  · exact Bo_m0 (o_type0 (d := 0) hx) (g_type0 (d := 0) hx) (by omega) (by omega) rfl hJ
  · have h1 : ¬ x < 32 := fun z => hx (Or.inl z)
    have h2 : ¬ 126 < x := fun z => hx (Or.inr z)
    obtain ⟨c, hc, rfl⟩ : ∃ c : Nat, c < 127 ∧ x = nI c := by
      rcases pk_ix x (n := 127) (by omega) with z | z | z
      · exact absurd (Int32.lt_of_lt_of_le z (by decide)) h1
      · exact absurd (Int32.lt_of_lt_of_le (by decide) z) h2
      · exact z
    have hc32 : 32 ≤ c := by
      by_cases z : 32 ≤ c
      · exact z
      · exact absurd (nI_lt (b := 32) (by omega) (by decide)) h1
    by_cases c60 : F 1 4 = 60
    · exact Bo_m0 (o_type3 (d := 0) hc32 (by omega) c60) (g_type3 (d := 0) hc32 (by omega) (by omega)) (by omega) (by omega) rfl hJ
    · have e63 : pq_u (pq_u F 51 (F 1 4) c) 1 4 (F 1 4 + 1) 63 4 = F 63 4 := by rw [pu_off (by decide), pu_off (by decide)]
      have hm := g_type (d := 0) (L := L) (F := pq_u (pq_u F 51 (F 1 4) c) 1 4 (F 1 4 + 1)) (G := G) (h := h) hc32 (show c ≤ 126 by omega) (by rw [e63]; omega)
      rw [e63, t1] at hm
      have e51 : ∀ i, pq_u (pq_u (pq_u (pq_u F 51 (F 1 4) c) 1 4 (F 1 4 + 1)) 66 (F 1 4) c) 63 4 (F 1 4 + 1) 51 i = if i = F 1 4 then c else F 51 i := fun i => by
        rw [pu_off (by decide), pu_off (by decide), pu_off (by decide), pu_at]
        by_cases e : i = F 1 4
        · rw [if_pos ⟨rfl, e⟩, if_pos e]
        · rw [if_neg (fun z => e z.2), if_neg e]
      have e66 : ∀ i, pq_u (pq_u (pq_u (pq_u F 51 (F 1 4) c) 1 4 (F 1 4 + 1)) 66 (F 1 4) c) 63 4 (F 1 4 + 1) 66 i = if i = F 1 4 then c else F 66 i := fun i => by
        rw [pu_off (by decide), pu_at]
        by_cases e : i = F 1 4
        · rw [if_pos ⟨rfl, e⟩, if_pos e]
        · rw [if_neg (fun z => e z.2), if_neg e, pu_off (by decide), pu_off (by decide)]
      refine Bo_mk (o_type (d := 0) hc32 (by omega) (by omega)) hm (by omega) (by omega) rfl (J_textp hJ (fun p j h1 h2 h3 h4 => ?_) ⟨?_, ?_, fun i hi => ?_, fun i hi => ?_⟩ (fun _ => rfl))
      · rw [pu_at, if_neg h4, pu_off h2, pu_at, if_neg h3, pu_off h1]
      · rw [pu_at, if_pos ⟨rfl, rfl⟩, pu_off (by decide), pu_off (by decide), pu_at, if_pos ⟨rfl, rfl⟩]
      · rw [pu_off (by decide), pu_off (by decide), pu_at, if_pos ⟨rfl, rfl⟩]; omega
      · rw [e51, e66]
        refine ⟨?_, ?_⟩
        · split
          · omega
          · exact (t3 i hi).1
        · split
          · omega
          · exact (t3 i hi).2
      · rw [pu_off (by decide), pu_off (by decide), pu_at, if_pos ⟨rfl, rfl⟩] at hi
        rw [e51, e66]
        by_cases e : i = F 1 4
        · rw [if_pos e, if_pos e]
        · rw [if_neg e, if_neg e]
          exact t4 i (by omega)
theorem b_clear (hJ : J xs F G h) : Bo L xs 99 152 [] F G h := by
  obtain ⟨t1, t2, t3, t4⟩ := hJ.2.2.2.2.1
  refine Bo_mk (o_clearText (d := 0)) (g_clearText (d := 0)) (by omega) (by omega) ?_ (J_textp hJ (fun p j h1 h2 h3 h4 => ?_) ⟨?_, ?_, fun i hi => ?_, fun i hi => ?_⟩ (fun _ => rfl))
  · rw [pu_off (by decide), t1]
  · rw [pu_at, if_neg h4, pu_at, if_neg h3]
  · rw [pu_at, if_pos ⟨rfl, rfl⟩, pu_off (by decide), pu_at, if_pos ⟨rfl, rfl⟩]
  · rw [pu_off (by decide), pu_at, if_pos ⟨rfl, rfl⟩]; omega
  · rw [pu_off (by decide), pu_off (by decide), pu_off (by decide), pu_off (by decide)]; exact t3 i hi
  · rw [pu_off (by decide), pu_at, if_pos ⟨rfl, rfl⟩] at hi; omega
/-! fault -/
def seR (n S : Nat) (F1 : FF) : Prop := S < 2 ^ 36 ∧ (∀ a b, a < 6 → b < 6 → (S.testBit (6 * a + b) = true ↔ (F1 73 a).testBit b = true)) ∧ (∀ a, a < 6 → F1 73 a < 64 ∧ (F1 73 a).testBit a = false) ∧ (∀ a b, a < 6 → b < 6 → (F1 73 a).testBit b = (F1 73 b).testBit a) ∧ (∀ a b, a < 6 → (F1 73 a).testBit b = true → a < n ∧ b < n)
theorem wEdge_bit {a b u v : Nat} (ha : a < 6) (hb : b < 6) (hu : u < 6) (hv : v < 6) : (wEdge a b).testBit (6 * u + v) = true ↔ (u = a ∧ v = b) ∨ (u = b ∧ v = a) := by
  unfold wEdge
  rw [Nat.testBit_or, wy_bit, wy_bit, Bool.or_eq_true, decide_eq_true_eq, decide_eq_true_eq]
  omega
theorem or1_bit {x v i : Nat} : (x ||| 1 <<< v).testBit i = true ↔ x.testBit i = true ∨ i = v := by
  rw [Nat.testBit_or, zb_one, Bool.or_eq_true, decide_eq_true_eq]
  constructor
  · rintro (z | z)
    · exact Or.inl z
    · exact Or.inr z.symm
  · rintro (z | z)
    · exact Or.inl z
    · exact Or.inr z.symm
theorem seM_bit {F1 : FF} {A B u v : Nat} (hAB : ¬ A = B) : (seM F1 A B 73 u).testBit v = true ↔ (F1 73 u).testBit v = true ∨ (u = A ∧ v = B) ∨ (u = B ∧ v = A) := by
  unfold seM
  rw [pu_at]
  by_cases c : u = B
  · subst c
    rw [if_pos ⟨rfl, rfl⟩, or1_bit]
    constructor
    · rintro (z | z)
      · exact Or.inl z
      · exact Or.inr (Or.inr ⟨rfl, z⟩)
    · rintro (z | z | z)
      · exact Or.inl z
      · exact absurd z.1.symm hAB
      · exact Or.inr z.2
  · rw [if_neg (fun z => c z.2), pu_at]
    by_cases c2 : u = A
    · subst c2
      rw [if_pos ⟨rfl, rfl⟩, or1_bit]
      constructor
      · rintro (z | z)
        · exact Or.inl z
        · exact Or.inr (Or.inl ⟨rfl, z⟩)
      · rintro (z | z | z)
        · exact Or.inl z
        · exact Or.inr z.2
        · exact absurd z.1 c
    · rw [if_neg (fun z => c2 z.2)]
      constructor
      · intro z; exact Or.inl z
      · rintro (z | z | z)
        · exact z
        · exact absurd z.1 c2
        · exact absurd z.1 c
theorem seR_s {n S A B : Nat} {F1 : FF} (hR : seR n S F1) (hn : n ≤ 6) (hA : A < n) (hB : B < n) (hAB : ¬ A = B) : seR n (S ||| wEdge A B) (seM F1 A B) := by
  obtain ⟨r1, r2, r3, r4, r5⟩ := hR
  refine ⟨Nat.or_lt_two_pow r1 (wEdge_lt (by omega) (by omega)), fun a b ha hb => ?_, fun a ha => ⟨?_, ?_⟩, fun a b ha hb => ?_, fun a b ha hb => ?_⟩
  · rw [Nat.testBit_or, Bool.or_eq_true, r2 a b ha hb, wEdge_bit (by omega) (by omega) ha hb, seM_bit hAB]
  · apply zb_bound (k := 6)
    intro i hi
    cases hh : (seM F1 A B 73 a).testBit i with
    | false => rfl
    | true =>
      rcases (seM_bit hAB).mp hh with z | z | z
      · rw [zb_lt (show F1 73 a < 2 ^ 6 from (r3 a ha).1) hi] at z; cases z
      · omega
      · omega
  · cases hh : (seM F1 A B 73 a).testBit a with
    | false => rfl
    | true =>
      rcases (seM_bit hAB).mp hh with z | z | z
      · rw [(r3 a ha).2] at z; cases z
      · omega
      · omega
  · have key : ∀ a b, a < 6 → b < 6 → (seM F1 A B 73 a).testBit b = true → (seM F1 A B 73 b).testBit a = true := by
      intro a b ha hb hh
      rw [seM_bit hAB] at hh ⊢
      rcases hh with z | z | z
      · exact Or.inl (by rw [← r4 a b ha hb]; exact z)
      · exact Or.inr (Or.inr ⟨z.2, z.1⟩)
      · exact Or.inr (Or.inl ⟨z.2, z.1⟩)
    cases h1 : (seM F1 A B 73 a).testBit b with
    | true => exact (key a b ha hb h1).symm
    | false =>
      cases h2 : (seM F1 A B 73 b).testBit a with
      | false => rfl
      | true => rw [key b a hb ha h2] at h1; cases h1
  · rcases (seM_bit hAB).mp hb with z | z | z
    · exact r5 a b ha z
    · omega
    · omega
theorem flt_eq (hn : F 2 0 = F 64 0) (hn6 : F 64 0 ≤ 6) (ht : txOk F) : ∀ m s S (F1 : FF), s ≤ 64 → (∀ p j, ¬ p = 73 → F1 p j = F p j) → seR (F 64 0) S F1 → fltI F m s S = (fltM m s F1).1 ∧ (∀ p j, ¬ p = 73 → (fltM m s F1).2 p j = F p j) ∧ (fltI F m s S = -4 → seR (F 64 0) (txE F m s S) (fltM m s F1).2) := by
  obtain ⟨t1, t2, t3, t4⟩ := ht
  intro m
  induction m with
  | zero => intro s S F1 hs ho hR; exact ⟨rfl, ho, fun _ => hR⟩
  | succ m ih =>
    intro s S F1 hs ho hR
    have e4 : F1 63 4 = F 1 4 := by rw [ho 63 4 (by decide)]; exact t1
    have e0 : F1 64 0 = F 64 0 := ho 64 0 (by decide)
    unfold fltI fltM txE
    rw [e4]
    by_cases c : s < F 1 4
    case neg =>
      rw [if_neg c, if_neg c, if_neg c]
      exact ⟨rfl, ho, fun _ => hR⟩
    rw [if_pos c, if_pos c, if_pos c]
    have hlt : ∀ k, k < F 1 4 → ltM F1 k = F 51 k := fun k hk => by
      unfold ltM
      rw [e4, if_pos hk, ho 66 k (by decide)]; exact (t4 k hk).symm
    have hne : ¬ nI s = -4 := fun z => by
      rw [show (-4 : Int32) = nI 4294967292 by decide] at z
      have := (zi_eq (by omega) (by decide)).mp z
      omega
    have hiff : edC F s ↔ mEd F1 s := by
      constructor
      · rintro ⟨z0, z1, z2, z3, z4, z5⟩
        unfold mEd ndM
        rw [hlt s (by omega), hlt (s + 1) (by omega), hlt (s + 2) (by omega), hlt (s + 3) (by omega), e0, ← hn]
        exact ⟨z1, z4, z2, z3, z5⟩
      · intro z
        have h3 : s + 3 < F 1 4 := by
          by_cases y : s + 3 < F 1 4
          · exact y
          · have := z.2.2.2.2
            unfold ltM at this
            rw [e4, if_neg y] at this
            exact absurd this (by decide)
        unfold mEd ndM at z
        rw [hlt s (by omega), hlt (s + 1) (by omega), hlt (s + 2) (by omega), hlt (s + 3) (by omega), e0, ← hn] at z
        exact ⟨by omega, z.1, z.2.2.1, z.2.2.2.1, z.2.1, z.2.2.2.2⟩
    by_cases hE : edC F s
    case neg =>
      rw [edF_0 hE, if_pos (Or.inl rfl), if_neg (fun z => hE (hiff.mpr z.1))]
      exact ⟨rfl, ho, fun z => absurd z hne⟩
    have hM := hiff.mp hE
    rw [edF_1 hE]
    obtain ⟨z0, z1, z2, z3, z4, z5⟩ := hE
    have eA : ltM F1 s - 48 = F 51 s - 48 := by rw [hlt s (by omega)]
    have eB : ltM F1 (s + 2) - 48 = F 51 (s + 2) - 48 := by rw [hlt (s + 2) (by omega)]
    generalize hA : F 51 s - 48 = A at eA ⊢
    generalize hB : F 51 (s + 2) - 48 = B at eB ⊢
    have hA6 : A < F 64 0 := by omega
    have hB6 : B < F 64 0 := by omega
    have hAB : ¬ A = B := by omega
    have hw0 : ¬ wEdge A B = 0 := fun z => by
      have := (wEdge_bit (a := A) (b := B) (by omega) (by omega) (show A < 6 by omega) (show B < 6 by omega)).mpr (Or.inl ⟨rfl, rfl⟩)
      rw [z, Nat.zero_testBit] at this
      cases this
    have hS : S &&& wEdge A B = 0 ↔ (F1 73 A).testBit B = false := by
      constructor
      · intro z
        cases hh : (F1 73 A).testBit B with
        | false => rfl
        | true =>
          have h1 := (hR.2.1 A B (by omega) (by omega)).mpr hh
          have h2 := (wEdge_bit (a := A) (b := B) (by omega) (by omega) (show A < 6 by omega) (show B < 6 by omega)).mpr (Or.inl ⟨rfl, rfl⟩)
          have h3 : (S &&& wEdge A B).testBit (6 * A + B) = true := by rw [Nat.testBit_and, h1, h2]; rfl
          rw [z, Nat.zero_testBit] at h3
          cases h3
      · intro z
        apply bit_ext
        intro i
        rw [Nat.zero_testBit]
        refine ⟨fun y => ?_, (fun y => nomatch y)⟩
        rw [Nat.testBit_and, Bool.and_eq_true] at y
        exfalso
        have hi : i < 36 := by
          by_cases q : i < 36
          · exact q
          · rw [zb_lt hR.1 (by omega)] at y; exact absurd y.1 (by decide)
        have ei : i = 6 * (i / 6) + i % 6 := by omega
        rw [ei] at y
        rcases (wEdge_bit (a := A) (b := B) (by omega) (by omega) (show i / 6 < 6 by omega) (show i % 6 < 6 by omega)).mp y.2 with q | q
        · have := (hR.2.1 (i / 6) (i % 6) (by omega) (by omega)).mp y.1
          rw [q.1, q.2, z] at this; cases this
        · have := (hR.2.1 (i / 6) (i % 6) (by omega) (by omega)).mp y.1
          rw [q.1, q.2, hR.2.2.2.1 B A (by omega) (by omega), z] at this; cases this
    by_cases hs2 : (F1 73 A).testBit B = false
    · rw [if_neg (fun z => z.elim hw0 (fun y => y (hS.mpr hs2))), if_pos ⟨hM, by rw [eA, eB]; exact hs2⟩, eA, eB]
      exact ih (s + 4) (S ||| wEdge A B) (seM F1 A B) (by omega) (fun p j hp => by unfold seM; rw [pu_off hp, pu_off hp]; exact ho p j hp) (seR_s hR hn6 hA6 hB6 hAB)
    · rw [if_pos (Or.inr (fun y => hs2 (hS.mp y))), if_neg (fun z => hs2 (by rw [← eA, ← eB]; exact z.2))]
      exact ⟨rfl, ho, fun z => absurd z hne⟩
theorem seR_0 {n : Nat} : seR n 0 (ze F 6) := by
  have e : ∀ a, a < 6 → ze F 6 73 a = 0 := fun a ha => by unfold ze; rw [if_pos ⟨rfl, ha⟩]
  refine ⟨by decide, fun a b ha hb => by rw [e a ha, Nat.zero_testBit, Nat.zero_testBit], fun a ha => by rw [e a ha, Nat.zero_testBit]; exact ⟨by decide, rfl⟩, fun a b ha hb => by rw [e a ha, e b hb, Nat.zero_testBit, Nat.zero_testBit], fun a b ha hb => by rw [e a ha, Nat.zero_testBit] at hb; cases hb⟩
theorem ze_off {p j : Nat} (hp : ¬ p = 73) : ze F 6 p j = F p j := by unfold ze; rw [if_neg (fun z => hp z.1)]
theorem b_fault (hJ : J xs F G h) : Bo L xs 69 153 [] F G h := by
  have hg := J_gOk hJ
  obtain ⟨e0, e1, e2, e3, e4, e5, e6, e7⟩ := J_e hJ
  have ht := hJ.2.2.2.2.1
  obtain ⟨f1, f2, f3⟩ := flt_eq e0 hg.2.1 ht 16 0 0 (ze F 6) (by omega) (fun p j hp => ze_off hp) seR_0
  have h2 := hg.1
  exact Bo_mk (o_fault (d := 0) (by rw [e0]; exact hg.2.1) ht.2.1 (fun i hi => (ht.2.2.1 i hi).1)) (g_fault (d := 0) (by omega) hg.2.1 (by rw [ht.1]; exact ht.2.1) (fun i hi => (ht.2.2.1 i hi).2)) (by omega) (by omega) f1 (J_scrp hJ (fun p j hp => f2 p j (by omega)))
end LWB

