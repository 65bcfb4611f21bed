/-! the law's calls that change: leave, order, flee, setNews, release, reset -/
def up1 (d : Nat → Nat) (k v : Nat) : Nat → Nat := fun j => if j = k then v else d j
theorem up1_s (d : Nat → Nat) (k v : Nat) : up1 d k v k = v := if_pos rfl
theorem up1_o {d : Nat → Nat} {k v j : Nat} (h : ¬ j = k) : up1 d k v j = d j := if_neg h
section LWC
variable {L : Nat} {F G : FF} {h : Nat → Nat} {xs : Nat → Int32}
theorem gOk_hi {F1 : FF} (hg : gOk F) (hh : ∀ p j, 63 ≤ p → F1 p j = F p j) : gOk F1 := gOk_of hg (fun j => hh 64 j (by omega)) (by rw [hh 63 2 (by omega)]; exact hg.2.2.2.2.2.2.2.2.2.2.2.2.2.2.2.2.2.2.2)
theorem rm_lo (hJ : J xs F G h) {a b : Nat} (ha : a ≤ 7) : rmF F h (2 + a) b = F (2 + a) b := rmF_off hJ.1 (Or.inl (by omega)) (by omega)
theorem rmG_lo (hJ : J xs F G h) {a b : Nat} (ha : a ≤ 7) : rmG F G h (2 + a) b = G (2 + a) b := rmG_off hJ.1 (Or.inl (by omega))
theorem rm_hi (hJ : J xs F G h) {p j : Nat} (hp : 51 ≤ p) : rmF F h p j = F p j := rmF_off hJ.1 (Or.inr hp) (by omega)
theorem slF_le {i k : Nat} (h : slF i k) : i ≤ 7 := by unfold slF at h; omega
theorem slG_le {i k : Nat} (h : slG i k) : i ≤ 7 := by unfold slG at h; omega
theorem b_leave (hJ : J xs F G h) : Bo L xs 73 112 [] F G h := by
  have hg := J_gOk hJ
  have hn := J_nOk hJ
  obtain ⟨e0, e1, e2, e3, e4, e5, e6, e7⟩ := J_e hJ
  by_cases h0 : F 64 1 = 0
  · exact Bo_m0 (o_leave0 (d := 0) (by omega)) (g_leave0 (d := 0) h0) (by omega) (by omega) rfl hJ
  · have hF1 : ∀ p j, 63 ≤ p → pq_u (rmF F h) 2 2 (F 2 2 - 1) p j = F p j := fun p j hp => by rw [pu_off (by omega)]; exact rm_hi hJ (by omega)
    have hm := g_leave (d := 0) (L := L) (G := rmG F G h) (h := rmH F h) (gOk_hi hg hF1) (by rw [hF1 64 1 (by omega)]; omega)
    rw [hF1 64 1 (by omega)] at hm
    refine Bo_mk (o_leave (d := 0) hJ.1 hn (by omega)) hm (by omega) (by omega) (by rw [e1]) (J_opp hJ (fun p j hp => pu_off (by omega)) (fun _ _ _ => rfl) (fun p j h1 h2 => pu_off h2) ?_)
    have hS := S_leave (c' := pq_u (vw F 2) 0 2 (F 64 1 - 1)) (d' := up1 (F 64) 1 (F 64 1 - 1)) hJ.2.2.1 (by omega) (fun i k hk => by rw [pu_at, if_neg hk]) (by rw [pu_at, if_pos ⟨rfl, rfl⟩]) (fun j hj => up1_o hj) (up1_s _ _ _)
    refine Sr_c hS (fun a b hs => ?_) (fun a b hs => ?_) (fun j hj => ?_)
    · have := slF_le hs
      unfold vw
      rw [pu_off (by omega), rc_off (by omega) (by omega), pu_at, pu_at]
      by_cases z : a = 0 ∧ b = 2
      · rw [if_pos (by omega), if_pos z, e1]
      · rw [if_neg (by omega), if_neg z]; exact rm_lo hJ this
    · have := slG_le hs
      unfold vw; exact rmG_lo hJ this
    · rw [pu_at]
      by_cases z : j = 1
      · rw [if_pos ⟨rfl, z⟩, z, up1_s]
      · rw [if_neg (fun y => z y.2), up1_o z, rc64]; exact hF1 64 j (by omega)
theorem way_iff {n pa p v : Nat} {gr : Nat → Nat} (hp : pR n pa gr) (hpp : p < 6) (hv : v < n) : pa.testBit (6 * p + v) = true ↔ p = v ∨ (gr p).testBit v = true := by
  have h6 := hp.1
  rw [hp.2.2.1 p v hpp (by omega)]
  constructor
  · rintro (z | z)
    · exact Or.inl z.1
    · exact Or.inr z
  · rintro (z | z)
    · exact Or.inl ⟨z, by omega⟩
    · exact Or.inr z
theorem b_order (hJ : J xs F G h) (x y : Int32) : Bo L xs 74 113 [.int x, .int y] F G h := by
  have hg := J_gOk hJ
  have hn := J_nOk hJ
  obtain ⟨e0, e1, e2, e3, e4, e5, e6, e7⟩ := J_e hJ
  have h3 := hg.2.2.1
  have h6 := hg.2.1
  rcases ix_node x (n := F 64 1) (by omega) with hx | ⟨k, hk, rfl⟩
  · exact Bo_m0 (o_order0 (d := 0) (by rw [e1]; exact hx)) (g_order0 (d := 0) hg hx) (by omega) (by omega) rfl hJ
  rcases ix_node y (n := F 64 0) (by omega) with hy | ⟨v, hv, rfl⟩
  · exact Bo_m0 (o_order1 (d := 0) hn.2.1 (by omega) (by rw [e0]; exact hy)) (g_order1 (d := 0) hg hk hy) (by omega) (by omega) rfl hJ
  have hp := hJ.2.2.1.2.1
  obtain ⟨s1, s2⟩ := hJ.2.2.1.2.2.1.2.1 k hk
  have s1 : F 3 k = F 64 (11 + k) := s1
  have s2 : F 4 k = F 64 (14 + k) := s2
  have h11 := hg.2.2.2.2.2.2.2.1 k (by omega)
  have hw := way_iff (pa := G 2 1) hp h11 hv
  by_cases c : (G 2 1).testBit (6 * F 3 k + v) = true
  · have hF1 : ∀ p j, 63 ≤ p → pq_u (rmF F h) 4 k v p j = F p j := fun p j hp => by rw [pu_off (by omega)]; exact rm_hi hJ (by omega)
    have hway : wayM F (F 64 (11 + k)) v := hw.mp (by rw [← s1]; exact c)
    have hm := g_order (d := 0) (L := L) (G := rmG F G h) (h := rmH F h) (F := pq_u (rmF F h) 4 k v) (k := k) (v := v) (gOk_hi hg hF1) (by rw [hF1 64 1 (by omega)]; exact hk) (by rw [hF1 64 0 (by omega)]; exact hv) (by unfold wayM; rw [hF1 64 (11 + k) (by omega), hF1 64 _ (by omega)]; exact hway)
    rw [hF1 64 (14 + k) (by omega)] at hm
    refine Bo_mk (o_order (d := 0) hJ.1 hn (by omega) (by omega) c) hm (by omega) (by omega) (by rw [s2]) (J_opp hJ (fun p j hp => pu_off (by omega)) (fun _ _ _ => rfl) (fun p j h1 h2 => pu_off h2) ?_)
    have hS := S_order (c' := pq_u (vw F 2) 2 k v) (d' := up1 (F 64) (14 + k) v) hJ.2.2.1 hk (by omega) hway (fun i k hk => by rw [pu_at, if_neg hk]) (by rw [pu_at, if_pos ⟨rfl, rfl⟩]) (fun j hj => up1_o hj) (up1_s _ _ _)
    refine Sr_c hS (fun a b hs => ?_) (fun a b hs => ?_) (fun j hj => ?_)
    · have := slF_le hs
      unfold vw
      rw [pu_off (by omega), rc_off (by omega) (by omega), pu_at, pu_at]
      by_cases z : a = 2 ∧ b = k
      · rw [if_pos (by omega), if_pos z]
      · rw [if_neg (by omega), if_neg z]; exact rm_lo hJ this
    · have := slG_le hs
      unfold vw; exact rmG_lo hJ this
    · rw [pu_at]
      by_cases z : j = 14 + k
      · rw [if_pos ⟨rfl, z⟩, z, up1_s]
      · rw [if_neg (fun y => z y.2), up1_o z, rc64]; exact hF1 64 j (by omega)
  · have hway : ¬ wayM F (F 64 (11 + k)) v := fun z => c (by rw [s1]; exact hw.mpr z)
    exact Bo_m0 (o_order2 (d := 0) hn (by omega) (by omega) (by simpa using c)) (g_order2 (d := 0) hg hk hv hway) (by omega) (by omega) rfl hJ
theorem J_ev (hJ : J xs F G h) (z : F 64 17 = 1) : F 8 1 = F 64 18 ∧ F 8 2 = F 64 19 ∧ F 8 3 = F 64 20 ∧ F 8 4 = F 64 21 ∧ F 8 5 = F 64 22 := by
  obtain ⟨b1, b2, b3, b4, b5, _⟩ := hJ.2.2.1.2.2.2.2.2.2.2.2.2.2.2.2.2.2.2.2.2.2.1 z
  exact ⟨b1, b2, b3, b4, b5⟩
theorem J_free (hJ : J xs F G h) : ¬ (F 8 0 = 0 ∨ F 8 3 ≠ 0) ↔ F 64 17 = 1 ∧ F 64 20 = 0 := by
  have hg := J_gOk hJ
  have h17 := hg.2.2.2.2.2.2.2.2.2.1
  have e7 := (J_e hJ).2.2.2.2.2.2.2
  by_cases z : F 64 17 = 1
  · have := (J_ev hJ z).2.2.1
    omega
  · omega
theorem b_flee (hJ : J xs F G h) (x : Int32) : Bo L xs 86 132 [.int x] F G h := by
  have hg := J_gOk hJ
  have hn := J_nOk hJ
  obtain ⟨e0, e1, e2, e3, e4, e5, e6, e7⟩ := J_e hJ
  have h6 := hg.2.1
  rcases ix_node x (n := F 64 0) (by omega) with hx | ⟨v, hv, rfl⟩
  · exact Bo_m0 (o_flee0 (d := 0) (by rw [e0]; exact hx)) (g_flee0 (d := 0) hg hx) (by omega) (by omega) rfl hJ
  have hp := hJ.2.2.1.2.1
  have h18 := hg.2.2.2.2.2.2.2.2.2.2.1
  have h20 := hg.2.2.2.2.2.2.2.2.2.2.2.2.1
  have hfr := J_free hJ
  by_cases hf : F 64 17 = 1 ∧ F 64 20 = 0
  case neg =>
    refine Bo_m0 (o_flee2 (d := 0) hn (by omega) (Or.inl ?_)) (g_flee2 (d := 0) hg hv ?_) (by omega) (by omega) rfl hJ
    · by_cases z : F 8 0 = 0 ∨ F 8 3 ≠ 0
      · exact z
      · exact absurd (hfr.mp z) hf
    · have := hg.2.2.2.2.2.2.2.2.2.1
      omega
  obtain ⟨b1, b2, b3, b4, b5⟩ := J_ev hJ hf.1
  have hw := way_iff (pa := G 2 1) hp h18 hv
  by_cases c : (G 2 1).testBit (6 * F 8 1 + v) = true
  · have hway : wayM F (F 64 18) v := hw.mp (by rw [← b1]; exact c)
    have hF1 : ∀ p j, 63 ≤ p → pq_u (rmF F h) 8 2 v p j = F p j := fun p j hp => by rw [pu_off (by omega)]; exact rm_hi hJ (by omega)
    have hm := g_flee (d := 0) (L := L) (G := rmG F G h) (h := rmH F h) (F := pq_u (rmF F h) 8 2 v) (v := v) (gOk_hi hg hF1) (by rw [hF1 64 0 (by omega)]; exact hv) (by rw [hF1 64 17 (by omega)]; omega) (by rw [hF1 64 20 (by omega)]; omega) (by unfold wayM; rw [hF1 64 18 (by omega), hF1 64 _ (by omega)]; exact hway)
    rw [hF1 64 19 (by omega)] at hm
    refine Bo_mk (o_flee (d := 0) hJ.1 hn (by omega) (hfr.mpr hf) c) hm (by omega) (by omega) (by rw [b2]) (J_opp hJ (fun p j hp => pu_off (by omega)) (fun _ _ _ => rfl) (fun p j h1 h2 => pu_off h2) ?_)
    have hS := S_flee (v := v) (c' := pq_u (vw F 2) 6 2 v) (d' := up1 (F 64) 19 v) hJ.2.2.1 (by omega) hf.1 hf.2 (by rw [← b1]; exact c) (fun i k hk => by rw [pu_at, if_neg hk]) (by rw [pu_at, if_pos ⟨rfl, rfl⟩]) (fun j hj => up1_o hj) (up1_s _ _ _)
    refine Sr_c hS (fun a b hs => ?_) (fun a b hs => ?_) (fun j hj => ?_)
    · have := slF_le hs
      unfold vw
      rw [pu_off (by omega), rc_off (by omega) (by omega), pu_at, pu_at]
      by_cases z : a = 6 ∧ b = 2
      · rw [if_pos (by omega), if_pos z]
      · rw [if_neg (by omega), if_neg z]; exact rm_lo hJ this
    · have := slG_le hs
      unfold vw; exact rmG_lo hJ this
    · rw [pu_at]
      by_cases z : j = 19
      · rw [if_pos ⟨rfl, z⟩, z, up1_s]
      · rw [if_neg (fun y => z y.2), up1_o z, rc64]; exact hF1 64 j (by omega)
  · have hway : ¬ wayM F (F 64 18) v := fun z => c (by rw [b1]; exact hw.mpr z)
    exact Bo_m0 (o_flee2 (d := 0) hn (by omega) (Or.inr (by simpa using c))) (g_flee2 (d := 0) hg hv (Or.inr (Or.inr hway))) (by omega) (by omega) rfl hJ
theorem b_setNews (hJ : J xs F G h) (x y : Int32) : Bo L xs 87 133 [.int x, .int y] F G h := by
  have hg := J_gOk hJ
  have hn := J_nOk hJ
  obtain ⟨e0, e1, e2, e3, e4, e5, e6, e7⟩ := J_e hJ
  rcases ix_node x (n := 10) (by omega) with hx | ⟨p, hp, rfl⟩
  · have hx2 : x < 0 ∨ nI 9 < x := hx.imp id (fun z => Int32.lt_of_lt_of_le (by decide) z)
    exact Bo_m0 (o_setNews0 (d := 0) (by rcases hx2 with z | z; exact Or.inl z; exact Or.inr (Or.inl z))) (g_setNews0 (d := 0) hx2) (by omega) (by omega) rfl hJ
  rcases ix_node y (n := 8) (by omega) with hy | ⟨q, hq, rfl⟩
  · have hy2 : y < 0 ∨ nI 7 < y := hy.imp id (fun z => Int32.lt_of_lt_of_le (by decide) z)
    exact Bo_m0 (o_setNews0 (d := 0) (Or.inr (Or.inr hy2))) (g_setNews1 (d := 0) (by omega) hy2) (by omega) (by omega) rfl hJ
  have hF1 : ∀ p' j, 63 ≤ p' → pq_u (pq_u (rmF F h) 2 6 p) 2 7 q p' j = F p' j := fun p' j hp => by rw [pu_off (by omega), pu_off (by omega)]; exact rm_hi hJ (by omega)
  have hm := g_setNews (d := 0) (L := L) (G := rmG F G h) (h := rmH F h) (F := pq_u (pq_u (rmF F h) 2 6 p) 2 7 q) (p := p) (q := q) (gOk_hi hg hF1) (by omega) (by omega)
  rw [hF1 64 3 (by omega), hF1 64 4 (by omega)] at hm
  refine Bo_mk (o_setNews (d := 0) hJ.1 hn (by omega) (by omega)) hm (by omega) (by omega) (by rw [e3, e4]) (J_opp (F1 := pq_u (pq_u (rmF F h) 2 6 p) 2 7 q) hJ (fun p j hp => by rw [pu_off (by omega), pu_off (by omega)]) (fun _ _ _ => rfl) (fun p j h1 h2 => by rw [pu_off h2, pu_off h2]) ?_)
  have hS := S_news (p := p) (q := q) (c' := pq_u (pq_u (vw F 2) 0 6 p) 0 7 q) (d' := up1 (up1 (F 64) 3 p) 4 q) hJ.2.2.1 (by omega) (by omega) (fun i k hk => by rw [pu_at, if_neg (by omega), pu_at, if_neg (by omega)]) (by rw [pu_at, if_neg (by omega), pu_at, if_pos ⟨rfl, rfl⟩]) (by rw [pu_at, if_pos ⟨rfl, rfl⟩]) (fun j h1 h2 => by rw [up1_o h2, up1_o h1]) (by rw [up1_o (by omega), up1_s]) (up1_s _ _ _)
  refine Sr_c hS (fun a b hs => ?_) (fun a b hs => ?_) (fun j hj => ?_)
  · have := slF_le hs
    unfold vw
    rw [pu_off (by omega), pu_off (by omega), rc_off (by omega) (by omega), pu_at, pu_at, pu_at, pu_at]
    by_cases z : a = 0 ∧ b = 7
    · rw [if_pos (by omega), if_pos z]
    · rw [if_neg (by omega), if_neg z]
      by_cases z2 : a = 0 ∧ b = 6
      · rw [if_pos (by omega), if_pos z2]
      · rw [if_neg (by omega), if_neg z2]; exact rm_lo hJ this
  · have := slG_le hs
    unfold vw; exact rmG_lo hJ this
  · rw [pu_at]
    by_cases z : j = 4
    · rw [if_pos ⟨rfl, z⟩, z, up1_s]
    · rw [if_neg (fun y => z y.2), up1_o z, pu_at]
      by_cases z2 : j = 3
      · rw [if_pos ⟨rfl, z2⟩, z2, up1_s]
      · rw [if_neg (fun y => z2 y.2), up1_o z2, rc64]; exact hF1 64 j (by omega)
/-! beliefs made anew -/
theorem all_bit (n i : Nat) : (1 <<< n - 1).testBit i = decide (i < n) := by rw [Nat.one_shiftLeft, Nat.testBit_two_pow_sub_one]
theorem occ_bit : ∀ K i, (occ F K).testBit i = true ↔ ∃ k, k < K ∧ F 3 k = i := by
  intro K
  induction K with
  | zero => intro i; show (Nat.testBit 0 i = true) ↔ _; rw [Nat.zero_testBit]; constructor
            · intro z; cases z
            · rintro ⟨k, hk, _⟩; omega
  | succ K ih =>
    intro i
    unfold occ
    rw [or1_bit, ih]
    constructor
    · rintro (⟨k, hk, z⟩ | z)
      · exact ⟨k, by omega, z⟩
      · exact ⟨K, by omega, z.symm⟩
    · rintro ⟨k, hk, z⟩
      by_cases e : k = K
      · subst e; exact Or.inr z.symm
      · exact Or.inl ⟨k, by omega, z⟩
theorem stM_bit {Fm : FF} : ∀ K i, (stM Fm K).testBit i = true ↔ i < Fm 64 0 ∧ ∀ k, k < K → ¬ i = Fm 64 (11 + k) := by
  intro K
  induction K with
  | zero =>
    intro i
    unfold stM
    rw [all_bit, decide_eq_true_eq]
    exact ⟨fun z => ⟨z, fun k hk => absurd hk (Nat.not_lt_zero _)⟩, fun z => z.1⟩
  | succ K ih =>
    intro i
    unfold stM
    rw [an1_bit, ih]
    constructor
    · rintro ⟨⟨z1, z2⟩, z3⟩
      refine ⟨z1, fun k hk => ?_⟩
      by_cases e : k = K
      · subst e; exact z3
      · exact z2 k (by omega)
    · rintro ⟨z1, z2⟩
      exact ⟨⟨z1, fun k hk => z2 k (by omega)⟩, z2 K (by omega)⟩
theorem beg_eq {Fc Fm : FF} {n K : Nat} (hn : Fm 64 0 = n) (hk : ∀ k, k < K → Fc 3 k = Fm 64 (11 + k)) : an (1 <<< n - 1) (occ Fc K) = stM Fm K := by
  apply bit_ext
  intro i
  rw [an_bit, all_bit, stM_bit, Bool.and_eq_true, decide_eq_true_eq, Bool.not_eq_true', hn]
  constructor
  · rintro ⟨z1, z2⟩
    refine ⟨z1, fun k hk2 e => ?_⟩
    rw [(occ_bit K i).mpr ⟨k, hk2, by rw [hk k hk2]; exact e.symm⟩] at z2
    cases z2
  · rintro ⟨z1, z2⟩
    refine ⟨z1, ?_⟩
    cases hh : (occ Fc K).testBit i with
    | false => rfl
    | true =>
      obtain ⟨k, hk2, e⟩ := (occ_bit K i).mp hh
      exact absurd (by rw [← hk k hk2]; exact e.symm) (z2 k hk2)
theorem stM_lt {Fm : FF} {K : Nat} (h6 : Fm 64 0 ≤ 6) : stM Fm K < 64 := by
  apply zb_bound (k := 6)
  intro i hi
  cases hh : (stM Fm K).testBit i with
  | false => rfl
  | true => have := ((stM_bit K i).mp hh).1; omega
/-- made anew on both sides: from what holds before -/
theorem S_begF {Fc Gc Fm F2 G2 : FF} (a : SA (vw Fc 2) (Fm 64)) (p : pRd (vw Gc 2) (Fm 64)) (s : SC (vw Fc 2) (Fm 64)) (f : SEb (vw Fc 2) (vw Gc 2) (Fm 64)) (h4 : ∀ i, i < 8 → Fc 6 i < 64) (h5 : ∀ i, i < 8 → Gc 7 i < 2 ^ 63)
    (hF : ∀ a b, a ≤ 7 → F2 (2 + a) b = bgF Fc (2 + a) b) (hG : ∀ a b, a ≤ 7 → G2 (2 + a) b = Gc (2 + a) b) (hD : ∀ j, F2 64 j = bgM Fm 64 j) : Sr (vw F2 2) (vw G2 2) (F2 64) ∧ bgF Fc 6 (Fc 2 5 % 8) = bgM Fm 64 24 := by
  have e0 : Fc 2 0 = Fm 64 0 := a.1
  have e2 : Fc 2 2 = Fm 64 1 := a.2.2.2.1
  have e5 : Fc 2 5 = Fm 64 2 := a.2.2.2.2.2.1
  have h6 := a.2.2.1
  have eb : an (1 <<< Fc 2 0 - 1) (occ Fc (Fc 2 2)) = stM Fm (Fm 64 1) := by
    rw [e0, e2]
    exact beg_eq rfl (fun k hk => (s.2.1 k hk).1)
  have hS := S_beg (c' := pq_u (pq_u (pq_u (vw Fc 2) 3 2 (Fm 64 2)) 3 3 1) 4 (Fm 64 2 % 8) (stM Fm (Fm 64 1))) (d' := up1 (up1 (up1 (Fm 64) 23 1) 24 (stM Fm (Fm 64 1))) 25 (if Fm 64 17 = 1 then Fm 64 18 else N1)) (b := stM Fm (Fm 64 1)) a p s f h4 h5 (stM_lt h6) (fun k hk => by
      cases hh : (stM Fm (Fm 64 1)).testBit (Fm 64 (11 + k)) with
      | false => rfl
      | true => exact absurd rfl (((stM_bit _ _).mp hh).2 k hk)) (fun v hv => ((stM_bit _ _).mp hv).1)
    (fun i k h3 h4 => by rw [pu_at, if_neg h4, pu_at, if_neg (by omega), pu_at, if_neg (by omega)]) (by rw [pu_at, if_neg (by omega), pu_at, if_neg (by omega), pu_at, if_pos ⟨rfl, rfl⟩]) (by rw [pu_at, if_neg (by omega), pu_at, if_pos ⟨rfl, rfl⟩]) (by rw [pu_at, if_pos ⟨rfl, rfl⟩]) (fun j h1 h2 h3 => by rw [up1_o h3, up1_o h2, up1_o h1]) (by rw [up1_o (by omega), up1_o (by omega), up1_s]) (by rw [up1_o (by omega), up1_s]) (up1_s _ _ _)
  refine ⟨Sr_c hS (fun x b hs => ?_) (fun x b hs => ?_) (fun j hj => ?_), ?_⟩
  · have := slF_le hs
    show F2 (2 + x) b = _
    rw [hF x b this]
    unfold bgF
    rw [pu_at, pu_at, pu_at, pu_at, pu_at, pu_at, e5, eb]
    by_cases z : x = 4 ∧ b = Fm 64 2 % 8
    · rw [if_pos (by omega), if_pos z]
    · rw [if_neg (by omega), if_neg z]
      by_cases z2 : x = 3 ∧ b = 3
      · rw [if_pos (by omega), if_pos z2]
      · rw [if_neg (by omega), if_neg z2]
        by_cases z3 : x = 3 ∧ b = 2
        · rw [if_pos (by omega), if_pos z3]
        · rw [if_neg (by omega), if_neg z3]; rfl
  · exact hG x b (slG_le hs)
  · rw [hD j]
    unfold bgM
    rw [pu_at, pu_at, pu_at]
    by_cases z : j = 25
    · rw [if_pos ⟨rfl, z⟩, z, up1_s]
    · rw [if_neg (fun y => z y.2), up1_o z]
      by_cases z2 : j = 24
      · rw [if_pos ⟨rfl, z2⟩, z2, up1_s]
      · rw [if_neg (fun y => z2 y.2), up1_o z2]
        by_cases z3 : j = 23
        · rw [if_pos ⟨rfl, z3⟩, z3, up1_s]
        · rw [if_neg (fun y => z3 y.2), up1_o z3]
  · unfold bgF bgM
    rw [pu_at, if_pos ⟨rfl, rfl⟩, eb, pu_at, if_neg (by omega), pu_at, if_pos ⟨rfl, rfl⟩]
theorem bg_off {Fc : FF} {p j : Nat} (hp : ¬ p = 5) (hp6 : ¬ p = 6) : bgF Fc p j = Fc p j := by unfold bgF; rw [pu_off hp6, pu_off hp, pu_off hp]
theorem bgM_off {Fm : FF} {p j : Nat} (hp : ¬ p = 64) : bgM Fm p j = Fm p j := by unfold bgM; rw [pu_off hp, pu_off hp, pu_off hp]
theorem b_release (hJ : J xs F G h) : Bo L xs 76 115 [] F G h := by
  have hg := J_gOk hJ
  have hn := J_nOk hJ
  obtain ⟨e0, e1, e2, e3, e4, e5, e6, e7⟩ := J_e hJ
  have hF1 : ∀ p j, 63 ≤ p → bgF (rmF F h) p j = F p j := fun p j hp => by rw [bg_off (by omega) (by omega)]; exact rm_hi hJ (by omega)
  have hR : ∀ j, rcM (bgF (rmF F h)) 64 j = F 64 j := fun j => by rw [rc64]; exact hF1 64 j (by omega)
  have hm := g_release (d := 0) (L := L) (G := rmG F G h) (h := rmH F h) (F := bgF (rmF F h)) (gOk_hi hg hF1)
  have hS0 : Sr (vw (rmF F h) 2) (vw (rmG F G h) 2) (rcM (bgF (rmF F h)) 64) := Sr_c hJ.2.2.1 (fun a b hs => rm_lo hJ (slF_le hs)) (fun a b hs => rmG_lo hJ (slG_le hs)) (fun j _ => hR j)
  obtain ⟨s1, s2, s3, s4, s5, s6⟩ := hS0
  have hB := S_begF (Fc := rmF F h) (Gc := rmG F G h) (Fm := rcM (bgF (rmF F h))) (F2 := bgM (rcM (bgF (rmF F h)))) (G2 := rmG F G h) s1 s2 s3 (SE_b s6 s4.2.2.1) s4.2.2.2.2.2.1 s4.2.2.2.2.2.2.1 (fun a b ha => by rw [bgM_off (by omega), rc_off (by omega) (by omega)]) (fun _ _ _ => rfl) (fun _ => rfl)
  have e25 : rmF F h 2 5 = F 2 5 := rm_lo hJ (a := 0) (by omega)
  refine Bo_mk (o_release (d := 0) hJ.1 hn) hm (by omega) (by omega) (by rw [← hB.2, e25]) (J_opp hJ (fun p j hp => bg_off (by omega) (by omega)) (fun _ _ _ => rfl) (fun p j h1 h2 => bgM_off h2) hB.1)
theorem stays_bit : ∀ n i, (wStays n).testBit i = true ↔ ∃ u, u < n ∧ i = 7 * u := by
  intro n
  induction n with
  | zero => intro i; show (Nat.testBit 0 i = true) ↔ _; rw [Nat.zero_testBit]; constructor
            · intro z; cases z
            · rintro ⟨k, hk, _⟩; omega
  | succ n ih =>
    intro i
    unfold wStays
    rw [Nat.testBit_or, Bool.or_eq_true, ih, wy_bit, decide_eq_true_eq]
    constructor
    · rintro (⟨u, hu, z⟩ | z)
      · exact ⟨u, by omega, z⟩
      · exact ⟨n, by omega, by omega⟩
    · rintro ⟨u, hu, z⟩
      by_cases e : u = n
      · subst e; exact Or.inr (by omega)
      · exact Or.inl ⟨u, by omega, z⟩
theorem stays_uv {n u v : Nat} (hu : u < 6) (hv : v < 6) : (wStays n).testBit (6 * u + v) = true ↔ u = v ∧ u < n := by
  rw [stays_bit]
  constructor
  · rintro ⟨w, hw, z⟩
    have : u = w := by omega
    have : v = w := by omega
    omega
  · rintro ⟨z1, z2⟩
    exact ⟨u, z2, by omega⟩
theorem stays_lt {n : Nat} (hn : n ≤ 6) : wStays n < 2 ^ 36 := by
  apply zb_bound
  intro i hi
  cases hh : (wStays n).testBit i with
  | false => rfl
  | true =>
    obtain ⟨u, hu, z⟩ := (stays_bit n i).mp hh
    omega
theorem pR_0 {n : Nat} (hn : n ≤ 6) : pR n (wStays n) (fun _ => 0) := by
  refine ⟨hn, stays_lt hn, fun u v hu hv => ?_, fun u _ => ⟨(show (0 : Nat) < 64 by decide), Nat.zero_testBit _⟩, fun u v _ _ => by rw [Nat.zero_testBit, Nat.zero_testBit], fun u v _ z => by rw [Nat.zero_testBit] at z; cases z⟩
  rw [stays_uv hu hv, Nat.zero_testBit]
  exact ⟨Or.inl, fun z => z.elim id (fun y => by cases y)⟩
theorem b_reset (hJ : J xs F G h) (x : Int32) : Bo L xs 63 103 [.int x] F G h := by
  have hg := J_gOk hJ
  have hn := J_nOk hJ
  obtain ⟨e0, e1, e2, e3, e4, e5, e6, e7⟩ := J_e hJ
  by_cases hx : x < 2 ∨ 6 < x
  · exact Bo_m0 (o_reset0 (d := 0) hx) (g_reset0 (d := 0) hx) (by omega) (by omega) rfl hJ
  have h1 : ¬ x < 2 := fun z => hx (Or.inl z)
  have h2 : ¬ 6 < x := fun z => hx (Or.inr z)
  obtain ⟨n, hn7, rfl⟩ : ∃ c : Nat, c < 7 ∧ x = nI c := by
    rcases pk_ix x (n := 7) (by omega) with z | z | z
    · exact absurd (Int32.lt_of_lt_of_le z (by decide)) h1
    · exact absurd (Int32.lt_of_lt_of_le (by decide) z) h2
    · exact z
  have hn2 : 2 ≤ n := by
    by_cases z : 2 ≤ n
    · exact z
    · exact absurd (nI_lt (b := 2) (by omega) (by decide)) h1
  have hF1 : ∀ p j, 63 ≤ p → saF (rmF F h) n p j = F p j := fun p j hp => by unfold saF; rw [bg_off (by omega) (by omega), pu_off (by omega), pu_off (by omega), pu_off (by omega), pu_off (by omega)]; exact rm_hi hJ (by omega)
  have hR : ∀ j, rcM (saF (rmF F h) n) 64 j = F 64 j := fun j => by rw [rc64]; exact hF1 64 j (by omega)
  have hm := g_reset (d := 0) (L := L) (G := pq_u (rmG F G h) 2 1 (wStays n)) (h := rmH F h) (F := saF (rmF F h) n) (gOk_hi hg hF1) hn2 (show n ≤ 6 by omega)
  rw [hF1 64 0 (by omega)] at hm
  have hc : ∀ a b, a ≤ 7 → pq_u (pq_u (pq_u (pq_u (rmF F h) 2 0 n) 2 2 0) 2 5 0) 8 0 0 (2 + a) b = if a = 6 ∧ b = 0 then 0 else if a = 0 ∧ b = 5 then 0 else if a = 0 ∧ b = 2 then 0 else if a = 0 ∧ b = 0 then n else F (2 + a) b := by
    intro a b ha
    rw [pu_at, pu_at, pu_at, pu_at]
    by_cases z1 : a = 6 ∧ b = 0
    · rw [if_pos (by omega), if_pos z1]
    · rw [if_neg (by omega), if_neg z1]
      by_cases z2 : a = 0 ∧ b = 5
      · rw [if_pos (by omega), if_pos z2]
      · rw [if_neg (by omega), if_neg z2]
        by_cases z3 : a = 0 ∧ b = 2
        · rw [if_pos (by omega), if_pos z3]
        · rw [if_neg (by omega), if_neg z3]
          by_cases z4 : a = 0 ∧ b = 0
          · rw [if_pos (by omega), if_pos z4]
          · rw [if_neg (by omega), if_neg z4]; exact rm_lo hJ ha
  have hd : ∀ j, nrM (rsM (rcM (saF (rmF F h) n)) n) 6 64 j = if 5 ≤ j ∧ j < 11 then 0 else if j = 17 then 0 else if j = 2 then 0 else if j = 1 then 0 else if j = 0 then n else F 64 j := by
    intro j
    simp only [nrM]
    by_cases z : 5 ≤ j ∧ j < 11
    · rw [if_pos ⟨trivial, by omega, by omega⟩, if_pos z]
    · rw [if_neg (by omega), if_neg z]
      unfold rsM
      rw [pu_at, pu_at, pu_at, pu_at]
      by_cases z1 : j = 17
      · rw [if_pos ⟨rfl, z1⟩, if_pos z1]
      · rw [if_neg (fun y => z1 y.2), if_neg z1]
        by_cases z2 : j = 2
        · rw [if_pos ⟨rfl, z2⟩, if_pos z2]
        · rw [if_neg (fun y => z2 y.2), if_neg z2]
          by_cases z3 : j = 1
          · rw [if_pos ⟨rfl, z3⟩, if_pos z3]
          · rw [if_neg (fun y => z3 y.2), if_neg z3]
            by_cases z4 : j = 0
            · rw [if_pos ⟨rfl, z4⟩, if_pos z4]
            · rw [if_neg (fun y => z4 y.2), if_neg z4]; exact hR j
  obtain ⟨o1, o2, o3, o4, o5, o6⟩ := hJ.2.2.1
  obtain ⟨a1, a2, a3, a4, a5, a6, a7, a8, a9, a10, a11⟩ := o1
  obtain ⟨f1, f2, f3, f4, f5, f6, f7, f8, f9, f10, f11, f12, f13, f14, f15⟩ := o6
  have sA : SA (vw (pq_u (pq_u (pq_u (pq_u (rmF F h) 2 0 n) 2 2 0) 2 5 0) 8 0 0) 2) (nrM (rsM (rcM (saF (rmF F h) n)) n) 6 64) := by
    unfold SA vw
    rw [hc 0 0 (by omega), hc 0 2 (by omega), hc 0 5 (by omega), hc 0 6 (by omega), hc 0 7 (by omega), hd, hd, hd, hd, hd]
    exact ⟨rfl, hn2, by show n ≤ 6; omega, rfl, by show 0 ≤ 3; omega, rfl, by show 0 ≤ 10000; omega, a8, a9, a10, a11⟩
  have sP : pRd (vw (pq_u (rmG F G h) 2 1 (wStays n)) 2) (nrM (rsM (rcM (saF (rmF F h) n)) n) 6 64) := by
    unfold pRd
    rw [show nrM (rsM (rcM (saF (rmF F h) n)) n) 6 64 0 = n by rw [hd 0]; rfl, show vw (pq_u (rmG F G h) 2 1 (wStays n)) 2 0 1 = wStays n by unfold vw; rw [pu_at, if_pos ⟨rfl, rfl⟩]]
    refine pR_congr (pR_0 (show n ≤ 6 by omega)) (fun u hu => ?_)
    rw [hd, if_pos (by omega)]
  have sC : SC (vw (pq_u (pq_u (pq_u (pq_u (rmF F h) 2 0 n) 2 2 0) 2 5 0) 8 0 0) 2) (nrM (rsM (rcM (saF (rmF F h) n)) n) 6 64) := by
    refine ⟨fun k hk => ?_, fun k hk => ?_, fun k hk => ?_⟩
    · unfold vw
      rw [hc 1 k (by omega), hc 2 k (by omega), hd, hd, if_neg (by omega), if_neg (by omega), if_neg (by omega), if_neg (by omega), if_neg (by omega), if_neg (by omega), if_neg (by omega), if_neg (by omega), if_neg (by omega), if_neg (by omega), if_neg (by omega), if_neg (by omega), if_neg (by omega), if_neg (by omega), if_neg (by omega), if_neg (by omega), if_neg (by omega), if_neg (by omega)]
      exact o3.1 k hk
    · rw [hd] at hk; exact absurd hk (Nat.not_lt_zero _)
    · rw [hd] at hk; exact absurd hk (Nat.not_lt_zero _)
  have sE : SEb (vw (pq_u (pq_u (pq_u (pq_u (rmF F h) 2 0 n) 2 2 0) 2 5 0) 8 0 0) 2) (vw (pq_u (rmG F G h) 2 1 (wStays n)) 2) (nrM (rsM (rcM (saF (rmF F h) n)) n) 6 64) := by
    unfold SEb vw
    rw [hc 6 0 (by omega), hc 6 1 (by omega), hc 6 2 (by omega), hc 6 3 (by omega), hc 6 4 (by omega), hc 6 5 (by omega), hd 17, hd 18, hd 19, hd 20, hd 21, hd 22]
    exact ⟨rfl, by show 0 ≤ 1; omega, f3, f4, f5, f6, f7, f8, f9, f10, f11, f12, fun i hi => by rw [hc 7 i (by omega), if_neg (by omega), if_neg (by omega), if_neg (by omega), if_neg (by omega)]; exact f13 i hi, fun z => by exact absurd z (show ¬ (0 : Nat) = 1 by decide), fun z => by exact absurd z (show ¬ (0 : Nat) = 1 by decide)⟩
  have hB := S_begF (F2 := bgM (nrM (rsM (rcM (saF (rmF F h) n)) n) 6)) (G2 := pq_u (rmG F G h) 2 1 (wStays n)) sA sP sC sE (fun i hi => by have := hc 4 i (by omega); rw [show pq_u (pq_u (pq_u (pq_u (rmF F h) 2 0 n) 2 2 0) 2 5 0) 8 0 0 6 i = pq_u (pq_u (pq_u (pq_u (rmF F h) 2 0 n) 2 2 0) 2 5 0) 8 0 0 (2 + 4) i from rfl, this, if_neg (by omega), if_neg (by omega), if_neg (by omega), if_neg (by omega)]; exact o4.2.2.2.2.2.1 i hi) (fun i hi => by rw [pu_off (by decide)]; have := rmG_lo hJ (a := 5) (b := i) (by omega); rw [show rmG F G h 7 i = rmG F G h (2 + 5) i from rfl, this]; exact o4.2.2.2.2.2.2.1 i hi)
    (fun a b ha => by
      rw [bgM_off (by omega)]
      simp only [nrM]
      rw [if_neg (by omega)]
      unfold rsM
      rw [pu_off (by omega), pu_off (by omega), pu_off (by omega), pu_off (by omega), rc_off (by omega) (by omega)]
      rfl) (fun _ _ _ => rfl) (fun _ => rfl)
  refine Bo_mk (o_reset (d := 0) hJ.1 hn hn2 (by omega)) hm (by omega) (by omega) (by rw [e0]) (J_opp (F1 := saF (rmF F h) n) hJ (fun p j hp => ?_) (fun p j hp => pu_off (by omega)) (fun p j h1 h2 => ?_) hB.1)
  · unfold saF
    rw [bg_off (by omega) (by omega), pu_off (by omega), pu_off (by omega), pu_off (by omega), pu_off (by omega)]
  · rw [bgM_off h2]
    simp only [nrM]
    rw [if_neg (by omega)]
    unfold rsM
    rw [pu_off h2, pu_off h2, pu_off h2, pu_off h2]
end LWC
