/-! what the class's searches answer, against the model's -/
def stCl (n K c : Nat) : List Nat := (List.range c).filterMap (fun i => if ∀ k, k < K → dig K i k < n then some (stN n K (dig K i)) else none)
def rvN (pos : Nat → Nat) : Nat → Nat
  | 0 => 0
  | k + 1 => rvN pos k + pos k * 6 ^ k
theorem rvN_lt {pos : Nat → Nat} : ∀ K, (∀ k, k < K → pos k < 6) → rvN pos K < 6 ^ K := by
  intro K
  induction K with
  | zero => intro _; exact Nat.one_pos
  | succ K ih =>
    intro hp
    have h1 := ih (fun k hk => hp k (by omega))
    have h2 := hp K (by omega)
    have h3 : pos K * 6 ^ K ≤ 5 * 6 ^ K := Nat.mul_le_mul_right _ (by omega)
    unfold rvN
    rw [Nat.pow_succ]; omega
theorem rvN_dig {pos : Nat → Nat} : ∀ K, (∀ k, k < K → pos k < 6) → ∀ k, k < K → rdg (rvN pos K) k = pos k := by
  intro K
  induction K with
  | zero => intro _ k hk; omega
  | succ K ih =>
    intro hp k hk
    have h1 := rvN_lt K (fun k hk => hp k (by omega))
    have hpK := hp K (by omega)
    unfold rdg rvN
    by_cases e : k = K
    · subst e
      rw [Nat.mul_comm, Nat.add_comm, Nat.mul_add_div (Nat.pow_pos (by decide)), Nat.div_eq_of_lt h1]
      omega
    · have h2 := ih (fun k hk => hp k (by omega)) k (by omega)
      unfold rdg at h2
      obtain ⟨c, hc⟩ : ∃ c, K = k + 1 + c := ⟨K - (k + 1), by omega⟩
      have h3 : pos K * 6 ^ K = 6 ^ k * (6 * (pos K * 6 ^ c)) := by
        rw [show (6 : Nat) ^ K = 6 ^ k * (6 * 6 ^ c) by rw [hc, Nat.pow_add, Nat.pow_add, Nat.pow_one, Nat.mul_assoc]]
        rw [Nat.mul_left_comm, Nat.mul_left_comm (pos K) 6]
      rw [h3, Nat.add_comm, Nat.mul_add_div (Nat.pow_pos (by decide)), Nat.add_comm, Nat.add_mul_mod_self_left]
      exact h2
theorem nmG_congr {p q : Nat → Nat} : ∀ K, (∀ k, k < K → p k = q k) → nmG p K = nmG q K := by
  intro K
  induction K with
  | zero => intro _; rfl
  | succ K ih => intro h; unfold nmG; rw [ih (fun k hk => h k (by omega)), h K (by omega)]
theorem frG_congr {n : Nat} {p q : Nat → Nat} : ∀ K, (∀ k, k < K → p k = q k) → frG n p K = frG n q K := by
  intro K
  induction K with
  | zero => intro _; rfl
  | succ K ih => intro h; unfold frG; rw [ih (fun k hk => h k (by omega)), h K (by omega)]
theorem stN_congr {n K : Nat} {p q : Nat → Nat} (h : ∀ k, k < K → p k = q k) : stN n K p = stN n K q := by
  unfold stN; rw [nmG_congr K h, frG_congr K h]
theorem starts_eq {n K s : Nat} : s ∈ stCl n K (6 ^ K) ↔ s ∈ stMl n K (6 ^ K) := by
  unfold stCl stMl
  rw [List.mem_filterMap, List.mem_filterMap]
  constructor
  · rintro ⟨i, h1, h2⟩
    split at h2
    · rename_i hc
      cases h2
      have hd := rvN_dig (pos := dig K i) K (fun k _ => dig_lt K i k)
      refine ⟨rvN (dig K i) K, List.mem_range.mpr (rvN_lt K (fun k _ => dig_lt K i k)), ?_⟩
      unfold stL
      rw [if_pos (fun k hk => by rw [hd k hk]; exact hc k hk), stN_congr hd]
    · cases h2
  · rintro ⟨i, h1, h2⟩
    unfold stL at h2
    split at h2
    · rename_i hc
      cases h2
      have hd := nm_dig (pos := rdg i) K (fun k _ => rdg_lt i k)
      refine ⟨nmG (rdg i) K, List.mem_range.mpr (nmG_lt K (fun k _ => rdg_lt i k)), ?_⟩
      rw [if_pos (fun k hk => by rw [hd k hk]; exact hc k hk), stN_congr hd]
    · cases h2
theorem stCl_lt {n K c : Nat} (hn : n ≤ 6) : ∀ s, s ∈ stCl n K c → s < 64 * 6 ^ K := by
  intro s hs
  unfold stCl at hs
  rw [List.mem_filterMap] at hs
  obtain ⟨i, _, h2⟩ := hs
  split at h2
  · cases h2; exact (stN_sit hn (fun k _ => dig_lt K i k)).2.2
  · cases h2
theorem tr_eq {suc : Nat → List Nat} {S S' : Nat → Prop} {B : Nat} {Z Z' : BQ} (hI : bI suc S B 13824 Z) (hI' : bI suc S' B 13824 Z') (hB : B ≤ 13824) (hS : ∀ s, S s ↔ S' s) : (∀ x, trI Z x = trI Z' x) ∧ (fE Z = none ↔ fE Z' = none) := by
  have hSS : S = S' := by funext s; exact propext (hS s)
  subst hSS
  have l1 := bI_len hI
  have l2 := bI_len hI'
  cases h1 : fE Z with
  | none =>
    have a := bMin0 hI (by omega) h1
    cases h2 : fE Z' with
    | none => exact ⟨fun x => by rw [tr_none h1, tr_none h2], Iff.rfl⟩
    | some e =>
      obtain ⟨b1, b2, _⟩ := bMin1 hI' (by omega) h2
      exact absurd b2 (a _ _ b1)
  | some e =>
    obtain ⟨b1, b2, b3⟩ := bMin1 hI (by omega) h1
    cases h2 : fE Z' with
    | none =>
      exact absurd b2 (bMin0 hI' (by omega) h2 _ _ b1)
    | some e' =>
      obtain ⟨c1, c2, c3⟩ := bMin1 hI' (by omega) h2
      have := b3 _ _ c1 c2
      have := c3 _ _ b1 b2
      refine ⟨fun x => ?_, ⟨(fun z => nomatch z), (fun z => nomatch z)⟩⟩
      unfold trI
      rw [h1, h2]
      show nI e.2.2 = nI e'.2.2
      rw [show e.2.2 = e'.2.2 by omega]
section THC
variable {n K pa q : Nat} {F G : FF}
theorem CR_0 : CR q (64 * 6 ^ K) (fgF F q n K) [] := by
  refine ⟨?_, ?_, ?_, ?_, ?_⟩
  · unfold fgF
    rw [pu_at, if_neg (by omega), pu_at, if_pos ⟨rfl, rfl⟩]
    rfl
  · intro a e h; cases h
  · intro e h; cases h
  · intro s hs _
    unfold fgF
    rw [pu_at, if_neg (by omega), pu_at, if_neg (by omega)]
    unfold clF
    rw [if_pos ⟨rfl, hs⟩]
  · unfold fgF
    rw [pu_at, if_pos ⟨rfl, rfl⟩]
    rfl
theorem nmF_eq (tp : Nat) : ∀ K, nmF F tp K = nmG (F tp) K := by
  intro K
  induction K with
  | zero => rfl
  | succ K ih => unfold nmF nmG; rw [ih]
theorem tCh_congr {F F' : FF} (h : ∀ s, F' (q + 2) s = F (q + 2) s) : ∀ k s, tCh F q k s → tCh F' q k s := by
  intro k
  induction k with
  | zero => intro s hc; exact ⟨hc.1, by rw [h]; exact hc.2⟩
  | succ k ih => intro s hc; exact ⟨hc.1, by rw [h]; exact hc.2.1, by rw [h]; exact ih _ hc.2.2⟩
theorem tUp_congr {F F' : FF} (h : ∀ s, F' (q + 2) s = F (q + 2) s) : ∀ k s, tUp F' q k s = tUp F q k s := by
  intro k
  induction k with
  | zero => intro s; rfl
  | succ k ih => intro s; show tUp F' q k (F' (q + 2) s) = tUp F q k (F (q + 2) s); rw [h, ih]
theorem cRes_of {F' : FF} {Z : BQ} (hC : cRes q F Z) (h8 : F' q 8 = F q 8) (h2 : ∀ s, F' (q + 2) s = F (q + 2) s) : cRes q F' Z := by
  rcases hC with ⟨a, b⟩ | ⟨e, a1, a2, a3, a4, a5⟩
  · exact Or.inl ⟨a, by rw [h8]; exact b⟩
  · exact Or.inr ⟨e, a1, by rw [h8]; exact a2, tCh_congr h2 _ _ a3, fun j hj => by rw [tUp_congr h2]; exact a4 j hj, a5⟩
/-- the present situation, as the class counts it -/
def sit0 (F : FF) : Nat := nmF F 3 (F 2 2) * 64 + F 6 (F 2 5 % 8)
theorem sit0_ok (hn : nOk F G) : sit0 F < 64 * 6 ^ F 2 2 ∧ sit0 F % 64 = F 6 (F 2 5 % 8) ∧ ∀ k, k < F 2 2 → sitPos (F 2 2) (sit0 F) k = F 3 k := by
  obtain ⟨n1, n2, n3, n4, n5, n6, n7, n8, n9, n10, n11, n12, n13, n14, n15, n16, n17, n18, n19, n20⟩ := hn
  have hb := n9 (F 2 5 % 8) (Nat.mod_lt _ (by decide))
  refine ⟨nm_sit n2 n7 hb, by unfold sit0; omega, fun k hk => ?_⟩
  have hp : ∀ k, k < F 2 2 → F 3 k < 6 := fun k hk => n7 k (by omega)
  have := nm_dig (F 2 2) hp k hk
  unfold sit0 sitPos
  unfold dig at this
  rw [nmF_eq, show (nmG (F 3) (F 2 2) * 64 + F 6 (F 2 5 % 8)) / 64 = nmG (F 3) (F 2 2) by omega]
  exact this
theorem kp_res (hn : nOk F G) : cRes 52 (kpF F G) (bZ (sucC (F 2 0) (G 2 1) (F 2 2)) (bfX N2 0 [] [sit0 F])) := by
  have hs0 := (sit0_ok hn).1
  have hB := K_le hn.2.1
  have hbI := bS_0 (suc := sucC (F 2 0) (G 2 1) (F 2 2)) (B := 64 * 6 ^ F 2 2) [sit0 F] (fun s hs => by rw [List.mem_singleton] at hs; rw [hs]; exact hs0)
  have hC : CR 52 (64 * 6 ^ F 2 2) (enF (fgF F 52 (F 2 0) (F 2 2)) 52 (sit0 F) N2) (bfX N2 0 [] [sit0 F]) :=
    CR_en (k := 0) hB CR_0 (fun e he => absurd he List.not_mem_nil) hs0 (by show 1 ≤ 13824; decide)
  have hr := CR_res (pa := G 2 1) hn.1 hn.2.1 hbI hC
  refine cRes_of hr ?_ ?_
  · unfold kpF; rw [pu_off (by decide)]; rfl
  · intro s; unfold kpF; rw [pu_off (by decide)]; rfl
theorem frF_eq : ∀ k, frF F q n k = frG n (F (q + 1)) k := by
  intro k
  induction k with
  | zero => rfl
  | succ k ih => unfold frF frG; rw [ih]
theorem stCl_s {c : Nat} : stCl n K (c + 1) = stCl n K c ++ (if ∀ k, k < K → dig K c k < n then [stN n K (dig K c)] else []) := by
  unfold stCl
  rw [List.range_succ, List.filterMap_append]
  congr 1
  rw [List.filterMap_cons]
  by_cases h : ∀ k, k < K → dig K c k < n
  · rw [if_pos h, if_pos h]; rfl
  · rw [if_neg h, if_neg h]; rfl
theorem ea_CR (hn : n ≤ 6) (hK : K ≤ 3) : ∀ i, i ≤ 6 ^ K → CR q (64 * 6 ^ K) (eaF q n K i (fgF F q n K)) (bfX N2 0 [] (stCl n K i)) := by
  have hB := K_le hK
  intro i
  induction i with
  | zero => intro _; exact CR_0
  | succ i ih =>
    intro hi
    have h1 := ih (by omega)
    unfold eaF
    generalize eaF q n K i (fgF F q n K) = E at h1
    have hat : ∀ k, k < K → plF E (q + 1) K i (q + 1) k = dig K i k := fun k hk => plF_in _ _ _ _ hk
    have h2 : CR q (64 * 6 ^ K) (plF E (q + 1) K i) (bfX N2 0 [] (stCl n K i)) := CR_of h1 (plF_off _ _ _ _ _ (by omega)) (plF_off _ _ _ _ _ (by omega)) (fun s => plF_off _ _ _ _ _ (by omega)) (fun s => plF_off _ _ _ _ _ (by omega))
    have enm : nmG (dig K i) K = i := dig_inj K _ _ (nmG_lt K (fun k _ => dig_lt K i k)) (by omega) (nm_dig K (fun k _ => dig_lt K i k))
    rw [stCl_s, bfX_app]
    unfold esF
    by_cases c : ∀ k, k < K → dig K i k < n
    · rw [if_pos c, if_pos (fun k hk => by rw [hat k hk]; exact c k hk)]
      have es : 64 * i + frF (plF E (q + 1) K i) q n K = stN n K (dig K i) := by
        unfold stN
        rw [frF_eq, frG_congr K hat, enm]; omega
      rw [es]
      have hlt := (stN_sit hn (fun k _ => dig_lt K i k) : _ ∧ _ ∧ stN n K (dig K i) < 64 * 6 ^ K).2.2
      have hbI := bS_0 (suc := fun _ => []) (B := 64 * 6 ^ K) (stCl n K i) (fun s hs => stCl_lt hn s hs)
      have hbI2 := bS_0 (suc := fun _ => []) (B := 64 * 6 ^ K) (stCl n K (i + 1)) (fun s hs => stCl_lt hn s hs)
      have hlen := bI_len hbI2
      rw [stCl_s, if_pos c, bfX_app] at hlen
      exact CR_en (k := 0) hB h2 (bI_par hB hbI) hlt (Nat.le_trans hlen hB)
    · rw [if_neg c, if_neg (fun z => c (fun k hk => by rw [← hat k hk]; exact z k hk))]
      exact h2
theorem bs_res0 {ZC Z : BQ} (hr : cRes 56 (bsF F G K) ZC) (q1 : ∀ x, trI ZC x = trI Z x) (hd : ∀ e, fE Z = some e → e.2.2 ≤ 13824) : bRes F G K (trI Z (-4)) ∧ (fE Z = none → trI Z (-4) = -4) ∧ (¬ fE Z = none → ¬ trI Z (-4) = -4) := by
  refine ⟨?_, fun h => tr_none h _, fun h => ?_⟩
  · rw [← q1]
    rcases hr with ⟨a, b⟩ | ⟨e, a1, a2, a3, a4, a5⟩
    · exact Or.inl ⟨b, tr_none a _⟩
    · refine Or.inr ⟨e.2.2, a5, by rw [a2]; exact a3, ?_⟩
      unfold trI
      rw [a1]
  · cases hf : fE Z with
    | none => exact absurd hf h
    | some e =>
      unfold trI
      rw [hf]
      show ¬ nI e.2.2 = -4
      have := hd e hf
      intro z
      rw [show (-4 : Int32) = nI 4294967292 by decide] at z
      have := (zi_eq (by omega) (by decide)).mp z
      omega
theorem bs_res {gr : Nat → Nat} {Z : BQ} (hn : nOk F G) (hK : K ≤ 3) (hg : pR (F 2 0) (G 2 1) gr) (hZ : bZ (sucM (F 2 0) gr K) (bfX N2 0 [] (stMl (F 2 0) K (6 ^ K))) = Z) : bRes F G K (trI Z (-4)) ∧ (fE Z = none → trI Z (-4) = -4) ∧ (¬ fE Z = none → ¬ trI Z (-4) = -4) := by
  have hB := K_le hK
  have hbI := bS_0 (suc := sucC (F 2 0) (G 2 1) K) (B := 64 * 6 ^ K) (stCl (F 2 0) K (6 ^ K)) (fun s hs => stCl_lt hn.1 s hs)
  have hbM := bS_0 (suc := sucC (F 2 0) (G 2 1) K) (B := 64 * 6 ^ K) (stMl (F 2 0) K (6 ^ K)) (fun s hs => stMl_lt hn.1 s hs)
  have hr := CR_res (q := 56) (pa := G 2 1) hn.1 hK hbI (ea_CR (F := F) hn.1 hK (6 ^ K) (Nat.le_refl _))
  have hc : ∀ s t, s < 64 * 6 ^ K → t ∈ sucC (F 2 0) (G 2 1) K s → t < 64 * 6 ^ K := fun s t _ ht => sucC_lt hn.1 s t ht
  rw [← sucC_eq hg] at hZ
  obtain ⟨ZC, hZC⟩ : ∃ ZC, bZ (sucC (F 2 0) (G 2 1) K) (bfX N2 0 [] (stCl (F 2 0) K (6 ^ K))) = ZC := ⟨_, rfl⟩
  rw [hZC] at hr
  have i1 : bI (sucC (F 2 0) (G 2 1) K) (fun s => s ∈ stCl (F 2 0) K (6 ^ K)) (64 * 6 ^ K) 13824 ZC := by rw [← hZC]; exact bI_Q hc hbI 13824
  have i2 : bI (sucC (F 2 0) (G 2 1) K) (fun s => s ∈ stMl (F 2 0) K (6 ^ K)) (64 * 6 ^ K) 13824 Z := by rw [← hZ]; exact bI_Q hc hbM 13824
  have hq := tr_eq i1 i2 hB (fun s => starts_eq)
  exact bs_res0 hr hq.1 (fun e he => bZ_dep hZ hc hbM hB he)
end THC
