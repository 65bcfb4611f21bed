/-! the model: planMoves, its loops -/
def pPost (n : Nat) (gr : Nat → Nat) (K s0 L : Nat) (F0 G : FF) (h : Nat → Nat) (r : Option Value) (M' : pq_M) : Prop := ∃ o : Option Nat, isMin (Rcc (sc2 n gr K) s0) o ∧ r = some (.int (oI o)) ∧ ∃ F' : FF, M' = (pq_Sh L, pn F', pl G, pq_rt h) ∧ ag F' F0
theorem agu {F F0 : FF} (h : ag F F0) {p k v : Nat} (hp : p = 70 ∨ p = 71 ∨ p = 72) : ag (pq_u F p k v) F0 := by
  intro p2 j h2
  rw [pu_off (by omega)]
  exact h p2 j h2
theorem pQ_ext {n K s0 c q : Nat} {gr : Nat → Nat} {W : List Nat} {F F' : FF} (hQ : pQ n gr K s0 c W q F) (h : ∀ p j, p = 70 ∨ p = 71 ∨ p = 72 → F' p j = F p j) : pQ n gr K s0 c W q F' := by
  have e0 : ∀ j, F' 70 j = F 70 j := fun j => h 70 j (by omega)
  have e1 : ∀ j, F' 71 j = F 71 j := fun j => h 71 j (by omega)
  have e2 : ∀ j, F' 72 j = F 72 j := fun j => h 72 j (by omega)
  unfold pQ pOk pEx at *
  simp only [e0, e1, e2]
  exact hQ
theorem pT_ext {c U Mx more : Nat} {F F' : FF} (hT : pT c U Mx more F) (h : ∀ j, F' 70 j = F 70 j) : pT c U Mx more F' := by
  unfold pT cnU at *
  simp only [h]
  exact hT
section MOS
variable {d L n K s0 : Nat} {gr : Nat → Nat} {F0 G : FF} {h : Nat → Nat}
set_option maxRecDepth 8000 in
theorem l_pmM {c U Mx q s : Nat} (hn : n ≤ 6) (hK : K ≤ 3) (hg : GF n gr F0) (h1K : F0 64 1 = K) (hc : c < 2 ^ 19) (hs : s < 64 * 6 ^ K) {Post : Option Value → pq_M → Prop}
    (C : ∀ (F' : FF) (W : List Nat) (more : Nat) (z6 z7 : Option Value), pQ n gr K s0 c W q F' → pT c U Mx more F' → W[q]? = some s → ag F' F0 → (∀ j, j < 6 ^ K → ∀ t, mvS n gr K s j = some t → ¬ F' 70 (md K t) = N1 ∧ F' 70 (md K t) ≤ c + lvN (md K s) (md K t) K) → pq_Ev (d + 2) 146 286 [some (.ref 63), some (.int (nI more)), some (.int (nI c)), some (.int (nI W.length)), some (.int (nI q)), some (.int (nI (6 ^ K))), z6, z7] [] (pq_Sh L, pn F', pl G, pq_rt h) Post) :
    ∀ m j (F : FF) (W : List Nat) (more : Nat) (z6 z7 : Option Value), j + m = 6 ^ K → pQ n gr K s0 c W q F → pT c U Mx more F → W[q]? = some s → ag F F0 → (∀ j', j' < j → ∀ t, mvS n gr K s j' = some t → ¬ F 70 (md K t) = N1 ∧ F 70 (md K t) ≤ c + lvN (md K s) (md K t) K) →
    pq_Ev (d + 2) 146 151 [some (.ref 63), some (.int (nI more)), some (.int (nI c)), some (.int (nI W.length)), some (.int (nI q)), some (.int (nI j)), z6, z7] [] (pq_Sh L, pn F, pl G, pq_rt h) Post := by
  have h6K : 6 ^ K ≤ 216 := Nat.pow_le_pow_right (n := 6) (j := 3) (by decide) hK
  have hB := K_le hK
  intro m
  induction m with
  | zero =>
    intro j F W more z6 z7 hj hQ hT hW ha hd
    have hj : j = 6 ^ K := by omega
    subst hj
    (repeat (first | refine E_st rfl ?_ | refine E_go rfl ?_))
    simp +decide only [nI_clamp, pn_at, pu_n, pu_l]
    rw [ha 64 1 (by omega), h1K]
    refine E_cx rfl (by omega) (g_moves (d := 0) hK) ?_
    refine E_nif rfl (nI_nlt (Nat.le_refl _) (by omega)) ?_
    exact C F W more z6 z7 hQ hT hW ha hd
  | succ m ih =>
    intro j F W more z6 z7 hj hQ hT hW ha hd
    have hqW := (List.getElem?_eq_some_iff.mp hW).1
    have hlW : W.length ≤ 64 * 6 ^ K := nd_len _ W hQ.2.2.2.2.1 (fun x hx => by
      obtain ⟨i, hi⟩ := List.getElem?_of_mem hx
      exact (hQ.2.2.2.1 i x hi).1)
    have hgF := GF_ag hg ha
    have hmv := g_moved (d := d) (L := L) (F := F) (G := G) (h := h) (s := s) (mv := j) hgF.1 hn hgF.2 hK (by omega)
    have hmds := md_lt hK s
    refine E_fo 6 (E_fo 7 ?_)
    (repeat (first | refine E_st rfl ?_ | refine E_go rfl ?_))
    simp +decide only [nI_clamp, pn_at, pu_n, pu_l]
    rw [ha 64 1 (by omega), h1K]
    refine E_cx rfl (by omega) (g_moves (d := 0) hK) ?_
    refine E_if rfl (nI_lt (by omega) (by omega)) ?_
    (iterate 4 (first | refine E_st rfl ?_ | refine E_go rfl ?_))
    refine E_ial rfl rfl (n := 32768) (by omega) (by decide) ?_
    rw [(hQ.2.2.2.1 q s hW).2.1]
    (iterate 5 (first | refine E_st rfl ?_ | refine E_go rfl ?_))
    simp +decide only [nI_clamp, pn_at, pu_n, pu_l]
    rw [ha 64 1 (by omega), h1K]
    refine E_ca rfl (by omega) hmv ?_
    rintro r M' ⟨rfl, F1, rfl, h1⟩
    have ha1 : ag F1 F0 := fun p j hp => by rw [h1 p j (by omega) (by omega)]; exact ha p j hp
    have hQ1 : pQ n gr K s0 c W q F1 := pQ_ext hQ (fun p j hp => h1 p j (by omega) (by omega))
    have hT1 : pT c U Mx more F1 := pT_ext hT (fun j => h1 70 j (by decide) (by decide))
    have hd1 : ∀ j', j' < j → ∀ t, mvS n gr K s j' = some t → ¬ F1 70 (md K t) = N1 ∧ F1 70 (md K t) ≤ c + lvN (md K s) (md K t) K := fun j' hj' t ht => by rw [h1 70 _ (by decide) (by decide)]; exact hd j' hj' t ht
    cases hx : mvS n gr K s j with
    | none =>
      show pq_Ev (d + 2) 146 184 _ (.int (-1) :: _) _ _
      (repeat (first | refine E_st rfl ?_ | refine E_go rfl ?_))
      refine E_if rfl (by decide) ?_
      (iterate 2 (first | refine E_st rfl ?_ | refine E_go rfl ?_))
      rw [nI_add]
      refine ih (j + 1) F1 W more _ _ (by omega) hQ1 hT1 hW ha1 (fun j' hj' t ht => ?_)
      by_cases e : j' = j
      · subst e; rw [hx] at ht; cases ht
      · exact hd1 j' (by omega) t ht
    | some t =>
      have htB : t < 64 * 6 ^ K := mvS_lt hn (show j < 6 ^ K by omega) hx
      have hmt := md_lt hK t
      have hw3 : lvN (md K s) (md K t) K ≤ 3 := Nat.le_trans (lvN_le _ _ K) hK
      have hlv := g_leaving (d := 0) (M := (pq_Sh L, pn F1, pl G, pq_rt h)) (a := md K s) (b := md K t) (K := K) (by omega) (by omega) hK
      have hsc : (t, lvN (md K s) (md K t) K) ∈ sc2 n gr K s := sc2_mem.mpr ⟨j, by omega, hx, rfl⟩
      have hRs : Rcc (sc2 n gr K) s0 c s := by
        rcases hQ.1.2.1 (md K s) hmds with z | ⟨_, s2, z2, z3, z4⟩
        · rw [(hQ.2.2.2.1 q s hW).2.2] at z
          have z : c = 4294967295 := z
          omega
        · rw [(hQ.2.2.2.1 q s hW).2.2] at z4
          rw [← md_inj z2 hs z3]; exact z4
      have hRt := Rcc_s hRs hsc
      generalize hwe : lvN (md K s) (md K t) K = w at *
      show pq_Ev (d + 2) 146 184 _ (.int (nI (md K t)) :: _) _ _
      (iterate 2 (first | refine E_st rfl ?_ | refine E_go rfl ?_))
      refine E_nif rfl (nI_pos (by omega)) ?_
      (iterate 4 (first | refine E_st rfl ?_ | refine E_go rfl ?_))
      refine E_ial rfl rfl (n := 32768) (by omega) (by decide) ?_
      rw [(hQ1.2.2.2.1 q s hW).2.1]
      (iterate 5 (first | refine E_st rfl ?_ | refine E_go rfl ?_))
      simp +decide only [nI_clamp, pn_at, pu_n, pu_l]
      rw [ha1 64 1 (by omega), h1K]
      refine E_cx rfl (by omega) hlv ?_
      (iterate 1 (first | refine E_st rfl ?_ | refine E_go rfl ?_))
      rw [nI_add]
      (iterate 2 (first | refine E_st rfl ?_ | refine E_go rfl ?_))
      refine E_nif rfl (nI_pos (by omega)) ?_
      have hdn : ∀ (F' : FF), (∀ x, ¬ x = md K t → F' 70 x = F1 70 x) → (¬ F' 70 (md K t) = N1 ∧ F' 70 (md K t) ≤ c + w) → (F1 70 (md K t) = N1 ∨ F' 70 (md K t) ≤ F1 70 (md K t)) → ∀ j', j' < j + 1 → ∀ t', mvS n gr K s j' = some t' → ¬ F' 70 (md K t') = N1 ∧ F' 70 (md K t') ≤ c + lvN (md K s) (md K t') K := by
        intro F' z1 z2 z3 j' hj' t' ht'
        by_cases e : j' = j
        · subst e
          rw [hx] at ht'
          cases ht'
          rw [hwe]; exact z2
        · have hold := hd1 j' (by omega) t' ht'
          by_cases e2 : md K t' = md K t
          · rw [e2] at hold ⊢
            refine ⟨z2.1, ?_⟩
            rcases z3 with z3 | z3
            · exact absurd z3 hold.1
            · omega
          · rw [z1 _ e2]; exact hold
      have hcw : c + w < 2 ^ 20 := by omega
      have UP : (F1 70 (md K t) = N1 ∨ c + w < F1 70 (md K t)) → pq_Ev (d + 2) 146 244 [some (.ref 63), some (.int (nI more)), some (.int (nI c)), some (.int (nI W.length)), some (.int (nI q)), some (.int (nI j)), some (.int (nI (md K t))), some (.int (nI (c + w)))] [] (pq_Sh L, pn F1, pl G, pq_rt h) Post := by
        intro hv
        have hcN : ¬ c + w = N1 := fun z => by have z : c + w = 4294967295 := z; omega
        (iterate 4 (first | refine E_st rfl ?_ | refine E_go rfl ?_))
        refine E_ias rfl rfl (n := 32768) hmt (by decide) (by decide) ?_
        (repeat (first | refine E_st rfl ?_ | refine E_go rfl ?_))
        by_cases c0 : w = 0
        · have e0 : c + w = c := by omega
          refine E_if rfl (by rw [e0]) ?_
          rw [e0] at hRt hv ⊢
          have hu := pQ_up0 hK (by omega) hQ1 hqW htB hRt hv
          have hu2 := hu.2.2.2.2.1
          (iterate 4 (first | refine E_st rfl ?_ | refine E_go rfl ?_))
          refine E_ias rfl rfl (n := 32768) hmt (by decide) (by decide) ?_
          (iterate 4 (first | refine E_st rfl ?_ | refine E_go rfl ?_))
          refine E_ias rfl rfl (n := 32768) (by omega) (by decide) (by decide) ?_
          (iterate 3 (first | refine E_st rfl ?_ | refine E_go rfl ?_))
          rw [nI_add, nI_add]
          have n70 : pq_u (pq_u (pq_u F1 70 (md K t) c) 71 (md K t) 1) 72 W.length (md K t) 70 (md K t) = c := by rw [pu_off (by decide), pu_off (by decide), pu_at, if_pos ⟨rfl, rfl⟩]
          have o70 : ∀ x, ¬ x = md K t → pq_u (pq_u (pq_u F1 70 (md K t) c) 71 (md K t) 1) 72 W.length (md K t) 70 x = F1 70 x := fun x hx => by rw [pu_off (by decide), pu_off (by decide), pu_at, if_neg (fun z => hx z.2)]
          have hl2 : W.length + 1 = (W ++ [t]).length := by rw [List.length_append, List.length_singleton]
          rw [hl2]
          refine ih (j + 1) _ (W ++ [t]) 1 _ _ (by omega) hu (pT_up (w := 0) hK (by omega) (by omega) hT1 hv o70 n70) (by rw [List.getElem?_append_left hqW]; exact hW) (agu (agu (agu ha1 (by omega)) (by omega)) (by omega)) ?_
          refine hdn _ o70 ?_ ?_
          · rw [n70]; exact ⟨fun z => by have z : c = 4294967295 := z; omega, by omega⟩
          · rw [n70]; exact hv.imp id (fun z => by omega)
        · refine E_nif rfl (fun z => by have := (zi_eq (by omega) (by omega)).mp z; omega) ?_
          have hu := pQ_up1 hK hcw hQ1 htB hRt hv (by omega)
          have n70 : pq_u F1 70 (md K t) (c + w) 70 (md K t) = c + w := by rw [pu_at, if_pos ⟨rfl, rfl⟩]
          have o70 : ∀ x, ¬ x = md K t → pq_u F1 70 (md K t) (c + w) 70 x = F1 70 x := fun x hx => by rw [pu_at, if_neg (fun z => hx z.2)]
          (iterate 2 (first | refine E_st rfl ?_ | refine E_go rfl ?_))
          rw [nI_add]
          refine ih (j + 1) _ W 1 _ _ (by omega) hu (pT_up hK hw3 hcw hT1 hv o70 n70) hW (agu ha1 (by omega)) ?_
          refine hdn _ o70 ?_ ?_
          · rw [n70]; exact ⟨hcN, Nat.le_refl _⟩
          · rw [n70]; exact hv.imp id (fun z => by omega)
      (iterate 3 (first | refine E_st rfl ?_ | refine E_go rfl ?_))
      refine E_ial rfl rfl (n := 32768) hmt (by decide) ?_
      rcases hQ1.1.2.1 (md K t) hmt with hvN | ⟨hv20, _⟩
      · rw [hvN, ← zm1]
        refine E_if rfl (by decide) ?_
        exact UP (Or.inl hvN)
      · refine E_nif rfl (nI_pos (by omega)) ?_
        (iterate 4 (first | refine E_st rfl ?_ | refine E_go rfl ?_))
        refine E_ial rfl rfl (n := 32768) hmt (by decide) ?_
        by_cases cv : c + w < F1 70 (md K t)
        · refine E_if rfl (nI_lt cv (by omega)) ?_
          exact UP (Or.inr cv)
        · refine E_nif rfl (nI_nlt (by omega) (by omega)) ?_
          (iterate 2 (first | refine E_st rfl ?_ | refine E_go rfl ?_))
          rw [nI_add]
          refine ih (j + 1) F1 W more _ _ (by omega) hQ1 hT1 hW ha1 ?_
          refine hdn F1 (fun _ _ => rfl) ⟨fun z => by rw [z] at hv20; exact absurd hv20 (by decide), by omega⟩ (Or.inr (Nat.le_refl _))
set_option maxRecDepth 8000 in
theorem l_pmQ {c U Mx : Nat} (hn : n ≤ 6) (hK : K ≤ 3) (hg : GF n gr F0) (h1K : F0 64 1 = K) (hs0 : s0 < 64 * 6 ^ K) (hc : c < 2 ^ 19)
    (C : ∀ (F' : FF) (more nq : Nat) (z4 z5 z6 z7 : Option Value), pH n gr K s0 (c + 1) F' → pT c U Mx more F' → ag F' F0 → pq_Ev (d + 2) 146 39 [some (.ref 63), some (.int (nI more)), some (.int (nI (c + 1))), some (.int (nI nq)), z4, z5, z6, z7] [] (pq_Sh L, pn F', pl G, pq_rt h) (pPost n gr K s0 L F0 G h)) :
    ∀ m q (F : FF) (W : List Nat) (more : Nat) (z5 z6 z7 : Option Value), 13825 ≤ q + m → q ≤ W.length → pQ n gr K s0 c W q F → pT c U Mx more F → ag F F0 →
    pq_Ev (d + 2) 146 127 [some (.ref 63), some (.int (nI more)), some (.int (nI c)), some (.int (nI W.length)), some (.int (nI q)), z5, z6, z7] [] (pq_Sh L, pn F, pl G, pq_rt h) (pPost n gr K s0 L F0 G h) := by
  have hB := K_le hK
  intro m
  have hlen : ∀ (F : FF) (W : List Nat) q, pQ n gr K s0 c W q F → W.length ≤ 64 * 6 ^ K := fun F W q hQ => nd_len _ W hQ.2.2.2.2.1 (fun x hx => by
      obtain ⟨i, hi⟩ := List.getElem?_of_mem hx
      exact (hQ.2.2.2.1 i x hi).1)
  induction m with
  | zero =>
    intro q F W more z5 z6 z7 h1 h2 hQ
    have := hlen F W q hQ
    omega
  | succ m ih =>
    intro q F W more z5 z6 z7 h1 h2 hQ hT ha
    have hlW := hlen F W q hQ
    refine E_fo 5 ?_
    (repeat (first | refine E_st rfl ?_ | refine E_go rfl ?_))
    by_cases cq : q < W.length
    case neg =>
      refine E_nif rfl (nI_nlt (by omega) (by omega)) ?_
      (iterate 2 (first | refine E_st rfl ?_ | refine E_go rfl ?_))
      rw [nI_add]
      refine C F more _ _ _ _ _ ?_ hT ha
      obtain ⟨p, q1, q2, q3, q4, q5⟩ := hQ
      refine ⟨p, fun x hx z => ⟨(q1 x hx z).1, by have := (q1 x hx z).2; omega⟩, fun x hx z1 z2 => q2 x hx z1 (by omega), fun s hs z => q5 s hs z (fun i hi z2 => ?_)⟩
      have := (List.getElem?_eq_some_iff.mp z2).1
      omega
    refine E_if rfl (nI_lt cq (by omega)) ?_
    have hW : W[q]? = some W[q] := List.getElem?_eq_getElem cq
    generalize W[q] = s at hW
    obtain ⟨hs, w2, w3⟩ := hQ.2.2.2.1 q s hW
    (iterate 3 (first | refine E_st rfl ?_ | refine E_go rfl ?_))
    refine E_ial rfl rfl (n := 32768) (by omega) (by decide) ?_
    rw [w2]
    (iterate 2 (first | refine E_st rfl ?_ | refine E_go rfl ?_))
    rw [zi_and, md_63]
    by_cases c0 : s % 64 = 0
    · refine E_if rfl (by rw [c0]; rfl) ?_
      (repeat (first | refine E_st rfl ?_ | refine E_go rfl ?_))
      exact E_rt rfl ⟨some c, pQ_min hn hK hs0 (by omega) hQ hW c0, rfl, F, rfl, ha⟩
    · have : s % 64 < 64 := Nat.mod_lt _ (by decide)
      refine E_nif rfl (nI_ne0 (by omega) (by omega)) ?_
      (iterate 2 (first | refine E_st rfl ?_ | refine E_go rfl ?_))
      refine l_pmM hn hK hg h1K hc hs ?_ (6 ^ K) 0 F W more _ _ (by omega) hQ hT hW ha (fun j' hj' => absurd hj' (Nat.not_lt_zero _))
      intro F' W' more' y6 y7 hQ' hT' hW' ha' hd'
      have hq' := (List.getElem?_eq_some_iff.mp hW').1
      (iterate 2 (first | refine E_st rfl ?_ | refine E_go rfl ?_))
      rw [nI_add]
      refine ih (q + 1) F' W' more' _ y6 y7 (by omega) (by omega) ?_ hT' ha'
      obtain ⟨p, q1, q2, q3, q4, q5⟩ := hQ'
      refine ⟨p, q1, q2, q3, q4, fun s' hs' z hz => ?_⟩
      by_cases e : s' = s
      · subst e
        refine ⟨c0, fun t w ht => ?_⟩
        obtain ⟨mv, a1, a2, a3⟩ := sc2_mem.mp ht
        have := hd' mv a1 t a2
        rw [(q3 q s' hW').2.2, a3]
        exact this
      · refine q5 s' hs' z (fun i hi z2 => ?_)
        by_cases e2 : i = q
        · subst e2
          rw [hW'] at z2
          cases z2
          exact e rfl
        · exact hz i (by omega) z2
/-- the scan for what has the present price -/
def sS (n : Nat) (gr : Nat → Nat) (K c x : Nat) (W : List Nat) (F Fx : FF) (more : Nat) : Prop := (∀ p j, ¬ p = 71 → ¬ p = 72 → Fx p j = F p j) ∧ (∀ y, Fx 71 y = if y < x ∧ F 70 y = c then 1 else F 71 y) ∧ (∀ (i s : Nat), W[i]? = some s → s < 64 * 6 ^ K ∧ Fx 72 i = md K s ∧ F 70 (md K s) = c ∧ md K s < x) ∧ W.Nodup ∧ (∀ y, y < x → F 70 y = c → ∃ s, s ∈ W ∧ md K s = y) ∧ (more = 0 ∨ more = 1) ∧ (more = 0 → ∀ y, y < x → ¬ F 70 y = N1 → F 70 y ≤ c) ∧ (more = 1 → ∃ y, y < x ∧ ¬ F 70 y = N1 ∧ c < F 70 y)
set_option maxRecDepth 8000 in
theorem l_pmS {c : Nat} {F : FF} (hK : K ≤ 3) (hc : c < 2 ^ 19) (hH : pH n gr K s0 c F) {Post : Option Value → pq_M → Prop}
    (C : ∀ (Fx : FF) (W : List Nat) (more : Nat), sS n gr K c 32768 W F Fx more → pq_Ev d 146 124 [some (.ref 63), some (.int (nI more)), some (.int (nI c)), some (.int (nI W.length)), some (.int (nI 32768)), none, none, none] [] (pq_Sh L, pn Fx, pl G, pq_rt h) Post) :
    ∀ m x (Fx : FF) (W : List Nat) (more : Nat), x + m = 32768 → sS n gr K c x W F Fx more → pq_Ev d 146 50 [some (.ref 63), some (.int (nI more)), some (.int (nI c)), some (.int (nI W.length)), some (.int (nI x)), none, none, none] [] (pq_Sh L, pn Fx, pl G, pq_rt h) Post := by
  have hB := K_le hK
  obtain ⟨⟨p1, p2, p3⟩, k1, k2, k3⟩ := hH
  have hcN : ¬ c = N1 := fun z => by have z : c = 4294967295 := z; omega
  intro m
  induction m with
  | zero =>
    intro x Fx W more hx hS
    have hx : x = 32768 := by omega
    subst hx
    (repeat (first | refine E_st rfl ?_ | refine E_go rfl ?_))
    refine E_nif rfl (by decide) ?_
    exact C Fx W more hS
  | succ m ih =>
    intro x Fx W more hx hS
    obtain ⟨s1, s2, s3, s4, s5, s6, s7, s8⟩ := hS
    have hv : F 70 x < 2 ^ 32 := by
      rcases p2 x (by omega) with z | z
      · rw [z]; decide
      · omega
    have f70 : Fx 70 x = F 70 x := s1 70 x (by decide) (by decide)
    have hlW : W.length ≤ 64 * 6 ^ K := nd_len _ W s4 (fun y hy => by
      obtain ⟨i, hi⟩ := List.getElem?_of_mem hy
      exact (s3 i y hi).1)
    have REST : ∀ more' : Nat, (more' = 0 ∨ more' = 1) → (more' = 0 → ∀ y, y < x + 1 → ¬ F 70 y = N1 → F 70 y ≤ c) → (more' = 1 → ∃ y, y < x + 1 ∧ ¬ F 70 y = N1 ∧ c < F 70 y) →
        pq_Ev d 146 78 [some (.ref 63), some (.int (nI more')), some (.int (nI c)), some (.int (nI W.length)), some (.int (nI x)), none, none, none] [] (pq_Sh L, pn Fx, pl G, pq_rt h) Post := by
      intro more' m1 m2 m3
      (iterate 3 (first | refine E_st rfl ?_ | refine E_go rfl ?_))
      refine E_ial rfl rfl (n := 32768) (by omega) (by decide) ?_
      rw [f70]
      (repeat (first | refine E_st rfl ?_ | refine E_go rfl ?_))
      by_cases ce : F 70 x = c
      case neg =>
        refine E_nif rfl (fun z => ce ((zi_eq hv (by omega)).mp z)) ?_
        (iterate 2 (first | refine E_st rfl ?_ | refine E_go rfl ?_))
        rw [nI_add]
        refine ih (x + 1) Fx W more' (by omega) ⟨s1, fun y => ?_, fun i s hi => ?_, s4, fun y hy he => ?_, m1, m2, m3⟩
        · rw [s2 y]
          by_cases e : y = x
          · subst e
            rw [if_neg (fun z => ce z.2), if_neg (fun z => ce z.2)]
          · by_cases c1 : y < x ∧ F 70 y = c
            · rw [if_pos c1, if_pos ⟨by omega, c1.2⟩]
            · rw [if_neg c1, if_neg (fun z => c1 ⟨by omega, z.2⟩)]
        · obtain ⟨a1, a2, a3, a4⟩ := s3 i s hi
          exact ⟨a1, a2, a3, by omega⟩
        · by_cases e : y = x
          · subst e; exact absurd he ce
          · exact s5 y (by omega) he
      refine E_if rfl (by rw [ce]) ?_
      have h71 : Fx 71 x = 0 := by
        rw [s2 x, if_neg (fun z => absurd z.1 (Nat.lt_irrefl _))]
        have a := p1 x (by omega)
        have b : ¬ F 71 x = 1 := fun z => by have := (k1 x (by omega) z).2; omega
        omega
      obtain ⟨s, hsB, hsx, _⟩ := (p2 x (by omega)).resolve_left (by rw [ce]; exact hcN) |>.2
      (iterate 3 (first | refine E_st rfl ?_ | refine E_go rfl ?_))
      refine E_ial rfl rfl (n := 32768) (by omega) (by decide) ?_
      rw [h71]
      refine E_if rfl rfl ?_
      (iterate 4 (first | refine E_st rfl ?_ | refine E_go rfl ?_))
      refine E_ias rfl rfl (n := 32768) (by omega) (by decide) (by decide) ?_
      (iterate 4 (first | refine E_st rfl ?_ | refine E_go rfl ?_))
      refine E_ias rfl rfl (n := 32768) (by omega) (by decide) (by decide) ?_
      (iterate 3 (first | refine E_st rfl ?_ | refine E_go rfl ?_))
      rw [nI_add, nI_add]
      have hsW : ¬ s ∈ W := fun z => by
        obtain ⟨i, hi⟩ := List.getElem?_of_mem z
        have := (s3 i s hi).2.2.2
        omega
      have hl2 : W.length + 1 = (W ++ [s]).length := by rw [List.length_append, List.length_singleton]
      rw [hl2]
      refine ih (x + 1) _ (W ++ [s]) more' (by omega) ⟨fun p j h1 h2 => ?_, fun y => ?_, fun i t hi => ?_, ?_, fun y hy he => ?_, m1, m2, m3⟩
      · rw [pu_off h2, pu_off h1]; exact s1 p j h1 h2
      · rw [pu_off (by decide), pu_at]
        by_cases e : y = x
        · subst e
          rw [if_pos ⟨rfl, rfl⟩, if_pos ⟨by omega, ce⟩]
        · rw [if_neg (fun z => e z.2), s2 y]
          by_cases c1 : y < x ∧ F 70 y = c
          · rw [if_pos c1, if_pos ⟨by omega, c1.2⟩]
          · rw [if_neg c1, if_neg (fun z => c1 ⟨by omega, z.2⟩)]
      · rw [List.getElem?_append] at hi
        split at hi
        · rename_i hl
          obtain ⟨a1, a2, a3, a4⟩ := s3 i t hi
          refine ⟨a1, ?_, a3, by omega⟩
          rw [pu_at, if_neg (by omega), pu_off (by decide)]; exact a2
        · rename_i hl
          have h2 := (List.getElem?_eq_some_iff.mp hi).1
          simp only [List.length_singleton] at h2
          have h3 : i - W.length = 0 := by omega
          rw [h3] at hi
          simp only [List.getElem?_cons_zero, Option.some.injEq] at hi
          subst hi
          have : i = W.length := by omega
          subst this
          exact ⟨hsB, by rw [pu_at, if_pos ⟨rfl, rfl⟩, hsx], by rw [hsx]; exact ce, by rw [hsx]; omega⟩
      · rw [List.nodup_append]
        refine ⟨s4, by simp, ?_⟩
        intro a ha b hb
        rw [List.mem_singleton] at hb
        rw [hb]
        exact fun e => hsW (e ▸ ha)
      · by_cases e : y = x
        · exact ⟨s, by simp, by rw [e]; exact hsx⟩
        · obtain ⟨t, t1, t2⟩ := s5 y (by omega) he
          exact ⟨t, List.mem_append_left _ t1, t2⟩
    (repeat (first | refine E_st rfl ?_ | refine E_go rfl ?_))
    refine E_if rfl (nI_lt (by omega) (by decide)) ?_
    (repeat (first | refine E_st rfl ?_ | refine E_go rfl ?_))
    rcases s6 with rfl | rfl
    · refine E_if rfl rfl ?_
      (iterate 3 (first | refine E_st rfl ?_ | refine E_go rfl ?_))
      refine E_ial rfl rfl (n := 32768) (by omega) (by decide) ?_
      rw [f70]
      (repeat (first | refine E_st rfl ?_ | refine E_go rfl ?_))
      by_cases cb : ¬ F 70 x = N1 ∧ c < F 70 x
      · have hv2 : F 70 x < 2 ^ 20 := ((p2 x (by omega)).resolve_left cb.1).1
        refine E_if rfl (nI_lt cb.2 (by omega)) ?_
        (iterate 3 (first | refine E_st rfl ?_ | refine E_go rfl ?_))
        exact REST 1 (Or.inr rfl) (fun z => by omega) (fun _ => ⟨x, by omega, cb.1, cb.2⟩)
      · refine E_nif rfl ?_ ?_
        · rcases p2 x (by omega) with z | ⟨z, _⟩
          · rw [z, ← zm1]
            exact Int32.not_lt.mpr (Int32.le_trans (by decide) (nI_pos' (by omega)))
          · refine nI_nlt ?_ (by omega)
            have : ¬ F 70 x = N1 := fun z2 => by rw [z2] at z; exact absurd z (by decide)
            have : ¬ c < F 70 x := fun z2 => cb ⟨this, z2⟩
            omega
        · (iterate 2 (first | refine E_st rfl ?_ | refine E_go rfl ?_))
          refine REST 0 (Or.inl rfl) (fun _ y hy hyN => ?_) (fun z => by omega)
          by_cases e : y = x
          · subst e
            have : ¬ c < F 70 y := fun z2 => cb ⟨hyN, z2⟩
            omega
          · exact s7 rfl y (by omega) hyN
    · refine E_nif rfl (by decide) ?_
      (iterate 3 (first | refine E_st rfl ?_ | refine E_go rfl ?_))
      refine REST 1 (Or.inr rfl) (fun z => by omega) (fun _ => ?_)
      obtain ⟨y, y1, y2⟩ := s8 rfl
      exact ⟨y, by omega, y2⟩
theorem sS_pQ {c U Mx more : Nat} {F Fx : FF} {W : List Nat} (hK : K ≤ 3) (hcN : ¬ c = N1) (hH : pH n gr K s0 c F) (hS : sS n gr K c 32768 W F Fx more) (hU : cnU F ≤ U) (hM : ∀ x, x < 32768 → ¬ F 70 x = N1 → F 70 x ≤ Mx) : pQ n gr K s0 c W 0 Fx ∧ pT c U Mx more Fx := by
  obtain ⟨⟨p1, p2, p3⟩, k1, k2, k3⟩ := hH
  obtain ⟨s1, s2, s3, s4, s5, s6, s7, s8⟩ := hS
  have f70 : ∀ x, Fx 70 x = F 70 x := fun x => s1 70 x (by decide) (by decide)
  refine ⟨⟨⟨fun x hx => ?_, fun x hx => ?_, ?_⟩, fun x hx z => ?_, fun x hx z1 z2 => ?_, fun i s hi => ?_, s4, fun s hs z hz => ?_⟩, s6, fun z => ?_, ?_⟩
  · rw [s2]; split
    · exact Nat.le_refl _
    · exact p1 x hx
  · rw [f70]; exact p2 x hx
  · rw [f70]; exact p3
  · rw [f70]
    rw [s2] at z
    by_cases e : F 70 x = c
    · rcases p2 x hx with w | w
      · exact absurd (e.symm.trans w) hcN
      · exact ⟨fun w2 => by rw [w2] at w; exact absurd w.1 (by decide), by omega⟩
    · rw [if_neg (fun w => e w.2)] at z
      have := k1 x hx z
      exact ⟨this.1, by omega⟩
  · rw [f70] at z1 z2
    rw [s2]
    by_cases e : F 70 x = c
    · rw [if_pos ⟨hx, e⟩]
    · rw [if_neg (fun w => e w.2)]
      exact k2 x hx z1 (by omega)
  · obtain ⟨a1, a2, a3, a4⟩ := s3 i s hi
    exact ⟨a1, a2, by rw [f70]; exact a3⟩
  · have hne : ¬ F 70 (md K s) = c := by
      intro e
      obtain ⟨t, t1, t2⟩ := s5 (md K s) (md_lt hK s) e
      obtain ⟨i, hi⟩ := List.getElem?_of_mem t1
      have : t = s := md_inj (s3 i t hi).1 hs t2
      subst this
      exact hz i (Nat.zero_le _) hi
    rw [s2, if_neg (fun w => hne w.2)] at z
    obtain ⟨a1, a2⟩ := k3 s hs z
    refine ⟨a1, fun t w ht => ?_⟩
    rw [f70, f70]
    exact a2 t w ht
  · intro x hx w
    rw [f70] at w ⊢
    exact s7 z x hx w
  · left
    refine ⟨?_, fun x hx w => ?_, fun z => ?_⟩
    · have : cnU Fx = cnU F := by unfold cnU; simp only [f70]
      rw [this]; exact hU
    · rw [f70] at w ⊢; exact hM x hx w
    · obtain ⟨y, y1, y2, y3⟩ := s8 z
      have := hM y y1 y2
      omega
end MOS
