/-! the model: planMoves -/
def zr (F : FF) (k : Nat) : FF := fun p j => if p = 71 ∧ j < k then 0 else F p j
section MOT
variable {d L n K s0 : Nat} {gr : Nat → Nat} {F F0 G : FF} {h : Nat → Nat}
set_option maxRecDepth 8000 in
theorem l_pmI {c U Mx : Nat} {z3 z4 z5 z6 z7 : Option Value} (hn : n ≤ 6) (hK : K ≤ 3) (hg : GF n gr F0) (h1K : F0 64 1 = K) (hs0 : s0 < 64 * 6 ^ K) (hc : c < 2 ^ 19) (hH : pH n gr K s0 c F) (hU : cnU F ≤ U) (hM : ∀ x, x < 32768 → ¬ F 70 x = N1 → F 70 x ≤ Mx) (ha : ag F F0)
    (C : ∀ (F' : FF) (more nq : Nat) (z4 z5 z6 z7 : Option Value), pH n gr K s0 (c + 1) F' → pT c U Mx more F' → ag F' F0 → pq_Ev (d + 2) 146 39 [some (.ref 63), some (.int (nI more)), some (.int (nI (c + 1))), some (.int (nI nq)), z4, z5, z6, z7] [] (pq_Sh L, pn F', pl G, pq_rt h) (pPost n gr K s0 L F0 G h)) :
    pq_Ev (d + 2) 146 39 [some (.ref 63), some (.int (nI 1)), some (.int (nI c)), z3, z4, z5, z6, z7] [] (pq_Sh L, pn F, pl G, pq_rt h) (pPost n gr K s0 L F0 G h) := by
  have hcN : ¬ c = N1 := fun z => by have z : c = 4294967295 := z; omega
  have hS0 : sS n gr K c 0 [] F F 0 := by
    refine ⟨fun _ _ _ _ => rfl, fun y => by rw [if_neg (fun z => absurd z.1 (Nat.not_lt_zero _))], fun i s hi => ?_, by simp, fun y hy => absurd hy (Nat.not_lt_zero _), Or.inl rfl, fun _ y hy => absurd hy (Nat.not_lt_zero _), fun z => by omega⟩
    cases hi
  refine E_fo 3 (E_fo 4 (E_fo 5 (E_fo 6 (E_fo 7 ?_))))
  (iterate 1 (first | refine E_st rfl ?_ | refine E_go rfl ?_))
  refine E_nif rfl (by decide) ?_
  (iterate 6 (first | refine E_st rfl ?_ | refine E_go rfl ?_))
  refine l_pmS hK hc hH ?_ 32768 0 F [] 0 rfl hS0
  intro Fx W more hS
  obtain ⟨hQ, hT⟩ := sS_pQ hK hcN hH hS hU hM
  (iterate 2 (first | refine E_st rfl ?_ | refine E_go rfl ?_))
  refine l_pmQ hn hK hg h1K hs0 hc C 13825 0 Fx W more none none none (by omega) (Nat.zero_le _) hQ hT ?_
  intro p j hp
  rw [hS.1 p j (by omega) (by omega)]
  exact ha p j hp
set_option maxRecDepth 8000 in
theorem l_pmX {c : Nat} {z3 z4 z5 z6 z7 : Option Value} (hn : n ≤ 6) (hK : K ≤ 3) (hs0 : s0 < 64 * 6 ^ K) (hH : pH n gr K s0 c F) (hall : ∀ x, x < 32768 → ¬ F 70 x = N1 → F 70 x < c) (ha : ag F F0) :
    pq_Ev d 146 39 [some (.ref 63), some (.int (nI 0)), some (.int (nI c)), z3, z4, z5, z6, z7] [] (pq_Sh L, pn F, pl G, pq_rt h) (pPost n gr K s0 L F0 G h) := by
  (iterate 1 (first | refine E_st rfl ?_ | refine E_go rfl ?_))
  refine E_if rfl rfl ?_
  (repeat (first | refine E_st rfl ?_ | refine E_go rfl ?_))
  exact E_rt rfl ⟨none, pH_min hn hK hs0 hH hall, rfl, F, rfl, ha⟩
theorem l_pmC (hn : n ≤ 6) (hK : K ≤ 3) (hg : GF n gr F0) (h1K : F0 64 1 = K) (hs0 : s0 < 64 * 6 ^ K) : ∀ m c U Mx (F : FF) (z3 z4 z5 z6 z7 : Option Value), 4 * U + (Mx + 1 - c) ≤ m → c + m ≤ 200000 → pH n gr K s0 c F → cnU F ≤ U → (∀ x, x < 32768 → ¬ F 70 x = N1 → F 70 x ≤ Mx) → ag F F0 → pq_Ev (d + 2) 146 39 [some (.ref 63), some (.int (nI 1)), some (.int (nI c)), z3, z4, z5, z6, z7] [] (pq_Sh L, pn F, pl G, pq_rt h) (pPost n gr K s0 L F0 G h) := by
  intro m
  induction m using Nat.strongRecOn with
  | _ m ih =>
    intro c U Mx F z3 z4 z5 z6 z7 hm hcm hH hU hM ha
    refine l_pmI hn hK hg h1K hs0 (by omega) hH hU hM ha ?_
    intro F' more nq y4 y5 y6 y7 hH' hT' ha'
    obtain ⟨t1, t2, t3⟩ := hT'
    rcases t1 with rfl | rfl
    · exact l_pmX hn hK hs0 hH' (fun x hx z => by have := t2 rfl x hx z; omega) ha'
    · rcases t3 with ⟨a1, a2, a3⟩ | ⟨a1, a2⟩
      · have := a3 rfl
        exact ih (m - 1) (by omega) (c + 1) U Mx F' _ y4 y5 y6 y7 (by omega) (by omega) hH' a1 a2 ha'
      · by_cases cm : Mx ≤ c + 3
        · exact ih (m - 1) (by omega) (c + 1) (U - 1) (c + 3) F' _ y4 y5 y6 y7 (by omega) (by omega) hH' (by omega) (fun x hx z => by rcases a2 x hx z with w | w <;> omega) ha'
        · exact ih (m - 1) (by omega) (c + 1) (U - 1) Mx F' _ y4 y5 y6 y7 (by omega) (by omega) hH' (by omega) (fun x hx z => by rcases a2 x hx z with w | w <;> omega) ha'
theorem zr_s (k : Nat) : pq_u (zr F k) 71 k 0 = zr F (k + 1) := by
  funext p j
  simp only [pu_at, zr]
  by_cases c : p = 71 ∧ j = k
  · rw [if_pos c, if_pos ⟨c.1, by omega⟩]
  · rw [if_neg c]
    by_cases c2 : p = 71 ∧ j < k
    · rw [if_pos c2, if_pos ⟨c2.1, by omega⟩]
    · rw [if_neg c2, if_neg (by omega)]
theorem zr_0 : zr F 0 = F := by funext p j; simp only [zr]; rw [if_neg (by omega)]
set_option maxRecDepth 8000 in
theorem l_pmZ {Post : Option Value → pq_M → Prop} (C : pq_Ev d 146 39 [some (.ref 63), some (.int (nI 1)), some (.int (nI 0)), none, none, none, none, none] [] (pq_Sh L, pn (zr F 32768), pl G, pq_rt h) Post) : ∀ m k, k + m = 32768 → pq_Ev d 146 18 [some (.ref 63), some (.int (nI 1)), some (.int (nI k)), none, none, none, none, none] [] (pq_Sh L, pn (zr F k), pl G, pq_rt h) Post := by
  intro m
  induction m with
  | zero =>
    intro k hk
    have hk : k = 32768 := by omega
    subst hk
    (repeat (first | refine E_st rfl ?_ | refine E_go rfl ?_))
    refine E_nif rfl (by decide) ?_
    (iterate 2 (first | refine E_st rfl ?_ | refine E_go rfl ?_))
    exact C
  | succ m ih =>
    intro k hk
    (repeat (first | refine E_st rfl ?_ | refine E_go rfl ?_))
    refine E_if rfl (nI_lt (by omega) (by decide)) ?_
    (iterate 4 (first | refine E_st rfl ?_ | refine E_go rfl ?_))
    refine E_ias rfl rfl (n := 32768) (by omega) (by decide) (by decide) ?_
    rw [zr_s]
    (iterate 2 (first | refine E_st rfl ?_ | refine E_go rfl ?_))
    rw [nI_add]
    exact ih (k + 1) (by omega)
set_option maxRecDepth 8000 in
theorem g_planMoves (hg : gOk F) (hK : F 64 1 = K) (hB : s0 < 64 * 6 ^ K) (h1 : s0 % 64 = F 64 (la F)) (h2 : ∀ k, k < K → sitPos K s0 k = F 64 (11 + k)) :
    pq_Ca (d + 4) 146 [.ref 63] (pq_Sh L, pn F, pl G, pq_rt h) (fun r M' => ∃ o : Option Nat, isMin (Rcc (sc2 (F 64 0) (fun u => F 64 (5 + u)) K) s0) o ∧ r = some (.int (oI o)) ∧ ∃ F' : FF, M' = (pq_Sh L, pn F', pl G, pq_rt h) ∧ ag2 F' F) := by
  obtain ⟨g0, g1, g2, g3, g4, g5, g6, g7, g8, g9, g10, g11, g12, g13, g14, g15, g16, g17, g18, g19⟩ := hg
  have hK3 : K ≤ 3 := by omega
  have hmd := md_lt hK3 s0
  have f64 : ∀ j, clF (lvM F 5 11 14 6 3) 70 32768 64 j = F 64 j := fun j => by unfold clF; rw [if_neg (by omega), lv64]
  have hnow := g_now (d := d) (L := L) (F := clF (lvM F 5 11 14 6 3) 70 32768) (G := G) (h := h) (by rw [f64]; exact g2) (by rw [f64]; exact g15) (by rw [f64]; exact g16)
  rw [show la (clF (lvM F 5 11 14 6 3) 70 32768) = la F by unfold la; rw [f64], f64, f64, hK, md_of (K := K) (s0 := s0) (pos := fun k => clF (lvM F 5 11 14 6 3) 70 32768 64 (11 + k)) h1 (fun k hk => by rw [f64]; exact h2 k hk)] at hnow
  have o64 : ∀ j, zr (pq_u (clF (lvM F 5 11 14 6 3) 70 32768) 70 (md K s0) 0) 32768 64 j = F 64 j := fun j => by
    unfold zr
    rw [if_neg (by omega), pu_off (by decide), f64]
  have hGF : GF (F 64 0) (fun u => F 64 (5 + u)) (zr (pq_u (clF (lvM F 5 11 14 6 3) 70 32768) 70 (md K s0) 0) 32768) := by
    refine ⟨o64 0, fun u hu => ⟨o64 _, ?_, g6 u hu⟩⟩
    unfold zr
    rw [if_neg (by omega), pu_off (by decide)]
    unfold clF
    rw [if_neg (by omega), lv69 hu]
  have v70 : ∀ x, x < 32768 → zr (pq_u (clF (lvM F 5 11 14 6 3) 70 32768) 70 (md K s0) 0) 32768 70 x = if x = md K s0 then 0 else N1 := by
    intro x hx
    unfold zr
    rw [if_neg (by omega), pu_at]
    by_cases e : x = md K s0
    · rw [if_pos ⟨rfl, e⟩, if_pos e]
    · rw [if_neg (fun z => e z.2), if_neg e]
      unfold clF
      rw [if_pos ⟨rfl, hx⟩]
  have v71 : ∀ x, x < 32768 → zr (pq_u (clF (lvM F 5 11 14 6 3) 70 32768) 70 (md K s0) 0) 32768 71 x = 0 := by
    intro x hx
    unfold zr
    rw [if_pos ⟨rfl, hx⟩]
  have hH : pH (F 64 0) (fun u => F 64 (5 + u)) K s0 0 (zr (pq_u (clF (lvM F 5 11 14 6 3) 70 32768) 70 (md K s0) 0) 32768) := by
    refine ⟨⟨fun x hx => by rw [v71 x hx]; omega, fun x hx => ?_, by rw [v70 _ hmd, if_pos rfl]⟩, fun x hx z => by rw [v71 x hx] at z; omega, fun x hx _ z => by omega, fun s hs z => by rw [v71 _ (md_lt hK3 s)] at z; omega⟩
    rw [v70 x hx]
    by_cases e : x = md K s0
    · rw [if_pos e]; exact Or.inr ⟨by decide, s0, hB, e.symm, Rcc_0 _ _⟩
    · rw [if_neg e]; exact Or.inl rfl
  have hL := l_pmC (d := d + 1) (L := L) (G := G) (h := h) g1 hK3 hGF (by rw [o64]; exact hK) hB 131073 0 32768 0 _ none none none none none (by omega) (by omega) hH (cn_N _) (fun x hx z => by
    rw [v70 x hx] at z ⊢
    by_cases e : x = md K s0
    · rw [if_pos e]; exact Nat.le_refl _
    · rw [if_neg e] at z; exact absurd rfl z) (fun _ _ _ => rfl)
  have hZ := l_pmZ (d := d + 3) (L := L) (G := G) (h := h) (F := pq_u (clF (lvM F 5 11 14 6 3) 70 32768) 70 (md K s0) 0) hL 32768 0 rfl
  rw [zr_0] at hZ
  have hfin : pq_Ca (d + 4) 146 [.ref 63] (pq_Sh L, pn F, pl G, pq_rt h) (pPost (F 64 0) (fun u => F 64 (5 + u)) K s0 L (zr (pq_u (clF (lvM F 5 11 14 6 3) 70 32768) 70 (md K s0) 0) 32768) G h) := by
    refine Ca_mk rfl rfl ?_
    (repeat (first | refine E_st rfl ?_ | refine E_go rfl ?_))
    refine E_cx rfl (by omega) (g_clears (d := 0)) ?_
    (repeat (first | refine E_st rfl ?_ | refine E_go rfl ?_))
    refine E_cx rfl (by omega) hnow ?_
    (iterate 1 (first | refine E_st rfl ?_ | refine E_go rfl ?_))
    refine E_ias rfl rfl (n := 32768) hmd (by decide) (by decide) ?_
    (iterate 4 (first | refine E_st rfl ?_ | refine E_go rfl ?_))
    exact hZ
  refine hfin.mono ?_
  rintro r M' ⟨o, a1, a2, F', a3, a4⟩
  refine ⟨o, a1, a2, F', a3, fun p j hp => ?_⟩
  rw [a4 p j (by omega)]
  unfold zr
  rw [if_neg (by omega), pu_off (by omega)]
  unfold clF
  rw [if_neg (by omega), lv_off (by omega)]
end MOT
