/-! the model's search is the breadth-first search -/
def MR (K : Nat) (F : FF) (Q : BQ) : Prop := (∀ (a : Nat) (e : BE), Q[a]? = some e → F 72 a = md K e.1) ∧ (∀ e : BE, e ∈ Q → F 70 (md K e.1) = e.2.2 ∧ (¬ e.2.1 = N2 → F 71 (md K e.1) = md K e.2.1)) ∧ (∀ x, x < 32768 → (∀ e : BE, e ∈ Q → ¬ md K e.1 = x) → F 70 x = N1)
def sucM (n : Nat) (gr : Nat → Nat) (K s : Nat) : List Nat := (List.range (6 ^ K)).filterMap (mvS n gr K s)
def ag (F F0 : FF) : Prop := ∀ p j, (p < 67 ∨ p = 69 ∨ 72 < p) → F p j = F0 p j
def GF (n : Nat) (gr : Nat → Nat) (F : FF) : Prop := F 64 0 = n ∧ ∀ u, u < 6 → F 64 (5 + u) = gr u ∧ F 69 u = gr u ∧ gr u < 64
theorem GF_ag {n : Nat} {gr : Nat → Nat} {F F0 : FF} (hg : GF n gr F0) (ha : ag F F0) : GF n gr F := by
  refine ⟨by rw [ha _ _ (by omega)]; exact hg.1, fun u hu => ?_⟩
  rw [ha _ _ (by omega), ha _ _ (by omega)]
  exact hg.2 u hu
theorem sucM_lt {n K : Nat} {gr : Nat → Nat} (hn : n ≤ 6) (s t : Nat) (ht : t ∈ sucM n gr K s) : t < 64 * 6 ^ K := by
  unfold sucM at ht
  rw [List.mem_filterMap] at ht
  obtain ⟨mv, h1, h2⟩ := ht
  exact mvS_lt hn (List.mem_range.mp h1) h2
theorem bI_dep {suc : Nat → List Nat} {S : Nat → Prop} {B i : Nat} {Q : BQ} (hI : bI suc S B i Q) : ∀ (c a : Nat) (e : BE), a ≤ c → Q[a]? = some e → e.2.2 ≤ a := by
  intro c
  induction c with
  | zero =>
    intro a e hc ha
    rcases hI.2.2.1 a e ha with h | ⟨b, e', h1, _⟩
    · rw [h.1]; exact Nat.zero_le _
    · omega
  | succ c ih =>
    intro a e hc ha
    rcases hI.2.2.1 a e ha with h | ⟨b, e', h1, h2, _, h4⟩
    · rw [h.1]; exact Nat.zero_le _
    · have := ih b e' (by omega) h2
      omega
theorem bI_depB {suc : Nat → List Nat} {S : Nat → Prop} {B i : Nat} {Q : BQ} {e : BE} (hI : bI suc S B i Q) (he : e ∈ Q) : e.2.2 ≤ B := by
  obtain ⟨a, ha⟩ := List.getElem?_of_mem he
  have := bI_dep hI a a e (Nat.le_refl _) ha
  have h2 := (List.getElem?_eq_some_iff.mp ha).1
  have := bI_len hI
  omega
theorem md_N2 {suc : Nat → List Nat} {S : Nat → Prop} {B i : Nat} {Q : BQ} {e : BE} (hI : bI suc S B i Q) (he : e ∈ Q) (h2 : ¬ e.2.2 = 0) (hB : B ≤ 13824) : ¬ e.2.1 = N2 := by
  obtain ⟨a, ha⟩ := List.getElem?_of_mem he
  rcases hI.2.2.1 a e ha with h | ⟨b, e', _, h1, h3, _⟩
  · exact absurd h.1 h2
  · rw [← h3]
    have := hI.2.1 e' (List.mem_of_getElem? h1)
    show ¬ e'.1 = 4294967294
    omega
section MOO
variable {d L n K B : Nat} {gr : Nat → Nat} {F0 G : FF} {h : Nat → Nat}
theorem l_srI {S : Nat → Prop} {q many : Nat} {e : BE} (hn : n ≤ 6) (hK : K ≤ 3) (hB : B = 64 * 6 ^ K) (hg : GF n gr F0) {Post : Option Value → pq_M → Prop} (heB : e.1 < B) :
    ∀ m j (Q : BQ) (F : FF) (z6 : Option Value), j + m = 6 ^ K → bI (sucM n gr K) S B q Q → Q[q]? = some e → MR K F Q → ag F F0 →
    (∀ (F' : FF) (z6 : Option Value), MR K F' (bfX e.1 (e.2.2 + 1) Q ((List.range' j m).filterMap (mvS n gr K e.1))) → ag F' F0 → pq_Ev (d + 2) 142 127 [some (.ref 63), some (.int (nI many)), some (.int (nI K)), some (.int (nI (bfX e.1 (e.2.2 + 1) Q ((List.range' j m).filterMap (mvS n gr K e.1))).length)), some (.int (nI q)), some (.int (nI (6 ^ K))), z6] [] (pq_Sh L, pn F', pl G, pq_rt h) Post) →
    pq_Ev (d + 2) 142 35 [some (.ref 63), some (.int (nI many)), some (.int (nI K)), some (.int (nI Q.length)), some (.int (nI q)), some (.int (nI j)), z6] [] (pq_Sh L, pn F, pl G, pq_rt h) Post := by
  have hB2 : B ≤ 13824 := by rw [hB]; exact K_le hK
  have h6K : 6 ^ K ≤ 216 := Nat.pow_le_pow_right (n := 6) (j := 3) (by decide) hK
  intro m
  induction m with
  | zero =>
    intro j Q F z6 hj hI he hM ha C
    have hj : j = 6 ^ K := by omega
    subst hj
    (repeat (first | refine E_st rfl ?_ | refine E_go rfl ?_))
    refine E_cx rfl (by omega) (g_moves (d := 0) hK) ?_
    refine E_nif rfl (nI_nlt (Nat.le_refl _) (by omega)) ?_
    exact C F z6 hM ha
  | succ m ih =>
    intro j Q F z6 hj hI he hM ha C
    have hlen := bI_len hI
    have hq := (List.getElem?_eq_some_iff.mp he).1
    have hgF := GF_ag hg ha
    have hmv := g_moved (d := d) (L := L) (F := F) (G := G) (h := h) (s := e.1) (mv := j) hgF.1 hn hgF.2 hK (by omega)
    have hmdlt := fun s => md_lt hK s
    refine E_fo 6 ?_
    (repeat (first | refine E_st rfl ?_ | refine E_go rfl ?_))
    refine E_cx rfl (by omega) (g_moves (d := 0) hK) ?_
    refine E_if rfl (nI_lt (by omega) (by omega)) ?_
    (iterate 4 (first | refine E_st rfl ?_ | refine E_go rfl ?_))
    refine E_ial rfl rfl (n := 32768) (by omega) (by decide) ?_
    rw [hM.1 q e he]
    (repeat (first | refine E_st rfl ?_ | refine E_go rfl ?_))
    refine E_ca rfl (by omega) hmv ?_
    rintro r M' ⟨rfl, F1, rfl, h1⟩
    have ha1 : ag F1 F0 := fun p j hp => by rw [h1 p j (by omega) (by omega)]; exact ha p j hp
    have hM1 : MR K F1 Q := ⟨fun a e h2 => by rw [h1 _ _ (by decide) (by decide)]; exact hM.1 a e h2, fun e h2 => by rw [h1 _ _ (by decide) (by decide), h1 _ _ (by decide) (by decide)]; exact hM.2.1 e h2, fun x hx h2 => by rw [h1 _ _ (by decide) (by decide)]; exact hM.2.2 x hx h2⟩
    rw [List.range'_succ, List.filterMap_cons] at C
    cases hx : mvS n gr K e.1 j with
    | none =>
      rw [hx] at C
      show pq_Ev (d + 2) 142 58 _ (.int (-1) :: _) _ _
      (repeat (first | refine E_st rfl ?_ | refine E_go rfl ?_))
      refine E_if rfl (by decide) ?_
      (iterate 2 (first | refine E_st rfl ?_ | refine E_go rfl ?_))
      rw [nI_add]
      exact ih (j + 1) Q F1 _ (by omega) hI he hM1 ha1 C
    | some x =>
      rw [hx] at C
      have hxB : x < B := by rw [hB]; exact mvS_lt hn (show j < 6 ^ K by omega) hx
      have hsuc : x ∈ sucM n gr K e.1 := List.mem_filterMap.mpr ⟨j, List.mem_range.mpr (by omega), hx⟩
      obtain ⟨b1, b2, -, -⟩ := bI_E hI he hsuc hxB
      have hmx := hmdlt x
      show pq_Ev (d + 2) 142 58 _ (.int (nI (md K x)) :: _) _ _
      (iterate 2 (first | refine E_st rfl ?_ | refine E_go rfl ?_))
      refine E_nif rfl (nI_pos (by omega)) ?_
      (iterate 3 (first | refine E_st rfl ?_ | refine E_go rfl ?_))
      refine E_ial rfl rfl (n := 32768) hmx (by decide) ?_
      by_cases c : bHas Q x = true
      · obtain ⟨e2, h2, h3⟩ := bHas_iff.mp c
        have hd := bI_depB hI h2
        have e3 : bfE e.1 (e.2.2 + 1) Q x = Q := by unfold bfE; rw [if_pos c]
        rw [show F1 70 (md K x) = e2.2.2 by rw [← h3]; exact (hM1.2.1 e2 h2).1]
        refine E_nif rfl (nI_pos (by omega)) ?_
        (iterate 2 (first | refine E_st rfl ?_ | refine E_go rfl ?_))
        rw [nI_add]
        refine ih (j + 1) Q F1 _ (by omega) hI he hM1 ha1 ?_
        have e4 : bfX e.1 (e.2.2 + 1) Q (x :: (List.range' (j + 1) m).filterMap (mvS n gr K e.1)) = bfX e.1 (e.2.2 + 1) Q ((List.range' (j + 1) m).filterMap (mvS n gr K e.1)) := by
          show bfX e.1 (e.2.2 + 1) (bfE e.1 (e.2.2 + 1) Q x) _ = _
          rw [e3]
        rw [← e4]
        exact C
      · have hne : ∀ e2 : BE, e2 ∈ Q → ¬ md K e2.1 = md K x := by
          intro e2 h2 h3
          have h4 := hI.2.1 e2 h2
          rw [hB] at h4 hxB
          exact c (bHas_iff.mpr ⟨e2, h2, md_inj h4 hxB h3⟩)
        have e3 : bfE e.1 (e.2.2 + 1) Q x = Q ++ [(x, e.1, e.2.2 + 1)] := by unfold bfE; rw [if_neg c]
        rw [hM1.2.2 (md K x) hmx hne, ← zm1]
        have hmem := List.mem_of_getElem? he
        have hde := bI_depB hI hmem
        have e5 : F1 72 q = md K e.1 := hM1.1 q e he
        have e6 : F1 70 (md K e.1) = e.2.2 := (hM1.2.1 e hmem).1
        have hl2 := bI_len b1
        rw [e3, List.length_append, List.length_singleton] at hl2
        refine E_if rfl (by decide) ?_
        (iterate 8 (first | refine E_st rfl ?_ | refine E_go rfl ?_))
        refine E_ial rfl rfl (n := 32768) (by omega) (by decide) ?_
        rw [e5]
        refine E_ial rfl rfl (n := 32768) (hmdlt e.1) (by decide) ?_
        rw [e6]
        (iterate 2 (first | refine E_st rfl ?_ | refine E_go rfl ?_))
        rw [nI_add]
        refine E_ias rfl rfl (n := 32768) hmx (by decide) (by decide) ?_
        (iterate 6 (first | refine E_st rfl ?_ | refine E_go rfl ?_))
        refine E_ial rfl rfl (n := 32768) (by omega) (by decide) ?_
        rw [pu_off (by decide), e5]
        refine E_ias rfl rfl (n := 32768) hmx (by decide) (by decide) ?_
        (iterate 4 (first | refine E_st rfl ?_ | refine E_go rfl ?_))
        refine E_ias rfl rfl (n := 32768) (by omega) (by decide) (by decide) ?_
        (iterate 3 (first | refine E_st rfl ?_ | refine E_go rfl ?_))
        rw [nI_add, nI_add]
        have hM2 : MR K (pq_u (pq_u (pq_u F1 70 (md K x) (e.2.2 + 1)) 71 (md K x) (md K e.1)) 72 Q.length (md K x)) (bfE e.1 (e.2.2 + 1) Q x) := by
          rw [e3]
          refine ⟨?_, ?_, ?_⟩
          · intro a e2 h2
            rcases ap_1 h2 with h2 | ⟨h2, h3⟩
            · have := (List.getElem?_eq_some_iff.mp h2).1
              rw [pu_at, if_neg (by omega), pu_off (by decide), pu_off (by decide)]
              exact hM1.1 a e2 h2
            · rw [pu_at, if_pos ⟨rfl, h2⟩, h3]
          · intro e2 h2
            rw [List.mem_append, List.mem_singleton] at h2
            rcases h2 with h2 | h2
            · rw [pu_off (by decide), pu_off (by decide), pu_at, if_neg (fun z => hne e2 h2 z.2), pu_off (by decide), pu_at, if_neg (fun z => hne e2 h2 z.2), pu_off (by decide)]
              exact hM1.2.1 e2 h2
            · rw [h2]
              refine ⟨?_, fun _ => ?_⟩
              · rw [pu_off (by decide), pu_off (by decide), pu_at, if_pos ⟨rfl, rfl⟩]
              · rw [pu_off (by decide), pu_at, if_pos ⟨rfl, rfl⟩]
          · intro y hy h2
            have h3 : ¬ md K x = y := h2 (x, e.1, e.2.2 + 1) (by simp)
            rw [pu_off (by decide), pu_off (by decide), pu_at, if_neg (fun z => h3 z.2.symm)]
            exact hM1.2.2 y hy (fun e2 h4 => h2 e2 (List.mem_append_left _ h4))
        have hlen2 : Q.length + 1 = (bfE e.1 (e.2.2 + 1) Q x).length := by rw [e3, List.length_append, List.length_singleton]
        rw [hlen2]
        refine ih (j + 1) _ _ _ (by omega) b1 b2 hM2 ?_ C
        intro p i hp
        rw [pu_off (by omega), pu_off (by omega), pu_off (by omega)]
        exact ha1 p i hp
/-- what the model's search leaves: the list so far -/
def mPost (n : Nat) (gr : Nat → Nat) (K : Nat) (Q0 : BQ) (F0 G : FF) (L : Nat) (h : Nat → Nat) (r : Option Value) (M' : pq_M) : Prop := ∃ (F' : FF) (i : Nat), M' = (pq_Sh L, pn F', pl G, pq_rt h) ∧ ag F' F0 ∧ MR K F' (bfQ (sucM n gr K) Q0 i) ∧ ((r = some (.int (-1)) ∧ fE (bfQ (sucM n gr K) Q0 i) = none ∧ (bfQ (sucM n gr K) Q0 i).length ≤ i) ∨ ∃ e : BE, fE (bfQ (sucM n gr K) Q0 i) = some e ∧ r = some (.int (nI (md K e.1))))
theorem l_sr {S : Nat → Prop} {many : Nat} {Q0 : BQ} (hn : n ≤ 6) (hK : K ≤ 3) (hg : GF n gr F0) (h0 : bI (sucM n gr K) S (64 * 6 ^ K) 0 Q0) :
    ∀ m q (F : FF) (z5 z6 : Option Value), 13825 ≤ q + m → q ≤ 13824 → MR K F (bfQ (sucM n gr K) Q0 q) → ag F F0 → (∀ (a : Nat) (e : BE), a < q → (bfQ (sucM n gr K) Q0 q)[a]? = some e → ¬ e.1 % 64 = 0) →
    pq_Ev (d + 2) 142 5 [some (.ref 63), some (.int (nI many)), some (.int (nI K)), some (.int (nI (bfQ (sucM n gr K) Q0 q).length)), some (.int (nI q)), z5, z6] [] (pq_Sh L, pn F, pl G, pq_rt h) (mPost n gr K Q0 F0 G L h) := by
  have hB := K_le hK
  have hQ : ∀ i, bI (sucM n gr K) S (64 * 6 ^ K) i (bfQ (sucM n gr K) Q0 i) := bI_Q (fun s t _ ht => sucM_lt hn s t ht) h0
  intro m
  induction m with
  | zero => intro q F z5 z6 h1 h2; omega
  | succ m ih =>
    intro q F z5 z6 h1 h2 hM ha hne
    have hlen := bI_len (hQ q)
    refine E_fo 5 ?_
    (repeat (first | refine E_st rfl ?_ | refine E_go rfl ?_))
    by_cases c : q < (bfQ (sucM n gr K) Q0 q).length
    case neg =>
      refine E_nif rfl (nI_nlt (by omega) (by omega)) ?_
      (repeat (first | refine E_st rfl ?_ | refine E_go rfl ?_))
      refine E_rt rfl ⟨F, q, rfl, ha, hM, Or.inl ⟨rfl, ?_, by omega⟩⟩
      unfold fE
      rw [List.find?_eq_none]
      intro e he
      obtain ⟨a, h3⟩ := List.getElem?_of_mem he
      have := (List.getElem?_eq_some_iff.mp h3).1
      have := hne a e (by omega) h3
      simpa using this
    refine E_if rfl (nI_lt c (by omega)) ?_
    have he : (bfQ (sucM n gr K) Q0 q)[q]? = some ((bfQ (sucM n gr K) Q0 q)[q]) := List.getElem?_eq_getElem c
    generalize (bfQ (sucM n gr K) Q0 q)[q] = e at he
    have heB := (hQ q).2.1 e (List.mem_of_getElem? he)
    (iterate 3 (first | refine E_st rfl ?_ | refine E_go rfl ?_))
    refine E_ial rfl rfl (n := 32768) (by omega) (by decide) ?_
    rw [hM.1 q e he]
    (iterate 2 (first | refine E_st rfl ?_ | refine E_go rfl ?_))
    rw [zi_and, md_63]
    by_cases c0 : e.1 % 64 = 0
    · refine E_if rfl (by rw [c0]; rfl) ?_
      (iterate 3 (first | refine E_st rfl ?_ | refine E_go rfl ?_))
      refine E_ial rfl rfl (n := 32768) (by omega) (by decide) ?_
      rw [hM.1 q e he]
      refine E_rt rfl ⟨F, q, rfl, ha, hM, Or.inr ⟨e, ?_, rfl⟩⟩
      unfold fE
      rw [List.find?_eq_some_iff_getElem]
      obtain ⟨hq, hq2⟩ := List.getElem?_eq_some_iff.mp he
      refine ⟨by simpa using c0, q, hq, hq2, ?_⟩
      intro a ha2
      have := hne a _ ha2 (List.getElem?_eq_getElem (by omega))
      simpa using this
    · have : e.1 % 64 < 64 := Nat.mod_lt _ (by decide)
      refine E_nif rfl (nI_ne0 (by omega) (by omega)) ?_
      (iterate 2 (first | refine E_st rfl ?_ | refine E_go rfl ?_))
      refine l_srI hn hK rfl hg heB (6 ^ K) 0 _ F _ (by omega) (hQ q) he hM ha ?_
      intro F' z6' hM' ha'
      have e1 : bfX e.1 (e.2.2 + 1) (bfQ (sucM n gr K) Q0 q) ((List.range' 0 (6 ^ K)).filterMap (mvS n gr K e.1)) = bfQ (sucM n gr K) Q0 (q + 1) := by
        rw [bfQ_some he, ← List.range_eq_range']
        rfl
      rw [e1] at hM' ⊢
      (iterate 2 (first | refine E_st rfl ?_ | refine E_go rfl ?_))
      rw [nI_add]
      by_cases c3 : q + 1 ≤ 13824
      · refine ih (q + 1) F' _ z6' (by omega) c3 hM' ha' ?_
        intro a e2 ha2 h3
        have h4 : (bfQ (sucM n gr K) Q0 q)[a]? = some e2 := by
          obtain ⟨R, hR⟩ := bfQ_pre (suc := sucM n gr K) (Q0 := Q0) q 1
          rw [hR, List.getElem?_append_left (by omega)] at h3
          exact h3
        by_cases c4 : a = q
        · subst c4
          rw [he] at h4
          cases h4
          exact c0
        · exact hne a e2 (by omega) h4
      · exfalso
        omega
theorem g_searches {S : Nat → Prop} {Q0 : BQ} (hn : n ≤ 6) (hK : K ≤ 3) (hg : GF n gr F0) (h0 : bI (sucM n gr K) S (64 * 6 ^ K) 0 Q0) (hM : MR K F0 Q0) : pq_Ca (d + 3) 142 [.ref 63, .int (nI Q0.length), .int (nI K)] (pq_Sh L, pn F0, pl G, pq_rt h) (mPost n gr K Q0 F0 G L h) := by
  have := l_sr (d := d) (L := L) (G := G) (h := h) (many := Q0.length) hn hK hg h0 13825 0 F0 none none (by omega) (by omega) hM (fun _ _ _ => rfl) (fun a e h1 => by omega)
  refine Ca_mk rfl rfl ?_
  (iterate 4 (first | refine E_st rfl ?_ | refine E_go rfl ?_))
  exact this
def mUp (F : FF) : Nat → Nat → Nat
  | 0, x => x
  | j + 1, x => mUp F j (F 71 x)
theorem MR_ch {suc : Nat → List Nat} {S : Nat → Prop} {F : FF} {i : Nat} {Q Z R : BQ} (hB : B ≤ 13824) (hI : bI suc S B i Q) (hM : MR K F Q) (hZ : Z = Q ++ R) (hn : (Z.map (fun e => e.1)).Nodup) : ∀ (c a : Nat) (e : BE), a ≤ c → Q[a]? = some e → ∀ j, j ≤ e.2.2 → mUp F j (md K e.1) = md K (bUp Z j e.1) ∧ F 70 (md K (bUp Z j e.1)) = e.2.2 - j := by
  intro c
  induction c with
  | zero =>
    intro a e hc ha j hj
    have h0 := bI_dep hI a a e (Nat.le_refl _) ha
    have : j = 0 := by omega
    subst this
    exact ⟨rfl, (hM.2.1 e (List.mem_of_getElem? ha)).1⟩
  | succ c ih =>
    intro a e hc ha j hj
    have hmem := List.mem_of_getElem? ha
    cases j with
    | zero => exact ⟨rfl, (hM.2.1 e hmem).1⟩
    | succ j =>
      have hne := md_N2 hI hmem (by omega) hB
      rcases hI.2.2.1 a e ha with h | ⟨b, e', h1, h2, h3, h4⟩
      · omega
      · have hp : bPar Z e.1 = e'.1 := by rw [bPar_mem hn (by rw [hZ]; exact List.mem_append_left _ hmem), h3]
        have z := ih b e' (by omega) h2 j (by omega)
        show mUp F j (F 71 (md K e.1)) = md K (bUp Z j (bPar Z e.1)) ∧ F 70 (md K (bUp Z j (bPar Z e.1))) = _
        rw [(hM.2.1 e hmem).2 hne, hp, ← h3]
        refine ⟨z.1, ?_⟩
        rw [z.2]; omega
/-- what the model's search has found, against the whole search -/
def mRes (K : Nat) (F : FF) (Z : BQ) (r : Option Value) : Prop := (fE Z = none ∧ r = some (.int (-1))) ∨ ∃ e : BE, fE Z = some e ∧ r = some (.int (nI (md K e.1))) ∧ e.2.2 ≤ 13824 ∧ ∀ j, j ≤ e.2.2 → mUp F j (md K e.1) = md K (bUp Z j e.1) ∧ F 70 (md K (bUp Z j e.1)) = e.2.2 - j
theorem m_res {S : Nat → Prop} {Q0 : BQ} (hn : n ≤ 6) (hK : K ≤ 3) (hg : GF n gr F0) (h0 : bI (sucM n gr K) S (64 * 6 ^ K) 0 Q0) (hM : MR K F0 Q0) : pq_Ca (d + 3) 142 [.ref 63, .int (nI Q0.length), .int (nI K)] (pq_Sh L, pn F0, pl G, pq_rt h) (fun r M' => ∃ F' : FF, M' = (pq_Sh L, pn F', pl G, pq_rt h) ∧ ag F' F0 ∧ mRes K F' (bZ (sucM n gr K) Q0) r) := by
  have hB := K_le hK
  have hQ : ∀ i, bI (sucM n gr K) S (64 * 6 ^ K) i (bfQ (sucM n gr K) Q0 i) := bI_Q (fun s t _ ht => sucM_lt hn s t ht) h0
  refine (g_searches (d := d) (L := L) (G := G) (h := h) hn hK hg h0 hM).mono ?_
  rintro r M' ⟨F', i, h1, h2, h3, h4⟩
  refine ⟨F', h1, h2, ?_⟩
  rcases h4 with ⟨h4, h5, h6⟩ | ⟨e, h4, h5⟩
  · refine Or.inl ⟨?_, h4⟩
    rw [bZ_cl (fun s t _ ht => sucM_lt hn s t ht) h0 hB h6]
    exact h5
  · obtain ⟨R, hz⟩ := bZ_pre (fun s t _ ht => sucM_lt hn s t ht) h0 hB i
    have hmem : e ∈ bfQ (sucM n gr K) Q0 i := List.mem_of_find?_eq_some h4
    obtain ⟨a, ha⟩ := List.getElem?_of_mem hmem
    refine Or.inr ⟨e, by rw [hz]; exact fE_app h4, h5, Nat.le_trans (bI_depB (hQ i) hmem) hB, ?_⟩
    exact MR_ch hB (hQ i) h3 hz (hQ 13824).1 a a e (Nat.le_refl _) ha
end MOO
