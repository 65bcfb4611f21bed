/-! the class's turn search is the breadth-first search, cut behind the first empty belief -/
def cutE : BQ → BQ
  | [] => []
  | e :: l => if e.1 % 64 = 0 then [e] else e :: cutE l
def fEn (Q : BQ) : Nat := match fE Q with
  | none => N1
  | some e => e.1
def CR (q B : Nat) (F : FF) (Q : BQ) : Prop := F q 6 = (cutE Q).length ∧ (∀ (a : Nat) (e : BE), (cutE Q)[a]? = some e → F (q + 3) a = e.1) ∧ (∀ e : BE, e ∈ cutE Q → F (q + 2) e.1 = e.2.1) ∧ (∀ s, s < B → bHas (cutE Q) s = false → F (q + 2) s = N1) ∧ F q 8 = fEn Q
def bPar (Z : BQ) (s : Nat) : Nat := match Z.find? (fun e => e.1 == s) with
  | none => 0
  | some e => e.2.1
def bUp (Z : BQ) : Nat → Nat → Nat
  | 0, s => s
  | j + 1, s => bUp Z j (bPar Z s)
theorem fE_nil : fE [] = none := rfl
theorem fE_cons (e : BE) (l : BQ) : fE (e :: l) = if e.1 % 64 = 0 then some e else fE l := by
  unfold fE
  rw [List.find?_cons]
  by_cases c : e.1 % 64 = 0
  · rw [if_pos c]; simp [c]
  · rw [if_neg c, show (e.1 % 64 == 0) = false by simpa using c]
theorem cutE_no : ∀ {Q : BQ} (R : BQ), fE Q = none → cutE (Q ++ R) = Q ++ cutE R := by
  intro Q
  induction Q with
  | nil => intro R _; rfl
  | cons e l ih =>
    intro R h
    rw [fE_cons] at h
    split at h
    · cases h
    · rename_i c
      show (if e.1 % 64 = 0 then [e] else e :: cutE (l ++ R)) = _
      rw [if_neg c, ih R h]
      rfl
theorem cutE_so : ∀ {Q : BQ} {x : BE} (R : BQ), fE Q = some x → cutE (Q ++ R) = cutE Q := by
  intro Q
  induction Q with
  | nil => intro x R h; cases h
  | cons e l ih =>
    intro x R h
    rw [fE_cons] at h
    show cutE (e :: (l ++ R)) = cutE (e :: l)
    unfold cutE
    split
    · rfl
    · rename_i c
      rw [if_neg c] at h
      rw [ih R h]
theorem cutE_id {Q : BQ} (h : fE Q = none) : cutE Q = Q := by
  have := cutE_no [] h
  rw [List.append_nil] at this
  rw [this]
  show Q ++ [] = Q
  rw [List.append_nil]
theorem cutE_pre : ∀ Q : BQ, ∃ R, Q = cutE Q ++ R := by
  intro Q
  induction Q with
  | nil => exact ⟨[], rfl⟩
  | cons e l ih =>
    unfold cutE
    split
    · exact ⟨l, rfl⟩
    · obtain ⟨R, h⟩ := ih
      exact ⟨R, by rw [List.cons_append, ← h]⟩
theorem cutE_mem : ∀ {Q : BQ} {e : BE}, fE Q = some e → e ∈ cutE Q := by
  intro Q
  induction Q with
  | nil => intro e h; cases h
  | cons x l ih =>
    intro e h
    rw [fE_cons] at h
    unfold cutE
    split
    · rename_i c
      rw [if_pos c] at h
      cases h
      exact List.mem_singleton.mpr rfl
    · rename_i c
      rw [if_neg c] at h
      exact List.mem_cons_of_mem _ (ih h)
theorem cutE_sub {Q : BQ} {e : BE} (h : e ∈ cutE Q) : e ∈ Q := by
  obtain ⟨R, hR⟩ := cutE_pre Q
  rw [hR]
  exact List.mem_append_left _ h
theorem fE_1 {Q : BQ} (x : BE) (h : fE Q = none) : fE (Q ++ [x]) = if x.1 % 64 = 0 then some x else none := by
  unfold fE at *
  rw [List.find?_append, h]
  show fE [x] = _
  rw [fE_cons]
  rfl
section BFC
variable {q n K pa B : Nat} {F : FF}
theorem CR_of {F' : FF} {Q : BQ} (hC : CR q B F Q) (h6 : F' q 6 = F q 6) (h8 : F' q 8 = F q 8) (h2 : ∀ s, F' (q + 2) s = F (q + 2) s) (h3 : ∀ s, F' (q + 3) s = F (q + 3) s) : CR q B F' Q := by
  obtain ⟨c1, c2, c3, c4, c5⟩ := hC
  refine ⟨by rw [h6, c1], fun a e h => by rw [h3]; exact c2 a e h, fun e h => by rw [h2]; exact c3 e h, fun s h1 h4 => by rw [h2]; exact c4 s h1 h4, by rw [h8, c5]⟩
theorem CR_en {Q : BQ} {s b k : Nat} (hB : B ≤ 13824) (hC : CR q B F Q) (hQ : ∀ e : BE, e ∈ Q → e.1 < B ∧ ¬ e.2.1 = N1) (hs : s < B) (hl : (bfE b k Q s).length ≤ 13824) : CR q B (enF F q s b) (bfE b k Q s) := by
  obtain ⟨c1, c2, c3, c4, c5⟩ := id hC
  unfold fEn at c5
  cases hf : fE Q with
  | some x =>
    rw [hf] at c5
    have hx : x ∈ Q := cutE_sub (cutE_mem hf)
    have h8 : ¬ F q 8 = N1 := by
      rw [c5]
      have := (hQ x hx).1
      show ¬ x.1 = 4294967295
      omega
    have e1 : enF F q s b = F := by unfold enF; rw [if_neg (fun z => h8 z.1)]
    rw [e1]
    have e2 : ∃ R, bfE b k Q s = Q ++ R := by
      unfold bfE
      split
      · exact ⟨[], by simp⟩
      · exact ⟨_, rfl⟩
    obtain ⟨R, e2⟩ := e2
    unfold CR fEn
    rw [e2, cutE_so R hf, fE_app hf]
    exact ⟨c1, c2, c3, c4, c5⟩
  | none =>
    rw [hf] at c5
    rw [cutE_id hf] at c1 c2 c3 c4
    by_cases c : bHas Q s = true
    · obtain ⟨e, h1, h2⟩ := bHas_iff.mp c
      have h3 : ¬ F (q + 2) s = N1 := by rw [← h2, c3 e h1]; exact (hQ e h1).2
      have e1 : enF F q s b = F := by unfold enF; rw [if_neg (fun z => h3 z.2.1)]
      have e2 : bfE b k Q s = Q := by unfold bfE; rw [if_pos c]
      rw [e1, e2]
      exact hC
    · have e2 : bfE b k Q s = Q ++ [(s, b, k)] := by unfold bfE; rw [if_neg c]
      rw [e2] at hl ⊢
      rw [List.length_append, List.length_singleton] at hl
      have h3 := c4 s hs (by simpa using c)
      have e3 : cutE (Q ++ [(s, b, k)]) = Q ++ [(s, b, k)] := by
        rw [cutE_no _ hf]
        show Q ++ (if s % 64 = 0 then [(s, b, k)] else [(s, b, k)]) = _
        split <;> rfl
      have hne : ∀ e : BE, e ∈ Q → ¬ e.1 = s := fun e h1 h2 => c (bHas_iff.mpr ⟨e, h1, h2⟩)
      have key : ∀ F' : FF, F' q 6 = F q 6 + 1 → (∀ t, F' (q + 2) t = if t = s then b else F (q + 2) t) → (∀ t, F' (q + 3) t = if t = F q 6 then s else F (q + 3) t) → F' q 8 = (if s % 64 = 0 then s else N1) → CR q B F' (Q ++ [(s, b, k)]) := by
        intro F' k1 k2 k3 k4
        unfold CR fEn
        rw [e3]
        refine ⟨?_, ?_, ?_, ?_, ?_⟩
        · rw [k1, c1, List.length_append, List.length_singleton]
        · intro a e h
          rcases ap_1 h with h | ⟨h, h'⟩
          · have := (List.getElem?_eq_some_iff.mp h).1
            rw [k3, if_neg (by omega)]
            exact c2 a e h
          · rw [k3, if_pos (by omega), h']
        · intro e h
          rw [List.mem_append, List.mem_singleton] at h
          rcases h with h | h
          · rw [k2, if_neg (hne e h)]; exact c3 e h
          · rw [k2, h, if_pos rfl]
        · intro t ht h
          have h4 : ¬ t = s := fun z => by
            have : bHas (Q ++ [(s, b, k)]) t = true := bHas_iff.mpr ⟨(s, b, k), by simp, z.symm⟩
            rw [this] at h; cases h
          rw [k2, if_neg h4]
          refine c4 t ht ?_
          cases hh : bHas Q t with
          | false => rfl
          | true =>
            obtain ⟨e, z1, z2⟩ := bHas_iff.mp hh
            have : bHas (Q ++ [(s, b, k)]) t = true := bHas_iff.mpr ⟨e, List.mem_append_left _ z1, z2⟩
            rw [this] at h; cases h
        · rw [k4, fE_1 _ hf]
          show _ = match (if s % 64 = 0 then some (s, b, k) else none : Option BE) with
            | none => N1
            | some e => e.1
          split <;> rfl
      unfold enF
      rw [if_pos ⟨c5, h3, by omega⟩]
      split
      · rename_i cs
        refine key _ ?_ ?_ ?_ ?_
        · rw [pu_at, if_neg (by omega), pu_at, if_pos ⟨rfl, rfl⟩]
        · intro t; rw [pu_at, if_neg (by omega), pu_at, if_neg (by omega), pu_at, if_neg (by omega), pu_at]; simp
        · intro t; rw [pu_at, if_neg (by omega), pu_at, if_neg (by omega), pu_at]; simp [pu_at]
        · rw [pu_at, if_pos ⟨rfl, rfl⟩, if_pos cs]
      · rename_i cs
        refine key _ ?_ ?_ ?_ ?_
        · rw [pu_at, if_pos ⟨rfl, rfl⟩]
        · intro t; rw [pu_at, if_neg (by omega), pu_at, if_neg (by omega), pu_at]; simp
        · intro t; rw [pu_at, if_neg (by omega), pu_at]; simp [pu_at]
        · rw [pu_at, if_neg (by omega), pu_at, if_neg (by omega), pu_at, if_neg (by omega), if_neg cs]; exact c5
def sucC (n pa K s : Nat) : List Nat := (ords n pa (sitPos K s) K 0 (wOnly pa (s % 64)) 0 0).map (fun x => x.1)
theorem sucC_lt (hn : n ≤ 6) (s t : Nat) (ht : t ∈ sucC n pa K s) : t < 64 * 6 ^ K := by
  unfold sucC at ht
  rw [List.mem_map] at ht
  obtain ⟨x, h1, h2⟩ := ht
  have := ords_ok hn K 0 _ 0 0 (by decide) (Nat.le_refl _) x h1
  rw [Nat.zero_add] at this
  rw [← h2]
  exact this.1
/-- entries of a list that the invariant holds of: their befores are no N1 -/
theorem bI_par {suc : Nat → List Nat} {S : Nat → Prop} {i : Nat} {Q : BQ} (hB : B ≤ 13824) (hI : bI suc S B i Q) : ∀ e : BE, e ∈ Q → e.1 < B ∧ ¬ e.2.1 = N1 := by
  intro e he
  refine ⟨hI.2.1 e he, ?_⟩
  obtain ⟨a, ha⟩ := List.getElem?_of_mem he
  rcases hI.2.2.1 a e ha with h | ⟨b, e', _, h1, h2, _⟩
  · rw [h.2]; decide
  · rw [← h2]
    have := hI.2.1 e' (List.mem_of_getElem? h1)
    show ¬ e'.1 = 4294967295
    omega
theorem CR_X {suc : Nat → List Nat} {S : Nat → Prop} {i : Nat} {e : BE} (hB : B ≤ 13824) (he1 : ¬ e.1 = N1) : ∀ (l : List (Nat × Nat)) (Q : BQ) (F : FF), (∀ s : Nat × Nat, s ∈ l → s.1 ∈ suc e.1 ∧ s.1 < B) → bI suc S B i Q → Q[i]? = some e → CR q B F Q → F q 7 = e.1 → CR q B (arrs (tA q) l F) (bfX e.1 (e.2.2 + 1) Q (l.map (fun x => x.1))) := by
  intro l
  induction l with
  | nil => intro Q F _ _ _ hC _; exact hC
  | cons s l ih =>
    intro Q F hl hI he hC h7
    have hs := hl s List.mem_cons_self
    obtain ⟨a1, a2, -, -⟩ := bI_E hI he hs.1 hs.2
    have hlen := bI_len a1
    have h1 := CR_en (k := e.2.2 + 1) hB hC (bI_par hB hI) hs.2 (b := e.1) (by omega)
    show CR q B (arrs (tA q) l (tA q s.1 s.2 F)) (bfX e.1 (e.2.2 + 1) (bfE e.1 (e.2.2 + 1) Q s.1) (l.map (fun x => x.1)))
    refine ih _ _ (fun t ht => hl t (List.mem_cons_of_mem _ ht)) a1 a2 ?_ ?_
    · unfold tA; rw [h7]; exact h1
    · unfold tA; rw [en_off (by omega) (by omega) (by omega)]; exact h7
theorem CR_S {S : Nat → Prop} {Q0 : BQ} (hn : n ≤ 6) (hK : K ≤ 3) (h0 : bI (sucC n pa K) S (64 * 6 ^ K) 0 Q0) : ∀ m i (F : FF), 13825 ≤ i + m → CR q (64 * 6 ^ K) F (bfQ (sucC n pa K) Q0 i) → ∃ i', CR q (64 * 6 ^ K) (seF q n pa K m i F) (bfQ (sucC n pa K) Q0 i') ∧ (¬ fE (bfQ (sucC n pa K) Q0 i') = none ∨ (bfQ (sucC n pa K) Q0 i').length ≤ i') := by
  have hB := K_le hK
  have hQ : ∀ i, bI (sucC n pa K) S (64 * 6 ^ K) i (bfQ (sucC n pa K) Q0 i) := bI_Q (fun s t _ ht => sucC_lt hn s t ht) h0
  intro m
  induction m with
  | zero =>
    intro i F hi hC
    have := bI_len (hQ i)
    exact ⟨i, hC, Or.inr (by omega)⟩
  | succ m ih =>
    intro i F hi hC
    have hlen := bI_len (hQ i)
    have hpar := bI_par hB (hQ i)
    obtain ⟨c1, c2, c3, c4, c5⟩ := id hC
    unfold seF
    by_cases c : i < F q 6 ∧ i < 13824 ∧ F q 8 = N1
    · rw [if_pos c]
      have hf : fE (bfQ (sucC n pa K) Q0 i) = none := by
        cases hf : fE (bfQ (sucC n pa K) Q0 i) with
        | none => rfl
        | some x =>
          unfold fEn at c5
          rw [hf] at c5
          have h1 := (hpar x (cutE_sub (cutE_mem hf))).1
          have h2 := c.2.2
          rw [c5] at h2
          have h2 : x.1 = 4294967295 := h2
          omega
      rw [cutE_id hf] at c1 c2
      have hil : i < (bfQ (sucC n pa K) Q0 i).length := by omega
      have he : (bfQ (sucC n pa K) Q0 i)[i]? = some ((bfQ (sucC n pa K) Q0 i)[i]) := List.getElem?_eq_getElem hil
      have e3 := c2 i _ he
      have hb := (hpar _ (List.mem_of_getElem? he)).1
      refine ih (i + 1) _ (by omega) ?_
      rw [bfQ_some he, e3]
      unfold seStep
      refine CR_X hB (by show ¬ _ = 4294967295; omega) _ _ _ ?_ (hQ i) he ?_ ?_
      · intro s hs
        refine ⟨List.mem_map.mpr ⟨s, hs, rfl⟩, sucC_lt hn _ s.1 (List.mem_map.mpr ⟨s, hs, rfl⟩)⟩
      · refine CR_of hC ?_ ?_ ?_ ?_
        · rw [plF_off _ _ _ _ _ (by omega), pu_at, if_neg (by omega)]
        · rw [plF_off _ _ _ _ _ (by omega), pu_at, if_neg (by omega)]
        · intro s; rw [plF_off _ _ _ _ _ (by omega), pu_at, if_neg (by omega)]
        · intro s; rw [plF_off _ _ _ _ _ (by omega), pu_at, if_neg (by omega)]
      · rw [plF_off _ _ _ _ _ (by omega), pu_at, if_pos ⟨rfl, rfl⟩]
    · rw [if_neg c]
      refine ⟨i, hC, ?_⟩
      cases hf : fE (bfQ (sucC n pa K) Q0 i) with
      | some x => exact Or.inl (fun z => by cases z)
      | none =>
        right
        unfold fEn at c5
        rw [hf] at c5
        rw [cutE_id hf] at c1
        have : ¬ (i < F q 6 ∧ i < 13824) := fun z => c ⟨z.1, z.2, c5⟩
        omega
theorem bPar_mem {Z : BQ} {e : BE} (hn : (Z.map (fun e => e.1)).Nodup) (he : e ∈ Z) : bPar Z e.1 = e.2.1 := by
  unfold bPar
  induction Z with
  | nil => exact absurd he List.not_mem_nil
  | cons x l ih =>
    rw [List.map_cons, List.nodup_cons] at hn
    rw [List.find?_cons]
    rcases List.mem_cons.mp he with rfl | h
    · simp
    · have : ¬ x.1 = e.1 := fun z => hn.1 (by rw [z]; exact List.mem_map.mpr ⟨e, h, rfl⟩)
      rw [show (x.1 == e.1) = false by simpa using this]
      exact ih hn.2 h
theorem CR_ch {suc : Nat → List Nat} {S : Nat → Prop} {i : Nat} {Q Z R : BQ} (hB : B ≤ 13824) (hI : bI suc S B i Q) (hC : CR q B F Q) (hZ : Z = Q ++ R) (hn : (Z.map (fun e => e.1)).Nodup) : ∀ (c a : Nat) (e : BE), a ≤ c → (cutE Q)[a]? = some e → tCh F q e.2.2 e.1 ∧ (∀ j, j ≤ e.2.2 → tUp F q j e.1 = bUp Z j e.1) ∧ e.2.2 ≤ a := by
  obtain ⟨P, hP⟩ := cutE_pre Q
  intro c
  induction c with
  | zero =>
    intro a e hc ha
    have hq : Q[a]? = some e := by rw [hP]; exact ap_l ha
    have hb := hI.2.1 e (List.mem_of_getElem? hq)
    rcases hI.2.2.1 a e hq with h | ⟨b, e', h1, _⟩
    · rw [h.1]
      refine ⟨⟨by omega, by rw [hC.2.2.1 e (List.mem_of_getElem? ha)]; exact h.2⟩, fun j hj => ?_, Nat.zero_le _⟩
      have : j = 0 := by omega
      subst this
      rfl
    · omega
  | succ c ih =>
    intro a e hc ha
    have hq : Q[a]? = some e := by rw [hP]; exact ap_l ha
    have hb := hI.2.1 e (List.mem_of_getElem? hq)
    have hF := hC.2.2.1 e (List.mem_of_getElem? ha)
    rcases hI.2.2.1 a e hq with h | ⟨b, e', h1, h2, h3, h4⟩
    · rw [h.1]
      refine ⟨⟨by omega, by rw [hF]; exact h.2⟩, fun j hj => ?_, Nat.zero_le _⟩
      have : j = 0 := by omega
      subst this
      rfl
    · have hla := (List.getElem?_eq_some_iff.mp ha).1
      have h5 : (cutE Q)[b]? = some e' := by
        rw [hP, List.getElem?_append_left (by omega)] at h2
        exact h2
      obtain ⟨z1, z2, z3⟩ := ih b e' (by omega) h5
      have hb' := hI.2.1 e' (List.mem_of_getElem? h2)
      rw [h4]
      refine ⟨⟨by omega, by rw [hF, ← h3]; omega, by rw [hF, ← h3]; exact z1⟩, fun j hj => ?_, by omega⟩
      cases j with
      | zero => rfl
      | succ j =>
        show tUp F q j (F (q + 2) e.1) = bUp Z j (bPar Z e.1)
        rw [bPar_mem hn (by rw [hZ]; exact List.mem_append_left _ (List.mem_of_getElem? hq)), hF, ← h3]
        exact z2 j (by omega)
/-- what the class's search has found, against the whole search -/
def cRes (q : Nat) (F : FF) (Z : BQ) : Prop := (fE Z = none ∧ F q 8 = N1) ∨ ∃ e : BE, fE Z = some e ∧ F q 8 = e.1 ∧ tCh F q e.2.2 e.1 ∧ (∀ j, j ≤ e.2.2 → tUp F q j e.1 = bUp Z j e.1) ∧ e.2.2 ≤ 13824
theorem CR_res {S : Nat → Prop} {Q0 : BQ} (hn : n ≤ 6) (hK : K ≤ 3) (h0 : bI (sucC n pa K) S (64 * 6 ^ K) 0 Q0) (hC : CR q (64 * 6 ^ K) F Q0) : cRes q (seF q n pa K 13825 0 F) (bZ (sucC n pa K) Q0) := by
  have hB := K_le hK
  have hQ : ∀ i, bI (sucC n pa K) S (64 * 6 ^ K) i (bfQ (sucC n pa K) Q0 i) := bI_Q (fun s t _ ht => sucC_lt hn s t ht) h0
  obtain ⟨i, h1, h2⟩ := CR_S hn hK h0 13825 0 F (by omega) hC
  cases hf : fE (bfQ (sucC n pa K) Q0 i) with
  | none =>
    have hl := h2.resolve_left (fun z => z hf)
    have hz := bZ_cl (fun s t _ ht => sucC_lt hn s t ht) h0 hB hl
    refine Or.inl ⟨by rw [hz]; exact hf, ?_⟩
    have := h1.2.2.2.2
    unfold fEn at this
    rw [hf] at this
    exact this
  | some e =>
    obtain ⟨R, hz⟩ := bZ_pre (fun s t _ ht => sucC_lt hn s t ht) h0 hB i
    obtain ⟨a, ha⟩ := List.getElem?_of_mem (cutE_mem hf)
    have hch := CR_ch hB (hQ i) h1 hz (hQ 13824).1 a a e (Nat.le_refl _) ha
    refine Or.inr ⟨e, by rw [hz]; exact fE_app hf, ?_, hch.1, hch.2.1, ?_⟩
    · have := h1.2.2.2.2
      unfold fEn at this
      rw [hf] at this
      exact this
    · have hl := bI_len (hQ i)
      have := (List.getElem?_eq_some_iff.mp ha).1
      obtain ⟨P, hP⟩ := cutE_pre (bfQ (sucC n pa K) Q0 i)
      have hl2 : (bfQ (sucC n pa K) Q0 i).length = (cutE (bfQ (sucC n pa K) Q0 i)).length + P.length := by
        have := congrArg List.length hP
        rw [List.length_append] at this
        exact this
      omega
end BFC
