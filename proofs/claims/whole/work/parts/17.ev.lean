/-! Runs of the small machine: what is to be shown of a program point, and its rules -/
def pq_step (j pc : Nat) (lo : pq_L) (st : List Value) (M : pq_M) : Option (Nat × pq_O) := match pq_fetch j pc with
  | some (a, ins, nx, na, lk, v) => match pq_exec (a, ins, nx, na, lk, v) lo st M with
    | some o => some (nx, o)
    | none => none
  | none => none
def pq_Ev (d j pc : Nat) (lo : pq_L) (st : List Value) (M : pq_M) (Q : Option Value → pq_M → Prop) : Prop := ∃ (N : Nat) (r : Option Value) (M' : pq_M), Q r M' ∧ ∀ n k, N ≤ n → N ≤ k → pq_loop (pq_call d k) n j pc lo st M = some (r, M')
def pq_Ca (d j : Nat) (as : List Value) (M : pq_M) (Q : Option Value → pq_M → Prop) : Prop := ∃ (N : Nat) (r : Option Value) (M' : pq_M), Q r M' ∧ ∀ k, N ≤ k → pq_call d k j as M = some (r, M')
theorem pq_step_eq {j pc nx : Nat} {lo : pq_L} {st : List Value} {M : pq_M} {o : pq_O} (h : pq_step j pc lo st M = some (nx, o)) : ∃ e, pq_fetch j pc = some e ∧ pq_exec e lo st M = some o ∧ e.2.2.1 = nx := by
  unfold pq_step at h
  split at h
  · rename_i a ins nx2 na lk v he
    split at h
    · rename_i o2 ho
      cases h
      exact ⟨_, he, ho, rfl⟩
    · cases h
  · cases h
theorem E_st0 {d j pc nx pc' : Nat} {lo lo' : pq_L} {st st' : List Value} {M M' : pq_M} {Q : Option Value → pq_M → Prop} (h : pq_step j pc lo st M = some (nx, .inl (pc', lo', st', M'))) (k : pq_Ev d j pc' lo' st' M' Q) : pq_Ev d j pc lo st M Q := by
  obtain ⟨e, he, hx, -⟩ := pq_step_eq h
  obtain ⟨N, r, M2, hQ, hN⟩ := k
  refine ⟨N + 1, r, M2, hQ, fun n k hn hk => ?_⟩
  obtain ⟨n, rfl⟩ : ∃ z, n = z + 1 := ⟨n - 1, by omega⟩
  unfold pq_loop
  rw [he]
  simp only [hx]
  exact hN n k (by omega) (by omega)
/-- an instruction that goes on behind itself -/
theorem E_st {d j pc nx : Nat} {lo lo' : pq_L} {st st' : List Value} {M M' : pq_M} {Q : Option Value → pq_M → Prop} (h : pq_step j pc lo st M = some (nx, .inl (nx, lo', st', M'))) (k : pq_Ev d j nx lo' st' M' Q) : pq_Ev d j pc lo st M Q := E_st0 h k
theorem E_br {d j pc nx t f : Nat} {cd : Prop} {dc : Decidable cd} {lo lo' : pq_L} {st st' : List Value} {M M' : pq_M} {Q : Option Value → pq_M → Prop} (h : pq_step j pc lo st M = some (nx, .inl (if cd then t else f, lo', st', M'))) (kt : cd → pq_Ev d j t lo' st' M' Q) (kf : ¬ cd → pq_Ev d j f lo' st' M' Q) : pq_Ev d j pc lo st M Q := by
  by_cases hc : cd
  · rw [if_pos hc] at h; exact E_st0 h (kt hc)
  · rw [if_neg hc] at h; exact E_st0 h (kf hc)
theorem E_rt {d j pc nx : Nat} {lo : pq_L} {st : List Value} {M : pq_M} {r : Option Value} {Q : Option Value → pq_M → Prop} (h : pq_step j pc lo st M = some (nx, .inr (.inl r))) (hQ : Q r M) : pq_Ev d j pc lo st M Q := by
  obtain ⟨e, he, hx, -⟩ := pq_step_eq h
  refine ⟨1, r, M, hQ, fun n k hn hk => ?_⟩
  obtain ⟨n, rfl⟩ : ∃ z, n = z + 1 := ⟨n - 1, by omega⟩
  unfold pq_loop
  rw [he]
  simp only [hx]
theorem pq_loop_mono {c1 c2 : Nat → List Value → pq_M → Option (Option Value × pq_M)} (h : ∀ j as M x, c1 j as M = some x → c2 j as M = some x) : ∀ (n j pc : Nat) (lo : pq_L) (st : List Value) (M : pq_M) (x : Option Value × pq_M), pq_loop c1 n j pc lo st M = some x → pq_loop c2 n j pc lo st M = some x := by
  intro n
  induction n with
  | zero => intro j pc lo st M x hx; cases hx
  | succ n ih =>
    intro j pc lo st M x hx
    unfold pq_loop at hx ⊢
    split at hx
    · cases hx
    · rename_i e he
      split at hx
      · cases hx
      · exact ih _ _ _ _ _ _ hx
      · exact hx
      · rename_i c hc
        split at hx
        · cases hx
        · rename_i q hq
          rw [h _ _ _ _ hq]
          exact ih _ _ _ _ _ _ hx
theorem pq_call_mono : ∀ (d k j : Nat) (as : List Value) (M : pq_M) (x : Option Value × pq_M), pq_call d k j as M = some x → pq_call (d + 1) k j as M = some x := by
  intro d
  induction d with
  | zero => intro k j as M x h; cases h
  | succ d ih =>
    intro k j as M x h
    unfold pq_call at h ⊢
    split at h
    · cases h
    · rename_i q hq
      split at h
      · exact pq_loop_mono (fun j as M x => ih k j as M x) _ _ _ _ _ _ _ h
      · cases h
theorem pq_call_le {d d' k j : Nat} {as : List Value} {M : pq_M} {x : Option Value × pq_M} (h : pq_call d k j as M = some x) (hd : d ≤ d') : pq_call d' k j as M = some x := by
  induction hd with
  | refl => exact h
  | step _ ih => exact pq_call_mono _ _ _ _ _ _ ih
theorem E_ca {d d' j pc nx j' : Nat} {as rest : List Value} {lo : pq_L} {st : List Value} {M : pq_M} {Q Qc : Option Value → pq_M → Prop} (h : pq_step j pc lo st M = some (nx, .inr (.inr (j', as, rest)))) (hd : d' ≤ d) (hc : pq_Ca d' j' as M Qc) (k : ∀ r M', Qc r M' → pq_Ev d j nx lo (pq_psh r rest) M' Q) : pq_Ev d j pc lo st M Q := by
  obtain ⟨e, he, hx, hnx⟩ := pq_step_eq h
  obtain ⟨N1, r1, M1, hQ1, hN1⟩ := hc
  obtain ⟨N, r, M2, hQ, hN⟩ := k r1 M1 hQ1
  refine ⟨N + N1 + 1, r, M2, hQ, fun n k hn hk => ?_⟩
  obtain ⟨n, rfl⟩ : ∃ z, n = z + 1 := ⟨n - 1, by omega⟩
  unfold pq_loop
  rw [he]
  simp only [hx]
  rw [pq_call_le (hN1 k (by omega)) hd]
  dsimp only
  rw [hnx]
  exact hN n k (by omega) (by omega)
/-- a call whose end is known exactly -/
theorem E_cx {d d' j pc nx j' : Nat} {as rest : List Value} {lo : pq_L} {st : List Value} {M M1 : pq_M} {r1 : Option Value} {Q : Option Value → pq_M → Prop} (h : pq_step j pc lo st M = some (nx, .inr (.inr (j', as, rest)))) (hd : d' ≤ d) (hc : pq_Ca d' j' as M (fun r M' => r = r1 ∧ M' = M1)) (k : pq_Ev d j nx lo (pq_psh r1 rest) M1 Q) : pq_Ev d j pc lo st M Q :=
  E_ca h hd hc (fun r M' ⟨e1, e2⟩ => by subst e1; subst e2; exact k)
theorem Ca_mk {d j : Nat} {as : List Value} {M : pq_M} {q : pq_Q} {lo : pq_L} {Q : Option Value → pq_M → Prop} (h : pq_mtab[j]? = some q) (hf : pq_loc0 q.2.2.2.1 as = some lo) (k : pq_Ev d j 0 lo [] M Q) : pq_Ca (d + 1) j as M Q := by
  obtain ⟨N, r, M2, hQ, hN⟩ := k
  refine ⟨N, r, M2, hQ, fun k hk => ?_⟩
  unfold pq_call
  rw [h]
  dsimp only
  rw [hf]
  exact hN k k hk hk
theorem E_go {d j pc nx na t z : Nat} {off : Int} {lk : List (Nat × Nat)} {v : Value} {lo : pq_L} {st : List Value} {M : pq_M} {Q : Option Value → pq_M → Prop} (hf : pq_fetch j pc = some (pc, .goto off, nx, na, (t, z) :: lk, v)) (k : pq_Ev d j t lo st M Q) : pq_Ev d j pc lo st M Q :=
  E_st0 (nx := nx) (by unfold pq_step; rw [hf]; rfl) k
theorem pq_Ca.mono {d j : Nat} {as : List Value} {M : pq_M} {Q Q' : Option Value → pq_M → Prop} (h : pq_Ca d j as M Q) (hq : ∀ r M', Q r M' → Q' r M') : pq_Ca d j as M Q' := by
  obtain ⟨N, r, M2, hQ, hN⟩ := h
  exact ⟨N, r, M2, hq _ _ hQ, hN⟩
theorem pq_Ev.mono {d j pc : Nat} {lo : pq_L} {st : List Value} {M : pq_M} {Q Q' : Option Value → pq_M → Prop} (h : pq_Ev d j pc lo st M Q) (hq : ∀ r M', Q r M' → Q' r M') : pq_Ev d j pc lo st M Q' := by
  obtain ⟨N, r, M2, hQ, hN⟩ := h
  exact ⟨N, r, M2, hq _ _ hQ, hN⟩
theorem pq_Ca.le {d d' j : Nat} {as : List Value} {M : pq_M} {Q : Option Value → pq_M → Prop} (h : pq_Ca d j as M Q) (hd : d ≤ d') : pq_Ca d' j as M Q := by
  obtain ⟨N, r, M2, hQ, hN⟩ := h
  exact ⟨N, r, M2, hQ, fun k hk => pq_call_le (hN k hk) hd⟩
theorem pq_Ev.cast {d j pc : Nat} {lo lo' : pq_L} {st st' : List Value} {M M' : pq_M} {Q : Option Value → pq_M → Prop} (k : pq_Ev d j pc lo' st' M' Q) (h1 : lo = lo') (h2 : st = st') (h3 : M = M') : pq_Ev d j pc lo st M Q := by
  subst h1; subst h2; subst h3; exact k
/-! fewer known locals -/
def pq_le (a b : pq_L) : Prop := a.length = b.length ∧ ∀ (i : Nat) (v : Value), a[i]? = some (some v) → b[i]? = some (some v)
theorem pq_le_ld {a b : pq_L} (h : pq_le a b) {i : Nat} {v : Value} (hi : pq_ld a i = some v) : pq_ld b i = some v := by
  have := h.2 i v (pq_ld_at hi)
  unfold pq_ld; rw [this]
theorem pq_le_cut {a b : pq_L} (h : pq_le a b) (i k : Nat) (v : Value) (hv : (pq_cut a i)[k]? = some (some v)) : (pq_cut b i)[k]? = some (some v) := by
  obtain ⟨h1, h2⟩ := pq_cut_at hv
  have h3 := h.2 k v h1
  unfold pq_cut
  split
  · exact h3
  · rename_i n
    have key : (n = k → v.category = 2) → (b.set n none)[k]? = some (some v) := by
      intro hc
      rw [List.getElem?_set]
      split
      · rename_i e; exact absurd ⟨by omega, hc e⟩ h2
      · exact h3
    split
    · rename_i x hx; exact key (fun e => by subst e; rw [h3] at hx; cases hx; rfl)
    · rename_i x hx; exact key (fun e => by subst e; rw [h3] at hx; cases hx; rfl)
    · exact h3
theorem pq_le_st1 {a b a' : pq_L} (h : pq_le a b) {i : Nat} {v : Value} (hs : pq_st1 a i v = some a') : ∃ b', pq_st1 b i v = some b' ∧ pq_le a' b' := by
  have hl := pq_st1_lt hs
  rw [pq_st1_eq] at hs ⊢
  rw [if_pos hl] at hs
  cases hs
  refine ⟨_, if_pos (by rw [← h.1]; exact hl), by simp [pq_cut_len, h.1], fun k w hk => ?_⟩
  rw [List.getElem?_set] at hk ⊢
  split
  · rename_i e
    subst e
    rw [if_pos rfl] at hk
    split at hk
    · cases hk; rw [if_pos (by rw [pq_cut_len, ← h.1]; exact hl)]
    · cases hk
  · rename_i e
    rw [if_neg e] at hk
    exact pq_le_cut h _ _ _ hk
theorem pq_le_st2 {a b a' : pq_L} (h : pq_le a b) {i : Nat} {v : Value} (hs : pq_st2 a i v = some a') : ∃ b', pq_st2 b i v = some b' ∧ pq_le a' b' := by
  have hl := pq_st2_lt hs
  rw [pq_st2_eq] at hs ⊢
  rw [if_pos hl] at hs
  cases hs
  refine ⟨_, if_pos (by rw [← h.1]; exact hl), by simp [pq_cut_len, h.1], fun k w hk => ?_⟩
  rw [List.getElem?_set] at hk ⊢
  split
  · rename_i e
    rw [if_pos e] at hk
    split at hk <;> cases hk
  · rename_i e
    rw [if_neg e] at hk
    rw [List.getElem?_set] at hk ⊢
    split
    · rename_i e2
      subst e2
      rw [if_pos rfl] at hk
      split at hk
      · cases hk; rw [if_pos (by rw [pq_cut_len, ← h.1]; omega)]
      · cases hk
    · rename_i e2
      rw [if_neg e2] at hk
      exact pq_le_cut h _ _ _ hk
set_option maxHeartbeats 4000000 in
theorem pq_le_x1 {ins : Instr} {v : Value} {a b : pq_L} {st : List Value} {q : pq_L × List Value} (h : pq_le a b) (hx : pq_x1 ins v a st = some q) : ∃ b', pq_x1 ins v b st = some (b', q.2) ∧ pq_le q.1 b' := by
  have hil : ∀ {i : Nat}, pq_il a i st = some q → ∃ b', pq_il b i st = some (b', q.2) ∧ pq_le q.1 b' := by
    intro i hq; unfold pq_il at hq ⊢
    split at hq
    · rename_i x hx; rw [pq_le_ld h hx]; cases hq; exact ⟨b, rfl, h⟩
    · cases hq
  have hll : ∀ {i : Nat}, pq_ll a i st = some q → ∃ b', pq_ll b i st = some (b', q.2) ∧ pq_le q.1 b' := by
    intro i hq; unfold pq_ll at hq ⊢
    split at hq
    · rename_i x hx; rw [pq_le_ld h hx]; cases hq; exact ⟨b, rfl, h⟩
    · cases hq
  have hal : ∀ {i : Nat}, pq_al a i st = some q → ∃ b', pq_al b i st = some (b', q.2) ∧ pq_le q.1 b' := by
    intro i hq; unfold pq_al at hq ⊢
    split at hq
    · rename_i x hx; rw [pq_le_ld h hx]; cases hq; exact ⟨b, rfl, h⟩
    · cases hq
  have his : ∀ {i : Nat}, pq_is a i st = some q → ∃ b', pq_is b i st = some (b', q.2) ∧ pq_le q.1 b' := by
    intro i hq; unfold pq_is at hq ⊢
    split at hq
    · split at hq
      · rename_i l1 h1
        obtain ⟨b', e1, e2⟩ := pq_le_st1 h h1
        cases hq; dsimp only; rw [e1]; exact ⟨b', rfl, e2⟩
      · cases hq
    · cases hq
  have has : ∀ {i : Nat}, pq_as a i st = some q → ∃ b', pq_as b i st = some (b', q.2) ∧ pq_le q.1 b' := by
    intro i hq; unfold pq_as at hq ⊢
    split at hq
    · split at hq
      · rename_i l1 h1
        obtain ⟨b', e1, e2⟩ := pq_le_st1 h h1
        cases hq; dsimp only; rw [e1]; exact ⟨b', rfl, e2⟩
      · cases hq
    · cases hq
  have hls : ∀ {i : Nat}, pq_ls a i st = some q → ∃ b', pq_ls b i st = some (b', q.2) ∧ pq_le q.1 b' := by
    intro i hq; unfold pq_ls at hq ⊢
    split at hq
    · split at hq
      · rename_i l1 h1
        obtain ⟨b', e1, e2⟩ := pq_le_st2 h h1
        cases hq; dsimp only; rw [e1]; exact ⟨b', rfl, e2⟩
      · cases hq
    · cases hq
  cases ins
  all_goals try exact pq_nn hx
  case iload_n i => exact hil hx
  case iload i => exact hil hx
  case lload_n i => exact hll hx
  case lload i => exact hll hx
  case aload_n i => exact hal hx
  case aload i => exact hal hx
  case istore_n i => exact his hx
  case istore i => exact his hx
  case lstore_n i => exact hls hx
  case lstore i => exact hls hx
  case astore_n i => exact has hx
  case astore i => exact has hx
  case iinc i n =>
    replace hx : pq_inc a i v st = some q := hx
    show ∃ b', pq_inc b i v st = some (b', q.2) ∧ pq_le q.1 b'
    unfold pq_inc at hx ⊢
    split at hx
    · rename_i x n2 hq
      split at hx
      · rename_i l1 h1
        obtain ⟨b', e1, e2⟩ := pq_le_st1 h h1
        rw [pq_le_ld h hq]
        cases hx; dsimp only; rw [e1]; exact ⟨b', rfl, e2⟩
      · cases hx
    · cases hx
  case idiv =>
    simp only [pq_x1] at hx ⊢
    split at hx
    · split at hx
      · cases hx
      · rename_i hne; cases hx; rw [if_neg hne]; exact ⟨b, rfl, h⟩
    · cases hx
  case irem =>
    simp only [pq_x1] at hx ⊢
    split at hx
    · split at hx
      · cases hx
      · rename_i hne; cases hx; rw [if_neg hne]; exact ⟨b, rfl, h⟩
    · cases hx
  all_goals first
    | (cases hx; exact ⟨b, rfl, h⟩)
    | (simp only [pq_x1] at hx ⊢; split at hx <;> first | (cases hx; exact ⟨b, rfl, h⟩) | cases hx)
theorem pq_x1_none {ins : Instr} {v : Value} {a b : pq_L} {st : List Value} (h : pq_le a b) {e : pq_E} {M : pq_M} {o : pq_O} (hx : pq_exec (e.1, ins, e.2.2.1, e.2.2.2.1, e.2.2.2.2.1, v) a st M = some o) (hn : pq_x1 ins v a st = none) : pq_x1 ins v b st = none := by
  have hrest : pq_x2 ins e.2.2.1 e.2.2.2.2.1 st ≠ none ∨ pq_x3 ins e.2.2.2.2.1 st M ≠ none ∨ pq_x4 ins e.2.2.2.1 st ≠ none ∨ pq_x5 ins e.2.2.2.1 e.2.2.2.2.1 st M ≠ none := by
    unfold pq_exec at hx
    dsimp only at hx
    rw [hn] at hx
    dsimp only at hx
    split at hx
    · rename_i q1 q2 h1; exact Or.inl (by rw [h1]; exact fun h => nomatch h)
    · split at hx
      · rename_i q1 q2 h1; exact Or.inr (Or.inl (by rw [h1]; exact fun h => nomatch h))
      · split at hx
        · rename_i q h1; exact Or.inr (Or.inr (Or.inl (by rw [h1]; exact fun h => nomatch h)))
        · split at hx
          · rename_i q h1; exact Or.inr (Or.inr (Or.inr (by rw [h1]; exact fun h => nomatch h)))
          · cases hx
  cases ins <;> first | rfl | (exfalso; rcases hrest with h | h | h | h <;> exact h rfl)
theorem pq_le_exec {e : pq_E} {a b : pq_L} {st : List Value} {M : pq_M} {o : pq_O} (h : pq_le a b) (hx : pq_exec e a st M = some o) : ∃ o', pq_exec e b st M = some o' ∧ ((∃ pc la lb s2 M2, o = .inl (pc, la, s2, M2) ∧ o' = .inl (pc, lb, s2, M2) ∧ pq_le la lb) ∨ (∃ z, o = .inr z ∧ o' = .inr z)) := by
  obtain ⟨pc, ins, nx, na, lk, v⟩ := e
  cases h1 : pq_x1 ins v a st with
  | some q =>
    obtain ⟨b', e1, e2⟩ := pq_le_x1 h h1
    unfold pq_exec at hx ⊢
    dsimp only at hx ⊢
    rw [h1] at hx
    rw [e1]
    cases hx
    exact ⟨_, rfl, Or.inl ⟨_, _, _, _, _, rfl, rfl, e2⟩⟩
  | none =>
    have h2 := pq_x1_none (e := (pc, ins, nx, na, lk, v)) h hx h1
    unfold pq_exec at hx ⊢
    dsimp only at hx ⊢
    rw [h1] at hx
    rw [h2]
    dsimp only at hx ⊢
    split at hx
    · cases hx; exact ⟨_, rfl, Or.inl ⟨_, _, _, _, _, rfl, rfl, h⟩⟩
    · split at hx
      · cases hx; exact ⟨_, rfl, Or.inl ⟨_, _, _, _, _, rfl, rfl, h⟩⟩
      · split at hx
        · cases hx; exact ⟨_, rfl, Or.inr ⟨_, rfl, rfl⟩⟩
        · split at hx
          · cases hx; exact ⟨_, rfl, Or.inr ⟨_, rfl, rfl⟩⟩
          · cases hx
theorem pq_le_loop {call : Nat → List Value → pq_M → Option (Option Value × pq_M)} : ∀ (n j pc : Nat) (a b : pq_L) (st : List Value) (M : pq_M) (x : Option Value × pq_M), pq_le a b → pq_loop call n j pc a st M = some x → pq_loop call n j pc b st M = some x := by
  intro n
  induction n with
  | zero => intro j pc a b st M x _ hx; cases hx
  | succ n ih =>
    intro j pc a b st M x h hx
    unfold pq_loop at hx ⊢
    split at hx
    · cases hx
    · rename_i e he
      split at hx
      · cases hx
      · rename_i c hc
        obtain ⟨o', e1, e2⟩ := pq_le_exec h hc
        rcases e2 with ⟨pc2, la, lb, s2, M2, g1, g2, g3⟩ | ⟨z, g1, g2⟩
        · cases g1; subst g2; rw [e1]; exact ih _ _ _ _ _ _ _ g3 hx
        · cases g1
      · rename_i r hc
        obtain ⟨o', e1, e2⟩ := pq_le_exec h hc
        rcases e2 with ⟨pc2, la, lb, s2, M2, g1, g2, g3⟩ | ⟨z, g1, g2⟩
        · cases g1
        · cases g1; subst g2; rw [e1]; exact hx
      · rename_i c hc
        obtain ⟨o', e1, e2⟩ := pq_le_exec h hc
        rcases e2 with ⟨pc2, la, lb, s2, M2, g1, g2, g3⟩ | ⟨z, g1, g2⟩
        · cases g1
        · cases g1; subst g2; rw [e1]
          dsimp only
          split at hx
          · cases hx
          · rename_i q hq
            exact ih _ _ _ _ _ _ _ h hx
/-- forget a local -/
theorem E_fo (i : Nat) {d j pc : Nat} {lo : pq_L} {st : List Value} {M : pq_M} {Q : Option Value → pq_M → Prop} (k : pq_Ev d j pc (lo.set i none) st M Q) : pq_Ev d j pc lo st M Q := by
  obtain ⟨N, r, M2, hQ, hN⟩ := k
  refine ⟨N, r, M2, hQ, fun n k hn hk => pq_le_loop _ _ _ _ _ _ _ _ ⟨by simp, fun i2 v hv => ?_⟩ (hN n k hn hk)⟩
  rw [List.getElem?_set] at hv
  split at hv
  · split at hv <;> cases hv
  · exact hv
