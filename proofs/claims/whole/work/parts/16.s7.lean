theorem pq_flat_len (h0 b : Nat) : ∀ as : List Value, (lg_sl (as.map (pq_rv h0 b))).length = (pq_flat as).length := by
  intro as
  induction as with
  | nil => rfl
  | cons a r ih =>
    have e : lg_sl ((a :: r).map (pq_rv h0 b)) = (if (pq_rv h0 b a).category = 2 then [.val (pq_rv h0 b a), .second] else [.val (pq_rv h0 b a)]) ++ lg_sl (r.map (pq_rv h0 b)) := rfl
    rw [e, List.length_append, ih, pq_rv_cat]
    cases a <;> simp [Value.category, pq_flat] <;> omega
theorem pq_flat_args {h0 b : Nat} {v : Value} : ∀ (as : List Value) (i n : Nat), (pq_flat as)[n]? = some (some v) → (i + n, pq_rv h0 b v) ∈ lv_args i (as.map (pq_rv h0 b)) := by
  intro as
  induction as with
  | nil => intro i n h; simp [pq_flat] at h
  | cons a r ih =>
    intro i n h
    rw [List.map_cons, lv_args, pq_rv_cat]
    by_cases hc : a.category = 2
    · rw [if_pos hc]
      have hf : pq_flat (a :: r) = some a :: none :: pq_flat r := by cases a <;> simp [Value.category] at hc <;> rfl
      rw [hf] at h
      match n, h with
      | 0, h => simp at h; subst h; exact List.mem_cons_self
      | 1, h => simp at h
      | n + 2, h =>
        have h2 : (pq_flat r)[n]? = some (some v) := by simpa using h
        have := ih (i + 2) n h2
        rw [show i + 2 + n = i + (n + 2) by omega] at this
        exact List.mem_cons_of_mem _ this
    · rw [if_neg hc]
      have hf : pq_flat (a :: r) = some a :: pq_flat r := by cases a <;> simp [Value.category] at hc <;> rfl
      rw [hf] at h
      match n, h with
      | 0, h => simp at h; subst h; exact List.mem_cons_self
      | n + 1, h =>
        have h2 : (pq_flat r)[n]? = some (some v) := by simpa using h
        have := ih (i + 1) n h2
        rw [show i + 1 + n = i + (n + 1) by omega] at this
        exact List.mem_cons_of_mem _ this
theorem pq_entry {h0 b n : Nat} {as : List Value} (h : (pq_flat as).length ≤ n) : pq_Lr h0 b ((lg_sl (as.map (pq_rv h0 b)) ++ List.replicate (n - (lg_sl (as.map (pq_rv h0 b))).length) Slot.unset).toArray) n (pq_loc as n) := by
  obtain ⟨h1, h2, h3⟩ := lv_entry (as.map (pq_rv h0 b)) (n := n) (by rw [pq_flat_len]; exact h)
  refine ⟨h1, h2, by unfold pq_loc; simp; omega, fun i v hi => ?_⟩
  unfold pq_loc at hi
  have hi2 : (pq_flat as)[i]? = some (some v) := by
    by_cases hlt : i < (pq_flat as).length
    · rw [List.getElem?_append_left hlt] at hi; exact hi
    · rw [List.getElem?_append_right (Nat.not_lt.mp hlt)] at hi
      rw [List.getElem?_replicate] at hi
      split at hi
      · cases hi
      · cases hi
  have := h3 _ (pq_flat_args (h0 := h0) (b := b) as 0 i hi2)
  simpa using this
theorem pq_loc0_ok : ∀ (n : Nat) (as : List Value) (lo : pq_L), pq_loc0 n as = some lo → (pq_flat as).length ≤ n ∧ lo = pq_loc as n := by
  intro n
  induction n using Nat.strongRecOn with
  | _ n ih =>
    intro as lo h
    have cons : ∀ {k c : Nat} {vs : List Value} {v : Value} {pre : pq_L} {r : pq_L}, pq_loc0 k vs = some r → k < n → n = k + c → pre.length = c → pq_flat (v :: vs) = pre ++ pq_flat vs → lo = pre ++ r → (pq_flat (v :: vs)).length ≤ n ∧ lo = pq_loc (v :: vs) n := by
      intro k c vs v pre r h1 hk hn hc hp hl
      obtain ⟨h2, h3⟩ := ih k hk vs r h1
      refine ⟨by rw [hp, List.length_append]; omega, ?_⟩
      rw [hl, h3]
      unfold pq_loc
      rw [hp, List.length_append, List.append_assoc, hc]
      congr 3
      omega
    unfold pq_loc0 at h
    split at h
    · cases h; exact ⟨Nat.le_refl _, rfl⟩
    · rename_i k
      split at h
      · rename_i r h1
        cases h
        obtain ⟨h2, h3⟩ := ih k (by omega) [] r h1
        refine ⟨Nat.zero_le _, ?_⟩
        rw [h3]
        simp [pq_loc, pq_flat, List.replicate_succ]
      · cases h
    · rename_i k x vs
      split at h
      · rename_i r h1; cases h; exact cons (c := 2) (pre := [some (.long x), none]) h1 (by omega) rfl rfl rfl rfl
      · cases h
    · rename_i k x vs
      split at h
      · rename_i r h1; cases h; exact cons (c := 1) (pre := [some (.int x)]) h1 (by omega) rfl rfl rfl rfl
      · cases h
    · rename_i k x vs
      split at h
      · rename_i r h1; cases h; exact cons (c := 1) (pre := [some (.ref x)]) h1 (by omega) rfl rfl rfl rfl
      · cases h
    · cases h
section PQ8
variable {l : Launch} {D : va_G} {aC : FieldType → ClassId} {xs : Nat → Int32} {h0 b L : Nat}
set_option maxHeartbeats 4000000 in
theorem pq_sound : ∀ (d k j : Nat) (as : List Value) (M : pq_M) (r : Option Value) (M' : pq_M), pq_call d k j as M = some (r, M') → pq_Met l D aC h0 b L xs d j as M r M' ∧ pq_gr M M' := by
  intro d
  induction d with
  | zero => intro k j as M r M' h; cases h
  | succ d ih =>
    intro k j as M r M' h
    unfold pq_call at h
    split at h
    · cases h
    · rename_i q hq
      split at h
      · rename_i lo0 hfl0
        obtain ⟨hfl, rfl⟩ := pq_loc0_ok _ _ _ hfl0
        refine ⟨?_, pq_loop_gr (fun _ _ _ _ _ hc => (ih _ _ _ _ _ _ hc).2) _ _ _ _ _ _ _ _ h⟩
        intro q2 hq2 hokM
        cases Option.some.inj (hq.symm.trans hq2)
        obtain ⟨o, y, bytes, maxL, ret⟩ := q
        dsimp only at h hfl
        refine Met.ofW (cc := bytes) (maxL := maxL) (ret := ret) hokM.2.1 rfl ?_
        intro p e s m args below meth c s₁ B hml hv
        obtain ⟨rfl, hsz, hR, hK⟩ := hv
        have hx := B.exec
        have hb := B.bytes
        have hr := B.returns
        have hlocks := B.notSynchronized
        have hts0 := atoms_spec (ws := Cond.code y bytes maxL ret :: lw_g) B.pre
        have hts : ∀ w ∈ lw_g, w.before (as.map (pq_rv h0 b)).toArray s = true := fun w hw => hts0 w (List.mem_cons_of_mem _ hw)
        have hown : s.vm.findClass y.cls = some m.cls := findClass_of_methodNamed B.named
        obtain ⟨ct, hct⟩ : ∃ ct, pq_ctab[j]? = some ct := by
          have h1 : j < pq_mtab.length := (List.getElem?_eq_some_iff.mp hq).1
          have h2 : pq_ctab.length = pq_mtab.length := by decide +kernel
          exact ⟨_, List.getElem?_eq_getElem (by rw [h2]; exact h1)⟩
        obtain ⟨hdc, ini, hini, hok⟩ := pq_tab_at hct hq
        have hS : va_S (pq_A h0) s.heap s.heap [] := va_S.rf
        have hnm : meth.name = y.name := (name_of_methodNamed B.named B.method).1
        have key := pq_sloop (l := l) (R := pq_rm (d + 1) (pq_mc M M') (pq_ms M M')) (below := below) (e := e) (Q := MQ below (pq_Qc D aC h0 b L xs r M') (as.map (pq_rv h0 b)).toArray s (pq_mc M M') (pq_ms M M') (pq_A h0)) (n0 := M.1.length) (t0 := pq_tot M.1) (d := d) (fun j as M r M' hc => (ih _ _ _ _ _ _ hc).1) (fun j as M r M' hc => (ih _ _ _ _ _ _ hc).2)
          hx hb hml hts hown (fun hi => by rw [hnm]; exact hini hi) hK hct hdc hok (Nat.le_refl _) (Nat.le_refl _) hsz k 0 (pq_loc as maxL) [] M r M' h s.heap [] _ (pq_entry hfl) hR hS (Nat.le_refl _) (Nat.le_refl _) (Nat.le_refl _) (Nat.le_refl _) ?_
        · rw [Nat.sub_self, Nat.sub_self] at key
          rw [lg_entry_eq]
          exact key
        · intro pc nx na lk v ls H locs st ins h4 hd hcb hR' hS'
          have hQ : ∀ t : State, t.heap = H → s.WarmedH t.vm → pq_Qc D aC h0 b L xs r M' (as.map (pq_rv h0 b)).toArray s (.returned (r.map (pq_rv h0 b))) t := fun t ht hW => ⟨rfl, by rw [ht]; exact hR', hS'.F ht⟩
          cases ins
          all_goals try exact pq_nn h4
          case return_ =>
            simp only [pq_x4] at h4
            split at h4
            · cases h4
              have hret : ret = none := of_decide_eq_true hcb
              exact W.vret hx hb (by rw [hr, hret]) hQ hS'.2.2 hd
            · cases h4
          case lreturn =>
            simp only [pq_x4] at h4
            split at h4
            · cases h4
              have hret : ret = some .long := of_decide_eq_true hcb
              exact W.lret hx hb (by rw [hr, hret]) hQ hS'.2.2 hd
            · cases h4
          case ireturn =>
            have hret : ret = if na = 0 then some .int else some .boolean := of_decide_eq_true hcb
            simp only [pq_x4] at h4
            split at h4
            · split at h4
              · rename_i hna
                cases h4
                rw [if_pos hna] at hret
                exact W.iret hx hb (by rw [hr, hret]) hQ hS'.2.2 hd
              · rename_i hna
                split at h4
                · rename_i hx01
                  cases h4
                  rw [if_neg hna] at hret
                  exact W.zret hx hb (by rw [hr, hret]) (by rcases hx01 with rfl | rfl <;> rfl) hQ hS'.2.2 hd
                · cases h4
            · cases h4
      · cases h
end PQ8
