/-! The small machine's steps are the real machine's: locals, stack, constants, arithmetic. -/
def pq_ad (h0 b q : Nat) : Nat := if q = 0 then b else h0 + (q - 1)
def pq_rv (h0 b : Nat) (v : Value) : Value := match v with
  | .ref q => .ref (pq_ad h0 b q)
  | v => v
theorem pq_rv_cat (h0 b : Nat) (v : Value) : (pq_rv h0 b v).category = v.category := by cases v <;> rfl
theorem pq_rv_cats (h0 b : Nat) (st : List Value) : ((st.map (pq_rv h0 b)).map fun v => v.category).sum = pq_cat st := by
  unfold pq_cat
  rw [List.map_map]
  congr 1
  exact List.map_congr_left fun v _ => pq_rv_cat h0 b v
def pq_Lr (h0 b : Nat) (ls : Array Slot) (nL : Nat) (l : pq_L) : Prop := ls.size = nL ∧ lv_wf ls ∧ l.length = nL ∧ ∀ (i : Nat) (v : Value), l[i]? = some (some v) → ls[i]? = some (.val (pq_rv h0 b v))
def pq_pr (h0 b : Nat) : Nat → pq_L → List (Nat × Value)
  | _, [] => []
  | i, none :: r => pq_pr h0 b (i + 1) r
  | i, some v :: r => (i, pq_rv h0 b v) :: pq_pr h0 b (i + 1) r
theorem pq_pr_mem {h0 b : Nat} {q : Nat × Value} : ∀ (l : pq_L) (i : Nat), q ∈ pq_pr h0 b i l → ∃ (n : Nat) (v : Value), q = (i + n, pq_rv h0 b v) ∧ l[n]? = some (some v) := by
  intro l
  induction l with
  | nil => intro i h; exact absurd h List.not_mem_nil
  | cons a r ih =>
    intro i h
    cases a with
    | none =>
      obtain ⟨n, v, e, h2⟩ := ih (i + 1) h
      exact ⟨n + 1, v, by rw [e]; congr 1; omega, by simpa using h2⟩
    | some w =>
      rcases List.mem_cons.mp h with e | h
      · exact ⟨0, w, by rw [e]; rfl, rfl⟩
      · obtain ⟨n, v, e, h2⟩ := ih (i + 1) h
        exact ⟨n + 1, v, by rw [e]; congr 1; omega, by simpa using h2⟩
theorem pq_pr_of {h0 b : Nat} {v : Value} : ∀ (l : pq_L) (i n : Nat), l[n]? = some (some v) → (i + n, pq_rv h0 b v) ∈ pq_pr h0 b i l := by
  intro l
  induction l with
  | nil => intro i n h; simp at h
  | cons a r ih =>
    intro i n h
    cases n with
    | zero =>
      have : a = some v := by simpa using h
      subst this
      exact List.mem_cons_self
    | succ n =>
      have h2 : r[n]? = some (some v) := by simpa using h
      have := ih (i + 1) n h2
      rw [show i + 1 + n = i + (n + 1) by omega] at this
      cases a with
      | none => exact this
      | some w => exact List.mem_cons_of_mem _ this
theorem pq_Lr.has {h0 b nL : Nat} {ls : Array Slot} {l : pq_L} (h : pq_Lr h0 b ls nL l) : lv_has ls nL (pq_pr h0 b 0 l) := by
  refine ⟨h.1, h.2.1, fun q hq => ?_⟩
  obtain ⟨n, v, rfl, h2⟩ := pq_pr_mem l 0 hq
  simpa using h.2.2.2 n v h2
theorem pq_put0_eq : ∀ (l : pq_L) (i : Nat) (v : Option Value), pq_put0 l i v = if i < l.length then some (l.set i v) else none := by
  intro l
  induction l with
  | nil => intro i v; simp [pq_put0]
  | cons a r ih =>
    intro i v
    cases i with
    | zero => simp [pq_put0]
    | succ i =>
      unfold pq_put0
      rw [ih i v]
      by_cases h : i < r.length
      · rw [if_pos h, if_pos (by simpa using h)]; rfl
      · rw [if_neg h, if_neg (by simpa using h)]
theorem pq_cut0_eq (l : pq_L) (i : Nat) : pq_cut0 l i = some (pq_cut l i) := by
  unfold pq_cut0 pq_cut
  split
  · rfl
  · rename_i k
    split
    · rename_i x hx
      rw [pq_put0_eq, if_pos (List.getElem?_eq_some_iff.mp hx).1]
    · rename_i x hx
      rw [pq_put0_eq, if_pos (List.getElem?_eq_some_iff.mp hx).1]
    · rfl
theorem pq_cut_len (l : pq_L) (i : Nat) : (pq_cut l i).length = l.length := by
  unfold pq_cut
  split
  · rfl
  · split <;> simp
theorem pq_st1_eq (l : pq_L) (i : Nat) (v : Value) : pq_st1 l i v = if i < l.length then some ((pq_cut l i).set i (some v)) else none := by
  unfold pq_st1
  rw [pq_cut0_eq]
  show pq_put0 (pq_cut l i) i (some v) = _
  rw [pq_put0_eq, pq_cut_len]
theorem pq_st2_eq (l : pq_L) (i : Nat) (v : Value) : pq_st2 l i v = if i + 1 < l.length then some (((pq_cut l i).set i (some v)).set (i + 1) none) else none := by
  unfold pq_st2
  rw [pq_cut0_eq]
  show (match pq_put0 (pq_cut l i) i (some v) with | some l2 => pq_put0 l2 (i + 1) none | none => none) = _
  rw [pq_put0_eq, pq_cut_len]
  by_cases h : i < l.length
  · rw [if_pos h]
    show pq_put0 ((pq_cut l i).set i (some v)) (i + 1) none = _
    rw [pq_put0_eq, List.length_set, pq_cut_len]
  · rw [if_neg h, if_neg (by omega)]
theorem pq_cut_at {l : pq_L} {i k : Nat} {w : Value} (h : (pq_cut l i)[k]? = some (some w)) : l[k]? = some (some w) ∧ ¬ (k + 1 = i ∧ w.category = 2) := by
  unfold pq_cut at h
  split at h
  · exact ⟨h, by omega⟩
  · rename_i n
    have key : ∀ (h : (l.set n none)[k]? = some (some w)), l[k]? = some (some w) ∧ ¬ (k + 1 = n + 1 ∧ w.category = 2) := by
      intro h
      rw [List.getElem?_set] at h
      split at h
      · split at h
        · cases h
        · cases h
      · rename_i hne
        exact ⟨h, by omega⟩
    split at h
    · exact key h
    · exact key h
    · rename_i h1 h2
      refine ⟨h, fun q => ?_⟩
      have hk : k = n := by omega
      subst hk
      cases w <;> simp [Value.category] at q
      · exact h1 _ h
      · exact h2 _ h
theorem pq_st1_ok {h0 b nL i : Nat} {ls ls' : Array Slot} {l l' : pq_L} {v : Value} (h : pq_Lr h0 b ls nL l) (hs : pq_st1 l i v = some l')
    (h' : lv_has ls' nL ((i, pq_rv h0 b v) :: (pq_pr h0 b 0 l).filter (fun q => !(q.1 == i) && !(q.1 + 1 == i && q.2.category == 2)))) : pq_Lr h0 b ls' nL l' := by
  rw [pq_st1_eq] at hs
  split at hs
  · cases hs
    refine ⟨h'.1, h'.2.1, by rw [List.length_set, pq_cut_len]; exact h.2.2.1, fun k w hk => ?_⟩
    rw [List.getElem?_set] at hk
    split at hk
    · rename_i e
      subst e
      split at hk
      · cases hk
        exact h'.2.2 _ List.mem_cons_self
      · cases hk
    · rename_i hne
      obtain ⟨h1, h2⟩ := pq_cut_at hk
      refine h'.2.2 (k, pq_rv h0 b w) (List.mem_cons_of_mem _ (List.mem_filter.mpr ⟨by simpa using pq_pr_of l 0 k h1, ?_⟩))
      have h3 : ¬ k = i := fun q => hne q.symm
      simp only [pq_rv_cat]
      by_cases hq : k + 1 = i
      · have h4 : ¬ w.category = 2 := fun q => h2 ⟨hq, q⟩
        simp [h3, hq, h4]
      · simp [h3, hq]
  · cases hs
theorem pq_st2_ok {h0 b nL i : Nat} {ls ls' : Array Slot} {l l' : pq_L} {v : Value} (h : pq_Lr h0 b ls nL l) (hs : pq_st2 l i v = some l')
    (h' : lv_has ls' nL ((i, pq_rv h0 b v) :: (pq_pr h0 b 0 l).filter (fun q => !(q.1 == i) && (!(q.1 == i + 1) && !(q.1 + 1 == i && q.2.category == 2))))) : pq_Lr h0 b ls' nL l' := by
  rw [pq_st2_eq] at hs
  split at hs
  · cases hs
    refine ⟨h'.1, h'.2.1, by rw [List.length_set, List.length_set, pq_cut_len]; exact h.2.2.1, fun k w hk => ?_⟩
    rw [List.getElem?_set] at hk
    split at hk
    · split at hk <;> cases hk
    · rename_i hne2
      rw [List.getElem?_set] at hk
      split at hk
      · rename_i e
        subst e
        split at hk
        · cases hk
          exact h'.2.2 _ List.mem_cons_self
        · cases hk
      · rename_i hne
        obtain ⟨h1, h2⟩ := pq_cut_at hk
        refine h'.2.2 (k, pq_rv h0 b w) (List.mem_cons_of_mem _ (List.mem_filter.mpr ⟨by simpa using pq_pr_of l 0 k h1, ?_⟩))
        have h3 : ¬ k = i := fun q => hne q.symm
        have h5 : ¬ k = i + 1 := fun q => hne2 q.symm
        simp only [pq_rv_cat]
        by_cases hq : k + 1 = i
        · have h4 : ¬ w.category = 2 := fun q => h2 ⟨hq, q⟩
          simp [h3, h5, hq, h4]
        · simp [h3, h5, hq]
  · cases hs
theorem pq_nn {α : Type} {x : α} {P : Prop} (h : (none : Option α) = some x) : P := by cases h
theorem pq_i1_eq {st : List Value} {x : Int32} {r : List Value} (h : pq_i1 st = some (x, r)) : st = .int x :: r := by
  unfold pq_i1 at h; split at h <;> cases h; rfl
theorem pq_i2_eq {st : List Value} {x y : Int32} {r : List Value} (h : pq_i2 st = some (x, y, r)) : st = .int y :: .int x :: r := by
  unfold pq_i2 at h; split at h <;> cases h; rfl
theorem pq_l1_eq {st : List Value} {x : Int64} {r : List Value} (h : pq_l1 st = some (x, r)) : st = .long x :: r := by
  unfold pq_l1 at h; split at h <;> cases h; rfl
theorem pq_l2_eq {st : List Value} {x y : Int64} {r : List Value} (h : pq_l2 st = some (x, y, r)) : st = .long y :: .long x :: r := by
  unfold pq_l2 at h; split at h <;> cases h; rfl
theorem pq_li_eq {st : List Value} {x : Int64} {y : Int32} {r : List Value} (h : pq_li st = some (x, y, r)) : st = .int y :: .long x :: r := by
  unfold pq_li at h; split at h <;> cases h; rfl
theorem pq_ld_at {l : pq_L} {i : Nat} {v : Value} (h : pq_ld l i = some v) : l[i]? = some (some v) := by
  unfold pq_ld at h; split at h
  · rename_i w e; cases h; exact e
  · cases h
theorem pq_st1_lt {l l' : pq_L} {i : Nat} {v : Value} (h : pq_st1 l i v = some l') : i < l.length := by
  rw [pq_st1_eq] at h; split at h
  · assumption
  · cases h
theorem pq_st2_lt {l l' : pq_L} {i : Nat} {v : Value} (h : pq_st2 l i v = some l') : i + 1 < l.length := by
  rw [pq_st2_eq] at h; split at h
  · assumption
  · cases h
section PQ1
variable {p : Program} {l : Launch} {e : Env} {R : Room} {s : State} {m : MethodId} {args : Array Value} {below : List Frame} {meth : Method} {c : Code} {H : Heap} {locs : List Loc} {cells slots : Nat} {Q : State → Prop}
  {cc : ByteArray} {h0 b nL pc nx na : Nat} {lk : List (Nat × Nat)} {own : String} {ini : Bool} {ret : Option FieldType} {ls : Array Slot} {lo lo' : pq_L} {st st' : List Value} {v : Value}
theorem pq_s_il (hx : p.tables.exec = Jvm.exec) (hb : c.code = cc) {i n : Nat} (h : pq_il lo i st = some (lo', st')) (hl : pq_Lr h0 b ls nL lo)
    (row : ∀ {x : Int32}, ls[i]? = some (.val (.int x)) → W p l e R s m args below meth c H locs cells slots Q (F0 m (pc + n) ls (.int x :: st.map (pq_rv h0 b))) → W p l e R s m args below meth c H locs cells slots Q (F0 m pc ls (st.map (pq_rv h0 b))))
    (k : ∀ ls', pq_Lr h0 b ls' nL lo' → W p l e R s m args below meth c H locs cells slots Q (F0 m (pc + n) ls' (st'.map (pq_rv h0 b)))) :
    W p l e R s m args below meth c H locs cells slots Q (F0 m pc ls (st.map (pq_rv h0 b))) := by
  unfold pq_il at h
  split at h
  · rename_i x hq
    cases h
    exact row (hl.2.2.2 _ _ (pq_ld_at hq)) (k ls hl)
  · cases h
theorem pq_s_ll (hx : p.tables.exec = Jvm.exec) (hb : c.code = cc) {i n : Nat} (h : pq_ll lo i st = some (lo', st')) (hl : pq_Lr h0 b ls nL lo)
    (row : ∀ {x : Int64}, ls[i]? = some (.val (.long x)) → W p l e R s m args below meth c H locs cells slots Q (F0 m (pc + n) ls (.long x :: st.map (pq_rv h0 b))) → W p l e R s m args below meth c H locs cells slots Q (F0 m pc ls (st.map (pq_rv h0 b))))
    (k : ∀ ls', pq_Lr h0 b ls' nL lo' → W p l e R s m args below meth c H locs cells slots Q (F0 m (pc + n) ls' (st'.map (pq_rv h0 b)))) :
    W p l e R s m args below meth c H locs cells slots Q (F0 m pc ls (st.map (pq_rv h0 b))) := by
  unfold pq_ll at h
  split at h
  · rename_i x hq
    cases h
    exact row (hl.2.2.2 _ _ (pq_ld_at hq)) (k ls hl)
  · cases h
theorem pq_s_al (hx : p.tables.exec = Jvm.exec) (hb : c.code = cc) {i n : Nat} (h : pq_al lo i st = some (lo', st')) (hl : pq_Lr h0 b ls nL lo)
    (row : ∀ {x : Nat}, ls[i]? = some (.val (.ref x)) → W p l e R s m args below meth c H locs cells slots Q (F0 m (pc + n) ls (.ref x :: st.map (pq_rv h0 b))) → W p l e R s m args below meth c H locs cells slots Q (F0 m pc ls (st.map (pq_rv h0 b))))
    (k : ∀ ls', pq_Lr h0 b ls' nL lo' → W p l e R s m args below meth c H locs cells slots Q (F0 m (pc + n) ls' (st'.map (pq_rv h0 b)))) :
    W p l e R s m args below meth c H locs cells slots Q (F0 m pc ls (st.map (pq_rv h0 b))) := by
  unfold pq_al at h
  split at h
  · rename_i x hq
    cases h
    exact row (hl.2.2.2 _ _ (pq_ld_at hq)) (k ls hl)
  · cases h
theorem pq_s_is {i n : Nat} (h : pq_is lo i st = some (lo', st')) (hl : pq_Lr h0 b ls nL lo)
    (row : ∀ {x : Int32} {rest : List Value}, i < nL → (∀ ls' : Array Slot, lv_has ls' nL ((i, Value.int x) :: (pq_pr h0 b 0 lo).filter (fun q => !(q.1 == i) && !(q.1 + 1 == i && q.2.category == 2))) → W p l e R s m args below meth c H locs cells slots Q (F0 m (pc + n) ls' rest)) → W p l e R s m args below meth c H locs cells slots Q (F0 m pc ls (.int x :: rest)))
    (k : ∀ ls', pq_Lr h0 b ls' nL lo' → W p l e R s m args below meth c H locs cells slots Q (F0 m (pc + n) ls' (st'.map (pq_rv h0 b)))) :
    W p l e R s m args below meth c H locs cells slots Q (F0 m pc ls (st.map (pq_rv h0 b))) := by
  unfold pq_is at h
  split at h
  · rename_i x r
    split at h
    · rename_i l1 h1
      cases h
      exact row (x := x) (rest := st'.map (pq_rv h0 b)) (by rw [← hl.2.2.1]; exact pq_st1_lt h1) (fun ls' h' => k ls' (pq_st1_ok hl h1 h'))
    · cases h
  · cases h
theorem pq_s_as {i n : Nat} (h : pq_as lo i st = some (lo', st')) (hl : pq_Lr h0 b ls nL lo)
    (row : ∀ {x : Nat} {rest : List Value}, i < nL → (∀ ls' : Array Slot, lv_has ls' nL ((i, Value.ref x) :: (pq_pr h0 b 0 lo).filter (fun q => !(q.1 == i) && !(q.1 + 1 == i && q.2.category == 2))) → W p l e R s m args below meth c H locs cells slots Q (F0 m (pc + n) ls' rest)) → W p l e R s m args below meth c H locs cells slots Q (F0 m pc ls (.ref x :: rest)))
    (k : ∀ ls', pq_Lr h0 b ls' nL lo' → W p l e R s m args below meth c H locs cells slots Q (F0 m (pc + n) ls' (st'.map (pq_rv h0 b)))) :
    W p l e R s m args below meth c H locs cells slots Q (F0 m pc ls (st.map (pq_rv h0 b))) := by
  unfold pq_as at h
  split at h
  · rename_i x r
    split at h
    · rename_i l1 h1
      cases h
      exact row (x := pq_ad h0 b x) (rest := st'.map (pq_rv h0 b)) (by rw [← hl.2.2.1]; exact pq_st1_lt h1) (fun ls' h' => k ls' (pq_st1_ok hl h1 h'))
    · cases h
  · cases h
theorem pq_s_ls {i n : Nat} (h : pq_ls lo i st = some (lo', st')) (hl : pq_Lr h0 b ls nL lo)
    (row : ∀ {x : Int64} {rest : List Value}, i + 1 < nL → (∀ ls' : Array Slot, lv_has ls' nL ((i, Value.long x) :: (pq_pr h0 b 0 lo).filter (fun q => !(q.1 == i) && (!(q.1 == i + 1) && !(q.1 + 1 == i && q.2.category == 2)))) → W p l e R s m args below meth c H locs cells slots Q (F0 m (pc + n) ls' rest)) → W p l e R s m args below meth c H locs cells slots Q (F0 m pc ls (.long x :: rest)))
    (k : ∀ ls', pq_Lr h0 b ls' nL lo' → W p l e R s m args below meth c H locs cells slots Q (F0 m (pc + n) ls' (st'.map (pq_rv h0 b)))) :
    W p l e R s m args below meth c H locs cells slots Q (F0 m pc ls (st.map (pq_rv h0 b))) := by
  unfold pq_ls at h
  split at h
  · rename_i x r
    split at h
    · rename_i l1 h1
      cases h
      exact row (x := x) (rest := st'.map (pq_rv h0 b)) (by rw [← hl.2.2.1]; exact pq_st2_lt h1) (fun ls' h' => k ls' (pq_st2_ok hl h1 h'))
    · cases h
  · cases h
set_option maxHeartbeats 4000000 in
theorem pq_s1 (hx : p.tables.exec = Jvm.exec) (hb : c.code = cc) {ins : Instr} (h : pq_x1 ins v lo st = some (lo', st')) (hd : decode cc pc = .ok (ins, pq_len ins)) (hown : s.vm.findClass own = some m.cls) (hts : ∀ w ∈ lw_g, w.before args s = true)
    (hok : pq_ok own ini (pc, ins, nx, na, lk, v)) (hcb : pq_cb ret (pc, ins, nx, na, lk, v) = true) (hl : pq_Lr h0 b ls nL lo)
    (k : ∀ ls', pq_Lr h0 b ls' nL lo' → W p l e R s m args below meth c H locs cells slots Q (F0 m (pc + pq_len ins) ls' (st'.map (pq_rv h0 b)))) :
    W p l e R s m args below meth c H locs cells slots Q (F0 m pc ls (st.map (pq_rv h0 b))) := by
  cases ins
  all_goals try exact pq_nn h
  case iconst n =>
    have hv := of_decide_eq_true hcb
    cases h
    cases (show v = _ from hv)
    exact lv_iconst hx hb hd rfl (k ls hl)
  case bipush n =>
    have hv := of_decide_eq_true hcb
    cases h
    cases (show v = _ from hv)
    exact lv_bipush hx hb hd rfl (k ls hl)
  case sipush n =>
    have hv := of_decide_eq_true hcb
    cases h
    cases (show v = _ from hv)
    exact lv_sipush hx hb hd rfl (k ls hl)
  case lconst n =>
    have hv := of_decide_eq_true hcb
    cases h
    cases (show v = _ from hv)
    exact lv_lconst hx hb hd rfl (k ls hl)
  case ldc n =>
    obtain ⟨x, hv, hw⟩ := hok
    cases h
    cases (show v = _ from hv)
    exact lv_ldc hx hb hown (hts _ hw) hd (k ls hl)
  case ldc2_w n =>
    obtain ⟨x, hv, hw⟩ := hok
    cases h
    cases (show v = _ from hv)
    exact lv_ldc2 hx hb hown (hts _ hw) hd (k ls hl)
  case iload_n i => exact pq_s_il hx hb h hl (fun a b => lv_iload_n hx hb hd rfl a b) k
  case iload i => exact pq_s_il hx hb h hl (fun a b => lv_iload hx hb hd a b) k
  case lload_n i => exact pq_s_ll hx hb h hl (fun a b => lv_lload_n hx hb hd rfl a b) k
  case lload i => exact pq_s_ll hx hb h hl (fun a b => lv_lload hx hb hd a b) k
  case aload_n i => exact pq_s_al hx hb h hl (fun a b => lv_aload_n hx hb hd rfl a b) k
  case aload i => exact pq_s_al hx hb h hl (fun a b => lv_aload hx hb hd a b) k
  case istore_n i => exact pq_s_is h hl (fun a b => lv_istore_n hx hb hd rfl hl.has a rfl b) k
  case istore i => exact pq_s_is h hl (fun a b => lv_istore hx hb hd hl.has a rfl b) k
  case lstore_n i => exact pq_s_ls h hl (fun a b => lv_lstore_n hx hb hd rfl hl.has a rfl b) k
  case lstore i => exact pq_s_ls h hl (fun a b => lv_lstore hx hb hd hl.has a rfl b) k
  case astore_n i => exact pq_s_as h hl (fun a b => lv_astore_n hx hb hd rfl hl.has a rfl b) k
  case astore i => exact pq_s_as h hl (fun a b => lv_astore hx hb hd hl.has a rfl b) k
  case iinc i n =>
    have hv : v = .int (Int32.ofInt n) := of_decide_eq_true hcb
    subst hv
    have h2 : pq_inc lo i (.int (Int32.ofInt n)) st = some (lo', st') := h
    unfold pq_inc at h2
    split at h2
    · rename_i x n2 hq e2
      cases e2
      split at h2
      · rename_i l1 h3
        cases h2
        obtain ⟨q, hq2⟩ := List.getElem?_of_mem (by simpa using pq_pr_of (h0 := h0) (b := b) lo 0 i (pq_ld_at hq))
        exact lv_iinc hx hb hd hl.has hq2 rfl (by rw [← hl.2.2.1]; exact pq_st1_lt h3) rfl (fun ls' h' => k ls' (pq_st1_ok hl h3 h'))
      · cases h2
    · cases h2
  case iadd =>
    simp only [pq_x1] at h
    split at h
    · rename_i x y r h1
      cases pq_i2_eq h1
      cases h
      exact lv_iadd hx hb hd (k ls hl)
    · cases h
  case isub =>
    simp only [pq_x1] at h
    split at h
    · rename_i x y r h1
      cases pq_i2_eq h1
      cases h
      exact lv_isub hx hb hd (k ls hl)
    · cases h
  case imul =>
    simp only [pq_x1] at h
    split at h
    · rename_i x y r h1
      cases pq_i2_eq h1
      cases h
      exact lv_imul hx hb hd (k ls hl)
    · cases h
  case iand =>
    simp only [pq_x1] at h
    split at h
    · rename_i x y r h1
      cases pq_i2_eq h1
      cases h
      exact lv_iand hx hb hd (k ls hl)
    · cases h
  case ior =>
    simp only [pq_x1] at h
    split at h
    · rename_i x y r h1
      cases pq_i2_eq h1
      cases h
      exact lv_ior hx hb hd (k ls hl)
    · cases h
  case ixor =>
    simp only [pq_x1] at h
    split at h
    · rename_i x y r h1
      cases pq_i2_eq h1
      cases h
      exact lv_ixor hx hb hd (k ls hl)
    · cases h
  case ishl =>
    simp only [pq_x1] at h
    split at h
    · rename_i x y r h1
      cases pq_i2_eq h1
      cases h
      exact lv_ishl hx hb hd (k ls hl)
    · cases h
  case ishr =>
    simp only [pq_x1] at h
    split at h
    · rename_i x y r h1
      cases pq_i2_eq h1
      cases h
      exact lv_ishr hx hb hd (k ls hl)
    · cases h
  case ladd =>
    simp only [pq_x1] at h
    split at h
    · rename_i x y r h1
      cases pq_l2_eq h1
      cases h
      exact lv_ladd hx hb hd (k ls hl)
    · cases h
  case lsub =>
    simp only [pq_x1] at h
    split at h
    · rename_i x y r h1
      cases pq_l2_eq h1
      cases h
      exact lv_lsub hx hb hd (k ls hl)
    · cases h
  case land =>
    simp only [pq_x1] at h
    split at h
    · rename_i x y r h1
      cases pq_l2_eq h1
      cases h
      exact lv_land hx hb hd (k ls hl)
    · cases h
  case lor =>
    simp only [pq_x1] at h
    split at h
    · rename_i x y r h1
      cases pq_l2_eq h1
      cases h
      exact lv_lor hx hb hd (k ls hl)
    · cases h
  case lxor =>
    simp only [pq_x1] at h
    split at h
    · rename_i x y r h1
      cases pq_l2_eq h1
      cases h
      exact lv_lxor hx hb hd (k ls hl)
    · cases h
  case lcmp =>
    simp only [pq_x1] at h
    split at h
    · rename_i x y r h1
      cases pq_l2_eq h1
      cases h
      exact W.lcmp hx hb hd (k ls hl)
    · cases h
  case lshl =>
    simp only [pq_x1] at h
    split at h
    · rename_i x y r h1
      cases pq_li_eq h1
      cases h
      exact lv_lshl hx hb hd rfl (k ls hl)
    · cases h
  case lushr =>
    simp only [pq_x1] at h
    split at h
    · rename_i x y r h1
      cases pq_li_eq h1
      cases h
      exact lv_lushr hx hb hd rfl (k ls hl)
    · cases h
  case l2i =>
    simp only [pq_x1] at h
    split at h
    · rename_i x r h1
      cases pq_l1_eq h1
      cases h
      exact lv_l2i hx hb hd rfl (k ls hl)
    · cases h
  case i2c =>
    simp only [pq_x1] at h
    split at h
    · rename_i x r h1
      cases pq_i1_eq h1
      cases h
      exact lv_i2c hx hb hd rfl (k ls hl)
    · cases h
  case idiv =>
    simp only [pq_x1] at h
    split at h
    · rename_i x y r h1
      cases pq_i2_eq h1
      split at h
      · cases h
      · rename_i hne
        cases h
        exact lv_idiv hx hb hd hne (k ls hl)
    · cases h
  case irem =>
    simp only [pq_x1] at h
    split at h
    · rename_i x y r h1
      cases pq_i2_eq h1
      split at h
      · cases h
      · rename_i hne
        cases h
        exact lv_irem hx hb hd hne (k ls hl)
    · cases h
  case dup =>
    have h1 : pq_dup st = some st' ∧ lo = lo' := by
      simp only [pq_x1] at h
      split at h
      · rename_i r h1; cases h; exact ⟨h1, rfl⟩
      · cases h
    obtain ⟨h1, rfl⟩ := h1
    unfold pq_dup at h1
    split at h1
    · split at h1
      · rename_i w r2 hc
        cases h1
        exact lv_dup hx hb hd (by rw [pq_rv_cat]; exact hc) (k ls hl)
      · cases h1
    · cases h1
  case dup2 =>
    have h1 : pq_dup2 st = some st' ∧ lo = lo' := by
      simp only [pq_x1] at h
      split at h
      · rename_i r h1; cases h; exact ⟨h1, rfl⟩
      · cases h
    obtain ⟨h1, rfl⟩ := h1
    unfold pq_dup2 at h1
    split at h1
    · split at h1
      · rename_i w w2 r2 hc
        cases h1
        exact lv_dup2_11 hx hb hd (by rw [pq_rv_cat]; exact hc.1) (by rw [pq_rv_cat]; exact hc.2) (k ls hl)
      · cases h1
    · cases h1
end PQ1
