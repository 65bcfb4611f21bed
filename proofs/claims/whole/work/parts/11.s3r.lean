theorem pq_lku {ci k : Nat} : ∀ {lk : List (Nat × Nat)}, lk.lookup ci = some k → (ci, k) ∈ lk := by
  intro lk
  induction lk with
  | nil => intro h; cases h
  | cons a r ih =>
    intro h
    obtain ⟨a1, a2⟩ := a
    rw [List.lookup_cons] at h
    by_cases e : ci = a1
    · subst e
      simp at h
      subst h
      exact List.mem_cons_self
    · rw [show (ci == a1) = false by simpa using e] at h
      exact List.mem_cons_of_mem _ (ih h)
/-- what the tables say of a class of ours -/
theorem pq_clok {ci : Nat} {r : vw_C} (h : pq_cl[ci]? = some r) : (∀ w ∈ u_ws r.1 r.2.1 r.2.2, w ∈ lw_g) ∧ pq_nf ci = r.2.2 ∧ pq_cn[ci]? = some r.1 ∧ ∃ ty0 : Nat → FieldType, (∀ k, k < r.2.2 → parseFieldDescriptor (r.2.1 k).2.2.1 = some (ty0 k)) ∧ (∀ a, a < r.2.2 → ∀ b, b < r.2.2 → a ≠ b → (r.2.1 a).2.1 ≠ (r.2.1 b).2.1) ∧ ∀ k, k < r.2.2 → (pq_ft.getD ci [])[k]? = some (ty0 k) := by
  match ci, h with
  | 0, h => cases h; exact ⟨pi0, rfl, rfl, pt0, po0, pn0, by decide⟩
  | 1, h => cases h; exact ⟨pi1, rfl, rfl, pt1, po1, pn1, by decide⟩
  | 2, h => cases h; exact ⟨pi2, rfl, rfl, pt2, po2, pn2, by decide⟩
  | 3, h => cases h; exact ⟨pi3, rfl, rfl, pt3, po3, pn3, by decide⟩
  | 4, h => cases h; exact ⟨pi4, rfl, rfl, pt4, po4, pn4, by decide⟩
  | 5, h => cases h; exact ⟨pi5, rfl, rfl, pt5, po5, pn5, by decide⟩
  | 6, h => cases h; exact ⟨pi6, rfl, rfl, pt6, po6, pn6, by decide⟩
  | k + 7, h => simp [pq_cl] at h
theorem pq_fs_at {h0 b : Nat} {M : pq_M} {ci q k : Nat} (h : k < pq_nf ci) : (pq_fs h0 b M ci q)[k]? = some (pq_rv h0 b (pq_rf M ci q k)) := by
  unfold pq_fs
  rw [List.getElem?_map, List.getElem?_range h]
  rfl
theorem pq_cell_o {aC : FieldType → ClassId} {h0 b : Nat} {M : pq_M} {ci q : Nat} (h : M.1[q]? = some (.inr ci)) : pq_cell aC h0 b M q = .inr (ci, pq_fs h0 b M ci q) := by
  unfold pq_cell; rw [h]
theorem pq_cell_a {aC : FieldType → ClassId} {h0 b : Nat} {M : pq_M} {q n : Nat} {ty : FieldType} (h : M.1[q]? = some (.inl (ty, n))) : pq_cell aC h0 b M q = .inl (aC ty, n, pq_av h0 b M ty q) := by
  unfold pq_cell; rw [h]
theorem pq_lt {M : pq_M} {q : Nat} {x : pq_S} (h : M.1[q]? = some x) : q < M.1.length := (List.getElem?_eq_some_iff.mp h).1
theorem pq_u_same {α : Type} (f : Nat → Nat → α) (q k j : Nat) (x : α) : pq_u f q k x q j = if j = k then x else f q j := by
  unfold pq_u; by_cases h : j = k <;> simp [h]
theorem pq_arr_ok {M : pq_M} {q : Nat} {i : Int32} {ty : FieldType} (h : pq_arr M q i = some ty) : ∃ n, M.1[q]? = some (.inl (ty, n)) ∧ vp_in i n := by
  unfold pq_arr at h
  split at h
  · rename_i ty2 n e
    split at h
    · cases h
    · rename_i hn
      cases h
      exact ⟨n, e, hn⟩
  · cases h
theorem pq_wf_ok {h0 b : Nat} {M M' : pq_M} {ci q k : Nat} {v : Value} (h : pq_wf M ci q k v = some M') : ∃ ty, (pq_ft.getD ci [])[k]? = some ty ∧ pq_off q M M' ∧ narrow ty (pq_rv h0 b v) = pq_rv h0 b v ∧ fits ty (pq_rv h0 b v) = true ∧
    ∀ j, pq_rf M' ci q j = if j = k then v else pq_rf M ci q j := by
  have hg : ∀ ty, (pq_ft.getD ci [])[k]? = some ty → (pq_ft.getD ci []).getD k .int = ty := fun ty e => by rw [List.getD_eq_getElem?_getD, e]; rfl
  obtain ⟨sh, I, J, RR⟩ := M
  simp only [pq_wf] at h
  split at h
  · rename_i x e1
    cases h
    refine ⟨_, e1, ⟨rfl, fun r hr => ⟨pq_u_off _ _ _ _ hr, rfl, rfl⟩⟩, rfl, rfl, fun j => ?_⟩
    by_cases hj : j = k
    · subst hj; rw [pq_rf_eq, hg _ e1]; simp [pq_u_same]
    · simp only [pq_rf_eq, if_neg hj, pq_u_same]
  · rename_i x e1
    split at h
    · rename_i hx
      cases h
      refine ⟨_, e1, ⟨rfl, fun r hr => ⟨pq_u_off _ _ _ _ hr, rfl, rfl⟩⟩, ?_, ?_, fun j => ?_⟩
      · rcases hx with rfl | rfl <;> rfl
      · rcases hx with rfl | rfl <;> rfl
      · by_cases hj : j = k
        · subst hj; rw [pq_rf_eq, hg _ e1]; simp [pq_u_same]
        · simp only [pq_rf_eq, if_neg hj, pq_u_same]
    · cases h
  · rename_i x e1
    cases h
    refine ⟨_, e1, ⟨rfl, fun r hr => ⟨rfl, pq_u_off _ _ _ _ hr, rfl⟩⟩, rfl, rfl, fun j => ?_⟩
    by_cases hj : j = k
    · subst hj; rw [pq_rf_eq, hg _ e1]; simp [pq_u_same]
    · simp only [pq_rf_eq, if_neg hj, pq_u_same]
  · rename_i t x e1
    cases h
    refine ⟨_, e1, ⟨rfl, fun r hr => ⟨rfl, rfl, pq_u_off _ _ _ _ hr⟩⟩, rfl, rfl, fun j => ?_⟩
    by_cases hj : j = k
    · subst hj; rw [pq_rf_eq, hg _ e1]; simp [pq_u_same, va_rf]
    · simp only [pq_rf_eq, if_neg hj, pq_u_same]
  · rename_i t x e1
    cases h
    refine ⟨_, e1, ⟨rfl, fun r hr => ⟨rfl, rfl, pq_u_off _ _ _ _ hr⟩⟩, rfl, rfl, fun j => ?_⟩
    by_cases hj : j = k
    · subst hj; rw [pq_rf_eq, hg _ e1]; simp [pq_u_same, va_rf]
    · simp only [pq_rf_eq, if_neg hj, pq_u_same]
  · cases h
theorem pq_rf_rv (h0 b : Nat) (r : Option Nat) : va_rf (r.map (pq_ad h0 b)) = pq_rv h0 b (va_rf r) := by cases r <;> rfl
section PQ3
variable {p : Program} {l : Launch} {e : Env} {R : Room} {s : State} {m : MethodId} {args : Array Value} {below : List Frame} {meth : Method} {c : Code} {H : Heap} {locs : List Loc} {cells slots : Nat} {Q : State → Prop}
  {cc : ByteArray} {D : va_G} {aC : FieldType → ClassId} {xs : Nat → Int32} {h0 b L pc nL : Nat} {own : String} {ini : Bool} {ls : Array Slot} {r : List Value} {M M' : pq_M}
theorem pq_get (hx : p.tables.exec = Jvm.exec) (hb : c.code = cc) (hts : ∀ w ∈ lw_g, w.before args s = true) (hown : s.vm.findClass own = some m.cls) (hK : va_K D pq_cl (pq_tys aC) s) (hR : pq_R D aC h0 b L xs M H)
    {q ci k idx : Nat} (hsh : M.1[q]? = some (.inr ci)) (hok : pq_okF own idx ci k) (hd : decode cc pc = .ok (.getfield idx, 3))
    (kk : W p l e R s m args below meth c H locs cells slots Q (F0 m (pc + 3) ls (pq_rv h0 b (pq_rf M ci q k) :: r))) : W p l e R s m args below meth c H locs cells slots Q (F0 m pc ls (.ref (pq_ad h0 b q) :: r)) := by
  obtain ⟨rc, hc, hk, ref, hl, hsame⟩ := hok
  obtain ⟨hin, hnf, -, ty0, hty, hnm, hft⟩ := pq_clok hc
  have hq0 : ¬ q = 0 := fun e => by rw [e, hR.2.2.1] at hsh; cases hsh
  have he := pq_ws_at (aC := aC) (h0 := h0) (b := b) hq0 (pq_lt hsh)
  rw [pq_cell_o hsh] at he
  refine va_get (C := rc.1) (T := rc.2.1) (N := rc.2.2) (ref := ref) hx hb hts hin hown hK hR.2.1 (q - 1) he hc k hk (hts _ hl) ?_ (pq_fs_at (by rw [hnf]; exact hk)) hd kk
  rcases hsame with e1 | e1
  · intro x hx; rw [← e1]; exact hx
  · intro x hx; exact u_same (hts _ e1) x hx
theorem pq_put (hx : p.tables.exec = Jvm.exec) (hb : c.code = cc) (hts : ∀ w ∈ lw_g, w.before args s = true) (hown : s.vm.findClass own = some m.cls) (hK : va_K D pq_cl (pq_tys aC) s) (hR : pq_R D aC h0 b L xs M H) (hS : va_S (pq_A h0) s.heap H locs)
    (hini : ini = true → meth.name = "<init>") {q ci k idx : Nat} {v : Value} (hsh : M.1[q]? = some (.inr ci)) (hok : pq_okQ own ini idx ci k) (hw : pq_wf M ci q k v = some M') (hd : decode cc pc = .ok (.putfield idx, 3))
    (kk : ∀ (H1 : Heap) (locs1 : List Loc), pq_R D aC h0 b L xs M' H1 → va_S (pq_A h0) s.heap H1 locs1 → W p l e R s m args below meth c H1 locs1 cells slots Q (F0 m (pc + 3) ls r)) : W p l e R s m args below meth c H locs cells slots Q (F0 m pc ls (pq_rv h0 b v :: .ref (pq_ad h0 b q) :: r)) := by
  obtain ⟨⟨rc, hc, hk, ref, hl, hsame⟩, rc2, hc2, hfin⟩ := hok
  cases Option.some.inj (hc.symm.trans hc2)
  obtain ⟨hin, hnf, -, ty0, hty, hnm, hft⟩ := pq_clok hc
  obtain ⟨ty, ht1, hoff, hnar, hfit, hrf⟩ := pq_wf_ok (h0 := h0) (b := b) hw
  have hty2 : ty0 k = ty := Option.some.inj ((hft k hk).symm.trans ht1)
  have hq0 : ¬ q = 0 := fun e => by rw [e, hR.2.2.1] at hsh; cases hsh
  have he := pq_ws_at (aC := aC) (h0 := h0) (b := b) hq0 (pq_lt hsh)
  rw [pq_cell_o hsh] at he
  have hcell : pq_cell aC h0 b M' q = .inr (ci, (pq_fs h0 b M ci q).set k (pq_rv h0 b v)) := by
    rw [pq_cell_o (by rw [hoff.1]; exact hsh)]
    congr 2
    apply List.ext_getElem?
    intro j
    rw [List.getElem?_set]
    by_cases hj : j < pq_nf ci
    · rw [pq_fs_at hj, pq_fs_at hj, hrf j]
      by_cases hjk : j = k
      · subst hjk; rw [if_pos rfl, if_pos rfl, if_pos (by unfold pq_fs; simpa using hj)]
      · rw [if_neg hjk, if_neg (fun e => hjk e.symm)]
    · have e1 : ∀ M2 : pq_M, (pq_fs h0 b M2 ci q)[j]? = none := fun M2 => by unfold pq_fs; simp; omega
      rw [e1, e1, if_neg (by rw [hnf] at hj; omega)]
  have hs2 : ∀ x, s.fieldFound? (rc.2.1 k).1 (rc.2.1 k).2.1 (rc.2.1 k).2.2.1 = some x → s.fieldFound? ref (rc.2.1 k).2.1 (rc.2.1 k).2.2.1 = some x := by
    rcases hsame with e1 | e1
    · intro x hx; rw [← e1]; exact hx
    · intro x hx; exact u_same (hts _ e1) x hx
  have hlen : k < (pq_fs h0 b M ci q).length := by unfold pq_fs; simp; rw [hnf]; exact hk
  rcases hfin with hf | ⟨hf, hi, hdc⟩
  · exact va_put (C := rc.1) (T := rc.2.1) (N := rc.2.2) (ref := ref) hx hb hts hin ty0 hty hnm hown hK hR.2.1 pq_wsD hS (q - 1) he hc k hk (hts _ hl) hs2 hf (by rw [hty k hk, hty2]) hnar hfit hlen hd (fun H1 locs1 hP1 hD1 hS1 => kk H1 locs1 (hR.wrote hoff hq0 hcell hP1) hS1)
  · exact va_putF (C := rc.1) (T := rc.2.1) (N := rc.2.2) (ref := ref) hx hb hts hin ty0 hty hnm hown hK hR.2.1 pq_wsD hS (q - 1) he hc k hk (hts _ hl) hs2 hf (hini hi) hdc (by rw [hty k hk, hty2]) hnar hfit hlen hd (fun H1 locs1 hP1 hD1 hS1 => kk H1 locs1 (hR.wrote hoff hq0 hcell hP1) hS1)
theorem pq_nA (hKx : b < h0) : ¬ pq_A h0 b := fun (h : h0 ≤ b) => by omega
theorem pq_ald (hx : p.tables.exec = Jvm.exec) (hb : c.code = cc) (hK : pq_K D aC h0 b L xs s) (hR : pq_R D aC h0 b L xs M H) (hS : va_S (pq_A h0) s.heap H locs)
    {q : Nat} {i : Int32} (ha : pq_arr M q i = some .int) (hd : decode cc pc = .ok (.iaload, 1))
    (kk : W p l e R s m args below meth c H locs cells slots Q (F0 m (pc + 1) ls (.int (M.2.1 q i.toNatClampNeg) :: r))) : W p l e R s m args below meth c H locs cells slots Q (F0 m pc ls (.int i :: .ref (pq_ad h0 b q) :: r)) := by
  obtain ⟨n, hsh, hin⟩ := pq_arr_ok ha
  by_cases hq0 : q = 0
  · subst hq0
    have hn : n = L := by rw [hR.2.2.1] at hsh; cases hsh; rfl
    subst hn
    have hlt : i.toNatClampNeg < n := Nat.not_le.mp fun z => hin (Or.inr z)
    rw [hR.2.2.2.1 _ hlt] at kk
    exact va_sld hx hb hK.2.2.2.1 (Nat.lt_of_lt_of_le hK.2.2.2.2.1 hK.2.2.2.2.2) (pq_nA hK.2.2.2.2.1) hS hin hd kk
  · have he := pq_ws_at (aC := aC) (h0 := h0) (b := b) hq0 (pq_lt hsh)
    rw [pq_cell_a hsh] at he
    exact va_iald hx hb hK.1 hR.2.1 (q - 1) 0 he rfl hin hd kk
theorem pq_cald (hx : p.tables.exec = Jvm.exec) (hb : c.code = cc) (hK : pq_K D aC h0 b L xs s) (hR : pq_R D aC h0 b L xs M H)
    {q : Nat} {i : Int32} (ha : pq_arr M q i = some .char) (hd : decode cc pc = .ok (.caload, 1))
    (kk : W p l e R s m args below meth c H locs cells slots Q (F0 m (pc + 1) ls (.int (M.2.1 q i.toNatClampNeg) :: r))) : W p l e R s m args below meth c H locs cells slots Q (F0 m pc ls (.int i :: .ref (pq_ad h0 b q) :: r)) := by
  obtain ⟨n, hsh, hin⟩ := pq_arr_ok ha
  have hq0 : ¬ q = 0 := fun e => by rw [e, hR.2.2.1] at hsh; cases hsh
  have he := pq_ws_at (aC := aC) (h0 := h0) (b := b) hq0 (pq_lt hsh)
  rw [pq_cell_a hsh] at he
  exact va_cald hx hb hK.1 hR.2.1 (q - 1) 2 he rfl hin hd kk
theorem pq_lald (hx : p.tables.exec = Jvm.exec) (hb : c.code = cc) (hK : pq_K D aC h0 b L xs s) (hR : pq_R D aC h0 b L xs M H)
    {q : Nat} {i : Int32} (ha : pq_arr M q i = some .long) (hd : decode cc pc = .ok (.laload, 1))
    (kk : W p l e R s m args below meth c H locs cells slots Q (F0 m (pc + 1) ls (.long (M.2.2.1 q i.toNatClampNeg) :: r))) : W p l e R s m args below meth c H locs cells slots Q (F0 m pc ls (.int i :: .ref (pq_ad h0 b q) :: r)) := by
  obtain ⟨n, hsh, hin⟩ := pq_arr_ok ha
  have hq0 : ¬ q = 0 := fun e => by rw [e, hR.2.2.1] at hsh; cases hsh
  have he := pq_ws_at (aC := aC) (h0 := h0) (b := b) hq0 (pq_lt hsh)
  rw [pq_cell_a hsh] at he
  exact va_lald hx hb hK.1 hR.2.1 (q - 1) 1 he rfl hin hd kk
theorem pq_aald (hx : p.tables.exec = Jvm.exec) (hb : c.code = cc) (hK : pq_K D aC h0 b L xs s) (hR : pq_R D aC h0 b L xs M H)
    {q : Nat} {i : Int32} {C : String} (ha : pq_arr M q i = some (.object C)) (hd : decode cc pc = .ok (.aaload, 1))
    (kk : W p l e R s m args below meth c H locs cells slots Q (F0 m (pc + 1) ls (pq_rv h0 b (va_rf (M.2.2.2 q i.toNatClampNeg)) :: r))) : W p l e R s m args below meth c H locs cells slots Q (F0 m pc ls (.int i :: .ref (pq_ad h0 b q) :: r)) := by
  obtain ⟨n, hsh, hin⟩ := pq_arr_ok ha
  have hC : C = "PursuitDesk$State" := by
    rcases hR.2.2.2.2 q n _ hsh with e | e | e | e <;> cases e
    rfl
  subst hC
  have hq0 : ¬ q = 0 := fun e => by rw [e, hR.2.2.1] at hsh; cases hsh
  have he := pq_ws_at (aC := aC) (h0 := h0) (b := b) hq0 (pq_lt hsh)
  rw [pq_cell_a hsh] at he
  rw [← pq_rf_rv] at kk
  exact va_aldq hx hb hK.1 hR.2.1 (q - 1) 3 he rfl hin hd kk
theorem pq_ist (hx : p.tables.exec = Jvm.exec) (hb : c.code = cc) (hK : pq_K D aC h0 b L xs s) (hR : pq_R D aC h0 b L xs M H) (hS : va_S (pq_A h0) s.heap H locs)
    {q : Nat} {i x : Int32} (ha : pq_arr M q i = some .int) (hq0 : ¬ q = 0) (hd : decode cc pc = .ok (.iastore, 1))
    (kk : ∀ (H1 : Heap) (locs1 : List Loc), pq_R D aC h0 b L xs (M.1, pq_u M.2.1 q i.toNatClampNeg x, M.2.2.1, M.2.2.2) H1 → va_S (pq_A h0) s.heap H1 locs1 → W p l e R s m args below meth c H1 locs1 cells slots Q (F0 m (pc + 1) ls r)) : W p l e R s m args below meth c H locs cells slots Q (F0 m pc ls (.int x :: .int i :: .ref (pq_ad h0 b q) :: r)) := by
  obtain ⟨n, hsh, hin⟩ := pq_arr_ok ha
  have he := pq_ws_at (aC := aC) (h0 := h0) (b := b) hq0 (pq_lt hsh)
  rw [pq_cell_a hsh] at he
  refine va_iast hx hb hK.1 hR.2.1 pq_wsD hS (q - 1) 0 he rfl hin hd (fun H1 locs1 hP1 hD1 hS1 => kk H1 locs1 (hR.wrote ⟨rfl, fun r hr => ⟨pq_u_off _ _ _ _ hr, rfl, rfl⟩⟩ hq0 ?_ hP1) hS1)
  rw [pq_cell_a (M := (M.1, pq_u M.2.1 q i.toNatClampNeg x, M.2.2.1, M.2.2.2)) hsh]
  show Sum.inl (aC .int, n, Sum.inl (pq_u M.2.1 q i.toNatClampNeg x q)) = _
  congr 4
  funext j
  rw [pq_u_same]
  rfl
theorem pq_cst (hx : p.tables.exec = Jvm.exec) (hb : c.code = cc) (hK : pq_K D aC h0 b L xs s) (hR : pq_R D aC h0 b L xs M H) (hS : va_S (pq_A h0) s.heap H locs)
    {q : Nat} {i x : Int32} (ha : pq_arr M q i = some .char) (hq0 : ¬ q = 0) (hd : decode cc pc = .ok (.castore, 1))
    (kk : ∀ (H1 : Heap) (locs1 : List Loc), pq_R D aC h0 b L xs (M.1, pq_u M.2.1 q i.toNatClampNeg (vp_nar .char x), M.2.2.1, M.2.2.2) H1 → va_S (pq_A h0) s.heap H1 locs1 → W p l e R s m args below meth c H1 locs1 cells slots Q (F0 m (pc + 1) ls r)) : W p l e R s m args below meth c H locs cells slots Q (F0 m pc ls (.int x :: .int i :: .ref (pq_ad h0 b q) :: r)) := by
  obtain ⟨n, hsh, hin⟩ := pq_arr_ok ha
  have he := pq_ws_at (aC := aC) (h0 := h0) (b := b) hq0 (pq_lt hsh)
  rw [pq_cell_a hsh] at he
  refine va_cast hx hb hK.1 hR.2.1 pq_wsD hS (q - 1) 2 he rfl hin hd (fun H1 locs1 hP1 hD1 hS1 => kk H1 locs1 (hR.wrote ⟨rfl, fun r hr => ⟨pq_u_off _ _ _ _ hr, rfl, rfl⟩⟩ hq0 ?_ hP1) hS1)
  rw [pq_cell_a (M := (M.1, pq_u M.2.1 q i.toNatClampNeg (vp_nar .char x), M.2.2.1, M.2.2.2)) hsh]
  show Sum.inl (aC .char, n, Sum.inl (pq_u M.2.1 q i.toNatClampNeg (vp_nar .char x) q)) = _
  congr 4
  funext j
  rw [pq_u_same]
  rfl
theorem pq_lst (hx : p.tables.exec = Jvm.exec) (hb : c.code = cc) (hK : pq_K D aC h0 b L xs s) (hR : pq_R D aC h0 b L xs M H) (hS : va_S (pq_A h0) s.heap H locs)
    {q : Nat} {i : Int32} {x : Int64} (ha : pq_arr M q i = some .long) (hq0 : ¬ q = 0) (hd : decode cc pc = .ok (.lastore, 1))
    (kk : ∀ (H1 : Heap) (locs1 : List Loc), pq_R D aC h0 b L xs (M.1, M.2.1, pq_u M.2.2.1 q i.toNatClampNeg x, M.2.2.2) H1 → va_S (pq_A h0) s.heap H1 locs1 → W p l e R s m args below meth c H1 locs1 cells slots Q (F0 m (pc + 1) ls r)) : W p l e R s m args below meth c H locs cells slots Q (F0 m pc ls (.long x :: .int i :: .ref (pq_ad h0 b q) :: r)) := by
  obtain ⟨n, hsh, hin⟩ := pq_arr_ok ha
  have he := pq_ws_at (aC := aC) (h0 := h0) (b := b) hq0 (pq_lt hsh)
  rw [pq_cell_a hsh] at he
  refine va_last hx hb hK.1 hR.2.1 pq_wsD hS (q - 1) 1 he rfl hin hd (fun H1 locs1 hP1 hD1 hS1 => kk H1 locs1 (hR.wrote ⟨rfl, fun r hr => ⟨rfl, pq_u_off _ _ _ _ hr, rfl⟩⟩ hq0 ?_ hP1) hS1)
  rw [pq_cell_a (M := (M.1, M.2.1, pq_u M.2.2.1 q i.toNatClampNeg x, M.2.2.2)) hsh]
  show Sum.inl (aC .long, n, Sum.inr (Sum.inl (pq_u M.2.2.1 q i.toNatClampNeg x q))) = _
  congr 5
  funext j
  rw [pq_u_same]
  rfl
theorem pq_ast (hx : p.tables.exec = Jvm.exec) (hb : c.code = cc) (hK : pq_K D aC h0 b L xs s) (hR : pq_R D aC h0 b L xs M H) (hS : va_S (pq_A h0) s.heap H locs)
    {q v : Nat} {i : Int32} {C : String} (ha : pq_arr M q i = some (.object C)) (hv : M.1[v]? = some (.inr 3)) (hq0 : ¬ q = 0) (hd : decode cc pc = .ok (.aastore, 1))
    (kk : ∀ (H1 : Heap) (locs1 : List Loc), pq_R D aC h0 b L xs (M.1, M.2.1, M.2.2.1, pq_u M.2.2.2 q i.toNatClampNeg (some v)) H1 → va_S (pq_A h0) s.heap H1 locs1 → W p l e R s m args below meth c H1 locs1 cells slots Q (F0 m (pc + 1) ls r)) : W p l e R s m args below meth c H locs cells slots Q (F0 m pc ls (.ref (pq_ad h0 b v) :: .int i :: .ref (pq_ad h0 b q) :: r)) := by
  obtain ⟨n, hsh, hin⟩ := pq_arr_ok ha
  have hC : C = "PursuitDesk$State" := by
    rcases hR.2.2.2.2 q n _ hsh with e | e | e | e <;> cases e
    rfl
  subst hC
  have hv0 : ¬ v = 0 := fun e => by rw [e, hR.2.2.1] at hv; cases hv
  have he := pq_ws_at (aC := aC) (h0 := h0) (b := b) hq0 (pq_lt hsh)
  rw [pq_cell_a hsh] at he
  have hev := pq_ws_at (aC := aC) (h0 := h0) (b := b) hv0 (pq_lt hv)
  rw [pq_cell_o hv] at hev
  refine va_astq (r := ("PursuitDesk$State", pT3, 10)) hx hb hK.1 hR.2.1 pq_wsD hS (q - 1) 3 (v - 1) 3 he rfl hev rfl hin hd (fun H1 locs1 hP1 hD1 hS1 => kk H1 locs1 (hR.wrote ⟨rfl, fun r hr => ⟨rfl, rfl, pq_u_off _ _ _ _ hr⟩⟩ hq0 ?_ hP1) hS1)
  rw [pq_cell_a (M := (M.1, M.2.1, M.2.2.1, pq_u M.2.2.2 q i.toNatClampNeg (some v))) hsh]
  show Sum.inl (aC _, n, Sum.inr (Sum.inr (Sum.inr (Sum.inr (fun k => (pq_u M.2.2.2 q i.toNatClampNeg (some v) q k).map (pq_ad h0 b)))))) = _
  congr 7
  funext j
  rw [pq_u_same]
  unfold va_up
  split <;> rfl
theorem pq_aln (hx : p.tables.exec = Jvm.exec) (hb : c.code = cc) (hK : pq_K D aC h0 b L xs s) (hR : pq_R D aC h0 b L xs M H) (hS : va_S (pq_A h0) s.heap H locs)
    {q n : Nat} {ty : FieldType} (hsh : M.1[q]? = some (.inl (ty, n))) (hd : decode cc pc = .ok (.arraylength, 1))
    (kk : W p l e R s m args below meth c H locs cells slots Q (F0 m (pc + 1) ls (.int (Int32.ofNat n) :: r))) : W p l e R s m args below meth c H locs cells slots Q (F0 m pc ls (.ref (pq_ad h0 b q) :: r)) := by
  by_cases hq0 : q = 0
  · subst hq0
    have hn : n = L := by rw [hR.2.2.1] at hsh; cases hsh; rfl
    subst hn
    exact va_slen hx hb hK.2.2.2.1 (Nat.lt_of_lt_of_le hK.2.2.2.2.1 hK.2.2.2.2.2) (pq_nA hK.2.2.2.2.1) hS hd kk
  · have he := pq_ws_at (aC := aC) (h0 := h0) (b := b) hq0 (pq_lt hsh)
    rw [pq_cell_a hsh] at he
    have hmem : ∃ t0 : Nat, (pq_tys aC)[t0]? = some (aC ty, ty) := by
      rcases hR.2.2.2.2 q n _ hsh with e | e | e | e <;> subst e
      · exact ⟨0, rfl⟩
      · exact ⟨1, rfl⟩
      · exact ⟨2, rfl⟩
      · exact ⟨3, rfl⟩
    obtain ⟨t0, ht⟩ := hmem
    exact va_alen hx hb hK.1 hR.2.1 (q - 1) t0 he ht rfl hd kk
theorem pq_cpyi (hx : p.tables.exec = Jvm.exec) (hb : c.code = cc) (hml : c.maxLocals = ls.size) (hts : ∀ w ∈ lw_g, w.before args s = true) (hown : s.vm.findClass own = some m.cls) (hK : pq_K D aC h0 b L xs s) (hR : pq_R D aC h0 b L xs M H) (hS : va_S (pq_A h0) s.heap H locs)
    {q1 q2 n1 n2 idx : Nat} {sp dp n : Int32} (hok : pq_okA own idx) (h1 : M.1[q1]? = some (.inl (.int, n1))) (h2 : M.1[q2]? = some (.inl (.int, n2))) (hq1 : ¬ q1 = 0) (hq2 : ¬ q2 = 0)
    (g1 : ¬ sp < 0) (g2 : ¬ dp < 0) (g3 : ¬ n < 0) (g4 : sp.toNatClampNeg + n.toNatClampNeg ≤ n1) (g5 : dp.toNatClampNeg + n.toNatClampNeg ≤ n2) (hfr : 1 ≤ R.frames) (hlo : 100 ≤ R.locals) (hrest : (r.map fun v => v.category).sum ≤ 8) (hd : decode cc pc = .ok (.invokestatic idx, 3))
    (kk : ∀ (H1 : Heap) (locs1 : List Loc), pq_R D aC h0 b L xs (M.1, pq_cpy M.2.1 q1 sp.toNatClampNeg q2 dp.toNatClampNeg n.toNatClampNeg, M.2.2.1, M.2.2.2) H1 → va_S (pq_A h0) s.heap H1 locs1 → W p l e R s m args below meth c H1 locs1 cells slots Q (F0 m (pc + 3) ls r)) :
    W p l e R s m args below meth c H locs cells slots Q (F0 m pc ls (.int n :: .int dp :: .ref (pq_ad h0 b q2) :: .int sp :: .ref (pq_ad h0 b q1) :: r)) := by
  obtain ⟨w1, w2, w3, w4⟩ := hok
  have he1 := pq_ws_at (aC := aC) (h0 := h0) (b := b) hq1 (pq_lt h1)
  rw [pq_cell_a h1] at he1
  have he2 := pq_ws_at (aC := aC) (h0 := h0) (b := b) hq2 (pq_lt h2)
  rw [pq_cell_a h2] at he2
  refine va_copyi hx hb hml hown (hts _ w1) (hts _ w2) (hts _ w3) (hts _ w4) hK.1 hR.2.1 pq_wsD hS (q1 - 1) (q2 - 1) 0 0 he1 he2 rfl rfl rfl g1 g2 g3 g4 g5 (fun i _ => rfl) hfr (Nat.le_trans (Nat.add_le_add_right hrest _) (Nat.le_trans (show 8 + (nativeFrameWords "java/lang/System" "arraycopy" 5 + 11) ≤ 100 by decide +kernel) hlo)) hd (fun H1 locs1 hP1 hD1 hS1 => kk H1 locs1 (hR.wrote ⟨rfl, fun r hr => ⟨pq_cpy_off _ _ _ _ _ _ hr, rfl, rfl⟩⟩ hq2 ?_ hP1) hS1)
  rw [pq_cell_a (M := (M.1, pq_cpy M.2.1 q1 sp.toNatClampNeg q2 dp.toNatClampNeg n.toNatClampNeg, M.2.2.1, M.2.2.2)) h2]
  show Sum.inl (aC .int, n2, Sum.inl (pq_cpy M.2.1 q1 sp.toNatClampNeg q2 dp.toNatClampNeg n.toNatClampNeg q2)) = _
  congr 4
  funext j
  unfold pq_cpy va_cpy
  simp only [true_and]
theorem pq_cpyl (hx : p.tables.exec = Jvm.exec) (hb : c.code = cc) (hml : c.maxLocals = ls.size) (hts : ∀ w ∈ lw_g, w.before args s = true) (hown : s.vm.findClass own = some m.cls) (hK : pq_K D aC h0 b L xs s) (hR : pq_R D aC h0 b L xs M H) (hS : va_S (pq_A h0) s.heap H locs)
    {q1 q2 n1 n2 idx : Nat} {sp dp n : Int32} (hok : pq_okA own idx) (h1 : M.1[q1]? = some (.inl (.long, n1))) (h2 : M.1[q2]? = some (.inl (.long, n2))) (hq1 : ¬ q1 = 0) (hq2 : ¬ q2 = 0)
    (g1 : ¬ sp < 0) (g2 : ¬ dp < 0) (g3 : ¬ n < 0) (g4 : sp.toNatClampNeg + n.toNatClampNeg ≤ n1) (g5 : dp.toNatClampNeg + n.toNatClampNeg ≤ n2) (hfr : 1 ≤ R.frames) (hlo : 100 ≤ R.locals) (hrest : (r.map fun v => v.category).sum ≤ 8) (hd : decode cc pc = .ok (.invokestatic idx, 3))
    (kk : ∀ (H1 : Heap) (locs1 : List Loc), pq_R D aC h0 b L xs (M.1, M.2.1, pq_cpy M.2.2.1 q1 sp.toNatClampNeg q2 dp.toNatClampNeg n.toNatClampNeg, M.2.2.2) H1 → va_S (pq_A h0) s.heap H1 locs1 → W p l e R s m args below meth c H1 locs1 cells slots Q (F0 m (pc + 3) ls r)) :
    W p l e R s m args below meth c H locs cells slots Q (F0 m pc ls (.int n :: .int dp :: .ref (pq_ad h0 b q2) :: .int sp :: .ref (pq_ad h0 b q1) :: r)) := by
  obtain ⟨w1, w2, w3, w4⟩ := hok
  have he1 := pq_ws_at (aC := aC) (h0 := h0) (b := b) hq1 (pq_lt h1)
  rw [pq_cell_a h1] at he1
  have he2 := pq_ws_at (aC := aC) (h0 := h0) (b := b) hq2 (pq_lt h2)
  rw [pq_cell_a h2] at he2
  refine va_copyl hx hb hml hown (hts _ w1) (hts _ w2) (hts _ w3) (hts _ w4) hK.1 hR.2.1 pq_wsD hS (q1 - 1) (q2 - 1) 1 1 he1 he2 rfl rfl rfl g1 g2 g3 g4 g5 (fun i _ => rfl) hfr (Nat.le_trans (Nat.add_le_add_right hrest _) (Nat.le_trans (show 8 + (nativeFrameWords "java/lang/System" "arraycopy" 5 + 11) ≤ 100 by decide +kernel) hlo)) hd (fun H1 locs1 hP1 hD1 hS1 => kk H1 locs1 (hR.wrote ⟨rfl, fun r hr => ⟨rfl, pq_cpy_off _ _ _ _ _ _ hr, rfl⟩⟩ hq2 ?_ hP1) hS1)
  rw [pq_cell_a (M := (M.1, M.2.1, pq_cpy M.2.2.1 q1 sp.toNatClampNeg q2 dp.toNatClampNeg n.toNatClampNeg, M.2.2.2)) h2]
  show Sum.inl (aC .long, n2, Sum.inr (Sum.inl (pq_cpy M.2.2.1 q1 sp.toNatClampNeg q2 dp.toNatClampNeg n.toNatClampNeg q2))) = _
  congr 5
  funext j
  unfold pq_cpy va_cpy
  simp only [true_and]
end PQ3
