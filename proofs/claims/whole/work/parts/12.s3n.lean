section PQ4
variable {p : Program} {l : Launch} {e : Env} {R : Room} {s : State} {m : MethodId} {args : Array Value} {below : List Frame} {meth : Method} {c : Code} {H : Heap} {locs : List Loc} {cells slots : Nat} {Q : State → Prop}
  {cc : ByteArray} {D : va_G} {aC : FieldType → ClassId} {xs : Nat → Int32} {h0 b L pc nL : Nat} {own : String} {ini : Bool} {ls : Array Slot} {r : List Value} {M M' : pq_M}
theorem pq_ws_len {aC : FieldType → ClassId} {h0 b : Nat} {M : pq_M} : (pq_ws aC h0 b M).length = M.1.length - 1 := by unfold pq_ws; simp
theorem pq_addr {T : State} (X : Stand p l e R s m args below meth c T locs cells slots) {H1 : Heap} {E : va_E} {q n0 : Nat} (hT : T.heap = H1) (hP : va_P D pq_cl (pq_ws aC h0 b M ++ [(q, E)]) H1) (hD : va_D (pq_A h0) (pq_ws aC h0 b M ++ [(q, E)]))
    (hsz : s.heap.size + 1 = h0 + n0) (hc : cells = M.1.length - n0 + 1) (hn0 : n0 ≤ M.1.length) (h1 : 1 ≤ M.1.length) : q = pq_ad h0 b M.1.length := by
  have hlast : (pq_ws aC h0 b M ++ [(q, E)])[M.1.length - 1]? = some (q, E) := by
    rw [List.getElem?_append_right (by rw [pq_ws_len]; omega), pq_ws_len]; simp
  have hlt : q < H1.size := (hP _ _ hlast).lt
  have hge : h0 ≤ q := hD.2 _ _ hlast
  have hX := X.heapSize
  rw [hT] at hX
  have hnot : ¬ q < h0 + (M.1.length - 1) := by
    intro hq
    have hi : (pq_ws aC h0 b M ++ [(q, E)])[q - h0]? = some (pq_ad h0 b (q - h0 + 1), pq_cell aC h0 b M (q - h0 + 1)) := by
      rw [List.getElem?_append_left (by rw [pq_ws_len]; omega)]
      exact pq_ws_at (q := q - h0 + 1) (by omega) (by omega)
    have := hD.1 _ _ _ _ hi hlast (by simp only [pq_ad, if_neg (show ¬ q - h0 + 1 = 0 by omega)]; omega)
    omega
  simp only [pq_ad, if_neg (show ¬ M.1.length = 0 by omega)]
  omega
theorem pq_add_at {M : pq_M} {sh : pq_S} {q : Nat} (h : q < M.1.length) : (pq_add M sh).1[q]? = M.1[q]? := by
  unfold pq_add; exact List.getElem?_append_left h
theorem pq_add_new {M : pq_M} {sh : pq_S} : (pq_add M sh).1[M.1.length]? = some sh := by
  unfold pq_add; simp
theorem pq_add_len {M : pq_M} {sh : pq_S} : (pq_add M sh).1.length = M.1.length + 1 := by unfold pq_add; simp
theorem pq_blank_off {α : Type} (f : Nat → Nat → α) (q : Nat) (x : α) {r : Nat} (h : ¬ r = q) : pq_blank f q x r = f r := by
  funext j; unfold pq_blank; rw [if_neg h]
theorem pq_cell_add {aC : FieldType → ClassId} {h0 b q : Nat} {M : pq_M} {sh : pq_S} (h : q < M.1.length) : pq_cell aC h0 b (pq_add M sh) q = pq_cell aC h0 b M q := by
  have hne : ¬ q = M.1.length := by omega
  have e1 : (pq_add M sh).2.1 q = M.2.1 q := pq_blank_off _ _ _ hne
  have e2 : (pq_add M sh).2.2.1 q = M.2.2.1 q := pq_blank_off _ _ _ hne
  have e3 : (pq_add M sh).2.2.2 q = M.2.2.2 q := pq_blank_off _ _ _ hne
  unfold pq_cell pq_fs pq_av
  simp only [pq_rf_eq, pq_add_at h, e1, e2, e3]
theorem pq_ws_add {aC : FieldType → ClassId} {h0 b : Nat} {M : pq_M} {sh : pq_S} (h1 : 1 ≤ M.1.length) : pq_ws aC h0 b (pq_add M sh) = pq_ws aC h0 b M ++ [(pq_ad h0 b M.1.length, pq_cell aC h0 b (pq_add M sh) M.1.length)] := by
  unfold pq_ws
  rw [pq_add_len, show M.1.length + 1 - 1 = (M.1.length - 1) + 1 by omega, List.range_succ, List.map_append]
  congr 1
  · apply List.map_congr_left
    intro i hi
    have := List.mem_range.mp hi
    rw [pq_cell_add (by omega)]
  · simp only [List.map_cons, List.map_nil, pq_ad, if_neg (show ¬ M.1.length = 0 by omega), show M.1.length - 1 + 1 = M.1.length by omega]
theorem pq_R.added {H1 : Heap} {sh : pq_S} (hR : pq_R D aC h0 b L xs M H) (hP : va_P D pq_cl (pq_ws aC h0 b M ++ [(pq_ad h0 b M.1.length, pq_cell aC h0 b (pq_add M sh) M.1.length)]) H1)
    (hty : ∀ (n : Nat) (ty : FieldType), sh = .inl (ty, n) → pq_tyok ty) : pq_R D aC h0 b L xs (pq_add M sh) H1 := by
  obtain ⟨r1, r2, r3, r4, r5⟩ := hR
  refine ⟨by rw [pq_add_len]; omega, by rw [pq_ws_add r1]; exact hP, by rw [pq_add_at (by omega)]; exact r3, fun j hj => ?_, fun q n ty h => ?_⟩
  · rw [← r4 j hj]; exact congrFun (pq_blank_off M.2.1 M.1.length 0 (r := 0) (by omega)) j
  · by_cases hq : q < M.1.length
    · rw [pq_add_at hq] at h; exact r5 q n ty h
    · have h2 := pq_lt h
      rw [pq_add_len] at h2
      have : q = M.1.length := by omega
      subst this
      rw [pq_add_new] at h
      exact hty n ty (Option.some.inj h)
theorem pq_newo (hx : p.tables.exec = Jvm.exec) (hb : c.code = cc) (hts : ∀ w ∈ lw_g, w.before args s = true) (hown : s.vm.findClass own = some m.cls) (hK : pq_K D aC h0 b L xs s) (hR : pq_R D aC h0 b L xs M H) (hS : va_S (pq_A h0) s.heap H locs)
    {ci idx n0 : Nat} (hok : pq_okN own idx ci) (hsz : s.heap.size + 1 = h0 + n0) (hc : cells = M.1.length - n0) (hn0 : n0 ≤ M.1.length) (hcells : cells + 1 ≤ R.cells) (hslots : slots + pq_nf ci ≤ R.slots) (hd : decode cc pc = .ok (.new idx, 3))
    (kk : ∀ H1 : Heap, pq_R D aC h0 b L xs (pq_add M (.inr ci)) H1 → va_S (pq_A h0) s.heap H1 locs → W p l e R s m args below meth c H1 locs (cells + 1) (slots + pq_nf ci) Q (F0 m (pc + 3) ls (.ref (pq_ad h0 b M.1.length) :: r))) :
    W p l e R s m args below meth c H locs cells slots Q (F0 m pc ls r) := by
  obtain ⟨rc, hcl, w1, w2, w3⟩ := hok
  obtain ⟨hin, hnf, -, ty0, hty, hnm, hft⟩ := pq_clok hcl
  rw [hnf] at hslots kk
  refine va_new (C := rc.1) (T := rc.2.1) (N := rc.2.2) (fs := pq_fs h0 b (pq_add M (.inr ci)) ci M.1.length) hx hb hts hin ty0 hty hown (hts _ w1) (hts _ w2) (hts _ w3) hK.1 hR.2.1 pq_wsD hS (fun q (hq : s.heap.size ≤ q) => Nat.le_trans hK.2.2.2.2.2 hq) hcl (fun j hj => ?_) hcells hslots hd (fun q H1 hP1 hD1 hS1 => ?_)
  · unfold vp_V
    rw [List.getD_eq_getElem?_getD, pq_fs_at (by rw [hnf]; exact hj)]
    have hg : (pq_ft.getD ci []).getD j .int = ty0 j := by rw [List.getD_eq_getElem?_getD, hft j hj]; rfl
    rw [pq_rf_eq, hg]
    have b1 : (pq_add M (.inr ci)).2.1 M.1.length j = 0 := by simp [pq_add, pq_blank]
    have b2 : (pq_add M (.inr ci)).2.2.1 M.1.length j = 0 := by simp [pq_add, pq_blank]
    have b3 : (pq_add M (.inr ci)).2.2.2 M.1.length j = none := by simp [pq_add, pq_blank]
    rw [b1, b2, b3]
    have hfl : ty0 j = .int ∨ ty0 j = .boolean ∨ ty0 j = .long ∨ (∃ t, ty0 j = .array t) ∨ ∃ t, ty0 j = .object t := by
      have h1 := hft j hj
      have h2 : pq_ft.all (fun q => q.all (fun t => match t with | .int => true | .boolean => true | .long => true | .array _ => true | .object _ => true | _ => false)) = true := by decide
      have hmem : ty0 j ∈ pq_ft.getD ci [] := List.mem_of_getElem? h1
      have hm2 : pq_ft.getD ci [] ∈ pq_ft := by
        rw [List.getD_eq_getElem?_getD]
        cases hq : pq_ft[ci]? with
        | none => rw [List.getD_eq_getElem?_getD, hq] at hmem; simp at hmem
        | some z => exact List.mem_of_getElem? hq
      have h3 := List.all_eq_true.mp (List.all_eq_true.mp h2 _ hm2) _ hmem
      cases hz : ty0 j <;> rw [hz] at h3 <;> simp at h3 <;> simp
    rcases hfl with h | h | h | ⟨t, h⟩ | ⟨t, h⟩ <;> rw [h] <;> rfl
  · intro T hT X
    have hq := pq_addr X hT hP1 hD1 hsz (by rw [hc]) hn0 hR.1
    subst hq
    refine kk H1 (hR.added (by rw [pq_cell_o pq_add_new]; exact hP1) (fun n ty h => by cases h)) hS1 T hT X
theorem pq_RA {ty : FieldType} {cA : ClassId} {t0 : Nat} (hK : va_K D pq_cl (pq_tys aC) s) (ht : (pq_tys aC)[t0]? = some (aC ty, ty)) (hK2 : va_K D pq_cl (pq_tys aC ++ [(cA, ty)]) s) : cA = aC ty := by
  have h1 := (hK.2 t0 _ ht).2
  have h2 := (hK2.2 4 (cA, ty) rfl).2
  cases ty with
  | object C =>
    obtain ⟨_, _, _, _, _, e1⟩ := h1
    obtain ⟨_, _, _, _, _, e2⟩ := h2
    exact Option.some.inj (e2.symm.trans e1)
  | _ => exact Option.some.inj (Eq.trans (Eq.symm h2) h1)
theorem pq_newa (hx : p.tables.exec = Jvm.exec) (hb : c.code = cc) (hts : ∀ w ∈ lw_g, w.before args s = true) (hK : pq_K D aC h0 b L xs s) (hR : pq_R D aC h0 b L xs M H) (hS : va_S (pq_A h0) s.heap H locs)
    {n0 t0 : Nat} {n : Int32} {a : ArrayType} {ty : FieldType} (hty : newarray.typeOf a = ty) (hw : Cond.arrayClass ty ∈ lw_g) (ht : (pq_tys aC)[t0]? = some (aC ty, ty)) (htk : pq_tyok ty) (hav : ∀ cA : ClassId, vp_cell cA (n.toNatClampNeg, pq_av h0 b (pq_add M (.inl (ty, n.toNatClampNeg))) ty M.1.length) = arrV cA n.toNatClampNeg (fun _ => defaultValue ty))
    (hn : ¬ n < 0) (hbd : n.toNatClampNeg ≤ 65536) (hcb : componentBytes ty ≤ 8) (hsz : s.heap.size + 1 = h0 + n0) (hc : cells = M.1.length - n0) (hn0 : n0 ≤ M.1.length) (hcells : cells + 1 ≤ R.cells) (hslots : slots + n.toNatClampNeg ≤ R.slots) (hd : decode cc pc = .ok (.newarray a, 2))
    (kk : ∀ H1 : Heap, pq_R D aC h0 b L xs (pq_add M (.inl (ty, n.toNatClampNeg))) H1 → va_S (pq_A h0) s.heap H1 locs → W p l e R s m args below meth c H1 locs (cells + 1) (slots + n.toNatClampNeg) Q (F0 m (pc + 2) ls (.ref (pq_ad h0 b M.1.length) :: r))) :
    W p l e R s m args below meth c H locs cells slots Q (F0 m pc ls (.int n :: r)) := by
  refine va_newa hx hb (by rw [hty]; exact hts _ hw) hty hK.1 hR.2.1 pq_wsD hS (fun q (hq : s.heap.size ≤ q) => Nat.le_trans hK.2.2.2.2.2 hq) hav hn rfl (Nat.le_trans (Nat.mul_le_mul hbd hcb) (by decide)) hcells hslots hd (fun q cA H1 hK1 hP1 hD1 hS1 => ?_)
  have hcA := pq_RA hK.1 ht hK1
  subst hcA
  intro T hT X
  have hq := pq_addr X hT hP1 hD1 hsz (by rw [hc]) hn0 hR.1
  subst hq
  exact kk H1 (hR.added (by rw [pq_cell_a pq_add_new]; exact hP1) (fun n ty h => by cases h; exact htk)) hS1 T hT X
theorem pq_newr (hx : p.tables.exec = Jvm.exec) (hb : c.code = cc) (hts : ∀ w ∈ lw_g, w.before args s = true) (hown : s.vm.findClass own = some m.cls) (hK : pq_K D aC h0 b L xs s) (hR : pq_R D aC h0 b L xs M H) (hS : va_S (pq_A h0) s.heap H locs)
    {n0 idx : Nat} {n : Int32} (hw : Cond.classLink own idx "PursuitDesk$State" ∈ lw_g)
    (hn : ¬ n < 0) (hbd : n.toNatClampNeg ≤ 65536) (hsz : s.heap.size + 1 = h0 + n0) (hc : cells = M.1.length - n0) (hn0 : n0 ≤ M.1.length) (hcells : cells + 1 ≤ R.cells) (hslots : slots + n.toNatClampNeg ≤ R.slots) (hd : decode cc pc = .ok (.anewarray idx, 3))
    (kk : ∀ H1 : Heap, pq_R D aC h0 b L xs (pq_add M (.inl (.object "PursuitDesk$State", n.toNatClampNeg))) H1 → va_S (pq_A h0) s.heap H1 locs → W p l e R s m args below meth c H1 locs (cells + 1) (slots + n.toNatClampNeg) Q (F0 m (pc + 3) ls (.ref (pq_ad h0 b M.1.length) :: r))) :
    W p l e R s m args below meth c H locs cells slots Q (F0 m pc ls (.int n :: r)) := by
  refine va_newq hx hb hown (hts _ hw) hK.2.2.1 hK.1 hR.2.1 pq_wsD hS (fun q (hq : s.heap.size ≤ q) => Nat.le_trans hK.2.2.2.2.2 hq) hn rfl (by omega) hcells hslots hd (fun q cA H1 hK1 hP1 hD1 hS1 => ?_)
  have hcA := pq_RA (t0 := 3) hK.1 rfl hK1
  subst hcA
  intro T hT X
  have hq := pq_addr X hT hP1 hD1 hsz (by rw [hc]) hn0 hR.1
  subst hq
  refine kk H1 (hR.added ?_ (fun n ty h => by cases h; exact Or.inr (Or.inr (Or.inr rfl)))) hS1 T hT X
  rw [pq_cell_a pq_add_new]
  have e : pq_av h0 b (pq_add M (.inl (.object "PursuitDesk$State", n.toNatClampNeg))) (.object "PursuitDesk$State") M.1.length = .inr (.inr (.inr (.inr (fun _ => none)))) := by
    show Sum.inr (Sum.inr (Sum.inr (Sum.inr _))) = _
    congr 4
    funext k
    simp [pq_add, pq_blank]
  rw [e]
  exact hP1
end PQ4
