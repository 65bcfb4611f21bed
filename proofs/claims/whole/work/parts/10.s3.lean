/-! the memory -/
theorem pq_rf_eq (M : pq_M) (ci p k : Nat) : pq_rf M ci p k = (match (pq_ft.getD ci []).getD k .int with
    | .int => .int (M.2.1 p k)
    | .boolean => .int (M.2.1 p k)
    | .long => .long (M.2.2.1 p k)
    | _ => va_rf (M.2.2.2 p k)) := rfl
def pq_nf (ci : Nat) : Nat := (pq_ft.getD ci []).length
def pq_sz (q : pq_S) : Nat := match q with
  | .inl a => a.2
  | .inr ci => pq_nf ci
def pq_tot (sh : List pq_S) : Nat := (sh.map pq_sz).sum
def pq_tyok (ty : FieldType) : Prop := ty = .int ∨ ty = .long ∨ ty = .char ∨ ty = .object "PursuitDesk$State"
def pq_tok (sh : List pq_S) : Prop := ∀ (p n : Nat) (ty : FieldType), sh[p]? = some (.inl (ty, n)) → pq_tyok ty
def pq_tys (aC : FieldType → ClassId) : List (ClassId × FieldType) := [(aC .int, .int), (aC .long, .long), (aC .char, .char), (aC (.object "PursuitDesk$State"), .object "PursuitDesk$State")]
def pq_fs (h0 b : Nat) (M : pq_M) (ci q : Nat) : List Value := (List.range (pq_nf ci)).map (fun k => pq_rv h0 b (pq_rf M ci q k))
def pq_av (h0 b : Nat) (M : pq_M) (ty : FieldType) (q : Nat) : (Nat → Int32) ⊕ (Nat → Int64) ⊕ (Nat → UInt32) ⊕ (Nat → UInt64) ⊕ (Nat → Option Nat) := match ty with
  | .long => .inr (.inl (M.2.2.1 q))
  | .object _ => .inr (.inr (.inr (.inr (fun k => (M.2.2.2 q k).map (pq_ad h0 b)))))
  | _ => .inl (M.2.1 q)
def pq_cell (aC : FieldType → ClassId) (h0 b : Nat) (M : pq_M) (q : Nat) : va_E := match M.1[q]? with
  | some (.inl a) => .inl (aC a.1, a.2, pq_av h0 b M a.1 q)
  | some (.inr ci) => .inr (ci, pq_fs h0 b M ci q)
  | none => .inr (0, [])
def pq_ws (aC : FieldType → ClassId) (h0 b : Nat) (M : pq_M) : va_W := (List.range (M.1.length - 1)).map (fun i => (h0 + i, pq_cell aC h0 b M (i + 1)))
def pq_A (h0 : Nat) : Nat → Prop := fun q => h0 ≤ q
def pq_R (D : va_G) (aC : FieldType → ClassId) (h0 b L : Nat) (xs : Nat → Int32) (M : pq_M) (H : Heap) : Prop :=
  1 ≤ M.1.length ∧ va_P D pq_cl (pq_ws aC h0 b M) H ∧ M.1[0]? = some (.inl (.int, L)) ∧ (∀ j, j < L → M.2.1 0 j = xs j) ∧ pq_tok M.1
def pq_K (D : va_G) (aC : FieldType → ClassId) (h0 b L : Nat) (xs : Nat → Int32) (U : State) : Prop :=
  va_K D pq_cl (pq_tys aC) U ∧ (∀ w ∈ pq_nest, va_Nw w U) ∧ va_AO "PursuitDesk$State" U ∧ va_X b L xs U U.heap ∧ b < h0 ∧ h0 ≤ U.heap.size
theorem pq_ws_at {aC : FieldType → ClassId} {h0 b : Nat} {M : pq_M} {q : Nat} (h1 : ¬ q = 0) (h2 : q < M.1.length) : (pq_ws aC h0 b M)[q - 1]? = some (pq_ad h0 b q, pq_cell aC h0 b M q) := by
  unfold pq_ws
  rw [List.getElem?_map, List.getElem?_range (by omega)]
  simp only [Option.map_some, pq_ad, if_neg h1, show q - 1 + 1 = q by omega]
theorem pq_wsD {aC : FieldType → ClassId} {h0 b : Nat} {M : pq_M} : va_D (pq_A h0) (pq_ws aC h0 b M) := by
  have key : ∀ (i : Nat) (q : Nat × va_E), (pq_ws aC h0 b M)[i]? = some q → q.1 = h0 + i := by
    intro i q h
    unfold pq_ws at h
    rw [List.getElem?_map] at h
    obtain ⟨k, h1, h2⟩ := Option.map_eq_some_iff.mp h
    obtain ⟨h3, h4⟩ := List.getElem?_eq_some_iff.mp h1
    rw [List.getElem_range] at h4
    subst h4
    rw [← h2]
  refine ⟨fun i j p q hi hj e => ?_, fun k q h => ?_⟩
  · have := key i p hi; have := key j q hj; omega
  · show h0 ≤ q.1; rw [key k q h]; omega
def pq_off (q : Nat) (M M' : pq_M) : Prop := M'.1 = M.1 ∧ ∀ r, ¬ r = q → M'.2.1 r = M.2.1 r ∧ M'.2.2.1 r = M.2.2.1 r ∧ M'.2.2.2 r = M.2.2.2 r
theorem pq_cell_off {aC : FieldType → ClassId} {h0 b q r : Nat} {M M' : pq_M} (h : pq_off q M M') (hr : ¬ r = q) : pq_cell aC h0 b M' r = pq_cell aC h0 b M r := by
  obtain ⟨h1, h2⟩ := h
  obtain ⟨e1, e2, e3⟩ := h2 r hr
  unfold pq_cell pq_fs pq_av
  simp only [pq_rf_eq, h1, e1, e2, e3]
theorem pq_ws_set {aC : FieldType → ClassId} {h0 b q : Nat} {M M' : pq_M} (h : pq_off q M M') (h1 : ¬ q = 0) : (pq_ws aC h0 b M).set (q - 1) (pq_ad h0 b q, pq_cell aC h0 b M' q) = pq_ws aC h0 b M' := by
  apply List.ext_getElem?
  intro i
  have hlen : M'.1.length = M.1.length := by rw [h.1]
  rw [List.getElem?_set]
  by_cases hi : i < M.1.length - 1
  · have e1 : (pq_ws aC h0 b M')[i]? = some (pq_ad h0 b (i + 1), pq_cell aC h0 b M' (i + 1)) := pq_ws_at (q := i + 1) (by omega) (by rw [hlen]; omega)
    have e2 : (pq_ws aC h0 b M)[i]? = some (pq_ad h0 b (i + 1), pq_cell aC h0 b M (i + 1)) := pq_ws_at (q := i + 1) (by omega) (by omega)
    rw [e1, e2]
    split
    · rename_i e
      have hq : i + 1 = q := by omega
      rw [if_pos (by unfold pq_ws; simp; omega), hq]
    · rename_i e
      rw [pq_cell_off h (show ¬ i + 1 = q by omega)]
  · have e1 : (pq_ws aC h0 b M')[i]? = none := by unfold pq_ws; simp; omega
    have e2 : (pq_ws aC h0 b M)[i]? = none := by unfold pq_ws; simp; omega
    rw [e1, e2]
    split
    · rename_i e
      rw [if_neg (by unfold pq_ws; simp; omega)]
    · rfl
theorem pq_u_off {α : Type} (f : Nat → Nat → α) (q k : Nat) (x : α) {r : Nat} (h : ¬ r = q) : pq_u f q k x r = f r := by
  funext j; unfold pq_u; rw [if_neg (fun e => h e.1)]
theorem pq_cpy_off {α : Type} (f : Nat → Nat → α) (a sp q dp n : Nat) {r : Nat} (h : ¬ r = q) : pq_cpy f a sp q dp n r = f r := by
  funext j; unfold pq_cpy; rw [if_neg (fun e => h e.1)]
/-- behind a write at q: the relation again -/
theorem pq_R.wrote {D : va_G} {aC : FieldType → ClassId} {h0 b L q : Nat} {xs : Nat → Int32} {M M' : pq_M} {H H1 : Heap} {E : va_E} (hR : pq_R D aC h0 b L xs M H) (ho : pq_off q M M') (hq : ¬ q = 0)
    (hE : pq_cell aC h0 b M' q = E) (hP : va_P D pq_cl ((pq_ws aC h0 b M).set (q - 1) (pq_ad h0 b q, E)) H1) : pq_R D aC h0 b L xs M' H1 := by
  obtain ⟨r2, r3, r4, r5, r6⟩ := hR
  subst hE
  rw [pq_ws_set ho hq] at hP
  exact ⟨by rw [ho.1]; exact r2, hP, by rw [ho.1]; exact r4, fun j hj => by rw [(ho.2 0 (fun e => hq e.symm)).1]; exact r5 j hj, by rw [ho.1]; exact r6⟩
