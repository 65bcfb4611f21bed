/-! branches -/
section PQ2
variable {p : Program} {l : Launch} {e : Env} {R : Room} {s : State} {m : MethodId} {args : Array Value} {below : List Frame} {meth : Method} {c : Code} {H : Heap} {locs : List Loc} {cells slots : Nat} {Q : State → Prop}
  {cc : ByteArray} {h0 b nL pc pc' nx na len : Nat} {lk : List (Nat × Nat)} {own : String} {ini : Bool} {ret : Option FieldType} {ls : Array Slot} {st st' : List Value} {v : Value}
theorem pq_hd {t : Nat × Nat} (h : lk.head? = some t) : t ∈ lk := List.mem_of_mem_head? h
set_option maxHeartbeats 4000000 in
theorem pq_s2 (hx : p.tables.exec = Jvm.exec) (hb : c.code = cc) {ins : Instr} (h : pq_x2 ins nx lk st = some (pc', st')) (hd : decode cc pc = .ok (ins, len)) (hlen : len = pq_len ins ∨ pq_len ins = 0) (hnx : nx = pc + len)
    (hcb : pq_cb ret (pc, ins, nx, na, lk, v) = true)
    (k : W p l e R s m args below meth c H locs cells slots Q (F0 m pc' ls (st'.map (pq_rv h0 b)))) :
    W p l e R s m args below meth c H locs cells slots Q (F0 m pc ls (st.map (pq_rv h0 b))) := by
  cases ins
  all_goals try exact pq_nn h
  case goto off =>
    rcases hlen with rfl | hz
    · simp only [pq_x2] at h
      split at h
      · cases h
        exact lv_goto hx hb hd (of_decide_eq_true hcb _ List.mem_cons_self) k
      · cases h
    · cases hz
  case ifCond cd off =>
    rcases hlen with rfl | hz
    · simp only [pq_x2] at h
      split at h
      · rename_i t _ _ x r h2
        cases pq_i1_eq h2
        have ht := of_decide_eq_true hcb _ List.mem_cons_self
        subst hnx
        cases cd <;> cases h
        · exact lv_if_eq hx hb hd ht (fun q => by rw [if_pos q] at k; exact k) (fun q => by rw [if_neg q] at k; exact k)
        · exact lv_if_ne hx hb hd ht (fun q => by rw [if_neg q] at k; exact k) (fun q => by rw [if_pos q] at k; exact k)
        · exact lv_if_lt hx hb hd ht (fun q => by rw [if_pos q] at k; exact k) (fun q => by rw [if_neg q] at k; exact k)
        · exact lv_if_ge hx hb hd ht (fun q => by rw [if_neg (Int32.not_lt.mpr q)] at k; exact k) (fun q => by rw [if_pos (Int32.not_le.mp q)] at k; exact k)
        · exact lv_if_gt hx hb hd ht (fun q => by rw [if_pos q] at k; exact k) (fun q => by rw [if_neg q] at k; exact k)
        · exact lv_if_le hx hb hd ht (fun q => by rw [if_neg (Int32.not_lt.mpr q)] at k; exact k) (fun q => by rw [if_pos (Int32.not_le.mp q)] at k; exact k)
      · cases h
    · cases hz
  case if_icmp cd off =>
    rcases hlen with rfl | hz
    · simp only [pq_x2] at h
      split at h
      · rename_i t _ _ x y r h2
        cases pq_i2_eq h2
        have ht := of_decide_eq_true hcb _ List.mem_cons_self
        subst hnx
        cases cd <;> cases h
        · exact lv_icmp_eq hx hb hd ht (fun q => by rw [if_pos q] at k; exact k) (fun q => by rw [if_neg q] at k; exact k)
        · exact lv_icmp_ne hx hb hd ht (fun q => by rw [if_neg q] at k; exact k) (fun q => by rw [if_pos q] at k; exact k)
        · exact lv_icmp_lt hx hb hd ht (fun q => by rw [if_pos q] at k; exact k) (fun q => by rw [if_neg q] at k; exact k)
        · exact lv_icmp_ge hx hb hd ht (fun q => by rw [if_neg (Int32.not_lt.mpr q)] at k; exact k) (fun q => by rw [if_pos (Int32.not_le.mp q)] at k; exact k)
        · exact lv_icmp_gt hx hb hd ht (fun q => by rw [if_pos q] at k; exact k) (fun q => by rw [if_neg q] at k; exact k)
        · exact lv_icmp_le hx hb hd ht (fun q => by rw [if_neg (Int32.not_lt.mpr q)] at k; exact k) (fun q => by rw [if_pos (Int32.not_le.mp q)] at k; exact k)
      · cases h
    · cases hz
  case tableswitch d lo hi offs =>
    have hm : lk.map (fun t => (t.1 : Int)) = (d :: offs.toList).map (fun o => (pc : Int) + o) := of_decide_eq_true hcb
    simp only [pq_x2] at h
    split at h
    · rename_i t _ ts x r h1
      cases pq_i1_eq h1
      rw [List.map_cons, List.map_cons] at hm
      obtain ⟨hm1, hm2⟩ := List.cons.inj hm
      split at h
      · rename_i hc
        cases h
        exact lv_tableOut hx hb hd hc hm1.symm k
      · rename_i hc
        split at h
        · rename_i u u2 h3
          cases h
          have h5 : (offs.toList.map (fun o => (pc : Int) + o))[(x.toInt - lo).toNat]? = some (pc' : Int) := by
            rw [← hm2, List.getElem?_map, h3]; rfl
          rw [List.getElem?_map] at h5
          obtain ⟨o, h6, h7⟩ := Option.map_eq_some_iff.mp h5
          exact lv_tableIn hx hb hd (fun q => hc (Or.inl q)) (fun q => hc (Or.inr q)) (by rw [← Array.getElem?_toList]; exact h6) h7 k
        · cases h
    · cases h
end PQ2
