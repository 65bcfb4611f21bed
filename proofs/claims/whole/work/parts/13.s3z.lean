theorem kz_int : Cond.arrayClass .int ∈ lw_g := lw_in 82 (by decide +kernel) (by decide +kernel)
theorem kz_long : Cond.arrayClass .long ∈ lw_g := lw_in 83 (by decide +kernel) (by decide +kernel)
theorem kz_char : Cond.arrayClass .char ∈ lw_g := lw_in 204 (by decide +kernel) (by decide +kernel)
theorem pq_tot_add (M : pq_M) (sh : pq_S) : pq_tot (pq_add M sh).1 = pq_tot M.1 + pq_sz sh := by simp [pq_tot, pq_add]
section PQ5
variable {p : Program} {l : Launch} {e : Env} {R : Room} {s : State} {m : MethodId} {args : Array Value} {below : List Frame} {meth : Method} {c : Code} {H : Heap} {locs : List Loc} {cells slots : Nat} {Q : State → Prop}
  {cc : ByteArray} {D : va_G} {aC : FieldType → ClassId} {xs : Nat → Int32} {h0 b L pc nL : Nat} {own : String} {ini : Bool} {ls : Array Slot} {r : List Value} {M M' : pq_M}
set_option maxHeartbeats 4000000 in
theorem pq_s3 (hx : p.tables.exec = Jvm.exec) (hb : c.code = cc) (hml : c.maxLocals = ls.size) (hts : ∀ w ∈ lw_g, w.before args s = true) (hown : s.vm.findClass own = some m.cls) (hini : ini = true → meth.name = "<init>") (hK : pq_K D aC h0 b L xs s) (hR : pq_R D aC h0 b L xs M H) (hS : va_S (pq_A h0) s.heap H locs)
    {ins : Instr} {lk : List (Nat × Nat)} {st st' : List Value} {nx na n0 t0 : Nat} {v0 : Value} (h : pq_x3 ins lk st M = some (st', M')) (hd : decode cc pc = .ok (ins, pq_len ins)) (hok : pq_ok own ini (pc, ins, nx, na, lk, v0))
    (hfr : 1 ≤ R.frames) (hlo : 100 ≤ R.locals) (hce : M'.1.length - n0 ≤ R.cells) (hsl : pq_tot M'.1 - t0 ≤ R.slots) (hn0 : n0 ≤ M.1.length) (ht0 : t0 ≤ pq_tot M.1) (hsz : s.heap.size + 1 = h0 + n0)
    (k : ∀ (H1 : Heap) (locs1 : List Loc), pq_R D aC h0 b L xs M' H1 → va_S (pq_A h0) s.heap H1 locs1 → W p l e R s m args below meth c H1 locs1 (M'.1.length - n0) (pq_tot M'.1 - t0) Q (F0 m (pc + pq_len ins) ls (st'.map (pq_rv h0 b)))) :
    W p l e R s m args below meth c H locs (M.1.length - n0) (pq_tot M.1 - t0) Q (F0 m pc ls (st.map (pq_rv h0 b))) := by
  cases ins
  all_goals try exact pq_nn h
  case getfield idx =>
    simp only [pq_x3] at h
    split at h
    · rename_i q r2
      split at h
      · rename_i ci hsh
        split at h
        · rename_i kf h1
          have hv : st' = pq_rf M ci q kf :: r2 ∧ M' = M := by
            split at h
            · rename_i e; cases h; exact ⟨by rw [e], rfl⟩
            · rename_i e; cases h; exact ⟨by rw [e], rfl⟩
            · rename_i e; cases h; exact ⟨by rw [e], rfl⟩
            · rename_i e; cases h; exact ⟨by rw [e], rfl⟩
            · cases h
          obtain ⟨rfl, rfl⟩ := hv
          exact pq_get hx hb hts hown hK.1 hR hsh (hok _ (pq_lku h1)) hd (k H locs hR hS)
        · cases h
      · cases h
    · cases h
  case putfield idx =>
    simp only [pq_x3] at h
    split at h
    · rename_i w q r2
      split at h
      · rename_i ci hsh
        split at h
        · rename_i kf hlk
          split at h
          · rename_i M2 h1
            cases h
            obtain ⟨ty, -, hoff, -, -, -⟩ := pq_wf_ok (h0 := h0) (b := b) h1
            rw [hoff.1] at k
            exact pq_put hx hb hts hown hK.1 hR hS hini hsh (hok _ (pq_lku hlk)) h1 hd k
          · cases h
        · cases h
      · cases h
    · cases h
  case iaload =>
    simp only [pq_x3] at h
    split at h
    · rename_i i q r2
      split at h
      · rename_i ha
        cases h
        exact pq_ald hx hb hK hR hS ha hd (k H locs hR hS)
      · cases h
    · cases h
  case caload =>
    simp only [pq_x3] at h
    split at h
    · rename_i i q r2
      split at h
      · rename_i ha
        cases h
        exact pq_cald hx hb hK hR ha hd (k H locs hR hS)
      · cases h
    · cases h
  case laload =>
    simp only [pq_x3] at h
    split at h
    · rename_i i q r2
      split at h
      · rename_i ha
        cases h
        exact pq_lald hx hb hK hR ha hd (k H locs hR hS)
      · cases h
    · cases h
  case aaload =>
    simp only [pq_x3] at h
    split at h
    · rename_i i q r2
      split at h
      · rename_i C ha
        cases h
        exact pq_aald hx hb hK hR ha hd (k H locs hR hS)
      · cases h
    · cases h
  case iastore =>
    simp only [pq_x3] at h
    split at h
    · rename_i x i q r2
      split at h
      · rename_i ha
        split at h
        · cases h
        · rename_i hq
          cases h
          exact pq_ist hx hb hK hR hS ha hq hd k
      · cases h
    · cases h
  case castore =>
    simp only [pq_x3] at h
    split at h
    · rename_i x i q r2
      split at h
      · rename_i ha
        split at h
        · cases h
        · rename_i hq
          cases h
          exact pq_cst hx hb hK hR hS ha hq hd k
      · cases h
    · cases h
  case lastore =>
    simp only [pq_x3] at h
    split at h
    · rename_i x i q r2
      split at h
      · rename_i ha
        split at h
        · cases h
        · rename_i hq
          cases h
          exact pq_lst hx hb hK hR hS ha hq hd k
      · cases h
    · cases h
  case aastore =>
    simp only [pq_x3] at h
    split at h
    · rename_i w i q r2
      split at h
      · rename_i C ci ha hv
        split at h
        · cases h
        · rename_i hq
          have hq0 : ¬ q = 0 := fun z => hq (Or.inl z)
          have hc3 : ci = 3 := Classical.not_not.mp fun z => hq (Or.inr z)
          subst hc3
          cases h
          exact pq_ast hx hb hK hR hS ha hv hq0 hd k
      · cases h
    · cases h
  case arraylength =>
    simp only [pq_x3] at h
    split at h
    · rename_i q r2
      split at h
      · rename_i ty n hsh
        cases h
        exact pq_aln hx hb hK hR hS hsh hd (k H locs hR hS)
      · cases h
    · cases h
  case new idx =>
    simp only [pq_x3] at h
    split at h
    case h_2 => cases h
    rename_i ci _ _
    cases h
    have hc1 : (pq_add M (.inr ci)).1.length - n0 = M.1.length - n0 + 1 := by rw [pq_add_len]; omega
    have hs1 : pq_tot (pq_add M (.inr ci)).1 - t0 = pq_tot M.1 - t0 + pq_nf ci := by rw [pq_tot_add]; show _ + pq_nf ci - _ = _; omega
    rw [hc1] at hce k
    rw [hs1] at hsl k
    exact pq_newo hx hb hts hown hK hR hS (hok _ List.mem_cons_self) hsz rfl hn0 hce hsl hd (fun H1 => k H1 locs)
  case newarray a =>
    simp only [pq_x3] at h
    split at h
    · rename_i n r2 ty hty
      split at h
      · cases h
      · rename_i hn
        cases h
        have hn1 : ¬ n < 0 := fun z => hn (Or.inl z)
        have hn2 : n.toNatClampNeg ≤ 65536 := Nat.not_lt.mp fun z => hn (Or.inr z)
        have hc1 : (pq_add M (.inl (ty, n.toNatClampNeg))).1.length - n0 = M.1.length - n0 + 1 := by rw [pq_add_len]; omega
        have hs1 : pq_tot (pq_add M (.inl (ty, n.toNatClampNeg))).1 - t0 = pq_tot M.1 - t0 + n.toNatClampNeg := by rw [pq_tot_add]; show _ + n.toNatClampNeg - _ = _; omega
        rw [hc1] at hce k
        rw [hs1] at hsl k
        cases a <;> cases hty
        · refine pq_newa (a := .char) (ty := .char) (t0 := 2) hx hb hts hK hR hS rfl kz_char rfl (Or.inr (Or.inr (Or.inl rfl))) (fun cA => ?_) hn1 hn2 (by decide) hsz rfl hn0 hce hsl hd (fun H1 => k H1 locs)
          show arrV _ _ (fun j => .int (pq_blank M.2.1 M.1.length 0 M.1.length j)) = _
          simp [pq_blank, defaultValue]
        · refine pq_newa (a := .int) (ty := .int) (t0 := 0) hx hb hts hK hR hS rfl kz_int rfl (Or.inl rfl) (fun cA => ?_) hn1 hn2 (by decide) hsz rfl hn0 hce hsl hd (fun H1 => k H1 locs)
          show arrV _ _ (fun j => .int (pq_blank M.2.1 M.1.length 0 M.1.length j)) = _
          simp [pq_blank, defaultValue]
        · refine pq_newa (a := .long) (ty := .long) (t0 := 1) hx hb hts hK hR hS rfl kz_long rfl (Or.inr (Or.inl rfl)) (fun cA => ?_) hn1 hn2 (by decide) hsz rfl hn0 hce hsl hd (fun H1 => k H1 locs)
          show arrV _ _ (fun j => .long (pq_blank M.2.2.1 M.1.length 0 M.1.length j)) = _
          simp [pq_blank, defaultValue]
    · cases h
  case anewarray idx =>
    simp only [pq_x3] at h
    split at h
    · rename_i n r2 ci _ _
      split at h
      · rename_i C hC
        split at h
        · cases h
        · rename_i hn
          have hn1 : ¬ n < 0 := fun z => hn (Or.inl z)
          have hn2 : n.toNatClampNeg ≤ 65536 := Nat.not_lt.mp fun z => hn (Or.inr z)
          obtain ⟨w1, w2⟩ := hok _ List.mem_cons_self
          cases Option.some.inj (hC.symm.trans w1)
          cases h
          have hc1 : (pq_add M (.inl (.object "PursuitDesk$State", n.toNatClampNeg))).1.length - n0 = M.1.length - n0 + 1 := by rw [pq_add_len]; omega
          have hs1 : pq_tot (pq_add M (.inl (.object "PursuitDesk$State", n.toNatClampNeg))).1 - t0 = pq_tot M.1 - t0 + n.toNatClampNeg := by rw [pq_tot_add]; show _ + n.toNatClampNeg - _ = _; omega
          rw [hc1] at hce k
          rw [hs1] at hsl k
          exact pq_newr hx hb hts hown hK hR hS w2 hn1 hn2 hsz rfl hn0 hce hsl hd (fun H1 => k H1 locs)
      · cases h
    · cases h
  case invokespecial idx =>
    simp only [pq_x3] at h
    split at h
    · rename_i q r2
      split at h
      · rename_i hcat
        cases h
        obtain ⟨w1, w2, w3⟩ := hok
        refine W.objInit hx hb hown (hts _ w1) (hts _ w2) (hts _ w3) rfl (by rw [hml]) rfl hd hfr ?_ (k H locs hR hS)
        rw [pq_rv_cats]
        show 2 * 0 + _ + 12 ≤ _
        omega
      · cases h
    · cases h
  case invokestatic idx =>
    replace h : pq_sc lk st M = some (st', M') := h
    unfold pq_sc at h
    split at h
    · split at h
      · rename_i n dp q2 sp q1 r2
        split at h
        · rename_i ta na2 tb nb e1 e2
          split at h
          · cases h
          · rename_i hg
            split at h
            · cases h
              exact pq_cpyi hx hb hml hts hown hK hR hS hok e1 e2 (fun z => hg (by simp [z])) (fun z => hg (by simp [z])) (fun z => hg (by simp [z])) (fun z => hg (by simp [z])) (fun z => hg (by simp [z])) (by omega) (by omega) hfr hlo (by rw [pq_rv_cats]; omega) hd k
            · cases h
              exact pq_cpyl hx hb hml hts hown hK hR hS hok e1 e2 (fun z => hg (by simp [z])) (fun z => hg (by simp [z])) (fun z => hg (by simp [z])) (fun z => hg (by simp [z])) (fun z => hg (by simp [z])) (by omega) (by omega) hfr hlo (by rw [pq_rv_cats]; omega) hd k
            · cases h
        · cases h
      · cases h
    · rename_i q lk2
      obtain ⟨qa, qb⟩ := q
      split at h
      · rename_i e1
        cases e1
        split at h
        · rename_i x y r2 e2
          cases pq_i2_eq e2
          split at h
          · cases h
          · rename_i hcat
            cases h
            obtain ⟨w1, w2, w3, w4⟩ := hok
            exact va_mmax hx hb hml hown (hts _ w1) (hts _ w2) (hts _ w3) (hts _ w4) hfr (by rw [pq_rv_cats]; omega) hce hsl hd (k H locs hR hS)
        · cases h
      · rename_i e1
        cases e1
        split at h
        · rename_i x y r2 e2
          cases pq_i2_eq e2
          split at h
          · cases h
          · rename_i hcat
            cases h
            obtain ⟨w1, w2, w3, w4⟩ := hok
            exact va_mmin hx hb hml hown (hts _ w1) (hts _ w2) (hts _ w3) (hts _ w4) hfr (by rw [pq_rv_cats]; omega) hce hsl hd (k H locs hR hS)
        · cases h
      · cases h

end PQ5
