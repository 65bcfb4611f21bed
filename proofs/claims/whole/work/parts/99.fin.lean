-- ===== end of PART A; then your names; then what follows =====
/-! THE CLAIM OUT OF ONE WALK OF THE LAW'S BODY. Your part is whole_start (and what it stands on); all else here is the same for every law, but numbers. -/
def R_law : String := "PursuitDeskLaw"
def lw_P (b : Addr) (xs : List Int32) (args : Array Value) (s : State) : Prop := args = #[.ref b] ∧ s.IntsAt b xs ∧ xs.length ≤ 2048 ∧ (Jvm.Cond.and given_1 narrow_1).before args s = true
def lw_Q (_ : Array Value) (s : State) (o : Outcome) (t : State) : Prop := o = .returned (some (.int 1)) ∧ Framed s o t [] 600000 7302250
def lw_Z (below : List Frame) (a : Array Value) (s : State) : State → Prop := fun t => ∃ o, t.status = .running ∧ Ended t below o ∧ lw_Q a s o t
/-- the law's own end, with 1 on the stack, nothing written that was there before, its room as the claim has it -/
theorem lw_ret {p : Program} {l : Launch} {e : Env} {s : State} {m : MethodId} {below : List Frame} {meth : Method} {c : Code} {b : Nat} (hx : p.tables.exec = Jvm.exec) (hb : c.code = code) (hr : meth.sig.returnType = ret) (hlocks : meth.locks = false) {pc : Nat} {H : Heap} {ls : Array Slot} (hdg : decode code pc = .ok (.ireturn, 1)) : W p l e room_1 s m #[Value.ref b] below meth c H [] 600000 7302250 (lw_Z below #[Value.ref b] s) (F0 m pc ls [.int 1]) := by
  intro T hT X
  obtain ⟨fs, hret, hrun, hended, hW, hframe⟩ := X.leave (v := some (.int 1)) (hlocks := hlocks) (fun h => by rw [hr] at h; cases h)
  have hmeth' : T.vm.method? m = some meth := X.method'
  refine ⟨T.setFrames fs, ?_, .returned (some (.int 1)), hrun, hended, rfl, ⟨_, rfl⟩, hW, hframe⟩
  jvm_step X.here [X.here.top, hx, hb, hdg, hmeth', hr, ret, narrow_b1]
  (try refine ⟨rfl, ?_⟩); (try refine ⟨rfl, ?_⟩)
  first | (intro acts; rw [hret _ acts rfl rfl rfl]) | rw [hret _ _ rfl rfl rfl]
  exact Steps.refl _
/-- what holds at the law's entry: the machine, the code, the tables' words (any of lw_tbl by 'hts w (by decide +kernel)'), the script of L ints xs at the cell b, what the Statement gives of the start (any of its parts by flat_of_before) -/
def lw_At (p : Program) (s : State) (m : MethodId) (meth : Method) (c : Code) (b L : Nat) (xs : Nat → Int32) : Prop :=
  p.tables.exec = Jvm.exec ∧ c.code = code ∧ meth.sig.returnType = ret ∧ c.maxLocals = 4 ∧ s.vm.findClass R_law = some m.cls ∧ (∀ w ∈ lw_tbl, w.before #[Value.ref b] s = true) ∧ va_X b L xs s s.heap ∧ b < s.heap.size ∧ meth.locks = false ∧ (Jvm.Cond.and given_1 narrow_1).before #[Value.ref b] s = true
/-- the small machine's memory at the law's entry: the script alone -/
def pq_M0 (L : Nat) (xs : Nat → Int32) : pq_M := ([.inl (.int, L)], fun _ j => xs j, fun _ _ => 0, fun _ _ => none)
theorem pq_arrK {s : State} {args : Array Value} {ty : FieldType} (h : (Cond.arrayClass ty).before args s = true) (hp : ∀ C, ty ≠ .object C) : ∃ cA : ClassId, ArrOfT s cA ty ∧ va_RA s cA ty := by
  obtain ⟨c, k, comp, h1, h2, h3⟩ := Cond.arrayClass_spec h
  refine ⟨c, fun n z => ⟨fun k h => (by cases h), k, h2, comp, h3⟩, ?_⟩
  cases ty with
  | object C => exact absurd rfl (hp C)
  | _ => exact h1
/-- the law on the small machine: it comes to its end with 1 -/
theorem pq_law (L : Nat) (xs : Nat → Int32) (hL : L ≤ 2048) : ∃ (k : Nat) (M' : pq_M), pq_loop (pq_call 40 k) k 156 0 (pq_loc [.ref 0] 4) [] (pq_M0 L xs) = some (some (.int 1), M') ∧ M'.1.length - 1 ≤ 600000 ∧ pq_tot M'.1 - L ≤ 7302250 := by
  obtain ⟨N, r, M', ⟨hr, hM⟩, hN⟩ := law_run (xs := xs) hL
  subst hr
  have e : pq_loc [.ref 0] 4 = [some (.ref 0), none, none, none] := rfl
  have es : pq_Sh L = .inl (.int, L) :: (pq_Sh 0).tail := rfl
  have et : pq_tot (pq_Sh L) = L + pq_tot ((pq_Sh 0).tail) := by
    rw [es]
    unfold pq_tot
    rw [List.map_cons, List.sum_cons]
    rfl
  have e2 : pq_tot ((pq_Sh 0).tail) ≤ 7302250 := by decide +kernel
  generalize pq_tot ((pq_Sh 0).tail) = c at et e2
  refine ⟨N, M', by rw [e]; exact hN N N (Nat.le_refl _) (Nat.le_refl _), ?_, ?_⟩
  · rw [hM, sh_len]; decide
  · rw [hM, et]; omega

set_option maxHeartbeats 4000000 in
set_option maxRecDepth 100000 in
/-- THE LAW, from its entry -/
theorem whole_start {p : Program} {e : Env} {s : State} {m : MethodId} {below : List Frame} {meth : Method} {c : Code} (l : Launch) (hflags : l.flags = flags0) {b L : Nat} {xs : Nat → Int32} (hL : L ≤ 2048) (C0 : lw_At p s m meth c b L xs) : W p l e room_1 s m #[Value.ref b] below meth c s.heap [] 0 0 (lw_Z below #[Value.ref b] s) (entryFrame m ([Value.ref b] : List Value).toArray 4) := by
  obtain ⟨hx, hb, hr, hml, hown, hts, hX, hbl, hlocks, hgv⟩ := C0
  have ht2 := lw_t2_ok hts
  have htg : ∀ w ∈ lw_g, w.before #[Value.ref b] s = true := fun w hw => ht2 w (List.mem_filter.mp hw).1
  obtain ⟨c0, i0, hk0⟩ := u_known (C := "PursuitDesk$Beliefs") (T := pT0) (N := 4) (n := 4) htg pi0 (htg (.instantiable "PursuitDesk$Beliefs" 4) (lw_in 63 (by decide +kernel) (by decide +kernel)))
  obtain ⟨c1, i1, hk1⟩ := u_known (C := "PursuitDesk$Evader") (T := pT1) (N := 7) (n := 7) htg pi1 (htg (.instantiable "PursuitDesk$Evader" 7) (lw_in 85 (by decide +kernel) (by decide +kernel)))
  obtain ⟨c2, i2, hk2⟩ := u_known (C := "PursuitDesk$MoveSearch") (T := pT2) (N := 7) (n := 7) htg pi2 (htg (.instantiable "PursuitDesk$MoveSearch" 7) (lw_in 206 (by decide +kernel) (by decide +kernel)))
  obtain ⟨c3, i3, hk3⟩ := u_known (C := "PursuitDesk$State") (T := pT3) (N := 10) (n := 10) htg pi3 (htg (.instantiable "PursuitDesk$State" 10) (lw_in 57 (by decide +kernel) (by decide +kernel)))
  obtain ⟨c4, i4, hk4⟩ := u_known (C := "PursuitDesk$TurnSearch") (T := pT4) (N := 9) (n := 9) htg pi4 (htg (.instantiable "PursuitDesk$TurnSearch" 9) (lw_in 162 (by decide +kernel) (by decide +kernel)))
  obtain ⟨c5, i5, hk5⟩ := u_known (C := "PursuitDesk") (T := pT5) (N := 9) (n := 9) htg pi5 (htg (.instantiable "PursuitDesk" 9) (lw_in 49 (by decide +kernel) (by decide +kernel)))
  obtain ⟨c6, i6, hk6⟩ := u_known (C := "PursuitDeskModel") (T := pT6) (N := 12) (n := 12) htg pi6 (htg (.instantiable "PursuitDeskModel" 12) (lw_in 695 (by decide +kernel) (by decide +kernel)))
  obtain ⟨a0, x0, y0⟩ := pq_arrK (htg _ kz_int) (fun C h => by cases h)
  obtain ⟨a1, x1, y1⟩ := pq_arrK (htg _ kz_long) (fun C h => by cases h)
  obtain ⟨a2, x2, y2⟩ := pq_arrK (htg _ kz_char) (fun C h => by cases h)
  have hAO : va_AO "PursuitDesk$State" s := ht2 (Cond.arrayOver (.object "PursuitDesk$State")) (List.mem_of_getElem? (i := 160) (by decide +kernel))
  obtain ⟨comp, a3, k3, e1, -, e2, e3, e4⟩ := Cond.arrayOver_spec hAO
  obtain ⟨D, hD⟩ : ∃ D : va_G, ∀ (k : Nat) (q : vw_C), pq_cl[k]? = some q → u_Kn s q.1 q.2.1 q.2.2 (D.1 k) (D.2 k) := by
    refine ⟨(fun k => match k with | 0 => c0 | 1 => c1 | 2 => c2 | 3 => c3 | 4 => c4 | 5 => c5 | _ => c6, fun k => match k with | 0 => i0 | 1 => i1 | 2 => i2 | 3 => i3 | 4 => i4 | 5 => i5 | _ => i6), ?_⟩
    intro k q hq
    match k, hq with
    | 0, hq => cases hq; exact hk0
    | 1, hq => cases hq; exact hk1
    | 2, hq => cases hq; exact hk2
    | 3, hq => cases hq; exact hk3
    | 4, hq => cases hq; exact hk4
    | 5, hq => cases hq; exact hk5
    | 6, hq => cases hq; exact hk6
    | k + 7, hq => simp [pq_cl] at hq
  obtain ⟨aC, hC⟩ : ∃ aC : FieldType → ClassId, ∀ (k : Nat) (q : ClassId × FieldType), (pq_tys aC)[k]? = some q → ArrOfT s q.1 q.2 ∧ va_RA s q.1 q.2 := by
    refine ⟨fun ty => match ty with | .int => a0 | .long => a1 | .char => a2 | _ => a3, ?_⟩
    intro k q hq
    match k, hq with
    | 0, hq => cases hq; exact ⟨x0, y0⟩
    | 1, hq => cases hq; exact ⟨x1, y1⟩
    | 2, hq => cases hq; exact ⟨x2, y2⟩
    | 3, hq => cases hq; exact ⟨fun N z => ⟨(fun k h => by cases h), k3, e2, comp, e3⟩, k3, comp, e2, e3, e1, e4⟩
    | k + 4, hq => simp [pq_tys] at hq
  have hK : pq_K D aC s.heap.size b L xs s := ⟨⟨hD, hC⟩, fun w hw => va_Nw.of (pq_nest_tab hw) (hts w (kz_nest w hw)), hAO, hX, hbl, Nat.le_refl _⟩
  have hR : pq_R D aC s.heap.size b L xs (pq_M0 L xs) s.heap := by
    refine ⟨Nat.le_refl _, fun k q h => by simp [pq_ws, pq_M0] at h, rfl, fun j _ => rfl, fun q n ty h => ?_⟩
    match q, h with
    | 0, h => cases h; exact Or.inl rfl
    | q + 1, h => simp [pq_M0] at h
  obtain ⟨k, M', hrun, hce, hsl⟩ := pq_law L xs hL
  have key := pq_sloop (meth := meth) (l := l) (R := room_1) (below := below) (e := e) (Q := lw_Z below #[Value.ref b] s) (n0 := 1) (t0 := L) (d := 40) (ini := false) (ret := some .boolean) (fun j as M r M' hc => (pq_sound _ _ _ _ _ _ _ hc).1) (fun j as M r M' hc => (pq_sound (l := l) (D := D) (aC := aC) (h0 := s.heap.size) (b := b) (L := L) (xs := xs) _ _ _ _ _ _ _ hc).2)
    hx hb hml htg hown (fun h => nomatch h) hK (j := 156) rfl dk_156 ck_156 (by decide) (by decide) rfl k 0 (pq_loc [.ref 0] 4) [] (pq_M0 L xs) (some (.int 1)) M' hrun s.heap [] _ (pq_entry (as := [.ref 0]) (by decide)) hR va_S.rf (Nat.le_refl _) (by simp [pq_tot, pq_M0, pq_sz]) hce hsl ?_
  · rw [show (pq_M0 L xs).1.length - 1 = 0 from rfl, show pq_tot (pq_M0 L xs).1 - L = 0 by simp [pq_tot, pq_M0, pq_sz]] at key
    rw [lg_entry_eq]
    exact key
  · intro pc nx na lk v ls H locs st ins h4 hd hcb hR' hS'
    cases ins
    all_goals try exact pq_nn h4
    case return_ =>
      simp only [pq_x4] at h4
      split at h4 <;> cases h4
    case lreturn =>
      simp only [pq_x4] at h4
      split at h4 <;> cases h4
    case ireturn =>
      simp only [pq_x4] at h4
      have hst : st = [.int 1] := by
        split at h4
        · split at h4
          · cases h4; rfl
          · split at h4
            · cases h4; rfl
            · cases h4
        · cases h4
      subst hst
      refine va_forget (fun q hq => hS'.2.2 q hq) ?_
      refine W.widen (k := 600000) (n := 7302250) hce hsl ?_
      exact lw_ret hx hb hr hlocks hd
-- ===== YOUR PART ENDS =====
set_option maxHeartbeats 4000000 in
theorem lw_walk (l : Launch) (hflags : l.flags = flags0) (b : Addr) (xs : List Int32) : MetFree l x (headSpec (Jvm.Cond.code x code maxLocals ret :: tables_1) room_1) (lw_P b xs) (fun _ _ _ _ _ => True) lw_Q := by
  refine MetFree.of_bodyS (code := code) (maxLocals := maxLocals) (ret := ret) (by decide) ?_ ?_
  · intro args s m h hn
    obtain ⟨meth, c, h1, h2, h3, h4, h5, h6, -, -⟩ := Cond.code_spec hn (atoms_spec (ws := Jvm.Cond.code x code maxLocals ret :: tables_1) h _ List.mem_cons_self)
    exact ⟨meth, c, h1, h2, h3, h4, h5, h6⟩
  · intro p e s m args below meth c s₁ B hml0 hP _
    obtain ⟨rfl, hx, hbd, hgv⟩ := hP
    obtain ⟨scr, harrAt, hlist, hof, hsmall⟩ := hx
    obtain ⟨hcb, hkn, -, -⟩ := State.arrayAt?_spec harrAt
    have hown : s.vm.findClass R_law = some m.cls := findClass_of_methodNamed B.named
    have hts0 : ∀ c ∈ (Jvm.Cond.code x code maxLocals ret :: tables_1), c.before #[Value.ref b] s = true := atoms_spec (ws := Jvm.Cond.code x code maxLocals ret :: tables_1) B.pre
    have hts : ∀ w ∈ lw_tbl, w.before #[Value.ref b] s = true := k2_hts_sels lw_privs (fun w hw => hts0 w (List.mem_cons_of_mem _ hw)) lw_privs_ok
    have hml : c.maxLocals = 4 := B.maxLocals_eq (hts0 _ List.mem_cons_self)
    have X₀ : Stand p l e room_1 s m #[Value.ref b] below meth c s₁ [] 0 0 := Stand.of_body B
    have hh0 : s₁.heap = s.heap := by rw [B.state]; rfl
    have hsz : scr.slots.size = xs.length := by rw [← Array.length_toList, hlist, List.length_map]
    have hval : ∀ j : Nat, j < xs.length → scr.slots[j]? = some (.int (xs.getD j 0)) := fun j hj => by
      rw [← Array.getElem?_toList, hlist]
      simp [hj]
    have hbl : b < s.heap.size := (Array.getElem?_eq_some_iff.mp hcb).1
    have hX : va_X b xs.length (fun j => xs.getD j 0) s s.heap := ⟨scr, hcb, hof, hkn, hsz, hval⟩
    have K : W p l e room_1 s m #[Value.ref b] below meth c s₁.heap [] 0 0 (lw_Z below #[Value.ref b] s) (entryFrame m ([Value.ref b] : List Value).toArray 4) := by
      rw [hh0]
      exact whole_start l hflags hbd ⟨B.exec, B.bytes, B.returns, hml, hown, hts, hX, hbl, B.notSynchronized, hgv⟩
    obtain ⟨t, a1, o, b1, b2, b3⟩ := K s₁ rfl X₀
    exact ⟨t, o, a1, b1, b2, b3⟩
theorem lw_pre_spec {args : Array Value} {s : State} (h : (Jvm.Cond.and given_1 narrow_1).before args s = true) (hr : rest_1_c.before args s = true) : ∃ (b : Addr) (xs : List Int32), lw_P b xs args s := by
  have hs := flat_of_before _ h
  have hq := flat_of_before _ hr
  have hc : (Cond.count 1).before args s = true := hs _ (by decide +kernel)
  have harr : (Cond.arrayOf (.arg 0) .int).before args s = true := hs _ (by decide +kernel)
  have hle : (Cond.le (.length (.arg 0)) (.int 2048)).before args s = true := hs _ (by decide +kernel)
  have hlen : (Cond.isInt (.length (.arg 0))).before args s = true := hq _ (by decide +kernel)
  have hall : (Cond.all (.arg 0) (.isInt (.elem (.arg 0) (.index 0)))).before args s = true := hq _ (by decide +kernel)
  obtain ⟨b, xs, hb, hx⟩ := State.ints_of_pre rfl harr hlen hall
  have hsm : xs.length < 2 ^ 31 := hx.choose_spec.2.2.2
  have hev : (Term.length (.arg 0)).eval args s none [] s = some (.int xs.length.toInt32) := hx.length_eval hb
  have hv := Cond.le_ints hev (show (Term.int 2048).eval args s none [] s = some (.int 2048) from rfl)
  have hd : xs.length.toInt32 ≤ 2048 := by
    simpa [Cond.before, Cond.holds, hv] using hle
  have hN : xs.length ≤ 2048 := (Int32.ofNat_le_ofNat hsm (by decide)).mp (show Int32.ofNat xs.length ≤ Int32.ofNat 2048 from hd)
  exact ⟨b, xs, Cond.one_arg hc (show args[0]? = some (.ref b) from hb), hx, hN, h⟩
theorem lw_comes (l : Launch) (hflags : l.flags = flags0) : Comes l x (Jvm.Cond.code x code maxLocals ret :: tables_1) room_1 (fun tb e args s => Calls_1 tb e args s ∧ rest_1 tb e args s ∧ Pre_1 tb e args s)
    (fun _ _ args s o t => lw_Q args s o t) := by
  intro p e ha hc hk s m args below hf hfit hheap happ hpre
  obtain ⟨b, xs, hP⟩ := lw_pre_spec hpre.2.2 hpre.2.1
  obtain ⟨k, o, h1, h2, h3, hQ⟩ := lw_walk l hflags b xs p e ha hc hk s m args below hf ((Spec.applies_iff_loose hf).mp happ).1 hP trivial
  exact ⟨k, o, h1, h2, h3, hQ⟩
theorem lw_frame {s t : State} {o : Outcome} {args : Array Value} (h : Framed s o t [] 600000 7302250) :
    Framed s o t (fieldLocs frame_1_writes args s ++ arrayLocs frame_1_arrays args s ++ staticLocs frame_1_statics s) 600000 7302250 := h
theorem lw_limb (L : Cond) (hL : ∀ (args : Array Value) (s t : State), L.after args s (.returned (some (.int 1))) t = true) :
    ArmFor flags0 classFile x code maxLocals ret World_1 tables_1 room_1 Calls_1 rest_1 Pre_1
      (fun tb e a s o t => postC L tb e a s o t ∧ Framed s o t (fieldLocs frame_1_writes a s ++ arrayLocs frame_1_arrays a s ++ staticLocs frame_1_statics s) 600000 7302250) := by
  intro l hflags _ _ p e ha hc hk s m args below hf hfit hheap happ hpre
  obtain ⟨k, o, h1, h2, h3, rfl, hF⟩ := lw_comes l hflags p e ha hc hk s m args below hf hfit hheap happ hpre
  exact ⟨k, _, h1, h2, h3, hL args s _, lw_frame hF⟩
theorem i_vc : Claimed_1_1 ∧ Claimed_1_2 := ⟨lw_limb limb_1_1 (fun args s t => by simp [limb_1_1, Cond.after, Cond.holds, Cond.value]), lw_limb limb_1_2 (fun args s t => Cond.after_iff.mpr (by
  first | (rw [show limb_1_2 = Cond.eq .result (.int 1) from rfl, Cond.eq_ints (x := 1) (y := 1) rfl rfl]; simp; done) | (simp [limb_1_2, Cond.value, Term.eval]; done)))⟩
