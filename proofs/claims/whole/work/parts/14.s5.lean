def pq_rm (d mc ms : Nat) : Room := { frames := d + 1, cells := mc, slots := ms, locals := 200 * (d + 1) }
def pq_Pc (D : va_G) (aC : FieldType → ClassId) (h0 b L : Nat) (xs : Nat → Int32) (as : List Value) (M : pq_M) : Array Value → State → Prop :=
  va_Pc (as.map (pq_rv h0 b)) (fun U => U.heap.size + 1 = h0 + M.1.length ∧ pq_R D aC h0 b L xs M U.heap ∧ pq_K D aC h0 b L xs U)
def pq_Qc (D : va_G) (aC : FieldType → ClassId) (h0 b L : Nat) (xs : Nat → Int32) (r : Option Value) (M' : pq_M) : Array Value → State → Outcome → State → Prop :=
  fun _ st oc t => oc = .returned (r.map (pq_rv h0 b)) ∧ pq_R D aC h0 b L xs M' t.heap ∧ va_F (pq_A h0) st t
def pq_mc (M M' : pq_M) : Nat := M'.1.length - M.1.length
def pq_ms (M M' : pq_M) : Nat := pq_tot M'.1 - pq_tot M.1
def pq_Met (l : Launch) (D : va_G) (aC : FieldType → ClassId) (h0 b L : Nat) (xs : Nat → Int32) (d j : Nat) (as : List Value) (M : pq_M) (r : Option Value) (M' : pq_M) : Prop :=
  ∀ q : pq_Q, pq_mtab[j]? = some q → pq_okM q → Met l q.2.1 (Cond.code q.2.1 q.2.2.1 q.2.2.2.1 q.2.2.2.2 :: lw_g) (pq_rm d (pq_mc M M') (pq_ms M M')) (pq_Pc D aC h0 b L xs as M) (pq_Qc D aC h0 b L xs r M') (pq_mc M M') (pq_ms M M') (pq_A h0)
theorem pq_nest_k {w : Cond} (h : w ∈ pq_nest) : (∃ (a : String) (i : Nat) (x : MethodName) (t : String), w = .methodLinkNest a i x t) ∨ ∃ x : MethodName, w = .declares x := by
  simp only [pq_nest, List.mem_cons, List.not_mem_nil, or_false] at h
  rcases h with h | h | h | h | h | h | h | h | h | h | h | h | h | h <;> subst h <;> first | exact Or.inl ⟨_, _, _, _, rfl⟩ | exact Or.inr ⟨_, rfl⟩
theorem pq_nest_warm {w : Cond} {s U : State} (h : w ∈ pq_nest) (hW : s.WarmedH U.vm) (hz : va_Nw w s) : va_Nw w U := by
  rcases pq_nest_k h with ⟨a, i, x, t, rfl⟩ | ⟨x, rfl⟩
  · exact va_Nw.warmM hW hz
  · exact va_Nw.warmD hW hz
theorem pq_nest_tab {w : Cond} (h : w ∈ pq_nest) : w.onTables = true := by
  rcases pq_nest_k h with ⟨a, i, x, t, rfl⟩ | ⟨x, rfl⟩ <;> rfl
theorem pq_good {ws : List Cond} (h : ∀ w ∈ ws, w ∈ lw_g) : GoodIn lw_g ws := fun w hw => ⟨h w hw, good_of_word (List.mem_filter.mp (h w hw)).2⟩
theorem pq_good_app {a b : List Cond} (ha : ∀ w ∈ a, w ∈ lw_g) (hb : ∀ w ∈ b, w ∈ lw_g) : ∀ w ∈ a ++ b, w ∈ lw_g := fun w h => (List.mem_append.mp h).elim (ha w) (hb w)
theorem pq_psh_rv (h0 b : Nat) (r : Option Value) (st : List Value) : (pq_psh r st).map (pq_rv h0 b) = (r.map (pq_rv h0 b)).toList ++ st.map (pq_rv h0 b) := by cases r <;> rfl
theorem pq_cn_cl {ci : Nat} {C : String} (h : pq_cn[ci]? = some C) : ∃ rc : vw_C, pq_cl[ci]? = some rc ∧ rc.1 = C := by
  match ci, h with
  | 0, h => cases h; exact ⟨_, rfl, rfl⟩
  | 1, h => cases h; exact ⟨_, rfl, rfl⟩
  | 2, h => cases h; exact ⟨_, rfl, rfl⟩
  | 3, h => cases h; exact ⟨_, rfl, rfl⟩
  | 4, h => cases h; exact ⟨_, rfl, rfl⟩
  | 5, h => cases h; exact ⟨_, rfl, rfl⟩
  | 6, h => cases h; exact ⟨_, rfl, rfl⟩
  | k + 7, h => simp [pq_cn] at h
theorem pq_K_same {D : va_G} {aC : FieldType → ClassId} {h0 b L : Nat} {xs : Nat → Int32} {U V : State} (h : pq_K D aC h0 b L xs U) (hv : U.vm = V.vm) (hh : U.heap = V.heap) : pq_K D aC h0 b L xs V := by
  have ha : U.vm.Alike V.vm := by rw [hv]; exact Vm.Alike.refl _
  obtain ⟨k1, k2, k3, k4, k5, k6⟩ := h
  exact ⟨va_K.moved ha k1, fun w hw => va_Nw.same (pq_nest_tab hw) hv (k2 w hw), va_AO.moved ha k3, by rw [← hh]; exact va_X.moved ha k4, k5, by rw [← hh]; exact k6⟩
theorem pq_K_warm {D : va_G} {aC : FieldType → ClassId} {h0 b L : Nat} {xs : Nat → Int32} {s U : State} {locs : List Loc} (h : pq_K D aC h0 b L xs s) (hW : s.WarmedH U.vm) (hS : va_S (pq_A h0) s.heap U.heap locs) : pq_K D aC h0 b L xs U := by
  obtain ⟨k1, k2, k3, k4, k5, k6⟩ := h
  refine ⟨va_K.moved hW.alike k1, fun w hw => pq_nest_warm hw hW (k2 w hw), va_AO.moved hW.alike k3, ?_, k5, Nat.le_trans k6 hS.1⟩
  exact (va_X.moved hW.alike k4).kept (hS.2.1 b (Nat.lt_of_lt_of_le k5 k6) (fun z => by have : h0 ≤ b := z; omega))
theorem pq_blind {D : va_G} {aC : FieldType → ClassId} {h0 b L : Nat} {xs : Nat → Int32} {as : List Value} {M : pq_M} : FrameBlind (pq_Pc D aC h0 b L xs as M) := by
  intro a U g mk h
  obtain ⟨h1, h2, h3, h4⟩ := h
  exact ⟨h1, h2, h3, pq_K_same h4 rfl rfl⟩
theorem pq_drop {st r : List Value} {na q : Nat} (h : st.drop na = .ref q :: r) : na < st.length ∧ st = st.take na ++ .ref q :: r := by
  constructor
  · apply Nat.lt_of_not_le; intro hle; rw [List.drop_eq_nil_of_le hle] at h; cases h
  · rw [← h, List.take_append_drop]
theorem pq_split_ok : ∀ {na : Nat} {st acc as r : List Value}, pq_split na st acc = some (as, r) → na ≤ st.length ∧ as = (st.take na).reverse ++ acc ∧ r = st.drop na := by
  intro na
  induction na with
  | zero => intro st acc as r h; cases h; exact ⟨Nat.zero_le _, rfl, rfl⟩
  | succ n ih =>
    intro st acc as r h
    cases st with
    | nil => cases h
    | cons v st =>
      obtain ⟨h1, h2, h3⟩ := ih h
      exact ⟨by simpa using h1, by rw [h2]; simp, h3⟩
theorem pq_split_nil {na : Nat} {st as r : List Value} (h : pq_split na st [] = some (as, r)) : na ≤ st.length ∧ as = (st.take na).reverse ∧ r = st.drop na := by
  obtain ⟨h1, h2, h3⟩ := pq_split_ok h
  exact ⟨h1, by rw [h2]; simp, h3⟩
theorem pq_revs (h0 b : Nat) (x : List Value) : (x.reverse.map (pq_rv h0 b)).reverse = x.map (pq_rv h0 b) := by rw [List.map_reverse, List.reverse_reverse]
section PQ6
variable {p : Program} {l : Launch} {e : Env} {R : Room} {s : State} {m : MethodId} {args : Array Value} {below : List Frame} {meth : Method} {c : Code} {H : Heap} {locs : List Loc} {cells slots : Nat} {Q : State → Prop}
  {cc : ByteArray} {D : va_G} {aC : FieldType → ClassId} {xs : Nat → Int32} {h0 b L pc nL : Nat} {own : String} {ini : Bool} {ls : Array Slot} {r : Option Value} {M M' : pq_M}
theorem pq_gocall {mc ms : Nat} {st0 rest : List Value} {a : Array Value} (hr : va_Run p l e R s m args below meth c H locs cells slots mc ms (F0 m pc ls st0) rest (pq_Qc D aC h0 b L xs r M' a) (pq_A h0)) (hS : va_S (pq_A h0) s.heap H locs)
    (kk : ∀ (H1 : Heap) (locs1 : List Loc), pq_R D aC h0 b L xs M' H1 → va_S (pq_A h0) s.heap H1 locs1 → W p l e R s m args below meth c H1 locs1 (cells + mc) (slots + ms) Q (F0 m (pc + 3) ls ((r.map (pq_rv h0 b)).toList ++ rest))) :
    W p l e R s m args below meth c H locs cells slots Q (F0 m pc ls st0) := by
  intro T hT X
  obtain ⟨v, st₀, t, T', L2, g0, X', hL, e1, e2, ⟨hv, hp, hz, hk⟩, st⟩ := hr T hT X
  cases hv
  rw [g0] at hz hk
  obtain ⟨t2, a1, b1⟩ := kk T'.heap (locs ++ L2) (by rw [e1]; exact hp)
    ⟨Nat.le_trans hS.1 (by rw [e1]; exact hz), fun q h1 h2 => by rw [e1, hk q (Nat.lt_of_lt_of_le h1 hS.1) h2]; exact hS.2.1 q h1 h2, fun q hq => by
      rcases List.mem_append.mp hq with h | h
      · exact hS.2.2 q h
      · exact hL q h⟩ T' rfl X'
  exact ⟨t2, st t2 a1, b1⟩
theorem pq_pre (hK : pq_K D aC h0 b L xs s) (hR : pq_R D aC h0 b L xs M H) (hS : va_S (pq_A h0) s.heap H locs) (hHs : H.size + 1 = h0 + M.1.length) {as : List Value} : ∀ U : State, U.heap = H → s.WarmedH U.vm → pq_Pc D aC h0 b L xs as M (as.map (pq_rv h0 b)).toArray U := by
  intro U hU hW
  subst hU
  exact ⟨rfl, hHs, hR, pq_K_warm hK hW hS⟩
set_option maxHeartbeats 4000000 in
theorem pq_s5 (hx : p.tables.exec = Jvm.exec) (hb : c.code = cc) (hml : c.maxLocals = ls.size) (hts : ∀ w ∈ lw_g, w.before args s = true) (hown : s.vm.findClass own = some m.cls) (hK : pq_K D aC h0 b L xs s) (hR : pq_R D aC h0 b L xs M H) (hS : va_S (pq_A h0) s.heap H locs)
    {ins : Instr} {lk : List (Nat × Nat)} {st as rest : List Value} {nx na d j : Nat} {v0 : Value} (h : pq_x5 ins na lk st M = some (j, as, rest)) (hd : decode cc pc = .ok (ins, pq_len ins)) (hok : pq_ok own ini (pc, ins, nx, na, lk, v0))
    (hM : pq_Met l D aC h0 b L xs d j as M r M') (hHs : H.size + 1 = h0 + M.1.length) (hfr : d + 2 ≤ R.frames) (hlo : 200 * (d + 2) ≤ R.locals) (hce : cells + pq_mc M M' ≤ R.cells) (hsl : slots + pq_ms M M' ≤ R.slots)
    (k : ∀ (H1 : Heap) (locs1 : List Loc), pq_R D aC h0 b L xs M' H1 → va_S (pq_A h0) s.heap H1 locs1 → W p l e R s m args below meth c H1 locs1 (cells + pq_mc M M') (slots + pq_ms M M') Q (F0 m (pc + pq_len ins) ls ((pq_psh r rest).map (pq_rv h0 b)))) :
    W p l e R s m args below meth c H locs cells slots Q (F0 m pc ls (st.map (pq_rv h0 b))) := by
  have hroom : ∀ n : Nat, n ≤ 100 → (pq_rm d (pq_mc M M') (pq_ms M M')).frames + 1 ≤ R.frames ∧ 8 + (n + 11) + (pq_rm d (pq_mc M M') (pq_ms M M')).locals ≤ R.locals := fun n hn => ⟨hfr, by show 8 + (n + 11) + 200 * (d + 1) ≤ R.locals; omega⟩
  have hself : ∀ w ∈ lw_g, w ∈ lw_g := fun _ h => h
  cases ins
  all_goals try exact pq_nn h
  case invokestatic idx =>
    simp only [pq_x5] at h
    split at h
    · rename_i qa qb lk2 as2 r2 hspl
      obtain ⟨hq1, rfl, rfl⟩ := pq_split_nil hspl
      split at h
      · rename_i hq
        obtain ⟨hq0, hq2⟩ := hq
        subst hq0
        cases h
        obtain ⟨q, hq, hokM, hdm, w1, w2, w3⟩ := hok
        have hws : ∀ w ∈ Cond.code q.2.1 q.2.2.1 q.2.2.2.1 q.2.2.2.2 :: lw_g, w ∈ lw_g := fun w h => (List.mem_cons.mp h).elim (fun e => e ▸ hokM.1) id
        have hG : GoodIn lw_g (va_wsS own idx q.2.1 (Cond.code q.2.1 q.2.2.1 q.2.2.2.1 q.2.2.2.2 :: lw_g)) := pq_good (pq_good_app (pq_ac w1 (pq_ac w2 (pq_ac w3 pq_an))) hws)
        refine pq_gocall (va_runS (rest := (st.drop na).map (pq_rv h0 b)) ⟨hx, hb, hml, hown, hts⟩ (hM q hq hokM) (va_cwS na hts hG rfl rfl rfl ⟨hokM.2.2.2.1, hokM.2.2.2.2, hdm⟩ (hroom _ hokM.2.2.1)) ⟨pq_blind, pq_pre hK hR hS hHs⟩ rfl (by simp; omega) rfl ?_ (lv_room (by rw [pq_rv_cats]; exact hq2)) hd ⟨hce, hsl⟩) hS (fun H1 locs1 a1 a2 => ?_)
        · show st.map (pq_rv h0 b) = _
          rw [pq_revs, ← List.map_append, List.take_append_drop]
        · rw [← pq_psh_rv]; exact k H1 locs1 a1 a2
      · cases h
    · cases h
  case invokevirtual idx =>
    simp only [pq_x5] at h
    split at h
    · rename_i as2 q r2 hspl
      obtain ⟨hle, rfl, hdr⟩ := pq_split_nil hspl
      replace hdr := hdr.symm
      split at h
      · rename_i ci hsh
        split at h
        · rename_i j2 hlk
          split at h
          · rename_i hcat
            cases h
            obtain ⟨hlt, hst⟩ := pq_drop hdr
            obtain ⟨Qm, C, hq, hC, hokM, hkind⟩ := hok _ (pq_lku hlk)
            obtain ⟨rc, hcl, hrcC⟩ := pq_cn_cl hC
            have hq0 : ¬ q = 0 := fun e => by rw [e, hR.2.2.1] at hsh; cases hsh
            have he := pq_ws_at (aC := aC) (h0 := h0) (b := b) hq0 (pq_lt hsh)
            rw [pq_cell_o hsh] at he
            have hrecv := va_recv hK.1 hR.2.1 hcl he
            rw [hrcC] at hrecv
            have hws : ∀ w ∈ Cond.code Qm.2.1 Qm.2.2.1 Qm.2.2.2.1 Qm.2.2.2.2 :: lw_g, w ∈ lw_g := fun w h => (List.mem_cons.mp h).elim (fun e => e ▸ hokM.1) id
            have hstk : st.map (pq_rv h0 b) = (((st.take na).reverse).map (pq_rv h0 b)).reverse ++ .ref (pq_ad h0 b q) :: rest.map (pq_rv h0 b) := by
              rw [pq_revs]
              conv => lhs; rw [hst]
              rw [List.map_append]; rfl
            have hlen : ((st.take na).reverse.map (pq_rv h0 b)).length = na := by simp; omega
            have hcat2 : ((rest.map (pq_rv h0 b)).map fun v => v.category).sum ≤ 8 := by rw [pq_rv_cats]; exact hcat
            have hpv : PreV s H C (pq_ad h0 b q) (pq_Pc D aC h0 b L xs (.ref q :: (st.take na).reverse) M) ((st.take na).reverse.map (pq_rv h0 b)) := ⟨pq_blind, hrecv, pq_pre hK hR hS hHs⟩
            rcases hkind with ⟨e1, hdm, w1, w2, w3, w4⟩ | ⟨owner, x, hnc, hdm, w1, w2, w3, w4, w5, hlast⟩
            · have hG : GoodIn lw_g (wsV own idx C Qm.2.1 (Cond.code Qm.2.1 Qm.2.2.1 Qm.2.2.2.1 Qm.2.2.2.2 :: lw_g)) := pq_good (pq_good_app (pq_ac w1 (pq_ac w2 (pq_ac w3 (pq_ac w4 pq_an)))) hws)
              refine pq_gocall (va_runV (As := (st.take na).reverse.map (pq_rv h0 b)) (rest := rest.map (pq_rv h0 b)) ⟨hx, hb, hml, hown, hts⟩ (hM Qm hq hokM) (cwV na hts hG rfl rfl rfl ⟨e1, hokM.2.2.2.1, hokM.2.2.2.2, hdm⟩ (hroom _ hokM.2.2.1)) hpv rfl hlen rfl hstk (lv_room hcat2) hd ⟨hce, hsl⟩) hS (fun H1 locs1 a1 a2 => ?_)
              rw [← pq_psh_rv]; exact k H1 locs1 a1 a2
            · have hG : GoodIn lw_g (va_wsU own idx C owner x Qm.2.1 (Cond.code Qm.2.1 Qm.2.2.1 Qm.2.2.2.1 Qm.2.2.2.2 :: lw_g)) := pq_good (pq_good_app (pq_ac w1 (pq_ac w2 (pq_ac w3 (pq_ac w4 (pq_ac w5 pq_an))))) hws)
              have hcu : va_CU R s args own C owner idx x Qm.2.1 Qm.2.2.1 Qm.2.2.2.1 Qm.2.2.2.2 (Cond.code Qm.2.1 Qm.2.2.1 Qm.2.2.2.1 Qm.2.2.2.2 :: lw_g) (pq_rm d (pq_mc M M') (pq_ms M M')) (pq_mc M M') (pq_ms M M') na := by
                rcases hlast with hy | hz
                · exact va_cwU na hts hG rfl rfl rfl hy ⟨hnc.1, hnc.2, hdm⟩ (hroom _ hokM.2.2.1)
                · exact va_cwA na hts hG rfl rfl rfl (hK.2.1 _ hz) ⟨hnc.1, hnc.2, hdm⟩ (hroom _ hokM.2.2.1)
              refine pq_gocall (va_runU (As := (st.take na).reverse.map (pq_rv h0 b)) (rest := rest.map (pq_rv h0 b)) ⟨hx, hb, hml, hown, hts⟩ (hM Qm hq hokM) hcu hpv rfl hlen rfl hstk (lv_room hcat2) hd ⟨hce, hsl⟩) hS (fun H1 locs1 a1 a2 => ?_)
              rw [← pq_psh_rv]; exact k H1 locs1 a1 a2
          · cases h
        · cases h
      · cases h
    · cases h
  case invokespecial idx =>
    simp only [pq_x5] at h
    split at h
    · rename_i as2 q r2 hspl
      obtain ⟨hle, rfl, hdr⟩ := pq_split_nil hspl
      replace hdr := hdr.symm
      split at h
      · rename_i ci hsh
        split at h
        · rename_i j2 hlk
          split at h
          · rename_i hcat
            cases h
            obtain ⟨hlt, hst⟩ := pq_drop hdr
            have hmem := pq_lku hlk
            have hok2 : pq_okI own idx na j := by
              cases lk with
              | nil => cases hmem
              | cons a t => exact hok _ hmem
            obtain ⟨⟨o, y, bytes, maxL, rt⟩, hq, hokM, hret, hnm, hdm, w1, w2, hlink⟩ := hok2
            dsimp only at hret hnm hdm w1 w2 hlink
            subst hret
            have hws : ∀ w ∈ Cond.code y bytes maxL none :: lw_g, w ∈ lw_g := fun w h => (List.mem_cons.mp h).elim (fun e => e ▸ hokM.1) id
            have hstk : st.map (pq_rv h0 b) = (((st.take na).reverse).map (pq_rv h0 b)).reverse ++ .ref (pq_ad h0 b q) :: rest.map (pq_rv h0 b) := by
              rw [pq_revs]
              conv => lhs; rw [hst]
              rw [List.map_append]; rfl
            have hlen : ((st.take na).reverse.map (pq_rv h0 b)).length = na := by simp; omega
            have hcat2 : ((rest.map (pq_rv h0 b)).map fun v => v.category).sum ≤ 8 := by rw [pq_rv_cats]; exact hcat
            have hps : PreS s H (pq_Pc D aC h0 b L xs (.ref q :: (st.take na).reverse) M) (.ref (pq_ad h0 b q) :: (st.take na).reverse.map (pq_rv h0 b)) := ⟨pq_blind, pq_pre hK hR hS hHs⟩
            rcases hlink with hl | ⟨host, hl⟩
            · refine pq_gocall (va_runI (As := (st.take na).reverse.map (pq_rv h0 b)) (rest := rest.map (pq_rv h0 b)) ⟨hx, hb, hml, hown, hts⟩ (hM _ hq hokM) (cwI na hts (pq_good hws) rfl rfl rfl (hts _ w2) (hts _ hl) (hts _ w1) hnm ⟨hokM.2.2.2.1, hokM.2.2.2.2, hdm⟩ (hroom _ hokM.2.2.1)) hps rfl hlen rfl hstk (lv_room hcat2) hd ⟨hce, hsl⟩) hS (fun H1 locs1 a1 a2 => ?_)
              rw [← pq_psh_rv]; exact k H1 locs1 a1 a2
            · refine pq_gocall (va_runIN (host := host) (As := (st.take na).reverse.map (pq_rv h0 b)) (rest := rest.map (pq_rv h0 b)) ⟨hx, hb, hml, hown, hts⟩ (hM _ hq hokM) ⟨va_cnB na hts (pq_good hws) rfl rfl rfl (hK.2.1 _ hl) (hts _ w2) ⟨hokM.2.2.2.1, hokM.2.2.2.2, hdm⟩ (hroom _ hokM.2.2.1), hnm, hts _ w1⟩ hps rfl hlen rfl hstk (lv_room hcat2) hd ⟨hce, hsl⟩) hS (fun H1 locs1 a1 a2 => ?_)
              rw [← pq_psh_rv]; exact k H1 locs1 a1 a2
          · cases h
        · cases h
      · cases h
    · cases h
end PQ6
