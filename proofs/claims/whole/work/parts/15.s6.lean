def pq_tab1 (x : List pq_E × pq_Q) : Prop := x.1.all (pq_dc x.2.2.2.1 x.2.2.2.2.2) = true ∧ ∃ ini : Bool, (ini = true → x.2.2.1.name = "<init>") ∧ ∀ e ∈ x.1, pq_ok x.2.2.1.cls ini e
set_option maxRecDepth 100000 in
theorem pq_tab : ∀ x ∈ List.zip pq_ctab pq_mtab, pq_tab1 x := pq_ac ⟨dk_0, false, (fun h => nomatch h), ck_0⟩ (pq_ac ⟨dk_1, false, (fun h => nomatch h), ck_1⟩ (pq_ac ⟨dk_2, false, (fun h => nomatch h), ck_2⟩ (pq_ac ⟨dk_3, false, (fun h => nomatch h), ck_3⟩ (pq_ac ⟨dk_4, false, (fun h => nomatch h), ck_4⟩ (pq_ac ⟨dk_5, false, (fun h => nomatch h), ck_5⟩ (pq_ac ⟨dk_6, false, (fun h => nomatch h), ck_6⟩ (pq_ac ⟨dk_7, false, (fun h => nomatch h), ck_7⟩ (pq_ac ⟨dk_8, false, (fun h => nomatch h), ck_8⟩ (pq_ac ⟨dk_9, false, (fun h => nomatch h), ck_9⟩ (pq_ac ⟨dk_10, true, (fun _ => rfl), ck_10⟩ (pq_ac ⟨dk_11, false, (fun h => nomatch h), ck_11⟩ (pq_ac ⟨dk_12, false, (fun h => nomatch h), ck_12⟩ (pq_ac ⟨dk_13, false, (fun h => nomatch h), ck_13⟩ (pq_ac ⟨dk_14, false, (fun h => nomatch h), ck_14⟩ (pq_ac ⟨dk_15, false, (fun h => nomatch h), ck_15⟩ (pq_ac ⟨dk_16, false, (fun h => nomatch h), ck_16⟩ (pq_ac ⟨dk_17, false, (fun h => nomatch h), ck_17⟩ (pq_ac ⟨dk_18, false, (fun h => nomatch h), ck_18⟩ (pq_ac ⟨dk_19, true, (fun _ => rfl), ck_19⟩ (pq_ac ⟨dk_20, false, (fun h => nomatch h), ck_20⟩ (pq_ac ⟨dk_21, false, (fun h => nomatch h), ck_21⟩ (pq_ac ⟨dk_22, false, (fun h => nomatch h), ck_22⟩ (pq_ac ⟨dk_23, false, (fun h => nomatch h), ck_23⟩ (pq_ac ⟨dk_24, false, (fun h => nomatch h), ck_24⟩ (pq_ac ⟨dk_25, false, (fun h => nomatch h), ck_25⟩ (pq_ac ⟨dk_26, false, (fun h => nomatch h), ck_26⟩ (pq_ac ⟨dk_27, false, (fun h => nomatch h), ck_27⟩ (pq_ac ⟨dk_28, true, (fun _ => rfl), ck_28⟩ (pq_ac ⟨dk_29, false, (fun h => nomatch h), ck_29⟩ (pq_ac ⟨dk_30, false, (fun h => nomatch h), ck_30⟩ (pq_ac ⟨dk_31, false, (fun h => nomatch h), ck_31⟩ (pq_ac ⟨dk_32, false, (fun h => nomatch h), ck_32⟩ (pq_ac ⟨dk_33, false, (fun h => nomatch h), ck_33⟩ (pq_ac ⟨dk_34, false, (fun h => nomatch h), ck_34⟩ (pq_ac ⟨dk_35, false, (fun h => nomatch h), ck_35⟩ (pq_ac ⟨dk_36, true, (fun _ => rfl), ck_36⟩ (pq_ac ⟨dk_37, false, (fun h => nomatch h), ck_37⟩ (pq_ac ⟨dk_38, false, (fun h => nomatch h), ck_38⟩ (pq_ac ⟨dk_39, false, (fun h => nomatch h), ck_39⟩ (pq_ac ⟨dk_40, false, (fun h => nomatch h), ck_40⟩ (pq_ac ⟨dk_41, false, (fun h => nomatch h), ck_41⟩ (pq_ac ⟨dk_42, false, (fun h => nomatch h), ck_42⟩ (pq_ac ⟨dk_43, false, (fun h => nomatch h), ck_43⟩ (pq_ac ⟨dk_44, false, (fun h => nomatch h), ck_44⟩ (pq_ac ⟨dk_45, true, (fun _ => rfl), ck_45⟩ (pq_ac ⟨dk_46, false, (fun h => nomatch h), ck_46⟩ (pq_ac ⟨dk_47, false, (fun h => nomatch h), ck_47⟩ (pq_ac ⟨dk_48, false, (fun h => nomatch h), ck_48⟩ (pq_ac ⟨dk_49, true, (fun _ => rfl), ck_49⟩ (pq_ac ⟨dk_50, false, (fun h => nomatch h), ck_50⟩ (pq_ac ⟨dk_51, false, (fun h => nomatch h), ck_51⟩ (pq_ac ⟨dk_52, false, (fun h => nomatch h), ck_52⟩ (pq_ac ⟨dk_53, false, (fun h => nomatch h), ck_53⟩ (pq_ac ⟨dk_54, false, (fun h => nomatch h), ck_54⟩ (pq_ac ⟨dk_55, false, (fun h => nomatch h), ck_55⟩ (pq_ac ⟨dk_56, false, (fun h => nomatch h), ck_56⟩ (pq_ac ⟨dk_57, false, (fun h => nomatch h), ck_57⟩ (pq_ac ⟨dk_58, false, (fun h => nomatch h), ck_58⟩ (pq_ac ⟨dk_59, false, (fun h => nomatch h), ck_59⟩ (pq_ac ⟨dk_60, false, (fun h => nomatch h), ck_60⟩ (pq_ac ⟨dk_61, false, (fun h => nomatch h), ck_61⟩ (pq_ac ⟨dk_62, true, (fun _ => rfl), ck_62⟩ (pq_ac ⟨dk_63, false, (fun h => nomatch h), ck_63⟩ (pq_ac ⟨dk_64, false, (fun h => nomatch h), ck_64⟩ (pq_ac ⟨dk_65, false, (fun h => nomatch h), ck_65⟩ (pq_ac ⟨dk_66, false, (fun h => nomatch h), ck_66⟩ (pq_ac ⟨dk_67, false, (fun h => nomatch h), ck_67⟩ (pq_ac ⟨dk_68, false, (fun h => nomatch h), ck_68⟩ (pq_ac ⟨dk_69, false, (fun h => nomatch h), ck_69⟩ (pq_ac ⟨dk_70, false, (fun h => nomatch h), ck_70⟩ (pq_ac ⟨dk_71, false, (fun h => nomatch h), ck_71⟩ (pq_ac ⟨dk_72, false, (fun h => nomatch h), ck_72⟩ (pq_ac ⟨dk_73, false, (fun h => nomatch h), ck_73⟩ (pq_ac ⟨dk_74, false, (fun h => nomatch h), ck_74⟩ (pq_ac ⟨dk_75, false, (fun h => nomatch h), ck_75⟩ (pq_ac ⟨dk_76, false, (fun h => nomatch h), ck_76⟩ (pq_ac ⟨dk_77, false, (fun h => nomatch h), ck_77⟩ (pq_ac ⟨dk_78, false, (fun h => nomatch h), ck_78⟩ (pq_ac ⟨dk_79, false, (fun h => nomatch h), ck_79⟩ (pq_ac ⟨dk_80, false, (fun h => nomatch h), ck_80⟩ (pq_ac ⟨dk_81, false, (fun h => nomatch h), ck_81⟩ (pq_ac ⟨dk_82, false, (fun h => nomatch h), ck_82⟩ (pq_ac ⟨dk_83, false, (fun h => nomatch h), ck_83⟩ (pq_ac ⟨dk_84, false, (fun h => nomatch h), ck_84⟩ (pq_ac ⟨dk_85, false, (fun h => nomatch h), ck_85⟩ (pq_ac ⟨dk_86, false, (fun h => nomatch h), ck_86⟩ (pq_ac ⟨dk_87, false, (fun h => nomatch h), ck_87⟩ (pq_ac ⟨dk_88, false, (fun h => nomatch h), ck_88⟩ (pq_ac ⟨dk_89, false, (fun h => nomatch h), ck_89⟩ (pq_ac ⟨dk_90, false, (fun h => nomatch h), ck_90⟩ (pq_ac ⟨dk_91, false, (fun h => nomatch h), ck_91⟩ (pq_ac ⟨dk_92, false, (fun h => nomatch h), ck_92⟩ (pq_ac ⟨dk_93, false, (fun h => nomatch h), ck_93⟩ (pq_ac ⟨dk_94, false, (fun h => nomatch h), ck_94⟩ (pq_ac ⟨dk_95, false, (fun h => nomatch h), ck_95⟩ (pq_ac ⟨dk_96, false, (fun h => nomatch h), ck_96⟩ (pq_ac ⟨dk_97, false, (fun h => nomatch h), ck_97⟩ (pq_ac ⟨dk_98, false, (fun h => nomatch h), ck_98⟩ (pq_ac ⟨dk_99, false, (fun h => nomatch h), ck_99⟩ (pq_ac ⟨dk_100, true, (fun _ => rfl), ck_100⟩ (pq_ac ⟨dk_101, false, (fun h => nomatch h), ck_101⟩ (pq_ac ⟨dk_102, false, (fun h => nomatch h), ck_102⟩ (pq_ac ⟨dk_103, false, (fun h => nomatch h), ck_103⟩ (pq_ac ⟨dk_104, false, (fun h => nomatch h), ck_104⟩ (pq_ac ⟨dk_105, false, (fun h => nomatch h), ck_105⟩ (pq_ac ⟨dk_106, false, (fun h => nomatch h), ck_106⟩ (pq_ac ⟨dk_107, false, (fun h => nomatch h), ck_107⟩ (pq_ac ⟨dk_108, false, (fun h => nomatch h), ck_108⟩ (pq_ac ⟨dk_109, false, (fun h => nomatch h), ck_109⟩ (pq_ac ⟨dk_110, false, (fun h => nomatch h), ck_110⟩ (pq_ac ⟨dk_111, false, (fun h => nomatch h), ck_111⟩ (pq_ac ⟨dk_112, false, (fun h => nomatch h), ck_112⟩ (pq_ac ⟨dk_113, false, (fun h => nomatch h), ck_113⟩ (pq_ac ⟨dk_114, false, (fun h => nomatch h), ck_114⟩ (pq_ac ⟨dk_115, false, (fun h => nomatch h), ck_115⟩ (pq_ac ⟨dk_116, false, (fun h => nomatch h), ck_116⟩ (pq_ac ⟨dk_117, false, (fun h => nomatch h), ck_117⟩ (pq_ac ⟨dk_118, false, (fun h => nomatch h), ck_118⟩ (pq_ac ⟨dk_119, false, (fun h => nomatch h), ck_119⟩ (pq_ac ⟨dk_120, false, (fun h => nomatch h), ck_120⟩ (pq_ac ⟨dk_121, false, (fun h => nomatch h), ck_121⟩ (pq_ac ⟨dk_122, false, (fun h => nomatch h), ck_122⟩ (pq_ac ⟨dk_123, false, (fun h => nomatch h), ck_123⟩ (pq_ac ⟨dk_124, false, (fun h => nomatch h), ck_124⟩ (pq_ac ⟨dk_125, false, (fun h => nomatch h), ck_125⟩ (pq_ac ⟨dk_126, false, (fun h => nomatch h), ck_126⟩ (pq_ac ⟨dk_127, false, (fun h => nomatch h), ck_127⟩ (pq_ac ⟨dk_128, false, (fun h => nomatch h), ck_128⟩ (pq_ac ⟨dk_129, false, (fun h => nomatch h), ck_129⟩ (pq_ac ⟨dk_130, false, (fun h => nomatch h), ck_130⟩ (pq_ac ⟨dk_131, false, (fun h => nomatch h), ck_131⟩ (pq_ac ⟨dk_132, false, (fun h => nomatch h), ck_132⟩ (pq_ac ⟨dk_133, false, (fun h => nomatch h), ck_133⟩ (pq_ac ⟨dk_134, false, (fun h => nomatch h), ck_134⟩ (pq_ac ⟨dk_135, false, (fun h => nomatch h), ck_135⟩ (pq_ac ⟨dk_136, false, (fun h => nomatch h), ck_136⟩ (pq_ac ⟨dk_137, false, (fun h => nomatch h), ck_137⟩ (pq_ac ⟨dk_138, false, (fun h => nomatch h), ck_138⟩ (pq_ac ⟨dk_139, false, (fun h => nomatch h), ck_139⟩ (pq_ac ⟨dk_140, false, (fun h => nomatch h), ck_140⟩ (pq_ac ⟨dk_141, false, (fun h => nomatch h), ck_141⟩ (pq_ac ⟨dk_142, false, (fun h => nomatch h), ck_142⟩ (pq_ac ⟨dk_143, false, (fun h => nomatch h), ck_143⟩ (pq_ac ⟨dk_144, false, (fun h => nomatch h), ck_144⟩ (pq_ac ⟨dk_145, false, (fun h => nomatch h), ck_145⟩ (pq_ac ⟨dk_146, false, (fun h => nomatch h), ck_146⟩ (pq_ac ⟨dk_147, false, (fun h => nomatch h), ck_147⟩ (pq_ac ⟨dk_148, false, (fun h => nomatch h), ck_148⟩ (pq_ac ⟨dk_149, false, (fun h => nomatch h), ck_149⟩ (pq_ac ⟨dk_150, false, (fun h => nomatch h), ck_150⟩ (pq_ac ⟨dk_151, false, (fun h => nomatch h), ck_151⟩ (pq_ac ⟨dk_152, false, (fun h => nomatch h), ck_152⟩ (pq_ac ⟨dk_153, false, (fun h => nomatch h), ck_153⟩ (pq_ac ⟨dk_154, false, (fun h => nomatch h), ck_154⟩ (pq_ac ⟨dk_155, false, (fun h => nomatch h), ck_155⟩ (pq_ac ⟨dk_156, false, (fun h => nomatch h), ck_156⟩ (pq_an)))))))))))))))))))))))))))))))))))))))))))))))))))))))))))))))))))))))))))))))))))))))))))))))))))))))))))))))))))))))))))))))))))))))))))))))))))))))))))))
theorem pq_tab_at {j : Nat} {ct : List pq_E} {q : pq_Q} (h1 : pq_ctab[j]? = some ct) (h2 : pq_mtab[j]? = some q) : pq_tab1 (ct, q) :=
  pq_tab _ (List.mem_of_getElem? (i := j) (List.getElem?_zip_eq_some.mpr ⟨h1, h2⟩))
theorem pq_find_ok {pc : Nat} {e : pq_E} : ∀ {ct : List pq_E}, pq_find ct pc = some e → e ∈ ct ∧ e.1 = pc := by
  intro ct
  induction ct with
  | nil => intro h; cases h
  | cons a r ih =>
    intro h
    unfold pq_find at h
    split at h
    · rename_i e1; cases h; exact ⟨List.mem_cons_self, e1⟩
    · exact ⟨List.mem_cons_of_mem _ (ih h).1, (ih h).2⟩
theorem pq_fetch_ok {j pc : Nat} {e : pq_E} (h : pq_fetch j pc = some e) : ∃ ct, pq_ctab[j]? = some ct ∧ e ∈ ct ∧ e.1 = pc := by
  unfold pq_fetch at h
  split at h
  · rename_i ct e1; exact ⟨ct, e1, pq_find_ok h⟩
  · cases h
theorem pq_dc_ok {b : ByteArray} {ret : Option FieldType} {e : pq_E} (h : pq_dc b ret e = true) : ∃ len, decode b e.1 = .ok (e.2.1, len) ∧ e.2.2.1 = e.1 + len ∧ (len = pq_len e.2.1 ∨ pq_len e.2.1 = 0) ∧ pq_cb ret e = true := by
  unfold pq_dc at h
  split at h
  · rename_i i n e1
    simp only [Bool.and_eq_true, Bool.or_eq_true, decide_eq_true_eq] at h
    obtain ⟨⟨⟨h1, h2⟩, h3⟩, h4⟩ := h
    subst h1
    exact ⟨n, e1, h2, h3, h4⟩
  · cases h
theorem pq_len0 {i : Instr} (h : pq_len i = 0) : ∃ (a b c : Int) (d : Array Int), i = .tableswitch a b c d := by
  cases i <;> first | exact ⟨_, _, _, _, rfl⟩ | (exfalso; revert h; unfold pq_len; simp)
theorem pq_exec_inl {e : pq_E} {l : pq_L} {st : List Value} {M : pq_M} {c : Nat × pq_L × List Value × pq_M} (h : pq_exec e l st M = some (.inl c)) :
    (∃ q, pq_x1 e.2.1 e.2.2.2.2.2 l st = some q ∧ c = (e.2.2.1, q.1, q.2, M)) ∨ (∃ q, pq_x2 e.2.1 e.2.2.1 e.2.2.2.2.1 st = some q ∧ c = (q.1, l, q.2, M)) ∨ (∃ q, pq_x3 e.2.1 e.2.2.2.2.1 st M = some q ∧ c = (e.2.2.1, l, q.1, q.2)) := by
  obtain ⟨pc, ins, nx, na, lk, v⟩ := e
  simp only [pq_exec] at h
  split at h
  · rename_i q1 q2 e1; cases h; exact Or.inl ⟨(q1, q2), e1, rfl⟩
  · split at h
    · rename_i q1 q2 e1; cases h; exact Or.inr (Or.inl ⟨(q1, q2), e1, rfl⟩)
    · split at h
      · rename_i q1 q2 e1; cases h; exact Or.inr (Or.inr ⟨(q1, q2), e1, rfl⟩)
      · split at h
        · cases h
        · split at h <;> cases h
theorem pq_exec_ret {e : pq_E} {l : pq_L} {st : List Value} {M : pq_M} {r : Option Value} (h : pq_exec e l st M = some (.inr (.inl r))) : pq_x4 e.2.1 e.2.2.2.1 st = some r := by
  obtain ⟨pc, ins, nx, na, lk, v⟩ := e
  simp only [pq_exec] at h
  split at h
  · cases h
  · split at h
    · cases h
    · split at h
      · cases h
      · split at h
        · rename_i e1; cases h; exact e1
        · split at h <;> cases h
theorem pq_exec_call {e : pq_E} {l : pq_L} {st : List Value} {M : pq_M} {q : Nat × List Value × List Value} (h : pq_exec e l st M = some (.inr (.inr q))) : pq_x5 e.2.1 e.2.2.2.1 e.2.2.2.2.1 st M = some q := by
  obtain ⟨pc, ins, nx, na, lk, v⟩ := e
  simp only [pq_exec] at h
  split at h
  · cases h
  · split at h
    · cases h
    · split at h
      · cases h
      · split at h
        · cases h
        · split at h
          · rename_i h1; cases h; exact h1
          · cases h
def pq_gr (M M' : pq_M) : Prop := M.1.length ≤ M'.1.length ∧ pq_tot M.1 ≤ pq_tot M'.1
theorem pq_gr.rf {M : pq_M} : pq_gr M M := ⟨Nat.le_refl _, Nat.le_refl _⟩
theorem pq_gr.tr {M M1 M2 : pq_M} (h : pq_gr M M1) (h2 : pq_gr M1 M2) : pq_gr M M2 := ⟨Nat.le_trans h.1 h2.1, Nat.le_trans h.2 h2.2⟩
theorem pq_gr.eq {M M' : pq_M} (h : M'.1 = M.1) : pq_gr M M' := by unfold pq_gr; rw [h]; exact ⟨Nat.le_refl _, Nat.le_refl _⟩
theorem pq_gr.add {M : pq_M} {sh : pq_S} : pq_gr M (pq_add M sh) := ⟨by rw [pq_add_len]; omega, by rw [pq_tot_add]; omega⟩
set_option maxHeartbeats 4000000 in
theorem pq_x3_gr {ins : Instr} {lk : List (Nat × Nat)} {st st' : List Value} {M M' : pq_M} (h : pq_x3 ins lk st M = some (st', M')) : pq_gr M M' := by
  cases ins
  all_goals try exact pq_nn h
  case putfield idx =>
    simp only [pq_x3] at h
    split at h
    · split at h
      · split at h
        · split at h
          · rename_i M2 h1
            cases h
            obtain ⟨ty, -, hoff, -⟩ := pq_wf_ok (h0 := 0) (b := 0) h1
            exact pq_gr.eq hoff.1
          · cases h
        · cases h
      · cases h
    · cases h
  case invokestatic idx =>
    replace h : pq_sc lk st M = some (st', M') := h
    unfold pq_sc at h
    repeat' split at h
    all_goals first | (cases h; exact pq_gr.rf) | (cases h; exact pq_gr.eq rfl) | cases h
  all_goals (simp only [pq_x3] at h; (repeat' split at h); all_goals first | (cases h; exact pq_gr.rf) | (cases h; exact pq_gr.eq rfl) | (cases h; exact pq_gr.add) | cases h)
theorem pq_loop_gr {call : Nat → List Value → pq_M → Option (Option Value × pq_M)} (hc : ∀ j as M r M', call j as M = some (r, M') → pq_gr M M') :
    ∀ (n j pc : Nat) (lo : pq_L) (st : List Value) (M : pq_M) (r : Option Value) (M' : pq_M), pq_loop call n j pc lo st M = some (r, M') → pq_gr M M' := by
  intro n
  induction n with
  | zero => intro j pc lo st M r M' h; cases h
  | succ n ih =>
    intro j pc lo st M r M' h
    unfold pq_loop at h
    split at h
    · cases h
    · rename_i e he
      split at h
      · cases h
      · rename_i c hex
        have := ih _ _ _ _ _ _ _ h
        rcases pq_exec_inl hex with ⟨q, h1, rfl⟩ | ⟨q, h1, rfl⟩ | ⟨⟨q1, q2⟩, h1, rfl⟩
        · exact this
        · exact this
        · exact (pq_x3_gr h1).tr this
      · cases h; exact pq_gr.rf
      · rename_i c hex
        split at h
        · cases h
        · rename_i q hq
          obtain ⟨q1, q2⟩ := q
          exact (hc _ _ _ _ _ hq).tr (ih _ _ _ _ _ _ _ h)
section PQ7
variable {p : Program} {l : Launch} {e : Env} {R : Room} {s : State} {m : MethodId} {args : Array Value} {below : List Frame} {meth : Method} {c : Code} {Q : State → Prop}
  {cc : ByteArray} {D : va_G} {aC : FieldType → ClassId} {xs : Nat → Int32} {h0 b L nL d j n0 t0 : Nat} {own : String} {ini : Bool} {ret : Option FieldType} {ct : List pq_E}
theorem pq_size {T : State} {H : Heap} {M : pq_M} {locs : List Loc} {slots : Nat} (X : Stand p l e R s m args below meth c T locs (M.1.length - n0) slots) (hT : T.heap = H) (hR : pq_R D aC h0 b L xs M H) (hK : pq_K D aC h0 b L xs s) (hS : va_S (pq_A h0) s.heap H locs)
    (hsz : s.heap.size + 1 = h0 + n0) (hn0 : n0 ≤ M.1.length) : H.size + 1 = h0 + M.1.length := by
  have h1 := X.heapSize
  rw [hT] at h1
  have h2 := hS.1
  have h3 := hK.2.2.2.2.2
  have h4 := hR.1
  by_cases hl : M.1.length = 1
  · omega
  · have h5 := (hR.2.1 _ _ (pq_ws_at (aC := aC) (h0 := h0) (b := b) (q := M.1.length - 1) (by omega) (by omega))).lt
    simp only [pq_ad, if_neg (show ¬ M.1.length - 1 = 0 by omega)] at h5
    omega
set_option maxHeartbeats 4000000 in
theorem pq_sloop {call : Nat → List Value → pq_M → Option (Option Value × pq_M)} (hcall : ∀ j as M r M', call j as M = some (r, M') → pq_Met l D aC h0 b L xs d j as M r M') (hgr : ∀ j as M r M', call j as M = some (r, M') → pq_gr M M')
    (hx : p.tables.exec = Jvm.exec) (hb : c.code = cc) (hml : c.maxLocals = nL) (hts : ∀ w ∈ lw_g, w.before args s = true) (hown : s.vm.findClass own = some m.cls) (hini : ini = true → meth.name = "<init>") (hK : pq_K D aC h0 b L xs s)
    (hct : pq_ctab[j]? = some ct) (hdc : ct.all (pq_dc cc ret) = true) (hok : ∀ e ∈ ct, pq_ok own ini e) (hfr : d + 2 ≤ R.frames) (hlo : 200 * (d + 2) ≤ R.locals) (hsz : s.heap.size + 1 = h0 + n0) :
    ∀ (n pc : Nat) (lo : pq_L) (st : List Value) (M : pq_M) (r : Option Value) (M' : pq_M), pq_loop call n j pc lo st M = some (r, M') → ∀ (H : Heap) (locs : List Loc) (ls : Array Slot), pq_Lr h0 b ls nL lo → pq_R D aC h0 b L xs M H → va_S (pq_A h0) s.heap H locs →
      n0 ≤ M.1.length → t0 ≤ pq_tot M.1 → M'.1.length - n0 ≤ R.cells → pq_tot M'.1 - t0 ≤ R.slots →
      (∀ (pc nx na : Nat) (lk : List (Nat × Nat)) (v : Value) (ls : Array Slot) (H : Heap) (locs : List Loc) (st : List Value) (ins : Instr), pq_x4 ins na st = some r → decode cc pc = .ok (ins, pq_len ins) → pq_cb ret (pc, ins, nx, na, lk, v) = true → pq_R D aC h0 b L xs M' H → va_S (pq_A h0) s.heap H locs →
        W p l e R s m args below meth c H locs (M'.1.length - n0) (pq_tot M'.1 - t0) Q (F0 m pc ls (st.map (pq_rv h0 b)))) →
      W p l e R s m args below meth c H locs (M.1.length - n0) (pq_tot M.1 - t0) Q (F0 m pc ls (st.map (pq_rv h0 b))) := by
  intro n
  induction n with
  | zero => intro pc lo st M r M' h; cases h
  | succ n ih =>
    intro pc lo st M r M' h H locs ls hl hR hS hn0 ht0 hce hsl fin
    unfold pq_loop at h
    split at h
    · cases h
    · rename_i en he
      obtain ⟨ct2, hct2, hmem, hpc⟩ := pq_fetch_ok he
      cases Option.some.inj (hct.symm.trans hct2)
      obtain ⟨len, hd, hnx, hlen, hcb⟩ := pq_dc_ok (List.all_eq_true.mp hdc en hmem)
      have hok1 := hok en hmem
      obtain ⟨pc1, ins, nx, na, lk, v⟩ := en
      dsimp only at hpc hd hnx hlen hcb hok1 he
      subst hpc
      have hls : c.maxLocals = ls.size := by rw [hml]; exact hl.1.symm
      split at h
      · cases h
      · rename_i cf hex
        have hg := pq_loop_gr hgr _ _ _ _ _ _ _ _ h
        rcases pq_exec_inl hex with ⟨⟨q1, q2⟩, h1, rfl⟩ | ⟨⟨q1, q2⟩, h1, rfl⟩ | ⟨⟨q1, q2⟩, h1, rfl⟩
        · have hlen2 : len = pq_len ins := by
            rcases hlen with h2 | h2
            · exact h2
            · obtain ⟨a1, a2, a3, a4, rfl⟩ := pq_len0 h2; exact pq_nn h1
          subst hlen2
          subst hnx
          exact pq_s1 hx hb h1 hd hown hts hok1 hcb hl (fun ls' hl' => ih _ _ _ _ _ _ h H locs ls' hl' hR hS hn0 ht0 hce hsl fin)
        · exact pq_s2 hx hb h1 hd hlen hnx hcb (ih _ _ _ _ _ _ h H locs ls hl hR hS hn0 ht0 hce hsl fin)
        · have hlen2 : len = pq_len ins := by
            rcases hlen with h2 | h2
            · exact h2
            · obtain ⟨a1, a2, a3, a4, rfl⟩ := pq_len0 h2; exact pq_nn h1
          subst hlen2
          subst hnx
          have hg1 := pq_x3_gr h1
          dsimp only at hg
          exact pq_s3 hx hb hls hts hown hini hK hR hS h1 hd hok1 (by omega) (by omega) (Nat.le_trans (Nat.sub_le_sub_right hg.1 _) hce) (Nat.le_trans (Nat.sub_le_sub_right hg.2 _) hsl) hn0 ht0 hsz (fun H1 locs1 hR1 hS1 => ih _ _ _ _ _ _ h H1 locs1 ls hl hR1 hS1 (Nat.le_trans hn0 hg1.1) (Nat.le_trans ht0 hg1.2) hce hsl fin)
      · rename_i r2 hex
        cases h
        have h1 := pq_exec_ret hex
        have hlen2 : len = pq_len ins := by
          rcases hlen with h2 | h2
          · exact h2
          · obtain ⟨a1, a2, a3, a4, rfl⟩ := pq_len0 h2; exact pq_nn h1
        subst hlen2
        exact fin _ nx na lk v ls H locs st ins h1 hd hcb hR hS
      · rename_i cf hex
        obtain ⟨j2, as, rest⟩ := cf
        have h1 := pq_exec_call hex
        split at h
        · cases h
        · rename_i q hq
          obtain ⟨r1, M1⟩ := q
          have hlen2 : len = pq_len ins := by
            rcases hlen with h2 | h2
            · exact h2
            · obtain ⟨a1, a2, a3, a4, rfl⟩ := pq_len0 h2; exact pq_nn h1
          subst hlen2
          subst hnx
          have hg := pq_loop_gr hgr _ _ _ _ _ _ _ _ h
          have hg1 := hgr _ _ _ _ _ hq
          dsimp only at hg hq h
          have e1 : M.1.length - n0 + pq_mc M M1 = M1.1.length - n0 := by unfold pq_mc; have := hg1.1; omega
          have e2 : pq_tot M.1 - t0 + pq_ms M M1 = pq_tot M1.1 - t0 := by unfold pq_ms; have := hg1.2; omega
          intro T hT X
          refine pq_s5 hx hb hls hts hown hK hR hS h1 hd hok1 (hcall _ _ _ _ _ hq) (pq_size X hT hR hK hS hsz hn0) hfr hlo (by rw [e1]; exact Nat.le_trans (Nat.sub_le_sub_right hg.1 _) hce) (by rw [e2]; exact Nat.le_trans (Nat.sub_le_sub_right hg.2 _) hsl) (fun H1 locs1 hR1 hS1 => ?_) T hT X
          rw [e1, e2]
          exact ih _ _ _ _ _ _ h H1 locs1 ls hl hR1 hS1 (Nat.le_trans hn0 hg1.1) (Nat.le_trans ht0 hg1.2) hce hsl fin
end PQ7
