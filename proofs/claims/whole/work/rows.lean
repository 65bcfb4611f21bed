section
-- ===== PART A: goes FIRST, ahead of the names: the tables' words, and 'selects' of the private methods out of them =====
/-- a private method of a class that the tables say can be made, by its rows of tables_1 -/
def lw_okq (q : MethodName × Nat) : Prop := (q.1.cls ≠ "java/lang/invoke/MethodHandle" ∧ q.1.cls ≠ "java/lang/invoke/VarHandle") ∧ Cond.instantiable q.1.cls q.2 ∈ tables_1 ∧ Cond.privateMethod q.1 ∈ tables_1 ∧ Cond.instanceMethod q.1 ∈ tables_1
theorem lw_p0 : lw_okq (⟨"PursuitDesk", "remember", "()V"⟩, 9) := ⟨⟨by decide +kernel, by decide +kernel⟩, List.mem_of_getElem? (i := 14) (by decide +kernel), List.mem_of_getElem? (i := 248) (by decide +kernel), List.mem_of_getElem? (i := 249) (by decide +kernel)⟩
theorem lw_p1 : lw_okq (⟨"PursuitDesk", "dropOldest", "()V"⟩, 9) := ⟨⟨by decide +kernel, by decide +kernel⟩, List.mem_of_getElem? (i := 14) (by decide +kernel), List.mem_of_getElem? (i := 252) (by decide +kernel), List.mem_of_getElem? (i := 253) (by decide +kernel)⟩
theorem lw_p2 : lw_okq (⟨"PursuitDesk", "isNode", "(I)Z"⟩, 9) := ⟨⟨by decide +kernel, by decide +kernel⟩, List.mem_of_getElem? (i := 14) (by decide +kernel), List.mem_of_getElem? (i := 277) (by decide +kernel), List.mem_of_getElem? (i := 278) (by decide +kernel)⟩
theorem lw_p3 : lw_okq (⟨"PursuitDesk", "edgeAt", "(I)J"⟩, 9) := ⟨⟨by decide +kernel, by decide +kernel⟩, List.mem_of_getElem? (i := 14) (by decide +kernel), List.mem_of_getElem? (i := 304) (by decide +kernel), List.mem_of_getElem? (i := 305) (by decide +kernel)⟩
theorem lw_p4 : lw_okq (⟨"PursuitDesk", "textEdges", "()J"⟩, 9) := ⟨⟨by decide +kernel, by decide +kernel⟩, List.mem_of_getElem? (i := 14) (by decide +kernel), List.mem_of_getElem? (i := 308) (by decide +kernel), List.mem_of_getElem? (i := 309) (by decide +kernel)⟩
theorem lw_p5 : lw_okq (⟨"PursuitDesk$Evader", "standAt", "(II)V"⟩, 7) := ⟨⟨by decide +kernel, by decide +kernel⟩, List.mem_of_getElem? (i := 50) (by decide +kernel), List.mem_of_getElem? (i := 346) (by decide +kernel), List.mem_of_getElem? (i := 347) (by decide +kernel)⟩
theorem lw_p6 : lw_okq (⟨"PursuitDesk", "isSearcher", "(I)Z"⟩, 9) := ⟨⟨by decide +kernel, by decide +kernel⟩, List.mem_of_getElem? (i := 14) (by decide +kernel), List.mem_of_getElem? (i := 359) (by decide +kernel), List.mem_of_getElem? (i := 360) (by decide +kernel)⟩
theorem lw_p7 : lw_okq (⟨"PursuitDesk", "knowPlan", "()V"⟩, 9) := ⟨⟨by decide +kernel, by decide +kernel⟩, List.mem_of_getElem? (i := 14) (by decide +kernel), List.mem_of_getElem? (i := 503) (by decide +kernel), List.mem_of_getElem? (i := 504) (by decide +kernel)⟩
theorem lw_p8 : lw_okq (⟨"PursuitDesk$MoveSearch", "expandAllAtPrice", "()Z"⟩, 7) := ⟨⟨by decide +kernel, by decide +kernel⟩, List.mem_of_getElem? (i := 171) (by decide +kernel), List.mem_of_getElem? (i := 613) (by decide +kernel), List.mem_of_getElem? (i := 614) (by decide +kernel)⟩
theorem lw_p9 : lw_okq (⟨"PursuitDesk", "turnsFromBestStart", "(I)I"⟩, 9) := ⟨⟨by decide +kernel, by decide +kernel⟩, List.mem_of_getElem? (i := 14) (by decide +kernel), List.mem_of_getElem? (i := 632) (by decide +kernel), List.mem_of_getElem? (i := 633) (by decide +kernel)⟩
theorem lw_p10 : lw_okq (⟨"PursuitDesk$TurnSearch", "enterStart", "(I)V"⟩, 9) := ⟨⟨by decide +kernel, by decide +kernel⟩, List.mem_of_getElem? (i := 127) (by decide +kernel), List.mem_of_getElem? (i := 643) (by decide +kernel), List.mem_of_getElem? (i := 644) (by decide +kernel)⟩
theorem lw_p11 : lw_okq (⟨"PursuitDeskModel", "begins", "()V"⟩, 12) := ⟨⟨by decide +kernel, by decide +kernel⟩, List.mem_of_getElem? (i := 660) (by decide +kernel), List.mem_of_getElem? (i := 667) (by decide +kernel), List.mem_of_getElem? (i := 668) (by decide +kernel)⟩
theorem lw_p12 : lw_okq (⟨"PursuitDeskModel", "all", "()I"⟩, 12) := ⟨⟨by decide +kernel, by decide +kernel⟩, List.mem_of_getElem? (i := 660) (by decide +kernel), List.mem_of_getElem? (i := 671) (by decide +kernel), List.mem_of_getElem? (i := 672) (by decide +kernel)⟩
theorem lw_p13 : lw_okq (⟨"PursuitDeskModel", "records", "()V"⟩, 12) := ⟨⟨by decide +kernel, by decide +kernel⟩, List.mem_of_getElem? (i := 660) (by decide +kernel), List.mem_of_getElem? (i := 719) (by decide +kernel), List.mem_of_getElem? (i := 720) (by decide +kernel)⟩
theorem lw_p14 : lw_okq (⟨"PursuitDeskModel", "isNode", "(I)Z"⟩, 12) := ⟨⟨by decide +kernel, by decide +kernel⟩, List.mem_of_getElem? (i := 660) (by decide +kernel), List.mem_of_getElem? (i := 727) (by decide +kernel), List.mem_of_getElem? (i := 728) (by decide +kernel)⟩
theorem lw_p15 : lw_okq (⟨"PursuitDeskModel", "joins", "(III)V"⟩, 12) := ⟨⟨by decide +kernel, by decide +kernel⟩, List.mem_of_getElem? (i := 660) (by decide +kernel), List.mem_of_getElem? (i := 731) (by decide +kernel), List.mem_of_getElem? (i := 732) (by decide +kernel)⟩
def lw_privs_1 : List (MethodName × Nat) := [(⟨"PursuitDesk", "remember", "()V"⟩, 9), (⟨"PursuitDesk", "dropOldest", "()V"⟩, 9), (⟨"PursuitDesk", "isNode", "(I)Z"⟩, 9), (⟨"PursuitDesk", "edgeAt", "(I)J"⟩, 9), (⟨"PursuitDesk", "textEdges", "()J"⟩, 9), (⟨"PursuitDesk$Evader", "standAt", "(II)V"⟩, 7), (⟨"PursuitDesk", "isSearcher", "(I)Z"⟩, 9), (⟨"PursuitDesk", "knowPlan", "()V"⟩, 9), (⟨"PursuitDesk$MoveSearch", "expandAllAtPrice", "()Z"⟩, 7), (⟨"PursuitDesk", "turnsFromBestStart", "(I)I"⟩, 9), (⟨"PursuitDesk$TurnSearch", "enterStart", "(I)V"⟩, 9), (⟨"PursuitDeskModel", "begins", "()V"⟩, 12), (⟨"PursuitDeskModel", "all", "()I"⟩, 12), (⟨"PursuitDeskModel", "records", "()V"⟩, 12), (⟨"PursuitDeskModel", "isNode", "(I)Z"⟩, 12), (⟨"PursuitDeskModel", "joins", "(III)V"⟩, 12)]
theorem lw_r1 : ∀ q ∈ lw_privs_1, lw_okq q := List.forall_mem_cons.mpr ⟨lw_p0, List.forall_mem_cons.mpr ⟨lw_p1, List.forall_mem_cons.mpr ⟨lw_p2, List.forall_mem_cons.mpr ⟨lw_p3, List.forall_mem_cons.mpr ⟨lw_p4, List.forall_mem_cons.mpr ⟨lw_p5, List.forall_mem_cons.mpr ⟨lw_p6, List.forall_mem_cons.mpr ⟨lw_p7, List.forall_mem_cons.mpr ⟨lw_p8, List.forall_mem_cons.mpr ⟨lw_p9, List.forall_mem_cons.mpr ⟨lw_p10, List.forall_mem_cons.mpr ⟨lw_p11, List.forall_mem_cons.mpr ⟨lw_p12, List.forall_mem_cons.mpr ⟨lw_p13, List.forall_mem_cons.mpr ⟨lw_p14, List.forall_mem_cons.mpr ⟨lw_p15, fun _ h => absurd h List.not_mem_nil⟩⟩⟩⟩⟩⟩⟩⟩⟩⟩⟩⟩⟩⟩⟩⟩
theorem lw_p16 : lw_okq (⟨"PursuitDeskModel", "isWay", "(II)Z"⟩, 12) := ⟨⟨by decide +kernel, by decide +kernel⟩, List.mem_of_getElem? (i := 660) (by decide +kernel), List.mem_of_getElem? (i := 735) (by decide +kernel), List.mem_of_getElem? (i := 736) (by decide +kernel)⟩
theorem lw_p17 : lw_okq (⟨"PursuitDeskModel", "last", "()I"⟩, 12) := ⟨⟨by decide +kernel, by decide +kernel⟩, List.mem_of_getElem? (i := 660) (by decide +kernel), List.mem_of_getElem? (i := 743) (by decide +kernel), List.mem_of_getElem? (i := 744) (by decide +kernel)⟩
theorem lw_p18 : lw_okq (⟨"PursuitDeskModel", "isSearcher", "(I)Z"⟩, 12) := ⟨⟨by decide +kernel, by decide +kernel⟩, List.mem_of_getElem? (i := 660) (by decide +kernel), List.mem_of_getElem? (i := 755) (by decide +kernel), List.mem_of_getElem? (i := 756) (by decide +kernel)⟩
theorem lw_p19 : lw_okq (⟨"PursuitDeskModel", "keptAt", "(I)I"⟩, 12) := ⟨⟨by decide +kernel, by decide +kernel⟩, List.mem_of_getElem? (i := 660) (by decide +kernel), List.mem_of_getElem? (i := 771) (by decide +kernel), List.mem_of_getElem? (i := 772) (by decide +kernel)⟩
theorem lw_p20 : lw_okq (⟨"PursuitDeskModel", "news", "(II)V"⟩, 12) := ⟨⟨by decide +kernel, by decide +kernel⟩, List.mem_of_getElem? (i := 660) (by decide +kernel), List.mem_of_getElem? (i := 779) (by decide +kernel), List.mem_of_getElem? (i := 780) (by decide +kernel)⟩
theorem lw_p21 : lw_okq (⟨"PursuitDeskModel", "step", "(II)I"⟩, 12) := ⟨⟨by decide +kernel, by decide +kernel⟩, List.mem_of_getElem? (i := 660) (by decide +kernel), List.mem_of_getElem? (i := 783) (by decide +kernel), List.mem_of_getElem? (i := 784) (by decide +kernel)⟩
theorem lw_p22 : lw_okq (⟨"PursuitDeskModel", "looks", "()V"⟩, 12) := ⟨⟨by decide +kernel, by decide +kernel⟩, List.mem_of_getElem? (i := 660) (by decide +kernel), List.mem_of_getElem? (i := 792) (by decide +kernel), List.mem_of_getElem? (i := 793) (by decide +kernel)⟩
theorem lw_p23 : lw_okq (⟨"PursuitDeskModel", "flees", "()V"⟩, 12) := ⟨⟨by decide +kernel, by decide +kernel⟩, List.mem_of_getElem? (i := 660) (by decide +kernel), List.mem_of_getElem? (i := 796) (by decide +kernel), List.mem_of_getElem? (i := 797) (by decide +kernel)⟩
theorem lw_p24 : lw_okq (⟨"PursuitDeskModel", "makesRoom", "()V"⟩, 12) := ⟨⟨by decide +kernel, by decide +kernel⟩, List.mem_of_getElem? (i := 660) (by decide +kernel), List.mem_of_getElem? (i := 800) (by decide +kernel), List.mem_of_getElem? (i := 801) (by decide +kernel)⟩
theorem lw_p25 : lw_okq (⟨"PursuitDeskModel", "edges", "()I"⟩, 12) := ⟨⟨by decide +kernel, by decide +kernel⟩, List.mem_of_getElem? (i := 660) (by decide +kernel), List.mem_of_getElem? (i := 812) (by decide +kernel), List.mem_of_getElem? (i := 813) (by decide +kernel)⟩
theorem lw_p26 : lw_okq (⟨"PursuitDeskModel", "plan", "()I"⟩, 12) := ⟨⟨by decide +kernel, by decide +kernel⟩, List.mem_of_getElem? (i := 660) (by decide +kernel), List.mem_of_getElem? (i := 852) (by decide +kernel), List.mem_of_getElem? (i := 853) (by decide +kernel)⟩
theorem lw_p27 : lw_okq (⟨"PursuitDeskModel", "clears", "()V"⟩, 12) := ⟨⟨by decide +kernel, by decide +kernel⟩, List.mem_of_getElem? (i := 660) (by decide +kernel), List.mem_of_getElem? (i := 856) (by decide +kernel), List.mem_of_getElem? (i := 857) (by decide +kernel)⟩
theorem lw_p28 : lw_okq (⟨"PursuitDeskModel", "now", "()I"⟩, 12) := ⟨⟨by decide +kernel, by decide +kernel⟩, List.mem_of_getElem? (i := 660) (by decide +kernel), List.mem_of_getElem? (i := 860) (by decide +kernel), List.mem_of_getElem? (i := 861) (by decide +kernel)⟩
theorem lw_p29 : lw_okq (⟨"PursuitDeskModel", "searches", "(II)I"⟩, 12) := ⟨⟨by decide +kernel, by decide +kernel⟩, List.mem_of_getElem? (i := 660) (by decide +kernel), List.mem_of_getElem? (i := 867) (by decide +kernel), List.mem_of_getElem? (i := 868) (by decide +kernel)⟩
theorem lw_p30 : lw_okq (⟨"PursuitDeskModel", "moved", "(III)I"⟩, 12) := ⟨⟨by decide +kernel, by decide +kernel⟩, List.mem_of_getElem? (i := 660) (by decide +kernel), List.mem_of_getElem? (i := 874) (by decide +kernel), List.mem_of_getElem? (i := 875) (by decide +kernel)⟩
theorem lw_p31 : lw_okq (⟨"PursuitDeskModel", "turnsOf", "(I)I"⟩, 12) := ⟨⟨by decide +kernel, by decide +kernel⟩, List.mem_of_getElem? (i := 660) (by decide +kernel), List.mem_of_getElem? (i := 893) (by decide +kernel), List.mem_of_getElem? (i := 894) (by decide +kernel)⟩
def lw_privs_2 : List (MethodName × Nat) := [(⟨"PursuitDeskModel", "isWay", "(II)Z"⟩, 12), (⟨"PursuitDeskModel", "last", "()I"⟩, 12), (⟨"PursuitDeskModel", "isSearcher", "(I)Z"⟩, 12), (⟨"PursuitDeskModel", "keptAt", "(I)I"⟩, 12), (⟨"PursuitDeskModel", "news", "(II)V"⟩, 12), (⟨"PursuitDeskModel", "step", "(II)I"⟩, 12), (⟨"PursuitDeskModel", "looks", "()V"⟩, 12), (⟨"PursuitDeskModel", "flees", "()V"⟩, 12), (⟨"PursuitDeskModel", "makesRoom", "()V"⟩, 12), (⟨"PursuitDeskModel", "edges", "()I"⟩, 12), (⟨"PursuitDeskModel", "plan", "()I"⟩, 12), (⟨"PursuitDeskModel", "clears", "()V"⟩, 12), (⟨"PursuitDeskModel", "now", "()I"⟩, 12), (⟨"PursuitDeskModel", "searches", "(II)I"⟩, 12), (⟨"PursuitDeskModel", "moved", "(III)I"⟩, 12), (⟨"PursuitDeskModel", "turnsOf", "(I)I"⟩, 12)]
theorem lw_r2 : ∀ q ∈ lw_privs_2, lw_okq q := List.forall_mem_cons.mpr ⟨lw_p16, List.forall_mem_cons.mpr ⟨lw_p17, List.forall_mem_cons.mpr ⟨lw_p18, List.forall_mem_cons.mpr ⟨lw_p19, List.forall_mem_cons.mpr ⟨lw_p20, List.forall_mem_cons.mpr ⟨lw_p21, List.forall_mem_cons.mpr ⟨lw_p22, List.forall_mem_cons.mpr ⟨lw_p23, List.forall_mem_cons.mpr ⟨lw_p24, List.forall_mem_cons.mpr ⟨lw_p25, List.forall_mem_cons.mpr ⟨lw_p26, List.forall_mem_cons.mpr ⟨lw_p27, List.forall_mem_cons.mpr ⟨lw_p28, List.forall_mem_cons.mpr ⟨lw_p29, List.forall_mem_cons.mpr ⟨lw_p30, List.forall_mem_cons.mpr ⟨lw_p31, fun _ h => absurd h List.not_mem_nil⟩⟩⟩⟩⟩⟩⟩⟩⟩⟩⟩⟩⟩⟩⟩⟩
theorem lw_p32 : lw_okq (⟨"PursuitDeskModel", "letter", "(I)I"⟩, 12) := ⟨⟨by decide +kernel, by decide +kernel⟩, List.mem_of_getElem? (i := 660) (by decide +kernel), List.mem_of_getElem? (i := 913) (by decide +kernel), List.mem_of_getElem? (i := 914) (by decide +kernel)⟩
def lw_privs_3 : List (MethodName × Nat) := [(⟨"PursuitDeskModel", "letter", "(I)I"⟩, 12)]
theorem lw_r3 : ∀ q ∈ lw_privs_3, lw_okq q := List.forall_mem_cons.mpr ⟨lw_p32, fun _ h => absurd h List.not_mem_nil⟩
def lw_privs : List (MethodName × Nat) := lw_privs_1 ++ (lw_privs_2 ++ (lw_privs_3))
def lw_tbl : List Cond := k2_sels lw_privs ++ tables_1
theorem lw_privs_ok : ∀ q ∈ lw_privs, lw_okq q := by
  show ∀ q ∈ lw_privs_1 ++ (lw_privs_2 ++ (lw_privs_3)), lw_okq q
  exact List.forall_mem_append.mpr ⟨lw_r1, List.forall_mem_append.mpr ⟨lw_r2, lw_r3⟩⟩
end
section
def pT0 : u_T := fun k => match k with
  | 0 => ("PursuitDesk$Beliefs", "sets", "[I", true)
  | 1 => ("PursuitDesk$Beliefs", "waysInto", "[J", true)
  | 2 => ("PursuitDesk$Beliefs", "last", "I", false)
  | _ => ("PursuitDesk$Beliefs", "kept", "I", false)
def pt0 : Nat → FieldType := fun k => match k with
  | 0 => .array .int
  | 1 => .array .long
  | 2 => .int
  | _ => .int
theorem pn0 : ∀ a, a < 4 → ∀ b, b < 4 → a ≠ b → (pT0 a).2.1 ≠ (pT0 b).2.1 := by decide +kernel
theorem po0 : ∀ k, k < 4 → parseFieldDescriptor (pT0 k).2.2.1 = some (pt0 k) := by decide +kernel
def pT1 : u_T := fun k => match k with
  | 0 => ("PursuitDesk$Evader", "there", "Z", false)
  | 1 => ("PursuitDesk$Evader", "node", "I", false)
  | 2 => ("PursuitDesk$Evader", "aim", "I", false)
  | 3 => ("PursuitDesk$Evader", "caught", "Z", false)
  | 4 => ("PursuitDesk$Evader", "caughtAt", "I", false)
  | 5 => ("PursuitDesk$Evader", "hiddenAt", "I", false)
  | _ => ("PursuitDesk$Evader", "trail", "[I", true)
def pt1 : Nat → FieldType := fun k => match k with
  | 0 => .boolean
  | 1 => .int
  | 2 => .int
  | 3 => .boolean
  | 4 => .int
  | 5 => .int
  | _ => .array .int
theorem pn1 : ∀ a, a < 7 → ∀ b, b < 7 → a ≠ b → (pT1 a).2.1 ≠ (pT1 b).2.1 := by decide +kernel
theorem po1 : ∀ k, k < 7 → parseFieldDescriptor (pT1 k).2.2.1 = some (pt1 k) := by decide +kernel
def pT2 : u_T := fun k => match k with
  | 0 => ("PursuitDesk$Search", "nodes", "I", false)
  | 1 => ("PursuitDesk$Search", "paths", "J", false)
  | 2 => ("PursuitDesk$Search", "searchers", "I", false)
  | 3 => ("PursuitDesk$Search", "at", "[I", true)
  | 4 => ("PursuitDesk$MoveSearch", "prices", "[I", true)
  | 5 => ("PursuitDesk$MoveSearch", "price", "I", false)
  | _ => ("PursuitDesk$MoveSearch", "highest", "I", false)
def pt2 : Nat → FieldType := fun k => match k with
  | 0 => .int
  | 1 => .long
  | 2 => .int
  | 3 => .array .int
  | 4 => .array .int
  | 5 => .int
  | _ => .int
theorem pn2 : ∀ a, a < 7 → ∀ b, b < 7 → a ≠ b → (pT2 a).2.1 ≠ (pT2 b).2.1 := by decide +kernel
theorem po2 : ∀ k, k < 7 → parseFieldDescriptor (pT2 k).2.2.1 = some (pt2 k) := by decide +kernel
def pT3 : u_T := fun k => match k with
  | 0 => ("PursuitDesk$State", "nodes", "I", false)
  | 1 => ("PursuitDesk$State", "paths", "J", false)
  | 2 => ("PursuitDesk$State", "searchers", "I", false)
  | 3 => ("PursuitDesk$State", "at", "[I", true)
  | 4 => ("PursuitDesk$State", "aim", "[I", true)
  | 5 => ("PursuitDesk$State", "turn", "I", false)
  | 6 => ("PursuitDesk$State", "period", "I", false)
  | 7 => ("PursuitDesk$State", "delay", "I", false)
  | 8 => ("PursuitDesk$State", "beliefs", "LPursuitDesk$Beliefs;", true)
  | _ => ("PursuitDesk$State", "evader", "LPursuitDesk$Evader;", true)
def pt3 : Nat → FieldType := fun k => match k with
  | 0 => .int
  | 1 => .long
  | 2 => .int
  | 3 => .array .int
  | 4 => .array .int
  | 5 => .int
  | 6 => .int
  | 7 => .int
  | 8 => .object "PursuitDesk$Beliefs"
  | _ => .object "PursuitDesk$Evader"
theorem pn3 : ∀ a, a < 10 → ∀ b, b < 10 → a ≠ b → (pT3 a).2.1 ≠ (pT3 b).2.1 := by decide +kernel
theorem po3 : ∀ k, k < 10 → parseFieldDescriptor (pT3 k).2.2.1 = some (pt3 k) := by decide +kernel
def pT4 : u_T := fun k => match k with
  | 0 => ("PursuitDesk$Search", "nodes", "I", false)
  | 1 => ("PursuitDesk$Search", "paths", "J", false)
  | 2 => ("PursuitDesk$Search", "searchers", "I", false)
  | 3 => ("PursuitDesk$Search", "at", "[I", true)
  | 4 => ("PursuitDesk$TurnSearch", "cameFrom", "[I", true)
  | 5 => ("PursuitDesk$TurnSearch", "queue", "[I", true)
  | 6 => ("PursuitDesk$TurnSearch", "entered", "I", false)
  | 7 => ("PursuitDesk$TurnSearch", "here", "I", false)
  | _ => ("PursuitDesk$TurnSearch", "end", "I", false)
def pt4 : Nat → FieldType := fun k => match k with
  | 0 => .int
  | 1 => .long
  | 2 => .int
  | 3 => .array .int
  | 4 => .array .int
  | 5 => .array .int
  | 6 => .int
  | 7 => .int
  | _ => .int
theorem pn4 : ∀ a, a < 9 → ∀ b, b < 9 → a ≠ b → (pT4 a).2.1 ≠ (pT4 b).2.1 := by decide +kernel
theorem po4 : ∀ k, k < 9 → parseFieldDescriptor (pT4 k).2.2.1 = some (pt4 k) := by decide +kernel
def pT5 : u_T := fun k => match k with
  | 0 => ("PursuitDesk", "now", "LPursuitDesk$State;", true)
  | 1 => ("PursuitDesk", "history", "[LPursuitDesk$State;", true)
  | 2 => ("PursuitDesk", "recorded", "I", false)
  | 3 => ("PursuitDesk", "text", "[C", true)
  | 4 => ("PursuitDesk", "textLength", "I", false)
  | 5 => ("PursuitDesk", "plan", "LPursuitDesk$TurnSearch;", true)
  | 6 => ("PursuitDesk", "planIsKnown", "Z", false)
  | 7 => ("PursuitDesk", "bestStart", "LPursuitDesk$TurnSearch;", true)
  | _ => ("PursuitDesk", "cheapest", "LPursuitDesk$MoveSearch;", true)
def pt5 : Nat → FieldType := fun k => match k with
  | 0 => .object "PursuitDesk$State"
  | 1 => .array (.object "PursuitDesk$State")
  | 2 => .int
  | 3 => .array .char
  | 4 => .int
  | 5 => .object "PursuitDesk$TurnSearch"
  | 6 => .boolean
  | 7 => .object "PursuitDesk$TurnSearch"
  | _ => .object "PursuitDesk$MoveSearch"
theorem pn5 : ∀ a, a < 9 → ∀ b, b < 9 → a ≠ b → (pT5 a).2.1 ≠ (pT5 b).2.1 := by decide +kernel
theorem po5 : ∀ k, k < 9 → parseFieldDescriptor (pT5 k).2.2.1 = some (pt5 k) := by decide +kernel
def pT6 : u_T := fun k => match k with
  | 0 => ("PursuitDeskModel", "d", "[I", true)
  | 1 => ("PursuitDeskModel", "was", "[I", true)
  | 2 => ("PursuitDeskModel", "states", "I", false)
  | 3 => ("PursuitDeskModel", "text", "[C", true)
  | 4 => ("PursuitDeskModel", "typed", "I", false)
  | 5 => ("PursuitDeskModel", "from", "[I", true)
  | 6 => ("PursuitDeskModel", "to", "[I", true)
  | 7 => ("PursuitDeskModel", "near", "[I", true)
  | 8 => ("PursuitDeskModel", "best", "[I", true)
  | 9 => ("PursuitDeskModel", "parent", "[I", true)
  | 10 => ("PursuitDeskModel", "queue", "[I", true)
  | _ => ("PursuitDeskModel", "seen", "[I", true)
def pt6 : Nat → FieldType := fun k => match k with
  | 0 => .array .int
  | 1 => .array .int
  | 2 => .int
  | 3 => .array .char
  | 4 => .int
  | 5 => .array .int
  | 6 => .array .int
  | 7 => .array .int
  | 8 => .array .int
  | 9 => .array .int
  | 10 => .array .int
  | _ => .array .int
theorem pn6 : ∀ a, a < 12 → ∀ b, b < 12 → a ≠ b → (pT6 a).2.1 ≠ (pT6 b).2.1 := by decide +kernel
theorem po6 : ∀ k, k < 12 → parseFieldDescriptor (pT6 k).2.2.1 = some (pt6 k) := by decide +kernel
def pq_cl : List vw_C := [("PursuitDesk$Beliefs", pT0, 4), ("PursuitDesk$Evader", pT1, 7), ("PursuitDesk$MoveSearch", pT2, 7), ("PursuitDesk$State", pT3, 10), ("PursuitDesk$TurnSearch", pT4, 9), ("PursuitDesk", pT5, 9), ("PursuitDeskModel", pT6, 12)]
def pq_cn : List String := ["PursuitDesk$Beliefs", "PursuitDesk$Evader", "PursuitDesk$MoveSearch", "PursuitDesk$State", "PursuitDesk$TurnSearch", "PursuitDesk", "PursuitDeskModel"]
def pq_ft : List (List FieldType) := [[.array .int, .array .long, .int, .int], [.boolean, .int, .int, .boolean, .int, .int, .array .int], [.int, .long, .int, .array .int, .array .int, .int, .int], [.int, .long, .int, .array .int, .array .int, .int, .int, .int, .object "PursuitDesk$Beliefs", .object "PursuitDesk$Evader"], [.int, .long, .int, .array .int, .array .int, .array .int, .int, .int, .int], [.object "PursuitDesk$State", .array (.object "PursuitDesk$State"), .int, .array .char, .int, .object "PursuitDesk$TurnSearch", .boolean, .object "PursuitDesk$TurnSearch", .object "PursuitDesk$MoveSearch"], [.array .int, .array .int, .int, .array .char, .int, .array .int, .array .int, .array .int, .array .int, .array .int, .array .int, .array .int]]
def pq_nest : List Cond := [(Jvm.Cond.methodLinkNest "PursuitDesk" (9 : Nat) ({ cls := "PursuitDesk$State", name := "<init>", desc := "()V" } : MethodName) "PursuitDesk"), (Jvm.Cond.methodLinkNest "PursuitDesk$State" (20 : Nat) ({ cls := "PursuitDesk$Beliefs", name := "<init>", desc := "()V" } : MethodName) "PursuitDesk"), (Jvm.Cond.methodLinkNest "PursuitDesk$State" (27 : Nat) ({ cls := "PursuitDesk$Evader", name := "<init>", desc := "()V" } : MethodName) "PursuitDesk"), (Jvm.Cond.methodLinkNest "PursuitDesk" (26 : Nat) ({ cls := "PursuitDesk$TurnSearch", name := "<init>", desc := "()V" } : MethodName) "PursuitDesk"), (Jvm.Cond.methodLinkNest "PursuitDesk$TurnSearch" (3 : Nat) ({ cls := "PursuitDesk$Search", name := "<init>", desc := "()V" } : MethodName) "PursuitDesk"), (Jvm.Cond.methodLinkNest "PursuitDesk" (36 : Nat) ({ cls := "PursuitDesk$MoveSearch", name := "<init>", desc := "()V" } : MethodName) "PursuitDesk"), (Jvm.Cond.methodLinkNest "PursuitDesk$MoveSearch" (5 : Nat) ({ cls := "PursuitDesk$Search", name := "<init>", desc := "()V" } : MethodName) "PursuitDesk"), (Jvm.Cond.declares ({ cls := "PursuitDesk$Search", name := "prepare", desc := "(IJI)V" } : MethodName)), (Jvm.Cond.declares ({ cls := "PursuitDesk$Search", name := "clear", desc := "([I)V" } : MethodName)), (Jvm.Cond.declares ({ cls := "PursuitDesk$Search", name := "numberOf", desc := "([II)I" } : MethodName)), (Jvm.Cond.declares ({ cls := "PursuitDesk$Search", name := "expand", desc := "(I)V" } : MethodName)), (Jvm.Cond.declares ({ cls := "PursuitDesk$Search", name := "arrive", desc := "(II)V" } : MethodName)), (Jvm.Cond.declares ({ cls := "PursuitDesk$Search", name := "placeSearchers", desc := "(I)V" } : MethodName)), (Jvm.Cond.declares ({ cls := "PursuitDesk$Search", name := "bound", desc := "()I" } : MethodName))]
end
section
/-! A small machine of my own: places instead of addresses, the contents of all cells in three functions. -/
abbrev pq_S : Type := (FieldType × Nat) ⊕ Nat
abbrev pq_M : Type := List pq_S × (Nat → Nat → Int32) × (Nat → Nat → Int64) × (Nat → Nat → Option Nat)
/-- pc, instruction, the pc behind it, a number (arguments of a call, kind of a return), links, a constant -/
abbrev pq_E : Type := Nat × Instr × Nat × Nat × List (Nat × Nat) × Value
abbrev pq_L : Type := List (Option Value)
/-- next: pc, locals, stack, memory; or the end with its answer; or a call: method, arguments, the stack below -/
abbrev pq_O : Type := (Nat × pq_L × List Value × pq_M) ⊕ (Option Value ⊕ (Nat × List Value × List Value))
def pq_u {α : Type} (f : Nat → Nat → α) (p k : Nat) (x : α) : Nat → Nat → α := fun q j => if q = p ∧ j = k then x else f q j
def pq_blank {α : Type} (f : Nat → Nat → α) (p : Nat) (x : α) : Nat → Nat → α := fun q j => if q = p then x else f q j
def pq_cpy {α : Type} (f : Nat → Nat → α) (a sp b dp n : Nat) : Nat → Nat → α := fun q j => if q = b ∧ dp ≤ j ∧ j < dp + n then f a (sp + (j - dp)) else f q j
def pq_ld (l : pq_L) (i : Nat) : Option Value := match l[i]? with
  | some (some v) => some v
  | _ => none
/-- a long that ends at i is lost when i is stored -/
def pq_cut (l : pq_L) (i : Nat) : pq_L := match i with
  | 0 => l
  | k + 1 => match l[k]? with
    | some (some (.long _)) => l.set k none
    | some (some (.double _)) => l.set k none
    | _ => l
/-- like set, but built up cell by cell -/
def pq_put0 : pq_L → Nat → Option Value → Option pq_L
  | [], _, _ => none
  | _ :: r, 0, v => some (v :: r)
  | a :: r, i + 1, v => match pq_put0 r i v with
    | some r' => some (a :: r')
    | none => none
def pq_cut0 (l : pq_L) (i : Nat) : Option pq_L := match i with
  | 0 => some l
  | k + 1 => match l[k]? with
    | some (some (.long _)) => pq_put0 l k none
    | some (some (.double _)) => pq_put0 l k none
    | _ => some l
def pq_st1 (l : pq_L) (i : Nat) (v : Value) : Option pq_L := match pq_cut0 l i with
  | some l1 => pq_put0 l1 i (some v)
  | none => none
def pq_st2 (l : pq_L) (i : Nat) (v : Value) : Option pq_L := match pq_cut0 l i with
  | some l1 => match pq_put0 l1 i (some v) with
    | some l2 => pq_put0 l2 (i + 1) none
    | none => none
  | none => none
/-! the stack's top -/
def pq_i1 (st : List Value) : Option (Int32 × List Value) := match st with
  | .int x :: r => some (x, r)
  | _ => none
def pq_i2 (st : List Value) : Option (Int32 × Int32 × List Value) := match st with
  | .int y :: .int x :: r => some (x, y, r)
  | _ => none
def pq_l1 (st : List Value) : Option (Int64 × List Value) := match st with
  | .long x :: r => some (x, r)
  | _ => none
def pq_l2 (st : List Value) : Option (Int64 × Int64 × List Value) := match st with
  | .long y :: .long x :: r => some (x, y, r)
  | _ => none
def pq_li (st : List Value) : Option (Int64 × Int32 × List Value) := match st with
  | .int y :: .long x :: r => some (x, y, r)
  | _ => none
def pq_a1 (st : List Value) : Option (Nat × List Value) := match st with
  | .ref x :: r => some (x, r)
  | _ => none
def pq_ai (st : List Value) : Option (Nat × Int32 × List Value) := match st with
  | .int i :: .ref x :: r => some (x, i, r)
  | _ => none
/-! loads and stores of locals -/
def pq_il (l : pq_L) (i : Nat) (st : List Value) : Option (pq_L × List Value) := match pq_ld l i with
  | some (.int x) => some (l, .int x :: st)
  | _ => none
def pq_ll (l : pq_L) (i : Nat) (st : List Value) : Option (pq_L × List Value) := match pq_ld l i with
  | some (.long x) => some (l, .long x :: st)
  | _ => none
def pq_al (l : pq_L) (i : Nat) (st : List Value) : Option (pq_L × List Value) := match pq_ld l i with
  | some (.ref x) => some (l, .ref x :: st)
  | _ => none
def pq_is (l : pq_L) (i : Nat) (st : List Value) : Option (pq_L × List Value) := match st with
  | .int x :: r => match pq_st1 l i (.int x) with
    | some l' => some (l', r)
    | none => none
  | _ => none
def pq_as (l : pq_L) (i : Nat) (st : List Value) : Option (pq_L × List Value) := match st with
  | .ref x :: r => match pq_st1 l i (.ref x) with
    | some l' => some (l', r)
    | none => none
  | _ => none
def pq_ls (l : pq_L) (i : Nat) (st : List Value) : Option (pq_L × List Value) := match st with
  | .long x :: r => match pq_st2 l i (.long x) with
    | some l' => some (l', r)
    | none => none
  | _ => none
def pq_inc (l : pq_L) (i : Nat) (v : Value) (st : List Value) : Option (pq_L × List Value) := match pq_ld l i, v with
  | some (.int x), .int n => match pq_st1 l i (.int (x + n)) with
    | some l' => some (l', st)
    | none => none
  | _, _ => none
def pq_dup (st : List Value) : Option (List Value) := match st with
  | v :: r => if v.category = 1 then some (v :: v :: r) else none
  | _ => none
def pq_dup2 (st : List Value) : Option (List Value) := match st with
  | v :: w :: r => if v.category = 1 ∧ w.category = 1 then some (v :: w :: v :: w :: r) else none
  | _ => none
/-- what needs neither the memory nor another pc -/
def pq_x1 (ins : Instr) (v : Value) (l : pq_L) (st : List Value) : Option (pq_L × List Value) := match ins with
  | .iconst _ => some (l, v :: st)
  | .bipush _ => some (l, v :: st)
  | .sipush _ => some (l, v :: st)
  | .lconst _ => some (l, v :: st)
  | .ldc _ => some (l, v :: st)
  | .ldc2_w _ => some (l, v :: st)
  | .iload_n k => pq_il l k st
  | .iload i => pq_il l i st
  | .lload_n k => pq_ll l k st
  | .lload i => pq_ll l i st
  | .aload_n k => pq_al l k st
  | .aload i => pq_al l i st
  | .istore_n k => pq_is l k st
  | .istore i => pq_is l i st
  | .lstore_n k => pq_ls l k st
  | .lstore i => pq_ls l i st
  | .astore_n k => pq_as l k st
  | .astore i => pq_as l i st
  | .iinc i _ => pq_inc l i v st
  | .iadd => match pq_i2 st with
    | some (x, y, r) => some (l, .int (x + y) :: r)
    | none => none
  | .isub => match pq_i2 st with
    | some (x, y, r) => some (l, .int (x - y) :: r)
    | none => none
  | .imul => match pq_i2 st with
    | some (x, y, r) => some (l, .int (x * y) :: r)
    | none => none
  | .iand => match pq_i2 st with
    | some (x, y, r) => some (l, .int (x &&& y) :: r)
    | none => none
  | .ior => match pq_i2 st with
    | some (x, y, r) => some (l, .int (x ||| y) :: r)
    | none => none
  | .ixor => match pq_i2 st with
    | some (x, y, r) => some (l, .int (x ^^^ y) :: r)
    | none => none
  | .ishl => match pq_i2 st with
    | some (x, y, r) => some (l, .int (x <<< (y &&& 31)) :: r)
    | none => none
  | .ishr => match pq_i2 st with
    | some (x, y, r) => some (l, .int (x >>> (y &&& 31)) :: r)
    | none => none
  | .ladd => match pq_l2 st with
    | some (x, y, r) => some (l, .long (x + y) :: r)
    | none => none
  | .lsub => match pq_l2 st with
    | some (x, y, r) => some (l, .long (x - y) :: r)
    | none => none
  | .land => match pq_l2 st with
    | some (x, y, r) => some (l, .long (x &&& y) :: r)
    | none => none
  | .lor => match pq_l2 st with
    | some (x, y, r) => some (l, .long (x ||| y) :: r)
    | none => none
  | .lxor => match pq_l2 st with
    | some (x, y, r) => some (l, .long (x ^^^ y) :: r)
    | none => none
  | .lshl => match pq_li st with
    | some (x, y, r) => some (l, .long (x <<< (y.toInt64 &&& 63)) :: r)
    | none => none
  | .lushr => match pq_li st with
    | some (x, y, r) => some (l, .long (x.toUInt64 >>> (y.toInt64.toUInt64 &&& Int64.toUInt64 63)).toInt64 :: r)
    | none => none
  | .lcmp => match pq_l2 st with
    | some (x, y, r) => some (l, .int (lg_cmp x y) :: r)
    | none => none
  | .l2i => match pq_l1 st with
    | some (x, r) => some (l, .int x.toInt32 :: r)
    | none => none
  | .i2c => match pq_i1 st with
    | some (x, r) => some (l, .int (x.toUInt32 % 65536).toInt32 :: r)
    | none => none
  | .idiv => match pq_i2 st with
    | some (x, y, r) => if y = 0 then none else some (l, .int (x / y) :: r)
    | none => none
  | .irem => match pq_i2 st with
    | some (x, y, r) => if y = 0 then none else some (l, .int (x - x / y * y) :: r)
    | none => none
  | .dup => match pq_dup st with
    | some r => some (l, r)
    | none => none
  | .dup2 => match pq_dup2 st with
    | some r => some (l, r)
    | none => none
  | _ => none
/-- branches: the next pc and the stack -/
def pq_x2 (ins : Instr) (nxt : Nat) (lk : List (Nat × Nat)) (st : List Value) : Option (Nat × List Value) := match ins with
  | .goto _ => match lk with
    | (t, _) :: _ => some (t, st)
    | [] => none
  | .ifCond cd _ => match lk, pq_i1 st with
    | (t, _) :: _, some (x, r) => match cd with
      | .eq => some (if x = 0 then t else nxt, r)
      | .ne => some (if x = 0 then nxt else t, r)
      | .lt => some (if x < 0 then t else nxt, r)
      | .ge => some (if x < 0 then nxt else t, r)
      | .gt => some (if 0 < x then t else nxt, r)
      | .le => some (if 0 < x then nxt else t, r)
    | _, _ => none
  | .if_icmp cd _ => match lk, pq_i2 st with
    | (t, _) :: _, some (x, y, r) => match cd with
      | .eq => some (if x = y then t else nxt, r)
      | .ne => some (if x = y then nxt else t, r)
      | .lt => some (if x < y then t else nxt, r)
      | .ge => some (if x < y then nxt else t, r)
      | .gt => some (if y < x then t else nxt, r)
      | .le => some (if y < x then nxt else t, r)
    | _, _ => none
  | .tableswitch _ lo hi _ => match lk, pq_i1 st with
    | (t, _) :: ts, some (x, r) => if x.toInt < lo ∨ hi < x.toInt then some (t, r) else match ts[(x.toInt - lo).toNat]? with
      | some (u, _) => some (u, r)
      | none => none
    | _, _ => none
  | _ => none
/-- a field's type, a class's number of fields, its name: by the class's number (tables behind) -/
def pq_rf (M : pq_M) (ci p k : Nat) : Value := match M with
  | (_, I, J, R) => match (pq_ft.getD ci []).getD k .int with
    | .int => .int (I p k)
    | .boolean => .int (I p k)
    | .long => .long (J p k)
    | _ => va_rf (R p k)
def pq_wf (M : pq_M) (ci p k : Nat) (v : Value) : Option pq_M := match M with
  | (sh, I, J, R) => match (pq_ft.getD ci [])[k]?, v with
    | some .int, .int x => some (sh, pq_u I p k x, J, R)
    | some .boolean, .int x => if x = 0 ∨ x = 1 then some (sh, pq_u I p k x, J, R) else none
    | some .long, .long x => some (sh, I, pq_u J p k x, R)
    | some (.array _), .ref q => some (sh, I, J, pq_u R p k (some q))
    | some (.object _), .ref q => some (sh, I, J, pq_u R p k (some q))
    | _, _ => none
def pq_arr (M : pq_M) (p : Nat) (i : Int32) : Option FieldType := match M.1[p]? with
  | some (.inl (ty, n)) => if i < 0 ∨ n ≤ i.toNatClampNeg then none else some ty
  | _ => none
def pq_add (M : pq_M) (s : pq_S) : pq_M := (M.1 ++ [s], pq_blank M.2.1 M.1.length 0, pq_blank M.2.2.1 M.1.length 0, pq_blank M.2.2.2 M.1.length none)
def pq_cat (st : List Value) : Nat := (st.map fun v => v.category).sum
def pq_aty (a : ArrayType) : Option FieldType := match a with
  | .int => some .int
  | .long => some .long
  | .char => some .char
  | _ => none
/-- the static methods that have rows of their own: System.arraycopy, Math.max, Math.min -/
def pq_sc (lk : List (Nat × Nat)) (st : List Value) (M : pq_M) : Option (List Value × pq_M) := match lk with
  | [] => match st with
    | .int n :: .int dp :: .ref b :: .int sp :: .ref a :: r => match M.1[a]?, M.1[b]? with
      | some (.inl (ta, na)), some (.inl (tb, nb)) =>
        if n < 0 ∨ dp < 0 ∨ sp < 0 ∨ na < sp.toNatClampNeg + n.toNatClampNeg ∨ nb < dp.toNatClampNeg + n.toNatClampNeg ∨ a = 0 ∨ b = 0 ∨ 8 < pq_cat r then none
        else match ta, tb with
          | .int, .int => some (r, M.1, pq_cpy M.2.1 a sp.toNatClampNeg b dp.toNatClampNeg n.toNatClampNeg, M.2.2.1, M.2.2.2)
          | .long, .long => some (r, M.1, M.2.1, pq_cpy M.2.2.1 a sp.toNatClampNeg b dp.toNatClampNeg n.toNatClampNeg, M.2.2.2)
          | _, _ => none
      | _, _ => none
    | _ => none
  | q :: _ => match q.1 with
    | 1 => match pq_i2 st with
      | some (x, y, r) => if 8 < pq_cat r then none else some (.int (if x < y then y else x) :: r, M)
      | none => none
    | 2 => match pq_i2 st with
      | some (x, y, r) => if 8 < pq_cat r then none else some (.int (if y < x then y else x) :: r, M)
      | none => none
    | _ => none
/-- the memory: reads, writes, what is made -/
def pq_x3 (ins : Instr) (lk : List (Nat × Nat)) (st : List Value) (M : pq_M) : Option (List Value × pq_M) := match ins with
  | .getfield _ => match st with
    | .ref p :: r => match M.1[p]? with
      | some (.inr ci) => match lk.lookup ci with
        | some k => match pq_rf M ci p k with
          | .int x => some (.int x :: r, M)
          | .long x => some (.long x :: r, M)
          | .ref x => some (.ref x :: r, M)
          | .null => some (.null :: r, M)
          | _ => none
        | none => none
      | _ => none
    | _ => none
  | .putfield _ => match st with
    | v :: .ref p :: r => match M.1[p]? with
      | some (.inr ci) => match lk.lookup ci with
        | some k => match pq_wf M ci p k v with
          | some M' => some (r, M')
          | none => none
        | none => none
      | _ => none
    | _ => none
  | .iaload => match st with
    | .int i :: .ref p :: r => match pq_arr M p i with
      | some .int => some (.int (M.2.1 p i.toNatClampNeg) :: r, M)
      | _ => none
    | _ => none
  | .caload => match st with
    | .int i :: .ref p :: r => match pq_arr M p i with
      | some .char => some (.int (M.2.1 p i.toNatClampNeg) :: r, M)
      | _ => none
    | _ => none
  | .laload => match st with
    | .int i :: .ref p :: r => match pq_arr M p i with
      | some .long => some (.long (M.2.2.1 p i.toNatClampNeg) :: r, M)
      | _ => none
    | _ => none
  | .aaload => match st with
    | .int i :: .ref p :: r => match pq_arr M p i with
      | some (.object _) => some (va_rf (M.2.2.2 p i.toNatClampNeg) :: r, M)
      | _ => none
    | _ => none
  | .iastore => match st with
    | .int x :: .int i :: .ref p :: r => match pq_arr M p i with
      | some .int => if p = 0 then none else some (r, M.1, pq_u M.2.1 p i.toNatClampNeg x, M.2.2.1, M.2.2.2)
      | _ => none
    | _ => none
  | .castore => match st with
    | .int x :: .int i :: .ref p :: r => match pq_arr M p i with
      | some .char => if p = 0 then none else some (r, M.1, pq_u M.2.1 p i.toNatClampNeg (vp_nar .char x), M.2.2.1, M.2.2.2)
      | _ => none
    | _ => none
  | .lastore => match st with
    | .long x :: .int i :: .ref p :: r => match pq_arr M p i with
      | some .long => if p = 0 then none else some (r, M.1, M.2.1, pq_u M.2.2.1 p i.toNatClampNeg x, M.2.2.2)
      | _ => none
    | _ => none
  | .aastore => match st with
    | .ref v :: .int i :: .ref p :: r => match pq_arr M p i, M.1[v]? with
      | some (.object _), some (.inr ci) => if p = 0 ∨ ¬ ci = 3 then none else some (r, M.1, M.2.1, M.2.2.1, pq_u M.2.2.2 p i.toNatClampNeg (some v))
      | _, _ => none
    | _ => none
  | .arraylength => match st with
    | .ref p :: r => match M.1[p]? with
      | some (.inl (_, n)) => some (.int (Int32.ofNat n) :: r, M)
      | _ => none
    | _ => none
  | .new _ => match lk with
    | (ci, _) :: _ => some (.ref M.1.length :: st, pq_add M (.inr ci))
    | [] => none
  | .newarray a => match st, pq_aty a with
    | .int n :: r, some ty => if n < 0 ∨ 65536 < n.toNatClampNeg then none else some (.ref M.1.length :: r, pq_add M (.inl (ty, n.toNatClampNeg)))
    | _, _ => none
  | .anewarray _ => match st, lk with
    | .int n :: r, (ci, _) :: _ => match pq_cn[ci]? with
      | some C => if n < 0 ∨ 65536 < n.toNatClampNeg then none else some (.ref M.1.length :: r, pq_add M (.inl (.object C, n.toNatClampNeg)))
      | none => none
    | _, _ => none
  | .invokespecial _ => match lk, st with
    | [], .ref _ :: r => if pq_cat r ≤ 8 then some (r, M) else none
    | _, _ => none
  | .invokestatic _ => pq_sc lk st M
  | _ => none
/-- the ends -/
def pq_x4 (ins : Instr) (na : Nat) (st : List Value) : Option (Option Value) := match ins with
  | .return_ => match st with
    | [] => some none
    | _ => none
  | .ireturn => match st with
    | [.int x] => if na = 0 then some (some (.int x)) else if x = 0 ∨ x = 1 then some (some (.int x)) else none
    | _ => none
  | .lreturn => match st with
    | [.long x] => some (some (.long x))
    | _ => none
  | _ => none
def pq_split : Nat → List Value → List Value → Option (List Value × List Value)
  | 0, st, acc => some (acc, st)
  | n + 1, v :: st, acc => pq_split n st (v :: acc)
  | _ + 1, [], _ => none
/-- calls: the method's number, its arguments, the stack below -/
def pq_x5 (ins : Instr) (na : Nat) (lk : List (Nat × Nat)) (st : List Value) (M : pq_M) : Option (Nat × List Value × List Value) := match ins with
  | .invokestatic _ => match lk, pq_split na st [] with
    | (z, j) :: _, some (as, r) => if z = 0 ∧ pq_cat r ≤ 8 then some (j, as, r) else none
    | _, _ => none
  | .invokevirtual _ => match pq_split na st [] with
    | some (as, .ref p :: r) => match M.1[p]? with
      | some (.inr ci) => match lk.lookup ci with
        | some j => if pq_cat r ≤ 8 then some (j, .ref p :: as, r) else none
        | none => none
      | _ => none
    | _ => none
  | .invokespecial _ => match pq_split na st [] with
    | some (as, .ref p :: r) => match M.1[p]? with
      | some (.inr ci) => match lk.lookup ci with
        | some j => if pq_cat r ≤ 8 then some (j, .ref p :: as, r) else none
        | none => none
      | _ => none
    | _ => none
  | _ => none
def pq_exec (e : pq_E) (l : pq_L) (st : List Value) (M : pq_M) : Option pq_O := match e with
  | (_, ins, nx, na, lk, v) => match pq_x1 ins v l st with
    | some (l', st') => some (.inl (nx, l', st', M))
    | none => match pq_x2 ins nx lk st with
      | some (pc', st') => some (.inl (pc', l, st', M))
      | none => match pq_x3 ins lk st M with
        | some (st', M') => some (.inl (nx, l, st', M'))
        | none => match pq_x4 ins na st with
          | some r => some (.inr (.inl r))
          | none => match pq_x5 ins na lk st M with
            | some q => some (.inr (.inr q))
            | none => none
def pq_psh (r : Option Value) (st : List Value) : List Value := match r with
  | some v => v :: st
  | none => st
def pq_flat : List Value → pq_L
  | [] => []
  | .long x :: r => some (.long x) :: none :: pq_flat r
  | .double x :: r => some (.double x) :: none :: pq_flat r
  | v :: r => some v :: pq_flat r
def pq_loc (as : List Value) (n : Nat) : pq_L := pq_flat as ++ List.replicate (n - (pq_flat as).length) none
def pq_loc0 : Nat → List Value → Option pq_L
  | 0, [] => some []
  | n + 1, [] => match pq_loc0 n [] with
    | some r => some (none :: r)
    | none => none
  | n + 2, .long x :: vs => match pq_loc0 n vs with
    | some r => some (some (.long x) :: none :: r)
    | none => none
  | n + 1, .int x :: vs => match pq_loc0 n vs with
    | some r => some (some (.int x) :: r)
    | none => none
  | n + 1, .ref x :: vs => match pq_loc0 n vs with
    | some r => some (some (.ref x) :: r)
    | none => none
  | _, _ => none
end
section
/-- Long_bitCount -/
def ct_0 : List pq_E := [(0, .lload_n 0, 1, 0, [], .null),
  (1, .lload_n 0, 2, 0, [], .null),
  (2, .iconst 1, 3, 0, [], .int (nI 1)),
  (3, .lushr, 4, 0, [], .null),
  (4, .ldc2_w 314, 7, 0, [], .long (lN 6148914691236517205)),
  (7, .land, 8, 0, [], .null),
  (8, .lsub, 9, 0, [], .null),
  (9, .lstore_n 0, 10, 0, [], .null),
  (10, .lload_n 0, 11, 0, [], .null),
  (11, .ldc2_w 316, 14, 0, [], .long (lN 3689348814741910323)),
  (14, .land, 15, 0, [], .null),
  (15, .lload_n 0, 16, 0, [], .null),
  (16, .iconst 2, 17, 0, [], .int (nI 2)),
  (17, .lushr, 18, 0, [], .null),
  (18, .ldc2_w 316, 21, 0, [], .long (lN 3689348814741910323)),
  (21, .land, 22, 0, [], .null),
  (22, .ladd, 23, 0, [], .null),
  (23, .lstore_n 0, 24, 0, [], .null),
  (24, .lload_n 0, 25, 0, [], .null),
  (25, .lload_n 0, 26, 0, [], .null),
  (26, .iconst 4, 27, 0, [], .int (nI 4)),
  (27, .lushr, 28, 0, [], .null),
  (28, .ladd, 29, 0, [], .null),
  (29, .ldc2_w 318, 32, 0, [], .long (lN 1085102592571150095)),
  (32, .land, 33, 0, [], .null),
  (33, .lstore_n 0, 34, 0, [], .null),
  (34, .lload_n 0, 35, 0, [], .null),
  (35, .lload_n 0, 36, 0, [], .null),
  (36, .bipush 8, 38, 0, [], .int (nI 8)),
  (38, .lushr, 39, 0, [], .null),
  (39, .ladd, 40, 0, [], .null),
  (40, .lstore_n 0, 41, 0, [], .null),
  (41, .lload_n 0, 42, 0, [], .null),
  (42, .lload_n 0, 43, 0, [], .null),
  (43, .bipush 16, 45, 0, [], .int (nI 16)),
  (45, .lushr, 46, 0, [], .null),
  (46, .ladd, 47, 0, [], .null),
  (47, .lstore_n 0, 48, 0, [], .null),
  (48, .lload_n 0, 49, 0, [], .null),
  (49, .lload_n 0, 50, 0, [], .null),
  (50, .bipush 32, 52, 0, [], .int (nI 32)),
  (52, .lushr, 53, 0, [], .null),
  (53, .ladd, 54, 0, [], .null),
  (54, .lstore_n 0, 55, 0, [], .null),
  (55, .lload_n 0, 56, 0, [], .null),
  (56, .l2i, 57, 0, [], .null),
  (57, .bipush 127, 59, 0, [], .int (nI 127)),
  (59, .iand, 60, 0, [], .null),
  (60, .ireturn, 61, 0, [], .null)]
/-- Ways_stays -/
def ct_1 : List pq_E := [(0, .lconst 0, 1, 0, [], .long (lN 0)),
  (1, .lstore_n 1, 2, 0, [], .null),
  (2, .iconst 0, 3, 0, [], .int (nI 0)),
  (3, .istore_n 3, 4, 0, [], .null),
  (4, .iload_n 3, 5, 0, [], .null),
  (5, .iload_n 0, 6, 0, [], .null),
  (6, .if_icmp .ge 17, 9, 0, [(23, 0)], .null),
  (9, .lload_n 1, 10, 0, [], .null),
  (10, .iload_n 3, 11, 0, [], .null),
  (11, .iload_n 3, 12, 0, [], .null),
  (12, .invokestatic 9, 15, 2, [(0, 2)], .null),
  (15, .lor, 16, 0, [], .null),
  (16, .lstore_n 1, 17, 0, [], .null),
  (17, .iinc 3 1, 20, 0, [], .int (nI 1)),
  (20, .goto (-16), 23, 0, [(4, 0)], .null),
  (23, .lload_n 1, 24, 0, [], .null),
  (24, .lreturn, 25, 0, [], .null)]
/-- Ways_way -/
def ct_2 : List pq_E := [(0, .lconst 1, 1, 0, [], .long (lN 1)),
  (1, .bipush 6, 3, 0, [], .int (nI 6)),
  (3, .iload_n 0, 4, 0, [], .null),
  (4, .imul, 5, 0, [], .null),
  (5, .iload_n 1, 6, 0, [], .null),
  (6, .iadd, 7, 0, [], .null),
  (7, .lshl, 8, 0, [], .null),
  (8, .lreturn, 9, 0, [], .null)]
/-- Ways_edge -/
def ct_3 : List pq_E := [(0, .iload_n 0, 1, 0, [], .null),
  (1, .iload_n 1, 2, 0, [], .null),
  (2, .invokestatic 9, 5, 2, [(0, 2)], .null),
  (5, .iload_n 1, 6, 0, [], .null),
  (6, .iload_n 0, 7, 0, [], .null),
  (7, .invokestatic 9, 10, 2, [(0, 2)], .null),
  (10, .lor, 11, 0, [], .null),
  (11, .lreturn, 12, 0, [], .null)]
/-- Ways_contains -/
def ct_4 : List pq_E := [(0, .iload_n 0, 1, 0, [], .null),
  (1, .iload_n 1, 2, 0, [], .null),
  (2, .ishr, 3, 0, [], .null),
  (3, .iconst 1, 4, 0, [], .int (nI 1)),
  (4, .iand, 5, 0, [], .null),
  (5, .iconst 1, 6, 0, [], .int (nI 1)),
  (6, .if_icmp .ne 7, 9, 0, [(13, 0)], .null),
  (9, .iconst 1, 10, 0, [], .int (nI 1)),
  (10, .goto 4, 13, 0, [(14, 0)], .null),
  (13, .iconst 0, 14, 0, [], .int (nI 0)),
  (14, .ireturn, 15, 1, [], .null)]
/-- Ways_spread -/
def ct_5 : List pq_E := [(0, .lload_n 0, 1, 0, [], .null),
  (1, .iload_n 2, 2, 0, [], .null),
  (2, .invokestatic 23, 5, 2, [(0, 6)], .null),
  (5, .invokestatic 27, 8, 1, [(0, 7)], .null),
  (8, .ireturn, 9, 0, [], .null)]
/-- Ways_onlyFrom -/
def ct_6 : List pq_E := [(0, .lconst 0, 1, 0, [], .long (lN 0)),
  (1, .lstore_n 3, 2, 0, [], .null),
  (2, .iconst 0, 3, 0, [], .int (nI 0)),
  (3, .istore 5, 5, 0, [], .null),
  (5, .iload 5, 7, 0, [], .null),
  (7, .bipush 6, 9, 0, [], .int (nI 6)),
  (9, .if_icmp .ge 30, 12, 0, [(39, 0)], .null),
  (12, .iload_n 2, 13, 0, [], .null),
  (13, .iload 5, 15, 0, [], .null),
  (15, .invokestatic 19, 18, 2, [(0, 4)], .null),
  (18, .ifCond .eq 15, 21, 0, [(33, 0)], .null),
  (21, .lload_n 3, 22, 0, [], .null),
  (22, .ldc2_w 17, 25, 0, [], .long (lN 63)),
  (25, .bipush 6, 27, 0, [], .int (nI 6)),
  (27, .iload 5, 29, 0, [], .null),
  (29, .imul, 30, 0, [], .null),
  (30, .lshl, 31, 0, [], .null),
  (31, .lor, 32, 0, [], .null),
  (32, .lstore_n 3, 33, 0, [], .null),
  (33, .iinc 5 1, 36, 0, [], .int (nI 1)),
  (36, .goto (-31), 39, 0, [(5, 0)], .null),
  (39, .lload_n 0, 40, 0, [], .null),
  (40, .lload_n 3, 41, 0, [], .null),
  (41, .land, 42, 0, [], .null),
  (42, .lreturn, 43, 0, [], .null)]
/-- Ways_ends -/
def ct_7 : List pq_E := [(0, .lload_n 0, 1, 0, [], .null),
  (1, .lload_n 0, 2, 0, [], .null),
  (2, .bipush 18, 4, 0, [], .int (nI 18)),
  (4, .lushr, 5, 0, [], .null),
  (5, .lor, 6, 0, [], .null),
  (6, .lstore_n 2, 7, 0, [], .null),
  (7, .lload_n 2, 8, 0, [], .null),
  (8, .lload_n 2, 9, 0, [], .null),
  (9, .bipush 6, 11, 0, [], .int (nI 6)),
  (11, .lushr, 12, 0, [], .null),
  (12, .lor, 13, 0, [], .null),
  (13, .lload_n 2, 14, 0, [], .null),
  (14, .bipush 12, 16, 0, [], .int (nI 12)),
  (16, .lushr, 17, 0, [], .null),
  (17, .lor, 18, 0, [], .null),
  (18, .ldc2_w 17, 21, 0, [], .long (lN 63)),
  (21, .land, 22, 0, [], .null),
  (22, .l2i, 23, 0, [], .null),
  (23, .ireturn, 24, 0, [], .null)]
/-- Ways_closed -/
def ct_8 : List pq_E := [(0, .ldc2_w 15, 3, 0, [], .long (lN 1090785345)),
  (3, .iload_n 1, 4, 0, [], .null),
  (4, .lshl, 5, 0, [], .null),
  (5, .iload_n 1, 6, 0, [], .null),
  (6, .iload_n 0, 7, 0, [], .null),
  (7, .invokestatic 9, 10, 2, [(0, 2)], .null),
  (10, .lor, 11, 0, [], .null),
  (11, .lreturn, 12, 0, [], .null)]
/-- Ways_from -/
def ct_9 : List pq_E := [(0, .lload_n 0, 1, 0, [], .null),
  (1, .bipush 6, 3, 0, [], .int (nI 6)),
  (3, .iload_n 2, 4, 0, [], .null),
  (4, .imul, 5, 0, [], .null),
  (5, .lushr, 6, 0, [], .null),
  (6, .ldc2_w 17, 9, 0, [], .long (lN 63)),
  (9, .land, 10, 0, [], .null),
  (10, .l2i, 11, 0, [], .null),
  (11, .ireturn, 12, 0, [], .null)]
/-- Beliefs_init -/
def ct_10 : List pq_E := [(0, .aload_n 0, 1, 0, [], .null),
  (1, .invokespecial 1, 4, 0, [], .null),
  (4, .aload_n 0, 5, 0, [], .null),
  (5, .bipush 8, 7, 0, [], .int (nI 8)),
  (7, .newarray .int, 9, 0, [], .null),
  (9, .putfield 9, 12, 0, [(0, 0)], .null),
  (12, .aload_n 0, 13, 0, [], .null),
  (13, .bipush 8, 15, 0, [], .int (nI 8)),
  (15, .newarray .long, 17, 0, [], .null),
  (17, .putfield 13, 20, 0, [(0, 1)], .null),
  (20, .return_, 21, 0, [], .null)]
/-- Beliefs_makeAnew -/
def ct_11 : List pq_E := [(0, .aload_n 0, 1, 0, [], .null),
  (1, .iload_n 1, 2, 0, [], .null),
  (2, .putfield 23, 5, 0, [(0, 2)], .null),
  (5, .aload_n 0, 6, 0, [], .null),
  (6, .iconst 1, 7, 0, [], .int (nI 1)),
  (7, .putfield 27, 10, 0, [(0, 3)], .null),
  (10, .aload_n 0, 11, 0, [], .null),
  (11, .getfield 9, 14, 0, [(0, 0)], .null),
  (14, .iload_n 1, 15, 0, [], .null),
  (15, .invokestatic 30, 18, 1, [(0, 12)], .null),
  (18, .iload_n 2, 19, 0, [], .null),
  (19, .iastore, 20, 0, [], .null),
  (20, .return_, 21, 0, [], .null)]
/-- Beliefs_slot -/
def ct_12 : List pq_E := [(0, .iload_n 0, 1, 0, [], .null),
  (1, .bipush 7, 3, 0, [], .int (nI 7)),
  (3, .iand, 4, 0, [], .null),
  (4, .ireturn, 5, 0, [], .null)]
/-- Beliefs_copyFrom -/
def ct_13 : List pq_E := [(0, .aload_n 1, 1, 0, [], .null),
  (1, .getfield 9, 4, 0, [(0, 0)], .null),
  (4, .iconst 0, 5, 0, [], .int (nI 0)),
  (5, .aload_n 0, 6, 0, [], .null),
  (6, .getfield 9, 9, 0, [(0, 0)], .null),
  (9, .iconst 0, 10, 0, [], .int (nI 0)),
  (10, .bipush 8, 12, 0, [], .int (nI 8)),
  (12, .invokestatic 17, 15, 0, [], .null),
  (15, .aload_n 1, 16, 0, [], .null),
  (16, .getfield 13, 19, 0, [(0, 1)], .null),
  (19, .iconst 0, 20, 0, [], .int (nI 0)),
  (20, .aload_n 0, 21, 0, [], .null),
  (21, .getfield 13, 24, 0, [(0, 1)], .null),
  (24, .iconst 0, 25, 0, [], .int (nI 0)),
  (25, .bipush 8, 27, 0, [], .int (nI 8)),
  (27, .invokestatic 17, 30, 0, [], .null),
  (30, .aload_n 0, 31, 0, [], .null),
  (31, .aload_n 1, 32, 0, [], .null),
  (32, .getfield 23, 35, 0, [(0, 2)], .null),
  (35, .putfield 23, 38, 0, [(0, 2)], .null),
  (38, .aload_n 0, 39, 0, [], .null),
  (39, .aload_n 1, 40, 0, [], .null),
  (40, .getfield 27, 43, 0, [(0, 3)], .null),
  (43, .putfield 27, 46, 0, [(0, 3)], .null),
  (46, .return_, 47, 0, [], .null)]
/-- Beliefs_leaveOut -/
def ct_14 : List pq_E := [(0, .aload_n 0, 1, 0, [], .null),
  (1, .getfield 9, 4, 0, [(0, 0)], .null),
  (4, .aload_n 0, 5, 0, [], .null),
  (5, .getfield 23, 8, 0, [(0, 2)], .null),
  (8, .invokestatic 30, 11, 1, [(0, 12)], .null),
  (11, .dup2, 12, 0, [], .null),
  (12, .iaload, 13, 0, [], .null),
  (13, .iconst 1, 14, 0, [], .int (nI 1)),
  (14, .iload_n 1, 15, 0, [], .null),
  (15, .ishl, 16, 0, [], .null),
  (16, .iconst (-1), 17, 0, [], .int (-1)),
  (17, .ixor, 18, 0, [], .null),
  (18, .iand, 19, 0, [], .null),
  (19, .iastore, 20, 0, [], .null),
  (20, .return_, 21, 0, [], .null)]
/-- Beliefs_after -/
def ct_15 : List pq_E := [(0, .aload_n 0, 1, 0, [], .null),
  (1, .getfield 9, 4, 0, [(0, 0)], .null),
  (4, .iload_n 1, 5, 0, [], .null),
  (5, .invokestatic 30, 8, 1, [(0, 12)], .null),
  (8, .iaload, 9, 0, [], .null),
  (9, .ireturn, 10, 0, [], .null)]
/-- Beliefs_keeps -/
def ct_16 : List pq_E := [(0, .iload_n 1, 1, 0, [], .null),
  (1, .aload_n 0, 2, 0, [], .null),
  (2, .getfield 23, 5, 0, [(0, 2)], .null),
  (5, .if_icmp .gt 20, 8, 0, [(25, 0)], .null),
  (8, .iload_n 1, 9, 0, [], .null),
  (9, .aload_n 0, 10, 0, [], .null),
  (10, .getfield 23, 13, 0, [(0, 2)], .null),
  (13, .aload_n 0, 14, 0, [], .null),
  (14, .getfield 27, 17, 0, [(0, 3)], .null),
  (17, .isub, 18, 0, [], .null),
  (18, .if_icmp .le 7, 21, 0, [(25, 0)], .null),
  (21, .iconst 1, 22, 0, [], .int (nI 1)),
  (22, .goto 4, 25, 0, [(26, 0)], .null),
  (25, .iconst 0, 26, 0, [], .int (nI 0)),
  (26, .ireturn, 27, 1, [], .null)]
/-- Beliefs_narrow -/
def ct_17 : List pq_E := [(0, .aload_n 0, 1, 0, [], .null),
  (1, .iload_n 1, 2, 0, [], .null),
  (2, .invokevirtual 34, 5, 1, [(0, 15)], .null),
  (5, .iload_n 2, 6, 0, [], .null),
  (6, .invokestatic 49, 9, 2, [(0, 4)], .null),
  (9, .ifCond .ne 4, 12, 0, [(13, 0)], .null),
  (12, .return_, 13, 0, [], .null),
  (13, .aload_n 0, 14, 0, [], .null),
  (14, .getfield 9, 17, 0, [(0, 0)], .null),
  (17, .iload_n 1, 18, 0, [], .null),
  (18, .invokestatic 30, 21, 1, [(0, 12)], .null),
  (21, .iconst 1, 22, 0, [], .int (nI 1)),
  (22, .iload_n 2, 23, 0, [], .null),
  (23, .ishl, 24, 0, [], .null),
  (24, .iastore, 25, 0, [], .null),
  (25, .iload_n 1, 26, 0, [], .null),
  (26, .iconst 1, 27, 0, [], .int (nI 1)),
  (27, .iadd, 28, 0, [], .null),
  (28, .istore_n 3, 29, 0, [], .null),
  (29, .iload_n 3, 30, 0, [], .null),
  (30, .aload_n 0, 31, 0, [], .null),
  (31, .getfield 23, 34, 0, [(0, 2)], .null),
  (34, .if_icmp .gt 40, 37, 0, [(74, 0)], .null),
  (37, .aload_n 0, 38, 0, [], .null),
  (38, .getfield 9, 41, 0, [(0, 0)], .null),
  (41, .iload_n 3, 42, 0, [], .null),
  (42, .invokestatic 30, 45, 1, [(0, 12)], .null),
  (45, .dup2, 46, 0, [], .null),
  (46, .iaload, 47, 0, [], .null),
  (47, .aload_n 0, 48, 0, [], .null),
  (48, .getfield 13, 51, 0, [(0, 1)], .null),
  (51, .iload_n 3, 52, 0, [], .null),
  (52, .invokestatic 30, 55, 1, [(0, 12)], .null),
  (55, .laload, 56, 0, [], .null),
  (56, .aload_n 0, 57, 0, [], .null),
  (57, .iload_n 3, 58, 0, [], .null),
  (58, .iconst 1, 59, 0, [], .int (nI 1)),
  (59, .isub, 60, 0, [], .null),
  (60, .invokevirtual 34, 63, 1, [(0, 15)], .null),
  (63, .invokestatic 37, 66, 2, [(0, 5)], .null),
  (66, .iand, 67, 0, [], .null),
  (67, .iastore, 68, 0, [], .null),
  (68, .iinc 3 1, 71, 0, [], .int (nI 1)),
  (71, .goto (-42), 74, 0, [(29, 0)], .null),
  (74, .return_, 75, 0, [], .null)]
/-- Beliefs_extend -/
def ct_18 : List pq_E := [(0, .lload_n 1, 1, 0, [], .null),
  (1, .aload_n 0, 2, 0, [], .null),
  (2, .aload_n 0, 3, 0, [], .null),
  (3, .getfield 23, 6, 0, [(0, 2)], .null),
  (6, .invokevirtual 34, 9, 1, [(0, 15)], .null),
  (9, .invokestatic 37, 12, 2, [(0, 5)], .null),
  (12, .istore_n 3, 13, 0, [], .null),
  (13, .aload_n 0, 14, 0, [], .null),
  (14, .dup, 15, 0, [], .null),
  (15, .getfield 23, 18, 0, [(0, 2)], .null),
  (18, .iconst 1, 19, 0, [], .int (nI 1)),
  (19, .iadd, 20, 0, [], .null),
  (20, .putfield 23, 23, 0, [(0, 2)], .null),
  (23, .aload_n 0, 24, 0, [], .null),
  (24, .aload_n 0, 25, 0, [], .null),
  (25, .getfield 27, 28, 0, [(0, 3)], .null),
  (28, .iconst 1, 29, 0, [], .int (nI 1)),
  (29, .iadd, 30, 0, [], .null),
  (30, .bipush 8, 32, 0, [], .int (nI 8)),
  (32, .invokestatic 43, 35, 0, [(2, 0)], .null),
  (35, .putfield 27, 38, 0, [(0, 3)], .null),
  (38, .aload_n 0, 39, 0, [], .null),
  (39, .getfield 9, 42, 0, [(0, 0)], .null),
  (42, .aload_n 0, 43, 0, [], .null),
  (43, .getfield 23, 46, 0, [(0, 2)], .null),
  (46, .invokestatic 30, 49, 1, [(0, 12)], .null),
  (49, .iload_n 3, 50, 0, [], .null),
  (50, .iastore, 51, 0, [], .null),
  (51, .aload_n 0, 52, 0, [], .null),
  (52, .getfield 13, 55, 0, [(0, 1)], .null),
  (55, .aload_n 0, 56, 0, [], .null),
  (56, .getfield 23, 59, 0, [(0, 2)], .null),
  (59, .invokestatic 30, 62, 1, [(0, 12)], .null),
  (62, .lload_n 1, 63, 0, [], .null),
  (63, .lastore, 64, 0, [], .null),
  (64, .return_, 65, 0, [], .null)]
/-- Evader_init -/
def ct_19 : List pq_E := [(0, .aload_n 0, 1, 0, [], .null),
  (1, .invokespecial 1, 4, 0, [], .null),
  (4, .aload_n 0, 5, 0, [], .null),
  (5, .bipush 8, 7, 0, [], .int (nI 8)),
  (7, .newarray .int, 9, 0, [], .null),
  (9, .putfield 9, 12, 0, [(1, 6)], .null),
  (12, .return_, 13, 0, [], .null)]
/-- Evader_copyFrom -/
def ct_20 : List pq_E := [(0, .aload_n 0, 1, 0, [], .null),
  (1, .aload_n 1, 2, 0, [], .null),
  (2, .getfield 15, 5, 0, [(1, 0)], .null),
  (5, .putfield 15, 8, 0, [(1, 0)], .null),
  (8, .aload_n 0, 9, 0, [], .null),
  (9, .aload_n 1, 10, 0, [], .null),
  (10, .getfield 19, 13, 0, [(1, 1)], .null),
  (13, .putfield 19, 16, 0, [(1, 1)], .null),
  (16, .aload_n 0, 17, 0, [], .null),
  (17, .aload_n 1, 18, 0, [], .null),
  (18, .getfield 23, 21, 0, [(1, 2)], .null),
  (21, .putfield 23, 24, 0, [(1, 2)], .null),
  (24, .aload_n 0, 25, 0, [], .null),
  (25, .aload_n 1, 26, 0, [], .null),
  (26, .getfield 26, 29, 0, [(1, 3)], .null),
  (29, .putfield 26, 32, 0, [(1, 3)], .null),
  (32, .aload_n 0, 33, 0, [], .null),
  (33, .aload_n 1, 34, 0, [], .null),
  (34, .getfield 29, 37, 0, [(1, 4)], .null),
  (37, .putfield 29, 40, 0, [(1, 4)], .null),
  (40, .aload_n 0, 41, 0, [], .null),
  (41, .aload_n 1, 42, 0, [], .null),
  (42, .getfield 32, 45, 0, [(1, 5)], .null),
  (45, .putfield 32, 48, 0, [(1, 5)], .null),
  (48, .aload_n 1, 49, 0, [], .null),
  (49, .getfield 9, 52, 0, [(1, 6)], .null),
  (52, .iconst 0, 53, 0, [], .int (nI 0)),
  (53, .aload_n 0, 54, 0, [], .null),
  (54, .getfield 9, 57, 0, [(1, 6)], .null),
  (57, .iconst 0, 58, 0, [], .int (nI 0)),
  (58, .bipush 8, 60, 0, [], .int (nI 8)),
  (60, .invokestatic 35, 63, 0, [], .null),
  (63, .return_, 64, 0, [], .null)]
/-- Evader_isFree -/
def ct_21 : List pq_E := [(0, .aload_n 0, 1, 0, [], .null),
  (1, .getfield 15, 4, 0, [(1, 0)], .null),
  (4, .ifCond .eq 14, 7, 0, [(18, 0)], .null),
  (7, .aload_n 0, 8, 0, [], .null),
  (8, .getfield 26, 11, 0, [(1, 3)], .null),
  (11, .ifCond .ne 7, 14, 0, [(18, 0)], .null),
  (14, .iconst 1, 15, 0, [], .int (nI 1)),
  (15, .goto 4, 18, 0, [(19, 0)], .null),
  (18, .iconst 0, 19, 0, [], .int (nI 0)),
  (19, .ireturn, 20, 1, [], .null)]
/-- Evader_catchAt -/
def ct_22 : List pq_E := [(0, .aload_n 0, 1, 0, [], .null),
  (1, .iconst 1, 2, 0, [], .int (nI 1)),
  (2, .putfield 26, 5, 0, [(1, 3)], .null),
  (5, .aload_n 0, 6, 0, [], .null),
  (6, .iload_n 2, 7, 0, [], .null),
  (7, .putfield 29, 10, 0, [(1, 4)], .null),
  (10, .aload_n 0, 11, 0, [], .null),
  (11, .iload_n 1, 12, 0, [], .null),
  (12, .iload_n 2, 13, 0, [], .null),
  (13, .invokevirtual 41, 16, 2, [(1, 23)], .null),
  (16, .return_, 17, 0, [], .null)]
/-- Evader_standAt -/
def ct_23 : List pq_E := [(0, .aload_n 0, 1, 0, [], .null),
  (1, .iload_n 1, 2, 0, [], .null),
  (2, .putfield 19, 5, 0, [(1, 1)], .null),
  (5, .aload_n 0, 6, 0, [], .null),
  (6, .iload_n 1, 7, 0, [], .null),
  (7, .putfield 23, 10, 0, [(1, 2)], .null),
  (10, .aload_n 0, 11, 0, [], .null),
  (11, .getfield 9, 14, 0, [(1, 6)], .null),
  (14, .iload_n 2, 15, 0, [], .null),
  (15, .invokestatic 54, 18, 1, [(0, 12)], .null),
  (18, .iload_n 1, 19, 0, [], .null),
  (19, .iastore, 20, 0, [], .null),
  (20, .return_, 21, 0, [], .null)]
/-- Evader_go -/
def ct_24 : List pq_E := [(0, .lload_n 1, 1, 0, [], .null),
  (1, .aload_n 0, 2, 0, [], .null),
  (2, .getfield 19, 5, 0, [(1, 1)], .null),
  (5, .aload_n 0, 6, 0, [], .null),
  (6, .getfield 23, 9, 0, [(1, 2)], .null),
  (9, .invokestatic 45, 12, 2, [(0, 2)], .null),
  (12, .land, 13, 0, [], .null),
  (13, .lconst 0, 14, 0, [], .long (lN 0)),
  (14, .lcmp, 15, 0, [], .null),
  (15, .ifCond .ne 15, 18, 0, [(30, 0)], .null),
  (18, .aload_n 0, 19, 0, [], .null),
  (19, .aload_n 0, 20, 0, [], .null),
  (20, .getfield 23, 23, 0, [(1, 2)], .null),
  (23, .iload_n 3, 24, 0, [], .null),
  (24, .invokevirtual 51, 27, 2, [(1, 22)], .null),
  (27, .goto 12, 30, 0, [(39, 0)], .null),
  (30, .aload_n 0, 31, 0, [], .null),
  (31, .aload_n 0, 32, 0, [], .null),
  (32, .getfield 23, 35, 0, [(1, 2)], .null),
  (35, .iload_n 3, 36, 0, [], .null),
  (36, .invokevirtual 41, 39, 2, [(1, 23)], .null),
  (39, .return_, 40, 0, [], .null)]
/-- Evader_nodeAfter -/
def ct_25 : List pq_E := [(0, .aload_n 0, 1, 0, [], .null),
  (1, .getfield 9, 4, 0, [(1, 6)], .null),
  (4, .iload_n 1, 5, 0, [], .null),
  (5, .invokestatic 54, 8, 1, [(0, 12)], .null),
  (8, .iaload, 9, 0, [], .null),
  (9, .ireturn, 10, 0, [], .null)]
/-- Evader_hideAt -/
def ct_26 : List pq_E := [(0, .aload_n 0, 1, 0, [], .null),
  (1, .iconst 1, 2, 0, [], .int (nI 1)),
  (2, .putfield 15, 5, 0, [(1, 0)], .null),
  (5, .aload_n 0, 6, 0, [], .null),
  (6, .iconst 0, 7, 0, [], .int (nI 0)),
  (7, .putfield 26, 10, 0, [(1, 3)], .null),
  (10, .aload_n 0, 11, 0, [], .null),
  (11, .iconst 0, 12, 0, [], .int (nI 0)),
  (12, .putfield 29, 15, 0, [(1, 4)], .null),
  (15, .aload_n 0, 16, 0, [], .null),
  (16, .iload_n 2, 17, 0, [], .null),
  (17, .putfield 32, 20, 0, [(1, 5)], .null),
  (20, .aload_n 0, 21, 0, [], .null),
  (21, .iload_n 1, 22, 0, [], .null),
  (22, .iload_n 2, 23, 0, [], .null),
  (23, .invokevirtual 41, 26, 2, [(1, 23)], .null),
  (26, .return_, 27, 0, [], .null)]
/-- Evader_property -/
def ct_27 : List pq_E := [(0, .iload_n 1, 1, 0, [], .null),
  (1, .tableswitch 59 0 3 #[31, 36, 41, 54], 32, 0, [(60, 0), (32, 0), (37, 0), (42, 0), (55, 0)], .null),
  (32, .aload_n 0, 33, 0, [], .null),
  (33, .getfield 19, 36, 0, [(1, 1)], .null),
  (36, .ireturn, 37, 0, [], .null),
  (37, .aload_n 0, 38, 0, [], .null),
  (38, .getfield 23, 41, 0, [(1, 2)], .null),
  (41, .ireturn, 42, 0, [], .null),
  (42, .aload_n 0, 43, 0, [], .null),
  (43, .getfield 26, 46, 0, [(1, 3)], .null),
  (46, .ifCond .eq 7, 49, 0, [(53, 0)], .null),
  (49, .iconst 1, 50, 0, [], .int (nI 1)),
  (50, .goto 4, 53, 0, [(54, 0)], .null),
  (53, .iconst 0, 54, 0, [], .int (nI 0)),
  (54, .ireturn, 55, 0, [], .null),
  (55, .aload_n 0, 56, 0, [], .null),
  (56, .getfield 29, 59, 0, [(1, 4)], .null),
  (59, .ireturn, 60, 0, [], .null),
  (60, .aload_n 0, 61, 0, [], .null),
  (61, .getfield 32, 64, 0, [(1, 5)], .null),
  (64, .ireturn, 65, 0, [], .null)]
/-- Search_init -/
def ct_28 : List pq_E := [(0, .aload_n 0, 1, 0, [], .null),
  (1, .invokespecial 5, 4, 0, [], .null),
  (4, .aload_n 0, 5, 0, [], .null),
  (5, .iconst 3, 6, 0, [], .int (nI 3)),
  (6, .newarray .int, 8, 0, [], .null),
  (8, .putfield 11, 11, 0, [(2, 3), (4, 3)], .null),
  (11, .return_, 12, 0, [], .null)]
/-- Search_prepare -/
def ct_29 : List pq_E := [(0, .aload_n 0, 1, 0, [], .null),
  (1, .iload_n 1, 2, 0, [], .null),
  (2, .putfield 15, 5, 0, [(2, 0), (4, 0)], .null),
  (5, .aload_n 0, 6, 0, [], .null),
  (6, .lload_n 2, 7, 0, [], .null),
  (7, .putfield 19, 10, 0, [(2, 1), (4, 1)], .null),
  (10, .aload_n 0, 11, 0, [], .null),
  (11, .iload 4, 13, 0, [], .null),
  (13, .putfield 23, 16, 0, [(2, 2), (4, 2)], .null),
  (16, .return_, 17, 0, [], .null)]
/-- Search_clear -/
def ct_30 : List pq_E := [(0, .aload_n 0, 1, 0, [], .null),
  (1, .invokevirtual 26, 4, 0, [(2, 31), (4, 31)], .null),
  (4, .istore_n 2, 5, 0, [], .null),
  (5, .iconst 0, 6, 0, [], .int (nI 0)),
  (6, .istore_n 3, 7, 0, [], .null),
  (7, .iload_n 3, 8, 0, [], .null),
  (8, .iload_n 2, 9, 0, [], .null),
  (9, .if_icmp .ge 13, 12, 0, [(22, 0)], .null),
  (12, .aload_n 1, 13, 0, [], .null),
  (13, .iload_n 3, 14, 0, [], .null),
  (14, .iconst (-1), 15, 0, [], .int (-1)),
  (15, .iastore, 16, 0, [], .null),
  (16, .iinc 3 1, 19, 0, [], .int (nI 1)),
  (19, .goto (-12), 22, 0, [(7, 0)], .null),
  (22, .return_, 23, 0, [], .null)]
/-- Search_bound -/
def ct_31 : List pq_E := [(0, .bipush 64, 2, 0, [], .int (nI 64)),
  (2, .istore_n 1, 3, 0, [], .null),
  (3, .iconst 0, 4, 0, [], .int (nI 0)),
  (4, .istore_n 2, 5, 0, [], .null),
  (5, .iload_n 2, 6, 0, [], .null),
  (6, .aload_n 0, 7, 0, [], .null),
  (7, .getfield 23, 10, 0, [(2, 2), (4, 2)], .null),
  (10, .if_icmp .ge 14, 13, 0, [(24, 0)], .null),
  (13, .iload_n 1, 14, 0, [], .null),
  (14, .bipush 6, 16, 0, [], .int (nI 6)),
  (16, .imul, 17, 0, [], .null),
  (17, .istore_n 1, 18, 0, [], .null),
  (18, .iinc 2 1, 21, 0, [], .int (nI 1)),
  (21, .goto (-16), 24, 0, [(5, 0)], .null),
  (24, .iload_n 1, 25, 0, [], .null),
  (25, .ireturn, 26, 0, [], .null)]
/-- Search_numberOf -/
def ct_32 : List pq_E := [(0, .iconst 0, 1, 0, [], .int (nI 0)),
  (1, .istore_n 3, 2, 0, [], .null),
  (2, .iconst 0, 3, 0, [], .int (nI 0)),
  (3, .istore 4, 5, 0, [], .null),
  (5, .iload 4, 7, 0, [], .null),
  (7, .aload_n 0, 8, 0, [], .null),
  (8, .getfield 23, 11, 0, [(2, 2), (4, 2)], .null),
  (11, .if_icmp .ge 19, 14, 0, [(30, 0)], .null),
  (14, .iload_n 3, 15, 0, [], .null),
  (15, .bipush 6, 17, 0, [], .int (nI 6)),
  (17, .imul, 18, 0, [], .null),
  (18, .aload_n 1, 19, 0, [], .null),
  (19, .iload 4, 21, 0, [], .null),
  (21, .iaload, 22, 0, [], .null),
  (22, .iadd, 23, 0, [], .null),
  (23, .istore_n 3, 24, 0, [], .null),
  (24, .iinc 4 1, 27, 0, [], .int (nI 1)),
  (27, .goto (-22), 30, 0, [(5, 0)], .null),
  (30, .iload_n 3, 31, 0, [], .null),
  (31, .bipush 64, 33, 0, [], .int (nI 64)),
  (33, .imul, 34, 0, [], .null),
  (34, .iload_n 2, 35, 0, [], .null),
  (35, .iadd, 36, 0, [], .null),
  (36, .ireturn, 37, 0, [], .null)]
/-- Search_expand -/
def ct_33 : List pq_E := [(0, .aload_n 0, 1, 0, [], .null),
  (1, .iload_n 1, 2, 0, [], .null),
  (2, .invokevirtual 30, 5, 1, [(2, 34), (4, 34)], .null),
  (5, .aload_n 0, 6, 0, [], .null),
  (6, .iconst 0, 7, 0, [], .int (nI 0)),
  (7, .aload_n 0, 8, 0, [], .null),
  (8, .getfield 19, 11, 0, [(2, 1), (4, 1)], .null),
  (11, .iload_n 1, 12, 0, [], .null),
  (12, .bipush 64, 14, 0, [], .int (nI 64)),
  (14, .irem, 15, 0, [], .null),
  (15, .invokestatic 34, 18, 2, [(0, 6)], .null),
  (18, .iconst 0, 19, 0, [], .int (nI 0)),
  (19, .iconst 0, 20, 0, [], .int (nI 0)),
  (20, .invokevirtual 40, 23, 4, [(2, 35), (4, 35)], .null),
  (23, .return_, 24, 0, [], .null)]
/-- Search_placeSearchers -/
def ct_34 : List pq_E := [(0, .iload_n 1, 1, 0, [], .null),
  (1, .bipush 64, 3, 0, [], .int (nI 64)),
  (3, .idiv, 4, 0, [], .null),
  (4, .istore_n 2, 5, 0, [], .null),
  (5, .aload_n 0, 6, 0, [], .null),
  (6, .getfield 23, 9, 0, [(2, 2), (4, 2)], .null),
  (9, .iconst 1, 10, 0, [], .int (nI 1)),
  (10, .isub, 11, 0, [], .null),
  (11, .istore_n 3, 12, 0, [], .null),
  (12, .iload_n 3, 13, 0, [], .null),
  (13, .ifCond .lt 24, 16, 0, [(37, 0)], .null),
  (16, .aload_n 0, 17, 0, [], .null),
  (17, .getfield 11, 20, 0, [(2, 3), (4, 3)], .null),
  (20, .iload_n 3, 21, 0, [], .null),
  (21, .iload_n 2, 22, 0, [], .null),
  (22, .bipush 6, 24, 0, [], .int (nI 6)),
  (24, .irem, 25, 0, [], .null),
  (25, .iastore, 26, 0, [], .null),
  (26, .iload_n 2, 27, 0, [], .null),
  (27, .bipush 6, 29, 0, [], .int (nI 6)),
  (29, .idiv, 30, 0, [], .null),
  (30, .istore_n 2, 31, 0, [], .null),
  (31, .iinc 3 (-1), 34, 0, [], .int (-1)),
  (34, .goto (-22), 37, 0, [(12, 0)], .null),
  (37, .return_, 38, 0, [], .null)]
/-- Search_giveOrders -/
def ct_35 : List pq_E := [(0, .iload_n 1, 1, 0, [], .null),
  (1, .aload_n 0, 2, 0, [], .null),
  (2, .getfield 23, 5, 0, [(2, 2), (4, 2)], .null),
  (5, .if_icmp .ge 8, 8, 0, [(13, 0)], .null),
  (8, .iload_n 1, 9, 0, [], .null),
  (9, .iconst 3, 10, 0, [], .int (nI 3)),
  (10, .if_icmp .lt 20, 13, 0, [(30, 0)], .null),
  (13, .aload_n 0, 14, 0, [], .null),
  (14, .iload 4, 16, 0, [], .null),
  (16, .bipush 64, 18, 0, [], .int (nI 64)),
  (18, .imul, 19, 0, [], .null),
  (19, .lload_n 2, 20, 0, [], .null),
  (20, .invokestatic 44, 23, 1, [(0, 7)], .null),
  (23, .iadd, 24, 0, [], .null),
  (24, .iload 5, 26, 0, [], .null),
  (26, .invokevirtual 48, 29, 2, [(2, 46), (4, 40)], .null),
  (29, .return_, 30, 0, [], .null),
  (30, .aload_n 0, 31, 0, [], .null),
  (31, .getfield 11, 34, 0, [(2, 3), (4, 3)], .null),
  (34, .iload_n 1, 35, 0, [], .null),
  (35, .iaload, 36, 0, [], .null),
  (36, .istore 6, 38, 0, [], .null),
  (38, .aload_n 0, 39, 0, [], .null),
  (39, .getfield 19, 42, 0, [(2, 1), (4, 1)], .null),
  (42, .iload 6, 44, 0, [], .null),
  (44, .invokestatic 52, 47, 2, [(0, 9)], .null),
  (47, .istore 7, 49, 0, [], .null),
  (49, .iconst 0, 50, 0, [], .int (nI 0)),
  (50, .istore 8, 52, 0, [], .null),
  (52, .iload 8, 54, 0, [], .null),
  (54, .aload_n 0, 55, 0, [], .null),
  (55, .getfield 15, 58, 0, [(2, 0), (4, 0)], .null),
  (58, .if_icmp .ge 67, 61, 0, [(125, 0)], .null),
  (61, .iload 7, 63, 0, [], .null),
  (63, .iload 8, 65, 0, [], .null),
  (65, .invokestatic 56, 68, 2, [(0, 4)], .null),
  (68, .ifCond .eq 51, 71, 0, [(119, 0)], .null),
  (71, .lload_n 2, 72, 0, [], .null),
  (72, .iload 6, 74, 0, [], .null),
  (74, .iload 8, 76, 0, [], .null),
  (76, .invokestatic 60, 79, 2, [(0, 8)], .null),
  (79, .ldc2_w 64, 82, 0, [], .long (-1)),
  (82, .lxor, 83, 0, [], .null),
  (83, .land, 84, 0, [], .null),
  (84, .lstore 9, 86, 0, [], .null),
  (86, .aload_n 0, 87, 0, [], .null),
  (87, .iload_n 1, 88, 0, [], .null),
  (88, .iconst 1, 89, 0, [], .int (nI 1)),
  (89, .iadd, 90, 0, [], .null),
  (90, .lload 9, 92, 0, [], .null),
  (92, .iload 4, 94, 0, [], .null),
  (94, .bipush 6, 96, 0, [], .int (nI 6)),
  (96, .imul, 97, 0, [], .null),
  (97, .iload 8, 99, 0, [], .null),
  (99, .iadd, 100, 0, [], .null),
  (100, .iload 8, 102, 0, [], .null),
  (102, .iload 6, 104, 0, [], .null),
  (104, .if_icmp .ne 8, 107, 0, [(112, 0)], .null),
  (107, .iload 5, 109, 0, [], .null),
  (109, .goto 7, 112, 0, [(116, 0)], .null),
  (112, .iload 5, 114, 0, [], .null),
  (114, .iconst 1, 115, 0, [], .int (nI 1)),
  (115, .iadd, 116, 0, [], .null),
  (116, .invokevirtual 40, 119, 4, [(2, 35), (4, 35)], .null),
  (119, .iinc 8 1, 122, 0, [], .int (nI 1)),
  (122, .goto (-70), 125, 0, [(52, 0)], .null),
  (125, .return_, 126, 0, [], .null)]
/-- TurnSearch_init -/
def ct_36 : List pq_E := [(0, .aload_n 0, 1, 0, [], .null),
  (1, .invokespecial 3, 4, 0, [(4, 28)], .null),
  (4, .aload_n 0, 5, 0, [], .null),
  (5, .sipush 13824, 8, 0, [], .int (nI 13824)),
  (8, .newarray .int, 10, 0, [], .null),
  (10, .putfield 9, 13, 0, [(4, 4)], .null),
  (13, .aload_n 0, 14, 0, [], .null),
  (14, .sipush 13824, 17, 0, [], .int (nI 13824)),
  (17, .newarray .int, 19, 0, [], .null),
  (19, .putfield 15, 22, 0, [(4, 5)], .null),
  (22, .return_, 23, 0, [], .null)]
/-- TurnSearch_forget -/
def ct_37 : List pq_E := [(0, .aload_n 0, 1, 0, [], .null),
  (1, .aload_n 0, 2, 0, [], .null),
  (2, .getfield 9, 5, 0, [(4, 4)], .null),
  (5, .invokevirtual 18, 8, 1, [(4, 30)], .null),
  (8, .aload_n 0, 9, 0, [], .null),
  (9, .iconst 0, 10, 0, [], .int (nI 0)),
  (10, .putfield 22, 13, 0, [(4, 6)], .null),
  (13, .aload_n 0, 14, 0, [], .null),
  (14, .iconst (-1), 15, 0, [], .int (-1)),
  (15, .putfield 26, 18, 0, [(4, 8)], .null),
  (18, .return_, 19, 0, [], .null)]
/-- TurnSearch_enter -/
def ct_38 : List pq_E := [(0, .aload_n 0, 1, 0, [], .null),
  (1, .getfield 26, 4, 0, [(4, 8)], .null),
  (4, .iconst (-1), 5, 0, [], .int (-1)),
  (5, .if_icmp .ne 23, 8, 0, [(28, 0)], .null),
  (8, .aload_n 0, 9, 0, [], .null),
  (9, .getfield 9, 12, 0, [(4, 4)], .null),
  (12, .iload_n 1, 13, 0, [], .null),
  (13, .iaload, 14, 0, [], .null),
  (14, .iconst (-1), 15, 0, [], .int (-1)),
  (15, .if_icmp .ne 13, 18, 0, [(28, 0)], .null),
  (18, .aload_n 0, 19, 0, [], .null),
  (19, .getfield 22, 22, 0, [(4, 6)], .null),
  (22, .sipush 13824, 25, 0, [], .int (nI 13824)),
  (25, .if_icmp .lt 4, 28, 0, [(29, 0)], .null),
  (28, .return_, 29, 0, [], .null),
  (29, .aload_n 0, 30, 0, [], .null),
  (30, .getfield 9, 33, 0, [(4, 4)], .null),
  (33, .iload_n 1, 34, 0, [], .null),
  (34, .iload_n 2, 35, 0, [], .null),
  (35, .iastore, 36, 0, [], .null),
  (36, .aload_n 0, 37, 0, [], .null),
  (37, .getfield 15, 40, 0, [(4, 5)], .null),
  (40, .aload_n 0, 41, 0, [], .null),
  (41, .getfield 22, 44, 0, [(4, 6)], .null),
  (44, .iload_n 1, 45, 0, [], .null),
  (45, .iastore, 46, 0, [], .null),
  (46, .aload_n 0, 47, 0, [], .null),
  (47, .dup, 48, 0, [], .null),
  (48, .getfield 22, 51, 0, [(4, 6)], .null),
  (51, .iconst 1, 52, 0, [], .int (nI 1)),
  (52, .iadd, 53, 0, [], .null),
  (53, .putfield 22, 56, 0, [(4, 6)], .null),
  (56, .iload_n 1, 57, 0, [], .null),
  (57, .bipush 64, 59, 0, [], .int (nI 64)),
  (59, .irem, 60, 0, [], .null),
  (60, .ifCond .ne 8, 63, 0, [(68, 0)], .null),
  (63, .aload_n 0, 64, 0, [], .null),
  (64, .iload_n 1, 65, 0, [], .null),
  (65, .putfield 26, 68, 0, [(4, 8)], .null),
  (68, .return_, 69, 0, [], .null)]
/-- TurnSearch_search -/
def ct_39 : List pq_E := [(0, .iconst 0, 1, 0, [], .int (nI 0)),
  (1, .istore_n 1, 2, 0, [], .null),
  (2, .iload_n 1, 3, 0, [], .null),
  (3, .aload_n 0, 4, 0, [], .null),
  (4, .getfield 22, 7, 0, [(4, 6)], .null),
  (7, .if_icmp .ge 42, 10, 0, [(49, 0)], .null),
  (10, .iload_n 1, 11, 0, [], .null),
  (11, .sipush 13824, 14, 0, [], .int (nI 13824)),
  (14, .if_icmp .ge 35, 17, 0, [(49, 0)], .null),
  (17, .aload_n 0, 18, 0, [], .null),
  (18, .getfield 26, 21, 0, [(4, 8)], .null),
  (21, .iconst (-1), 22, 0, [], .int (-1)),
  (22, .if_icmp .ne 27, 25, 0, [(49, 0)], .null),
  (25, .aload_n 0, 26, 0, [], .null),
  (26, .aload_n 0, 27, 0, [], .null),
  (27, .getfield 15, 30, 0, [(4, 5)], .null),
  (30, .iload_n 1, 31, 0, [], .null),
  (31, .iaload, 32, 0, [], .null),
  (32, .putfield 53, 35, 0, [(4, 7)], .null),
  (35, .aload_n 0, 36, 0, [], .null),
  (36, .aload_n 0, 37, 0, [], .null),
  (37, .getfield 53, 40, 0, [(4, 7)], .null),
  (40, .invokevirtual 56, 43, 1, [(4, 33)], .null),
  (43, .iinc 1 1, 46, 0, [], .int (nI 1)),
  (46, .goto (-44), 49, 0, [(2, 0)], .null),
  (49, .return_, 50, 0, [], .null)]
/-- TurnSearch_arrive -/
def ct_40 : List pq_E := [(0, .aload_n 0, 1, 0, [], .null),
  (1, .iload_n 1, 2, 0, [], .null),
  (2, .aload_n 0, 3, 0, [], .null),
  (3, .getfield 53, 6, 0, [(4, 7)], .null),
  (6, .invokevirtual 49, 9, 2, [(4, 38)], .null),
  (9, .return_, 10, 0, [], .null)]
/-- TurnSearch_turns -/
def ct_41 : List pq_E := [(0, .aload_n 0, 1, 0, [], .null),
  (1, .getfield 26, 4, 0, [(4, 8)], .null),
  (4, .iconst (-1), 5, 0, [], .int (-1)),
  (5, .if_icmp .ne 6, 8, 0, [(11, 0)], .null),
  (8, .bipush (-4), 10, 0, [], .int (-4)),
  (10, .ireturn, 11, 0, [], .null),
  (11, .iconst 0, 12, 0, [], .int (nI 0)),
  (12, .istore_n 1, 13, 0, [], .null),
  (13, .aload_n 0, 14, 0, [], .null),
  (14, .getfield 26, 17, 0, [(4, 8)], .null),
  (17, .istore_n 2, 18, 0, [], .null),
  (18, .iload_n 1, 19, 0, [], .null),
  (19, .sipush 13824, 22, 0, [], .int (nI 13824)),
  (22, .if_icmp .ge 27, 25, 0, [(49, 0)], .null),
  (25, .aload_n 0, 26, 0, [], .null),
  (26, .getfield 9, 29, 0, [(4, 4)], .null),
  (29, .iload_n 2, 30, 0, [], .null),
  (30, .iaload, 31, 0, [], .null),
  (31, .bipush (-2), 33, 0, [], .int (-2)),
  (33, .if_icmp .eq 16, 36, 0, [(49, 0)], .null),
  (36, .aload_n 0, 37, 0, [], .null),
  (37, .getfield 9, 40, 0, [(4, 4)], .null),
  (40, .iload_n 2, 41, 0, [], .null),
  (41, .iaload, 42, 0, [], .null),
  (42, .istore_n 2, 43, 0, [], .null),
  (43, .iinc 1 1, 46, 0, [], .int (nI 1)),
  (46, .goto (-28), 49, 0, [(18, 0)], .null),
  (49, .iload_n 1, 50, 0, [], .null),
  (50, .ireturn, 51, 0, [], .null)]
/-- TurnSearch_nodeAfter -/
def ct_42 : List pq_E := [(0, .aload_n 0, 1, 0, [], .null),
  (1, .getfield 26, 4, 0, [(4, 8)], .null),
  (4, .istore_n 3, 5, 0, [], .null),
  (5, .aload_n 0, 6, 0, [], .null),
  (6, .invokevirtual 59, 9, 0, [(4, 41)], .null),
  (9, .iload_n 1, 10, 0, [], .null),
  (10, .isub, 11, 0, [], .null),
  (11, .istore 4, 13, 0, [], .null),
  (13, .iload 4, 15, 0, [], .null),
  (15, .ifCond .le 16, 18, 0, [(31, 0)], .null),
  (18, .aload_n 0, 19, 0, [], .null),
  (19, .getfield 9, 22, 0, [(4, 4)], .null),
  (22, .iload_n 3, 23, 0, [], .null),
  (23, .iaload, 24, 0, [], .null),
  (24, .istore_n 3, 25, 0, [], .null),
  (25, .iinc 4 (-1), 28, 0, [], .int (-1)),
  (28, .goto (-15), 31, 0, [(13, 0)], .null),
  (31, .aload_n 0, 32, 0, [], .null),
  (32, .iload_n 3, 33, 0, [], .null),
  (33, .invokevirtual 33, 36, 1, [(4, 34)], .null),
  (36, .aload_n 0, 37, 0, [], .null),
  (37, .getfield 46, 40, 0, [(4, 3)], .null),
  (40, .iload_n 2, 41, 0, [], .null),
  (41, .iaload, 42, 0, [], .null),
  (42, .ireturn, 43, 0, [], .null)]
/-- TurnSearch_enterAllStarts -/
def ct_43 : List pq_E := [(0, .aload_n 0, 1, 0, [], .null),
  (1, .invokevirtual 29, 4, 0, [(4, 31)], .null),
  (4, .istore_n 1, 5, 0, [], .null),
  (5, .iconst 0, 6, 0, [], .int (nI 0)),
  (6, .istore_n 2, 7, 0, [], .null),
  (7, .iload_n 2, 8, 0, [], .null),
  (8, .iload_n 1, 9, 0, [], .null),
  (9, .if_icmp .ge 19, 12, 0, [(28, 0)], .null),
  (12, .aload_n 0, 13, 0, [], .null),
  (13, .iload_n 2, 14, 0, [], .null),
  (14, .invokevirtual 33, 17, 1, [(4, 34)], .null),
  (17, .aload_n 0, 18, 0, [], .null),
  (18, .iload_n 2, 19, 0, [], .null),
  (19, .invokevirtual 37, 22, 1, [(4, 44)], .null),
  (22, .iinc 2 64, 25, 0, [], .int (nI 64)),
  (25, .goto (-18), 28, 0, [(7, 0)], .null),
  (28, .return_, 29, 0, [], .null)]
/-- TurnSearch_enterStart -/
def ct_44 : List pq_E := [(0, .iconst 1, 1, 0, [], .int (nI 1)),
  (1, .aload_n 0, 2, 0, [], .null),
  (2, .getfield 40, 5, 0, [(4, 0)], .null),
  (5, .ishl, 6, 0, [], .null),
  (6, .iconst 1, 7, 0, [], .int (nI 1)),
  (7, .isub, 8, 0, [], .null),
  (8, .istore_n 2, 9, 0, [], .null),
  (9, .iconst 0, 10, 0, [], .int (nI 0)),
  (10, .istore_n 3, 11, 0, [], .null),
  (11, .iload_n 3, 12, 0, [], .null),
  (12, .aload_n 0, 13, 0, [], .null),
  (13, .getfield 43, 16, 0, [(4, 2)], .null),
  (16, .if_icmp .ge 36, 19, 0, [(52, 0)], .null),
  (19, .aload_n 0, 20, 0, [], .null),
  (20, .getfield 46, 23, 0, [(4, 3)], .null),
  (23, .iload_n 3, 24, 0, [], .null),
  (24, .iaload, 25, 0, [], .null),
  (25, .aload_n 0, 26, 0, [], .null),
  (26, .getfield 40, 29, 0, [(4, 0)], .null),
  (29, .if_icmp .lt 4, 32, 0, [(33, 0)], .null),
  (32, .return_, 33, 0, [], .null),
  (33, .iload_n 2, 34, 0, [], .null),
  (34, .iconst 1, 35, 0, [], .int (nI 1)),
  (35, .aload_n 0, 36, 0, [], .null),
  (36, .getfield 46, 39, 0, [(4, 3)], .null),
  (39, .iload_n 3, 40, 0, [], .null),
  (40, .iaload, 41, 0, [], .null),
  (41, .ishl, 42, 0, [], .null),
  (42, .iconst (-1), 43, 0, [], .int (-1)),
  (43, .ixor, 44, 0, [], .null),
  (44, .iand, 45, 0, [], .null),
  (45, .istore_n 2, 46, 0, [], .null),
  (46, .iinc 3 1, 49, 0, [], .int (nI 1)),
  (49, .goto (-38), 52, 0, [(11, 0)], .null),
  (52, .aload_n 0, 53, 0, [], .null),
  (53, .iload_n 1, 54, 0, [], .null),
  (54, .iload_n 2, 55, 0, [], .null),
  (55, .iadd, 56, 0, [], .null),
  (56, .bipush (-2), 58, 0, [], .int (-2)),
  (58, .invokevirtual 49, 61, 2, [(4, 38)], .null),
  (61, .return_, 62, 0, [], .null)]
/-- MoveSearch_init -/
def ct_45 : List pq_E := [(0, .aload_n 0, 1, 0, [], .null),
  (1, .invokespecial 5, 4, 0, [(2, 28)], .null),
  (4, .aload_n 0, 5, 0, [], .null),
  (5, .sipush 13824, 8, 0, [], .int (nI 13824)),
  (8, .newarray .int, 10, 0, [], .null),
  (10, .putfield 9, 13, 0, [(2, 4)], .null),
  (13, .return_, 14, 0, [], .null)]
/-- MoveSearch_arrive -/
def ct_46 : List pq_E := [(0, .iload_n 2, 1, 0, [], .null),
  (1, .ifCond .ne 4, 4, 0, [(5, 0)], .null),
  (4, .return_, 5, 0, [], .null),
  (5, .aload_n 0, 6, 0, [], .null),
  (6, .getfield 9, 9, 0, [(2, 4)], .null),
  (9, .iload_n 1, 10, 0, [], .null),
  (10, .iaload, 11, 0, [], .null),
  (11, .istore_n 3, 12, 0, [], .null),
  (12, .iload_n 3, 13, 0, [], .null),
  (13, .iconst (-1), 14, 0, [], .int (-1)),
  (14, .if_icmp .eq 13, 17, 0, [(27, 0)], .null),
  (17, .iload_n 3, 18, 0, [], .null),
  (18, .aload_n 0, 19, 0, [], .null),
  (19, .getfield 24, 22, 0, [(2, 5)], .null),
  (22, .iload_n 2, 23, 0, [], .null),
  (23, .iadd, 24, 0, [], .null),
  (24, .if_icmp .le 32, 27, 0, [(56, 0)], .null),
  (27, .aload_n 0, 28, 0, [], .null),
  (28, .getfield 9, 31, 0, [(2, 4)], .null),
  (31, .iload_n 1, 32, 0, [], .null),
  (32, .aload_n 0, 33, 0, [], .null),
  (33, .getfield 24, 36, 0, [(2, 5)], .null),
  (36, .iload_n 2, 37, 0, [], .null),
  (37, .iadd, 38, 0, [], .null),
  (38, .iastore, 39, 0, [], .null),
  (39, .aload_n 0, 40, 0, [], .null),
  (40, .aload_n 0, 41, 0, [], .null),
  (41, .getfield 19, 44, 0, [(2, 6)], .null),
  (44, .aload_n 0, 45, 0, [], .null),
  (45, .getfield 24, 48, 0, [(2, 5)], .null),
  (48, .iload_n 2, 49, 0, [], .null),
  (49, .iadd, 50, 0, [], .null),
  (50, .invokestatic 39, 53, 0, [(1, 0)], .null),
  (53, .putfield 19, 56, 0, [(2, 6)], .null),
  (56, .return_, 57, 0, [], .null)]
/-- MoveSearch_fewestMoves -/
def ct_47 : List pq_E := [(0, .aload_n 0, 1, 0, [], .null),
  (1, .aload_n 0, 2, 0, [], .null),
  (2, .getfield 9, 5, 0, [(2, 4)], .null),
  (5, .invokevirtual 15, 8, 1, [(2, 30)], .null),
  (8, .aload_n 0, 9, 0, [], .null),
  (9, .getfield 9, 12, 0, [(2, 4)], .null),
  (12, .iload_n 1, 13, 0, [], .null),
  (13, .iconst 0, 14, 0, [], .int (nI 0)),
  (14, .iastore, 15, 0, [], .null),
  (15, .aload_n 0, 16, 0, [], .null),
  (16, .iconst 0, 17, 0, [], .int (nI 0)),
  (17, .putfield 19, 20, 0, [(2, 6)], .null),
  (20, .iconst 0, 21, 0, [], .int (nI 0)),
  (21, .istore_n 2, 22, 0, [], .null),
  (22, .iload_n 2, 23, 0, [], .null),
  (23, .aload_n 0, 24, 0, [], .null),
  (24, .getfield 19, 27, 0, [(2, 6)], .null),
  (27, .if_icmp .gt 32, 30, 0, [(59, 0)], .null),
  (30, .iload_n 2, 31, 0, [], .null),
  (31, .ldc 23, 33, 0, [], .int (nI 41472)),
  (33, .if_icmp .gt 26, 36, 0, [(59, 0)], .null),
  (36, .aload_n 0, 37, 0, [], .null),
  (37, .iload_n 2, 38, 0, [], .null),
  (38, .putfield 24, 41, 0, [(2, 5)], .null),
  (41, .aload_n 0, 42, 0, [], .null),
  (42, .invokevirtual 27, 45, 0, [(2, 48)], .null),
  (45, .ifCond .eq 8, 48, 0, [(53, 0)], .null),
  (48, .aload_n 0, 49, 0, [], .null),
  (49, .getfield 24, 52, 0, [(2, 5)], .null),
  (52, .ireturn, 53, 0, [], .null),
  (53, .iinc 2 1, 56, 0, [], .int (nI 1)),
  (56, .goto (-34), 59, 0, [(22, 0)], .null),
  (59, .bipush (-4), 61, 0, [], .int (-4)),
  (61, .ireturn, 62, 0, [], .null)]
/-- MoveSearch_expandAllAtPrice -/
def ct_48 : List pq_E := [(0, .aload_n 0, 1, 0, [], .null),
  (1, .invokevirtual 31, 4, 0, [(2, 31)], .null),
  (4, .istore_n 1, 5, 0, [], .null),
  (5, .iconst 0, 6, 0, [], .int (nI 0)),
  (6, .istore_n 2, 7, 0, [], .null),
  (7, .iload_n 2, 8, 0, [], .null),
  (8, .iload_n 1, 9, 0, [], .null),
  (9, .if_icmp .ge 36, 12, 0, [(45, 0)], .null),
  (12, .aload_n 0, 13, 0, [], .null),
  (13, .getfield 9, 16, 0, [(2, 4)], .null),
  (16, .iload_n 2, 17, 0, [], .null),
  (17, .iaload, 18, 0, [], .null),
  (18, .aload_n 0, 19, 0, [], .null),
  (19, .getfield 24, 22, 0, [(2, 5)], .null),
  (22, .if_icmp .ne 17, 25, 0, [(39, 0)], .null),
  (25, .iload_n 2, 26, 0, [], .null),
  (26, .bipush 64, 28, 0, [], .int (nI 64)),
  (28, .irem, 29, 0, [], .null),
  (29, .ifCond .ne 5, 32, 0, [(34, 0)], .null),
  (32, .iconst 1, 33, 0, [], .int (nI 1)),
  (33, .ireturn, 34, 1, [], .null),
  (34, .aload_n 0, 35, 0, [], .null),
  (35, .iload_n 2, 36, 0, [], .null),
  (36, .invokevirtual 35, 39, 1, [(2, 33)], .null),
  (39, .iinc 2 1, 42, 0, [], .int (nI 1)),
  (42, .goto (-35), 45, 0, [(7, 0)], .null),
  (45, .iconst 0, 46, 0, [], .int (nI 0)),
  (46, .ireturn, 47, 1, [], .null)]
/-- State_init -/
def ct_49 : List pq_E := [(0, .aload_n 0, 1, 0, [], .null),
  (1, .invokespecial 3, 4, 0, [], .null),
  (4, .aload_n 0, 5, 0, [], .null),
  (5, .iconst 3, 6, 0, [], .int (nI 3)),
  (6, .newarray .int, 8, 0, [], .null),
  (8, .putfield 9, 11, 0, [(3, 3)], .null),
  (11, .aload_n 0, 12, 0, [], .null),
  (12, .iconst 3, 13, 0, [], .int (nI 3)),
  (13, .newarray .int, 15, 0, [], .null),
  (15, .putfield 15, 18, 0, [(3, 4)], .null),
  (18, .aload_n 0, 19, 0, [], .null),
  (19, .new 18, 22, 0, [(0, 0)], .null),
  (22, .dup, 23, 0, [], .null),
  (23, .invokespecial 20, 26, 0, [(0, 10)], .null),
  (26, .putfield 21, 29, 0, [(3, 8)], .null),
  (29, .aload_n 0, 30, 0, [], .null),
  (30, .new 25, 33, 0, [(1, 0)], .null),
  (33, .dup, 34, 0, [], .null),
  (34, .invokespecial 27, 37, 0, [(1, 19)], .null),
  (37, .putfield 28, 40, 0, [(3, 9)], .null),
  (40, .return_, 41, 0, [], .null)]
/-- State_startAnew -/
def ct_50 : List pq_E := [(0, .aload_n 0, 1, 0, [], .null),
  (1, .iload_n 1, 2, 0, [], .null),
  (2, .putfield 32, 5, 0, [(3, 0)], .null),
  (5, .aload_n 0, 6, 0, [], .null),
  (6, .iload_n 1, 7, 0, [], .null),
  (7, .invokestatic 65, 10, 1, [(0, 1)], .null),
  (10, .putfield 36, 13, 0, [(3, 1)], .null),
  (13, .aload_n 0, 14, 0, [], .null),
  (14, .iconst 0, 15, 0, [], .int (nI 0)),
  (15, .putfield 40, 18, 0, [(3, 2)], .null),
  (18, .aload_n 0, 19, 0, [], .null),
  (19, .iconst 0, 20, 0, [], .int (nI 0)),
  (20, .putfield 49, 23, 0, [(3, 5)], .null),
  (23, .aload_n 0, 24, 0, [], .null),
  (24, .getfield 28, 27, 0, [(3, 9)], .null),
  (27, .iconst 0, 28, 0, [], .int (nI 0)),
  (28, .putfield 71, 31, 0, [(1, 0)], .null),
  (31, .aload_n 0, 32, 0, [], .null),
  (32, .invokevirtual 75, 35, 0, [(3, 51)], .null),
  (35, .return_, 36, 0, [], .null)]
/-- State_forgetBeliefs -/
def ct_51 : List pq_E := [(0, .aload_n 0, 1, 0, [], .null),
  (1, .getfield 21, 4, 0, [(3, 8)], .null),
  (4, .aload_n 0, 5, 0, [], .null),
  (5, .getfield 49, 8, 0, [(3, 5)], .null),
  (8, .iconst 1, 9, 0, [], .int (nI 1)),
  (9, .aload_n 0, 10, 0, [], .null),
  (10, .getfield 32, 13, 0, [(3, 0)], .null),
  (13, .ishl, 14, 0, [], .null),
  (14, .iconst 1, 15, 0, [], .int (nI 1)),
  (15, .isub, 16, 0, [], .null),
  (16, .aload_n 0, 17, 0, [], .null),
  (17, .invokevirtual 78, 20, 0, [(3, 52)], .null),
  (20, .iconst (-1), 21, 0, [], .int (-1)),
  (21, .ixor, 22, 0, [], .null),
  (22, .iand, 23, 0, [], .null),
  (23, .invokevirtual 82, 26, 2, [(0, 11)], .null),
  (26, .return_, 27, 0, [], .null)]
/-- State_occupied -/
def ct_52 : List pq_E := [(0, .iconst 0, 1, 0, [], .int (nI 0)),
  (1, .istore_n 1, 2, 0, [], .null),
  (2, .iconst 0, 3, 0, [], .int (nI 0)),
  (3, .istore_n 2, 4, 0, [], .null),
  (4, .iload_n 2, 5, 0, [], .null),
  (5, .aload_n 0, 6, 0, [], .null),
  (6, .getfield 40, 9, 0, [(3, 2)], .null),
  (9, .if_icmp .ge 20, 12, 0, [(29, 0)], .null),
  (12, .iload_n 1, 13, 0, [], .null),
  (13, .iconst 1, 14, 0, [], .int (nI 1)),
  (14, .aload_n 0, 15, 0, [], .null),
  (15, .getfield 9, 18, 0, [(3, 3)], .null),
  (18, .iload_n 2, 19, 0, [], .null),
  (19, .iaload, 20, 0, [], .null),
  (20, .ishl, 21, 0, [], .null),
  (21, .ior, 22, 0, [], .null),
  (22, .istore_n 1, 23, 0, [], .null),
  (23, .iinc 2 1, 26, 0, [], .int (nI 1)),
  (26, .goto (-22), 29, 0, [(4, 0)], .null),
  (29, .iload_n 1, 30, 0, [], .null),
  (30, .ireturn, 31, 0, [], .null)]
/-- State_copyFrom -/
def ct_53 : List pq_E := [(0, .aload_n 0, 1, 0, [], .null),
  (1, .aload_n 1, 2, 0, [], .null),
  (2, .getfield 32, 5, 0, [(3, 0)], .null),
  (5, .putfield 32, 8, 0, [(3, 0)], .null),
  (8, .aload_n 0, 9, 0, [], .null),
  (9, .aload_n 1, 10, 0, [], .null),
  (10, .getfield 36, 13, 0, [(3, 1)], .null),
  (13, .putfield 36, 16, 0, [(3, 1)], .null),
  (16, .aload_n 0, 17, 0, [], .null),
  (17, .aload_n 1, 18, 0, [], .null),
  (18, .getfield 40, 21, 0, [(3, 2)], .null),
  (21, .putfield 40, 24, 0, [(3, 2)], .null),
  (24, .aload_n 1, 25, 0, [], .null),
  (25, .getfield 9, 28, 0, [(3, 3)], .null),
  (28, .iconst 0, 29, 0, [], .int (nI 0)),
  (29, .aload_n 0, 30, 0, [], .null),
  (30, .getfield 9, 33, 0, [(3, 3)], .null),
  (33, .iconst 0, 34, 0, [], .int (nI 0)),
  (34, .iconst 3, 35, 0, [], .int (nI 3)),
  (35, .invokestatic 43, 38, 0, [], .null),
  (38, .aload_n 1, 39, 0, [], .null),
  (39, .getfield 15, 42, 0, [(3, 4)], .null),
  (42, .iconst 0, 43, 0, [], .int (nI 0)),
  (43, .aload_n 0, 44, 0, [], .null),
  (44, .getfield 15, 47, 0, [(3, 4)], .null),
  (47, .iconst 0, 48, 0, [], .int (nI 0)),
  (48, .iconst 3, 49, 0, [], .int (nI 3)),
  (49, .invokestatic 43, 52, 0, [], .null),
  (52, .aload_n 0, 53, 0, [], .null),
  (53, .aload_n 1, 54, 0, [], .null),
  (54, .getfield 49, 57, 0, [(3, 5)], .null),
  (57, .putfield 49, 60, 0, [(3, 5)], .null),
  (60, .aload_n 0, 61, 0, [], .null),
  (61, .aload_n 1, 62, 0, [], .null),
  (62, .getfield 52, 65, 0, [(3, 6)], .null),
  (65, .putfield 52, 68, 0, [(3, 6)], .null),
  (68, .aload_n 0, 69, 0, [], .null),
  (69, .aload_n 1, 70, 0, [], .null),
  (70, .getfield 55, 73, 0, [(3, 7)], .null),
  (73, .putfield 55, 76, 0, [(3, 7)], .null),
  (76, .aload_n 0, 77, 0, [], .null),
  (77, .getfield 21, 80, 0, [(3, 8)], .null),
  (80, .aload_n 1, 81, 0, [], .null),
  (81, .getfield 21, 84, 0, [(3, 8)], .null),
  (84, .invokevirtual 58, 87, 1, [(0, 13)], .null),
  (87, .aload_n 0, 88, 0, [], .null),
  (88, .getfield 28, 91, 0, [(3, 9)], .null),
  (91, .aload_n 1, 92, 0, [], .null),
  (92, .getfield 28, 95, 0, [(3, 9)], .null),
  (95, .invokevirtual 62, 98, 1, [(1, 20)], .null),
  (98, .return_, 99, 0, [], .null)]
/-- State_joins -/
def ct_54 : List pq_E := [(0, .aload_n 0, 1, 0, [], .null),
  (1, .getfield 36, 4, 0, [(3, 1)], .null),
  (4, .iload_n 1, 5, 0, [], .null),
  (5, .iload_n 2, 6, 0, [], .null),
  (6, .invokestatic 86, 9, 2, [(0, 2)], .null),
  (9, .land, 10, 0, [], .null),
  (10, .lconst 0, 11, 0, [], .long (lN 0)),
  (11, .lcmp, 12, 0, [], .null),
  (12, .ifCond .eq 7, 15, 0, [(19, 0)], .null),
  (15, .iconst 1, 16, 0, [], .int (nI 1)),
  (16, .goto 4, 19, 0, [(20, 0)], .null),
  (19, .iconst 0, 20, 0, [], .int (nI 0)),
  (20, .ireturn, 21, 1, [], .null)]
/-- State_cut -/
def ct_55 : List pq_E := [(0, .aload_n 0, 1, 0, [], .null),
  (1, .dup, 2, 0, [], .null),
  (2, .getfield 36, 5, 0, [(3, 1)], .null),
  (5, .iload_n 1, 6, 0, [], .null),
  (6, .iload_n 2, 7, 0, [], .null),
  (7, .invokestatic 101, 10, 2, [(0, 3)], .null),
  (10, .ldc2_w 99, 13, 0, [], .long (-1)),
  (13, .lxor, 14, 0, [], .null),
  (14, .land, 15, 0, [], .null),
  (15, .putfield 36, 18, 0, [(3, 1)], .null),
  (18, .iconst 0, 19, 0, [], .int (nI 0)),
  (19, .istore_n 3, 20, 0, [], .null),
  (20, .iload_n 3, 21, 0, [], .null),
  (21, .aload_n 0, 22, 0, [], .null),
  (22, .getfield 40, 25, 0, [(3, 2)], .null),
  (25, .if_icmp .ge 40, 28, 0, [(65, 0)], .null),
  (28, .aload_n 0, 29, 0, [], .null),
  (29, .aload_n 0, 30, 0, [], .null),
  (30, .getfield 9, 33, 0, [(3, 3)], .null),
  (33, .iload_n 3, 34, 0, [], .null),
  (34, .iaload, 35, 0, [], .null),
  (35, .aload_n 0, 36, 0, [], .null),
  (36, .getfield 15, 39, 0, [(3, 4)], .null),
  (39, .iload_n 3, 40, 0, [], .null),
  (40, .iaload, 41, 0, [], .null),
  (41, .invokevirtual 104, 44, 2, [(3, 54)], .null),
  (44, .ifCond .ne 15, 47, 0, [(59, 0)], .null),
  (47, .aload_n 0, 48, 0, [], .null),
  (48, .getfield 15, 51, 0, [(3, 4)], .null),
  (51, .iload_n 3, 52, 0, [], .null),
  (52, .aload_n 0, 53, 0, [], .null),
  (53, .getfield 9, 56, 0, [(3, 3)], .null),
  (56, .iload_n 3, 57, 0, [], .null),
  (57, .iaload, 58, 0, [], .null),
  (58, .iastore, 59, 0, [], .null),
  (59, .iinc 3 1, 62, 0, [], .int (nI 1)),
  (62, .goto (-42), 65, 0, [(20, 0)], .null),
  (65, .aload_n 0, 66, 0, [], .null),
  (66, .getfield 28, 69, 0, [(3, 9)], .null),
  (69, .getfield 71, 72, 0, [(1, 0)], .null),
  (72, .ifCond .eq 38, 75, 0, [(110, 0)], .null),
  (75, .aload_n 0, 76, 0, [], .null),
  (76, .aload_n 0, 77, 0, [], .null),
  (77, .getfield 28, 80, 0, [(3, 9)], .null),
  (80, .getfield 108, 83, 0, [(1, 1)], .null),
  (83, .aload_n 0, 84, 0, [], .null),
  (84, .getfield 28, 87, 0, [(3, 9)], .null),
  (87, .getfield 111, 90, 0, [(1, 2)], .null),
  (90, .invokevirtual 104, 93, 2, [(3, 54)], .null),
  (93, .ifCond .ne 17, 96, 0, [(110, 0)], .null),
  (96, .aload_n 0, 97, 0, [], .null),
  (97, .getfield 28, 100, 0, [(3, 9)], .null),
  (100, .aload_n 0, 101, 0, [], .null),
  (101, .getfield 28, 104, 0, [(3, 9)], .null),
  (104, .getfield 108, 107, 0, [(1, 1)], .null),
  (107, .putfield 111, 110, 0, [(1, 2)], .null),
  (110, .return_, 111, 0, [], .null)]
/-- State_replaceEdges -/
def ct_56 : List pq_E := [(0, .aload_n 0, 1, 0, [], .null),
  (1, .aload_n 0, 2, 0, [], .null),
  (2, .getfield 32, 5, 0, [(3, 0)], .null),
  (5, .invokestatic 65, 8, 1, [(0, 1)], .null),
  (8, .lload_n 1, 9, 0, [], .null),
  (9, .lor, 10, 0, [], .null),
  (10, .putfield 36, 13, 0, [(3, 1)], .null),
  (13, .aload_n 0, 14, 0, [], .null),
  (14, .getfield 9, 17, 0, [(3, 3)], .null),
  (17, .iconst 0, 18, 0, [], .int (nI 0)),
  (18, .aload_n 0, 19, 0, [], .null),
  (19, .getfield 15, 22, 0, [(3, 4)], .null),
  (22, .iconst 0, 23, 0, [], .int (nI 0)),
  (23, .iconst 3, 24, 0, [], .int (nI 3)),
  (24, .invokestatic 43, 27, 0, [], .null),
  (27, .aload_n 0, 28, 0, [], .null),
  (28, .getfield 28, 31, 0, [(3, 9)], .null),
  (31, .aload_n 0, 32, 0, [], .null),
  (32, .getfield 28, 35, 0, [(3, 9)], .null),
  (35, .getfield 108, 38, 0, [(1, 1)], .null),
  (38, .putfield 111, 41, 0, [(1, 2)], .null),
  (41, .aload_n 0, 42, 0, [], .null),
  (42, .invokevirtual 75, 45, 0, [(3, 51)], .null),
  (45, .return_, 46, 0, [], .null)]
/-- State_edges -/
def ct_57 : List pq_E := [(0, .aload_n 0, 1, 0, [], .null),
  (1, .getfield 36, 4, 0, [(3, 1)], .null),
  (4, .invokestatic 90, 7, 1, [(0, 0)], .null),
  (7, .aload_n 0, 8, 0, [], .null),
  (8, .getfield 32, 11, 0, [(3, 0)], .null),
  (11, .isub, 12, 0, [], .null),
  (12, .iconst 2, 13, 0, [], .int (nI 2)),
  (13, .idiv, 14, 0, [], .null),
  (14, .ireturn, 15, 0, [], .null)]
/-- State_addSearcher -/
def ct_58 : List pq_E := [(0, .aload_n 0, 1, 0, [], .null),
  (1, .getfield 9, 4, 0, [(3, 3)], .null),
  (4, .aload_n 0, 5, 0, [], .null),
  (5, .getfield 40, 8, 0, [(3, 2)], .null),
  (8, .iload_n 1, 9, 0, [], .null),
  (9, .iastore, 10, 0, [], .null),
  (10, .aload_n 0, 11, 0, [], .null),
  (11, .getfield 15, 14, 0, [(3, 4)], .null),
  (14, .aload_n 0, 15, 0, [], .null),
  (15, .getfield 40, 18, 0, [(3, 2)], .null),
  (18, .iload_n 1, 19, 0, [], .null),
  (19, .iastore, 20, 0, [], .null),
  (20, .aload_n 0, 21, 0, [], .null),
  (21, .dup, 22, 0, [], .null),
  (22, .getfield 40, 25, 0, [(3, 2)], .null),
  (25, .iconst 1, 26, 0, [], .int (nI 1)),
  (26, .iadd, 27, 0, [], .null),
  (27, .putfield 40, 30, 0, [(3, 2)], .null),
  (30, .aload_n 0, 31, 0, [], .null),
  (31, .getfield 21, 34, 0, [(3, 8)], .null),
  (34, .iload_n 1, 35, 0, [], .null),
  (35, .invokevirtual 113, 38, 1, [(0, 14)], .null),
  (38, .aload_n 0, 39, 0, [], .null),
  (39, .getfield 28, 42, 0, [(3, 9)], .null),
  (42, .invokevirtual 117, 45, 0, [(1, 21)], .null),
  (45, .ifCond .eq 26, 48, 0, [(71, 0)], .null),
  (48, .aload_n 0, 49, 0, [], .null),
  (49, .getfield 28, 52, 0, [(3, 9)], .null),
  (52, .getfield 108, 55, 0, [(1, 1)], .null),
  (55, .iload_n 1, 56, 0, [], .null),
  (56, .if_icmp .ne 15, 59, 0, [(71, 0)], .null),
  (59, .aload_n 0, 60, 0, [], .null),
  (60, .getfield 28, 63, 0, [(3, 9)], .null),
  (63, .iload_n 1, 64, 0, [], .null),
  (64, .aload_n 0, 65, 0, [], .null),
  (65, .getfield 49, 68, 0, [(3, 5)], .null),
  (68, .invokevirtual 121, 71, 2, [(1, 22)], .null),
  (71, .return_, 72, 0, [], .null)]
/-- State_makeTurn -/
def ct_59 : List pq_E := [(0, .aload_n 0, 1, 0, [], .null),
  (1, .aload_n 0, 2, 0, [], .null),
  (2, .getfield 15, 5, 0, [(3, 4)], .null),
  (5, .invokevirtual 124, 8, 1, [(3, 60)], .null),
  (8, .lstore_n 1, 9, 0, [], .null),
  (9, .aload_n 0, 10, 0, [], .null),
  (10, .dup, 11, 0, [], .null),
  (11, .getfield 49, 14, 0, [(3, 5)], .null),
  (14, .iconst 1, 15, 0, [], .int (nI 1)),
  (15, .iadd, 16, 0, [], .null),
  (16, .putfield 49, 19, 0, [(3, 5)], .null),
  (19, .aload_n 0, 20, 0, [], .null),
  (20, .getfield 21, 23, 0, [(3, 8)], .null),
  (23, .lload_n 1, 24, 0, [], .null),
  (24, .invokevirtual 128, 27, 1, [(0, 18)], .null),
  (27, .aload_n 0, 28, 0, [], .null),
  (28, .getfield 28, 31, 0, [(3, 9)], .null),
  (31, .invokevirtual 117, 34, 0, [(1, 21)], .null),
  (34, .ifCond .eq 15, 37, 0, [(49, 0)], .null),
  (37, .aload_n 0, 38, 0, [], .null),
  (38, .getfield 28, 41, 0, [(3, 9)], .null),
  (41, .lload_n 1, 42, 0, [], .null),
  (42, .aload_n 0, 43, 0, [], .null),
  (43, .getfield 49, 46, 0, [(3, 5)], .null),
  (46, .invokevirtual 132, 49, 2, [(1, 24)], .null),
  (49, .aload_n 0, 50, 0, [], .null),
  (50, .getfield 15, 53, 0, [(3, 4)], .null),
  (53, .iconst 0, 54, 0, [], .int (nI 0)),
  (54, .aload_n 0, 55, 0, [], .null),
  (55, .getfield 9, 58, 0, [(3, 3)], .null),
  (58, .iconst 0, 59, 0, [], .int (nI 0)),
  (59, .iconst 3, 60, 0, [], .int (nI 3)),
  (60, .invokestatic 43, 63, 0, [], .null),
  (63, .return_, 64, 0, [], .null)]
/-- State_freeWays -/
def ct_60 : List pq_E := [(0, .aload_n 0, 1, 0, [], .null),
  (1, .getfield 36, 4, 0, [(3, 1)], .null),
  (4, .lstore_n 2, 5, 0, [], .null),
  (5, .iconst 0, 6, 0, [], .int (nI 0)),
  (6, .istore 4, 8, 0, [], .null),
  (8, .iload 4, 10, 0, [], .null),
  (10, .aload_n 0, 11, 0, [], .null),
  (11, .getfield 40, 14, 0, [(3, 2)], .null),
  (14, .if_icmp .ge 30, 17, 0, [(44, 0)], .null),
  (17, .lload_n 2, 18, 0, [], .null),
  (18, .aload_n 0, 19, 0, [], .null),
  (19, .getfield 9, 22, 0, [(3, 3)], .null),
  (22, .iload 4, 24, 0, [], .null),
  (24, .iaload, 25, 0, [], .null),
  (25, .aload_n 1, 26, 0, [], .null),
  (26, .iload 4, 28, 0, [], .null),
  (28, .iaload, 29, 0, [], .null),
  (29, .invokestatic 96, 32, 2, [(0, 8)], .null),
  (32, .ldc2_w 99, 35, 0, [], .long (-1)),
  (35, .lxor, 36, 0, [], .null),
  (36, .land, 37, 0, [], .null),
  (37, .lstore_n 2, 38, 0, [], .null),
  (38, .iinc 4 1, 41, 0, [], .int (nI 1)),
  (41, .goto (-33), 44, 0, [(8, 0)], .null),
  (44, .lload_n 2, 45, 0, [], .null),
  (45, .lreturn, 46, 0, [], .null)]
/-- State_giveNews -/
def ct_61 : List pq_E := [(0, .aload_n 0, 1, 0, [], .null),
  (1, .getfield 28, 4, 0, [(3, 9)], .null),
  (4, .invokevirtual 117, 7, 0, [(1, 21)], .null),
  (7, .ifCond .eq 33, 10, 0, [(40, 0)], .null),
  (10, .aload_n 0, 11, 0, [], .null),
  (11, .getfield 52, 14, 0, [(3, 6)], .null),
  (14, .ifCond .le 26, 17, 0, [(40, 0)], .null),
  (17, .aload_n 0, 18, 0, [], .null),
  (18, .getfield 49, 21, 0, [(3, 5)], .null),
  (21, .aload_n 0, 22, 0, [], .null),
  (22, .getfield 52, 25, 0, [(3, 6)], .null),
  (25, .irem, 26, 0, [], .null),
  (26, .ifCond .ne 14, 29, 0, [(40, 0)], .null),
  (29, .aload_n 0, 30, 0, [], .null),
  (30, .getfield 49, 33, 0, [(3, 5)], .null),
  (33, .aload_n 0, 34, 0, [], .null),
  (34, .getfield 55, 37, 0, [(3, 7)], .null),
  (37, .if_icmp .ge 4, 40, 0, [(41, 0)], .null),
  (40, .return_, 41, 0, [], .null),
  (41, .aload_n 0, 42, 0, [], .null),
  (42, .getfield 49, 45, 0, [(3, 5)], .null),
  (45, .aload_n 0, 46, 0, [], .null),
  (46, .getfield 55, 49, 0, [(3, 7)], .null),
  (49, .isub, 50, 0, [], .null),
  (50, .istore_n 1, 51, 0, [], .null),
  (51, .aload_n 0, 52, 0, [], .null),
  (52, .getfield 21, 55, 0, [(3, 8)], .null),
  (55, .iload_n 1, 56, 0, [], .null),
  (56, .invokevirtual 136, 59, 1, [(0, 16)], .null),
  (59, .ifCond .eq 30, 62, 0, [(89, 0)], .null),
  (62, .aload_n 0, 63, 0, [], .null),
  (63, .getfield 28, 66, 0, [(3, 9)], .null),
  (66, .getfield 140, 69, 0, [(1, 5)], .null),
  (69, .iload_n 1, 70, 0, [], .null),
  (70, .if_icmp .gt 19, 73, 0, [(89, 0)], .null),
  (73, .aload_n 0, 74, 0, [], .null),
  (74, .getfield 21, 77, 0, [(3, 8)], .null),
  (77, .iload_n 1, 78, 0, [], .null),
  (78, .aload_n 0, 79, 0, [], .null),
  (79, .getfield 28, 82, 0, [(3, 9)], .null),
  (82, .iload_n 1, 83, 0, [], .null),
  (83, .invokevirtual 143, 86, 1, [(1, 25)], .null),
  (86, .invokevirtual 147, 89, 2, [(0, 17)], .null),
  (89, .return_, 90, 0, [], .null)]
/-- PursuitDesk_init -/
def ct_62 : List pq_E := [(0, .aload_n 0, 1, 0, [], .null),
  (1, .invokespecial 1, 4, 0, [], .null),
  (4, .aload_n 0, 5, 0, [], .null),
  (5, .new 7, 8, 0, [(3, 0)], .null),
  (8, .dup, 9, 0, [], .null),
  (9, .invokespecial 9, 12, 0, [(3, 49)], .null),
  (12, .putfield 10, 15, 0, [(5, 0)], .null),
  (15, .aload_n 0, 16, 0, [], .null),
  (16, .iconst 5, 17, 0, [], .int (nI 5)),
  (17, .anewarray 7, 20, 0, [(3, 0)], .null),
  (20, .putfield 16, 23, 0, [(5, 1)], .null),
  (23, .iconst 0, 24, 0, [], .int (nI 0)),
  (24, .istore_n 1, 25, 0, [], .null),
  (25, .iload_n 1, 26, 0, [], .null),
  (26, .iconst 5, 27, 0, [], .int (nI 5)),
  (27, .if_icmp .ge 22, 30, 0, [(49, 0)], .null),
  (30, .aload_n 0, 31, 0, [], .null),
  (31, .getfield 16, 34, 0, [(5, 1)], .null),
  (34, .iload_n 1, 35, 0, [], .null),
  (35, .new 7, 38, 0, [(3, 0)], .null),
  (38, .dup, 39, 0, [], .null),
  (39, .invokespecial 9, 42, 0, [(3, 49)], .null),
  (42, .aastore, 43, 0, [], .null),
  (43, .iinc 1 1, 46, 0, [], .int (nI 1)),
  (46, .goto (-21), 49, 0, [(25, 0)], .null),
  (49, .aload_n 0, 50, 0, [], .null),
  (50, .bipush 60, 52, 0, [], .int (nI 60)),
  (52, .newarray .char, 54, 0, [], .null),
  (54, .putfield 20, 57, 0, [(5, 3)], .null),
  (57, .aload_n 0, 58, 0, [], .null),
  (58, .new 24, 61, 0, [(4, 0)], .null),
  (61, .dup, 62, 0, [], .null),
  (62, .invokespecial 26, 65, 0, [(4, 36)], .null),
  (65, .putfield 27, 68, 0, [(5, 5)], .null),
  (68, .aload_n 0, 69, 0, [], .null),
  (69, .new 24, 72, 0, [(4, 0)], .null),
  (72, .dup, 73, 0, [], .null),
  (73, .invokespecial 26, 76, 0, [(4, 36)], .null),
  (76, .putfield 31, 79, 0, [(5, 7)], .null),
  (79, .aload_n 0, 80, 0, [], .null),
  (80, .new 34, 83, 0, [(2, 0)], .null),
  (83, .dup, 84, 0, [], .null),
  (84, .invokespecial 36, 87, 0, [(2, 45)], .null),
  (87, .putfield 37, 90, 0, [(5, 8)], .null),
  (90, .aload_n 0, 91, 0, [], .null),
  (91, .getfield 10, 94, 0, [(5, 0)], .null),
  (94, .iconst 4, 95, 0, [], .int (nI 4)),
  (95, .invokevirtual 41, 98, 1, [(3, 50)], .null),
  (98, .return_, 99, 0, [], .null)]
/-- PursuitDesk_reset -/
def ct_63 : List pq_E := [(0, .iload_n 1, 1, 0, [], .null),
  (1, .iconst 2, 2, 0, [], .int (nI 2)),
  (2, .if_icmp .lt 9, 5, 0, [(11, 0)], .null),
  (5, .iload_n 1, 6, 0, [], .null),
  (6, .bipush 6, 8, 0, [], .int (nI 6)),
  (8, .if_icmp .le 5, 11, 0, [(13, 0)], .null),
  (11, .iconst (-1), 12, 0, [], .int (-1)),
  (12, .ireturn, 13, 0, [], .null),
  (13, .aload_n 0, 14, 0, [], .null),
  (14, .invokevirtual 45, 17, 0, [(5, 64)], .null),
  (17, .aload_n 0, 18, 0, [], .null),
  (18, .getfield 10, 21, 0, [(5, 0)], .null),
  (21, .getfield 48, 24, 0, [(3, 0)], .null),
  (24, .istore_n 2, 25, 0, [], .null),
  (25, .aload_n 0, 26, 0, [], .null),
  (26, .getfield 10, 29, 0, [(5, 0)], .null),
  (29, .iload_n 1, 30, 0, [], .null),
  (30, .invokevirtual 41, 33, 1, [(3, 50)], .null),
  (33, .iload_n 2, 34, 0, [], .null),
  (34, .ireturn, 35, 0, [], .null)]
/-- PursuitDesk_remember -/
def ct_64 : List pq_E := [(0, .aload_n 0, 1, 0, [], .null),
  (1, .getfield 139, 4, 0, [(5, 2)], .null),
  (4, .iconst 5, 5, 0, [], .int (nI 5)),
  (5, .if_icmp .lt 7, 8, 0, [(12, 0)], .null),
  (8, .aload_n 0, 9, 0, [], .null),
  (9, .invokevirtual 228, 12, 0, [(5, 65)], .null),
  (12, .aload_n 0, 13, 0, [], .null),
  (13, .getfield 16, 16, 0, [(5, 1)], .null),
  (16, .aload_n 0, 17, 0, [], .null),
  (17, .getfield 139, 20, 0, [(5, 2)], .null),
  (20, .aaload, 21, 0, [], .null),
  (21, .aload_n 0, 22, 0, [], .null),
  (22, .getfield 10, 25, 0, [(5, 0)], .null),
  (25, .invokevirtual 142, 28, 1, [(3, 53)], .null),
  (28, .aload_n 0, 29, 0, [], .null),
  (29, .dup, 30, 0, [], .null),
  (30, .getfield 139, 33, 0, [(5, 2)], .null),
  (33, .iconst 1, 34, 0, [], .int (nI 1)),
  (34, .iadd, 35, 0, [], .null),
  (35, .putfield 139, 38, 0, [(5, 2)], .null),
  (38, .aload_n 0, 39, 0, [], .null),
  (39, .iconst 0, 40, 0, [], .int (nI 0)),
  (40, .putfield 146, 43, 0, [(5, 6)], .null),
  (43, .return_, 44, 0, [], .null)]
/-- PursuitDesk_dropOldest -/
def ct_65 : List pq_E := [(0, .aload_n 0, 1, 0, [], .null),
  (1, .getfield 16, 4, 0, [(5, 1)], .null),
  (4, .iconst 0, 5, 0, [], .int (nI 0)),
  (5, .aaload, 6, 0, [], .null),
  (6, .astore_n 1, 7, 0, [], .null),
  (7, .iconst 1, 8, 0, [], .int (nI 1)),
  (8, .istore_n 2, 9, 0, [], .null),
  (9, .iload_n 2, 10, 0, [], .null),
  (10, .iconst 5, 11, 0, [], .int (nI 5)),
  (11, .if_icmp .ge 23, 14, 0, [(34, 0)], .null),
  (14, .aload_n 0, 15, 0, [], .null),
  (15, .getfield 16, 18, 0, [(5, 1)], .null),
  (18, .iload_n 2, 19, 0, [], .null),
  (19, .iconst 1, 20, 0, [], .int (nI 1)),
  (20, .isub, 21, 0, [], .null),
  (21, .aload_n 0, 22, 0, [], .null),
  (22, .getfield 16, 25, 0, [(5, 1)], .null),
  (25, .iload_n 2, 26, 0, [], .null),
  (26, .aaload, 27, 0, [], .null),
  (27, .aastore, 28, 0, [], .null),
  (28, .iinc 2 1, 31, 0, [], .int (nI 1)),
  (31, .goto (-22), 34, 0, [(9, 0)], .null),
  (34, .aload_n 0, 35, 0, [], .null),
  (35, .getfield 16, 38, 0, [(5, 1)], .null),
  (38, .iconst 4, 39, 0, [], .int (nI 4)),
  (39, .aload_n 1, 40, 0, [], .null),
  (40, .aastore, 41, 0, [], .null),
  (41, .aload_n 0, 42, 0, [], .null),
  (42, .iconst 4, 43, 0, [], .int (nI 4)),
  (43, .putfield 139, 46, 0, [(5, 2)], .null),
  (46, .return_, 47, 0, [], .null)]
/-- PursuitDesk_link -/
def ct_66 : List pq_E := [(0, .aload_n 0, 1, 0, [], .null),
  (1, .iload_n 1, 2, 0, [], .null),
  (2, .invokevirtual 52, 5, 1, [(5, 67)], .null),
  (5, .ifCond .eq 25, 8, 0, [(30, 0)], .null),
  (8, .aload_n 0, 9, 0, [], .null),
  (9, .iload_n 2, 10, 0, [], .null),
  (10, .invokevirtual 52, 13, 1, [(5, 67)], .null),
  (13, .ifCond .eq 17, 16, 0, [(30, 0)], .null),
  (16, .iload_n 1, 17, 0, [], .null),
  (17, .iload_n 2, 18, 0, [], .null),
  (18, .if_icmp .eq 12, 21, 0, [(30, 0)], .null),
  (21, .iload_n 3, 22, 0, [], .null),
  (22, .ifCond .lt 8, 25, 0, [(30, 0)], .null),
  (25, .iload_n 3, 26, 0, [], .null),
  (26, .iconst 1, 27, 0, [], .int (nI 1)),
  (27, .if_icmp .le 5, 30, 0, [(32, 0)], .null),
  (30, .iconst (-1), 31, 0, [], .int (-1)),
  (31, .ireturn, 32, 0, [], .null),
  (32, .aload_n 0, 33, 0, [], .null),
  (33, .invokevirtual 45, 36, 0, [(5, 64)], .null),
  (36, .aload_n 0, 37, 0, [], .null),
  (37, .getfield 10, 40, 0, [(5, 0)], .null),
  (40, .iload_n 1, 41, 0, [], .null),
  (41, .iload_n 2, 42, 0, [], .null),
  (42, .invokevirtual 56, 45, 2, [(3, 54)], .null),
  (45, .ifCond .eq 7, 48, 0, [(52, 0)], .null),
  (48, .iconst 1, 49, 0, [], .int (nI 1)),
  (49, .goto 4, 52, 0, [(53, 0)], .null),
  (52, .iconst 0, 53, 0, [], .int (nI 0)),
  (53, .istore 4, 55, 0, [], .null),
  (55, .iload_n 3, 56, 0, [], .null),
  (56, .iconst 1, 57, 0, [], .int (nI 1)),
  (57, .if_icmp .ne 23, 60, 0, [(80, 0)], .null),
  (60, .aload_n 0, 61, 0, [], .null),
  (61, .getfield 10, 64, 0, [(5, 0)], .null),
  (64, .dup, 65, 0, [], .null),
  (65, .getfield 60, 68, 0, [(3, 1)], .null),
  (68, .iload_n 1, 69, 0, [], .null),
  (69, .iload_n 2, 70, 0, [], .null),
  (70, .invokestatic 64, 73, 2, [(0, 3)], .null),
  (73, .lor, 74, 0, [], .null),
  (74, .putfield 60, 77, 0, [(3, 1)], .null),
  (77, .goto 12, 80, 0, [(89, 0)], .null),
  (80, .aload_n 0, 81, 0, [], .null),
  (81, .getfield 10, 84, 0, [(5, 0)], .null),
  (84, .iload_n 1, 85, 0, [], .null),
  (85, .iload_n 2, 86, 0, [], .null),
  (86, .invokevirtual 70, 89, 2, [(3, 55)], .null),
  (89, .iload 4, 91, 0, [], .null),
  (91, .ireturn, 92, 0, [], .null)]
/-- PursuitDesk_isNode -/
def ct_67 : List pq_E := [(0, .iload_n 1, 1, 0, [], .null),
  (1, .ifCond .lt 18, 4, 0, [(19, 0)], .null),
  (4, .iload_n 1, 5, 0, [], .null),
  (5, .aload_n 0, 6, 0, [], .null),
  (6, .getfield 10, 9, 0, [(5, 0)], .null),
  (9, .getfield 48, 12, 0, [(3, 0)], .null),
  (12, .if_icmp .ge 7, 15, 0, [(19, 0)], .null),
  (15, .iconst 1, 16, 0, [], .int (nI 1)),
  (16, .goto 4, 19, 0, [(20, 0)], .null),
  (19, .iconst 0, 20, 0, [], .int (nI 0)),
  (20, .ireturn, 21, 1, [], .null)]
/-- PursuitDesk_lay -/
def ct_68 : List pq_E := [(0, .aload_n 0, 1, 0, [], .null),
  (1, .invokevirtual 74, 4, 0, [(5, 69)], .null),
  (4, .bipush (-4), 6, 0, [], .int (-4)),
  (6, .if_icmp .eq 6, 9, 0, [(12, 0)], .null),
  (9, .bipush (-2), 11, 0, [], .int (-2)),
  (11, .ireturn, 12, 0, [], .null),
  (12, .aload_n 0, 13, 0, [], .null),
  (13, .invokevirtual 45, 16, 0, [(5, 64)], .null),
  (16, .aload_n 0, 17, 0, [], .null),
  (17, .getfield 10, 20, 0, [(5, 0)], .null),
  (20, .aload_n 0, 21, 0, [], .null),
  (21, .invokevirtual 78, 24, 0, [(5, 71)], .null),
  (24, .invokevirtual 82, 27, 1, [(3, 56)], .null),
  (27, .aload_n 0, 28, 0, [], .null),
  (28, .getfield 10, 31, 0, [(5, 0)], .null),
  (31, .invokevirtual 86, 34, 0, [(3, 57)], .null),
  (34, .ireturn, 35, 0, [], .null)]
/-- PursuitDesk_fault -/
def ct_69 : List pq_E := [(0, .lconst 0, 1, 0, [], .long (lN 0)),
  (1, .lstore_n 1, 2, 0, [], .null),
  (2, .iconst 0, 3, 0, [], .int (nI 0)),
  (3, .istore_n 3, 4, 0, [], .null),
  (4, .iload_n 3, 5, 0, [], .null),
  (5, .aload_n 0, 6, 0, [], .null),
  (6, .getfield 221, 9, 0, [(5, 4)], .null),
  (9, .if_icmp .ge 39, 12, 0, [(48, 0)], .null),
  (12, .aload_n 0, 13, 0, [], .null),
  (13, .iload_n 3, 14, 0, [], .null),
  (14, .invokevirtual 224, 17, 1, [(5, 70)], .null),
  (17, .lstore 4, 19, 0, [], .null),
  (19, .lload 4, 21, 0, [], .null),
  (21, .lconst 0, 22, 0, [], .long (lN 0)),
  (22, .lcmp, 23, 0, [], .null),
  (23, .ifCond .eq 12, 26, 0, [(35, 0)], .null),
  (26, .lload_n 1, 27, 0, [], .null),
  (27, .lload 4, 29, 0, [], .null),
  (29, .land, 30, 0, [], .null),
  (30, .lconst 0, 31, 0, [], .long (lN 0)),
  (31, .lcmp, 32, 0, [], .null),
  (32, .ifCond .eq 5, 35, 0, [(37, 0)], .null),
  (35, .iload_n 3, 36, 0, [], .null),
  (36, .ireturn, 37, 0, [], .null),
  (37, .lload_n 1, 38, 0, [], .null),
  (38, .lload 4, 40, 0, [], .null),
  (40, .lor, 41, 0, [], .null),
  (41, .lstore_n 1, 42, 0, [], .null),
  (42, .iinc 3 4, 45, 0, [], .int (nI 4)),
  (45, .goto (-41), 48, 0, [(4, 0)], .null),
  (48, .bipush (-4), 50, 0, [], .int (-4)),
  (50, .ireturn, 51, 0, [], .null)]
/-- PursuitDesk_edgeAt -/
def ct_70 : List pq_E := [(0, .iload_n 1, 1, 0, [], .null),
  (1, .iconst 4, 2, 0, [], .int (nI 4)),
  (2, .iadd, 3, 0, [], .null),
  (3, .aload_n 0, 4, 0, [], .null),
  (4, .getfield 221, 7, 0, [(5, 4)], .null),
  (7, .if_icmp .le 5, 10, 0, [(12, 0)], .null),
  (10, .lconst 0, 11, 0, [], .long (lN 0)),
  (11, .lreturn, 12, 0, [], .null),
  (12, .aload_n 0, 13, 0, [], .null),
  (13, .getfield 20, 16, 0, [(5, 3)], .null),
  (16, .iload_n 1, 17, 0, [], .null),
  (17, .caload, 18, 0, [], .null),
  (18, .bipush 48, 20, 0, [], .int (nI 48)),
  (20, .isub, 21, 0, [], .null),
  (21, .istore_n 2, 22, 0, [], .null),
  (22, .aload_n 0, 23, 0, [], .null),
  (23, .getfield 20, 26, 0, [(5, 3)], .null),
  (26, .iload_n 1, 27, 0, [], .null),
  (27, .iconst 2, 28, 0, [], .int (nI 2)),
  (28, .iadd, 29, 0, [], .null),
  (29, .caload, 30, 0, [], .null),
  (30, .bipush 48, 32, 0, [], .int (nI 48)),
  (32, .isub, 33, 0, [], .null),
  (33, .istore_n 3, 34, 0, [], .null),
  (34, .aload_n 0, 35, 0, [], .null),
  (35, .iload_n 2, 36, 0, [], .null),
  (36, .invokevirtual 52, 39, 1, [(5, 67)], .null),
  (39, .ifCond .eq 42, 42, 0, [(81, 0)], .null),
  (42, .aload_n 0, 43, 0, [], .null),
  (43, .iload_n 3, 44, 0, [], .null),
  (44, .invokevirtual 52, 47, 1, [(5, 67)], .null),
  (47, .ifCond .eq 34, 50, 0, [(81, 0)], .null),
  (50, .iload_n 2, 51, 0, [], .null),
  (51, .iload_n 3, 52, 0, [], .null),
  (52, .if_icmp .eq 29, 55, 0, [(81, 0)], .null),
  (55, .aload_n 0, 56, 0, [], .null),
  (56, .getfield 20, 59, 0, [(5, 3)], .null),
  (59, .iload_n 1, 60, 0, [], .null),
  (60, .iconst 1, 61, 0, [], .int (nI 1)),
  (61, .iadd, 62, 0, [], .null),
  (62, .caload, 63, 0, [], .null),
  (63, .bipush 45, 65, 0, [], .int (nI 45)),
  (65, .if_icmp .ne 16, 68, 0, [(81, 0)], .null),
  (68, .aload_n 0, 69, 0, [], .null),
  (69, .getfield 20, 72, 0, [(5, 3)], .null),
  (72, .iload_n 1, 73, 0, [], .null),
  (73, .iconst 3, 74, 0, [], .int (nI 3)),
  (74, .iadd, 75, 0, [], .null),
  (75, .caload, 76, 0, [], .null),
  (76, .bipush 59, 78, 0, [], .int (nI 59)),
  (78, .if_icmp .eq 5, 81, 0, [(83, 0)], .null),
  (81, .lconst 0, 82, 0, [], .long (lN 0)),
  (82, .lreturn, 83, 0, [], .null),
  (83, .iload_n 2, 84, 0, [], .null),
  (84, .iload_n 3, 85, 0, [], .null),
  (85, .invokestatic 64, 88, 2, [(0, 3)], .null),
  (88, .lreturn, 89, 0, [], .null)]
/-- PursuitDesk_textEdges -/
def ct_71 : List pq_E := [(0, .lconst 0, 1, 0, [], .long (lN 0)),
  (1, .lstore_n 1, 2, 0, [], .null),
  (2, .iconst 0, 3, 0, [], .int (nI 0)),
  (3, .istore_n 3, 4, 0, [], .null),
  (4, .iload_n 3, 5, 0, [], .null),
  (5, .aload_n 0, 6, 0, [], .null),
  (6, .getfield 221, 9, 0, [(5, 4)], .null),
  (9, .if_icmp .ge 17, 12, 0, [(26, 0)], .null),
  (12, .lload_n 1, 13, 0, [], .null),
  (13, .aload_n 0, 14, 0, [], .null),
  (14, .iload_n 3, 15, 0, [], .null),
  (15, .invokevirtual 224, 18, 1, [(5, 70)], .null),
  (18, .lor, 19, 0, [], .null),
  (19, .lstore_n 1, 20, 0, [], .null),
  (20, .iinc 3 4, 23, 0, [], .int (nI 4)),
  (23, .goto (-19), 26, 0, [(4, 0)], .null),
  (26, .lload_n 1, 27, 0, [], .null),
  (27, .lreturn, 28, 0, [], .null)]
/-- PursuitDesk_put -/
def ct_72 : List pq_E := [(0, .aload_n 0, 1, 0, [], .null),
  (1, .iload_n 1, 2, 0, [], .null),
  (2, .invokevirtual 52, 5, 1, [(5, 67)], .null),
  (5, .ifCond .ne 5, 8, 0, [(10, 0)], .null),
  (8, .iconst (-1), 9, 0, [], .int (-1)),
  (9, .ireturn, 10, 0, [], .null),
  (10, .aload_n 0, 11, 0, [], .null),
  (11, .getfield 10, 14, 0, [(5, 0)], .null),
  (14, .getfield 89, 17, 0, [(3, 2)], .null),
  (17, .iconst 3, 18, 0, [], .int (nI 3)),
  (18, .if_icmp .lt 6, 21, 0, [(24, 0)], .null),
  (21, .bipush (-3), 23, 0, [], .int (-3)),
  (23, .ireturn, 24, 0, [], .null),
  (24, .aload_n 0, 25, 0, [], .null),
  (25, .invokevirtual 45, 28, 0, [(5, 64)], .null),
  (28, .aload_n 0, 29, 0, [], .null),
  (29, .getfield 10, 32, 0, [(5, 0)], .null),
  (32, .iload_n 1, 33, 0, [], .null),
  (33, .invokevirtual 92, 36, 1, [(3, 58)], .null),
  (36, .aload_n 0, 37, 0, [], .null),
  (37, .getfield 10, 40, 0, [(5, 0)], .null),
  (40, .getfield 89, 43, 0, [(3, 2)], .null),
  (43, .iconst 1, 44, 0, [], .int (nI 1)),
  (44, .isub, 45, 0, [], .null),
  (45, .ireturn, 46, 0, [], .null)]
/-- PursuitDesk_leave -/
def ct_73 : List pq_E := [(0, .aload_n 0, 1, 0, [], .null),
  (1, .getfield 10, 4, 0, [(5, 0)], .null),
  (4, .getfield 89, 7, 0, [(3, 2)], .null),
  (7, .ifCond .gt 6, 10, 0, [(13, 0)], .null),
  (10, .bipush (-2), 12, 0, [], .int (-2)),
  (12, .ireturn, 13, 0, [], .null),
  (13, .aload_n 0, 14, 0, [], .null),
  (14, .invokevirtual 45, 17, 0, [(5, 64)], .null),
  (17, .aload_n 0, 18, 0, [], .null),
  (18, .getfield 10, 21, 0, [(5, 0)], .null),
  (21, .dup, 22, 0, [], .null),
  (22, .getfield 89, 25, 0, [(3, 2)], .null),
  (25, .iconst 1, 26, 0, [], .int (nI 1)),
  (26, .isub, 27, 0, [], .null),
  (27, .putfield 89, 30, 0, [(3, 2)], .null),
  (30, .aload_n 0, 31, 0, [], .null),
  (31, .getfield 10, 34, 0, [(5, 0)], .null),
  (34, .getfield 89, 37, 0, [(3, 2)], .null),
  (37, .ireturn, 38, 0, [], .null)]
/-- PursuitDesk_order -/
def ct_74 : List pq_E := [(0, .aload_n 0, 1, 0, [], .null),
  (1, .iload_n 1, 2, 0, [], .null),
  (2, .invokevirtual 95, 5, 1, [(5, 75)], .null),
  (5, .ifCond .eq 11, 8, 0, [(16, 0)], .null),
  (8, .aload_n 0, 9, 0, [], .null),
  (9, .iload_n 2, 10, 0, [], .null),
  (10, .invokevirtual 52, 13, 1, [(5, 67)], .null),
  (13, .ifCond .ne 5, 16, 0, [(18, 0)], .null),
  (16, .iconst (-1), 17, 0, [], .int (-1)),
  (17, .ireturn, 18, 0, [], .null),
  (18, .aload_n 0, 19, 0, [], .null),
  (19, .getfield 10, 22, 0, [(5, 0)], .null),
  (22, .aload_n 0, 23, 0, [], .null),
  (23, .getfield 10, 26, 0, [(5, 0)], .null),
  (26, .getfield 98, 29, 0, [(3, 3)], .null),
  (29, .iload_n 1, 30, 0, [], .null),
  (30, .iaload, 31, 0, [], .null),
  (31, .iload_n 2, 32, 0, [], .null),
  (32, .invokevirtual 56, 35, 2, [(3, 54)], .null),
  (35, .ifCond .ne 6, 38, 0, [(41, 0)], .null),
  (38, .bipush (-2), 40, 0, [], .int (-2)),
  (40, .ireturn, 41, 0, [], .null),
  (41, .aload_n 0, 42, 0, [], .null),
  (42, .invokevirtual 45, 45, 0, [(5, 64)], .null),
  (45, .aload_n 0, 46, 0, [], .null),
  (46, .getfield 10, 49, 0, [(5, 0)], .null),
  (49, .getfield 102, 52, 0, [(3, 4)], .null),
  (52, .iload_n 1, 53, 0, [], .null),
  (53, .iaload, 54, 0, [], .null),
  (54, .istore_n 3, 55, 0, [], .null),
  (55, .aload_n 0, 56, 0, [], .null),
  (56, .getfield 10, 59, 0, [(5, 0)], .null),
  (59, .getfield 102, 62, 0, [(3, 4)], .null),
  (62, .iload_n 1, 63, 0, [], .null),
  (63, .iload_n 2, 64, 0, [], .null),
  (64, .iastore, 65, 0, [], .null),
  (65, .iload_n 3, 66, 0, [], .null),
  (66, .ireturn, 67, 0, [], .null)]
/-- PursuitDesk_isSearcher -/
def ct_75 : List pq_E := [(0, .iload_n 1, 1, 0, [], .null),
  (1, .ifCond .lt 18, 4, 0, [(19, 0)], .null),
  (4, .iload_n 1, 5, 0, [], .null),
  (5, .aload_n 0, 6, 0, [], .null),
  (6, .getfield 10, 9, 0, [(5, 0)], .null),
  (9, .getfield 89, 12, 0, [(3, 2)], .null),
  (12, .if_icmp .ge 7, 15, 0, [(19, 0)], .null),
  (15, .iconst 1, 16, 0, [], .int (nI 1)),
  (16, .goto 4, 19, 0, [(20, 0)], .null),
  (19, .iconst 0, 20, 0, [], .int (nI 0)),
  (20, .ireturn, 21, 1, [], .null)]
/-- PursuitDesk_release -/
def ct_76 : List pq_E := [(0, .aload_n 0, 1, 0, [], .null),
  (1, .invokevirtual 45, 4, 0, [(5, 64)], .null),
  (4, .aload_n 0, 5, 0, [], .null),
  (5, .getfield 10, 8, 0, [(5, 0)], .null),
  (8, .invokevirtual 105, 11, 0, [(3, 51)], .null),
  (11, .aload_n 0, 12, 0, [], .null),
  (12, .invokevirtual 108, 15, 0, [(5, 77)], .null),
  (15, .ireturn, 16, 0, [], .null)]
/-- PursuitDesk_belief -/
def ct_77 : List pq_E := [(0, .aload_n 0, 1, 0, [], .null),
  (1, .getfield 10, 4, 0, [(5, 0)], .null),
  (4, .getfield 111, 7, 0, [(3, 8)], .null),
  (7, .aload_n 0, 8, 0, [], .null),
  (8, .getfield 10, 11, 0, [(5, 0)], .null),
  (11, .getfield 115, 14, 0, [(3, 5)], .null),
  (14, .invokevirtual 118, 17, 1, [(0, 15)], .null),
  (17, .ireturn, 18, 0, [], .null)]
/-- PursuitDesk_beliefAfter -/
def ct_78 : List pq_E := [(0, .iload_n 1, 1, 0, [], .null),
  (1, .ifCond .lt 14, 4, 0, [(15, 0)], .null),
  (4, .iload_n 1, 5, 0, [], .null),
  (5, .aload_n 0, 6, 0, [], .null),
  (6, .getfield 10, 9, 0, [(5, 0)], .null),
  (9, .getfield 115, 12, 0, [(3, 5)], .null),
  (12, .if_icmp .le 5, 15, 0, [(17, 0)], .null),
  (15, .iconst (-1), 16, 0, [], .int (-1)),
  (16, .ireturn, 17, 0, [], .null),
  (17, .aload_n 0, 18, 0, [], .null),
  (18, .getfield 10, 21, 0, [(5, 0)], .null),
  (21, .getfield 111, 24, 0, [(3, 8)], .null),
  (24, .iload_n 1, 25, 0, [], .null),
  (25, .invokevirtual 124, 28, 1, [(0, 16)], .null),
  (28, .ifCond .eq 17, 31, 0, [(45, 0)], .null),
  (31, .aload_n 0, 32, 0, [], .null),
  (32, .getfield 10, 35, 0, [(5, 0)], .null),
  (35, .getfield 111, 38, 0, [(3, 8)], .null),
  (38, .iload_n 1, 39, 0, [], .null),
  (39, .invokevirtual 118, 42, 1, [(0, 15)], .null),
  (42, .goto 5, 45, 0, [(47, 0)], .null),
  (45, .bipush (-4), 47, 0, [], .int (-4)),
  (47, .ireturn, 48, 0, [], .null)]
/-- PursuitDesk_tell -/
def ct_79 : List pq_E := [(0, .iload_n 1, 1, 0, [], .null),
  (1, .ifCond .lt 22, 4, 0, [(23, 0)], .null),
  (4, .iload_n 1, 5, 0, [], .null),
  (5, .aload_n 0, 6, 0, [], .null),
  (6, .getfield 10, 9, 0, [(5, 0)], .null),
  (9, .getfield 115, 12, 0, [(3, 5)], .null),
  (12, .if_icmp .gt 11, 15, 0, [(23, 0)], .null),
  (15, .aload_n 0, 16, 0, [], .null),
  (16, .iload_n 2, 17, 0, [], .null),
  (17, .invokevirtual 52, 20, 1, [(5, 67)], .null),
  (20, .ifCond .ne 5, 23, 0, [(25, 0)], .null),
  (23, .iconst (-1), 24, 0, [], .int (-1)),
  (24, .ireturn, 25, 0, [], .null),
  (25, .aload_n 0, 26, 0, [], .null),
  (26, .getfield 10, 29, 0, [(5, 0)], .null),
  (29, .getfield 111, 32, 0, [(3, 8)], .null),
  (32, .iload_n 1, 33, 0, [], .null),
  (33, .invokevirtual 124, 36, 1, [(0, 16)], .null),
  (36, .ifCond .ne 6, 39, 0, [(42, 0)], .null),
  (39, .bipush (-4), 41, 0, [], .int (-4)),
  (41, .ireturn, 42, 0, [], .null),
  (42, .aload_n 0, 43, 0, [], .null),
  (43, .getfield 10, 46, 0, [(5, 0)], .null),
  (46, .getfield 111, 49, 0, [(3, 8)], .null),
  (49, .iload_n 1, 50, 0, [], .null),
  (50, .invokevirtual 118, 53, 1, [(0, 15)], .null),
  (53, .iload_n 2, 54, 0, [], .null),
  (54, .invokestatic 127, 57, 2, [(0, 4)], .null),
  (57, .ifCond .ne 6, 60, 0, [(63, 0)], .null),
  (60, .bipush (-2), 62, 0, [], .int (-2)),
  (62, .ireturn, 63, 0, [], .null),
  (63, .aload_n 0, 64, 0, [], .null),
  (64, .invokevirtual 45, 67, 0, [(5, 64)], .null),
  (67, .aload_n 0, 68, 0, [], .null),
  (68, .getfield 10, 71, 0, [(5, 0)], .null),
  (71, .getfield 111, 74, 0, [(3, 8)], .null),
  (74, .iload_n 1, 75, 0, [], .null),
  (75, .iload_n 2, 76, 0, [], .null),
  (76, .invokevirtual 130, 79, 2, [(0, 17)], .null),
  (79, .aload_n 0, 80, 0, [], .null),
  (80, .invokevirtual 108, 83, 0, [(5, 77)], .null),
  (83, .ireturn, 84, 0, [], .null)]
/-- PursuitDesk_turn -/
def ct_80 : List pq_E := [(0, .aload_n 0, 1, 0, [], .null),
  (1, .getfield 10, 4, 0, [(5, 0)], .null),
  (4, .getfield 115, 7, 0, [(3, 5)], .null),
  (7, .sipush 10000, 10, 0, [], .int (nI 10000)),
  (10, .if_icmp .lt 6, 13, 0, [(16, 0)], .null),
  (13, .bipush (-3), 15, 0, [], .int (-3)),
  (15, .ireturn, 16, 0, [], .null),
  (16, .aload_n 0, 17, 0, [], .null),
  (17, .invokevirtual 45, 20, 0, [(5, 64)], .null),
  (20, .aload_n 0, 21, 0, [], .null),
  (21, .getfield 10, 24, 0, [(5, 0)], .null),
  (24, .invokevirtual 133, 27, 0, [(3, 59)], .null),
  (27, .aload_n 0, 28, 0, [], .null),
  (28, .getfield 10, 31, 0, [(5, 0)], .null),
  (31, .invokevirtual 136, 34, 0, [(3, 61)], .null),
  (34, .aload_n 0, 35, 0, [], .null),
  (35, .invokevirtual 108, 38, 0, [(5, 77)], .null),
  (38, .ireturn, 39, 0, [], .null)]
/-- PursuitDesk_undo -/
def ct_81 : List pq_E := [(0, .aload_n 0, 1, 0, [], .null),
  (1, .getfield 139, 4, 0, [(5, 2)], .null),
  (4, .ifCond .gt 6, 7, 0, [(10, 0)], .null),
  (7, .bipush (-2), 9, 0, [], .int (-2)),
  (9, .ireturn, 10, 0, [], .null),
  (10, .aload_n 0, 11, 0, [], .null),
  (11, .dup, 12, 0, [], .null),
  (12, .getfield 139, 15, 0, [(5, 2)], .null),
  (15, .iconst 1, 16, 0, [], .int (nI 1)),
  (16, .isub, 17, 0, [], .null),
  (17, .putfield 139, 20, 0, [(5, 2)], .null),
  (20, .aload_n 0, 21, 0, [], .null),
  (21, .getfield 10, 24, 0, [(5, 0)], .null),
  (24, .aload_n 0, 25, 0, [], .null),
  (25, .getfield 16, 28, 0, [(5, 1)], .null),
  (28, .aload_n 0, 29, 0, [], .null),
  (29, .getfield 139, 32, 0, [(5, 2)], .null),
  (32, .aaload, 33, 0, [], .null),
  (33, .invokevirtual 142, 36, 1, [(3, 53)], .null),
  (36, .aload_n 0, 37, 0, [], .null),
  (37, .iconst 0, 38, 0, [], .int (nI 0)),
  (38, .putfield 146, 41, 0, [(5, 6)], .null),
  (41, .aload_n 0, 42, 0, [], .null),
  (42, .getfield 139, 45, 0, [(5, 2)], .null),
  (45, .ireturn, 46, 0, [], .null)]
/-- PursuitDesk_count -/
def ct_82 : List pq_E := [(0, .iload_n 1, 1, 0, [], .null),
  (1, .tableswitch 111 0 7 #[47, 55, 63, 71, 79, 90, 98, 106], 48, 0, [(112, 0), (48, 0), (56, 0), (64, 0), (72, 0), (80, 0), (91, 0), (99, 0), (107, 0)], .null),
  (48, .aload_n 0, 49, 0, [], .null),
  (49, .getfield 10, 52, 0, [(5, 0)], .null),
  (52, .getfield 48, 55, 0, [(3, 0)], .null),
  (55, .ireturn, 56, 0, [], .null),
  (56, .aload_n 0, 57, 0, [], .null),
  (57, .getfield 10, 60, 0, [(5, 0)], .null),
  (60, .invokevirtual 86, 63, 0, [(3, 57)], .null),
  (63, .ireturn, 64, 0, [], .null),
  (64, .aload_n 0, 65, 0, [], .null),
  (65, .getfield 10, 68, 0, [(5, 0)], .null),
  (68, .getfield 89, 71, 0, [(3, 2)], .null),
  (71, .ireturn, 72, 0, [], .null),
  (72, .aload_n 0, 73, 0, [], .null),
  (73, .getfield 10, 76, 0, [(5, 0)], .null),
  (76, .getfield 115, 79, 0, [(3, 5)], .null),
  (79, .ireturn, 80, 0, [], .null),
  (80, .aload_n 0, 81, 0, [], .null),
  (81, .getfield 10, 84, 0, [(5, 0)], .null),
  (84, .getfield 111, 87, 0, [(3, 8)], .null),
  (87, .getfield 150, 90, 0, [(0, 3)], .null),
  (90, .ireturn, 91, 0, [], .null),
  (91, .aload_n 0, 92, 0, [], .null),
  (92, .getfield 10, 95, 0, [(5, 0)], .null),
  (95, .getfield 153, 98, 0, [(3, 6)], .null),
  (98, .ireturn, 99, 0, [], .null),
  (99, .aload_n 0, 100, 0, [], .null),
  (100, .getfield 10, 103, 0, [(5, 0)], .null),
  (103, .getfield 156, 106, 0, [(3, 7)], .null),
  (106, .ireturn, 107, 0, [], .null),
  (107, .aload_n 0, 108, 0, [], .null),
  (108, .getfield 139, 111, 0, [(5, 2)], .null),
  (111, .ireturn, 112, 0, [], .null),
  (112, .iconst (-1), 113, 0, [], .int (-1)),
  (113, .ireturn, 114, 0, [], .null)]
/-- PursuitDesk_neighbours -/
def ct_83 : List pq_E := [(0, .aload_n 0, 1, 0, [], .null),
  (1, .iload_n 1, 2, 0, [], .null),
  (2, .invokevirtual 52, 5, 1, [(5, 67)], .null),
  (5, .ifCond .ne 5, 8, 0, [(10, 0)], .null),
  (8, .iconst (-1), 9, 0, [], .int (-1)),
  (9, .ireturn, 10, 0, [], .null),
  (10, .aload_n 0, 11, 0, [], .null),
  (11, .getfield 10, 14, 0, [(5, 0)], .null),
  (14, .getfield 60, 17, 0, [(3, 1)], .null),
  (17, .iload_n 1, 18, 0, [], .null),
  (18, .invokestatic 159, 21, 2, [(0, 9)], .null),
  (21, .iconst 1, 22, 0, [], .int (nI 1)),
  (22, .iload_n 1, 23, 0, [], .null),
  (23, .ishl, 24, 0, [], .null),
  (24, .iconst (-1), 25, 0, [], .int (-1)),
  (25, .ixor, 26, 0, [], .null),
  (26, .iand, 27, 0, [], .null),
  (27, .ireturn, 28, 0, [], .null)]
/-- PursuitDesk_searcher -/
def ct_84 : List pq_E := [(0, .aload_n 0, 1, 0, [], .null),
  (1, .iload_n 1, 2, 0, [], .null),
  (2, .invokevirtual 95, 5, 1, [(5, 75)], .null),
  (5, .ifCond .eq 12, 8, 0, [(17, 0)], .null),
  (8, .iload_n 2, 9, 0, [], .null),
  (9, .ifCond .lt 8, 12, 0, [(17, 0)], .null),
  (12, .iload_n 2, 13, 0, [], .null),
  (13, .iconst 1, 14, 0, [], .int (nI 1)),
  (14, .if_icmp .le 5, 17, 0, [(19, 0)], .null),
  (17, .iconst (-1), 18, 0, [], .int (-1)),
  (18, .ireturn, 19, 0, [], .null),
  (19, .iload_n 2, 20, 0, [], .null),
  (20, .ifCond .ne 15, 23, 0, [(35, 0)], .null),
  (23, .aload_n 0, 24, 0, [], .null),
  (24, .getfield 10, 27, 0, [(5, 0)], .null),
  (27, .getfield 98, 30, 0, [(3, 3)], .null),
  (30, .iload_n 1, 31, 0, [], .null),
  (31, .iaload, 32, 0, [], .null),
  (32, .goto 12, 35, 0, [(44, 0)], .null),
  (35, .aload_n 0, 36, 0, [], .null),
  (36, .getfield 10, 39, 0, [(5, 0)], .null),
  (39, .getfield 102, 42, 0, [(3, 4)], .null),
  (42, .iload_n 1, 43, 0, [], .null),
  (43, .iaload, 44, 0, [], .null),
  (44, .ireturn, 45, 0, [], .null)]
/-- PursuitDesk_hide -/
def ct_85 : List pq_E := [(0, .aload_n 0, 1, 0, [], .null),
  (1, .iload_n 1, 2, 0, [], .null),
  (2, .invokevirtual 52, 5, 1, [(5, 67)], .null),
  (5, .ifCond .ne 5, 8, 0, [(10, 0)], .null),
  (8, .iconst (-1), 9, 0, [], .int (-1)),
  (9, .ireturn, 10, 0, [], .null),
  (10, .aload_n 0, 11, 0, [], .null),
  (11, .getfield 10, 14, 0, [(5, 0)], .null),
  (14, .invokevirtual 163, 17, 0, [(3, 52)], .null),
  (17, .iload_n 1, 18, 0, [], .null),
  (18, .invokestatic 127, 21, 2, [(0, 4)], .null),
  (21, .ifCond .eq 6, 24, 0, [(27, 0)], .null),
  (24, .bipush (-2), 26, 0, [], .int (-2)),
  (26, .ireturn, 27, 0, [], .null),
  (27, .aload_n 0, 28, 0, [], .null),
  (28, .invokevirtual 45, 31, 0, [(5, 64)], .null),
  (31, .aload_n 0, 32, 0, [], .null),
  (32, .getfield 10, 35, 0, [(5, 0)], .null),
  (35, .getfield 166, 38, 0, [(3, 9)], .null),
  (38, .iload_n 1, 39, 0, [], .null),
  (39, .aload_n 0, 40, 0, [], .null),
  (40, .getfield 10, 43, 0, [(5, 0)], .null),
  (43, .getfield 115, 46, 0, [(3, 5)], .null),
  (46, .invokevirtual 170, 49, 2, [(1, 26)], .null),
  (49, .aload_n 0, 50, 0, [], .null),
  (50, .invokevirtual 108, 53, 0, [(5, 77)], .null),
  (53, .iload_n 1, 54, 0, [], .null),
  (54, .invokestatic 127, 57, 2, [(0, 4)], .null),
  (57, .ifCond .eq 7, 60, 0, [(64, 0)], .null),
  (60, .iconst 1, 61, 0, [], .int (nI 1)),
  (61, .goto 4, 64, 0, [(65, 0)], .null),
  (64, .iconst 0, 65, 0, [], .int (nI 0)),
  (65, .ireturn, 66, 0, [], .null)]
/-- PursuitDesk_flee -/
def ct_86 : List pq_E := [(0, .aload_n 0, 1, 0, [], .null),
  (1, .iload_n 1, 2, 0, [], .null),
  (2, .invokevirtual 52, 5, 1, [(5, 67)], .null),
  (5, .ifCond .ne 5, 8, 0, [(10, 0)], .null),
  (8, .iconst (-1), 9, 0, [], .int (-1)),
  (9, .ireturn, 10, 0, [], .null),
  (10, .aload_n 0, 11, 0, [], .null),
  (11, .getfield 10, 14, 0, [(5, 0)], .null),
  (14, .getfield 166, 17, 0, [(3, 9)], .null),
  (17, .invokevirtual 175, 20, 0, [(1, 21)], .null),
  (20, .ifCond .eq 24, 23, 0, [(44, 0)], .null),
  (23, .aload_n 0, 24, 0, [], .null),
  (24, .getfield 10, 27, 0, [(5, 0)], .null),
  (27, .aload_n 0, 28, 0, [], .null),
  (28, .getfield 10, 31, 0, [(5, 0)], .null),
  (31, .getfield 166, 34, 0, [(3, 9)], .null),
  (34, .getfield 179, 37, 0, [(1, 1)], .null),
  (37, .iload_n 1, 38, 0, [], .null),
  (38, .invokevirtual 56, 41, 2, [(3, 54)], .null),
  (41, .ifCond .ne 6, 44, 0, [(47, 0)], .null),
  (44, .bipush (-2), 46, 0, [], .int (-2)),
  (46, .ireturn, 47, 0, [], .null),
  (47, .aload_n 0, 48, 0, [], .null),
  (48, .invokevirtual 45, 51, 0, [(5, 64)], .null),
  (51, .aload_n 0, 52, 0, [], .null),
  (52, .getfield 10, 55, 0, [(5, 0)], .null),
  (55, .getfield 166, 58, 0, [(3, 9)], .null),
  (58, .getfield 182, 61, 0, [(1, 2)], .null),
  (61, .istore_n 2, 62, 0, [], .null),
  (62, .aload_n 0, 63, 0, [], .null),
  (63, .getfield 10, 66, 0, [(5, 0)], .null),
  (66, .getfield 166, 69, 0, [(3, 9)], .null),
  (69, .iload_n 1, 70, 0, [], .null),
  (70, .putfield 182, 73, 0, [(1, 2)], .null),
  (73, .iload_n 2, 74, 0, [], .null),
  (74, .ireturn, 75, 0, [], .null)]
/-- PursuitDesk_setNews -/
def ct_87 : List pq_E := [(0, .iload_n 1, 1, 0, [], .null),
  (1, .ifCond .lt 19, 4, 0, [(20, 0)], .null),
  (4, .iload_n 1, 5, 0, [], .null),
  (5, .bipush 9, 7, 0, [], .int (nI 9)),
  (7, .if_icmp .gt 13, 10, 0, [(20, 0)], .null),
  (10, .iload_n 2, 11, 0, [], .null),
  (11, .ifCond .lt 9, 14, 0, [(20, 0)], .null),
  (14, .iload_n 2, 15, 0, [], .null),
  (15, .bipush 7, 17, 0, [], .int (nI 7)),
  (17, .if_icmp .le 5, 20, 0, [(22, 0)], .null),
  (20, .iconst (-1), 21, 0, [], .int (-1)),
  (21, .ireturn, 22, 0, [], .null),
  (22, .aload_n 0, 23, 0, [], .null),
  (23, .invokevirtual 45, 26, 0, [(5, 64)], .null),
  (26, .bipush 10, 28, 0, [], .int (nI 10)),
  (28, .aload_n 0, 29, 0, [], .null),
  (29, .getfield 10, 32, 0, [(5, 0)], .null),
  (32, .getfield 153, 35, 0, [(3, 6)], .null),
  (35, .imul, 36, 0, [], .null),
  (36, .aload_n 0, 37, 0, [], .null),
  (37, .getfield 10, 40, 0, [(5, 0)], .null),
  (40, .getfield 156, 43, 0, [(3, 7)], .null),
  (43, .iadd, 44, 0, [], .null),
  (44, .istore_n 3, 45, 0, [], .null),
  (45, .aload_n 0, 46, 0, [], .null),
  (46, .getfield 10, 49, 0, [(5, 0)], .null),
  (49, .iload_n 1, 50, 0, [], .null),
  (50, .putfield 153, 53, 0, [(3, 6)], .null),
  (53, .aload_n 0, 54, 0, [], .null),
  (54, .getfield 10, 57, 0, [(5, 0)], .null),
  (57, .iload_n 2, 58, 0, [], .null),
  (58, .putfield 156, 61, 0, [(3, 7)], .null),
  (61, .iload_n 3, 62, 0, [], .null),
  (62, .ireturn, 63, 0, [], .null)]
/-- PursuitDesk_evader -/
def ct_88 : List pq_E := [(0, .iload_n 1, 1, 0, [], .null),
  (1, .ifCond .lt 8, 4, 0, [(9, 0)], .null),
  (4, .iload_n 1, 5, 0, [], .null),
  (5, .iconst 4, 6, 0, [], .int (nI 4)),
  (6, .if_icmp .le 5, 9, 0, [(11, 0)], .null),
  (9, .iconst (-1), 10, 0, [], .int (-1)),
  (10, .ireturn, 11, 0, [], .null),
  (11, .aload_n 0, 12, 0, [], .null),
  (12, .getfield 10, 15, 0, [(5, 0)], .null),
  (15, .getfield 166, 18, 0, [(3, 9)], .null),
  (18, .getfield 184, 21, 0, [(1, 0)], .null),
  (21, .ifCond .eq 17, 24, 0, [(38, 0)], .null),
  (24, .aload_n 0, 25, 0, [], .null),
  (25, .getfield 10, 28, 0, [(5, 0)], .null),
  (28, .getfield 166, 31, 0, [(3, 9)], .null),
  (31, .iload_n 1, 32, 0, [], .null),
  (32, .invokevirtual 187, 35, 1, [(1, 27)], .null),
  (35, .goto 5, 38, 0, [(40, 0)], .null),
  (38, .bipush (-4), 40, 0, [], .int (-4)),
  (40, .ireturn, 41, 0, [], .null)]
/-- PursuitDesk_ahead -/
def ct_89 : List pq_E := [(0, .aload_n 0, 1, 0, [], .null),
  (1, .getfield 10, 4, 0, [(5, 0)], .null),
  (4, .aload_n 0, 5, 0, [], .null),
  (5, .getfield 10, 8, 0, [(5, 0)], .null),
  (8, .getfield 102, 11, 0, [(3, 4)], .null),
  (11, .invokevirtual 190, 14, 1, [(3, 60)], .null),
  (14, .aload_n 0, 15, 0, [], .null),
  (15, .invokevirtual 108, 18, 0, [(5, 77)], .null),
  (18, .invokestatic 194, 21, 2, [(0, 5)], .null),
  (21, .ireturn, 22, 0, [], .null)]
/-- PursuitDesk_planTurns -/
def ct_90 : List pq_E := [(0, .aload_n 0, 1, 0, [], .null),
  (1, .invokevirtual 197, 4, 0, [(5, 91)], .null),
  (4, .aload_n 0, 5, 0, [], .null),
  (5, .getfield 27, 8, 0, [(5, 5)], .null),
  (8, .invokevirtual 200, 11, 0, [(4, 41)], .null),
  (11, .ireturn, 12, 0, [], .null)]
/-- PursuitDesk_knowPlan -/
def ct_91 : List pq_E := [(0, .aload_n 0, 1, 0, [], .null),
  (1, .getfield 146, 4, 0, [(5, 6)], .null),
  (4, .ifCond .eq 4, 7, 0, [(8, 0)], .null),
  (7, .return_, 8, 0, [], .null),
  (8, .aload_n 0, 9, 0, [], .null),
  (9, .getfield 27, 12, 0, [(5, 5)], .null),
  (12, .aload_n 0, 13, 0, [], .null),
  (13, .getfield 10, 16, 0, [(5, 0)], .null),
  (16, .getfield 48, 19, 0, [(3, 0)], .null),
  (19, .aload_n 0, 20, 0, [], .null),
  (20, .getfield 10, 23, 0, [(5, 0)], .null),
  (23, .getfield 60, 26, 0, [(3, 1)], .null),
  (26, .aload_n 0, 27, 0, [], .null),
  (27, .getfield 10, 30, 0, [(5, 0)], .null),
  (30, .getfield 89, 33, 0, [(3, 2)], .null),
  (33, .invokevirtual 231, 36, 3, [(4, 29)], .null),
  (36, .aload_n 0, 37, 0, [], .null),
  (37, .getfield 27, 40, 0, [(5, 5)], .null),
  (40, .invokevirtual 232, 43, 0, [(4, 37)], .null),
  (43, .aload_n 0, 44, 0, [], .null),
  (44, .getfield 27, 47, 0, [(5, 5)], .null),
  (47, .aload_n 0, 48, 0, [], .null),
  (48, .getfield 27, 51, 0, [(5, 5)], .null),
  (51, .aload_n 0, 52, 0, [], .null),
  (52, .getfield 10, 55, 0, [(5, 0)], .null),
  (55, .getfield 98, 58, 0, [(3, 3)], .null),
  (58, .aload_n 0, 59, 0, [], .null),
  (59, .invokevirtual 108, 62, 0, [(5, 77)], .null),
  (62, .invokevirtual 235, 65, 2, [(4, 32)], .null),
  (65, .bipush (-2), 67, 0, [], .int (-2)),
  (67, .invokevirtual 236, 70, 2, [(4, 38)], .null),
  (70, .aload_n 0, 71, 0, [], .null),
  (71, .getfield 27, 74, 0, [(5, 5)], .null),
  (74, .invokevirtual 239, 77, 0, [(4, 39)], .null),
  (77, .aload_n 0, 78, 0, [], .null),
  (78, .iconst 1, 79, 0, [], .int (nI 1)),
  (79, .putfield 146, 82, 0, [(5, 6)], .null),
  (82, .return_, 83, 0, [], .null)]
/-- PursuitDesk_planOrder -/
def ct_92 : List pq_E := [(0, .iload_n 1, 1, 0, [], .null),
  (1, .ifCond .lt 11, 4, 0, [(12, 0)], .null),
  (4, .aload_n 0, 5, 0, [], .null),
  (5, .iload_n 2, 6, 0, [], .null),
  (6, .invokevirtual 95, 9, 1, [(5, 75)], .null),
  (9, .ifCond .ne 5, 12, 0, [(14, 0)], .null),
  (12, .iconst (-1), 13, 0, [], .int (-1)),
  (13, .ireturn, 14, 0, [], .null),
  (14, .aload_n 0, 15, 0, [], .null),
  (15, .invokevirtual 197, 18, 0, [(5, 91)], .null),
  (18, .iload_n 1, 19, 0, [], .null),
  (19, .aload_n 0, 20, 0, [], .null),
  (20, .getfield 27, 23, 0, [(5, 5)], .null),
  (23, .invokevirtual 200, 26, 0, [(4, 41)], .null),
  (26, .if_icmp .lt 6, 29, 0, [(32, 0)], .null),
  (29, .bipush (-4), 31, 0, [], .int (-4)),
  (31, .ireturn, 32, 0, [], .null),
  (32, .aload_n 0, 33, 0, [], .null),
  (33, .getfield 27, 36, 0, [(5, 5)], .null),
  (36, .iload_n 1, 37, 0, [], .null),
  (37, .iconst 1, 38, 0, [], .int (nI 1)),
  (38, .iadd, 39, 0, [], .null),
  (39, .iload_n 2, 40, 0, [], .null),
  (40, .invokevirtual 203, 43, 2, [(4, 42)], .null),
  (43, .ireturn, 44, 0, [], .null)]
/-- PursuitDesk_planMoves -/
def ct_93 : List pq_E := [(0, .aload_n 0, 1, 0, [], .null),
  (1, .getfield 37, 4, 0, [(5, 8)], .null),
  (4, .aload_n 0, 5, 0, [], .null),
  (5, .getfield 10, 8, 0, [(5, 0)], .null),
  (8, .getfield 48, 11, 0, [(3, 0)], .null),
  (11, .aload_n 0, 12, 0, [], .null),
  (12, .getfield 10, 15, 0, [(5, 0)], .null),
  (15, .getfield 60, 18, 0, [(3, 1)], .null),
  (18, .aload_n 0, 19, 0, [], .null),
  (19, .getfield 10, 22, 0, [(5, 0)], .null),
  (22, .getfield 89, 25, 0, [(3, 2)], .null),
  (25, .invokevirtual 207, 28, 3, [(2, 29)], .null),
  (28, .aload_n 0, 29, 0, [], .null),
  (29, .getfield 37, 32, 0, [(5, 8)], .null),
  (32, .aload_n 0, 33, 0, [], .null),
  (33, .getfield 37, 36, 0, [(5, 8)], .null),
  (36, .aload_n 0, 37, 0, [], .null),
  (37, .getfield 10, 40, 0, [(5, 0)], .null),
  (40, .getfield 98, 43, 0, [(3, 3)], .null),
  (43, .aload_n 0, 44, 0, [], .null),
  (44, .invokevirtual 108, 47, 0, [(5, 77)], .null),
  (47, .invokevirtual 211, 50, 2, [(2, 32)], .null),
  (50, .invokevirtual 215, 53, 1, [(2, 47)], .null),
  (53, .ireturn, 54, 0, [], .null)]
/-- PursuitDesk_settles -/
def ct_94 : List pq_E := [(0, .aload_n 0, 1, 0, [], .null),
  (1, .getfield 10, 4, 0, [(5, 0)], .null),
  (4, .aload_n 0, 5, 0, [], .null),
  (5, .getfield 10, 8, 0, [(5, 0)], .null),
  (8, .getfield 98, 11, 0, [(3, 3)], .null),
  (11, .invokevirtual 190, 14, 1, [(3, 60)], .null),
  (14, .lstore_n 1, 15, 0, [], .null),
  (15, .aload_n 0, 16, 0, [], .null),
  (16, .invokevirtual 108, 19, 0, [(5, 77)], .null),
  (19, .istore_n 3, 20, 0, [], .null),
  (20, .iconst 0, 21, 0, [], .int (nI 0)),
  (21, .istore 4, 23, 0, [], .null),
  (23, .iload 4, 25, 0, [], .null),
  (25, .bipush 6, 27, 0, [], .int (nI 6)),
  (27, .if_icmp .ge 28, 30, 0, [(55, 0)], .null),
  (30, .lload_n 1, 31, 0, [], .null),
  (31, .iload_n 3, 32, 0, [], .null),
  (32, .invokestatic 194, 35, 2, [(0, 5)], .null),
  (35, .istore 5, 37, 0, [], .null),
  (37, .iload 5, 39, 0, [], .null),
  (39, .iload_n 3, 40, 0, [], .null),
  (40, .if_icmp .ne 6, 43, 0, [(46, 0)], .null),
  (43, .iload 4, 45, 0, [], .null),
  (45, .ireturn, 46, 0, [], .null),
  (46, .iload 5, 48, 0, [], .null),
  (48, .istore_n 3, 49, 0, [], .null),
  (49, .iinc 4 1, 52, 0, [], .int (nI 1)),
  (52, .goto (-29), 55, 0, [(23, 0)], .null),
  (55, .bipush 6, 57, 0, [], .int (nI 6)),
  (57, .ireturn, 58, 0, [], .null)]
/-- PursuitDesk_leastSearchers -/
def ct_95 : List pq_E := [(0, .iconst 1, 1, 0, [], .int (nI 1)),
  (1, .istore_n 1, 2, 0, [], .null),
  (2, .iload_n 1, 3, 0, [], .null),
  (3, .iconst 3, 4, 0, [], .int (nI 3)),
  (4, .if_icmp .gt 21, 7, 0, [(25, 0)], .null),
  (7, .aload_n 0, 8, 0, [], .null),
  (8, .iload_n 1, 9, 0, [], .null),
  (9, .invokevirtual 218, 12, 1, [(5, 96)], .null),
  (12, .bipush (-4), 14, 0, [], .int (-4)),
  (14, .if_icmp .eq 5, 17, 0, [(19, 0)], .null),
  (17, .iload_n 1, 18, 0, [], .null),
  (18, .ireturn, 19, 0, [], .null),
  (19, .iinc 1 1, 22, 0, [], .int (nI 1)),
  (22, .goto (-20), 25, 0, [(2, 0)], .null),
  (25, .bipush (-4), 27, 0, [], .int (-4)),
  (27, .ireturn, 28, 0, [], .null)]
/-- PursuitDesk_turnsFromBestStart -/
def ct_96 : List pq_E := [(0, .aload_n 0, 1, 0, [], .null),
  (1, .getfield 31, 4, 0, [(5, 7)], .null),
  (4, .aload_n 0, 5, 0, [], .null),
  (5, .getfield 10, 8, 0, [(5, 0)], .null),
  (8, .getfield 48, 11, 0, [(3, 0)], .null),
  (11, .aload_n 0, 12, 0, [], .null),
  (12, .getfield 10, 15, 0, [(5, 0)], .null),
  (15, .getfield 60, 18, 0, [(3, 1)], .null),
  (18, .iload_n 1, 19, 0, [], .null),
  (19, .invokevirtual 231, 22, 3, [(4, 29)], .null),
  (22, .aload_n 0, 23, 0, [], .null),
  (23, .getfield 31, 26, 0, [(5, 7)], .null),
  (26, .invokevirtual 232, 29, 0, [(4, 37)], .null),
  (29, .aload_n 0, 30, 0, [], .null),
  (30, .getfield 31, 33, 0, [(5, 7)], .null),
  (33, .invokevirtual 242, 36, 0, [(4, 43)], .null),
  (36, .aload_n 0, 37, 0, [], .null),
  (37, .getfield 31, 40, 0, [(5, 7)], .null),
  (40, .invokevirtual 239, 43, 0, [(4, 39)], .null),
  (43, .aload_n 0, 44, 0, [], .null),
  (44, .getfield 31, 47, 0, [(5, 7)], .null),
  (47, .invokevirtual 200, 50, 0, [(4, 41)], .null),
  (50, .ireturn, 51, 0, [], .null)]
/-- PursuitDesk_bestTurns -/
def ct_97 : List pq_E := [(0, .iload_n 1, 1, 0, [], .null),
  (1, .iconst 1, 2, 0, [], .int (nI 1)),
  (2, .if_icmp .lt 8, 5, 0, [(10, 0)], .null),
  (5, .iload_n 1, 6, 0, [], .null),
  (6, .iconst 3, 7, 0, [], .int (nI 3)),
  (7, .if_icmp .le 5, 10, 0, [(12, 0)], .null),
  (10, .iconst (-1), 11, 0, [], .int (-1)),
  (11, .ireturn, 12, 0, [], .null),
  (12, .aload_n 0, 13, 0, [], .null),
  (13, .iload_n 1, 14, 0, [], .null),
  (14, .invokevirtual 218, 17, 1, [(5, 96)], .null),
  (17, .ireturn, 18, 0, [], .null)]
/-- PursuitDesk_type -/
def ct_98 : List pq_E := [(0, .iload_n 1, 1, 0, [], .null),
  (1, .bipush 32, 3, 0, [], .int (nI 32)),
  (3, .if_icmp .lt 9, 6, 0, [(12, 0)], .null),
  (6, .iload_n 1, 7, 0, [], .null),
  (7, .bipush 126, 9, 0, [], .int (nI 126)),
  (9, .if_icmp .le 5, 12, 0, [(14, 0)], .null),
  (12, .iconst (-1), 13, 0, [], .int (-1)),
  (13, .ireturn, 14, 0, [], .null),
  (14, .aload_n 0, 15, 0, [], .null),
  (15, .getfield 221, 18, 0, [(5, 4)], .null),
  (18, .bipush 60, 20, 0, [], .int (nI 60)),
  (20, .if_icmp .lt 6, 23, 0, [(26, 0)], .null),
  (23, .bipush (-3), 25, 0, [], .int (-3)),
  (25, .ireturn, 26, 0, [], .null),
  (26, .aload_n 0, 27, 0, [], .null),
  (27, .getfield 20, 30, 0, [(5, 3)], .null),
  (30, .aload_n 0, 31, 0, [], .null),
  (31, .getfield 221, 34, 0, [(5, 4)], .null),
  (34, .iload_n 1, 35, 0, [], .null),
  (35, .i2c, 36, 0, [], .null),
  (36, .castore, 37, 0, [], .null),
  (37, .aload_n 0, 38, 0, [], .null),
  (38, .dup, 39, 0, [], .null),
  (39, .getfield 221, 42, 0, [(5, 4)], .null),
  (42, .iconst 1, 43, 0, [], .int (nI 1)),
  (43, .iadd, 44, 0, [], .null),
  (44, .putfield 221, 47, 0, [(5, 4)], .null),
  (47, .aload_n 0, 48, 0, [], .null),
  (48, .getfield 221, 51, 0, [(5, 4)], .null),
  (51, .ireturn, 52, 0, [], .null)]
/-- PursuitDesk_clearText -/
def ct_99 : List pq_E := [(0, .aload_n 0, 1, 0, [], .null),
  (1, .getfield 221, 4, 0, [(5, 4)], .null),
  (4, .istore_n 1, 5, 0, [], .null),
  (5, .aload_n 0, 6, 0, [], .null),
  (6, .iconst 0, 7, 0, [], .int (nI 0)),
  (7, .putfield 221, 10, 0, [(5, 4)], .null),
  (10, .iload_n 1, 11, 0, [], .null),
  (11, .ireturn, 12, 0, [], .null)]
/-- PursuitDeskModel_init -/
def ct_100 : List pq_E := [(0, .aload_n 0, 1, 0, [], .null),
  (1, .invokespecial 1, 4, 0, [], .null),
  (4, .aload_n 0, 5, 0, [], .null),
  (5, .sipush 144, 8, 0, [], .int (nI 144)),
  (8, .newarray .int, 10, 0, [], .null),
  (10, .putfield 7, 13, 0, [(6, 0)], .null),
  (13, .aload_n 0, 14, 0, [], .null),
  (14, .sipush 720, 17, 0, [], .int (nI 720)),
  (17, .newarray .int, 19, 0, [], .null),
  (19, .putfield 13, 22, 0, [(6, 1)], .null),
  (22, .aload_n 0, 23, 0, [], .null),
  (23, .bipush 60, 25, 0, [], .int (nI 60)),
  (25, .newarray .char, 27, 0, [], .null),
  (27, .putfield 16, 30, 0, [(6, 3)], .null),
  (30, .aload_n 0, 31, 0, [], .null),
  (31, .iconst 3, 32, 0, [], .int (nI 3)),
  (32, .newarray .int, 34, 0, [], .null),
  (34, .putfield 20, 37, 0, [(6, 5)], .null),
  (37, .aload_n 0, 38, 0, [], .null),
  (38, .iconst 3, 39, 0, [], .int (nI 3)),
  (39, .newarray .int, 41, 0, [], .null),
  (41, .putfield 23, 44, 0, [(6, 6)], .null),
  (44, .aload_n 0, 45, 0, [], .null),
  (45, .bipush 6, 47, 0, [], .int (nI 6)),
  (47, .newarray .int, 49, 0, [], .null),
  (49, .putfield 26, 52, 0, [(6, 7)], .null),
  (52, .aload_n 0, 53, 0, [], .null),
  (53, .ldc 29, 55, 0, [], .int (nI 32768)),
  (55, .newarray .int, 57, 0, [], .null),
  (57, .putfield 30, 60, 0, [(6, 8)], .null),
  (60, .aload_n 0, 61, 0, [], .null),
  (61, .ldc 29, 63, 0, [], .int (nI 32768)),
  (63, .newarray .int, 65, 0, [], .null),
  (65, .putfield 33, 68, 0, [(6, 9)], .null),
  (68, .aload_n 0, 69, 0, [], .null),
  (69, .ldc 29, 71, 0, [], .int (nI 32768)),
  (71, .newarray .int, 73, 0, [], .null),
  (73, .putfield 36, 76, 0, [(6, 10)], .null),
  (76, .aload_n 0, 77, 0, [], .null),
  (77, .bipush 6, 79, 0, [], .int (nI 6)),
  (79, .newarray .int, 81, 0, [], .null),
  (81, .putfield 39, 84, 0, [(6, 11)], .null),
  (84, .aload_n 0, 85, 0, [], .null),
  (85, .getfield 7, 88, 0, [(6, 0)], .null),
  (88, .iconst 0, 89, 0, [], .int (nI 0)),
  (89, .iconst 4, 90, 0, [], .int (nI 4)),
  (90, .iastore, 91, 0, [], .null),
  (91, .aload_n 0, 92, 0, [], .null),
  (92, .invokevirtual 42, 95, 0, [(6, 101)], .null),
  (95, .return_, 96, 0, [], .null)]
/-- PursuitDeskModel_begins -/
def ct_101 : List pq_E := [(0, .aload_n 0, 1, 0, [], .null),
  (1, .invokevirtual 49, 4, 0, [(6, 102)], .null),
  (4, .istore_n 1, 5, 0, [], .null),
  (5, .iconst 0, 6, 0, [], .int (nI 0)),
  (6, .istore_n 2, 7, 0, [], .null),
  (7, .iload_n 2, 8, 0, [], .null),
  (8, .aload_n 0, 9, 0, [], .null),
  (9, .getfield 7, 12, 0, [(6, 0)], .null),
  (12, .iconst 1, 13, 0, [], .int (nI 1)),
  (13, .iaload, 14, 0, [], .null),
  (14, .if_icmp .ge 25, 17, 0, [(39, 0)], .null),
  (17, .iload_n 1, 18, 0, [], .null),
  (18, .iconst 1, 19, 0, [], .int (nI 1)),
  (19, .aload_n 0, 20, 0, [], .null),
  (20, .getfield 7, 23, 0, [(6, 0)], .null),
  (23, .bipush 11, 25, 0, [], .int (nI 11)),
  (25, .iload_n 2, 26, 0, [], .null),
  (26, .iadd, 27, 0, [], .null),
  (27, .iaload, 28, 0, [], .null),
  (28, .ishl, 29, 0, [], .null),
  (29, .iconst (-1), 30, 0, [], .int (-1)),
  (30, .ixor, 31, 0, [], .null),
  (31, .iand, 32, 0, [], .null),
  (32, .istore_n 1, 33, 0, [], .null),
  (33, .iinc 2 1, 36, 0, [], .int (nI 1)),
  (36, .goto (-29), 39, 0, [(7, 0)], .null),
  (39, .aload_n 0, 40, 0, [], .null),
  (40, .getfield 7, 43, 0, [(6, 0)], .null),
  (43, .bipush 23, 45, 0, [], .int (nI 23)),
  (45, .iconst 1, 46, 0, [], .int (nI 1)),
  (46, .iastore, 47, 0, [], .null),
  (47, .aload_n 0, 48, 0, [], .null),
  (48, .getfield 7, 51, 0, [(6, 0)], .null),
  (51, .bipush 24, 53, 0, [], .int (nI 24)),
  (53, .iload_n 1, 54, 0, [], .null),
  (54, .iastore, 55, 0, [], .null),
  (55, .aload_n 0, 56, 0, [], .null),
  (56, .getfield 7, 59, 0, [(6, 0)], .null),
  (59, .bipush 25, 61, 0, [], .int (nI 25)),
  (61, .aload_n 0, 62, 0, [], .null),
  (62, .getfield 7, 65, 0, [(6, 0)], .null),
  (65, .bipush 17, 67, 0, [], .int (nI 17)),
  (67, .iaload, 68, 0, [], .null),
  (68, .iconst 1, 69, 0, [], .int (nI 1)),
  (69, .if_icmp .ne 13, 72, 0, [(82, 0)], .null),
  (72, .aload_n 0, 73, 0, [], .null),
  (73, .getfield 7, 76, 0, [(6, 0)], .null),
  (76, .bipush 18, 78, 0, [], .int (nI 18)),
  (78, .iaload, 79, 0, [], .null),
  (79, .goto 4, 82, 0, [(83, 0)], .null),
  (82, .iconst (-1), 83, 0, [], .int (-1)),
  (83, .iastore, 84, 0, [], .null),
  (84, .return_, 85, 0, [], .null)]
/-- PursuitDeskModel_all -/
def ct_102 : List pq_E := [(0, .iconst 1, 1, 0, [], .int (nI 1)),
  (1, .aload_n 0, 2, 0, [], .null),
  (2, .getfield 7, 5, 0, [(6, 0)], .null),
  (5, .iconst 0, 6, 0, [], .int (nI 0)),
  (6, .iaload, 7, 0, [], .null),
  (7, .ishl, 8, 0, [], .null),
  (8, .iconst 1, 9, 0, [], .int (nI 1)),
  (9, .isub, 10, 0, [], .null),
  (10, .ireturn, 11, 0, [], .null)]
/-- PursuitDeskModel_reset -/
def ct_103 : List pq_E := [(0, .iload_n 1, 1, 0, [], .null),
  (1, .iconst 2, 2, 0, [], .int (nI 2)),
  (2, .bipush 6, 4, 0, [], .int (nI 6)),
  (4, .invokestatic 45, 7, 3, [(0, 104)], .null),
  (7, .ifCond .ne 5, 10, 0, [(12, 0)], .null),
  (10, .iconst (-1), 11, 0, [], .int (-1)),
  (11, .ireturn, 12, 0, [], .null),
  (12, .aload_n 0, 13, 0, [], .null),
  (13, .invokevirtual 57, 16, 0, [(6, 105)], .null),
  (16, .aload_n 0, 17, 0, [], .null),
  (17, .getfield 7, 20, 0, [(6, 0)], .null),
  (20, .iconst 0, 21, 0, [], .int (nI 0)),
  (21, .iaload, 22, 0, [], .null),
  (22, .istore_n 2, 23, 0, [], .null),
  (23, .aload_n 0, 24, 0, [], .null),
  (24, .getfield 7, 27, 0, [(6, 0)], .null),
  (27, .iconst 0, 28, 0, [], .int (nI 0)),
  (28, .iload_n 1, 29, 0, [], .null),
  (29, .iastore, 30, 0, [], .null),
  (30, .aload_n 0, 31, 0, [], .null),
  (31, .getfield 7, 34, 0, [(6, 0)], .null),
  (34, .iconst 1, 35, 0, [], .int (nI 1)),
  (35, .iconst 0, 36, 0, [], .int (nI 0)),
  (36, .iastore, 37, 0, [], .null),
  (37, .aload_n 0, 38, 0, [], .null),
  (38, .getfield 7, 41, 0, [(6, 0)], .null),
  (41, .iconst 2, 42, 0, [], .int (nI 2)),
  (42, .iconst 0, 43, 0, [], .int (nI 0)),
  (43, .iastore, 44, 0, [], .null),
  (44, .aload_n 0, 45, 0, [], .null),
  (45, .getfield 7, 48, 0, [(6, 0)], .null),
  (48, .bipush 17, 50, 0, [], .int (nI 17)),
  (50, .iconst 0, 51, 0, [], .int (nI 0)),
  (51, .iastore, 52, 0, [], .null),
  (52, .iconst 0, 53, 0, [], .int (nI 0)),
  (53, .istore_n 3, 54, 0, [], .null),
  (54, .iload_n 3, 55, 0, [], .null),
  (55, .bipush 6, 57, 0, [], .int (nI 6)),
  (57, .if_icmp .ge 18, 60, 0, [(75, 0)], .null),
  (60, .aload_n 0, 61, 0, [], .null),
  (61, .getfield 7, 64, 0, [(6, 0)], .null),
  (64, .iconst 5, 65, 0, [], .int (nI 5)),
  (65, .iload_n 3, 66, 0, [], .null),
  (66, .iadd, 67, 0, [], .null),
  (67, .iconst 0, 68, 0, [], .int (nI 0)),
  (68, .iastore, 69, 0, [], .null),
  (69, .iinc 3 1, 72, 0, [], .int (nI 1)),
  (72, .goto (-18), 75, 0, [(54, 0)], .null),
  (75, .aload_n 0, 76, 0, [], .null),
  (76, .invokevirtual 42, 79, 0, [(6, 101)], .null),
  (79, .iload_n 2, 80, 0, [], .null),
  (80, .ireturn, 81, 0, [], .null)]
/-- PursuitDeskModel_in -/
def ct_104 : List pq_E := [(0, .iload_n 0, 1, 0, [], .null),
  (1, .iload_n 1, 2, 0, [], .null),
  (2, .if_icmp .lt 12, 5, 0, [(14, 0)], .null),
  (5, .iload_n 0, 6, 0, [], .null),
  (6, .iload_n 2, 7, 0, [], .null),
  (7, .if_icmp .gt 7, 10, 0, [(14, 0)], .null),
  (10, .iconst 1, 11, 0, [], .int (nI 1)),
  (11, .goto 4, 14, 0, [(15, 0)], .null),
  (14, .iconst 0, 15, 0, [], .int (nI 0)),
  (15, .ireturn, 16, 1, [], .null)]
/-- PursuitDeskModel_records -/
def ct_105 : List pq_E := [(0, .aload_n 0, 1, 0, [], .null),
  (1, .getfield 53, 4, 0, [(6, 2)], .null),
  (4, .iconst 5, 5, 0, [], .int (nI 5)),
  (5, .if_icmp .ne 44, 8, 0, [(49, 0)], .null),
  (8, .iconst 0, 9, 0, [], .int (nI 0)),
  (9, .istore_n 1, 10, 0, [], .null),
  (10, .iload_n 1, 11, 0, [], .null),
  (11, .sipush 576, 14, 0, [], .int (nI 576)),
  (14, .if_icmp .ge 25, 17, 0, [(39, 0)], .null),
  (17, .aload_n 0, 18, 0, [], .null),
  (18, .getfield 13, 21, 0, [(6, 1)], .null),
  (21, .iload_n 1, 22, 0, [], .null),
  (22, .aload_n 0, 23, 0, [], .null),
  (23, .getfield 13, 26, 0, [(6, 1)], .null),
  (26, .iload_n 1, 27, 0, [], .null),
  (27, .sipush 144, 30, 0, [], .int (nI 144)),
  (30, .iadd, 31, 0, [], .null),
  (31, .iaload, 32, 0, [], .null),
  (32, .iastore, 33, 0, [], .null),
  (33, .iinc 1 1, 36, 0, [], .int (nI 1)),
  (36, .goto (-26), 39, 0, [(10, 0)], .null),
  (39, .aload_n 0, 40, 0, [], .null),
  (40, .dup, 41, 0, [], .null),
  (41, .getfield 53, 44, 0, [(6, 2)], .null),
  (44, .iconst 1, 45, 0, [], .int (nI 1)),
  (45, .isub, 46, 0, [], .null),
  (46, .putfield 53, 49, 0, [(6, 2)], .null),
  (49, .iconst 0, 50, 0, [], .int (nI 0)),
  (50, .istore_n 1, 51, 0, [], .null),
  (51, .iload_n 1, 52, 0, [], .null),
  (52, .sipush 144, 55, 0, [], .int (nI 144)),
  (55, .if_icmp .ge 30, 58, 0, [(85, 0)], .null),
  (58, .aload_n 0, 59, 0, [], .null),
  (59, .getfield 13, 62, 0, [(6, 1)], .null),
  (62, .sipush 144, 65, 0, [], .int (nI 144)),
  (65, .aload_n 0, 66, 0, [], .null),
  (66, .getfield 53, 69, 0, [(6, 2)], .null),
  (69, .imul, 70, 0, [], .null),
  (70, .iload_n 1, 71, 0, [], .null),
  (71, .iadd, 72, 0, [], .null),
  (72, .aload_n 0, 73, 0, [], .null),
  (73, .getfield 7, 76, 0, [(6, 0)], .null),
  (76, .iload_n 1, 77, 0, [], .null),
  (77, .iaload, 78, 0, [], .null),
  (78, .iastore, 79, 0, [], .null),
  (79, .iinc 1 1, 82, 0, [], .int (nI 1)),
  (82, .goto (-31), 85, 0, [(51, 0)], .null),
  (85, .aload_n 0, 86, 0, [], .null),
  (86, .dup, 87, 0, [], .null),
  (87, .getfield 53, 90, 0, [(6, 2)], .null),
  (90, .iconst 1, 91, 0, [], .int (nI 1)),
  (91, .iadd, 92, 0, [], .null),
  (92, .putfield 53, 95, 0, [(6, 2)], .null),
  (95, .return_, 96, 0, [], .null)]
/-- PursuitDeskModel_link -/
def ct_106 : List pq_E := [(0, .aload_n 0, 1, 0, [], .null),
  (1, .iload_n 1, 2, 0, [], .null),
  (2, .invokevirtual 60, 5, 1, [(6, 107)], .null),
  (5, .ifCond .eq 25, 8, 0, [(30, 0)], .null),
  (8, .aload_n 0, 9, 0, [], .null),
  (9, .iload_n 2, 10, 0, [], .null),
  (10, .invokevirtual 60, 13, 1, [(6, 107)], .null),
  (13, .ifCond .eq 17, 16, 0, [(30, 0)], .null),
  (16, .iload_n 1, 17, 0, [], .null),
  (17, .iload_n 2, 18, 0, [], .null),
  (18, .if_icmp .eq 12, 21, 0, [(30, 0)], .null),
  (21, .iload_n 3, 22, 0, [], .null),
  (22, .iconst 0, 23, 0, [], .int (nI 0)),
  (23, .iconst 1, 24, 0, [], .int (nI 1)),
  (24, .invokestatic 45, 27, 3, [(0, 104)], .null),
  (27, .ifCond .ne 5, 30, 0, [(32, 0)], .null),
  (30, .iconst (-1), 31, 0, [], .int (-1)),
  (31, .ireturn, 32, 0, [], .null),
  (32, .aload_n 0, 33, 0, [], .null),
  (33, .invokevirtual 57, 36, 0, [(6, 105)], .null),
  (36, .aload_n 0, 37, 0, [], .null),
  (37, .getfield 7, 40, 0, [(6, 0)], .null),
  (40, .iconst 5, 41, 0, [], .int (nI 5)),
  (41, .iload_n 1, 42, 0, [], .null),
  (42, .iadd, 43, 0, [], .null),
  (43, .iaload, 44, 0, [], .null),
  (44, .iload_n 2, 45, 0, [], .null),
  (45, .ishr, 46, 0, [], .null),
  (46, .iconst 1, 47, 0, [], .int (nI 1)),
  (47, .iand, 48, 0, [], .null),
  (48, .istore 4, 50, 0, [], .null),
  (50, .aload_n 0, 51, 0, [], .null),
  (51, .iload_n 1, 52, 0, [], .null),
  (52, .iload_n 2, 53, 0, [], .null),
  (53, .iload_n 3, 54, 0, [], .null),
  (54, .invokevirtual 64, 57, 3, [(6, 108)], .null),
  (57, .iconst 0, 58, 0, [], .int (nI 0)),
  (58, .istore 5, 60, 0, [], .null),
  (60, .iload 5, 62, 0, [], .null),
  (62, .aload_n 0, 63, 0, [], .null),
  (63, .getfield 7, 66, 0, [(6, 0)], .null),
  (66, .iconst 1, 67, 0, [], .int (nI 1)),
  (67, .iaload, 68, 0, [], .null),
  (68, .if_icmp .ge 69, 71, 0, [(137, 0)], .null),
  (71, .aload_n 0, 72, 0, [], .null),
  (72, .getfield 7, 75, 0, [(6, 0)], .null),
  (75, .bipush 14, 77, 0, [], .int (nI 14)),
  (77, .iload 5, 79, 0, [], .null),
  (79, .iadd, 80, 0, [], .null),
  (80, .aload_n 0, 81, 0, [], .null),
  (81, .aload_n 0, 82, 0, [], .null),
  (82, .getfield 7, 85, 0, [(6, 0)], .null),
  (85, .bipush 11, 87, 0, [], .int (nI 11)),
  (87, .iload 5, 89, 0, [], .null),
  (89, .iadd, 90, 0, [], .null),
  (90, .iaload, 91, 0, [], .null),
  (91, .aload_n 0, 92, 0, [], .null),
  (92, .getfield 7, 95, 0, [(6, 0)], .null),
  (95, .bipush 14, 97, 0, [], .int (nI 14)),
  (97, .iload 5, 99, 0, [], .null),
  (99, .iadd, 100, 0, [], .null),
  (100, .iaload, 101, 0, [], .null),
  (101, .invokevirtual 68, 104, 2, [(6, 109)], .null),
  (104, .ifCond .eq 16, 107, 0, [(120, 0)], .null),
  (107, .aload_n 0, 108, 0, [], .null),
  (108, .getfield 7, 111, 0, [(6, 0)], .null),
  (111, .bipush 14, 113, 0, [], .int (nI 14)),
  (113, .iload 5, 115, 0, [], .null),
  (115, .iadd, 116, 0, [], .null),
  (116, .iaload, 117, 0, [], .null),
  (117, .goto 13, 120, 0, [(130, 0)], .null),
  (120, .aload_n 0, 121, 0, [], .null),
  (121, .getfield 7, 124, 0, [(6, 0)], .null),
  (124, .bipush 11, 126, 0, [], .int (nI 11)),
  (126, .iload 5, 128, 0, [], .null),
  (128, .iadd, 129, 0, [], .null),
  (129, .iaload, 130, 0, [], .null),
  (130, .iastore, 131, 0, [], .null),
  (131, .iinc 5 1, 134, 0, [], .int (nI 1)),
  (134, .goto (-74), 137, 0, [(60, 0)], .null),
  (137, .aload_n 0, 138, 0, [], .null),
  (138, .getfield 7, 141, 0, [(6, 0)], .null),
  (141, .bipush 17, 143, 0, [], .int (nI 17)),
  (143, .iaload, 144, 0, [], .null),
  (144, .iconst 1, 145, 0, [], .int (nI 1)),
  (145, .if_icmp .ne 38, 148, 0, [(183, 0)], .null),
  (148, .aload_n 0, 149, 0, [], .null),
  (149, .aload_n 0, 150, 0, [], .null),
  (150, .getfield 7, 153, 0, [(6, 0)], .null),
  (153, .bipush 18, 155, 0, [], .int (nI 18)),
  (155, .iaload, 156, 0, [], .null),
  (156, .aload_n 0, 157, 0, [], .null),
  (157, .getfield 7, 160, 0, [(6, 0)], .null),
  (160, .bipush 19, 162, 0, [], .int (nI 19)),
  (162, .iaload, 163, 0, [], .null),
  (163, .invokevirtual 68, 166, 2, [(6, 109)], .null),
  (166, .ifCond .ne 17, 169, 0, [(183, 0)], .null),
  (169, .aload_n 0, 170, 0, [], .null),
  (170, .getfield 7, 173, 0, [(6, 0)], .null),
  (173, .bipush 19, 175, 0, [], .int (nI 19)),
  (175, .aload_n 0, 176, 0, [], .null),
  (176, .getfield 7, 179, 0, [(6, 0)], .null),
  (179, .bipush 18, 181, 0, [], .int (nI 18)),
  (181, .iaload, 182, 0, [], .null),
  (182, .iastore, 183, 0, [], .null),
  (183, .iload 4, 185, 0, [], .null),
  (185, .ireturn, 186, 0, [], .null)]
/-- PursuitDeskModel_isNode -/
def ct_107 : List pq_E := [(0, .iload_n 1, 1, 0, [], .null),
  (1, .iconst 0, 2, 0, [], .int (nI 0)),
  (2, .aload_n 0, 3, 0, [], .null),
  (3, .getfield 7, 6, 0, [(6, 0)], .null),
  (6, .iconst 0, 7, 0, [], .int (nI 0)),
  (7, .iaload, 8, 0, [], .null),
  (8, .iconst 1, 9, 0, [], .int (nI 1)),
  (9, .isub, 10, 0, [], .null),
  (10, .invokestatic 45, 13, 3, [(0, 104)], .null),
  (13, .ireturn, 14, 1, [], .null)]
/-- PursuitDeskModel_joins -/
def ct_108 : List pq_E := [(0, .aload_n 0, 1, 0, [], .null),
  (1, .getfield 7, 4, 0, [(6, 0)], .null),
  (4, .iconst 5, 5, 0, [], .int (nI 5)),
  (5, .iload_n 1, 6, 0, [], .null),
  (6, .iadd, 7, 0, [], .null),
  (7, .aload_n 0, 8, 0, [], .null),
  (8, .getfield 7, 11, 0, [(6, 0)], .null),
  (11, .iconst 5, 12, 0, [], .int (nI 5)),
  (12, .iload_n 1, 13, 0, [], .null),
  (13, .iadd, 14, 0, [], .null),
  (14, .iaload, 15, 0, [], .null),
  (15, .iconst 1, 16, 0, [], .int (nI 1)),
  (16, .iload_n 2, 17, 0, [], .null),
  (17, .ishl, 18, 0, [], .null),
  (18, .iconst (-1), 19, 0, [], .int (-1)),
  (19, .ixor, 20, 0, [], .null),
  (20, .iand, 21, 0, [], .null),
  (21, .iload_n 3, 22, 0, [], .null),
  (22, .iload_n 2, 23, 0, [], .null),
  (23, .ishl, 24, 0, [], .null),
  (24, .ior, 25, 0, [], .null),
  (25, .iastore, 26, 0, [], .null),
  (26, .aload_n 0, 27, 0, [], .null),
  (27, .getfield 7, 30, 0, [(6, 0)], .null),
  (30, .iconst 5, 31, 0, [], .int (nI 5)),
  (31, .iload_n 2, 32, 0, [], .null),
  (32, .iadd, 33, 0, [], .null),
  (33, .aload_n 0, 34, 0, [], .null),
  (34, .getfield 7, 37, 0, [(6, 0)], .null),
  (37, .iconst 5, 38, 0, [], .int (nI 5)),
  (38, .iload_n 2, 39, 0, [], .null),
  (39, .iadd, 40, 0, [], .null),
  (40, .iaload, 41, 0, [], .null),
  (41, .iconst 1, 42, 0, [], .int (nI 1)),
  (42, .iload_n 1, 43, 0, [], .null),
  (43, .ishl, 44, 0, [], .null),
  (44, .iconst (-1), 45, 0, [], .int (-1)),
  (45, .ixor, 46, 0, [], .null),
  (46, .iand, 47, 0, [], .null),
  (47, .iload_n 3, 48, 0, [], .null),
  (48, .iload_n 1, 49, 0, [], .null),
  (49, .ishl, 50, 0, [], .null),
  (50, .ior, 51, 0, [], .null),
  (51, .iastore, 52, 0, [], .null),
  (52, .return_, 53, 0, [], .null)]
/-- PursuitDeskModel_isWay -/
def ct_109 : List pq_E := [(0, .iload_n 1, 1, 0, [], .null),
  (1, .iload_n 2, 2, 0, [], .null),
  (2, .if_icmp .eq 19, 5, 0, [(21, 0)], .null),
  (5, .aload_n 0, 6, 0, [], .null),
  (6, .getfield 7, 9, 0, [(6, 0)], .null),
  (9, .iconst 5, 10, 0, [], .int (nI 5)),
  (10, .iload_n 1, 11, 0, [], .null),
  (11, .iadd, 12, 0, [], .null),
  (12, .iaload, 13, 0, [], .null),
  (13, .iload_n 2, 14, 0, [], .null),
  (14, .ishr, 15, 0, [], .null),
  (15, .iconst 1, 16, 0, [], .int (nI 1)),
  (16, .iand, 17, 0, [], .null),
  (17, .iconst 1, 18, 0, [], .int (nI 1)),
  (18, .if_icmp .ne 7, 21, 0, [(25, 0)], .null),
  (21, .iconst 1, 22, 0, [], .int (nI 1)),
  (22, .goto 4, 25, 0, [(26, 0)], .null),
  (25, .iconst 0, 26, 0, [], .int (nI 0)),
  (26, .ireturn, 27, 1, [], .null)]
/-- PursuitDeskModel_put -/
def ct_110 : List pq_E := [(0, .aload_n 0, 1, 0, [], .null),
  (1, .iload_n 1, 2, 0, [], .null),
  (2, .invokevirtual 60, 5, 1, [(6, 107)], .null),
  (5, .ifCond .ne 5, 8, 0, [(10, 0)], .null),
  (8, .iconst (-1), 9, 0, [], .int (-1)),
  (9, .ireturn, 10, 0, [], .null),
  (10, .aload_n 0, 11, 0, [], .null),
  (11, .getfield 7, 14, 0, [(6, 0)], .null),
  (14, .iconst 1, 15, 0, [], .int (nI 1)),
  (15, .iaload, 16, 0, [], .null),
  (16, .iconst 3, 17, 0, [], .int (nI 3)),
  (17, .if_icmp .ne 6, 20, 0, [(23, 0)], .null),
  (20, .bipush (-3), 22, 0, [], .int (-3)),
  (22, .ireturn, 23, 0, [], .null),
  (23, .aload_n 0, 24, 0, [], .null),
  (24, .invokevirtual 57, 27, 0, [(6, 105)], .null),
  (27, .aload_n 0, 28, 0, [], .null),
  (28, .getfield 7, 31, 0, [(6, 0)], .null),
  (31, .iconst 1, 32, 0, [], .int (nI 1)),
  (32, .iaload, 33, 0, [], .null),
  (33, .istore_n 2, 34, 0, [], .null),
  (34, .aload_n 0, 35, 0, [], .null),
  (35, .getfield 7, 38, 0, [(6, 0)], .null),
  (38, .bipush 11, 40, 0, [], .int (nI 11)),
  (40, .iload_n 2, 41, 0, [], .null),
  (41, .iadd, 42, 0, [], .null),
  (42, .iload_n 1, 43, 0, [], .null),
  (43, .iastore, 44, 0, [], .null),
  (44, .aload_n 0, 45, 0, [], .null),
  (45, .getfield 7, 48, 0, [(6, 0)], .null),
  (48, .bipush 14, 50, 0, [], .int (nI 14)),
  (50, .iload_n 2, 51, 0, [], .null),
  (51, .iadd, 52, 0, [], .null),
  (52, .iload_n 1, 53, 0, [], .null),
  (53, .iastore, 54, 0, [], .null),
  (54, .aload_n 0, 55, 0, [], .null),
  (55, .getfield 7, 58, 0, [(6, 0)], .null),
  (58, .iconst 1, 59, 0, [], .int (nI 1)),
  (59, .dup2, 60, 0, [], .null),
  (60, .iaload, 61, 0, [], .null),
  (61, .iconst 1, 62, 0, [], .int (nI 1)),
  (62, .iadd, 63, 0, [], .null),
  (63, .iastore, 64, 0, [], .null),
  (64, .aload_n 0, 65, 0, [], .null),
  (65, .getfield 7, 68, 0, [(6, 0)], .null),
  (68, .aload_n 0, 69, 0, [], .null),
  (69, .invokevirtual 72, 72, 0, [(6, 111)], .null),
  (72, .dup2, 73, 0, [], .null),
  (73, .iaload, 74, 0, [], .null),
  (74, .iconst 1, 75, 0, [], .int (nI 1)),
  (75, .iload_n 1, 76, 0, [], .null),
  (76, .ishl, 77, 0, [], .null),
  (77, .iconst (-1), 78, 0, [], .int (-1)),
  (78, .ixor, 79, 0, [], .null),
  (79, .iand, 80, 0, [], .null),
  (80, .iastore, 81, 0, [], .null),
  (81, .aload_n 0, 82, 0, [], .null),
  (82, .getfield 7, 85, 0, [(6, 0)], .null),
  (85, .bipush 17, 87, 0, [], .int (nI 17)),
  (87, .iaload, 88, 0, [], .null),
  (88, .iconst 1, 89, 0, [], .int (nI 1)),
  (89, .if_icmp .ne 53, 92, 0, [(142, 0)], .null),
  (92, .aload_n 0, 93, 0, [], .null),
  (93, .getfield 7, 96, 0, [(6, 0)], .null),
  (96, .bipush 20, 98, 0, [], .int (nI 20)),
  (98, .iaload, 99, 0, [], .null),
  (99, .ifCond .ne 43, 102, 0, [(142, 0)], .null),
  (102, .aload_n 0, 103, 0, [], .null),
  (103, .getfield 7, 106, 0, [(6, 0)], .null),
  (106, .bipush 18, 108, 0, [], .int (nI 18)),
  (108, .iaload, 109, 0, [], .null),
  (109, .iload_n 1, 110, 0, [], .null),
  (110, .if_icmp .ne 32, 113, 0, [(142, 0)], .null),
  (113, .aload_n 0, 114, 0, [], .null),
  (114, .getfield 7, 117, 0, [(6, 0)], .null),
  (117, .bipush 20, 119, 0, [], .int (nI 20)),
  (119, .iconst 1, 120, 0, [], .int (nI 1)),
  (120, .iastore, 121, 0, [], .null),
  (121, .aload_n 0, 122, 0, [], .null),
  (122, .getfield 7, 125, 0, [(6, 0)], .null),
  (125, .bipush 21, 127, 0, [], .int (nI 21)),
  (127, .aload_n 0, 128, 0, [], .null),
  (128, .getfield 7, 131, 0, [(6, 0)], .null),
  (131, .iconst 2, 132, 0, [], .int (nI 2)),
  (132, .iaload, 133, 0, [], .null),
  (133, .iastore, 134, 0, [], .null),
  (134, .aload_n 0, 135, 0, [], .null),
  (135, .getfield 7, 138, 0, [(6, 0)], .null),
  (138, .bipush 19, 140, 0, [], .int (nI 19)),
  (140, .iload_n 1, 141, 0, [], .null),
  (141, .iastore, 142, 0, [], .null),
  (142, .iload_n 2, 143, 0, [], .null),
  (143, .ireturn, 144, 0, [], .null)]
/-- PursuitDeskModel_last -/
def ct_111 : List pq_E := [(0, .bipush 24, 2, 0, [], .int (nI 24)),
  (2, .bipush 15, 4, 0, [], .int (nI 15)),
  (4, .aload_n 0, 5, 0, [], .null),
  (5, .getfield 7, 8, 0, [(6, 0)], .null),
  (8, .bipush 23, 10, 0, [], .int (nI 23)),
  (10, .iaload, 11, 0, [], .null),
  (11, .iconst 1, 12, 0, [], .int (nI 1)),
  (12, .isub, 13, 0, [], .null),
  (13, .imul, 14, 0, [], .null),
  (14, .iadd, 15, 0, [], .null),
  (15, .ireturn, 16, 0, [], .null)]
/-- PursuitDeskModel_leave -/
def ct_112 : List pq_E := [(0, .aload_n 0, 1, 0, [], .null),
  (1, .getfield 7, 4, 0, [(6, 0)], .null),
  (4, .iconst 1, 5, 0, [], .int (nI 1)),
  (5, .iaload, 6, 0, [], .null),
  (6, .ifCond .ne 6, 9, 0, [(12, 0)], .null),
  (9, .bipush (-2), 11, 0, [], .int (-2)),
  (11, .ireturn, 12, 0, [], .null),
  (12, .aload_n 0, 13, 0, [], .null),
  (13, .invokevirtual 57, 16, 0, [(6, 105)], .null),
  (16, .aload_n 0, 17, 0, [], .null),
  (17, .getfield 7, 20, 0, [(6, 0)], .null),
  (20, .iconst 1, 21, 0, [], .int (nI 1)),
  (21, .dup2, 22, 0, [], .null),
  (22, .iaload, 23, 0, [], .null),
  (23, .iconst 1, 24, 0, [], .int (nI 1)),
  (24, .isub, 25, 0, [], .null),
  (25, .iastore, 26, 0, [], .null),
  (26, .aload_n 0, 27, 0, [], .null),
  (27, .getfield 7, 30, 0, [(6, 0)], .null),
  (30, .iconst 1, 31, 0, [], .int (nI 1)),
  (31, .iaload, 32, 0, [], .null),
  (32, .ireturn, 33, 0, [], .null)]
/-- PursuitDeskModel_order -/
def ct_113 : List pq_E := [(0, .aload_n 0, 1, 0, [], .null),
  (1, .iload_n 1, 2, 0, [], .null),
  (2, .invokevirtual 75, 5, 1, [(6, 114)], .null),
  (5, .ifCond .eq 11, 8, 0, [(16, 0)], .null),
  (8, .aload_n 0, 9, 0, [], .null),
  (9, .iload_n 2, 10, 0, [], .null),
  (10, .invokevirtual 60, 13, 1, [(6, 107)], .null),
  (13, .ifCond .ne 5, 16, 0, [(18, 0)], .null),
  (16, .iconst (-1), 17, 0, [], .int (-1)),
  (17, .ireturn, 18, 0, [], .null),
  (18, .aload_n 0, 19, 0, [], .null),
  (19, .aload_n 0, 20, 0, [], .null),
  (20, .getfield 7, 23, 0, [(6, 0)], .null),
  (23, .bipush 11, 25, 0, [], .int (nI 11)),
  (25, .iload_n 1, 26, 0, [], .null),
  (26, .iadd, 27, 0, [], .null),
  (27, .iaload, 28, 0, [], .null),
  (28, .iload_n 2, 29, 0, [], .null),
  (29, .invokevirtual 68, 32, 2, [(6, 109)], .null),
  (32, .ifCond .ne 6, 35, 0, [(38, 0)], .null),
  (35, .bipush (-2), 37, 0, [], .int (-2)),
  (37, .ireturn, 38, 0, [], .null),
  (38, .aload_n 0, 39, 0, [], .null),
  (39, .invokevirtual 57, 42, 0, [(6, 105)], .null),
  (42, .aload_n 0, 43, 0, [], .null),
  (43, .getfield 7, 46, 0, [(6, 0)], .null),
  (46, .bipush 14, 48, 0, [], .int (nI 14)),
  (48, .iload_n 1, 49, 0, [], .null),
  (49, .iadd, 50, 0, [], .null),
  (50, .iaload, 51, 0, [], .null),
  (51, .istore_n 3, 52, 0, [], .null),
  (52, .aload_n 0, 53, 0, [], .null),
  (53, .getfield 7, 56, 0, [(6, 0)], .null),
  (56, .bipush 14, 58, 0, [], .int (nI 14)),
  (58, .iload_n 1, 59, 0, [], .null),
  (59, .iadd, 60, 0, [], .null),
  (60, .iload_n 2, 61, 0, [], .null),
  (61, .iastore, 62, 0, [], .null),
  (62, .iload_n 3, 63, 0, [], .null),
  (63, .ireturn, 64, 0, [], .null)]
/-- PursuitDeskModel_isSearcher -/
def ct_114 : List pq_E := [(0, .iload_n 1, 1, 0, [], .null),
  (1, .iconst 0, 2, 0, [], .int (nI 0)),
  (2, .aload_n 0, 3, 0, [], .null),
  (3, .getfield 7, 6, 0, [(6, 0)], .null),
  (6, .iconst 1, 7, 0, [], .int (nI 1)),
  (7, .iaload, 8, 0, [], .null),
  (8, .iconst 1, 9, 0, [], .int (nI 1)),
  (9, .isub, 10, 0, [], .null),
  (10, .invokestatic 45, 13, 3, [(0, 104)], .null),
  (13, .ireturn, 14, 1, [], .null)]
/-- PursuitDeskModel_release -/
def ct_115 : List pq_E := [(0, .aload_n 0, 1, 0, [], .null),
  (1, .invokevirtual 57, 4, 0, [(6, 105)], .null),
  (4, .aload_n 0, 5, 0, [], .null),
  (5, .invokevirtual 42, 8, 0, [(6, 101)], .null),
  (8, .aload_n 0, 9, 0, [], .null),
  (9, .getfield 7, 12, 0, [(6, 0)], .null),
  (12, .bipush 24, 14, 0, [], .int (nI 24)),
  (14, .iaload, 15, 0, [], .null),
  (15, .ireturn, 16, 0, [], .null)]
/-- PursuitDeskModel_belief -/
def ct_116 : List pq_E := [(0, .aload_n 0, 1, 0, [], .null),
  (1, .getfield 7, 4, 0, [(6, 0)], .null),
  (4, .aload_n 0, 5, 0, [], .null),
  (5, .invokevirtual 72, 8, 0, [(6, 111)], .null),
  (8, .iaload, 9, 0, [], .null),
  (9, .ireturn, 10, 0, [], .null)]
/-- PursuitDeskModel_beliefAfter -/
def ct_117 : List pq_E := [(0, .iload_n 1, 1, 0, [], .null),
  (1, .iconst 0, 2, 0, [], .int (nI 0)),
  (2, .aload_n 0, 3, 0, [], .null),
  (3, .getfield 7, 6, 0, [(6, 0)], .null),
  (6, .iconst 2, 7, 0, [], .int (nI 2)),
  (7, .iaload, 8, 0, [], .null),
  (8, .invokestatic 45, 11, 3, [(0, 104)], .null),
  (11, .ifCond .ne 5, 14, 0, [(16, 0)], .null),
  (14, .iconst (-1), 15, 0, [], .int (-1)),
  (15, .ireturn, 16, 0, [], .null),
  (16, .aload_n 0, 17, 0, [], .null),
  (17, .iload_n 1, 18, 0, [], .null),
  (18, .invokevirtual 78, 21, 1, [(6, 118)], .null),
  (21, .istore_n 2, 22, 0, [], .null),
  (22, .iload_n 2, 23, 0, [], .null),
  (23, .ifCond .ge 8, 26, 0, [(31, 0)], .null),
  (26, .bipush (-4), 28, 0, [], .int (-4)),
  (28, .goto 9, 31, 0, [(37, 0)], .null),
  (31, .aload_n 0, 32, 0, [], .null),
  (32, .getfield 7, 35, 0, [(6, 0)], .null),
  (35, .iload_n 2, 36, 0, [], .null),
  (36, .iaload, 37, 0, [], .null),
  (37, .ireturn, 38, 0, [], .null)]
/-- PursuitDeskModel_keptAt -/
def ct_118 : List pq_E := [(0, .aload_n 0, 1, 0, [], .null),
  (1, .getfield 7, 4, 0, [(6, 0)], .null),
  (4, .bipush 23, 6, 0, [], .int (nI 23)),
  (6, .iaload, 7, 0, [], .null),
  (7, .iconst 1, 8, 0, [], .int (nI 1)),
  (8, .isub, 9, 0, [], .null),
  (9, .aload_n 0, 10, 0, [], .null),
  (10, .getfield 7, 13, 0, [(6, 0)], .null),
  (13, .iconst 2, 14, 0, [], .int (nI 2)),
  (14, .iaload, 15, 0, [], .null),
  (15, .iload_n 1, 16, 0, [], .null),
  (16, .isub, 17, 0, [], .null),
  (17, .isub, 18, 0, [], .null),
  (18, .istore_n 2, 19, 0, [], .null),
  (19, .iload_n 2, 20, 0, [], .null),
  (20, .ifCond .ge 7, 23, 0, [(27, 0)], .null),
  (23, .iconst (-1), 24, 0, [], .int (-1)),
  (24, .goto 10, 27, 0, [(34, 0)], .null),
  (27, .bipush 24, 29, 0, [], .int (nI 24)),
  (29, .bipush 15, 31, 0, [], .int (nI 15)),
  (31, .iload_n 2, 32, 0, [], .null),
  (32, .imul, 33, 0, [], .null),
  (33, .iadd, 34, 0, [], .null),
  (34, .ireturn, 35, 0, [], .null)]
/-- PursuitDeskModel_tell -/
def ct_119 : List pq_E := [(0, .iload_n 1, 1, 0, [], .null),
  (1, .iconst 0, 2, 0, [], .int (nI 0)),
  (2, .aload_n 0, 3, 0, [], .null),
  (3, .getfield 7, 6, 0, [(6, 0)], .null),
  (6, .iconst 2, 7, 0, [], .int (nI 2)),
  (7, .iaload, 8, 0, [], .null),
  (8, .invokestatic 45, 11, 3, [(0, 104)], .null),
  (11, .ifCond .eq 11, 14, 0, [(22, 0)], .null),
  (14, .aload_n 0, 15, 0, [], .null),
  (15, .iload_n 2, 16, 0, [], .null),
  (16, .invokevirtual 60, 19, 1, [(6, 107)], .null),
  (19, .ifCond .ne 5, 22, 0, [(24, 0)], .null),
  (22, .iconst (-1), 23, 0, [], .int (-1)),
  (23, .ireturn, 24, 0, [], .null),
  (24, .aload_n 0, 25, 0, [], .null),
  (25, .iload_n 1, 26, 0, [], .null),
  (26, .invokevirtual 78, 29, 1, [(6, 118)], .null),
  (29, .istore_n 3, 30, 0, [], .null),
  (30, .iload_n 3, 31, 0, [], .null),
  (31, .ifCond .ge 6, 34, 0, [(37, 0)], .null),
  (34, .bipush (-4), 36, 0, [], .int (-4)),
  (36, .ireturn, 37, 0, [], .null),
  (37, .aload_n 0, 38, 0, [], .null),
  (38, .getfield 7, 41, 0, [(6, 0)], .null),
  (41, .iload_n 3, 42, 0, [], .null),
  (42, .iaload, 43, 0, [], .null),
  (43, .iload_n 2, 44, 0, [], .null),
  (44, .ishr, 45, 0, [], .null),
  (45, .iconst 1, 46, 0, [], .int (nI 1)),
  (46, .iand, 47, 0, [], .null),
  (47, .ifCond .ne 6, 50, 0, [(53, 0)], .null),
  (50, .bipush (-2), 52, 0, [], .int (-2)),
  (52, .ireturn, 53, 0, [], .null),
  (53, .aload_n 0, 54, 0, [], .null),
  (54, .invokevirtual 57, 57, 0, [(6, 105)], .null),
  (57, .aload_n 0, 58, 0, [], .null),
  (58, .iload_n 3, 59, 0, [], .null),
  (59, .iload_n 2, 60, 0, [], .null),
  (60, .invokevirtual 86, 63, 2, [(6, 120)], .null),
  (63, .aload_n 0, 64, 0, [], .null),
  (64, .invokevirtual 90, 67, 0, [(6, 116)], .null),
  (67, .ireturn, 68, 0, [], .null)]
/-- PursuitDeskModel_news -/
def ct_120 : List pq_E := [(0, .aload_n 0, 1, 0, [], .null),
  (1, .getfield 7, 4, 0, [(6, 0)], .null),
  (4, .iload_n 1, 5, 0, [], .null),
  (5, .iaload, 6, 0, [], .null),
  (6, .iload_n 2, 7, 0, [], .null),
  (7, .ishr, 8, 0, [], .null),
  (8, .iconst 1, 9, 0, [], .int (nI 1)),
  (9, .iand, 10, 0, [], .null),
  (10, .ifCond .ne 4, 13, 0, [(14, 0)], .null),
  (13, .return_, 14, 0, [], .null),
  (14, .aload_n 0, 15, 0, [], .null),
  (15, .getfield 7, 18, 0, [(6, 0)], .null),
  (18, .iload_n 1, 19, 0, [], .null),
  (19, .iconst 1, 20, 0, [], .int (nI 1)),
  (20, .iload_n 2, 21, 0, [], .null),
  (21, .ishl, 22, 0, [], .null),
  (22, .iastore, 23, 0, [], .null),
  (23, .iload_n 1, 24, 0, [], .null),
  (24, .bipush 15, 26, 0, [], .int (nI 15)),
  (26, .iadd, 27, 0, [], .null),
  (27, .istore_n 3, 28, 0, [], .null),
  (28, .iload_n 3, 29, 0, [], .null),
  (29, .aload_n 0, 30, 0, [], .null),
  (30, .invokevirtual 72, 33, 0, [(6, 111)], .null),
  (33, .if_icmp .gt 127, 36, 0, [(160, 0)], .null),
  (36, .iconst 0, 37, 0, [], .int (nI 0)),
  (37, .istore 4, 39, 0, [], .null),
  (39, .iload 4, 41, 0, [], .null),
  (41, .bipush 6, 43, 0, [], .int (nI 6)),
  (43, .if_icmp .ge 27, 46, 0, [(70, 0)], .null),
  (46, .aload_n 0, 47, 0, [], .null),
  (47, .getfield 26, 50, 0, [(6, 7)], .null),
  (50, .iload 4, 52, 0, [], .null),
  (52, .aload_n 0, 53, 0, [], .null),
  (53, .getfield 7, 56, 0, [(6, 0)], .null),
  (56, .iload_n 3, 57, 0, [], .null),
  (57, .iconst 2, 58, 0, [], .int (nI 2)),
  (58, .iadd, 59, 0, [], .null),
  (59, .iload 4, 61, 0, [], .null),
  (61, .iadd, 62, 0, [], .null),
  (62, .iaload, 63, 0, [], .null),
  (63, .iastore, 64, 0, [], .null),
  (64, .iinc 4 1, 67, 0, [], .int (nI 1)),
  (67, .goto (-28), 70, 0, [(39, 0)], .null),
  (70, .iconst 0, 71, 0, [], .int (nI 0)),
  (71, .istore 4, 73, 0, [], .null),
  (73, .iload 4, 75, 0, [], .null),
  (75, .iconst 3, 76, 0, [], .int (nI 3)),
  (76, .if_icmp .ge 47, 79, 0, [(123, 0)], .null),
  (79, .aload_n 0, 80, 0, [], .null),
  (80, .getfield 20, 83, 0, [(6, 5)], .null),
  (83, .iload 4, 85, 0, [], .null),
  (85, .aload_n 0, 86, 0, [], .null),
  (86, .getfield 7, 89, 0, [(6, 0)], .null),
  (89, .iload_n 3, 90, 0, [], .null),
  (90, .bipush 9, 92, 0, [], .int (nI 9)),
  (92, .iadd, 93, 0, [], .null),
  (93, .iload 4, 95, 0, [], .null),
  (95, .iadd, 96, 0, [], .null),
  (96, .iaload, 97, 0, [], .null),
  (97, .iastore, 98, 0, [], .null),
  (98, .aload_n 0, 99, 0, [], .null),
  (99, .getfield 23, 102, 0, [(6, 6)], .null),
  (102, .iload 4, 104, 0, [], .null),
  (104, .aload_n 0, 105, 0, [], .null),
  (105, .getfield 7, 108, 0, [(6, 0)], .null),
  (108, .iload_n 3, 109, 0, [], .null),
  (109, .bipush 12, 111, 0, [], .int (nI 12)),
  (111, .iadd, 112, 0, [], .null),
  (112, .iload 4, 114, 0, [], .null),
  (114, .iadd, 115, 0, [], .null),
  (115, .iaload, 116, 0, [], .null),
  (116, .iastore, 117, 0, [], .null),
  (117, .iinc 4 1, 120, 0, [], .int (nI 1)),
  (120, .goto (-47), 123, 0, [(73, 0)], .null),
  (123, .aload_n 0, 124, 0, [], .null),
  (124, .getfield 7, 127, 0, [(6, 0)], .null),
  (127, .iload_n 3, 128, 0, [], .null),
  (128, .dup2, 129, 0, [], .null),
  (129, .iaload, 130, 0, [], .null),
  (130, .aload_n 0, 131, 0, [], .null),
  (131, .aload_n 0, 132, 0, [], .null),
  (132, .getfield 7, 135, 0, [(6, 0)], .null),
  (135, .iload_n 3, 136, 0, [], .null),
  (136, .bipush 15, 138, 0, [], .int (nI 15)),
  (138, .isub, 139, 0, [], .null),
  (139, .iaload, 140, 0, [], .null),
  (140, .aload_n 0, 141, 0, [], .null),
  (141, .getfield 7, 144, 0, [(6, 0)], .null),
  (144, .iload_n 3, 145, 0, [], .null),
  (145, .bipush 8, 147, 0, [], .int (nI 8)),
  (147, .iadd, 148, 0, [], .null),
  (148, .iaload, 149, 0, [], .null),
  (149, .invokevirtual 82, 152, 2, [(6, 121)], .null),
  (152, .iand, 153, 0, [], .null),
  (153, .iastore, 154, 0, [], .null),
  (154, .iinc 3 15, 157, 0, [], .int (nI 15)),
  (157, .goto (-129), 160, 0, [(28, 0)], .null),
  (160, .return_, 161, 0, [], .null)]
/-- PursuitDeskModel_step -/
def ct_121 : List pq_E := [(0, .iconst 0, 1, 0, [], .int (nI 0)),
  (1, .istore_n 3, 2, 0, [], .null),
  (2, .iconst 0, 3, 0, [], .int (nI 0)),
  (3, .istore 4, 5, 0, [], .null),
  (5, .iload 4, 7, 0, [], .null),
  (7, .aload_n 0, 8, 0, [], .null),
  (8, .getfield 7, 11, 0, [(6, 0)], .null),
  (11, .iconst 0, 12, 0, [], .int (nI 0)),
  (12, .iaload, 13, 0, [], .null),
  (13, .if_icmp .ge 132, 16, 0, [(145, 0)], .null),
  (16, .iload_n 1, 17, 0, [], .null),
  (17, .aload_n 0, 18, 0, [], .null),
  (18, .getfield 26, 21, 0, [(6, 7)], .null),
  (21, .iload 4, 23, 0, [], .null),
  (23, .iaload, 24, 0, [], .null),
  (24, .iconst 1, 25, 0, [], .int (nI 1)),
  (25, .iload 4, 27, 0, [], .null),
  (27, .ishl, 28, 0, [], .null),
  (28, .ior, 29, 0, [], .null),
  (29, .iand, 30, 0, [], .null),
  (30, .istore 5, 32, 0, [], .null),
  (32, .iconst 1, 33, 0, [], .int (nI 1)),
  (33, .istore 6, 35, 0, [], .null),
  (35, .iconst 0, 36, 0, [], .int (nI 0)),
  (36, .istore 7, 38, 0, [], .null),
  (38, .iload 7, 40, 0, [], .null),
  (40, .iload_n 2, 41, 0, [], .null),
  (41, .if_icmp .ge 77, 44, 0, [(118, 0)], .null),
  (44, .iload 6, 46, 0, [], .null),
  (46, .ifCond .eq 19, 49, 0, [(65, 0)], .null),
  (49, .aload_n 0, 50, 0, [], .null),
  (50, .getfield 23, 53, 0, [(6, 6)], .null),
  (53, .iload 7, 55, 0, [], .null),
  (55, .iaload, 56, 0, [], .null),
  (56, .iload 4, 58, 0, [], .null),
  (58, .if_icmp .eq 7, 61, 0, [(65, 0)], .null),
  (61, .iconst 1, 62, 0, [], .int (nI 1)),
  (62, .goto 4, 65, 0, [(66, 0)], .null),
  (65, .iconst 0, 66, 0, [], .int (nI 0)),
  (66, .istore 6, 68, 0, [], .null),
  (68, .iload 5, 70, 0, [], .null),
  (70, .aload_n 0, 71, 0, [], .null),
  (71, .getfield 20, 74, 0, [(6, 5)], .null),
  (74, .iload 7, 76, 0, [], .null),
  (76, .iaload, 77, 0, [], .null),
  (77, .iload 4, 79, 0, [], .null),
  (79, .if_icmp .ne 29, 82, 0, [(108, 0)], .null),
  (82, .aload_n 0, 83, 0, [], .null),
  (83, .getfield 23, 86, 0, [(6, 6)], .null),
  (86, .iload 7, 88, 0, [], .null),
  (88, .iaload, 89, 0, [], .null),
  (89, .iload 4, 91, 0, [], .null),
  (91, .if_icmp .eq 17, 94, 0, [(108, 0)], .null),
  (94, .iconst 1, 95, 0, [], .int (nI 1)),
  (95, .aload_n 0, 96, 0, [], .null),
  (96, .getfield 23, 99, 0, [(6, 6)], .null),
  (99, .iload 7, 101, 0, [], .null),
  (101, .iaload, 102, 0, [], .null),
  (102, .ishl, 103, 0, [], .null),
  (103, .iconst (-1), 104, 0, [], .int (-1)),
  (104, .ixor, 105, 0, [], .null),
  (105, .goto 4, 108, 0, [(109, 0)], .null),
  (108, .iconst (-1), 109, 0, [], .int (-1)),
  (109, .iand, 110, 0, [], .null),
  (110, .istore 5, 112, 0, [], .null),
  (112, .iinc 7 1, 115, 0, [], .int (nI 1)),
  (115, .goto (-77), 118, 0, [(38, 0)], .null),
  (118, .iload_n 3, 119, 0, [], .null),
  (119, .iload 6, 121, 0, [], .null),
  (121, .ifCond .eq 15, 124, 0, [(136, 0)], .null),
  (124, .iload 5, 126, 0, [], .null),
  (126, .ifCond .eq 10, 129, 0, [(136, 0)], .null),
  (129, .iconst 1, 130, 0, [], .int (nI 1)),
  (130, .iload 4, 132, 0, [], .null),
  (132, .ishl, 133, 0, [], .null),
  (133, .goto 4, 136, 0, [(137, 0)], .null),
  (136, .iconst 0, 137, 0, [], .int (nI 0)),
  (137, .ior, 138, 0, [], .null),
  (138, .istore_n 3, 139, 0, [], .null),
  (139, .iinc 4 1, 142, 0, [], .int (nI 1)),
  (142, .goto (-137), 145, 0, [(5, 0)], .null),
  (145, .iload_n 3, 146, 0, [], .null),
  (146, .ireturn, 147, 0, [], .null)]
/-- PursuitDeskModel_turn -/
def ct_122 : List pq_E := [(0, .aload_n 0, 1, 0, [], .null),
  (1, .getfield 7, 4, 0, [(6, 0)], .null),
  (4, .iconst 2, 5, 0, [], .int (nI 2)),
  (5, .iaload, 6, 0, [], .null),
  (6, .sipush 10000, 9, 0, [], .int (nI 10000)),
  (9, .if_icmp .ne 6, 12, 0, [(15, 0)], .null),
  (12, .bipush (-3), 14, 0, [], .int (-3)),
  (14, .ireturn, 15, 0, [], .null),
  (15, .aload_n 0, 16, 0, [], .null),
  (16, .invokevirtual 57, 19, 0, [(6, 105)], .null),
  (19, .aload_n 0, 20, 0, [], .null),
  (20, .invokevirtual 93, 23, 0, [(6, 123)], .null),
  (23, .aload_n 0, 24, 0, [], .null),
  (24, .aload_n 0, 25, 0, [], .null),
  (25, .invokevirtual 90, 28, 0, [(6, 116)], .null),
  (28, .aload_n 0, 29, 0, [], .null),
  (29, .getfield 7, 32, 0, [(6, 0)], .null),
  (32, .iconst 1, 33, 0, [], .int (nI 1)),
  (33, .iaload, 34, 0, [], .null),
  (34, .invokevirtual 82, 37, 2, [(6, 121)], .null),
  (37, .istore_n 1, 38, 0, [], .null),
  (38, .aload_n 0, 39, 0, [], .null),
  (39, .getfield 7, 42, 0, [(6, 0)], .null),
  (42, .iconst 2, 43, 0, [], .int (nI 2)),
  (43, .dup2, 44, 0, [], .null),
  (44, .iaload, 45, 0, [], .null),
  (45, .iconst 1, 46, 0, [], .int (nI 1)),
  (46, .iadd, 47, 0, [], .null),
  (47, .iastore, 48, 0, [], .null),
  (48, .aload_n 0, 49, 0, [], .null),
  (49, .invokevirtual 96, 52, 0, [(6, 124)], .null),
  (52, .aload_n 0, 53, 0, [], .null),
  (53, .invokevirtual 99, 56, 0, [(6, 125)], .null),
  (56, .aload_n 0, 57, 0, [], .null),
  (57, .invokevirtual 72, 60, 0, [(6, 111)], .null),
  (60, .istore_n 2, 61, 0, [], .null),
  (61, .aload_n 0, 62, 0, [], .null),
  (62, .getfield 7, 65, 0, [(6, 0)], .null),
  (65, .iload_n 2, 66, 0, [], .null),
  (66, .iload_n 1, 67, 0, [], .null),
  (67, .iastore, 68, 0, [], .null),
  (68, .aload_n 0, 69, 0, [], .null),
  (69, .getfield 7, 72, 0, [(6, 0)], .null),
  (72, .iload_n 2, 73, 0, [], .null),
  (73, .iconst 1, 74, 0, [], .int (nI 1)),
  (74, .iadd, 75, 0, [], .null),
  (75, .aload_n 0, 76, 0, [], .null),
  (76, .getfield 7, 79, 0, [(6, 0)], .null),
  (79, .bipush 17, 81, 0, [], .int (nI 17)),
  (81, .iaload, 82, 0, [], .null),
  (82, .iconst 1, 83, 0, [], .int (nI 1)),
  (83, .if_icmp .ne 13, 86, 0, [(96, 0)], .null),
  (86, .aload_n 0, 87, 0, [], .null),
  (87, .getfield 7, 90, 0, [(6, 0)], .null),
  (90, .bipush 18, 92, 0, [], .int (nI 18)),
  (92, .iaload, 93, 0, [], .null),
  (93, .goto 4, 96, 0, [(97, 0)], .null),
  (96, .iconst (-1), 97, 0, [], .int (-1)),
  (97, .iastore, 98, 0, [], .null),
  (98, .iconst 0, 99, 0, [], .int (nI 0)),
  (99, .istore_n 3, 100, 0, [], .null),
  (100, .iload_n 3, 101, 0, [], .null),
  (101, .bipush 6, 103, 0, [], .int (nI 6)),
  (103, .if_icmp .ge 25, 106, 0, [(128, 0)], .null),
  (106, .aload_n 0, 107, 0, [], .null),
  (107, .getfield 7, 110, 0, [(6, 0)], .null),
  (110, .iload_n 2, 111, 0, [], .null),
  (111, .iconst 2, 112, 0, [], .int (nI 2)),
  (112, .iadd, 113, 0, [], .null),
  (113, .iload_n 3, 114, 0, [], .null),
  (114, .iadd, 115, 0, [], .null),
  (115, .aload_n 0, 116, 0, [], .null),
  (116, .getfield 26, 119, 0, [(6, 7)], .null),
  (119, .iload_n 3, 120, 0, [], .null),
  (120, .iaload, 121, 0, [], .null),
  (121, .iastore, 122, 0, [], .null),
  (122, .iinc 3 1, 125, 0, [], .int (nI 1)),
  (125, .goto (-25), 128, 0, [(100, 0)], .null),
  (128, .aload_n 0, 129, 0, [], .null),
  (129, .getfield 7, 132, 0, [(6, 0)], .null),
  (132, .iload_n 2, 133, 0, [], .null),
  (133, .bipush 8, 135, 0, [], .int (nI 8)),
  (135, .iadd, 136, 0, [], .null),
  (136, .aload_n 0, 137, 0, [], .null),
  (137, .getfield 7, 140, 0, [(6, 0)], .null),
  (140, .iconst 1, 141, 0, [], .int (nI 1)),
  (141, .iaload, 142, 0, [], .null),
  (142, .iastore, 143, 0, [], .null),
  (143, .iconst 0, 144, 0, [], .int (nI 0)),
  (144, .istore_n 3, 145, 0, [], .null),
  (145, .iload_n 3, 146, 0, [], .null),
  (146, .iconst 3, 147, 0, [], .int (nI 3)),
  (147, .if_icmp .ge 43, 150, 0, [(190, 0)], .null),
  (150, .aload_n 0, 151, 0, [], .null),
  (151, .getfield 7, 154, 0, [(6, 0)], .null),
  (154, .iload_n 2, 155, 0, [], .null),
  (155, .bipush 9, 157, 0, [], .int (nI 9)),
  (157, .iadd, 158, 0, [], .null),
  (158, .iload_n 3, 159, 0, [], .null),
  (159, .iadd, 160, 0, [], .null),
  (160, .aload_n 0, 161, 0, [], .null),
  (161, .getfield 20, 164, 0, [(6, 5)], .null),
  (164, .iload_n 3, 165, 0, [], .null),
  (165, .iaload, 166, 0, [], .null),
  (166, .iastore, 167, 0, [], .null),
  (167, .aload_n 0, 168, 0, [], .null),
  (168, .getfield 7, 171, 0, [(6, 0)], .null),
  (171, .iload_n 2, 172, 0, [], .null),
  (172, .bipush 12, 174, 0, [], .int (nI 12)),
  (174, .iadd, 175, 0, [], .null),
  (175, .iload_n 3, 176, 0, [], .null),
  (176, .iadd, 177, 0, [], .null),
  (177, .aload_n 0, 178, 0, [], .null),
  (178, .getfield 23, 181, 0, [(6, 6)], .null),
  (181, .iload_n 3, 182, 0, [], .null),
  (182, .iaload, 183, 0, [], .null),
  (183, .iastore, 184, 0, [], .null),
  (184, .iinc 3 1, 187, 0, [], .int (nI 1)),
  (187, .goto (-42), 190, 0, [(145, 0)], .null),
  (190, .iconst 0, 191, 0, [], .int (nI 0)),
  (191, .istore_n 3, 192, 0, [], .null),
  (192, .iload_n 3, 193, 0, [], .null),
  (193, .aload_n 0, 194, 0, [], .null),
  (194, .getfield 7, 197, 0, [(6, 0)], .null),
  (197, .iconst 1, 198, 0, [], .int (nI 1)),
  (198, .iaload, 199, 0, [], .null),
  (199, .if_icmp .ge 27, 202, 0, [(226, 0)], .null),
  (202, .aload_n 0, 203, 0, [], .null),
  (203, .getfield 7, 206, 0, [(6, 0)], .null),
  (206, .bipush 11, 208, 0, [], .int (nI 11)),
  (208, .iload_n 3, 209, 0, [], .null),
  (209, .iadd, 210, 0, [], .null),
  (210, .aload_n 0, 211, 0, [], .null),
  (211, .getfield 7, 214, 0, [(6, 0)], .null),
  (214, .bipush 14, 216, 0, [], .int (nI 14)),
  (216, .iload_n 3, 217, 0, [], .null),
  (217, .iadd, 218, 0, [], .null),
  (218, .iaload, 219, 0, [], .null),
  (219, .iastore, 220, 0, [], .null),
  (220, .iinc 3 1, 223, 0, [], .int (nI 1)),
  (223, .goto (-31), 226, 0, [(192, 0)], .null),
  (226, .aload_n 0, 227, 0, [], .null),
  (227, .getfield 7, 230, 0, [(6, 0)], .null),
  (230, .bipush 19, 232, 0, [], .int (nI 19)),
  (232, .aload_n 0, 233, 0, [], .null),
  (233, .getfield 7, 236, 0, [(6, 0)], .null),
  (236, .bipush 18, 238, 0, [], .int (nI 18)),
  (238, .iaload, 239, 0, [], .null),
  (239, .iastore, 240, 0, [], .null),
  (240, .aload_n 0, 241, 0, [], .null),
  (241, .getfield 7, 244, 0, [(6, 0)], .null),
  (244, .bipush 17, 246, 0, [], .int (nI 17)),
  (246, .iaload, 247, 0, [], .null),
  (247, .iconst 1, 248, 0, [], .int (nI 1)),
  (248, .if_icmp .ne 107, 251, 0, [(355, 0)], .null),
  (251, .aload_n 0, 252, 0, [], .null),
  (252, .getfield 7, 255, 0, [(6, 0)], .null),
  (255, .bipush 20, 257, 0, [], .int (nI 20)),
  (257, .iaload, 258, 0, [], .null),
  (258, .ifCond .ne 97, 261, 0, [(355, 0)], .null),
  (261, .aload_n 0, 262, 0, [], .null),
  (262, .getfield 7, 265, 0, [(6, 0)], .null),
  (265, .iconst 3, 266, 0, [], .int (nI 3)),
  (266, .iaload, 267, 0, [], .null),
  (267, .ifCond .le 88, 270, 0, [(355, 0)], .null),
  (270, .aload_n 0, 271, 0, [], .null),
  (271, .getfield 7, 274, 0, [(6, 0)], .null),
  (274, .iconst 2, 275, 0, [], .int (nI 2)),
  (275, .iaload, 276, 0, [], .null),
  (276, .aload_n 0, 277, 0, [], .null),
  (277, .getfield 7, 280, 0, [(6, 0)], .null),
  (280, .iconst 3, 281, 0, [], .int (nI 3)),
  (281, .iaload, 282, 0, [], .null),
  (282, .irem, 283, 0, [], .null),
  (283, .ifCond .ne 72, 286, 0, [(355, 0)], .null),
  (286, .aload_n 0, 287, 0, [], .null),
  (287, .getfield 7, 290, 0, [(6, 0)], .null),
  (290, .iconst 2, 291, 0, [], .int (nI 2)),
  (291, .iaload, 292, 0, [], .null),
  (292, .aload_n 0, 293, 0, [], .null),
  (293, .getfield 7, 296, 0, [(6, 0)], .null),
  (296, .iconst 4, 297, 0, [], .int (nI 4)),
  (297, .iaload, 298, 0, [], .null),
  (298, .if_icmp .lt 57, 301, 0, [(355, 0)], .null),
  (301, .aload_n 0, 302, 0, [], .null),
  (302, .getfield 7, 305, 0, [(6, 0)], .null),
  (305, .iconst 2, 306, 0, [], .int (nI 2)),
  (306, .iaload, 307, 0, [], .null),
  (307, .aload_n 0, 308, 0, [], .null),
  (308, .getfield 7, 311, 0, [(6, 0)], .null),
  (311, .iconst 4, 312, 0, [], .int (nI 4)),
  (312, .iaload, 313, 0, [], .null),
  (313, .isub, 314, 0, [], .null),
  (314, .istore_n 3, 315, 0, [], .null),
  (315, .aload_n 0, 316, 0, [], .null),
  (316, .iload_n 3, 317, 0, [], .null),
  (317, .invokevirtual 78, 320, 1, [(6, 118)], .null),
  (320, .ifCond .lt 35, 323, 0, [(355, 0)], .null),
  (323, .aload_n 0, 324, 0, [], .null),
  (324, .getfield 7, 327, 0, [(6, 0)], .null),
  (327, .bipush 22, 329, 0, [], .int (nI 22)),
  (329, .iaload, 330, 0, [], .null),
  (330, .iload_n 3, 331, 0, [], .null),
  (331, .if_icmp .gt 24, 334, 0, [(355, 0)], .null),
  (334, .aload_n 0, 335, 0, [], .null),
  (335, .aload_n 0, 336, 0, [], .null),
  (336, .iload_n 3, 337, 0, [], .null),
  (337, .invokevirtual 78, 340, 1, [(6, 118)], .null),
  (340, .aload_n 0, 341, 0, [], .null),
  (341, .getfield 7, 344, 0, [(6, 0)], .null),
  (344, .aload_n 0, 345, 0, [], .null),
  (345, .iload_n 3, 346, 0, [], .null),
  (346, .invokevirtual 78, 349, 1, [(6, 118)], .null),
  (349, .iconst 1, 350, 0, [], .int (nI 1)),
  (350, .iadd, 351, 0, [], .null),
  (351, .iaload, 352, 0, [], .null),
  (352, .invokevirtual 86, 355, 2, [(6, 120)], .null),
  (355, .aload_n 0, 356, 0, [], .null),
  (356, .invokevirtual 90, 359, 0, [(6, 116)], .null),
  (359, .ireturn, 360, 0, [], .null)]
/-- PursuitDeskModel_looks -/
def ct_123 : List pq_E := [(0, .iconst 0, 1, 0, [], .int (nI 0)),
  (1, .istore_n 1, 2, 0, [], .null),
  (2, .iload_n 1, 3, 0, [], .null),
  (3, .bipush 6, 5, 0, [], .int (nI 6)),
  (5, .if_icmp .ge 23, 8, 0, [(28, 0)], .null),
  (8, .aload_n 0, 9, 0, [], .null),
  (9, .getfield 26, 12, 0, [(6, 7)], .null),
  (12, .iload_n 1, 13, 0, [], .null),
  (13, .aload_n 0, 14, 0, [], .null),
  (14, .getfield 7, 17, 0, [(6, 0)], .null),
  (17, .iconst 5, 18, 0, [], .int (nI 5)),
  (18, .iload_n 1, 19, 0, [], .null),
  (19, .iadd, 20, 0, [], .null),
  (20, .iaload, 21, 0, [], .null),
  (21, .iastore, 22, 0, [], .null),
  (22, .iinc 1 1, 25, 0, [], .int (nI 1)),
  (25, .goto (-23), 28, 0, [(2, 0)], .null),
  (28, .iconst 0, 29, 0, [], .int (nI 0)),
  (29, .istore_n 1, 30, 0, [], .null),
  (30, .iload_n 1, 31, 0, [], .null),
  (31, .iconst 3, 32, 0, [], .int (nI 3)),
  (32, .if_icmp .ge 39, 35, 0, [(71, 0)], .null),
  (35, .aload_n 0, 36, 0, [], .null),
  (36, .getfield 20, 39, 0, [(6, 5)], .null),
  (39, .iload_n 1, 40, 0, [], .null),
  (40, .aload_n 0, 41, 0, [], .null),
  (41, .getfield 7, 44, 0, [(6, 0)], .null),
  (44, .bipush 11, 46, 0, [], .int (nI 11)),
  (46, .iload_n 1, 47, 0, [], .null),
  (47, .iadd, 48, 0, [], .null),
  (48, .iaload, 49, 0, [], .null),
  (49, .iastore, 50, 0, [], .null),
  (50, .aload_n 0, 51, 0, [], .null),
  (51, .getfield 23, 54, 0, [(6, 6)], .null),
  (54, .iload_n 1, 55, 0, [], .null),
  (55, .aload_n 0, 56, 0, [], .null),
  (56, .getfield 7, 59, 0, [(6, 0)], .null),
  (59, .bipush 14, 61, 0, [], .int (nI 14)),
  (61, .iload_n 1, 62, 0, [], .null),
  (62, .iadd, 63, 0, [], .null),
  (63, .iaload, 64, 0, [], .null),
  (64, .iastore, 65, 0, [], .null),
  (65, .iinc 1 1, 68, 0, [], .int (nI 1)),
  (68, .goto (-38), 71, 0, [(30, 0)], .null),
  (71, .return_, 72, 0, [], .null)]
/-- PursuitDeskModel_flees -/
def ct_124 : List pq_E := [(0, .aload_n 0, 1, 0, [], .null),
  (1, .getfield 7, 4, 0, [(6, 0)], .null),
  (4, .bipush 17, 6, 0, [], .int (nI 17)),
  (6, .iaload, 7, 0, [], .null),
  (7, .ifCond .eq 14, 10, 0, [(21, 0)], .null),
  (10, .aload_n 0, 11, 0, [], .null),
  (11, .getfield 7, 14, 0, [(6, 0)], .null),
  (14, .bipush 20, 16, 0, [], .int (nI 20)),
  (16, .iaload, 17, 0, [], .null),
  (17, .iconst 1, 18, 0, [], .int (nI 1)),
  (18, .if_icmp .ne 4, 21, 0, [(22, 0)], .null),
  (21, .return_, 22, 0, [], .null),
  (22, .aload_n 0, 23, 0, [], .null),
  (23, .getfield 7, 26, 0, [(6, 0)], .null),
  (26, .bipush 18, 28, 0, [], .int (nI 18)),
  (28, .iaload, 29, 0, [], .null),
  (29, .istore_n 1, 30, 0, [], .null),
  (30, .aload_n 0, 31, 0, [], .null),
  (31, .getfield 7, 34, 0, [(6, 0)], .null),
  (34, .bipush 19, 36, 0, [], .int (nI 19)),
  (36, .iaload, 37, 0, [], .null),
  (37, .istore_n 2, 38, 0, [], .null),
  (38, .iconst 0, 39, 0, [], .int (nI 0)),
  (39, .istore_n 3, 40, 0, [], .null),
  (40, .iload_n 3, 41, 0, [], .null),
  (41, .aload_n 0, 42, 0, [], .null),
  (42, .getfield 7, 45, 0, [(6, 0)], .null),
  (45, .iconst 1, 46, 0, [], .int (nI 1)),
  (46, .iaload, 47, 0, [], .null),
  (47, .if_icmp .ge 74, 50, 0, [(121, 0)], .null),
  (50, .aload_n 0, 51, 0, [], .null),
  (51, .getfield 7, 54, 0, [(6, 0)], .null),
  (54, .bipush 14, 56, 0, [], .int (nI 14)),
  (56, .iload_n 3, 57, 0, [], .null),
  (57, .iadd, 58, 0, [], .null),
  (58, .iaload, 59, 0, [], .null),
  (59, .iload_n 2, 60, 0, [], .null),
  (60, .if_icmp .eq 34, 63, 0, [(94, 0)], .null),
  (63, .iload_n 1, 64, 0, [], .null),
  (64, .iload_n 2, 65, 0, [], .null),
  (65, .if_icmp .eq 50, 68, 0, [(115, 0)], .null),
  (68, .aload_n 0, 69, 0, [], .null),
  (69, .getfield 7, 72, 0, [(6, 0)], .null),
  (72, .bipush 11, 74, 0, [], .int (nI 11)),
  (74, .iload_n 3, 75, 0, [], .null),
  (75, .iadd, 76, 0, [], .null),
  (76, .iaload, 77, 0, [], .null),
  (77, .iload_n 2, 78, 0, [], .null),
  (78, .if_icmp .ne 37, 81, 0, [(115, 0)], .null),
  (81, .aload_n 0, 82, 0, [], .null),
  (82, .getfield 7, 85, 0, [(6, 0)], .null),
  (85, .bipush 14, 87, 0, [], .int (nI 14)),
  (87, .iload_n 3, 88, 0, [], .null),
  (88, .iadd, 89, 0, [], .null),
  (89, .iaload, 90, 0, [], .null),
  (90, .iload_n 1, 91, 0, [], .null),
  (91, .if_icmp .ne 24, 94, 0, [(115, 0)], .null),
  (94, .aload_n 0, 95, 0, [], .null),
  (95, .getfield 7, 98, 0, [(6, 0)], .null),
  (98, .bipush 20, 100, 0, [], .int (nI 20)),
  (100, .iconst 1, 101, 0, [], .int (nI 1)),
  (101, .iastore, 102, 0, [], .null),
  (102, .aload_n 0, 103, 0, [], .null),
  (103, .getfield 7, 106, 0, [(6, 0)], .null),
  (106, .bipush 21, 108, 0, [], .int (nI 21)),
  (108, .aload_n 0, 109, 0, [], .null),
  (109, .getfield 7, 112, 0, [(6, 0)], .null),
  (112, .iconst 2, 113, 0, [], .int (nI 2)),
  (113, .iaload, 114, 0, [], .null),
  (114, .iastore, 115, 0, [], .null),
  (115, .iinc 3 1, 118, 0, [], .int (nI 1)),
  (118, .goto (-78), 121, 0, [(40, 0)], .null),
  (121, .aload_n 0, 122, 0, [], .null),
  (122, .getfield 7, 125, 0, [(6, 0)], .null),
  (125, .bipush 18, 127, 0, [], .int (nI 18)),
  (127, .iload_n 2, 128, 0, [], .null),
  (128, .iastore, 129, 0, [], .null),
  (129, .return_, 130, 0, [], .null)]
/-- PursuitDeskModel_makesRoom -/
def ct_125 : List pq_E := [(0, .aload_n 0, 1, 0, [], .null),
  (1, .getfield 7, 4, 0, [(6, 0)], .null),
  (4, .bipush 23, 6, 0, [], .int (nI 23)),
  (6, .iaload, 7, 0, [], .null),
  (7, .bipush 8, 9, 0, [], .int (nI 8)),
  (9, .if_icmp .ne 45, 12, 0, [(54, 0)], .null),
  (12, .bipush 24, 14, 0, [], .int (nI 24)),
  (14, .istore_n 1, 15, 0, [], .null),
  (15, .iload_n 1, 16, 0, [], .null),
  (16, .sipush 129, 19, 0, [], .int (nI 129)),
  (19, .if_icmp .ge 24, 22, 0, [(43, 0)], .null),
  (22, .aload_n 0, 23, 0, [], .null),
  (23, .getfield 7, 26, 0, [(6, 0)], .null),
  (26, .iload_n 1, 27, 0, [], .null),
  (27, .aload_n 0, 28, 0, [], .null),
  (28, .getfield 7, 31, 0, [(6, 0)], .null),
  (31, .iload_n 1, 32, 0, [], .null),
  (32, .bipush 15, 34, 0, [], .int (nI 15)),
  (34, .iadd, 35, 0, [], .null),
  (35, .iaload, 36, 0, [], .null),
  (36, .iastore, 37, 0, [], .null),
  (37, .iinc 1 1, 40, 0, [], .int (nI 1)),
  (40, .goto (-25), 43, 0, [(15, 0)], .null),
  (43, .aload_n 0, 44, 0, [], .null),
  (44, .getfield 7, 47, 0, [(6, 0)], .null),
  (47, .bipush 23, 49, 0, [], .int (nI 23)),
  (49, .dup2, 50, 0, [], .null),
  (50, .iaload, 51, 0, [], .null),
  (51, .iconst 1, 52, 0, [], .int (nI 1)),
  (52, .isub, 53, 0, [], .null),
  (53, .iastore, 54, 0, [], .null),
  (54, .aload_n 0, 55, 0, [], .null),
  (55, .getfield 7, 58, 0, [(6, 0)], .null),
  (58, .bipush 23, 60, 0, [], .int (nI 23)),
  (60, .dup2, 61, 0, [], .null),
  (61, .iaload, 62, 0, [], .null),
  (62, .iconst 1, 63, 0, [], .int (nI 1)),
  (63, .iadd, 64, 0, [], .null),
  (64, .iastore, 65, 0, [], .null),
  (65, .return_, 66, 0, [], .null)]
/-- PursuitDeskModel_undo -/
def ct_126 : List pq_E := [(0, .aload_n 0, 1, 0, [], .null),
  (1, .getfield 53, 4, 0, [(6, 2)], .null),
  (4, .ifCond .ne 6, 7, 0, [(10, 0)], .null),
  (7, .bipush (-2), 9, 0, [], .int (-2)),
  (9, .ireturn, 10, 0, [], .null),
  (10, .aload_n 0, 11, 0, [], .null),
  (11, .dup, 12, 0, [], .null),
  (12, .getfield 53, 15, 0, [(6, 2)], .null),
  (15, .iconst 1, 16, 0, [], .int (nI 1)),
  (16, .isub, 17, 0, [], .null),
  (17, .putfield 53, 20, 0, [(6, 2)], .null),
  (20, .iconst 0, 21, 0, [], .int (nI 0)),
  (21, .istore_n 1, 22, 0, [], .null),
  (22, .iload_n 1, 23, 0, [], .null),
  (23, .sipush 144, 26, 0, [], .int (nI 144)),
  (26, .if_icmp .ge 30, 29, 0, [(56, 0)], .null),
  (29, .aload_n 0, 30, 0, [], .null),
  (30, .getfield 7, 33, 0, [(6, 0)], .null),
  (33, .iload_n 1, 34, 0, [], .null),
  (34, .aload_n 0, 35, 0, [], .null),
  (35, .getfield 13, 38, 0, [(6, 1)], .null),
  (38, .sipush 144, 41, 0, [], .int (nI 144)),
  (41, .aload_n 0, 42, 0, [], .null),
  (42, .getfield 53, 45, 0, [(6, 2)], .null),
  (45, .imul, 46, 0, [], .null),
  (46, .iload_n 1, 47, 0, [], .null),
  (47, .iadd, 48, 0, [], .null),
  (48, .iaload, 49, 0, [], .null),
  (49, .iastore, 50, 0, [], .null),
  (50, .iinc 1 1, 53, 0, [], .int (nI 1)),
  (53, .goto (-31), 56, 0, [(22, 0)], .null),
  (56, .aload_n 0, 57, 0, [], .null),
  (57, .getfield 53, 60, 0, [(6, 2)], .null),
  (60, .ireturn, 61, 0, [], .null)]
/-- PursuitDeskModel_count -/
def ct_127 : List pq_E := [(0, .iload_n 1, 1, 0, [], .null),
  (1, .tableswitch 100 0 7 #[47, 54, 59, 66, 73, 81, 88, 95], 48, 0, [(101, 0), (48, 0), (55, 0), (60, 0), (67, 0), (74, 0), (82, 0), (89, 0), (96, 0)], .null),
  (48, .aload_n 0, 49, 0, [], .null),
  (49, .getfield 7, 52, 0, [(6, 0)], .null),
  (52, .iconst 0, 53, 0, [], .int (nI 0)),
  (53, .iaload, 54, 0, [], .null),
  (54, .ireturn, 55, 0, [], .null),
  (55, .aload_n 0, 56, 0, [], .null),
  (56, .invokevirtual 102, 59, 0, [(6, 128)], .null),
  (59, .ireturn, 60, 0, [], .null),
  (60, .aload_n 0, 61, 0, [], .null),
  (61, .getfield 7, 64, 0, [(6, 0)], .null),
  (64, .iconst 1, 65, 0, [], .int (nI 1)),
  (65, .iaload, 66, 0, [], .null),
  (66, .ireturn, 67, 0, [], .null),
  (67, .aload_n 0, 68, 0, [], .null),
  (68, .getfield 7, 71, 0, [(6, 0)], .null),
  (71, .iconst 2, 72, 0, [], .int (nI 2)),
  (72, .iaload, 73, 0, [], .null),
  (73, .ireturn, 74, 0, [], .null),
  (74, .aload_n 0, 75, 0, [], .null),
  (75, .getfield 7, 78, 0, [(6, 0)], .null),
  (78, .bipush 23, 80, 0, [], .int (nI 23)),
  (80, .iaload, 81, 0, [], .null),
  (81, .ireturn, 82, 0, [], .null),
  (82, .aload_n 0, 83, 0, [], .null),
  (83, .getfield 7, 86, 0, [(6, 0)], .null),
  (86, .iconst 3, 87, 0, [], .int (nI 3)),
  (87, .iaload, 88, 0, [], .null),
  (88, .ireturn, 89, 0, [], .null),
  (89, .aload_n 0, 90, 0, [], .null),
  (90, .getfield 7, 93, 0, [(6, 0)], .null),
  (93, .iconst 4, 94, 0, [], .int (nI 4)),
  (94, .iaload, 95, 0, [], .null),
  (95, .ireturn, 96, 0, [], .null),
  (96, .aload_n 0, 97, 0, [], .null),
  (97, .getfield 53, 100, 0, [(6, 2)], .null),
  (100, .ireturn, 101, 0, [], .null),
  (101, .iconst (-1), 102, 0, [], .int (-1)),
  (102, .ireturn, 103, 0, [], .null)]
/-- PursuitDeskModel_edges -/
def ct_128 : List pq_E := [(0, .iconst 0, 1, 0, [], .int (nI 0)),
  (1, .istore_n 1, 2, 0, [], .null),
  (2, .iconst 0, 3, 0, [], .int (nI 0)),
  (3, .istore_n 2, 4, 0, [], .null),
  (4, .iload_n 2, 5, 0, [], .null),
  (5, .bipush 36, 7, 0, [], .int (nI 36)),
  (7, .if_icmp .ge 45, 10, 0, [(52, 0)], .null),
  (10, .iload_n 1, 11, 0, [], .null),
  (11, .iload_n 2, 12, 0, [], .null),
  (12, .bipush 6, 14, 0, [], .int (nI 6)),
  (14, .idiv, 15, 0, [], .null),
  (15, .iload_n 2, 16, 0, [], .null),
  (16, .bipush 6, 18, 0, [], .int (nI 6)),
  (18, .irem, 19, 0, [], .null),
  (19, .if_icmp .ge 24, 22, 0, [(43, 0)], .null),
  (22, .aload_n 0, 23, 0, [], .null),
  (23, .getfield 7, 26, 0, [(6, 0)], .null),
  (26, .iconst 5, 27, 0, [], .int (nI 5)),
  (27, .iload_n 2, 28, 0, [], .null),
  (28, .bipush 6, 30, 0, [], .int (nI 6)),
  (30, .idiv, 31, 0, [], .null),
  (31, .iadd, 32, 0, [], .null),
  (32, .iaload, 33, 0, [], .null),
  (33, .iload_n 2, 34, 0, [], .null),
  (34, .bipush 6, 36, 0, [], .int (nI 6)),
  (36, .irem, 37, 0, [], .null),
  (37, .ishr, 38, 0, [], .null),
  (38, .iconst 1, 39, 0, [], .int (nI 1)),
  (39, .iand, 40, 0, [], .null),
  (40, .goto 4, 43, 0, [(44, 0)], .null),
  (43, .iconst 0, 44, 0, [], .int (nI 0)),
  (44, .iadd, 45, 0, [], .null),
  (45, .istore_n 1, 46, 0, [], .null),
  (46, .iinc 2 1, 49, 0, [], .int (nI 1)),
  (49, .goto (-45), 52, 0, [(4, 0)], .null),
  (52, .iload_n 1, 53, 0, [], .null),
  (53, .ireturn, 54, 0, [], .null)]
/-- PursuitDeskModel_neighbours -/
def ct_129 : List pq_E := [(0, .aload_n 0, 1, 0, [], .null),
  (1, .iload_n 1, 2, 0, [], .null),
  (2, .invokevirtual 60, 5, 1, [(6, 107)], .null),
  (5, .ifCond .eq 14, 8, 0, [(19, 0)], .null),
  (8, .aload_n 0, 9, 0, [], .null),
  (9, .getfield 7, 12, 0, [(6, 0)], .null),
  (12, .iconst 5, 13, 0, [], .int (nI 5)),
  (13, .iload_n 1, 14, 0, [], .null),
  (14, .iadd, 15, 0, [], .null),
  (15, .iaload, 16, 0, [], .null),
  (16, .goto 4, 19, 0, [(20, 0)], .null),
  (19, .iconst (-1), 20, 0, [], .int (-1)),
  (20, .ireturn, 21, 0, [], .null)]
/-- PursuitDeskModel_searcher -/
def ct_130 : List pq_E := [(0, .aload_n 0, 1, 0, [], .null),
  (1, .iload_n 1, 2, 0, [], .null),
  (2, .invokevirtual 75, 5, 1, [(6, 114)], .null),
  (5, .ifCond .eq 28, 8, 0, [(33, 0)], .null),
  (8, .iload_n 2, 9, 0, [], .null),
  (9, .iconst 0, 10, 0, [], .int (nI 0)),
  (10, .iconst 1, 11, 0, [], .int (nI 1)),
  (11, .invokestatic 45, 14, 3, [(0, 104)], .null),
  (14, .ifCond .eq 19, 17, 0, [(33, 0)], .null),
  (17, .aload_n 0, 18, 0, [], .null),
  (18, .getfield 7, 21, 0, [(6, 0)], .null),
  (21, .bipush 11, 23, 0, [], .int (nI 11)),
  (23, .iconst 3, 24, 0, [], .int (nI 3)),
  (24, .iload_n 2, 25, 0, [], .null),
  (25, .imul, 26, 0, [], .null),
  (26, .iadd, 27, 0, [], .null),
  (27, .iload_n 1, 28, 0, [], .null),
  (28, .iadd, 29, 0, [], .null),
  (29, .iaload, 30, 0, [], .null),
  (30, .goto 4, 33, 0, [(34, 0)], .null),
  (33, .iconst (-1), 34, 0, [], .int (-1)),
  (34, .ireturn, 35, 0, [], .null)]
/-- PursuitDeskModel_hide -/
def ct_131 : List pq_E := [(0, .aload_n 0, 1, 0, [], .null),
  (1, .iload_n 1, 2, 0, [], .null),
  (2, .invokevirtual 60, 5, 1, [(6, 107)], .null),
  (5, .ifCond .ne 5, 8, 0, [(10, 0)], .null),
  (8, .iconst (-1), 9, 0, [], .int (-1)),
  (9, .ireturn, 10, 0, [], .null),
  (10, .iconst 0, 11, 0, [], .int (nI 0)),
  (11, .istore_n 2, 12, 0, [], .null),
  (12, .iload_n 2, 13, 0, [], .null),
  (13, .aload_n 0, 14, 0, [], .null),
  (14, .getfield 7, 17, 0, [(6, 0)], .null),
  (17, .iconst 1, 18, 0, [], .int (nI 1)),
  (18, .iaload, 19, 0, [], .null),
  (19, .if_icmp .ge 25, 22, 0, [(44, 0)], .null),
  (22, .aload_n 0, 23, 0, [], .null),
  (23, .getfield 7, 26, 0, [(6, 0)], .null),
  (26, .bipush 11, 28, 0, [], .int (nI 11)),
  (28, .iload_n 2, 29, 0, [], .null),
  (29, .iadd, 30, 0, [], .null),
  (30, .iaload, 31, 0, [], .null),
  (31, .iload_n 1, 32, 0, [], .null),
  (32, .if_icmp .ne 6, 35, 0, [(38, 0)], .null),
  (35, .bipush (-2), 37, 0, [], .int (-2)),
  (37, .ireturn, 38, 0, [], .null),
  (38, .iinc 2 1, 41, 0, [], .int (nI 1)),
  (41, .goto (-29), 44, 0, [(12, 0)], .null),
  (44, .aload_n 0, 45, 0, [], .null),
  (45, .invokevirtual 57, 48, 0, [(6, 105)], .null),
  (48, .aload_n 0, 49, 0, [], .null),
  (49, .getfield 7, 52, 0, [(6, 0)], .null),
  (52, .bipush 17, 54, 0, [], .int (nI 17)),
  (54, .iconst 1, 55, 0, [], .int (nI 1)),
  (55, .iastore, 56, 0, [], .null),
  (56, .aload_n 0, 57, 0, [], .null),
  (57, .getfield 7, 60, 0, [(6, 0)], .null),
  (60, .bipush 18, 62, 0, [], .int (nI 18)),
  (62, .iload_n 1, 63, 0, [], .null),
  (63, .iastore, 64, 0, [], .null),
  (64, .aload_n 0, 65, 0, [], .null),
  (65, .getfield 7, 68, 0, [(6, 0)], .null),
  (68, .bipush 19, 70, 0, [], .int (nI 19)),
  (70, .iload_n 1, 71, 0, [], .null),
  (71, .iastore, 72, 0, [], .null),
  (72, .aload_n 0, 73, 0, [], .null),
  (73, .getfield 7, 76, 0, [(6, 0)], .null),
  (76, .bipush 20, 78, 0, [], .int (nI 20)),
  (78, .iconst 0, 79, 0, [], .int (nI 0)),
  (79, .iastore, 80, 0, [], .null),
  (80, .aload_n 0, 81, 0, [], .null),
  (81, .getfield 7, 84, 0, [(6, 0)], .null),
  (84, .bipush 21, 86, 0, [], .int (nI 21)),
  (86, .iconst 0, 87, 0, [], .int (nI 0)),
  (87, .iastore, 88, 0, [], .null),
  (88, .aload_n 0, 89, 0, [], .null),
  (89, .getfield 7, 92, 0, [(6, 0)], .null),
  (92, .bipush 22, 94, 0, [], .int (nI 22)),
  (94, .aload_n 0, 95, 0, [], .null),
  (95, .getfield 7, 98, 0, [(6, 0)], .null),
  (98, .iconst 2, 99, 0, [], .int (nI 2)),
  (99, .iaload, 100, 0, [], .null),
  (100, .iastore, 101, 0, [], .null),
  (101, .aload_n 0, 102, 0, [], .null),
  (102, .getfield 7, 105, 0, [(6, 0)], .null),
  (105, .aload_n 0, 106, 0, [], .null),
  (106, .invokevirtual 72, 109, 0, [(6, 111)], .null),
  (109, .iconst 1, 110, 0, [], .int (nI 1)),
  (110, .iadd, 111, 0, [], .null),
  (111, .iload_n 1, 112, 0, [], .null),
  (112, .iastore, 113, 0, [], .null),
  (113, .aload_n 0, 114, 0, [], .null),
  (114, .getfield 7, 117, 0, [(6, 0)], .null),
  (117, .aload_n 0, 118, 0, [], .null),
  (118, .invokevirtual 72, 121, 0, [(6, 111)], .null),
  (121, .iaload, 122, 0, [], .null),
  (122, .iload_n 1, 123, 0, [], .null),
  (123, .ishr, 124, 0, [], .null),
  (124, .iconst 1, 125, 0, [], .int (nI 1)),
  (125, .iand, 126, 0, [], .null),
  (126, .ireturn, 127, 0, [], .null)]
/-- PursuitDeskModel_flee -/
def ct_132 : List pq_E := [(0, .aload_n 0, 1, 0, [], .null),
  (1, .iload_n 1, 2, 0, [], .null),
  (2, .invokevirtual 60, 5, 1, [(6, 107)], .null),
  (5, .ifCond .ne 5, 8, 0, [(10, 0)], .null),
  (8, .iconst (-1), 9, 0, [], .int (-1)),
  (9, .ireturn, 10, 0, [], .null),
  (10, .aload_n 0, 11, 0, [], .null),
  (11, .getfield 7, 14, 0, [(6, 0)], .null),
  (14, .bipush 17, 16, 0, [], .int (nI 17)),
  (16, .iaload, 17, 0, [], .null),
  (17, .ifCond .eq 29, 20, 0, [(46, 0)], .null),
  (20, .aload_n 0, 21, 0, [], .null),
  (21, .getfield 7, 24, 0, [(6, 0)], .null),
  (24, .bipush 20, 26, 0, [], .int (nI 20)),
  (26, .iaload, 27, 0, [], .null),
  (27, .iconst 1, 28, 0, [], .int (nI 1)),
  (28, .if_icmp .eq 18, 31, 0, [(46, 0)], .null),
  (31, .aload_n 0, 32, 0, [], .null),
  (32, .aload_n 0, 33, 0, [], .null),
  (33, .getfield 7, 36, 0, [(6, 0)], .null),
  (36, .bipush 18, 38, 0, [], .int (nI 18)),
  (38, .iaload, 39, 0, [], .null),
  (39, .iload_n 1, 40, 0, [], .null),
  (40, .invokevirtual 68, 43, 2, [(6, 109)], .null),
  (43, .ifCond .ne 6, 46, 0, [(49, 0)], .null),
  (46, .bipush (-2), 48, 0, [], .int (-2)),
  (48, .ireturn, 49, 0, [], .null),
  (49, .aload_n 0, 50, 0, [], .null),
  (50, .invokevirtual 57, 53, 0, [(6, 105)], .null),
  (53, .aload_n 0, 54, 0, [], .null),
  (54, .getfield 7, 57, 0, [(6, 0)], .null),
  (57, .bipush 19, 59, 0, [], .int (nI 19)),
  (59, .iaload, 60, 0, [], .null),
  (60, .istore_n 2, 61, 0, [], .null),
  (61, .aload_n 0, 62, 0, [], .null),
  (62, .getfield 7, 65, 0, [(6, 0)], .null),
  (65, .bipush 19, 67, 0, [], .int (nI 19)),
  (67, .iload_n 1, 68, 0, [], .null),
  (68, .iastore, 69, 0, [], .null),
  (69, .iload_n 2, 70, 0, [], .null),
  (70, .ireturn, 71, 0, [], .null)]
/-- PursuitDeskModel_setNews -/
def ct_133 : List pq_E := [(0, .iload_n 1, 1, 0, [], .null),
  (1, .iconst 0, 2, 0, [], .int (nI 0)),
  (2, .bipush 9, 4, 0, [], .int (nI 9)),
  (4, .invokestatic 45, 7, 3, [(0, 104)], .null),
  (7, .ifCond .eq 13, 10, 0, [(20, 0)], .null),
  (10, .iload_n 2, 11, 0, [], .null),
  (11, .iconst 0, 12, 0, [], .int (nI 0)),
  (12, .bipush 7, 14, 0, [], .int (nI 7)),
  (14, .invokestatic 45, 17, 3, [(0, 104)], .null),
  (17, .ifCond .ne 5, 20, 0, [(22, 0)], .null),
  (20, .iconst (-1), 21, 0, [], .int (-1)),
  (21, .ireturn, 22, 0, [], .null),
  (22, .aload_n 0, 23, 0, [], .null),
  (23, .invokevirtual 57, 26, 0, [(6, 105)], .null),
  (26, .bipush 10, 28, 0, [], .int (nI 10)),
  (28, .aload_n 0, 29, 0, [], .null),
  (29, .getfield 7, 32, 0, [(6, 0)], .null),
  (32, .iconst 3, 33, 0, [], .int (nI 3)),
  (33, .iaload, 34, 0, [], .null),
  (34, .imul, 35, 0, [], .null),
  (35, .aload_n 0, 36, 0, [], .null),
  (36, .getfield 7, 39, 0, [(6, 0)], .null),
  (39, .iconst 4, 40, 0, [], .int (nI 4)),
  (40, .iaload, 41, 0, [], .null),
  (41, .iadd, 42, 0, [], .null),
  (42, .istore_n 3, 43, 0, [], .null),
  (43, .aload_n 0, 44, 0, [], .null),
  (44, .getfield 7, 47, 0, [(6, 0)], .null),
  (47, .iconst 3, 48, 0, [], .int (nI 3)),
  (48, .iload_n 1, 49, 0, [], .null),
  (49, .iastore, 50, 0, [], .null),
  (50, .aload_n 0, 51, 0, [], .null),
  (51, .getfield 7, 54, 0, [(6, 0)], .null),
  (54, .iconst 4, 55, 0, [], .int (nI 4)),
  (55, .iload_n 2, 56, 0, [], .null),
  (56, .iastore, 57, 0, [], .null),
  (57, .iload_n 3, 58, 0, [], .null),
  (58, .ireturn, 59, 0, [], .null)]
/-- PursuitDeskModel_evader -/
def ct_134 : List pq_E := [(0, .iload_n 1, 1, 0, [], .null),
  (1, .iconst 0, 2, 0, [], .int (nI 0)),
  (2, .iconst 4, 3, 0, [], .int (nI 4)),
  (3, .invokestatic 45, 6, 3, [(0, 104)], .null),
  (6, .ifCond .ne 5, 9, 0, [(11, 0)], .null),
  (9, .iconst (-1), 10, 0, [], .int (-1)),
  (10, .ireturn, 11, 0, [], .null),
  (11, .aload_n 0, 12, 0, [], .null),
  (12, .getfield 7, 15, 0, [(6, 0)], .null),
  (15, .bipush 17, 17, 0, [], .int (nI 17)),
  (17, .iaload, 18, 0, [], .null),
  (18, .ifCond .ne 8, 21, 0, [(26, 0)], .null),
  (21, .bipush (-4), 23, 0, [], .int (-4)),
  (23, .goto 12, 26, 0, [(35, 0)], .null),
  (26, .aload_n 0, 27, 0, [], .null),
  (27, .getfield 7, 30, 0, [(6, 0)], .null),
  (30, .bipush 18, 32, 0, [], .int (nI 18)),
  (32, .iload_n 1, 33, 0, [], .null),
  (33, .iadd, 34, 0, [], .null),
  (34, .iaload, 35, 0, [], .null),
  (35, .ireturn, 36, 0, [], .null)]
/-- PursuitDeskModel_ahead -/
def ct_135 : List pq_E := [(0, .aload_n 0, 1, 0, [], .null),
  (1, .invokevirtual 93, 4, 0, [(6, 123)], .null),
  (4, .aload_n 0, 5, 0, [], .null),
  (5, .aload_n 0, 6, 0, [], .null),
  (6, .invokevirtual 90, 9, 0, [(6, 116)], .null),
  (9, .aload_n 0, 10, 0, [], .null),
  (10, .getfield 7, 13, 0, [(6, 0)], .null),
  (13, .iconst 1, 14, 0, [], .int (nI 1)),
  (14, .iaload, 15, 0, [], .null),
  (15, .invokevirtual 82, 18, 2, [(6, 121)], .null),
  (18, .ireturn, 19, 0, [], .null)]
/-- PursuitDeskModel_settles -/
def ct_136 : List pq_E := [(0, .aload_n 0, 1, 0, [], .null),
  (1, .invokevirtual 93, 4, 0, [(6, 123)], .null),
  (4, .iconst 0, 5, 0, [], .int (nI 0)),
  (5, .istore_n 1, 6, 0, [], .null),
  (6, .iload_n 1, 7, 0, [], .null),
  (7, .iconst 3, 8, 0, [], .int (nI 3)),
  (8, .if_icmp .ge 21, 11, 0, [(29, 0)], .null),
  (11, .aload_n 0, 12, 0, [], .null),
  (12, .getfield 23, 15, 0, [(6, 6)], .null),
  (15, .iload_n 1, 16, 0, [], .null),
  (16, .aload_n 0, 17, 0, [], .null),
  (17, .getfield 20, 20, 0, [(6, 5)], .null),
  (20, .iload_n 1, 21, 0, [], .null),
  (21, .iaload, 22, 0, [], .null),
  (22, .iastore, 23, 0, [], .null),
  (23, .iinc 1 1, 26, 0, [], .int (nI 1)),
  (26, .goto (-20), 29, 0, [(6, 0)], .null),
  (29, .aload_n 0, 30, 0, [], .null),
  (30, .invokevirtual 90, 33, 0, [(6, 116)], .null),
  (33, .istore_n 1, 34, 0, [], .null),
  (34, .iconst 0, 35, 0, [], .int (nI 0)),
  (35, .istore_n 2, 36, 0, [], .null),
  (36, .aload_n 0, 37, 0, [], .null),
  (37, .iload_n 1, 38, 0, [], .null),
  (38, .aload_n 0, 39, 0, [], .null),
  (39, .getfield 7, 42, 0, [(6, 0)], .null),
  (42, .iconst 1, 43, 0, [], .int (nI 1)),
  (43, .iaload, 44, 0, [], .null),
  (44, .invokevirtual 82, 47, 2, [(6, 121)], .null),
  (47, .istore_n 3, 48, 0, [], .null),
  (48, .iload_n 3, 49, 0, [], .null),
  (49, .iload_n 1, 50, 0, [], .null),
  (50, .if_icmp .eq 23, 53, 0, [(73, 0)], .null),
  (53, .iload_n 3, 54, 0, [], .null),
  (54, .istore_n 1, 55, 0, [], .null),
  (55, .aload_n 0, 56, 0, [], .null),
  (56, .iload_n 1, 57, 0, [], .null),
  (57, .aload_n 0, 58, 0, [], .null),
  (58, .getfield 7, 61, 0, [(6, 0)], .null),
  (61, .iconst 1, 62, 0, [], .int (nI 1)),
  (62, .iaload, 63, 0, [], .null),
  (63, .invokevirtual 82, 66, 2, [(6, 121)], .null),
  (66, .istore_n 3, 67, 0, [], .null),
  (67, .iinc 2 1, 70, 0, [], .int (nI 1)),
  (70, .goto (-22), 73, 0, [(48, 0)], .null),
  (73, .iload_n 2, 74, 0, [], .null),
  (74, .ireturn, 75, 0, [], .null)]
/-- PursuitDeskModel_planTurns -/
def ct_137 : List pq_E := [(0, .aload_n 0, 1, 0, [], .null),
  (1, .invokevirtual 124, 4, 0, [(6, 138)], .null),
  (4, .istore_n 1, 5, 0, [], .null),
  (5, .iload_n 1, 6, 0, [], .null),
  (6, .ifCond .ge 8, 9, 0, [(14, 0)], .null),
  (9, .bipush (-4), 11, 0, [], .int (-4)),
  (11, .goto 9, 14, 0, [(20, 0)], .null),
  (14, .aload_n 0, 15, 0, [], .null),
  (15, .getfield 30, 18, 0, [(6, 8)], .null),
  (18, .iload_n 1, 19, 0, [], .null),
  (19, .iaload, 20, 0, [], .null),
  (20, .ireturn, 21, 0, [], .null)]
/-- PursuitDeskModel_plan -/
def ct_138 : List pq_E := [(0, .aload_n 0, 1, 0, [], .null),
  (1, .invokevirtual 115, 4, 0, [(6, 139)], .null),
  (4, .aload_n 0, 5, 0, [], .null),
  (5, .getfield 36, 8, 0, [(6, 10)], .null),
  (8, .iconst 0, 9, 0, [], .int (nI 0)),
  (9, .aload_n 0, 10, 0, [], .null),
  (10, .invokevirtual 118, 13, 0, [(6, 140)], .null),
  (13, .iastore, 14, 0, [], .null),
  (14, .aload_n 0, 15, 0, [], .null),
  (15, .getfield 30, 18, 0, [(6, 8)], .null),
  (18, .aload_n 0, 19, 0, [], .null),
  (19, .getfield 36, 22, 0, [(6, 10)], .null),
  (22, .iconst 0, 23, 0, [], .int (nI 0)),
  (23, .iaload, 24, 0, [], .null),
  (24, .iconst 0, 25, 0, [], .int (nI 0)),
  (25, .iastore, 26, 0, [], .null),
  (26, .aload_n 0, 27, 0, [], .null),
  (27, .iconst 1, 28, 0, [], .int (nI 1)),
  (28, .aload_n 0, 29, 0, [], .null),
  (29, .getfield 7, 32, 0, [(6, 0)], .null),
  (32, .iconst 1, 33, 0, [], .int (nI 1)),
  (33, .iaload, 34, 0, [], .null),
  (34, .invokevirtual 121, 37, 2, [(6, 142)], .null),
  (37, .ireturn, 38, 0, [], .null)]
/-- PursuitDeskModel_clears -/
def ct_139 : List pq_E := [(0, .aload_n 0, 1, 0, [], .null),
  (1, .invokevirtual 93, 4, 0, [(6, 123)], .null),
  (4, .iconst 0, 5, 0, [], .int (nI 0)),
  (5, .istore_n 1, 6, 0, [], .null),
  (6, .iload_n 1, 7, 0, [], .null),
  (7, .ldc 29, 9, 0, [], .int (nI 32768)),
  (9, .if_icmp .ge 16, 12, 0, [(25, 0)], .null),
  (12, .aload_n 0, 13, 0, [], .null),
  (13, .getfield 30, 16, 0, [(6, 8)], .null),
  (16, .iload_n 1, 17, 0, [], .null),
  (17, .iconst (-1), 18, 0, [], .int (-1)),
  (18, .iastore, 19, 0, [], .null),
  (19, .iinc 1 1, 22, 0, [], .int (nI 1)),
  (22, .goto (-16), 25, 0, [(6, 0)], .null),
  (25, .return_, 26, 0, [], .null)]
/-- PursuitDeskModel_now -/
def ct_140 : List pq_E := [(0, .aload_n 0, 1, 0, [], .null),
  (1, .invokevirtual 90, 4, 0, [(6, 116)], .null),
  (4, .istore_n 1, 5, 0, [], .null),
  (5, .iconst 0, 6, 0, [], .int (nI 0)),
  (6, .istore_n 2, 7, 0, [], .null),
  (7, .iload_n 2, 8, 0, [], .null),
  (8, .aload_n 0, 9, 0, [], .null),
  (9, .getfield 7, 12, 0, [(6, 0)], .null),
  (12, .iconst 1, 13, 0, [], .int (nI 1)),
  (13, .iaload, 14, 0, [], .null),
  (14, .if_icmp .ge 24, 17, 0, [(38, 0)], .null),
  (17, .iload_n 1, 18, 0, [], .null),
  (18, .iload_n 2, 19, 0, [], .null),
  (19, .aload_n 0, 20, 0, [], .null),
  (20, .getfield 7, 23, 0, [(6, 0)], .null),
  (23, .bipush 11, 25, 0, [], .int (nI 11)),
  (25, .iload_n 2, 26, 0, [], .null),
  (26, .iadd, 27, 0, [], .null),
  (27, .iaload, 28, 0, [], .null),
  (28, .invokestatic 105, 31, 3, [(0, 141)], .null),
  (31, .istore_n 1, 32, 0, [], .null),
  (32, .iinc 2 1, 35, 0, [], .int (nI 1)),
  (35, .goto (-28), 38, 0, [(7, 0)], .null),
  (38, .iload_n 1, 39, 0, [], .null),
  (39, .ireturn, 40, 0, [], .null)]
/-- PursuitDeskModel_placed -/
def ct_141 : List pq_E := [(0, .iload_n 0, 1, 0, [], .null),
  (1, .bipush 7, 3, 0, [], .int (nI 7)),
  (3, .bipush 6, 5, 0, [], .int (nI 6)),
  (5, .iconst 3, 6, 0, [], .int (nI 3)),
  (6, .iload_n 1, 7, 0, [], .null),
  (7, .imul, 8, 0, [], .null),
  (8, .iadd, 9, 0, [], .null),
  (9, .ishl, 10, 0, [], .null),
  (10, .iconst (-1), 11, 0, [], .int (-1)),
  (11, .ixor, 12, 0, [], .null),
  (12, .iand, 13, 0, [], .null),
  (13, .iload_n 2, 14, 0, [], .null),
  (14, .bipush 6, 16, 0, [], .int (nI 6)),
  (16, .iconst 3, 17, 0, [], .int (nI 3)),
  (17, .iload_n 1, 18, 0, [], .null),
  (18, .imul, 19, 0, [], .null),
  (19, .iadd, 20, 0, [], .null),
  (20, .ishl, 21, 0, [], .null),
  (21, .ior, 22, 0, [], .null),
  (22, .ireturn, 23, 0, [], .null)]
/-- PursuitDeskModel_searches -/
def ct_142 : List pq_E := [(0, .iload_n 1, 1, 0, [], .null),
  (1, .istore_n 3, 2, 0, [], .null),
  (2, .iconst 0, 3, 0, [], .int (nI 0)),
  (3, .istore 4, 5, 0, [], .null),
  (5, .iload 4, 7, 0, [], .null),
  (7, .iload_n 3, 8, 0, [], .null),
  (8, .if_icmp .ge 125, 11, 0, [(133, 0)], .null),
  (11, .aload_n 0, 12, 0, [], .null),
  (12, .getfield 36, 15, 0, [(6, 10)], .null),
  (15, .iload 4, 17, 0, [], .null),
  (17, .iaload, 18, 0, [], .null),
  (18, .bipush 63, 20, 0, [], .int (nI 63)),
  (20, .iand, 21, 0, [], .null),
  (21, .ifCond .ne 11, 24, 0, [(32, 0)], .null),
  (24, .aload_n 0, 25, 0, [], .null),
  (25, .getfield 36, 28, 0, [(6, 10)], .null),
  (28, .iload 4, 30, 0, [], .null),
  (30, .iaload, 31, 0, [], .null),
  (31, .ireturn, 32, 0, [], .null),
  (32, .iconst 0, 33, 0, [], .int (nI 0)),
  (33, .istore 5, 35, 0, [], .null),
  (35, .iload 5, 37, 0, [], .null),
  (37, .iload_n 2, 38, 0, [], .null),
  (38, .invokestatic 109, 41, 1, [(0, 143)], .null),
  (41, .if_icmp .ge 86, 44, 0, [(127, 0)], .null),
  (44, .aload_n 0, 45, 0, [], .null),
  (45, .aload_n 0, 46, 0, [], .null),
  (46, .getfield 36, 49, 0, [(6, 10)], .null),
  (49, .iload 4, 51, 0, [], .null),
  (51, .iaload, 52, 0, [], .null),
  (52, .iload 5, 54, 0, [], .null),
  (54, .iload_n 2, 55, 0, [], .null),
  (55, .invokevirtual 112, 58, 3, [(6, 144)], .null),
  (58, .istore 6, 60, 0, [], .null),
  (60, .iload 6, 62, 0, [], .null),
  (62, .ifCond .lt 59, 65, 0, [(121, 0)], .null),
  (65, .aload_n 0, 66, 0, [], .null),
  (66, .getfield 30, 69, 0, [(6, 8)], .null),
  (69, .iload 6, 71, 0, [], .null),
  (71, .iaload, 72, 0, [], .null),
  (72, .ifCond .ge 49, 75, 0, [(121, 0)], .null),
  (75, .aload_n 0, 76, 0, [], .null),
  (76, .getfield 30, 79, 0, [(6, 8)], .null),
  (79, .iload 6, 81, 0, [], .null),
  (81, .aload_n 0, 82, 0, [], .null),
  (82, .getfield 30, 85, 0, [(6, 8)], .null),
  (85, .aload_n 0, 86, 0, [], .null),
  (86, .getfield 36, 89, 0, [(6, 10)], .null),
  (89, .iload 4, 91, 0, [], .null),
  (91, .iaload, 92, 0, [], .null),
  (92, .iaload, 93, 0, [], .null),
  (93, .iconst 1, 94, 0, [], .int (nI 1)),
  (94, .iadd, 95, 0, [], .null),
  (95, .iastore, 96, 0, [], .null),
  (96, .aload_n 0, 97, 0, [], .null),
  (97, .getfield 33, 100, 0, [(6, 9)], .null),
  (100, .iload 6, 102, 0, [], .null),
  (102, .aload_n 0, 103, 0, [], .null),
  (103, .getfield 36, 106, 0, [(6, 10)], .null),
  (106, .iload 4, 108, 0, [], .null),
  (108, .iaload, 109, 0, [], .null),
  (109, .iastore, 110, 0, [], .null),
  (110, .aload_n 0, 111, 0, [], .null),
  (111, .getfield 36, 114, 0, [(6, 10)], .null),
  (114, .iload_n 3, 115, 0, [], .null),
  (115, .iload 6, 117, 0, [], .null),
  (117, .iastore, 118, 0, [], .null),
  (118, .iinc 3 1, 121, 0, [], .int (nI 1)),
  (121, .iinc 5 1, 124, 0, [], .int (nI 1)),
  (124, .goto (-89), 127, 0, [(35, 0)], .null),
  (127, .iinc 4 1, 130, 0, [], .int (nI 1)),
  (130, .goto (-125), 133, 0, [(5, 0)], .null),
  (133, .iconst (-1), 134, 0, [], .int (-1)),
  (134, .ireturn, 135, 0, [], .null)]
/-- PursuitDeskModel_moves -/
def ct_143 : List pq_E := [(0, .iload_n 0, 1, 0, [], .null),
  (1, .ifCond .ne 7, 4, 0, [(8, 0)], .null),
  (4, .iconst 1, 5, 0, [], .int (nI 1)),
  (5, .goto 26, 8, 0, [(31, 0)], .null),
  (8, .iload_n 0, 9, 0, [], .null),
  (9, .iconst 1, 10, 0, [], .int (nI 1)),
  (10, .if_icmp .ne 8, 13, 0, [(18, 0)], .null),
  (13, .bipush 6, 15, 0, [], .int (nI 6)),
  (15, .goto 16, 18, 0, [(31, 0)], .null),
  (18, .iload_n 0, 19, 0, [], .null),
  (19, .iconst 2, 20, 0, [], .int (nI 2)),
  (20, .if_icmp .ne 8, 23, 0, [(28, 0)], .null),
  (23, .bipush 36, 25, 0, [], .int (nI 36)),
  (25, .goto 6, 28, 0, [(31, 0)], .null),
  (28, .sipush 216, 31, 0, [], .int (nI 216)),
  (31, .ireturn, 32, 0, [], .null)]
/-- PursuitDeskModel_moved -/
def ct_144 : List pq_E := [(0, .iload_n 2, 1, 0, [], .null),
  (1, .istore 4, 3, 0, [], .null),
  (3, .iconst 0, 4, 0, [], .int (nI 0)),
  (4, .istore 5, 6, 0, [], .null),
  (6, .iload_n 3, 7, 0, [], .null),
  (7, .iconst 1, 8, 0, [], .int (nI 1)),
  (8, .isub, 9, 0, [], .null),
  (9, .istore 6, 11, 0, [], .null),
  (11, .iload 6, 13, 0, [], .null),
  (13, .ifCond .lt 102, 16, 0, [(115, 0)], .null),
  (16, .aload_n 0, 17, 0, [], .null),
  (17, .getfield 20, 20, 0, [(6, 5)], .null),
  (20, .iload 6, 22, 0, [], .null),
  (22, .iload_n 1, 23, 0, [], .null),
  (23, .bipush 6, 25, 0, [], .int (nI 6)),
  (25, .iconst 3, 26, 0, [], .int (nI 3)),
  (26, .iload 6, 28, 0, [], .null),
  (28, .imul, 29, 0, [], .null),
  (29, .iadd, 30, 0, [], .null),
  (30, .ishr, 31, 0, [], .null),
  (31, .bipush 7, 33, 0, [], .int (nI 7)),
  (33, .iand, 34, 0, [], .null),
  (34, .iastore, 35, 0, [], .null),
  (35, .aload_n 0, 36, 0, [], .null),
  (36, .getfield 23, 39, 0, [(6, 6)], .null),
  (39, .iload 6, 41, 0, [], .null),
  (41, .iload 4, 43, 0, [], .null),
  (43, .bipush 6, 45, 0, [], .int (nI 6)),
  (45, .irem, 46, 0, [], .null),
  (46, .iastore, 47, 0, [], .null),
  (47, .iload 4, 49, 0, [], .null),
  (49, .bipush 6, 51, 0, [], .int (nI 6)),
  (51, .idiv, 52, 0, [], .null),
  (52, .istore 4, 54, 0, [], .null),
  (54, .aload_n 0, 55, 0, [], .null),
  (55, .getfield 23, 58, 0, [(6, 6)], .null),
  (58, .iload 6, 60, 0, [], .null),
  (60, .iaload, 61, 0, [], .null),
  (61, .aload_n 0, 62, 0, [], .null),
  (62, .getfield 7, 65, 0, [(6, 0)], .null),
  (65, .iconst 0, 66, 0, [], .int (nI 0)),
  (66, .iaload, 67, 0, [], .null),
  (67, .if_icmp .ge 24, 70, 0, [(91, 0)], .null),
  (70, .aload_n 0, 71, 0, [], .null),
  (71, .aload_n 0, 72, 0, [], .null),
  (72, .getfield 20, 75, 0, [(6, 5)], .null),
  (75, .iload 6, 77, 0, [], .null),
  (77, .iaload, 78, 0, [], .null),
  (78, .aload_n 0, 79, 0, [], .null),
  (79, .getfield 23, 82, 0, [(6, 6)], .null),
  (82, .iload 6, 84, 0, [], .null),
  (84, .iaload, 85, 0, [], .null),
  (85, .invokevirtual 68, 88, 2, [(6, 109)], .null),
  (88, .ifCond .ne 5, 91, 0, [(93, 0)], .null),
  (91, .iconst (-1), 92, 0, [], .int (-1)),
  (92, .ireturn, 93, 0, [], .null),
  (93, .iload 5, 95, 0, [], .null),
  (95, .iload 6, 97, 0, [], .null),
  (97, .aload_n 0, 98, 0, [], .null),
  (98, .getfield 23, 101, 0, [(6, 6)], .null),
  (101, .iload 6, 103, 0, [], .null),
  (103, .iaload, 104, 0, [], .null),
  (104, .invokestatic 105, 107, 3, [(0, 141)], .null),
  (107, .istore 5, 109, 0, [], .null),
  (109, .iinc 6 (-1), 112, 0, [], .int (-1)),
  (112, .goto (-101), 115, 0, [(11, 0)], .null),
  (115, .iload 5, 117, 0, [], .null),
  (117, .aload_n 0, 118, 0, [], .null),
  (118, .iload_n 1, 119, 0, [], .null),
  (119, .bipush 63, 121, 0, [], .int (nI 63)),
  (121, .iand, 122, 0, [], .null),
  (122, .iload_n 3, 123, 0, [], .null),
  (123, .invokevirtual 82, 126, 2, [(6, 121)], .null),
  (126, .ior, 127, 0, [], .null),
  (127, .ireturn, 128, 0, [], .null)]
/-- PursuitDeskModel_planOrder -/
def ct_145 : List pq_E := [(0, .iload_n 1, 1, 0, [], .null),
  (1, .ifCond .lt 11, 4, 0, [(12, 0)], .null),
  (4, .aload_n 0, 5, 0, [], .null),
  (5, .iload_n 2, 6, 0, [], .null),
  (6, .invokevirtual 75, 9, 1, [(6, 114)], .null),
  (9, .ifCond .ne 5, 12, 0, [(14, 0)], .null),
  (12, .iconst (-1), 13, 0, [], .int (-1)),
  (13, .ireturn, 14, 0, [], .null),
  (14, .aload_n 0, 15, 0, [], .null),
  (15, .invokevirtual 124, 18, 0, [(6, 138)], .null),
  (18, .istore_n 3, 19, 0, [], .null),
  (19, .iload_n 3, 20, 0, [], .null),
  (20, .ifCond .lt 13, 23, 0, [(33, 0)], .null),
  (23, .iload_n 1, 24, 0, [], .null),
  (24, .aload_n 0, 25, 0, [], .null),
  (25, .getfield 30, 28, 0, [(6, 8)], .null),
  (28, .iload_n 3, 29, 0, [], .null),
  (29, .iaload, 30, 0, [], .null),
  (30, .if_icmp .lt 6, 33, 0, [(36, 0)], .null),
  (33, .bipush (-4), 35, 0, [], .int (-4)),
  (35, .ireturn, 36, 0, [], .null),
  (36, .aload_n 0, 37, 0, [], .null),
  (37, .getfield 30, 40, 0, [(6, 8)], .null),
  (40, .iload_n 3, 41, 0, [], .null),
  (41, .iaload, 42, 0, [], .null),
  (42, .iload_n 1, 43, 0, [], .null),
  (43, .iconst 1, 44, 0, [], .int (nI 1)),
  (44, .iadd, 45, 0, [], .null),
  (45, .if_icmp .le 13, 48, 0, [(58, 0)], .null),
  (48, .aload_n 0, 49, 0, [], .null),
  (49, .getfield 33, 52, 0, [(6, 9)], .null),
  (52, .iload_n 3, 53, 0, [], .null),
  (53, .iaload, 54, 0, [], .null),
  (54, .istore_n 3, 55, 0, [], .null),
  (55, .goto (-19), 58, 0, [(36, 0)], .null),
  (58, .iload_n 3, 59, 0, [], .null),
  (59, .bipush 6, 61, 0, [], .int (nI 6)),
  (61, .iconst 3, 62, 0, [], .int (nI 3)),
  (62, .iload_n 2, 63, 0, [], .null),
  (63, .imul, 64, 0, [], .null),
  (64, .iadd, 65, 0, [], .null),
  (65, .ishr, 66, 0, [], .null),
  (66, .bipush 7, 68, 0, [], .int (nI 7)),
  (68, .iand, 69, 0, [], .null),
  (69, .ireturn, 70, 0, [], .null)]
/-- PursuitDeskModel_planMoves -/
def ct_146 : List pq_E := [(0, .aload_n 0, 1, 0, [], .null),
  (1, .invokevirtual 115, 4, 0, [(6, 139)], .null),
  (4, .aload_n 0, 5, 0, [], .null),
  (5, .getfield 30, 8, 0, [(6, 8)], .null),
  (8, .aload_n 0, 9, 0, [], .null),
  (9, .invokevirtual 118, 12, 0, [(6, 140)], .null),
  (12, .iconst 0, 13, 0, [], .int (nI 0)),
  (13, .iastore, 14, 0, [], .null),
  (14, .iconst 1, 15, 0, [], .int (nI 1)),
  (15, .istore_n 1, 16, 0, [], .null),
  (16, .iconst 0, 17, 0, [], .int (nI 0)),
  (17, .istore_n 2, 18, 0, [], .null),
  (18, .iload_n 2, 19, 0, [], .null),
  (19, .ldc 29, 21, 0, [], .int (nI 32768)),
  (21, .if_icmp .ge 16, 24, 0, [(37, 0)], .null),
  (24, .aload_n 0, 25, 0, [], .null),
  (25, .getfield 33, 28, 0, [(6, 9)], .null),
  (28, .iload_n 2, 29, 0, [], .null),
  (29, .iconst 0, 30, 0, [], .int (nI 0)),
  (30, .iastore, 31, 0, [], .null),
  (31, .iinc 2 1, 34, 0, [], .int (nI 1)),
  (34, .goto (-16), 37, 0, [(18, 0)], .null),
  (37, .iconst 0, 38, 0, [], .int (nI 0)),
  (38, .istore_n 2, 39, 0, [], .null),
  (39, .iload_n 1, 40, 0, [], .null),
  (40, .ifCond .eq 258, 43, 0, [(298, 0)], .null),
  (43, .iconst 0, 44, 0, [], .int (nI 0)),
  (44, .istore_n 3, 45, 0, [], .null),
  (45, .iconst 0, 46, 0, [], .int (nI 0)),
  (46, .istore_n 1, 47, 0, [], .null),
  (47, .iconst 0, 48, 0, [], .int (nI 0)),
  (48, .istore 4, 50, 0, [], .null),
  (50, .iload 4, 52, 0, [], .null),
  (52, .ldc 29, 54, 0, [], .int (nI 32768)),
  (54, .if_icmp .ge 70, 57, 0, [(124, 0)], .null),
  (57, .iload_n 1, 58, 0, [], .null),
  (58, .ifCond .ne 14, 61, 0, [(72, 0)], .null),
  (61, .aload_n 0, 62, 0, [], .null),
  (62, .getfield 30, 65, 0, [(6, 8)], .null),
  (65, .iload 4, 67, 0, [], .null),
  (67, .iaload, 68, 0, [], .null),
  (68, .iload_n 2, 69, 0, [], .null),
  (69, .if_icmp .le 7, 72, 0, [(76, 0)], .null),
  (72, .iconst 1, 73, 0, [], .int (nI 1)),
  (73, .goto 4, 76, 0, [(77, 0)], .null),
  (76, .iconst 0, 77, 0, [], .int (nI 0)),
  (77, .istore_n 1, 78, 0, [], .null),
  (78, .aload_n 0, 79, 0, [], .null),
  (79, .getfield 30, 82, 0, [(6, 8)], .null),
  (82, .iload 4, 84, 0, [], .null),
  (84, .iaload, 85, 0, [], .null),
  (85, .iload_n 2, 86, 0, [], .null),
  (86, .if_icmp .ne 32, 89, 0, [(118, 0)], .null),
  (89, .aload_n 0, 90, 0, [], .null),
  (90, .getfield 33, 93, 0, [(6, 9)], .null),
  (93, .iload 4, 95, 0, [], .null),
  (95, .iaload, 96, 0, [], .null),
  (96, .ifCond .ne 22, 99, 0, [(118, 0)], .null),
  (99, .aload_n 0, 100, 0, [], .null),
  (100, .getfield 33, 103, 0, [(6, 9)], .null),
  (103, .iload 4, 105, 0, [], .null),
  (105, .iconst 1, 106, 0, [], .int (nI 1)),
  (106, .iastore, 107, 0, [], .null),
  (107, .aload_n 0, 108, 0, [], .null),
  (108, .getfield 36, 111, 0, [(6, 10)], .null),
  (111, .iload_n 3, 112, 0, [], .null),
  (112, .iload 4, 114, 0, [], .null),
  (114, .iastore, 115, 0, [], .null),
  (115, .iinc 3 1, 118, 0, [], .int (nI 1)),
  (118, .iinc 4 1, 121, 0, [], .int (nI 1)),
  (121, .goto (-71), 124, 0, [(50, 0)], .null),
  (124, .iconst 0, 125, 0, [], .int (nI 0)),
  (125, .istore 4, 127, 0, [], .null),
  (127, .iload 4, 129, 0, [], .null),
  (129, .iload_n 3, 130, 0, [], .null),
  (130, .if_icmp .ge 162, 133, 0, [(292, 0)], .null),
  (133, .aload_n 0, 134, 0, [], .null),
  (134, .getfield 36, 137, 0, [(6, 10)], .null),
  (137, .iload 4, 139, 0, [], .null),
  (139, .iaload, 140, 0, [], .null),
  (140, .bipush 63, 142, 0, [], .int (nI 63)),
  (142, .iand, 143, 0, [], .null),
  (143, .ifCond .ne 5, 146, 0, [(148, 0)], .null),
  (146, .iload_n 2, 147, 0, [], .null),
  (147, .ireturn, 148, 0, [], .null),
  (148, .iconst 0, 149, 0, [], .int (nI 0)),
  (149, .istore 5, 151, 0, [], .null),
  (151, .iload 5, 153, 0, [], .null),
  (153, .aload_n 0, 154, 0, [], .null),
  (154, .getfield 7, 157, 0, [(6, 0)], .null),
  (157, .iconst 1, 158, 0, [], .int (nI 1)),
  (158, .iaload, 159, 0, [], .null),
  (159, .invokestatic 109, 162, 1, [(0, 143)], .null),
  (162, .if_icmp .ge 124, 165, 0, [(286, 0)], .null),
  (165, .aload_n 0, 166, 0, [], .null),
  (166, .aload_n 0, 167, 0, [], .null),
  (167, .getfield 36, 170, 0, [(6, 10)], .null),
  (170, .iload 4, 172, 0, [], .null),
  (172, .iaload, 173, 0, [], .null),
  (173, .iload 5, 175, 0, [], .null),
  (175, .aload_n 0, 176, 0, [], .null),
  (176, .getfield 7, 179, 0, [(6, 0)], .null),
  (179, .iconst 1, 180, 0, [], .int (nI 1)),
  (180, .iaload, 181, 0, [], .null),
  (181, .invokevirtual 112, 184, 3, [(6, 144)], .null),
  (184, .istore 6, 186, 0, [], .null),
  (186, .iload 6, 188, 0, [], .null),
  (188, .ifCond .ge 7, 191, 0, [(195, 0)], .null),
  (191, .iconst 0, 192, 0, [], .int (nI 0)),
  (192, .goto 23, 195, 0, [(215, 0)], .null),
  (195, .iload_n 2, 196, 0, [], .null),
  (196, .aload_n 0, 197, 0, [], .null),
  (197, .getfield 36, 200, 0, [(6, 10)], .null),
  (200, .iload 4, 202, 0, [], .null),
  (202, .iaload, 203, 0, [], .null),
  (203, .iload 6, 205, 0, [], .null),
  (205, .aload_n 0, 206, 0, [], .null),
  (206, .getfield 7, 209, 0, [(6, 0)], .null),
  (209, .iconst 1, 210, 0, [], .int (nI 1)),
  (210, .iaload, 211, 0, [], .null),
  (211, .invokestatic 127, 214, 3, [(0, 147)], .null),
  (214, .iadd, 215, 0, [], .null),
  (215, .istore 7, 217, 0, [], .null),
  (217, .iload 6, 219, 0, [], .null),
  (219, .ifCond .lt 61, 222, 0, [(280, 0)], .null),
  (222, .aload_n 0, 223, 0, [], .null),
  (223, .getfield 30, 226, 0, [(6, 8)], .null),
  (226, .iload 6, 228, 0, [], .null),
  (228, .iaload, 229, 0, [], .null),
  (229, .ifCond .lt 15, 232, 0, [(244, 0)], .null),
  (232, .iload 7, 234, 0, [], .null),
  (234, .aload_n 0, 235, 0, [], .null),
  (235, .getfield 30, 238, 0, [(6, 8)], .null),
  (238, .iload 6, 240, 0, [], .null),
  (240, .iaload, 241, 0, [], .null),
  (241, .if_icmp .ge 39, 244, 0, [(280, 0)], .null),
  (244, .aload_n 0, 245, 0, [], .null),
  (245, .getfield 30, 248, 0, [(6, 8)], .null),
  (248, .iload 6, 250, 0, [], .null),
  (250, .iload 7, 252, 0, [], .null),
  (252, .iastore, 253, 0, [], .null),
  (253, .iconst 1, 254, 0, [], .int (nI 1)),
  (254, .istore_n 1, 255, 0, [], .null),
  (255, .iload 7, 257, 0, [], .null),
  (257, .iload_n 2, 258, 0, [], .null),
  (258, .if_icmp .ne 22, 261, 0, [(280, 0)], .null),
  (261, .aload_n 0, 262, 0, [], .null),
  (262, .getfield 33, 265, 0, [(6, 9)], .null),
  (265, .iload 6, 267, 0, [], .null),
  (267, .iconst 1, 268, 0, [], .int (nI 1)),
  (268, .iastore, 269, 0, [], .null),
  (269, .aload_n 0, 270, 0, [], .null),
  (270, .getfield 36, 273, 0, [(6, 10)], .null),
  (273, .iload_n 3, 274, 0, [], .null),
  (274, .iload 6, 276, 0, [], .null),
  (276, .iastore, 277, 0, [], .null),
  (277, .iinc 3 1, 280, 0, [], .int (nI 1)),
  (280, .iinc 5 1, 283, 0, [], .int (nI 1)),
  (283, .goto (-132), 286, 0, [(151, 0)], .null),
  (286, .iinc 4 1, 289, 0, [], .int (nI 1)),
  (289, .goto (-162), 292, 0, [(127, 0)], .null),
  (292, .iinc 2 1, 295, 0, [], .int (nI 1)),
  (295, .goto (-256), 298, 0, [(39, 0)], .null),
  (298, .bipush (-4), 300, 0, [], .int (-4)),
  (300, .ireturn, 301, 0, [], .null)]
/-- PursuitDeskModel_leaving -/
def ct_147 : List pq_E := [(0, .iconst 0, 1, 0, [], .int (nI 0)),
  (1, .istore_n 3, 2, 0, [], .null),
  (2, .iconst 0, 3, 0, [], .int (nI 0)),
  (3, .istore 4, 5, 0, [], .null),
  (5, .iload 4, 7, 0, [], .null),
  (7, .iload_n 2, 8, 0, [], .null),
  (8, .if_icmp .ge 44, 11, 0, [(52, 0)], .null),
  (11, .iload_n 3, 12, 0, [], .null),
  (12, .iload_n 0, 13, 0, [], .null),
  (13, .bipush 6, 15, 0, [], .int (nI 6)),
  (15, .iconst 3, 16, 0, [], .int (nI 3)),
  (16, .iload 4, 18, 0, [], .null),
  (18, .imul, 19, 0, [], .null),
  (19, .iadd, 20, 0, [], .null),
  (20, .ishr, 21, 0, [], .null),
  (21, .bipush 7, 23, 0, [], .int (nI 7)),
  (23, .iand, 24, 0, [], .null),
  (24, .iload_n 1, 25, 0, [], .null),
  (25, .bipush 6, 27, 0, [], .int (nI 6)),
  (27, .iconst 3, 28, 0, [], .int (nI 3)),
  (28, .iload 4, 30, 0, [], .null),
  (30, .imul, 31, 0, [], .null),
  (31, .iadd, 32, 0, [], .null),
  (32, .ishr, 33, 0, [], .null),
  (33, .bipush 7, 35, 0, [], .int (nI 7)),
  (35, .iand, 36, 0, [], .null),
  (36, .if_icmp .eq 7, 39, 0, [(43, 0)], .null),
  (39, .iconst 1, 40, 0, [], .int (nI 1)),
  (40, .goto 4, 43, 0, [(44, 0)], .null),
  (43, .iconst 0, 44, 0, [], .int (nI 0)),
  (44, .iadd, 45, 0, [], .null),
  (45, .istore_n 3, 46, 0, [], .null),
  (46, .iinc 4 1, 49, 0, [], .int (nI 1)),
  (49, .goto (-44), 52, 0, [(5, 0)], .null),
  (52, .iload_n 3, 53, 0, [], .null),
  (53, .ireturn, 54, 0, [], .null)]
/-- PursuitDeskModel_leastSearchers -/
def ct_148 : List pq_E := [(0, .iconst 1, 1, 0, [], .int (nI 1)),
  (1, .istore_n 1, 2, 0, [], .null),
  (2, .iload_n 1, 3, 0, [], .null),
  (3, .iconst 4, 4, 0, [], .int (nI 4)),
  (4, .if_icmp .ge 19, 7, 0, [(23, 0)], .null),
  (7, .aload_n 0, 8, 0, [], .null),
  (8, .iload_n 1, 9, 0, [], .null),
  (9, .invokevirtual 130, 12, 1, [(6, 149)], .null),
  (12, .ifCond .lt 5, 15, 0, [(17, 0)], .null),
  (15, .iload_n 1, 16, 0, [], .null),
  (16, .ireturn, 17, 0, [], .null),
  (17, .iinc 1 1, 20, 0, [], .int (nI 1)),
  (20, .goto (-18), 23, 0, [(2, 0)], .null),
  (23, .bipush (-4), 25, 0, [], .int (-4)),
  (25, .ireturn, 26, 0, [], .null)]
/-- PursuitDeskModel_turnsOf -/
def ct_149 : List pq_E := [(0, .aload_n 0, 1, 0, [], .null),
  (1, .invokevirtual 115, 4, 0, [(6, 139)], .null),
  (4, .iconst 0, 5, 0, [], .int (nI 0)),
  (5, .istore_n 2, 6, 0, [], .null),
  (6, .iconst 0, 7, 0, [], .int (nI 0)),
  (7, .istore_n 3, 8, 0, [], .null),
  (8, .iload_n 3, 9, 0, [], .null),
  (9, .iload_n 1, 10, 0, [], .null),
  (10, .invokestatic 109, 13, 1, [(0, 143)], .null),
  (13, .if_icmp .ge 125, 16, 0, [(138, 0)], .null),
  (16, .aload_n 0, 17, 0, [], .null),
  (17, .invokevirtual 49, 20, 0, [(6, 102)], .null),
  (20, .istore 4, 22, 0, [], .null),
  (22, .iload_n 3, 23, 0, [], .null),
  (23, .istore 5, 25, 0, [], .null),
  (25, .iconst 1, 26, 0, [], .int (nI 1)),
  (26, .istore 6, 28, 0, [], .null),
  (28, .iconst 0, 29, 0, [], .int (nI 0)),
  (29, .istore 7, 31, 0, [], .null),
  (31, .iload 7, 33, 0, [], .null),
  (33, .iload_n 1, 34, 0, [], .null),
  (34, .if_icmp .ge 64, 37, 0, [(98, 0)], .null),
  (37, .iload 5, 39, 0, [], .null),
  (39, .bipush 6, 41, 0, [], .int (nI 6)),
  (41, .irem, 42, 0, [], .null),
  (42, .istore 8, 44, 0, [], .null),
  (44, .iload 5, 46, 0, [], .null),
  (46, .bipush 6, 48, 0, [], .int (nI 6)),
  (48, .idiv, 49, 0, [], .null),
  (49, .istore 5, 51, 0, [], .null),
  (51, .iload 6, 53, 0, [], .null),
  (53, .ifCond .eq 18, 56, 0, [(71, 0)], .null),
  (56, .iload 8, 58, 0, [], .null),
  (58, .aload_n 0, 59, 0, [], .null),
  (59, .getfield 7, 62, 0, [(6, 0)], .null),
  (62, .iconst 0, 63, 0, [], .int (nI 0)),
  (63, .iaload, 64, 0, [], .null),
  (64, .if_icmp .ge 7, 67, 0, [(71, 0)], .null),
  (67, .iconst 1, 68, 0, [], .int (nI 1)),
  (68, .goto 4, 71, 0, [(72, 0)], .null),
  (71, .iconst 0, 72, 0, [], .int (nI 0)),
  (72, .istore 6, 74, 0, [], .null),
  (74, .iload 4, 76, 0, [], .null),
  (76, .iconst 1, 77, 0, [], .int (nI 1)),
  (77, .iload 8, 79, 0, [], .null),
  (79, .ishl, 80, 0, [], .null),
  (80, .iconst (-1), 81, 0, [], .int (-1)),
  (81, .ixor, 82, 0, [], .null),
  (82, .iand, 83, 0, [], .null),
  (83, .iload 7, 85, 0, [], .null),
  (85, .iload 8, 87, 0, [], .null),
  (87, .invokestatic 105, 90, 3, [(0, 141)], .null),
  (90, .istore 4, 92, 0, [], .null),
  (92, .iinc 7 1, 95, 0, [], .int (nI 1)),
  (95, .goto (-64), 98, 0, [(31, 0)], .null),
  (98, .iload 6, 100, 0, [], .null),
  (100, .ifCond .eq 32, 103, 0, [(132, 0)], .null),
  (103, .aload_n 0, 104, 0, [], .null),
  (104, .getfield 30, 107, 0, [(6, 8)], .null),
  (107, .iload 4, 109, 0, [], .null),
  (109, .iaload, 110, 0, [], .null),
  (110, .ifCond .ge 22, 113, 0, [(132, 0)], .null),
  (113, .aload_n 0, 114, 0, [], .null),
  (114, .getfield 30, 117, 0, [(6, 8)], .null),
  (117, .iload 4, 119, 0, [], .null),
  (119, .iconst 0, 120, 0, [], .int (nI 0)),
  (120, .iastore, 121, 0, [], .null),
  (121, .aload_n 0, 122, 0, [], .null),
  (122, .getfield 36, 125, 0, [(6, 10)], .null),
  (125, .iload_n 2, 126, 0, [], .null),
  (126, .iload 4, 128, 0, [], .null),
  (128, .iastore, 129, 0, [], .null),
  (129, .iinc 2 1, 132, 0, [], .int (nI 1)),
  (132, .iinc 3 1, 135, 0, [], .int (nI 1)),
  (135, .goto (-127), 138, 0, [(8, 0)], .null),
  (138, .aload_n 0, 139, 0, [], .null),
  (139, .iload_n 2, 140, 0, [], .null),
  (140, .iload_n 1, 141, 0, [], .null),
  (141, .invokevirtual 121, 144, 2, [(6, 142)], .null),
  (144, .istore_n 3, 145, 0, [], .null),
  (145, .iload_n 3, 146, 0, [], .null),
  (146, .ifCond .ge 7, 149, 0, [(153, 0)], .null),
  (149, .iconst (-1), 150, 0, [], .int (-1)),
  (150, .goto 9, 153, 0, [(159, 0)], .null),
  (153, .aload_n 0, 154, 0, [], .null),
  (154, .getfield 30, 157, 0, [(6, 8)], .null),
  (157, .iload_n 3, 158, 0, [], .null),
  (158, .iaload, 159, 0, [], .null),
  (159, .ireturn, 160, 0, [], .null)]
/-- PursuitDeskModel_bestTurns -/
def ct_150 : List pq_E := [(0, .iload_n 1, 1, 0, [], .null),
  (1, .iconst 1, 2, 0, [], .int (nI 1)),
  (2, .iconst 3, 3, 0, [], .int (nI 3)),
  (3, .invokestatic 45, 6, 3, [(0, 104)], .null),
  (6, .ifCond .ne 5, 9, 0, [(11, 0)], .null),
  (9, .iconst (-1), 10, 0, [], .int (-1)),
  (10, .ireturn, 11, 0, [], .null),
  (11, .aload_n 0, 12, 0, [], .null),
  (12, .iload_n 1, 13, 0, [], .null),
  (13, .invokevirtual 130, 16, 1, [(6, 149)], .null),
  (16, .istore_n 2, 17, 0, [], .null),
  (17, .iload_n 2, 18, 0, [], .null),
  (18, .ifCond .ge 8, 21, 0, [(26, 0)], .null),
  (21, .bipush (-4), 23, 0, [], .int (-4)),
  (23, .goto 4, 26, 0, [(27, 0)], .null),
  (26, .iload_n 2, 27, 0, [], .null),
  (27, .ireturn, 28, 0, [], .null)]
/-- PursuitDeskModel_type -/
def ct_151 : List pq_E := [(0, .iload_n 1, 1, 0, [], .null),
  (1, .bipush 32, 3, 0, [], .int (nI 32)),
  (3, .bipush 126, 5, 0, [], .int (nI 126)),
  (5, .invokestatic 45, 8, 3, [(0, 104)], .null),
  (8, .ifCond .ne 5, 11, 0, [(13, 0)], .null),
  (11, .iconst (-1), 12, 0, [], .int (-1)),
  (12, .ireturn, 13, 0, [], .null),
  (13, .aload_n 0, 14, 0, [], .null),
  (14, .getfield 133, 17, 0, [(6, 4)], .null),
  (17, .bipush 60, 19, 0, [], .int (nI 60)),
  (19, .if_icmp .ne 6, 22, 0, [(25, 0)], .null),
  (22, .bipush (-3), 24, 0, [], .int (-3)),
  (24, .ireturn, 25, 0, [], .null),
  (25, .aload_n 0, 26, 0, [], .null),
  (26, .getfield 16, 29, 0, [(6, 3)], .null),
  (29, .aload_n 0, 30, 0, [], .null),
  (30, .getfield 133, 33, 0, [(6, 4)], .null),
  (33, .iload_n 1, 34, 0, [], .null),
  (34, .i2c, 35, 0, [], .null),
  (35, .castore, 36, 0, [], .null),
  (36, .aload_n 0, 37, 0, [], .null),
  (37, .dup, 38, 0, [], .null),
  (38, .getfield 133, 41, 0, [(6, 4)], .null),
  (41, .iconst 1, 42, 0, [], .int (nI 1)),
  (42, .iadd, 43, 0, [], .null),
  (43, .putfield 133, 46, 0, [(6, 4)], .null),
  (46, .aload_n 0, 47, 0, [], .null),
  (47, .getfield 133, 50, 0, [(6, 4)], .null),
  (50, .ireturn, 51, 0, [], .null)]
/-- PursuitDeskModel_clearText -/
def ct_152 : List pq_E := [(0, .aload_n 0, 1, 0, [], .null),
  (1, .getfield 133, 4, 0, [(6, 4)], .null),
  (4, .istore_n 1, 5, 0, [], .null),
  (5, .aload_n 0, 6, 0, [], .null),
  (6, .iconst 0, 7, 0, [], .int (nI 0)),
  (7, .putfield 133, 10, 0, [(6, 4)], .null),
  (10, .iload_n 1, 11, 0, [], .null),
  (11, .ireturn, 12, 0, [], .null)]
/-- PursuitDeskModel_fault -/
def ct_153 : List pq_E := [(0, .iconst 0, 1, 0, [], .int (nI 0)),
  (1, .istore_n 1, 2, 0, [], .null),
  (2, .iload_n 1, 3, 0, [], .null),
  (3, .bipush 6, 5, 0, [], .int (nI 6)),
  (5, .if_icmp .ge 16, 8, 0, [(21, 0)], .null),
  (8, .aload_n 0, 9, 0, [], .null),
  (9, .getfield 39, 12, 0, [(6, 11)], .null),
  (12, .iload_n 1, 13, 0, [], .null),
  (13, .iconst 0, 14, 0, [], .int (nI 0)),
  (14, .iastore, 15, 0, [], .null),
  (15, .iinc 1 1, 18, 0, [], .int (nI 1)),
  (18, .goto (-16), 21, 0, [(2, 0)], .null),
  (21, .iconst 0, 22, 0, [], .int (nI 0)),
  (22, .istore_n 1, 23, 0, [], .null),
  (23, .iload_n 1, 24, 0, [], .null),
  (24, .aload_n 0, 25, 0, [], .null),
  (25, .getfield 133, 28, 0, [(6, 4)], .null),
  (28, .if_icmp .ge 126, 31, 0, [(154, 0)], .null),
  (31, .aload_n 0, 32, 0, [], .null),
  (32, .iload_n 1, 33, 0, [], .null),
  (33, .invokevirtual 136, 36, 1, [(6, 154)], .null),
  (36, .bipush 48, 38, 0, [], .int (nI 48)),
  (38, .isub, 39, 0, [], .null),
  (39, .istore_n 2, 40, 0, [], .null),
  (40, .aload_n 0, 41, 0, [], .null),
  (41, .iload_n 1, 42, 0, [], .null),
  (42, .iconst 2, 43, 0, [], .int (nI 2)),
  (43, .iadd, 44, 0, [], .null),
  (44, .invokevirtual 136, 47, 1, [(6, 154)], .null),
  (47, .bipush 48, 49, 0, [], .int (nI 48)),
  (49, .isub, 50, 0, [], .null),
  (50, .istore_n 3, 51, 0, [], .null),
  (51, .aload_n 0, 52, 0, [], .null),
  (52, .iload_n 2, 53, 0, [], .null),
  (53, .invokevirtual 60, 56, 1, [(6, 107)], .null),
  (56, .ifCond .eq 44, 59, 0, [(100, 0)], .null),
  (59, .aload_n 0, 60, 0, [], .null),
  (60, .iload_n 1, 61, 0, [], .null),
  (61, .iconst 1, 62, 0, [], .int (nI 1)),
  (62, .iadd, 63, 0, [], .null),
  (63, .invokevirtual 136, 66, 1, [(6, 154)], .null),
  (66, .bipush 45, 68, 0, [], .int (nI 45)),
  (68, .if_icmp .ne 32, 71, 0, [(100, 0)], .null),
  (71, .aload_n 0, 72, 0, [], .null),
  (72, .iload_n 3, 73, 0, [], .null),
  (73, .invokevirtual 60, 76, 1, [(6, 107)], .null),
  (76, .ifCond .eq 24, 79, 0, [(100, 0)], .null),
  (79, .iload_n 2, 80, 0, [], .null),
  (80, .iload_n 3, 81, 0, [], .null),
  (81, .if_icmp .eq 19, 84, 0, [(100, 0)], .null),
  (84, .aload_n 0, 85, 0, [], .null),
  (85, .iload_n 1, 86, 0, [], .null),
  (86, .iconst 3, 87, 0, [], .int (nI 3)),
  (87, .iadd, 88, 0, [], .null),
  (88, .invokevirtual 136, 91, 1, [(6, 154)], .null),
  (91, .bipush 59, 93, 0, [], .int (nI 59)),
  (93, .if_icmp .ne 7, 96, 0, [(100, 0)], .null),
  (96, .iconst 1, 97, 0, [], .int (nI 1)),
  (97, .goto 4, 100, 0, [(101, 0)], .null),
  (100, .iconst 0, 101, 0, [], .int (nI 0)),
  (101, .istore 4, 103, 0, [], .null),
  (103, .iload 4, 105, 0, [], .null),
  (105, .ifCond .eq 17, 108, 0, [(122, 0)], .null),
  (108, .aload_n 0, 109, 0, [], .null),
  (109, .getfield 39, 112, 0, [(6, 11)], .null),
  (112, .iload_n 2, 113, 0, [], .null),
  (113, .iaload, 114, 0, [], .null),
  (114, .iload_n 3, 115, 0, [], .null),
  (115, .ishr, 116, 0, [], .null),
  (116, .iconst 1, 117, 0, [], .int (nI 1)),
  (117, .iand, 118, 0, [], .null),
  (118, .iconst 1, 119, 0, [], .int (nI 1)),
  (119, .if_icmp .ne 5, 122, 0, [(124, 0)], .null),
  (122, .iload_n 1, 123, 0, [], .null),
  (123, .ireturn, 124, 0, [], .null),
  (124, .aload_n 0, 125, 0, [], .null),
  (125, .getfield 39, 128, 0, [(6, 11)], .null),
  (128, .iload_n 2, 129, 0, [], .null),
  (129, .dup2, 130, 0, [], .null),
  (130, .iaload, 131, 0, [], .null),
  (131, .iconst 1, 132, 0, [], .int (nI 1)),
  (132, .iload_n 3, 133, 0, [], .null),
  (133, .ishl, 134, 0, [], .null),
  (134, .ior, 135, 0, [], .null),
  (135, .iastore, 136, 0, [], .null),
  (136, .aload_n 0, 137, 0, [], .null),
  (137, .getfield 39, 140, 0, [(6, 11)], .null),
  (140, .iload_n 3, 141, 0, [], .null),
  (141, .dup2, 142, 0, [], .null),
  (142, .iaload, 143, 0, [], .null),
  (143, .iconst 1, 144, 0, [], .int (nI 1)),
  (144, .iload_n 2, 145, 0, [], .null),
  (145, .ishl, 146, 0, [], .null),
  (146, .ior, 147, 0, [], .null),
  (147, .iastore, 148, 0, [], .null),
  (148, .iinc 1 4, 151, 0, [], .int (nI 4)),
  (151, .goto (-128), 154, 0, [(23, 0)], .null),
  (154, .bipush (-4), 156, 0, [], .int (-4)),
  (156, .ireturn, 157, 0, [], .null)]
/-- PursuitDeskModel_letter -/
def ct_154 : List pq_E := [(0, .iload_n 1, 1, 0, [], .null),
  (1, .aload_n 0, 2, 0, [], .null),
  (2, .getfield 133, 5, 0, [(6, 4)], .null),
  (5, .if_icmp .ge 12, 8, 0, [(17, 0)], .null),
  (8, .aload_n 0, 9, 0, [], .null),
  (9, .getfield 16, 12, 0, [(6, 3)], .null),
  (12, .iload_n 1, 13, 0, [], .null),
  (13, .caload, 14, 0, [], .null),
  (14, .goto 4, 17, 0, [(18, 0)], .null),
  (17, .iconst (-1), 18, 0, [], .int (-1)),
  (18, .ireturn, 19, 0, [], .null)]
/-- PursuitDeskModel_lay -/
def ct_155 : List pq_E := [(0, .aload_n 0, 1, 0, [], .null),
  (1, .invokevirtual 139, 4, 0, [(6, 153)], .null),
  (4, .bipush (-4), 6, 0, [], .int (-4)),
  (6, .if_icmp .eq 6, 9, 0, [(12, 0)], .null),
  (9, .bipush (-2), 11, 0, [], .int (-2)),
  (11, .ireturn, 12, 0, [], .null),
  (12, .aload_n 0, 13, 0, [], .null),
  (13, .invokevirtual 57, 16, 0, [(6, 105)], .null),
  (16, .iconst 0, 17, 0, [], .int (nI 0)),
  (17, .istore_n 1, 18, 0, [], .null),
  (18, .iload_n 1, 19, 0, [], .null),
  (19, .bipush 6, 21, 0, [], .int (nI 6)),
  (21, .if_icmp .ge 23, 24, 0, [(44, 0)], .null),
  (24, .aload_n 0, 25, 0, [], .null),
  (25, .getfield 7, 28, 0, [(6, 0)], .null),
  (28, .iconst 5, 29, 0, [], .int (nI 5)),
  (29, .iload_n 1, 30, 0, [], .null),
  (30, .iadd, 31, 0, [], .null),
  (31, .aload_n 0, 32, 0, [], .null),
  (32, .getfield 39, 35, 0, [(6, 11)], .null),
  (35, .iload_n 1, 36, 0, [], .null),
  (36, .iaload, 37, 0, [], .null),
  (37, .iastore, 38, 0, [], .null),
  (38, .iinc 1 1, 41, 0, [], .int (nI 1)),
  (41, .goto (-23), 44, 0, [(18, 0)], .null),
  (44, .iconst 0, 45, 0, [], .int (nI 0)),
  (45, .istore_n 1, 46, 0, [], .null),
  (46, .iload_n 1, 47, 0, [], .null),
  (47, .aload_n 0, 48, 0, [], .null),
  (48, .getfield 7, 51, 0, [(6, 0)], .null),
  (51, .iconst 1, 52, 0, [], .int (nI 1)),
  (52, .iaload, 53, 0, [], .null),
  (53, .if_icmp .ge 27, 56, 0, [(80, 0)], .null),
  (56, .aload_n 0, 57, 0, [], .null),
  (57, .getfield 7, 60, 0, [(6, 0)], .null),
  (60, .bipush 14, 62, 0, [], .int (nI 14)),
  (62, .iload_n 1, 63, 0, [], .null),
  (63, .iadd, 64, 0, [], .null),
  (64, .aload_n 0, 65, 0, [], .null),
  (65, .getfield 7, 68, 0, [(6, 0)], .null),
  (68, .bipush 11, 70, 0, [], .int (nI 11)),
  (70, .iload_n 1, 71, 0, [], .null),
  (71, .iadd, 72, 0, [], .null),
  (72, .iaload, 73, 0, [], .null),
  (73, .iastore, 74, 0, [], .null),
  (74, .iinc 1 1, 77, 0, [], .int (nI 1)),
  (77, .goto (-31), 80, 0, [(46, 0)], .null),
  (80, .aload_n 0, 81, 0, [], .null),
  (81, .getfield 7, 84, 0, [(6, 0)], .null),
  (84, .bipush 19, 86, 0, [], .int (nI 19)),
  (86, .aload_n 0, 87, 0, [], .null),
  (87, .getfield 7, 90, 0, [(6, 0)], .null),
  (90, .bipush 18, 92, 0, [], .int (nI 18)),
  (92, .iaload, 93, 0, [], .null),
  (93, .iastore, 94, 0, [], .null),
  (94, .aload_n 0, 95, 0, [], .null),
  (95, .invokevirtual 42, 98, 0, [(6, 101)], .null),
  (98, .aload_n 0, 99, 0, [], .null),
  (99, .invokevirtual 102, 102, 0, [(6, 128)], .null),
  (102, .ireturn, 103, 0, [], .null)]
/-- PursuitDeskLaw_law -/
def ct_156 : List pq_E := [(0, .new 7, 3, 0, [(5, 0)], .null),
  (3, .dup, 4, 0, [], .null),
  (4, .invokespecial 9, 7, 0, [(5, 62)], .null),
  (7, .astore_n 1, 8, 0, [], .null),
  (8, .new 10, 11, 0, [(6, 0)], .null),
  (11, .dup, 12, 0, [], .null),
  (12, .invokespecial 12, 15, 0, [(6, 100)], .null),
  (15, .astore_n 2, 16, 0, [], .null),
  (16, .iconst 0, 17, 0, [], .int (nI 0)),
  (17, .istore_n 3, 18, 0, [], .null),
  (18, .iload_n 3, 19, 0, [], .null),
  (19, .aload_n 0, 20, 0, [], .null),
  (20, .arraylength, 21, 0, [], .null),
  (21, .iconst 4, 22, 0, [], .int (nI 4)),
  (22, .isub, 23, 0, [], .null),
  (23, .if_icmp .gt 754, 26, 0, [(777, 0)], .null),
  (26, .aload_n 0, 27, 0, [], .null),
  (27, .iload_n 3, 28, 0, [], .null),
  (28, .iaload, 29, 0, [], .null),
  (29, .bipush 31, 31, 0, [], .int (nI 31)),
  (31, .iand, 32, 0, [], .null),
  (32, .tableswitch 739 0 28 #[132, 155, 198, 211, 234, 247, 280, 293, 306, 329, 362, 375, 388, 411, 434, 467, 490, 513, 546, 569, 582, 595, 628, 641, 654, 667, 690, 713, 726], 164, 0, [(771, 0), (164, 0), (187, 0), (230, 0), (243, 0), (266, 0), (279, 0), (312, 0), (325, 0), (338, 0), (361, 0), (394, 0), (407, 0), (420, 0), (443, 0), (466, 0), (499, 0), (522, 0), (545, 0), (578, 0), (601, 0), (614, 0), (627, 0), (660, 0), (673, 0), (686, 0), (699, 0), (722, 0), (745, 0), (758, 0)], .null),
  (164, .aload_n 1, 165, 0, [], .null),
  (165, .aload_n 0, 166, 0, [], .null),
  (166, .iload_n 3, 167, 0, [], .null),
  (167, .iconst 1, 168, 0, [], .int (nI 1)),
  (168, .iadd, 169, 0, [], .null),
  (169, .iaload, 170, 0, [], .null),
  (170, .invokevirtual 13, 173, 1, [(5, 63)], .null),
  (173, .aload_n 2, 174, 0, [], .null),
  (174, .aload_n 0, 175, 0, [], .null),
  (175, .iload_n 3, 176, 0, [], .null),
  (176, .iconst 1, 177, 0, [], .int (nI 1)),
  (177, .iadd, 178, 0, [], .null),
  (178, .iaload, 179, 0, [], .null),
  (179, .invokevirtual 17, 182, 1, [(6, 103)], .null),
  (182, .if_icmp .eq 589, 185, 0, [(771, 0)], .null),
  (185, .iconst 0, 186, 0, [], .int (nI 0)),
  (186, .ireturn, 187, 1, [], .null),
  (187, .aload_n 1, 188, 0, [], .null),
  (188, .aload_n 0, 189, 0, [], .null),
  (189, .iload_n 3, 190, 0, [], .null),
  (190, .iconst 1, 191, 0, [], .int (nI 1)),
  (191, .iadd, 192, 0, [], .null),
  (192, .iaload, 193, 0, [], .null),
  (193, .aload_n 0, 194, 0, [], .null),
  (194, .iload_n 3, 195, 0, [], .null),
  (195, .iconst 2, 196, 0, [], .int (nI 2)),
  (196, .iadd, 197, 0, [], .null),
  (197, .iaload, 198, 0, [], .null),
  (198, .aload_n 0, 199, 0, [], .null),
  (199, .iload_n 3, 200, 0, [], .null),
  (200, .iconst 3, 201, 0, [], .int (nI 3)),
  (201, .iadd, 202, 0, [], .null),
  (202, .iaload, 203, 0, [], .null),
  (203, .invokevirtual 18, 206, 3, [(5, 66)], .null),
  (206, .aload_n 2, 207, 0, [], .null),
  (207, .aload_n 0, 208, 0, [], .null),
  (208, .iload_n 3, 209, 0, [], .null),
  (209, .iconst 1, 210, 0, [], .int (nI 1)),
  (210, .iadd, 211, 0, [], .null),
  (211, .iaload, 212, 0, [], .null),
  (212, .aload_n 0, 213, 0, [], .null),
  (213, .iload_n 3, 214, 0, [], .null),
  (214, .iconst 2, 215, 0, [], .int (nI 2)),
  (215, .iadd, 216, 0, [], .null),
  (216, .iaload, 217, 0, [], .null),
  (217, .aload_n 0, 218, 0, [], .null),
  (218, .iload_n 3, 219, 0, [], .null),
  (219, .iconst 3, 220, 0, [], .int (nI 3)),
  (220, .iadd, 221, 0, [], .null),
  (221, .iaload, 222, 0, [], .null),
  (222, .invokevirtual 22, 225, 3, [(6, 106)], .null),
  (225, .if_icmp .eq 546, 228, 0, [(771, 0)], .null),
  (228, .iconst 0, 229, 0, [], .int (nI 0)),
  (229, .ireturn, 230, 1, [], .null),
  (230, .aload_n 1, 231, 0, [], .null),
  (231, .invokevirtual 23, 234, 0, [(5, 68)], .null),
  (234, .aload_n 2, 235, 0, [], .null),
  (235, .invokevirtual 27, 238, 0, [(6, 155)], .null),
  (238, .if_icmp .eq 533, 241, 0, [(771, 0)], .null),
  (241, .iconst 0, 242, 0, [], .int (nI 0)),
  (242, .ireturn, 243, 1, [], .null),
  (243, .aload_n 1, 244, 0, [], .null),
  (244, .aload_n 0, 245, 0, [], .null),
  (245, .iload_n 3, 246, 0, [], .null),
  (246, .iconst 1, 247, 0, [], .int (nI 1)),
  (247, .iadd, 248, 0, [], .null),
  (248, .iaload, 249, 0, [], .null),
  (249, .invokevirtual 28, 252, 1, [(5, 72)], .null),
  (252, .aload_n 2, 253, 0, [], .null),
  (253, .aload_n 0, 254, 0, [], .null),
  (254, .iload_n 3, 255, 0, [], .null),
  (255, .iconst 1, 256, 0, [], .int (nI 1)),
  (256, .iadd, 257, 0, [], .null),
  (257, .iaload, 258, 0, [], .null),
  (258, .invokevirtual 31, 261, 1, [(6, 110)], .null),
  (261, .if_icmp .eq 510, 264, 0, [(771, 0)], .null),
  (264, .iconst 0, 265, 0, [], .int (nI 0)),
  (265, .ireturn, 266, 1, [], .null),
  (266, .aload_n 1, 267, 0, [], .null),
  (267, .invokevirtual 32, 270, 0, [(5, 73)], .null),
  (270, .aload_n 2, 271, 0, [], .null),
  (271, .invokevirtual 35, 274, 0, [(6, 112)], .null),
  (274, .if_icmp .eq 497, 277, 0, [(771, 0)], .null),
  (277, .iconst 0, 278, 0, [], .int (nI 0)),
  (278, .ireturn, 279, 1, [], .null),
  (279, .aload_n 1, 280, 0, [], .null),
  (280, .aload_n 0, 281, 0, [], .null),
  (281, .iload_n 3, 282, 0, [], .null),
  (282, .iconst 1, 283, 0, [], .int (nI 1)),
  (283, .iadd, 284, 0, [], .null),
  (284, .iaload, 285, 0, [], .null),
  (285, .aload_n 0, 286, 0, [], .null),
  (286, .iload_n 3, 287, 0, [], .null),
  (287, .iconst 2, 288, 0, [], .int (nI 2)),
  (288, .iadd, 289, 0, [], .null),
  (289, .iaload, 290, 0, [], .null),
  (290, .invokevirtual 36, 293, 2, [(5, 74)], .null),
  (293, .aload_n 2, 294, 0, [], .null),
  (294, .aload_n 0, 295, 0, [], .null),
  (295, .iload_n 3, 296, 0, [], .null),
  (296, .iconst 1, 297, 0, [], .int (nI 1)),
  (297, .iadd, 298, 0, [], .null),
  (298, .iaload, 299, 0, [], .null),
  (299, .aload_n 0, 300, 0, [], .null),
  (300, .iload_n 3, 301, 0, [], .null),
  (301, .iconst 2, 302, 0, [], .int (nI 2)),
  (302, .iadd, 303, 0, [], .null),
  (303, .iaload, 304, 0, [], .null),
  (304, .invokevirtual 40, 307, 2, [(6, 113)], .null),
  (307, .if_icmp .eq 464, 310, 0, [(771, 0)], .null),
  (310, .iconst 0, 311, 0, [], .int (nI 0)),
  (311, .ireturn, 312, 1, [], .null),
  (312, .aload_n 1, 313, 0, [], .null),
  (313, .invokevirtual 41, 316, 0, [(5, 76)], .null),
  (316, .aload_n 2, 317, 0, [], .null),
  (317, .invokevirtual 44, 320, 0, [(6, 115)], .null),
  (320, .if_icmp .eq 451, 323, 0, [(771, 0)], .null),
  (323, .iconst 0, 324, 0, [], .int (nI 0)),
  (324, .ireturn, 325, 1, [], .null),
  (325, .aload_n 1, 326, 0, [], .null),
  (326, .invokevirtual 45, 329, 0, [(5, 77)], .null),
  (329, .aload_n 2, 330, 0, [], .null),
  (330, .invokevirtual 48, 333, 0, [(6, 116)], .null),
  (333, .if_icmp .eq 438, 336, 0, [(771, 0)], .null),
  (336, .iconst 0, 337, 0, [], .int (nI 0)),
  (337, .ireturn, 338, 1, [], .null),
  (338, .aload_n 1, 339, 0, [], .null),
  (339, .aload_n 0, 340, 0, [], .null),
  (340, .iload_n 3, 341, 0, [], .null),
  (341, .iconst 1, 342, 0, [], .int (nI 1)),
  (342, .iadd, 343, 0, [], .null),
  (343, .iaload, 344, 0, [], .null),
  (344, .invokevirtual 49, 347, 1, [(5, 78)], .null),
  (347, .aload_n 2, 348, 0, [], .null),
  (348, .aload_n 0, 349, 0, [], .null),
  (349, .iload_n 3, 350, 0, [], .null),
  (350, .iconst 1, 351, 0, [], .int (nI 1)),
  (351, .iadd, 352, 0, [], .null),
  (352, .iaload, 353, 0, [], .null),
  (353, .invokevirtual 52, 356, 1, [(6, 117)], .null),
  (356, .if_icmp .eq 415, 359, 0, [(771, 0)], .null),
  (359, .iconst 0, 360, 0, [], .int (nI 0)),
  (360, .ireturn, 361, 1, [], .null),
  (361, .aload_n 1, 362, 0, [], .null),
  (362, .aload_n 0, 363, 0, [], .null),
  (363, .iload_n 3, 364, 0, [], .null),
  (364, .iconst 1, 365, 0, [], .int (nI 1)),
  (365, .iadd, 366, 0, [], .null),
  (366, .iaload, 367, 0, [], .null),
  (367, .aload_n 0, 368, 0, [], .null),
  (368, .iload_n 3, 369, 0, [], .null),
  (369, .iconst 2, 370, 0, [], .int (nI 2)),
  (370, .iadd, 371, 0, [], .null),
  (371, .iaload, 372, 0, [], .null),
  (372, .invokevirtual 53, 375, 2, [(5, 79)], .null),
  (375, .aload_n 2, 376, 0, [], .null),
  (376, .aload_n 0, 377, 0, [], .null),
  (377, .iload_n 3, 378, 0, [], .null),
  (378, .iconst 1, 379, 0, [], .int (nI 1)),
  (379, .iadd, 380, 0, [], .null),
  (380, .iaload, 381, 0, [], .null),
  (381, .aload_n 0, 382, 0, [], .null),
  (382, .iload_n 3, 383, 0, [], .null),
  (383, .iconst 2, 384, 0, [], .int (nI 2)),
  (384, .iadd, 385, 0, [], .null),
  (385, .iaload, 386, 0, [], .null),
  (386, .invokevirtual 56, 389, 2, [(6, 119)], .null),
  (389, .if_icmp .eq 382, 392, 0, [(771, 0)], .null),
  (392, .iconst 0, 393, 0, [], .int (nI 0)),
  (393, .ireturn, 394, 1, [], .null),
  (394, .aload_n 1, 395, 0, [], .null),
  (395, .invokevirtual 57, 398, 0, [(5, 80)], .null),
  (398, .aload_n 2, 399, 0, [], .null),
  (399, .invokevirtual 60, 402, 0, [(6, 122)], .null),
  (402, .if_icmp .eq 369, 405, 0, [(771, 0)], .null),
  (405, .iconst 0, 406, 0, [], .int (nI 0)),
  (406, .ireturn, 407, 1, [], .null),
  (407, .aload_n 1, 408, 0, [], .null),
  (408, .invokevirtual 61, 411, 0, [(5, 81)], .null),
  (411, .aload_n 2, 412, 0, [], .null),
  (412, .invokevirtual 64, 415, 0, [(6, 126)], .null),
  (415, .if_icmp .eq 356, 418, 0, [(771, 0)], .null),
  (418, .iconst 0, 419, 0, [], .int (nI 0)),
  (419, .ireturn, 420, 1, [], .null),
  (420, .aload_n 1, 421, 0, [], .null),
  (421, .aload_n 0, 422, 0, [], .null),
  (422, .iload_n 3, 423, 0, [], .null),
  (423, .iconst 1, 424, 0, [], .int (nI 1)),
  (424, .iadd, 425, 0, [], .null),
  (425, .iaload, 426, 0, [], .null),
  (426, .invokevirtual 65, 429, 1, [(5, 82)], .null),
  (429, .aload_n 2, 430, 0, [], .null),
  (430, .aload_n 0, 431, 0, [], .null),
  (431, .iload_n 3, 432, 0, [], .null),
  (432, .iconst 1, 433, 0, [], .int (nI 1)),
  (433, .iadd, 434, 0, [], .null),
  (434, .iaload, 435, 0, [], .null),
  (435, .invokevirtual 68, 438, 1, [(6, 127)], .null),
  (438, .if_icmp .eq 333, 441, 0, [(771, 0)], .null),
  (441, .iconst 0, 442, 0, [], .int (nI 0)),
  (442, .ireturn, 443, 1, [], .null),
  (443, .aload_n 1, 444, 0, [], .null),
  (444, .aload_n 0, 445, 0, [], .null),
  (445, .iload_n 3, 446, 0, [], .null),
  (446, .iconst 1, 447, 0, [], .int (nI 1)),
  (447, .iadd, 448, 0, [], .null),
  (448, .iaload, 449, 0, [], .null),
  (449, .invokevirtual 69, 452, 1, [(5, 83)], .null),
  (452, .aload_n 2, 453, 0, [], .null),
  (453, .aload_n 0, 454, 0, [], .null),
  (454, .iload_n 3, 455, 0, [], .null),
  (455, .iconst 1, 456, 0, [], .int (nI 1)),
  (456, .iadd, 457, 0, [], .null),
  (457, .iaload, 458, 0, [], .null),
  (458, .invokevirtual 72, 461, 1, [(6, 129)], .null),
  (461, .if_icmp .eq 310, 464, 0, [(771, 0)], .null),
  (464, .iconst 0, 465, 0, [], .int (nI 0)),
  (465, .ireturn, 466, 1, [], .null),
  (466, .aload_n 1, 467, 0, [], .null),
  (467, .aload_n 0, 468, 0, [], .null),
  (468, .iload_n 3, 469, 0, [], .null),
  (469, .iconst 1, 470, 0, [], .int (nI 1)),
  (470, .iadd, 471, 0, [], .null),
  (471, .iaload, 472, 0, [], .null),
  (472, .aload_n 0, 473, 0, [], .null),
  (473, .iload_n 3, 474, 0, [], .null),
  (474, .iconst 2, 475, 0, [], .int (nI 2)),
  (475, .iadd, 476, 0, [], .null),
  (476, .iaload, 477, 0, [], .null),
  (477, .invokevirtual 73, 480, 2, [(5, 84)], .null),
  (480, .aload_n 2, 481, 0, [], .null),
  (481, .aload_n 0, 482, 0, [], .null),
  (482, .iload_n 3, 483, 0, [], .null),
  (483, .iconst 1, 484, 0, [], .int (nI 1)),
  (484, .iadd, 485, 0, [], .null),
  (485, .iaload, 486, 0, [], .null),
  (486, .aload_n 0, 487, 0, [], .null),
  (487, .iload_n 3, 488, 0, [], .null),
  (488, .iconst 2, 489, 0, [], .int (nI 2)),
  (489, .iadd, 490, 0, [], .null),
  (490, .iaload, 491, 0, [], .null),
  (491, .invokevirtual 76, 494, 2, [(6, 130)], .null),
  (494, .if_icmp .eq 277, 497, 0, [(771, 0)], .null),
  (497, .iconst 0, 498, 0, [], .int (nI 0)),
  (498, .ireturn, 499, 1, [], .null),
  (499, .aload_n 1, 500, 0, [], .null),
  (500, .aload_n 0, 501, 0, [], .null),
  (501, .iload_n 3, 502, 0, [], .null),
  (502, .iconst 1, 503, 0, [], .int (nI 1)),
  (503, .iadd, 504, 0, [], .null),
  (504, .iaload, 505, 0, [], .null),
  (505, .invokevirtual 77, 508, 1, [(5, 85)], .null),
  (508, .aload_n 2, 509, 0, [], .null),
  (509, .aload_n 0, 510, 0, [], .null),
  (510, .iload_n 3, 511, 0, [], .null),
  (511, .iconst 1, 512, 0, [], .int (nI 1)),
  (512, .iadd, 513, 0, [], .null),
  (513, .iaload, 514, 0, [], .null),
  (514, .invokevirtual 80, 517, 1, [(6, 131)], .null),
  (517, .if_icmp .eq 254, 520, 0, [(771, 0)], .null),
  (520, .iconst 0, 521, 0, [], .int (nI 0)),
  (521, .ireturn, 522, 1, [], .null),
  (522, .aload_n 1, 523, 0, [], .null),
  (523, .aload_n 0, 524, 0, [], .null),
  (524, .iload_n 3, 525, 0, [], .null),
  (525, .iconst 1, 526, 0, [], .int (nI 1)),
  (526, .iadd, 527, 0, [], .null),
  (527, .iaload, 528, 0, [], .null),
  (528, .invokevirtual 81, 531, 1, [(5, 86)], .null),
  (531, .aload_n 2, 532, 0, [], .null),
  (532, .aload_n 0, 533, 0, [], .null),
  (533, .iload_n 3, 534, 0, [], .null),
  (534, .iconst 1, 535, 0, [], .int (nI 1)),
  (535, .iadd, 536, 0, [], .null),
  (536, .iaload, 537, 0, [], .null),
  (537, .invokevirtual 84, 540, 1, [(6, 132)], .null),
  (540, .if_icmp .eq 231, 543, 0, [(771, 0)], .null),
  (543, .iconst 0, 544, 0, [], .int (nI 0)),
  (544, .ireturn, 545, 1, [], .null),
  (545, .aload_n 1, 546, 0, [], .null),
  (546, .aload_n 0, 547, 0, [], .null),
  (547, .iload_n 3, 548, 0, [], .null),
  (548, .iconst 1, 549, 0, [], .int (nI 1)),
  (549, .iadd, 550, 0, [], .null),
  (550, .iaload, 551, 0, [], .null),
  (551, .aload_n 0, 552, 0, [], .null),
  (552, .iload_n 3, 553, 0, [], .null),
  (553, .iconst 2, 554, 0, [], .int (nI 2)),
  (554, .iadd, 555, 0, [], .null),
  (555, .iaload, 556, 0, [], .null),
  (556, .invokevirtual 85, 559, 2, [(5, 87)], .null),
  (559, .aload_n 2, 560, 0, [], .null),
  (560, .aload_n 0, 561, 0, [], .null),
  (561, .iload_n 3, 562, 0, [], .null),
  (562, .iconst 1, 563, 0, [], .int (nI 1)),
  (563, .iadd, 564, 0, [], .null),
  (564, .iaload, 565, 0, [], .null),
  (565, .aload_n 0, 566, 0, [], .null),
  (566, .iload_n 3, 567, 0, [], .null),
  (567, .iconst 2, 568, 0, [], .int (nI 2)),
  (568, .iadd, 569, 0, [], .null),
  (569, .iaload, 570, 0, [], .null),
  (570, .invokevirtual 88, 573, 2, [(6, 133)], .null),
  (573, .if_icmp .eq 198, 576, 0, [(771, 0)], .null),
  (576, .iconst 0, 577, 0, [], .int (nI 0)),
  (577, .ireturn, 578, 1, [], .null),
  (578, .aload_n 1, 579, 0, [], .null),
  (579, .aload_n 0, 580, 0, [], .null),
  (580, .iload_n 3, 581, 0, [], .null),
  (581, .iconst 1, 582, 0, [], .int (nI 1)),
  (582, .iadd, 583, 0, [], .null),
  (583, .iaload, 584, 0, [], .null),
  (584, .invokevirtual 89, 587, 1, [(5, 88)], .null),
  (587, .aload_n 2, 588, 0, [], .null),
  (588, .aload_n 0, 589, 0, [], .null),
  (589, .iload_n 3, 590, 0, [], .null),
  (590, .iconst 1, 591, 0, [], .int (nI 1)),
  (591, .iadd, 592, 0, [], .null),
  (592, .iaload, 593, 0, [], .null),
  (593, .invokevirtual 92, 596, 1, [(6, 134)], .null),
  (596, .if_icmp .eq 175, 599, 0, [(771, 0)], .null),
  (599, .iconst 0, 600, 0, [], .int (nI 0)),
  (600, .ireturn, 601, 1, [], .null),
  (601, .aload_n 1, 602, 0, [], .null),
  (602, .invokevirtual 93, 605, 0, [(5, 89)], .null),
  (605, .aload_n 2, 606, 0, [], .null),
  (606, .invokevirtual 96, 609, 0, [(6, 135)], .null),
  (609, .if_icmp .eq 162, 612, 0, [(771, 0)], .null),
  (612, .iconst 0, 613, 0, [], .int (nI 0)),
  (613, .ireturn, 614, 1, [], .null),
  (614, .aload_n 1, 615, 0, [], .null),
  (615, .invokevirtual 97, 618, 0, [(5, 90)], .null),
  (618, .aload_n 2, 619, 0, [], .null),
  (619, .invokevirtual 100, 622, 0, [(6, 137)], .null),
  (622, .if_icmp .eq 149, 625, 0, [(771, 0)], .null),
  (625, .iconst 0, 626, 0, [], .int (nI 0)),
  (626, .ireturn, 627, 1, [], .null),
  (627, .aload_n 1, 628, 0, [], .null),
  (628, .aload_n 0, 629, 0, [], .null),
  (629, .iload_n 3, 630, 0, [], .null),
  (630, .iconst 1, 631, 0, [], .int (nI 1)),
  (631, .iadd, 632, 0, [], .null),
  (632, .iaload, 633, 0, [], .null),
  (633, .aload_n 0, 634, 0, [], .null),
  (634, .iload_n 3, 635, 0, [], .null),
  (635, .iconst 2, 636, 0, [], .int (nI 2)),
  (636, .iadd, 637, 0, [], .null),
  (637, .iaload, 638, 0, [], .null),
  (638, .invokevirtual 101, 641, 2, [(5, 92)], .null),
  (641, .aload_n 2, 642, 0, [], .null),
  (642, .aload_n 0, 643, 0, [], .null),
  (643, .iload_n 3, 644, 0, [], .null),
  (644, .iconst 1, 645, 0, [], .int (nI 1)),
  (645, .iadd, 646, 0, [], .null),
  (646, .iaload, 647, 0, [], .null),
  (647, .aload_n 0, 648, 0, [], .null),
  (648, .iload_n 3, 649, 0, [], .null),
  (649, .iconst 2, 650, 0, [], .int (nI 2)),
  (650, .iadd, 651, 0, [], .null),
  (651, .iaload, 652, 0, [], .null),
  (652, .invokevirtual 104, 655, 2, [(6, 145)], .null),
  (655, .if_icmp .eq 116, 658, 0, [(771, 0)], .null),
  (658, .iconst 0, 659, 0, [], .int (nI 0)),
  (659, .ireturn, 660, 1, [], .null),
  (660, .aload_n 1, 661, 0, [], .null),
  (661, .invokevirtual 105, 664, 0, [(5, 93)], .null),
  (664, .aload_n 2, 665, 0, [], .null),
  (665, .invokevirtual 108, 668, 0, [(6, 146)], .null),
  (668, .if_icmp .eq 103, 671, 0, [(771, 0)], .null),
  (671, .iconst 0, 672, 0, [], .int (nI 0)),
  (672, .ireturn, 673, 1, [], .null),
  (673, .aload_n 1, 674, 0, [], .null),
  (674, .invokevirtual 109, 677, 0, [(5, 94)], .null),
  (677, .aload_n 2, 678, 0, [], .null),
  (678, .invokevirtual 112, 681, 0, [(6, 136)], .null),
  (681, .if_icmp .eq 90, 684, 0, [(771, 0)], .null),
  (684, .iconst 0, 685, 0, [], .int (nI 0)),
  (685, .ireturn, 686, 1, [], .null),
  (686, .aload_n 1, 687, 0, [], .null),
  (687, .invokevirtual 113, 690, 0, [(5, 95)], .null),
  (690, .aload_n 2, 691, 0, [], .null),
  (691, .invokevirtual 116, 694, 0, [(6, 148)], .null),
  (694, .if_icmp .eq 77, 697, 0, [(771, 0)], .null),
  (697, .iconst 0, 698, 0, [], .int (nI 0)),
  (698, .ireturn, 699, 1, [], .null),
  (699, .aload_n 1, 700, 0, [], .null),
  (700, .aload_n 0, 701, 0, [], .null),
  (701, .iload_n 3, 702, 0, [], .null),
  (702, .iconst 1, 703, 0, [], .int (nI 1)),
  (703, .iadd, 704, 0, [], .null),
  (704, .iaload, 705, 0, [], .null),
  (705, .invokevirtual 117, 708, 1, [(5, 97)], .null),
  (708, .aload_n 2, 709, 0, [], .null),
  (709, .aload_n 0, 710, 0, [], .null),
  (710, .iload_n 3, 711, 0, [], .null),
  (711, .iconst 1, 712, 0, [], .int (nI 1)),
  (712, .iadd, 713, 0, [], .null),
  (713, .iaload, 714, 0, [], .null),
  (714, .invokevirtual 120, 717, 1, [(6, 150)], .null),
  (717, .if_icmp .eq 54, 720, 0, [(771, 0)], .null),
  (720, .iconst 0, 721, 0, [], .int (nI 0)),
  (721, .ireturn, 722, 1, [], .null),
  (722, .aload_n 1, 723, 0, [], .null),
  (723, .aload_n 0, 724, 0, [], .null),
  (724, .iload_n 3, 725, 0, [], .null),
  (725, .iconst 1, 726, 0, [], .int (nI 1)),
  (726, .iadd, 727, 0, [], .null),
  (727, .iaload, 728, 0, [], .null),
  (728, .invokevirtual 121, 731, 1, [(5, 98)], .null),
  (731, .aload_n 2, 732, 0, [], .null),
  (732, .aload_n 0, 733, 0, [], .null),
  (733, .iload_n 3, 734, 0, [], .null),
  (734, .iconst 1, 735, 0, [], .int (nI 1)),
  (735, .iadd, 736, 0, [], .null),
  (736, .iaload, 737, 0, [], .null),
  (737, .invokevirtual 124, 740, 1, [(6, 151)], .null),
  (740, .if_icmp .eq 31, 743, 0, [(771, 0)], .null),
  (743, .iconst 0, 744, 0, [], .int (nI 0)),
  (744, .ireturn, 745, 1, [], .null),
  (745, .aload_n 1, 746, 0, [], .null),
  (746, .invokevirtual 125, 749, 0, [(5, 99)], .null),
  (749, .aload_n 2, 750, 0, [], .null),
  (750, .invokevirtual 128, 753, 0, [(6, 152)], .null),
  (753, .if_icmp .eq 18, 756, 0, [(771, 0)], .null),
  (756, .iconst 0, 757, 0, [], .int (nI 0)),
  (757, .ireturn, 758, 1, [], .null),
  (758, .aload_n 1, 759, 0, [], .null),
  (759, .invokevirtual 129, 762, 0, [(5, 69)], .null),
  (762, .aload_n 2, 763, 0, [], .null),
  (763, .invokevirtual 132, 766, 0, [(6, 153)], .null),
  (766, .if_icmp .eq 5, 769, 0, [(771, 0)], .null),
  (769, .iconst 0, 770, 0, [], .int (nI 0)),
  (770, .ireturn, 771, 1, [], .null),
  (771, .iinc 3 4, 774, 0, [], .int (nI 4)),
  (774, .goto (-756), 777, 0, [(18, 0)], .null),
  (777, .iconst 1, 778, 0, [], .int (nI 1)),
  (778, .ireturn, 779, 1, [], .null)]
def pq_ctab : List (List pq_E) := [ct_0, ct_1, ct_2, ct_3, ct_4, ct_5, ct_6, ct_7, ct_8, ct_9, ct_10, ct_11, ct_12, ct_13, ct_14, ct_15, ct_16, ct_17, ct_18, ct_19, ct_20, ct_21, ct_22, ct_23, ct_24, ct_25, ct_26, ct_27, ct_28, ct_29, ct_30, ct_31, ct_32, ct_33, ct_34, ct_35, ct_36, ct_37, ct_38, ct_39, ct_40, ct_41, ct_42, ct_43, ct_44, ct_45, ct_46, ct_47, ct_48, ct_49, ct_50, ct_51, ct_52, ct_53, ct_54, ct_55, ct_56, ct_57, ct_58, ct_59, ct_60, ct_61, ct_62, ct_63, ct_64, ct_65, ct_66, ct_67, ct_68, ct_69, ct_70, ct_71, ct_72, ct_73, ct_74, ct_75, ct_76, ct_77, ct_78, ct_79, ct_80, ct_81, ct_82, ct_83, ct_84, ct_85, ct_86, ct_87, ct_88, ct_89, ct_90, ct_91, ct_92, ct_93, ct_94, ct_95, ct_96, ct_97, ct_98, ct_99, ct_100, ct_101, ct_102, ct_103, ct_104, ct_105, ct_106, ct_107, ct_108, ct_109, ct_110, ct_111, ct_112, ct_113, ct_114, ct_115, ct_116, ct_117, ct_118, ct_119, ct_120, ct_121, ct_122, ct_123, ct_124, ct_125, ct_126, ct_127, ct_128, ct_129, ct_130, ct_131, ct_132, ct_133, ct_134, ct_135, ct_136, ct_137, ct_138, ct_139, ct_140, ct_141, ct_142, ct_143, ct_144, ct_145, ct_146, ct_147, ct_148, ct_149, ct_150, ct_151, ct_152, ct_153, ct_154, ct_155, ct_156]
def pq_mtab : List (Nat × MethodName × ByteArray × Nat × Option FieldType) := [(0, ⟨"java/lang/Long", "bitCount", "(J)I"⟩, prog_11_method_50_code, 2, (some .int)),
  (1, ⟨"PursuitDesk$Ways", "stays", "(I)J"⟩, prog_8_method_5_code, 4, (some .long)),
  (1, ⟨"PursuitDesk$Ways", "way", "(II)J"⟩, prog_8_method_3_code, 2, (some .long)),
  (1, ⟨"PursuitDesk$Ways", "edge", "(II)J"⟩, prog_8_method_4_code, 2, (some .long)),
  (1, ⟨"PursuitDesk$Ways", "contains", "(II)Z"⟩, prog_8_method_2_code, 2, (some .boolean)),
  (1, ⟨"PursuitDesk$Ways", "spread", "(JI)I"⟩, prog_8_method_10_code, 3, (some .int)),
  (1, ⟨"PursuitDesk$Ways", "onlyFrom", "(JI)J"⟩, prog_8_method_8_code, 6, (some .long)),
  (1, ⟨"PursuitDesk$Ways", "ends", "(J)I"⟩, prog_8_method_9_code, 4, (some .int)),
  (1, ⟨"PursuitDesk$Ways", "closed", "(II)J"⟩, prog_8_method_6_code, 2, (some .long)),
  (1, ⟨"PursuitDesk$Ways", "from", "(JI)I"⟩, prog_8_method_7_code, 3, (some .int)),
  (2, ⟨"PursuitDesk$Beliefs", "<init>", "()V"⟩, prog_2_method_1_code, 1, none),
  (2, ⟨"PursuitDesk$Beliefs", "makeAnew", "(II)V"⟩, prog_2_method_4_code, 3, none),
  (2, ⟨"PursuitDesk$Beliefs", "slot", "(I)I"⟩, prog_2_method_3_code, 1, (some .int)),
  (2, ⟨"PursuitDesk$Beliefs", "copyFrom", "(LPursuitDesk$Beliefs;)V"⟩, prog_2_method_2_code, 2, none),
  (2, ⟨"PursuitDesk$Beliefs", "leaveOut", "(I)V"⟩, prog_2_method_7_code, 2, none),
  (2, ⟨"PursuitDesk$Beliefs", "after", "(I)I"⟩, prog_2_method_6_code, 2, (some .int)),
  (2, ⟨"PursuitDesk$Beliefs", "keeps", "(I)Z"⟩, prog_2_method_5_code, 2, (some .boolean)),
  (2, ⟨"PursuitDesk$Beliefs", "narrow", "(II)V"⟩, prog_2_method_9_code, 4, none),
  (2, ⟨"PursuitDesk$Beliefs", "extend", "(J)V"⟩, prog_2_method_8_code, 4, none),
  (3, ⟨"PursuitDesk$Evader", "<init>", "()V"⟩, prog_3_method_1_code, 1, none),
  (3, ⟨"PursuitDesk$Evader", "copyFrom", "(LPursuitDesk$Evader;)V"⟩, prog_3_method_2_code, 2, none),
  (3, ⟨"PursuitDesk$Evader", "isFree", "()Z"⟩, prog_3_method_4_code, 1, (some .boolean)),
  (3, ⟨"PursuitDesk$Evader", "catchAt", "(II)V"⟩, prog_3_method_5_code, 3, none),
  (3, ⟨"PursuitDesk$Evader", "standAt", "(II)V"⟩, prog_3_method_7_code, 3, none),
  (3, ⟨"PursuitDesk$Evader", "go", "(JI)V"⟩, prog_3_method_6_code, 4, none),
  (3, ⟨"PursuitDesk$Evader", "nodeAfter", "(I)I"⟩, prog_3_method_8_code, 2, (some .int)),
  (3, ⟨"PursuitDesk$Evader", "hideAt", "(II)V"⟩, prog_3_method_3_code, 3, none),
  (3, ⟨"PursuitDesk$Evader", "property", "(I)I"⟩, prog_3_method_9_code, 2, (some .int)),
  (4, ⟨"PursuitDesk$Search", "<init>", "()V"⟩, prog_5_method_1_code, 1, none),
  (4, ⟨"PursuitDesk$Search", "prepare", "(IJI)V"⟩, prog_5_method_3_code, 5, none),
  (4, ⟨"PursuitDesk$Search", "clear", "([I)V"⟩, prog_5_method_6_code, 4, none),
  (4, ⟨"PursuitDesk$Search", "bound", "()I"⟩, prog_5_method_4_code, 3, (some .int)),
  (4, ⟨"PursuitDesk$Search", "numberOf", "([II)I"⟩, prog_5_method_5_code, 5, (some .int)),
  (4, ⟨"PursuitDesk$Search", "expand", "(I)V"⟩, prog_5_method_8_code, 2, none),
  (4, ⟨"PursuitDesk$Search", "placeSearchers", "(I)V"⟩, prog_5_method_7_code, 4, none),
  (4, ⟨"PursuitDesk$Search", "giveOrders", "(IJII)V"⟩, prog_5_method_9_code, 11, none),
  (5, ⟨"PursuitDesk$TurnSearch", "<init>", "()V"⟩, prog_7_method_1_code, 1, none),
  (5, ⟨"PursuitDesk$TurnSearch", "forget", "()V"⟩, prog_7_method_2_code, 1, none),
  (5, ⟨"PursuitDesk$TurnSearch", "enter", "(II)V"⟩, prog_7_method_3_code, 3, none),
  (5, ⟨"PursuitDesk$TurnSearch", "search", "()V"⟩, prog_7_method_6_code, 2, none),
  (5, ⟨"PursuitDesk$TurnSearch", "arrive", "(II)V"⟩, prog_7_method_7_code, 3, none),
  (5, ⟨"PursuitDesk$TurnSearch", "turns", "()I"⟩, prog_7_method_8_code, 3, (some .int)),
  (5, ⟨"PursuitDesk$TurnSearch", "nodeAfter", "(II)I"⟩, prog_7_method_9_code, 5, (some .int)),
  (5, ⟨"PursuitDesk$TurnSearch", "enterAllStarts", "()V"⟩, prog_7_method_4_code, 3, none),
  (5, ⟨"PursuitDesk$TurnSearch", "enterStart", "(I)V"⟩, prog_7_method_5_code, 4, none),
  (6, ⟨"PursuitDesk$MoveSearch", "<init>", "()V"⟩, prog_4_method_1_code, 1, none),
  (6, ⟨"PursuitDesk$MoveSearch", "arrive", "(II)V"⟩, prog_4_method_4_code, 4, none),
  (6, ⟨"PursuitDesk$MoveSearch", "fewestMoves", "(I)I"⟩, prog_4_method_2_code, 3, (some .int)),
  (6, ⟨"PursuitDesk$MoveSearch", "expandAllAtPrice", "()Z"⟩, prog_4_method_3_code, 3, (some .boolean)),
  (7, ⟨"PursuitDesk$State", "<init>", "()V"⟩, prog_6_method_1_code, 1, none),
  (7, ⟨"PursuitDesk$State", "startAnew", "(I)V"⟩, prog_6_method_3_code, 2, none),
  (7, ⟨"PursuitDesk$State", "forgetBeliefs", "()V"⟩, prog_6_method_4_code, 1, none),
  (7, ⟨"PursuitDesk$State", "occupied", "()I"⟩, prog_6_method_7_code, 3, (some .int)),
  (7, ⟨"PursuitDesk$State", "copyFrom", "(LPursuitDesk$State;)V"⟩, prog_6_method_2_code, 2, none),
  (7, ⟨"PursuitDesk$State", "joins", "(II)Z"⟩, prog_6_method_5_code, 3, (some .boolean)),
  (7, ⟨"PursuitDesk$State", "cut", "(II)V"⟩, prog_6_method_9_code, 4, none),
  (7, ⟨"PursuitDesk$State", "replaceEdges", "(J)V"⟩, prog_6_method_10_code, 3, none),
  (7, ⟨"PursuitDesk$State", "edges", "()I"⟩, prog_6_method_6_code, 1, (some .int)),
  (7, ⟨"PursuitDesk$State", "addSearcher", "(I)V"⟩, prog_6_method_11_code, 2, none),
  (7, ⟨"PursuitDesk$State", "makeTurn", "()V"⟩, prog_6_method_12_code, 3, none),
  (7, ⟨"PursuitDesk$State", "freeWays", "([I)J"⟩, prog_6_method_8_code, 5, (some .long)),
  (7, ⟨"PursuitDesk$State", "giveNews", "()V"⟩, prog_6_method_13_code, 2, none),
  (8, ⟨"PursuitDesk", "<init>", "()V"⟩, prog_1_method_1_code, 2, none),
  (8, ⟨"PursuitDesk", "reset", "(I)I"⟩, prog_1_method_2_code, 3, (some .int)),
  (8, ⟨"PursuitDesk", "remember", "()V"⟩, prog_1_method_33_code, 1, none),
  (8, ⟨"PursuitDesk", "dropOldest", "()V"⟩, prog_1_method_34_code, 3, none),
  (8, ⟨"PursuitDesk", "link", "(III)I"⟩, prog_1_method_3_code, 5, (some .int)),
  (8, ⟨"PursuitDesk", "isNode", "(I)Z"⟩, prog_1_method_31_code, 2, (some .boolean)),
  (8, ⟨"PursuitDesk", "lay", "()I"⟩, prog_1_method_4_code, 1, (some .int)),
  (8, ⟨"PursuitDesk", "fault", "()I"⟩, prog_1_method_30_code, 6, (some .int)),
  (8, ⟨"PursuitDesk", "edgeAt", "(I)J"⟩, prog_1_method_37_code, 4, (some .long)),
  (8, ⟨"PursuitDesk", "textEdges", "()J"⟩, prog_1_method_38_code, 4, (some .long)),
  (8, ⟨"PursuitDesk", "put", "(I)I"⟩, prog_1_method_5_code, 2, (some .int)),
  (8, ⟨"PursuitDesk", "leave", "()I"⟩, prog_1_method_6_code, 1, (some .int)),
  (8, ⟨"PursuitDesk", "order", "(II)I"⟩, prog_1_method_7_code, 4, (some .int)),
  (8, ⟨"PursuitDesk", "isSearcher", "(I)Z"⟩, prog_1_method_32_code, 2, (some .boolean)),
  (8, ⟨"PursuitDesk", "release", "()I"⟩, prog_1_method_8_code, 1, (some .int)),
  (8, ⟨"PursuitDesk", "belief", "()I"⟩, prog_1_method_9_code, 1, (some .int)),
  (8, ⟨"PursuitDesk", "beliefAfter", "(I)I"⟩, prog_1_method_10_code, 2, (some .int)),
  (8, ⟨"PursuitDesk", "tell", "(II)I"⟩, prog_1_method_11_code, 3, (some .int)),
  (8, ⟨"PursuitDesk", "turn", "()I"⟩, prog_1_method_12_code, 1, (some .int)),
  (8, ⟨"PursuitDesk", "undo", "()I"⟩, prog_1_method_13_code, 1, (some .int)),
  (8, ⟨"PursuitDesk", "count", "(I)I"⟩, prog_1_method_14_code, 2, (some .int)),
  (8, ⟨"PursuitDesk", "neighbours", "(I)I"⟩, prog_1_method_15_code, 2, (some .int)),
  (8, ⟨"PursuitDesk", "searcher", "(II)I"⟩, prog_1_method_16_code, 3, (some .int)),
  (8, ⟨"PursuitDesk", "hide", "(I)I"⟩, prog_1_method_17_code, 2, (some .int)),
  (8, ⟨"PursuitDesk", "flee", "(I)I"⟩, prog_1_method_18_code, 3, (some .int)),
  (8, ⟨"PursuitDesk", "setNews", "(II)I"⟩, prog_1_method_19_code, 4, (some .int)),
  (8, ⟨"PursuitDesk", "evader", "(I)I"⟩, prog_1_method_20_code, 2, (some .int)),
  (8, ⟨"PursuitDesk", "ahead", "()I"⟩, prog_1_method_21_code, 1, (some .int)),
  (8, ⟨"PursuitDesk", "planTurns", "()I"⟩, prog_1_method_22_code, 1, (some .int)),
  (8, ⟨"PursuitDesk", "knowPlan", "()V"⟩, prog_1_method_35_code, 1, none),
  (8, ⟨"PursuitDesk", "planOrder", "(II)I"⟩, prog_1_method_23_code, 3, (some .int)),
  (8, ⟨"PursuitDesk", "planMoves", "()I"⟩, prog_1_method_24_code, 1, (some .int)),
  (8, ⟨"PursuitDesk", "settles", "()I"⟩, prog_1_method_25_code, 6, (some .int)),
  (8, ⟨"PursuitDesk", "leastSearchers", "()I"⟩, prog_1_method_26_code, 2, (some .int)),
  (8, ⟨"PursuitDesk", "turnsFromBestStart", "(I)I"⟩, prog_1_method_36_code, 2, (some .int)),
  (8, ⟨"PursuitDesk", "bestTurns", "(I)I"⟩, prog_1_method_27_code, 2, (some .int)),
  (8, ⟨"PursuitDesk", "type", "(I)I"⟩, prog_1_method_28_code, 2, (some .int)),
  (8, ⟨"PursuitDesk", "clearText", "()I"⟩, prog_1_method_29_code, 2, (some .int)),
  (9, ⟨"PursuitDeskModel", "<init>", "()V"⟩, prog_10_method_1_code, 1, none),
  (9, ⟨"PursuitDeskModel", "begins", "()V"⟩, prog_10_method_7_code, 3, none),
  (9, ⟨"PursuitDeskModel", "all", "()I"⟩, prog_10_method_5_code, 1, (some .int)),
  (9, ⟨"PursuitDeskModel", "reset", "(I)I"⟩, prog_10_method_10_code, 4, (some .int)),
  (9, ⟨"PursuitDeskModel", "in", "(III)Z"⟩, prog_10_method_2_code, 3, (some .boolean)),
  (9, ⟨"PursuitDeskModel", "records", "()V"⟩, prog_10_method_8_code, 2, none),
  (9, ⟨"PursuitDeskModel", "link", "(III)I"⟩, prog_10_method_12_code, 6, (some .int)),
  (9, ⟨"PursuitDeskModel", "isNode", "(I)Z"⟩, prog_10_method_3_code, 2, (some .boolean)),
  (9, ⟨"PursuitDeskModel", "joins", "(III)V"⟩, prog_10_method_11_code, 4, none),
  (9, ⟨"PursuitDeskModel", "isWay", "(II)Z"⟩, prog_10_method_9_code, 3, (some .boolean)),
  (9, ⟨"PursuitDeskModel", "put", "(I)I"⟩, prog_10_method_14_code, 3, (some .int)),
  (9, ⟨"PursuitDeskModel", "last", "()I"⟩, prog_10_method_6_code, 1, (some .int)),
  (9, ⟨"PursuitDeskModel", "leave", "()I"⟩, prog_10_method_15_code, 1, (some .int)),
  (9, ⟨"PursuitDeskModel", "order", "(II)I"⟩, prog_10_method_16_code, 4, (some .int)),
  (9, ⟨"PursuitDeskModel", "isSearcher", "(I)Z"⟩, prog_10_method_4_code, 2, (some .boolean)),
  (9, ⟨"PursuitDeskModel", "release", "()I"⟩, prog_10_method_17_code, 1, (some .int)),
  (9, ⟨"PursuitDeskModel", "belief", "()I"⟩, prog_10_method_18_code, 1, (some .int)),
  (9, ⟨"PursuitDeskModel", "beliefAfter", "(I)I"⟩, prog_10_method_20_code, 3, (some .int)),
  (9, ⟨"PursuitDeskModel", "keptAt", "(I)I"⟩, prog_10_method_19_code, 3, (some .int)),
  (9, ⟨"PursuitDeskModel", "tell", "(II)I"⟩, prog_10_method_23_code, 4, (some .int)),
  (9, ⟨"PursuitDeskModel", "news", "(II)V"⟩, prog_10_method_22_code, 5, none),
  (9, ⟨"PursuitDeskModel", "step", "(II)I"⟩, prog_10_method_21_code, 8, (some .int)),
  (9, ⟨"PursuitDeskModel", "turn", "()I"⟩, prog_10_method_27_code, 4, (some .int)),
  (9, ⟨"PursuitDeskModel", "looks", "()V"⟩, prog_10_method_24_code, 2, none),
  (9, ⟨"PursuitDeskModel", "flees", "()V"⟩, prog_10_method_25_code, 4, none),
  (9, ⟨"PursuitDeskModel", "makesRoom", "()V"⟩, prog_10_method_26_code, 2, none),
  (9, ⟨"PursuitDeskModel", "undo", "()I"⟩, prog_10_method_28_code, 2, (some .int)),
  (9, ⟨"PursuitDeskModel", "count", "(I)I"⟩, prog_10_method_29_code, 2, (some .int)),
  (9, ⟨"PursuitDeskModel", "edges", "()I"⟩, prog_10_method_13_code, 3, (some .int)),
  (9, ⟨"PursuitDeskModel", "neighbours", "(I)I"⟩, prog_10_method_30_code, 2, (some .int)),
  (9, ⟨"PursuitDeskModel", "searcher", "(II)I"⟩, prog_10_method_31_code, 3, (some .int)),
  (9, ⟨"PursuitDeskModel", "hide", "(I)I"⟩, prog_10_method_32_code, 3, (some .int)),
  (9, ⟨"PursuitDeskModel", "flee", "(I)I"⟩, prog_10_method_33_code, 3, (some .int)),
  (9, ⟨"PursuitDeskModel", "setNews", "(II)I"⟩, prog_10_method_34_code, 4, (some .int)),
  (9, ⟨"PursuitDeskModel", "evader", "(I)I"⟩, prog_10_method_35_code, 2, (some .int)),
  (9, ⟨"PursuitDeskModel", "ahead", "()I"⟩, prog_10_method_36_code, 1, (some .int)),
  (9, ⟨"PursuitDeskModel", "settles", "()I"⟩, prog_10_method_37_code, 4, (some .int)),
  (9, ⟨"PursuitDeskModel", "planTurns", "()I"⟩, prog_10_method_45_code, 2, (some .int)),
  (9, ⟨"PursuitDeskModel", "plan", "()I"⟩, prog_10_method_44_code, 1, (some .int)),
  (9, ⟨"PursuitDeskModel", "clears", "()V"⟩, prog_10_method_39_code, 2, none),
  (9, ⟨"PursuitDeskModel", "now", "()I"⟩, prog_10_method_43_code, 3, (some .int)),
  (9, ⟨"PursuitDeskModel", "placed", "(III)I"⟩, prog_10_method_38_code, 3, (some .int)),
  (9, ⟨"PursuitDeskModel", "searches", "(II)I"⟩, prog_10_method_42_code, 7, (some .int)),
  (9, ⟨"PursuitDeskModel", "moves", "(I)I"⟩, prog_10_method_41_code, 1, (some .int)),
  (9, ⟨"PursuitDeskModel", "moved", "(III)I"⟩, prog_10_method_40_code, 7, (some .int)),
  (9, ⟨"PursuitDeskModel", "planOrder", "(II)I"⟩, prog_10_method_46_code, 4, (some .int)),
  (9, ⟨"PursuitDeskModel", "planMoves", "()I"⟩, prog_10_method_48_code, 8, (some .int)),
  (9, ⟨"PursuitDeskModel", "leaving", "(III)I"⟩, prog_10_method_47_code, 5, (some .int)),
  (9, ⟨"PursuitDeskModel", "leastSearchers", "()I"⟩, prog_10_method_50_code, 2, (some .int)),
  (9, ⟨"PursuitDeskModel", "turnsOf", "(I)I"⟩, prog_10_method_49_code, 9, (some .int)),
  (9, ⟨"PursuitDeskModel", "bestTurns", "(I)I"⟩, prog_10_method_51_code, 3, (some .int)),
  (9, ⟨"PursuitDeskModel", "type", "(I)I"⟩, prog_10_method_52_code, 2, (some .int)),
  (9, ⟨"PursuitDeskModel", "clearText", "()I"⟩, prog_10_method_53_code, 2, (some .int)),
  (9, ⟨"PursuitDeskModel", "fault", "()I"⟩, prog_10_method_55_code, 5, (some .int)),
  (9, ⟨"PursuitDeskModel", "letter", "(I)I"⟩, prog_10_method_54_code, 2, (some .int)),
  (9, ⟨"PursuitDeskModel", "lay", "()I"⟩, prog_10_method_56_code, 2, (some .int)),
  (10, ⟨"PursuitDeskLaw", "law", "([I)Z"⟩, code, 4, (some .boolean))]
abbrev j_Long_bitCount : Nat := 0
abbrev j_Ways_stays : Nat := 1
abbrev j_Ways_way : Nat := 2
abbrev j_Ways_edge : Nat := 3
abbrev j_Ways_contains : Nat := 4
abbrev j_Ways_spread : Nat := 5
abbrev j_Ways_onlyFrom : Nat := 6
abbrev j_Ways_ends : Nat := 7
abbrev j_Ways_closed : Nat := 8
abbrev j_Ways_from : Nat := 9
abbrev j_Beliefs_init : Nat := 10
abbrev j_Beliefs_makeAnew : Nat := 11
abbrev j_Beliefs_slot : Nat := 12
abbrev j_Beliefs_copyFrom : Nat := 13
abbrev j_Beliefs_leaveOut : Nat := 14
abbrev j_Beliefs_after : Nat := 15
abbrev j_Beliefs_keeps : Nat := 16
abbrev j_Beliefs_narrow : Nat := 17
abbrev j_Beliefs_extend : Nat := 18
abbrev j_Evader_init : Nat := 19
abbrev j_Evader_copyFrom : Nat := 20
abbrev j_Evader_isFree : Nat := 21
abbrev j_Evader_catchAt : Nat := 22
abbrev j_Evader_standAt : Nat := 23
abbrev j_Evader_go : Nat := 24
abbrev j_Evader_nodeAfter : Nat := 25
abbrev j_Evader_hideAt : Nat := 26
abbrev j_Evader_property : Nat := 27
abbrev j_Search_init : Nat := 28
abbrev j_Search_prepare : Nat := 29
abbrev j_Search_clear : Nat := 30
abbrev j_Search_bound : Nat := 31
abbrev j_Search_numberOf : Nat := 32
abbrev j_Search_expand : Nat := 33
abbrev j_Search_placeSearchers : Nat := 34
abbrev j_Search_giveOrders : Nat := 35
abbrev j_TurnSearch_init : Nat := 36
abbrev j_TurnSearch_forget : Nat := 37
abbrev j_TurnSearch_enter : Nat := 38
abbrev j_TurnSearch_search : Nat := 39
abbrev j_TurnSearch_arrive : Nat := 40
abbrev j_TurnSearch_turns : Nat := 41
abbrev j_TurnSearch_nodeAfter : Nat := 42
abbrev j_TurnSearch_enterAllStarts : Nat := 43
abbrev j_TurnSearch_enterStart : Nat := 44
abbrev j_MoveSearch_init : Nat := 45
abbrev j_MoveSearch_arrive : Nat := 46
abbrev j_MoveSearch_fewestMoves : Nat := 47
abbrev j_MoveSearch_expandAllAtPrice : Nat := 48
abbrev j_State_init : Nat := 49
abbrev j_State_startAnew : Nat := 50
abbrev j_State_forgetBeliefs : Nat := 51
abbrev j_State_occupied : Nat := 52
abbrev j_State_copyFrom : Nat := 53
abbrev j_State_joins : Nat := 54
abbrev j_State_cut : Nat := 55
abbrev j_State_replaceEdges : Nat := 56
abbrev j_State_edges : Nat := 57
abbrev j_State_addSearcher : Nat := 58
abbrev j_State_makeTurn : Nat := 59
abbrev j_State_freeWays : Nat := 60
abbrev j_State_giveNews : Nat := 61
abbrev j_PursuitDesk_init : Nat := 62
abbrev j_PursuitDesk_reset : Nat := 63
abbrev j_PursuitDesk_remember : Nat := 64
abbrev j_PursuitDesk_dropOldest : Nat := 65
abbrev j_PursuitDesk_link : Nat := 66
abbrev j_PursuitDesk_isNode : Nat := 67
abbrev j_PursuitDesk_lay : Nat := 68
abbrev j_PursuitDesk_fault : Nat := 69
abbrev j_PursuitDesk_edgeAt : Nat := 70
abbrev j_PursuitDesk_textEdges : Nat := 71
abbrev j_PursuitDesk_put : Nat := 72
abbrev j_PursuitDesk_leave : Nat := 73
abbrev j_PursuitDesk_order : Nat := 74
abbrev j_PursuitDesk_isSearcher : Nat := 75
abbrev j_PursuitDesk_release : Nat := 76
abbrev j_PursuitDesk_belief : Nat := 77
abbrev j_PursuitDesk_beliefAfter : Nat := 78
abbrev j_PursuitDesk_tell : Nat := 79
abbrev j_PursuitDesk_turn : Nat := 80
abbrev j_PursuitDesk_undo : Nat := 81
abbrev j_PursuitDesk_count : Nat := 82
abbrev j_PursuitDesk_neighbours : Nat := 83
abbrev j_PursuitDesk_searcher : Nat := 84
abbrev j_PursuitDesk_hide : Nat := 85
abbrev j_PursuitDesk_flee : Nat := 86
abbrev j_PursuitDesk_setNews : Nat := 87
abbrev j_PursuitDesk_evader : Nat := 88
abbrev j_PursuitDesk_ahead : Nat := 89
abbrev j_PursuitDesk_planTurns : Nat := 90
abbrev j_PursuitDesk_knowPlan : Nat := 91
abbrev j_PursuitDesk_planOrder : Nat := 92
abbrev j_PursuitDesk_planMoves : Nat := 93
abbrev j_PursuitDesk_settles : Nat := 94
abbrev j_PursuitDesk_leastSearchers : Nat := 95
abbrev j_PursuitDesk_turnsFromBestStart : Nat := 96
abbrev j_PursuitDesk_bestTurns : Nat := 97
abbrev j_PursuitDesk_type : Nat := 98
abbrev j_PursuitDesk_clearText : Nat := 99
abbrev j_PursuitDeskModel_init : Nat := 100
abbrev j_PursuitDeskModel_begins : Nat := 101
abbrev j_PursuitDeskModel_all : Nat := 102
abbrev j_PursuitDeskModel_reset : Nat := 103
abbrev j_PursuitDeskModel_in : Nat := 104
abbrev j_PursuitDeskModel_records : Nat := 105
abbrev j_PursuitDeskModel_link : Nat := 106
abbrev j_PursuitDeskModel_isNode : Nat := 107
abbrev j_PursuitDeskModel_joins : Nat := 108
abbrev j_PursuitDeskModel_isWay : Nat := 109
abbrev j_PursuitDeskModel_put : Nat := 110
abbrev j_PursuitDeskModel_last : Nat := 111
abbrev j_PursuitDeskModel_leave : Nat := 112
abbrev j_PursuitDeskModel_order : Nat := 113
abbrev j_PursuitDeskModel_isSearcher : Nat := 114
abbrev j_PursuitDeskModel_release : Nat := 115
abbrev j_PursuitDeskModel_belief : Nat := 116
abbrev j_PursuitDeskModel_beliefAfter : Nat := 117
abbrev j_PursuitDeskModel_keptAt : Nat := 118
abbrev j_PursuitDeskModel_tell : Nat := 119
abbrev j_PursuitDeskModel_news : Nat := 120
abbrev j_PursuitDeskModel_step : Nat := 121
abbrev j_PursuitDeskModel_turn : Nat := 122
abbrev j_PursuitDeskModel_looks : Nat := 123
abbrev j_PursuitDeskModel_flees : Nat := 124
abbrev j_PursuitDeskModel_makesRoom : Nat := 125
abbrev j_PursuitDeskModel_undo : Nat := 126
abbrev j_PursuitDeskModel_count : Nat := 127
abbrev j_PursuitDeskModel_edges : Nat := 128
abbrev j_PursuitDeskModel_neighbours : Nat := 129
abbrev j_PursuitDeskModel_searcher : Nat := 130
abbrev j_PursuitDeskModel_hide : Nat := 131
abbrev j_PursuitDeskModel_flee : Nat := 132
abbrev j_PursuitDeskModel_setNews : Nat := 133
abbrev j_PursuitDeskModel_evader : Nat := 134
abbrev j_PursuitDeskModel_ahead : Nat := 135
abbrev j_PursuitDeskModel_settles : Nat := 136
abbrev j_PursuitDeskModel_planTurns : Nat := 137
abbrev j_PursuitDeskModel_plan : Nat := 138
abbrev j_PursuitDeskModel_clears : Nat := 139
abbrev j_PursuitDeskModel_now : Nat := 140
abbrev j_PursuitDeskModel_placed : Nat := 141
abbrev j_PursuitDeskModel_searches : Nat := 142
abbrev j_PursuitDeskModel_moves : Nat := 143
abbrev j_PursuitDeskModel_moved : Nat := 144
abbrev j_PursuitDeskModel_planOrder : Nat := 145
abbrev j_PursuitDeskModel_planMoves : Nat := 146
abbrev j_PursuitDeskModel_leaving : Nat := 147
abbrev j_PursuitDeskModel_leastSearchers : Nat := 148
abbrev j_PursuitDeskModel_turnsOf : Nat := 149
abbrev j_PursuitDeskModel_bestTurns : Nat := 150
abbrev j_PursuitDeskModel_type : Nat := 151
abbrev j_PursuitDeskModel_clearText : Nat := 152
abbrev j_PursuitDeskModel_fault : Nat := 153
abbrev j_PursuitDeskModel_letter : Nat := 154
abbrev j_PursuitDeskModel_lay : Nat := 155
abbrev j_PursuitDeskLaw_law : Nat := 156
def pq_find : List pq_E → Nat → Option pq_E
  | [], _ => none
  | e :: r, pc => if e.1 = pc then some e else pq_find r pc
def pq_fetch (j pc : Nat) : Option pq_E := match pq_ctab[j]? with
  | some ct => pq_find ct pc
  | none => none
def pq_loop (call : Nat → List Value → pq_M → Option (Option Value × pq_M)) : Nat → Nat → Nat → pq_L → List Value → pq_M → Option (Option Value × pq_M)
  | 0, _, _, _, _, _ => none
  | n + 1, j, pc, l, st, M => match pq_fetch j pc with
    | none => none
    | some e => match pq_exec e l st M with
      | none => none
      | some (.inl c) => pq_loop call n j c.1 c.2.1 c.2.2.1 c.2.2.2
      | some (.inr (.inl r)) => some (r, M)
      | some (.inr (.inr c)) => match call c.1 c.2.1 M with
        | none => none
        | some q => pq_loop call n j e.2.2.1 l (pq_psh q.1 c.2.2) q.2
def pq_call : Nat → Nat → Nat → List Value → pq_M → Option (Option Value × pq_M)
  | 0, _, _, _, _ => none
  | d + 1, k, j, as, M => match pq_mtab[j]? with
    | none => none
    | some q => match pq_loc0 q.2.2.2.1 as with
      | some lo => pq_loop (pq_call d k) k j 0 lo [] M
      | none => none
end
section
/-! what the tables must say of an entry, for the real machine to do as the small one does -/
/-- a private method of a class above, called on an object of a class below: chosen by itself -/
theorem lw_selP {C : String} {y z : MethodName} {s : State} {args : Array Value} (hy : y.cls ≠ "java/lang/invoke/MethodHandle" ∧ y.cls ≠ "java/lang/invoke/VarHandle") (hz : y.cls = z.cls)
    (hsel : (Cond.selects C z z).before args s = true) (hpriv : (Cond.privateMethod y).before args s = true) (hinst : (Cond.instanceMethod y).before args s = true) :
    (Cond.selects C y y).before args s = true := by
  obtain ⟨c, r, m, hc, -, hnz, -, k, hk, hni⟩ := Cond.selects_spec hsel
  obtain ⟨mk, methM, hnamed, hmethM, -, -⟩ := Cond.instanceMethod_spec hinst
  have hfound : s.methodFound? y.cls y.name y.desc = some mk := State.methodFound?_of_named hnamed hy
  have hcls : mk.cls = m.cls := Option.some.inj ((findClass_of_methodNamed hnamed).symm.trans (by rw [hz]; exact findClass_of_methodNamed hnz))
  have hsl : selectMethod {} s.vm c mk = .method mk := selectMethod_private hmethM (Cond.privateMethod_at hpriv mk methM hnamed hmethM)
  simp only [Cond.before, Cond.holds, Cond.value, hc, hfound, hnamed, hsl, hcls, hk]
  simp; exact hni
def lw_x : List Cond := [Cond.selects "PursuitDesk$MoveSearch" (⟨"PursuitDesk$Search", "giveOrders", "(IJII)V"⟩ : MethodName) (⟨"PursuitDesk$Search", "giveOrders", "(IJII)V"⟩ : MethodName), Cond.selects "PursuitDesk$TurnSearch" (⟨"PursuitDesk$Search", "giveOrders", "(IJII)V"⟩ : MethodName) (⟨"PursuitDesk$Search", "giveOrders", "(IJII)V"⟩ : MethodName)]
def lw_t2 : List Cond := lw_x ++ lw_tbl
theorem lw_t2_ok {s : State} {args : Array Value} (h : ∀ w ∈ lw_tbl, w.before args s = true) : ∀ w ∈ lw_t2, w.before args s = true := by
  intro w hw
  rcases List.mem_append.mp hw with hw | hw
  · rcases List.mem_cons.mp hw with rfl | hw
    · exact lw_selP (z := (⟨"PursuitDesk$Search", "bound", "()I"⟩ : MethodName)) (by decide +kernel) rfl (h _ (List.mem_of_getElem? (i := 558) (by decide +kernel))) (h _ (List.mem_of_getElem? (i := 589) (by decide +kernel))) (h _ (List.mem_of_getElem? (i := 590) (by decide +kernel)))
    · rcases List.mem_cons.mp hw with rfl | hw
      · exact lw_selP (z := (⟨"PursuitDesk$Search", "bound", "()I"⟩ : MethodName)) (by decide +kernel) rfl (h _ (List.mem_of_getElem? (i := 559) (by decide +kernel))) (h _ (List.mem_of_getElem? (i := 589) (by decide +kernel))) (h _ (List.mem_of_getElem? (i := 590) (by decide +kernel)))
      · exact absurd hw List.not_mem_nil
  · exact h w hw
def lw_g : List Cond := lw_t2.filter goodWord
theorem lw_in {w : Cond} (i : Nat) (h : lw_t2[i]? = some w) (g : goodWord w = true) : w ∈ lw_g := List.mem_filter.mpr ⟨List.mem_of_getElem? h, g⟩
abbrev pq_Q : Type := Nat × MethodName × ByteArray × Nat × Option FieldType
def pq_dm (d : String) (na : Nat) : Prop := (parseMethodDescriptor d).map (fun d => d.parameters.length) = some na
def pq_nc (c : String) : Prop := c ≠ "java/lang/invoke/MethodHandle" ∧ c ≠ "java/lang/invoke/VarHandle"
def pq_okM (q : pq_Q) : Prop := Cond.code q.2.1 q.2.2.1 q.2.2.2.1 q.2.2.2.2 ∈ lw_g ∧ plainName q.2.1.cls = true ∧ q.2.2.2.1 ≤ 100 ∧ pq_nc q.2.1.cls
def pq_okF (own : String) (idx ci k : Nat) : Prop := ∃ r : vw_C, pq_cl[ci]? = some r ∧ k < r.2.2 ∧ ∃ ref : String, Cond.fieldLink own idx ref (r.2.1 k).2.1 (r.2.1 k).2.2.1 ∈ lw_g ∧ ((r.2.1 k).1 = ref ∨ Cond.sameField ref (r.2.1 k).1 (r.2.1 k).2.1 (r.2.1 k).2.2.1 ∈ lw_g)
def pq_okQ (own : String) (ini : Bool) (idx ci k : Nat) : Prop := pq_okF own idx ci k ∧ ∃ r : vw_C, pq_cl[ci]? = some r ∧ ((r.2.1 k).2.2.2 = false ∨ ((r.2.1 k).2.2.2 = true ∧ ini = true ∧ (r.2.1 k).1 = own))
def pq_okV (own : String) (idx na ci j : Nat) : Prop := ∃ (q : pq_Q) (C : String), pq_mtab[j]? = some q ∧ pq_cn[ci]? = some C ∧ pq_okM q ∧
  ((q.2.1.cls = C ∧ pq_dm q.2.1.desc na ∧ Cond.methodLink own idx q.2.1 ∈ lw_g ∧ Cond.instanceMethod q.2.1 ∈ lw_g ∧ Cond.selects C q.2.1 q.2.1 ∈ lw_g ∧ Cond.initialized C ∈ lw_g) ∨
   ∃ (owner : String) (x : MethodName), pq_nc owner ∧ pq_dm x.desc na ∧ Cond.methodLink own idx x ∈ lw_g ∧ Cond.sameMethod x.cls owner x.name x.desc ∈ lw_g ∧ Cond.selects C x q.2.1 ∈ lw_g ∧ Cond.instanceMethod q.2.1 ∈ lw_g ∧ Cond.initialized q.2.1.cls ∈ lw_g ∧ (q.2.1 = ⟨owner, x.name, x.desc⟩ ∨ Cond.declares ⟨owner, x.name, x.desc⟩ ∈ pq_nest))
def pq_okS (own : String) (idx na j : Nat) : Prop := ∃ q : pq_Q, pq_mtab[j]? = some q ∧ pq_okM q ∧ pq_dm q.2.1.desc na ∧ Cond.methodLink own idx q.2.1 ∈ lw_g ∧ Cond.static q.2.1 ∈ lw_g ∧ Cond.initialized q.2.1.cls ∈ lw_g
def pq_okI (own : String) (idx na j : Nat) : Prop := ∃ q : pq_Q, pq_mtab[j]? = some q ∧ pq_okM q ∧ q.2.2.2.2 = none ∧ q.2.1.name = "<init>" ∧ pq_dm q.2.1.desc na ∧ Cond.instanceMethod q.2.1 ∈ lw_g ∧ Cond.initialized q.2.1.cls ∈ lw_g ∧ (Cond.methodLink own idx q.2.1 ∈ lw_g ∨ ∃ host : String, Cond.methodLinkNest own idx q.2.1 host ∈ pq_nest)
def pq_okN (own : String) (idx ci : Nat) : Prop := ∃ r : vw_C, pq_cl[ci]? = some r ∧ Cond.classLink own idx r.1 ∈ lw_g ∧ Cond.instantiable r.1 r.2.2 ∈ lw_g ∧ Cond.initialized r.1 ∈ lw_g
def pq_okW (own : String) (idx ci : Nat) : Prop := pq_cn[ci]? = some "PursuitDesk$State" ∧ Cond.classLink own idx "PursuitDesk$State" ∈ lw_g
def pq_okO (own : String) (idx : Nat) : Prop := Cond.methodLink own idx Lib.objectInit ∈ lw_g ∧ Cond.instanceMethod Lib.objectInit ∈ lw_g ∧ Cond.code Lib.objectInit ⟨#[0xb1]⟩ 1 none ∈ lw_g
def pq_okA (own : String) (idx : Nat) : Prop := Cond.methodLink own idx arraycopyName ∈ lw_g ∧ Cond.native arraycopyName ∈ lw_g ∧ Cond.static arraycopyName ∈ lw_g ∧ Cond.initialized "java/lang/System" ∈ lw_g
def pq_okX (own : String) (idx : Nat) : Prop := Cond.methodLink own idx Lib.Math.max.name ∈ lw_g ∧ Cond.static Lib.Math.max.name ∈ lw_g ∧ Cond.initialized "java/lang/Math" ∈ lw_g ∧ Cond.code Lib.Math.max.name Lib.Math.max.code 2 (some .int) ∈ lw_g
def pq_okY (own : String) (idx : Nat) : Prop := Cond.methodLink own idx Lib.Math.min.name ∈ lw_g ∧ Cond.static Lib.Math.min.name ∈ lw_g ∧ Cond.initialized "java/lang/Math" ∈ lw_g ∧ Cond.code Lib.Math.min.name Lib.Math.min.code 2 (some .int) ∈ lw_g
def pq_okC (own : String) (idx : Nat) (v : Value) : Prop := ∃ x : Int32, v = .int x ∧ Cond.constant own idx x ∈ lw_g
def pq_okD (own : String) (idx : Nat) (v : Value) : Prop := ∃ x : Int64, v = .long x ∧ Cond.constantLong own idx x ∈ lw_g
def pq_ok (own : String) (ini : Bool) (e : pq_E) : Prop := match e.2.1 with
  | .ldc idx => pq_okC own idx e.2.2.2.2.2
  | .ldc2_w idx => pq_okD own idx e.2.2.2.2.2
  | .getfield idx => ∀ q ∈ e.2.2.2.2.1, pq_okF own idx q.1 q.2
  | .putfield idx => ∀ q ∈ e.2.2.2.2.1, pq_okQ own ini idx q.1 q.2
  | .invokevirtual idx => ∀ q ∈ e.2.2.2.2.1, pq_okV own idx e.2.2.2.1 q.1 q.2
  | .invokestatic idx => match e.2.2.2.2.1 with
    | [] => pq_okA own idx
    | q :: _ => match q.1 with
      | 0 => pq_okS own idx e.2.2.2.1 q.2
      | 1 => pq_okX own idx
      | _ => pq_okY own idx
  | .invokespecial idx => match e.2.2.2.2.1 with
    | [] => pq_okO own idx
    | lk => ∀ q ∈ lk, pq_okI own idx e.2.2.2.1 q.2
  | .new idx => ∀ q ∈ e.2.2.2.2.1, pq_okN own idx q.1
  | .anewarray idx => ∀ q ∈ e.2.2.2.2.1, pq_okW own idx q.1
  | _ => True
def pq_len (i : Instr) : Nat := match i with
  | .bipush _ => 2
  | .sipush _ => 3
  | .ldc _ => 2
  | .ldc2_w _ => 3
  | .iload _ => 2
  | .lload _ => 2
  | .aload _ => 2
  | .istore _ => 2
  | .lstore _ => 2
  | .astore _ => 2
  | .iinc _ _ => 3
  | .goto _ => 3
  | .ifCond _ _ => 3
  | .if_icmp _ _ => 3
  | .getfield _ => 3
  | .putfield _ => 3
  | .invokevirtual _ => 3
  | .invokestatic _ => 3
  | .invokespecial _ => 3
  | .new _ => 3
  | .newarray _ => 2
  | .anewarray _ => 3
  | .tableswitch _ _ _ _ => 0
  | _ => 1
def pq_cb (ret : Option FieldType) (e : pq_E) : Bool := match e.2.1 with
  | .iconst n => decide (e.2.2.2.2.2 = .int (Int32.ofInt n))
  | .bipush n => decide (e.2.2.2.2.2 = .int (Int8.ofInt n).toInt32)
  | .sipush n => decide (e.2.2.2.2.2 = .int (Int16.ofInt n).toInt32)
  | .lconst n => decide (e.2.2.2.2.2 = .long (Int64.ofNat (n : Nat)))
  | .iinc _ n => decide (e.2.2.2.2.2 = .int (Int32.ofInt n))
  | .goto off => decide (∀ t ∈ e.2.2.2.2.1, (e.1 : Int) + off = (t.1 : Int))
  | .ifCond _ off => decide (∀ t ∈ e.2.2.2.2.1, (e.1 : Int) + off = (t.1 : Int))
  | .if_icmp _ off => decide (∀ t ∈ e.2.2.2.2.1, (e.1 : Int) + off = (t.1 : Int))
  | .tableswitch d _ _ offs => decide (e.2.2.2.2.1.map (fun t => (t.1 : Int)) = (d :: offs.toList).map (fun o => (e.1 : Int) + o))
  | .ireturn => decide (ret = if e.2.2.2.1 = 0 then some .int else some .boolean)
  | .lreturn => decide (ret = some .long)
  | .return_ => decide (ret = none)
  | _ => true
def pq_dc (b : ByteArray) (ret : Option FieldType) (e : pq_E) : Bool := match decode b e.1 with
  | .ok (i, n) => decide (i = e.2.1) && decide (e.2.2.1 = e.1 + n) && (decide (n = pq_len i) || decide (pq_len i = 0)) && pq_cb ret e
  | .error _ => false
theorem pq_ac {α : Type} {P : α → Prop} {a : α} {l : List α} (h : P a) (t : ∀ x ∈ l, P x) : ∀ x ∈ a :: l, P x := List.forall_mem_cons.mpr ⟨h, t⟩
theorem pq_an {α : Type} {P : α → Prop} : ∀ x ∈ ([] : List α), P x := fun _ h => absurd h List.not_mem_nil
end
section
theorem kz_nest : ∀ w ∈ pq_nest, w ∈ lw_tbl := pq_ac (List.mem_of_getElem? (i := 56) (by decide +kernel)) (pq_ac (List.mem_of_getElem? (i := 62) (by decide +kernel)) (pq_ac (List.mem_of_getElem? (i := 84) (by decide +kernel)) (pq_ac (List.mem_of_getElem? (i := 161) (by decide +kernel)) (pq_ac (List.mem_of_getElem? (i := 164) (by decide +kernel)) (pq_ac (List.mem_of_getElem? (i := 205) (by decide +kernel)) (pq_ac (List.mem_of_getElem? (i := 208) (by decide +kernel)) (pq_ac (List.mem_of_getElem? (i := 541) (by decide +kernel)) (pq_ac (List.mem_of_getElem? (i := 551) (by decide +kernel)) (pq_ac (List.mem_of_getElem? (i := 563) (by decide +kernel)) (pq_ac (List.mem_of_getElem? (i := 577) (by decide +kernel)) (pq_ac (List.mem_of_getElem? (i := 594) (by decide +kernel)) (pq_ac (List.mem_of_getElem? (i := 625) (by decide +kernel)) (pq_ac (List.mem_of_getElem? (i := 651) (by decide +kernel)) (pq_an))))))))))))))
theorem kM_0 : pq_okM (0, ⟨"java/lang/Long", "bitCount", "(J)I"⟩, prog_11_method_50_code, 2, (some .int)) := ⟨(lw_in 356 (by decide +kernel) (by decide +kernel)), by decide +kernel, by decide +kernel, by decide +kernel, by decide +kernel⟩
theorem kM_1 : pq_okM (1, ⟨"PursuitDesk$Ways", "stays", "(I)J"⟩, prog_8_method_5_code, 4, (some .long)) := ⟨(lw_in 231 (by decide +kernel) (by decide +kernel)), by decide +kernel, by decide +kernel, by decide +kernel, by decide +kernel⟩
theorem kM_2 : pq_okM (1, ⟨"PursuitDesk$Ways", "way", "(II)J"⟩, prog_8_method_3_code, 2, (some .long)) := ⟨(lw_in 234 (by decide +kernel) (by decide +kernel)), by decide +kernel, by decide +kernel, by decide +kernel, by decide +kernel⟩
theorem kM_3 : pq_okM (1, ⟨"PursuitDesk$Ways", "edge", "(II)J"⟩, prog_8_method_4_code, 2, (some .long)) := ⟨(lw_in 322 (by decide +kernel) (by decide +kernel)), by decide +kernel, by decide +kernel, by decide +kernel, by decide +kernel⟩
theorem kM_4 : pq_okM (1, ⟨"PursuitDesk$Ways", "contains", "(II)Z"⟩, prog_8_method_2_code, 2, (some .boolean)) := ⟨(lw_in 425 (by decide +kernel) (by decide +kernel)), by decide +kernel, by decide +kernel, by decide +kernel, by decide +kernel⟩
theorem kM_5 : pq_okM (1, ⟨"PursuitDesk$Ways", "spread", "(JI)I"⟩, prog_8_method_10_code, 3, (some .int)) := ⟨(lw_in 434 (by decide +kernel) (by decide +kernel)), by decide +kernel, by decide +kernel, by decide +kernel, by decide +kernel⟩
theorem kM_6 : pq_okM (1, ⟨"PursuitDesk$Ways", "onlyFrom", "(JI)J"⟩, prog_8_method_8_code, 6, (some .long)) := ⟨(lw_in 437 (by decide +kernel) (by decide +kernel)), by decide +kernel, by decide +kernel, by decide +kernel, by decide +kernel⟩
theorem kM_7 : pq_okM (1, ⟨"PursuitDesk$Ways", "ends", "(J)I"⟩, prog_8_method_9_code, 4, (some .int)) := ⟨(lw_in 442 (by decide +kernel) (by decide +kernel)), by decide +kernel, by decide +kernel, by decide +kernel, by decide +kernel⟩
theorem kM_8 : pq_okM (1, ⟨"PursuitDesk$Ways", "closed", "(II)J"⟩, prog_8_method_6_code, 2, (some .long)) := ⟨(lw_in 457 (by decide +kernel) (by decide +kernel)), by decide +kernel, by decide +kernel, by decide +kernel, by decide +kernel⟩
theorem kM_9 : pq_okM (1, ⟨"PursuitDesk$Ways", "from", "(JI)I"⟩, prog_8_method_7_code, 3, (some .int)) := ⟨(lw_in 496 (by decide +kernel) (by decide +kernel)), by decide +kernel, by decide +kernel, by decide +kernel, by decide +kernel⟩
theorem kM_10 : pq_okM (2, ⟨"PursuitDesk$Beliefs", "<init>", "()V"⟩, prog_2_method_1_code, 1, none) := ⟨(lw_in 66 (by decide +kernel) (by decide +kernel)), by decide +kernel, by decide +kernel, by decide +kernel, by decide +kernel⟩
theorem kM_11 : pq_okM (2, ⟨"PursuitDesk$Beliefs", "makeAnew", "(II)V"⟩, prog_2_method_4_code, 3, none) := ⟨(lw_in 246 (by decide +kernel) (by decide +kernel)), by decide +kernel, by decide +kernel, by decide +kernel, by decide +kernel⟩
theorem kM_12 : pq_okM (2, ⟨"PursuitDesk$Beliefs", "slot", "(I)I"⟩, prog_2_method_3_code, 1, (some .int)) := ⟨(lw_in 249 (by decide +kernel) (by decide +kernel)), by decide +kernel, by decide +kernel, by decide +kernel, by decide +kernel⟩
theorem kM_13 : pq_okM (2, ⟨"PursuitDesk$Beliefs", "copyFrom", "(LPursuitDesk$Beliefs;)V"⟩, prog_2_method_2_code, 2, none) := ⟨(lw_in 300 (by decide +kernel) (by decide +kernel)), by decide +kernel, by decide +kernel, by decide +kernel, by decide +kernel⟩
theorem kM_14 : pq_okM (2, ⟨"PursuitDesk$Beliefs", "leaveOut", "(I)V"⟩, prog_2_method_7_code, 2, none) := ⟨(lw_in 371 (by decide +kernel) (by decide +kernel)), by decide +kernel, by decide +kernel, by decide +kernel, by decide +kernel⟩
theorem kM_15 : pq_okM (2, ⟨"PursuitDesk$Beliefs", "after", "(I)I"⟩, prog_2_method_6_code, 2, (some .int)) := ⟨(lw_in 409 (by decide +kernel) (by decide +kernel)), by decide +kernel, by decide +kernel, by decide +kernel, by decide +kernel⟩
theorem kM_16 : pq_okM (2, ⟨"PursuitDesk$Beliefs", "keeps", "(I)Z"⟩, prog_2_method_5_code, 2, (some .boolean)) := ⟨(lw_in 418 (by decide +kernel) (by decide +kernel)), by decide +kernel, by decide +kernel, by decide +kernel, by decide +kernel⟩
theorem kM_17 : pq_okM (2, ⟨"PursuitDesk$Beliefs", "narrow", "(II)V"⟩, prog_2_method_9_code, 4, none) := ⟨(lw_in 429 (by decide +kernel) (by decide +kernel)), by decide +kernel, by decide +kernel, by decide +kernel, by decide +kernel⟩
theorem kM_18 : pq_okM (2, ⟨"PursuitDesk$Beliefs", "extend", "(J)V"⟩, prog_2_method_8_code, 4, none) := ⟨(lw_in 462 (by decide +kernel) (by decide +kernel)), by decide +kernel, by decide +kernel, by decide +kernel, by decide +kernel⟩
theorem kM_19 : pq_okM (3, ⟨"PursuitDesk$Evader", "<init>", "()V"⟩, prog_3_method_1_code, 1, none) := ⟨(lw_in 88 (by decide +kernel) (by decide +kernel)), by decide +kernel, by decide +kernel, by decide +kernel, by decide +kernel⟩
theorem kM_20 : pq_okM (3, ⟨"PursuitDesk$Evader", "copyFrom", "(LPursuitDesk$Evader;)V"⟩, prog_3_method_2_code, 2, none) := ⟨(lw_in 305 (by decide +kernel) (by decide +kernel)), by decide +kernel, by decide +kernel, by decide +kernel, by decide +kernel⟩
theorem kM_21 : pq_okM (3, ⟨"PursuitDesk$Evader", "isFree", "()Z"⟩, prog_3_method_4_code, 1, (some .boolean)) := ⟨(lw_in 375 (by decide +kernel) (by decide +kernel)), by decide +kernel, by decide +kernel, by decide +kernel, by decide +kernel⟩
theorem kM_22 : pq_okM (3, ⟨"PursuitDesk$Evader", "catchAt", "(II)V"⟩, prog_3_method_5_code, 3, none) := ⟨(lw_in 379 (by decide +kernel) (by decide +kernel)), by decide +kernel, by decide +kernel, by decide +kernel, by decide +kernel⟩
theorem kM_23 : pq_okM (3, ⟨"PursuitDesk$Evader", "standAt", "(II)V"⟩, prog_3_method_7_code, 3, none) := ⟨(lw_in 383 (by decide +kernel) (by decide +kernel)), by decide +kernel, by decide +kernel, by decide +kernel, by decide +kernel⟩
theorem kM_24 : pq_okM (3, ⟨"PursuitDesk$Evader", "go", "(JI)V"⟩, prog_3_method_6_code, 4, none) := ⟨(lw_in 469 (by decide +kernel) (by decide +kernel)), by decide +kernel, by decide +kernel, by decide +kernel, by decide +kernel⟩
theorem kM_25 : pq_okM (3, ⟨"PursuitDesk$Evader", "nodeAfter", "(I)I"⟩, prog_3_method_8_code, 2, (some .int)) := ⟨(lw_in 480 (by decide +kernel) (by decide +kernel)), by decide +kernel, by decide +kernel, by decide +kernel, by decide +kernel⟩
theorem kM_26 : pq_okM (3, ⟨"PursuitDesk$Evader", "hideAt", "(II)V"⟩, prog_3_method_3_code, 3, none) := ⟨(lw_in 509 (by decide +kernel) (by decide +kernel)), by decide +kernel, by decide +kernel, by decide +kernel, by decide +kernel⟩
theorem kM_27 : pq_okM (3, ⟨"PursuitDesk$Evader", "property", "(I)I"⟩, prog_3_method_9_code, 2, (some .int)) := ⟨(lw_in 526 (by decide +kernel) (by decide +kernel)), by decide +kernel, by decide +kernel, by decide +kernel, by decide +kernel⟩
theorem kM_28 : pq_okM (4, ⟨"PursuitDesk$Search", "<init>", "()V"⟩, prog_5_method_1_code, 1, none) := ⟨(lw_in 168 (by decide +kernel) (by decide +kernel)), by decide +kernel, by decide +kernel, by decide +kernel, by decide +kernel⟩
theorem kM_29 : pq_okM (4, ⟨"PursuitDesk$Search", "prepare", "(IJI)V"⟩, prog_5_method_3_code, 5, none) := ⟨(lw_in 546 (by decide +kernel) (by decide +kernel)), by decide +kernel, by decide +kernel, by decide +kernel, by decide +kernel⟩
theorem kM_30 : pq_okM (4, ⟨"PursuitDesk$Search", "clear", "([I)V"⟩, prog_5_method_6_code, 4, none) := ⟨(lw_in 556 (by decide +kernel) (by decide +kernel)), by decide +kernel, by decide +kernel, by decide +kernel, by decide +kernel⟩
theorem kM_31 : pq_okM (4, ⟨"PursuitDesk$Search", "bound", "()I"⟩, prog_5_method_4_code, 3, (some .int)) := ⟨(lw_in 562 (by decide +kernel) (by decide +kernel)), by decide +kernel, by decide +kernel, by decide +kernel, by decide +kernel⟩
theorem kM_32 : pq_okM (4, ⟨"PursuitDesk$Search", "numberOf", "([II)I"⟩, prog_5_method_5_code, 5, (some .int)) := ⟨(lw_in 568 (by decide +kernel) (by decide +kernel)), by decide +kernel, by decide +kernel, by decide +kernel, by decide +kernel⟩
theorem kM_33 : pq_okM (4, ⟨"PursuitDesk$Search", "expand", "(I)V"⟩, prog_5_method_8_code, 2, none) := ⟨(lw_in 582 (by decide +kernel) (by decide +kernel)), by decide +kernel, by decide +kernel, by decide +kernel, by decide +kernel⟩
theorem kM_34 : pq_okM (4, ⟨"PursuitDesk$Search", "placeSearchers", "(I)V"⟩, prog_5_method_7_code, 4, none) := ⟨(lw_in 588 (by decide +kernel) (by decide +kernel)), by decide +kernel, by decide +kernel, by decide +kernel, by decide +kernel⟩
theorem kM_35 : pq_okM (4, ⟨"PursuitDesk$Search", "giveOrders", "(IJII)V"⟩, prog_5_method_9_code, 11, none) := ⟨(lw_in 593 (by decide +kernel) (by decide +kernel)), by decide +kernel, by decide +kernel, by decide +kernel, by decide +kernel⟩
theorem kM_36 : pq_okM (5, ⟨"PursuitDesk$TurnSearch", "<init>", "()V"⟩, prog_7_method_1_code, 1, none) := ⟨(lw_in 165 (by decide +kernel) (by decide +kernel)), by decide +kernel, by decide +kernel, by decide +kernel, by decide +kernel⟩
theorem kM_37 : pq_okM (5, ⟨"PursuitDesk$TurnSearch", "forget", "()V"⟩, prog_7_method_2_code, 1, none) := ⟨(lw_in 550 (by decide +kernel) (by decide +kernel)), by decide +kernel, by decide +kernel, by decide +kernel, by decide +kernel⟩
theorem kM_38 : pq_okM (5, ⟨"PursuitDesk$TurnSearch", "enter", "(II)V"⟩, prog_7_method_3_code, 3, none) := ⟨(lw_in 572 (by decide +kernel) (by decide +kernel)), by decide +kernel, by decide +kernel, by decide +kernel, by decide +kernel⟩
theorem kM_39 : pq_okM (5, ⟨"PursuitDesk$TurnSearch", "search", "()V"⟩, prog_7_method_6_code, 2, none) := ⟨(lw_in 576 (by decide +kernel) (by decide +kernel)), by decide +kernel, by decide +kernel, by decide +kernel, by decide +kernel⟩
theorem kM_40 : pq_okM (5, ⟨"PursuitDesk$TurnSearch", "arrive", "(II)V"⟩, prog_7_method_7_code, 3, none) := ⟨(lw_in 606 (by decide +kernel) (by decide +kernel)), by decide +kernel, by decide +kernel, by decide +kernel, by decide +kernel⟩
theorem kM_41 : pq_okM (5, ⟨"PursuitDesk$TurnSearch", "turns", "()I"⟩, prog_7_method_8_code, 3, (some .int)) := ⟨(lw_in 615 (by decide +kernel) (by decide +kernel)), by decide +kernel, by decide +kernel, by decide +kernel, by decide +kernel⟩
theorem kM_42 : pq_okM (5, ⟨"PursuitDesk$TurnSearch", "nodeAfter", "(II)I"⟩, prog_7_method_9_code, 5, (some .int)) := ⟨(lw_in 623 (by decide +kernel) (by decide +kernel)), by decide +kernel, by decide +kernel, by decide +kernel, by decide +kernel⟩
theorem kM_43 : pq_okM (5, ⟨"PursuitDesk$TurnSearch", "enterAllStarts", "()V"⟩, prog_7_method_4_code, 3, none) := ⟨(lw_in 673 (by decide +kernel) (by decide +kernel)), by decide +kernel, by decide +kernel, by decide +kernel, by decide +kernel⟩
theorem kM_44 : pq_okM (5, ⟨"PursuitDesk$TurnSearch", "enterStart", "(I)V"⟩, prog_7_method_5_code, 4, none) := ⟨(lw_in 680 (by decide +kernel) (by decide +kernel)), by decide +kernel, by decide +kernel, by decide +kernel, by decide +kernel⟩
theorem kM_45 : pq_okM (6, ⟨"PursuitDesk$MoveSearch", "<init>", "()V"⟩, prog_4_method_1_code, 1, none) := ⟨(lw_in 209 (by decide +kernel) (by decide +kernel)), by decide +kernel, by decide +kernel, by decide +kernel, by decide +kernel⟩
theorem kM_46 : pq_okM (6, ⟨"PursuitDesk$MoveSearch", "arrive", "(II)V"⟩, prog_4_method_4_code, 4, none) := ⟨(lw_in 600 (by decide +kernel) (by decide +kernel)), by decide +kernel, by decide +kernel, by decide +kernel, by decide +kernel⟩
theorem kM_47 : pq_okM (6, ⟨"PursuitDesk$MoveSearch", "fewestMoves", "(I)I"⟩, prog_4_method_2_code, 3, (some .int)) := ⟨(lw_in 642 (by decide +kernel) (by decide +kernel)), by decide +kernel, by decide +kernel, by decide +kernel, by decide +kernel⟩
theorem kM_48 : pq_okM (6, ⟨"PursuitDesk$MoveSearch", "expandAllAtPrice", "()Z"⟩, prog_4_method_3_code, 3, (some .boolean)) := ⟨(lw_in 650 (by decide +kernel) (by decide +kernel)), by decide +kernel, by decide +kernel, by decide +kernel, by decide +kernel⟩
theorem kM_49 : pq_okM (7, ⟨"PursuitDesk$State", "<init>", "()V"⟩, prog_6_method_1_code, 1, none) := ⟨(lw_in 60 (by decide +kernel) (by decide +kernel)), by decide +kernel, by decide +kernel, by decide +kernel, by decide +kernel⟩
theorem kM_50 : pq_okM (7, ⟨"PursuitDesk$State", "startAnew", "(I)V"⟩, prog_6_method_3_code, 2, none) := ⟨(lw_in 228 (by decide +kernel) (by decide +kernel)), by decide +kernel, by decide +kernel, by decide +kernel, by decide +kernel⟩
theorem kM_51 : pq_okM (7, ⟨"PursuitDesk$State", "forgetBeliefs", "()V"⟩, prog_6_method_4_code, 1, none) := ⟨(lw_in 238 (by decide +kernel) (by decide +kernel)), by decide +kernel, by decide +kernel, by decide +kernel, by decide +kernel⟩
theorem kM_52 : pq_okM (7, ⟨"PursuitDesk$State", "occupied", "()I"⟩, prog_6_method_7_code, 3, (some .int)) := ⟨(lw_in 242 (by decide +kernel) (by decide +kernel)), by decide +kernel, by decide +kernel, by decide +kernel, by decide +kernel⟩
theorem kM_53 : pq_okM (7, ⟨"PursuitDesk$State", "copyFrom", "(LPursuitDesk$State;)V"⟩, prog_6_method_2_code, 2, none) := ⟨(lw_in 293 (by decide +kernel) (by decide +kernel)), by decide +kernel, by decide +kernel, by decide +kernel, by decide +kernel⟩
theorem kM_54 : pq_okM (7, ⟨"PursuitDesk$State", "joins", "(II)Z"⟩, prog_6_method_5_code, 3, (some .boolean)) := ⟨(lw_in 318 (by decide +kernel) (by decide +kernel)), by decide +kernel, by decide +kernel, by decide +kernel, by decide +kernel⟩
theorem kM_55 : pq_okM (7, ⟨"PursuitDesk$State", "cut", "(II)V"⟩, prog_6_method_9_code, 4, none) := ⟨(lw_in 326 (by decide +kernel) (by decide +kernel)), by decide +kernel, by decide +kernel, by decide +kernel, by decide +kernel⟩
theorem kM_56 : pq_okM (7, ⟨"PursuitDesk$State", "replaceEdges", "(J)V"⟩, prog_6_method_10_code, 3, none) := ⟨(lw_in 349 (by decide +kernel) (by decide +kernel)), by decide +kernel, by decide +kernel, by decide +kernel, by decide +kernel⟩
theorem kM_57 : pq_okM (7, ⟨"PursuitDesk$State", "edges", "()I"⟩, prog_6_method_6_code, 1, (some .int)) := ⟨(lw_in 353 (by decide +kernel) (by decide +kernel)), by decide +kernel, by decide +kernel, by decide +kernel, by decide +kernel⟩
theorem kM_58 : pq_okM (7, ⟨"PursuitDesk$State", "addSearcher", "(I)V"⟩, prog_6_method_11_code, 2, none) := ⟨(lw_in 367 (by decide +kernel) (by decide +kernel)), by decide +kernel, by decide +kernel, by decide +kernel, by decide +kernel⟩
theorem kM_59 : pq_okM (7, ⟨"PursuitDesk$State", "makeTurn", "()V"⟩, prog_6_method_12_code, 3, none) := ⟨(lw_in 450 (by decide +kernel) (by decide +kernel)), by decide +kernel, by decide +kernel, by decide +kernel, by decide +kernel⟩
theorem kM_60 : pq_okM (7, ⟨"PursuitDesk$State", "freeWays", "([I)J"⟩, prog_6_method_8_code, 5, (some .long)) := ⟨(lw_in 454 (by decide +kernel) (by decide +kernel)), by decide +kernel, by decide +kernel, by decide +kernel, by decide +kernel⟩
theorem kM_61 : pq_okM (7, ⟨"PursuitDesk$State", "giveNews", "()V"⟩, prog_6_method_13_code, 2, none) := ⟨(lw_in 475 (by decide +kernel) (by decide +kernel)), by decide +kernel, by decide +kernel, by decide +kernel, by decide +kernel⟩
theorem kM_62 : pq_okM (8, ⟨"PursuitDesk", "<init>", "()V"⟩, prog_1_method_1_code, 2, none) := ⟨(lw_in 52 (by decide +kernel) (by decide +kernel)), by decide +kernel, by decide +kernel, by decide +kernel, by decide +kernel⟩
theorem kM_63 : pq_okM (8, ⟨"PursuitDesk", "reset", "(I)I"⟩, prog_1_method_2_code, 3, (some .int)) := ⟨(lw_in 281 (by decide +kernel) (by decide +kernel)), by decide +kernel, by decide +kernel, by decide +kernel, by decide +kernel⟩
theorem kM_64 : pq_okM (8, ⟨"PursuitDesk", "remember", "()V"⟩, prog_1_method_33_code, 1, none) := ⟨(lw_in 285 (by decide +kernel) (by decide +kernel)), by decide +kernel, by decide +kernel, by decide +kernel, by decide +kernel⟩
theorem kM_65 : pq_okM (8, ⟨"PursuitDesk", "dropOldest", "()V"⟩, prog_1_method_34_code, 3, none) := ⟨(lw_in 289 (by decide +kernel) (by decide +kernel)), by decide +kernel, by decide +kernel, by decide +kernel, by decide +kernel⟩
theorem kM_66 : pq_okM (8, ⟨"PursuitDesk", "link", "(III)I"⟩, prog_1_method_3_code, 5, (some .int)) := ⟨(lw_in 310 (by decide +kernel) (by decide +kernel)), by decide +kernel, by decide +kernel, by decide +kernel, by decide +kernel⟩
theorem kM_67 : pq_okM (8, ⟨"PursuitDesk", "isNode", "(I)Z"⟩, prog_1_method_31_code, 2, (some .boolean)) := ⟨(lw_in 314 (by decide +kernel) (by decide +kernel)), by decide +kernel, by decide +kernel, by decide +kernel, by decide +kernel⟩
theorem kM_68 : pq_okM (8, ⟨"PursuitDesk", "lay", "()I"⟩, prog_1_method_4_code, 1, (some .int)) := ⟨(lw_in 333 (by decide +kernel) (by decide +kernel)), by decide +kernel, by decide +kernel, by decide +kernel, by decide +kernel⟩
theorem kM_69 : pq_okM (8, ⟨"PursuitDesk", "fault", "()I"⟩, prog_1_method_30_code, 6, (some .int)) := ⟨(lw_in 337 (by decide +kernel) (by decide +kernel)), by decide +kernel, by decide +kernel, by decide +kernel, by decide +kernel⟩
theorem kM_70 : pq_okM (8, ⟨"PursuitDesk", "edgeAt", "(I)J"⟩, prog_1_method_37_code, 4, (some .long)) := ⟨(lw_in 341 (by decide +kernel) (by decide +kernel)), by decide +kernel, by decide +kernel, by decide +kernel, by decide +kernel⟩
theorem kM_71 : pq_okM (8, ⟨"PursuitDesk", "textEdges", "()J"⟩, prog_1_method_38_code, 4, (some .long)) := ⟨(lw_in 345 (by decide +kernel) (by decide +kernel)), by decide +kernel, by decide +kernel, by decide +kernel, by decide +kernel⟩
theorem kM_72 : pq_okM (8, ⟨"PursuitDesk", "put", "(I)I"⟩, prog_1_method_5_code, 2, (some .int)) := ⟨(lw_in 363 (by decide +kernel) (by decide +kernel)), by decide +kernel, by decide +kernel, by decide +kernel, by decide +kernel⟩
theorem kM_73 : pq_okM (8, ⟨"PursuitDesk", "leave", "()I"⟩, prog_1_method_6_code, 1, (some .int)) := ⟨(lw_in 388 (by decide +kernel) (by decide +kernel)), by decide +kernel, by decide +kernel, by decide +kernel, by decide +kernel⟩
theorem kM_74 : pq_okM (8, ⟨"PursuitDesk", "order", "(II)I"⟩, prog_1_method_7_code, 4, (some .int)) := ⟨(lw_in 392 (by decide +kernel) (by decide +kernel)), by decide +kernel, by decide +kernel, by decide +kernel, by decide +kernel⟩
theorem kM_75 : pq_okM (8, ⟨"PursuitDesk", "isSearcher", "(I)Z"⟩, prog_1_method_32_code, 2, (some .boolean)) := ⟨(lw_in 396 (by decide +kernel) (by decide +kernel)), by decide +kernel, by decide +kernel, by decide +kernel, by decide +kernel⟩
theorem kM_76 : pq_okM (8, ⟨"PursuitDesk", "release", "()I"⟩, prog_1_method_8_code, 1, (some .int)) := ⟨(lw_in 400 (by decide +kernel) (by decide +kernel)), by decide +kernel, by decide +kernel, by decide +kernel, by decide +kernel⟩
theorem kM_77 : pq_okM (8, ⟨"PursuitDesk", "belief", "()I"⟩, prog_1_method_9_code, 1, (some .int)) := ⟨(lw_in 405 (by decide +kernel) (by decide +kernel)), by decide +kernel, by decide +kernel, by decide +kernel, by decide +kernel⟩
theorem kM_78 : pq_okM (8, ⟨"PursuitDesk", "beliefAfter", "(I)I"⟩, prog_1_method_10_code, 2, (some .int)) := ⟨(lw_in 414 (by decide +kernel) (by decide +kernel)), by decide +kernel, by decide +kernel, by decide +kernel, by decide +kernel⟩
theorem kM_79 : pq_okM (8, ⟨"PursuitDesk", "tell", "(II)I"⟩, prog_1_method_11_code, 3, (some .int)) := ⟨(lw_in 422 (by decide +kernel) (by decide +kernel)), by decide +kernel, by decide +kernel, by decide +kernel, by decide +kernel⟩
theorem kM_80 : pq_okM (8, ⟨"PursuitDesk", "turn", "()I"⟩, prog_1_method_12_code, 1, (some .int)) := ⟨(lw_in 446 (by decide +kernel) (by decide +kernel)), by decide +kernel, by decide +kernel, by decide +kernel, by decide +kernel⟩
theorem kM_81 : pq_okM (8, ⟨"PursuitDesk", "undo", "()I"⟩, prog_1_method_13_code, 1, (some .int)) := ⟨(lw_in 485 (by decide +kernel) (by decide +kernel)), by decide +kernel, by decide +kernel, by decide +kernel, by decide +kernel⟩
theorem kM_82 : pq_okM (8, ⟨"PursuitDesk", "count", "(I)I"⟩, prog_1_method_14_code, 2, (some .int)) := ⟨(lw_in 489 (by decide +kernel) (by decide +kernel)), by decide +kernel, by decide +kernel, by decide +kernel, by decide +kernel⟩
theorem kM_83 : pq_okM (8, ⟨"PursuitDesk", "neighbours", "(I)I"⟩, prog_1_method_15_code, 2, (some .int)) := ⟨(lw_in 493 (by decide +kernel) (by decide +kernel)), by decide +kernel, by decide +kernel, by decide +kernel, by decide +kernel⟩
theorem kM_84 : pq_okM (8, ⟨"PursuitDesk", "searcher", "(II)I"⟩, prog_1_method_16_code, 3, (some .int)) := ⟨(lw_in 500 (by decide +kernel) (by decide +kernel)), by decide +kernel, by decide +kernel, by decide +kernel, by decide +kernel⟩
theorem kM_85 : pq_okM (8, ⟨"PursuitDesk", "hide", "(I)I"⟩, prog_1_method_17_code, 2, (some .int)) := ⟨(lw_in 504 (by decide +kernel) (by decide +kernel)), by decide +kernel, by decide +kernel, by decide +kernel, by decide +kernel⟩
theorem kM_86 : pq_okM (8, ⟨"PursuitDesk", "flee", "(I)I"⟩, prog_1_method_18_code, 3, (some .int)) := ⟨(lw_in 513 (by decide +kernel) (by decide +kernel)), by decide +kernel, by decide +kernel, by decide +kernel, by decide +kernel⟩
theorem kM_87 : pq_okM (8, ⟨"PursuitDesk", "setNews", "(II)I"⟩, prog_1_method_19_code, 4, (some .int)) := ⟨(lw_in 518 (by decide +kernel) (by decide +kernel)), by decide +kernel, by decide +kernel, by decide +kernel, by decide +kernel⟩
theorem kM_88 : pq_okM (8, ⟨"PursuitDesk", "evader", "(I)I"⟩, prog_1_method_20_code, 2, (some .int)) := ⟨(lw_in 522 (by decide +kernel) (by decide +kernel)), by decide +kernel, by decide +kernel, by decide +kernel, by decide +kernel⟩
theorem kM_89 : pq_okM (8, ⟨"PursuitDesk", "ahead", "()I"⟩, prog_1_method_21_code, 1, (some .int)) := ⟨(lw_in 530 (by decide +kernel) (by decide +kernel)), by decide +kernel, by decide +kernel, by decide +kernel, by decide +kernel⟩
theorem kM_90 : pq_okM (8, ⟨"PursuitDesk", "planTurns", "()I"⟩, prog_1_method_22_code, 1, (some .int)) := ⟨(lw_in 536 (by decide +kernel) (by decide +kernel)), by decide +kernel, by decide +kernel, by decide +kernel, by decide +kernel⟩
theorem kM_91 : pq_okM (8, ⟨"PursuitDesk", "knowPlan", "()V"⟩, prog_1_method_35_code, 1, none) := ⟨(lw_in 540 (by decide +kernel) (by decide +kernel)), by decide +kernel, by decide +kernel, by decide +kernel, by decide +kernel⟩
theorem kM_92 : pq_okM (8, ⟨"PursuitDesk", "planOrder", "(II)I"⟩, prog_1_method_23_code, 3, (some .int)) := ⟨(lw_in 619 (by decide +kernel) (by decide +kernel)), by decide +kernel, by decide +kernel, by decide +kernel, by decide +kernel⟩
theorem kM_93 : pq_okM (8, ⟨"PursuitDesk", "planMoves", "()I"⟩, prog_1_method_24_code, 1, (some .int)) := ⟨(lw_in 632 (by decide +kernel) (by decide +kernel)), by decide +kernel, by decide +kernel, by decide +kernel, by decide +kernel⟩
theorem kM_94 : pq_okM (8, ⟨"PursuitDesk", "settles", "()I"⟩, prog_1_method_25_code, 6, (some .int)) := ⟨(lw_in 661 (by decide +kernel) (by decide +kernel)), by decide +kernel, by decide +kernel, by decide +kernel, by decide +kernel⟩
theorem kM_95 : pq_okM (8, ⟨"PursuitDesk", "leastSearchers", "()I"⟩, prog_1_method_26_code, 2, (some .int)) := ⟨(lw_in 665 (by decide +kernel) (by decide +kernel)), by decide +kernel, by decide +kernel, by decide +kernel, by decide +kernel⟩
theorem kM_96 : pq_okM (8, ⟨"PursuitDesk", "turnsFromBestStart", "(I)I"⟩, prog_1_method_36_code, 2, (some .int)) := ⟨(lw_in 669 (by decide +kernel) (by decide +kernel)), by decide +kernel, by decide +kernel, by decide +kernel, by decide +kernel⟩
theorem kM_97 : pq_okM (8, ⟨"PursuitDesk", "bestTurns", "(I)I"⟩, prog_1_method_27_code, 2, (some .int)) := ⟨(lw_in 684 (by decide +kernel) (by decide +kernel)), by decide +kernel, by decide +kernel, by decide +kernel, by decide +kernel⟩
theorem kM_98 : pq_okM (8, ⟨"PursuitDesk", "type", "(I)I"⟩, prog_1_method_28_code, 2, (some .int)) := ⟨(lw_in 688 (by decide +kernel) (by decide +kernel)), by decide +kernel, by decide +kernel, by decide +kernel, by decide +kernel⟩
theorem kM_99 : pq_okM (8, ⟨"PursuitDesk", "clearText", "()I"⟩, prog_1_method_29_code, 2, (some .int)) := ⟨(lw_in 692 (by decide +kernel) (by decide +kernel)), by decide +kernel, by decide +kernel, by decide +kernel, by decide +kernel⟩
theorem kM_100 : pq_okM (9, ⟨"PursuitDeskModel", "<init>", "()V"⟩, prog_10_method_1_code, 1, none) := ⟨(lw_in 698 (by decide +kernel) (by decide +kernel)), by decide +kernel, by decide +kernel, by decide +kernel, by decide +kernel⟩
theorem kM_101 : pq_okM (9, ⟨"PursuitDeskModel", "begins", "()V"⟩, prog_10_method_7_code, 3, none) := ⟨(lw_in 704 (by decide +kernel) (by decide +kernel)), by decide +kernel, by decide +kernel, by decide +kernel, by decide +kernel⟩
theorem kM_102 : pq_okM (9, ⟨"PursuitDeskModel", "all", "()I"⟩, prog_10_method_5_code, 1, (some .int)) := ⟨(lw_in 708 (by decide +kernel) (by decide +kernel)), by decide +kernel, by decide +kernel, by decide +kernel, by decide +kernel⟩
theorem kM_103 : pq_okM (9, ⟨"PursuitDeskModel", "reset", "(I)I"⟩, prog_10_method_10_code, 4, (some .int)) := ⟨(lw_in 749 (by decide +kernel) (by decide +kernel)), by decide +kernel, by decide +kernel, by decide +kernel, by decide +kernel⟩
theorem kM_104 : pq_okM (9, ⟨"PursuitDeskModel", "in", "(III)Z"⟩, prog_10_method_2_code, 3, (some .boolean)) := ⟨(lw_in 752 (by decide +kernel) (by decide +kernel)), by decide +kernel, by decide +kernel, by decide +kernel, by decide +kernel⟩
theorem kM_105 : pq_okM (9, ⟨"PursuitDeskModel", "records", "()V"⟩, prog_10_method_8_code, 2, none) := ⟨(lw_in 756 (by decide +kernel) (by decide +kernel)), by decide +kernel, by decide +kernel, by decide +kernel, by decide +kernel⟩
theorem kM_106 : pq_okM (9, ⟨"PursuitDeskModel", "link", "(III)I"⟩, prog_10_method_12_code, 6, (some .int)) := ⟨(lw_in 760 (by decide +kernel) (by decide +kernel)), by decide +kernel, by decide +kernel, by decide +kernel, by decide +kernel⟩
theorem kM_107 : pq_okM (9, ⟨"PursuitDeskModel", "isNode", "(I)Z"⟩, prog_10_method_3_code, 2, (some .boolean)) := ⟨(lw_in 764 (by decide +kernel) (by decide +kernel)), by decide +kernel, by decide +kernel, by decide +kernel, by decide +kernel⟩
theorem kM_108 : pq_okM (9, ⟨"PursuitDeskModel", "joins", "(III)V"⟩, prog_10_method_11_code, 4, none) := ⟨(lw_in 768 (by decide +kernel) (by decide +kernel)), by decide +kernel, by decide +kernel, by decide +kernel, by decide +kernel⟩
theorem kM_109 : pq_okM (9, ⟨"PursuitDeskModel", "isWay", "(II)Z"⟩, prog_10_method_9_code, 3, (some .boolean)) := ⟨(lw_in 772 (by decide +kernel) (by decide +kernel)), by decide +kernel, by decide +kernel, by decide +kernel, by decide +kernel⟩
theorem kM_110 : pq_okM (9, ⟨"PursuitDeskModel", "put", "(I)I"⟩, prog_10_method_14_code, 3, (some .int)) := ⟨(lw_in 776 (by decide +kernel) (by decide +kernel)), by decide +kernel, by decide +kernel, by decide +kernel, by decide +kernel⟩
theorem kM_111 : pq_okM (9, ⟨"PursuitDeskModel", "last", "()I"⟩, prog_10_method_6_code, 1, (some .int)) := ⟨(lw_in 780 (by decide +kernel) (by decide +kernel)), by decide +kernel, by decide +kernel, by decide +kernel, by decide +kernel⟩
theorem kM_112 : pq_okM (9, ⟨"PursuitDeskModel", "leave", "()I"⟩, prog_10_method_15_code, 1, (some .int)) := ⟨(lw_in 784 (by decide +kernel) (by decide +kernel)), by decide +kernel, by decide +kernel, by decide +kernel, by decide +kernel⟩
theorem kM_113 : pq_okM (9, ⟨"PursuitDeskModel", "order", "(II)I"⟩, prog_10_method_16_code, 4, (some .int)) := ⟨(lw_in 788 (by decide +kernel) (by decide +kernel)), by decide +kernel, by decide +kernel, by decide +kernel, by decide +kernel⟩
theorem kM_114 : pq_okM (9, ⟨"PursuitDeskModel", "isSearcher", "(I)Z"⟩, prog_10_method_4_code, 2, (some .boolean)) := ⟨(lw_in 792 (by decide +kernel) (by decide +kernel)), by decide +kernel, by decide +kernel, by decide +kernel, by decide +kernel⟩
theorem kM_115 : pq_okM (9, ⟨"PursuitDeskModel", "release", "()I"⟩, prog_10_method_17_code, 1, (some .int)) := ⟨(lw_in 796 (by decide +kernel) (by decide +kernel)), by decide +kernel, by decide +kernel, by decide +kernel, by decide +kernel⟩
theorem kM_116 : pq_okM (9, ⟨"PursuitDeskModel", "belief", "()I"⟩, prog_10_method_18_code, 1, (some .int)) := ⟨(lw_in 800 (by decide +kernel) (by decide +kernel)), by decide +kernel, by decide +kernel, by decide +kernel, by decide +kernel⟩
theorem kM_117 : pq_okM (9, ⟨"PursuitDeskModel", "beliefAfter", "(I)I"⟩, prog_10_method_20_code, 3, (some .int)) := ⟨(lw_in 804 (by decide +kernel) (by decide +kernel)), by decide +kernel, by decide +kernel, by decide +kernel, by decide +kernel⟩
theorem kM_118 : pq_okM (9, ⟨"PursuitDeskModel", "keptAt", "(I)I"⟩, prog_10_method_19_code, 3, (some .int)) := ⟨(lw_in 808 (by decide +kernel) (by decide +kernel)), by decide +kernel, by decide +kernel, by decide +kernel, by decide +kernel⟩
theorem kM_119 : pq_okM (9, ⟨"PursuitDeskModel", "tell", "(II)I"⟩, prog_10_method_23_code, 4, (some .int)) := ⟨(lw_in 812 (by decide +kernel) (by decide +kernel)), by decide +kernel, by decide +kernel, by decide +kernel, by decide +kernel⟩
theorem kM_120 : pq_okM (9, ⟨"PursuitDeskModel", "news", "(II)V"⟩, prog_10_method_22_code, 5, none) := ⟨(lw_in 816 (by decide +kernel) (by decide +kernel)), by decide +kernel, by decide +kernel, by decide +kernel, by decide +kernel⟩
theorem kM_121 : pq_okM (9, ⟨"PursuitDeskModel", "step", "(II)I"⟩, prog_10_method_21_code, 8, (some .int)) := ⟨(lw_in 820 (by decide +kernel) (by decide +kernel)), by decide +kernel, by decide +kernel, by decide +kernel, by decide +kernel⟩
theorem kM_122 : pq_okM (9, ⟨"PursuitDeskModel", "turn", "()I"⟩, prog_10_method_27_code, 4, (some .int)) := ⟨(lw_in 825 (by decide +kernel) (by decide +kernel)), by decide +kernel, by decide +kernel, by decide +kernel, by decide +kernel⟩
theorem kM_123 : pq_okM (9, ⟨"PursuitDeskModel", "looks", "()V"⟩, prog_10_method_24_code, 2, none) := ⟨(lw_in 829 (by decide +kernel) (by decide +kernel)), by decide +kernel, by decide +kernel, by decide +kernel, by decide +kernel⟩
theorem kM_124 : pq_okM (9, ⟨"PursuitDeskModel", "flees", "()V"⟩, prog_10_method_25_code, 4, none) := ⟨(lw_in 833 (by decide +kernel) (by decide +kernel)), by decide +kernel, by decide +kernel, by decide +kernel, by decide +kernel⟩
theorem kM_125 : pq_okM (9, ⟨"PursuitDeskModel", "makesRoom", "()V"⟩, prog_10_method_26_code, 2, none) := ⟨(lw_in 837 (by decide +kernel) (by decide +kernel)), by decide +kernel, by decide +kernel, by decide +kernel, by decide +kernel⟩
theorem kM_126 : pq_okM (9, ⟨"PursuitDeskModel", "undo", "()I"⟩, prog_10_method_28_code, 2, (some .int)) := ⟨(lw_in 841 (by decide +kernel) (by decide +kernel)), by decide +kernel, by decide +kernel, by decide +kernel, by decide +kernel⟩
theorem kM_127 : pq_okM (9, ⟨"PursuitDeskModel", "count", "(I)I"⟩, prog_10_method_29_code, 2, (some .int)) := ⟨(lw_in 845 (by decide +kernel) (by decide +kernel)), by decide +kernel, by decide +kernel, by decide +kernel, by decide +kernel⟩
theorem kM_128 : pq_okM (9, ⟨"PursuitDeskModel", "edges", "()I"⟩, prog_10_method_13_code, 3, (some .int)) := ⟨(lw_in 849 (by decide +kernel) (by decide +kernel)), by decide +kernel, by decide +kernel, by decide +kernel, by decide +kernel⟩
theorem kM_129 : pq_okM (9, ⟨"PursuitDeskModel", "neighbours", "(I)I"⟩, prog_10_method_30_code, 2, (some .int)) := ⟨(lw_in 853 (by decide +kernel) (by decide +kernel)), by decide +kernel, by decide +kernel, by decide +kernel, by decide +kernel⟩
theorem kM_130 : pq_okM (9, ⟨"PursuitDeskModel", "searcher", "(II)I"⟩, prog_10_method_31_code, 3, (some .int)) := ⟨(lw_in 857 (by decide +kernel) (by decide +kernel)), by decide +kernel, by decide +kernel, by decide +kernel, by decide +kernel⟩
theorem kM_131 : pq_okM (9, ⟨"PursuitDeskModel", "hide", "(I)I"⟩, prog_10_method_32_code, 3, (some .int)) := ⟨(lw_in 861 (by decide +kernel) (by decide +kernel)), by decide +kernel, by decide +kernel, by decide +kernel, by decide +kernel⟩
theorem kM_132 : pq_okM (9, ⟨"PursuitDeskModel", "flee", "(I)I"⟩, prog_10_method_33_code, 3, (some .int)) := ⟨(lw_in 865 (by decide +kernel) (by decide +kernel)), by decide +kernel, by decide +kernel, by decide +kernel, by decide +kernel⟩
theorem kM_133 : pq_okM (9, ⟨"PursuitDeskModel", "setNews", "(II)I"⟩, prog_10_method_34_code, 4, (some .int)) := ⟨(lw_in 869 (by decide +kernel) (by decide +kernel)), by decide +kernel, by decide +kernel, by decide +kernel, by decide +kernel⟩
theorem kM_134 : pq_okM (9, ⟨"PursuitDeskModel", "evader", "(I)I"⟩, prog_10_method_35_code, 2, (some .int)) := ⟨(lw_in 873 (by decide +kernel) (by decide +kernel)), by decide +kernel, by decide +kernel, by decide +kernel, by decide +kernel⟩
theorem kM_135 : pq_okM (9, ⟨"PursuitDeskModel", "ahead", "()I"⟩, prog_10_method_36_code, 1, (some .int)) := ⟨(lw_in 877 (by decide +kernel) (by decide +kernel)), by decide +kernel, by decide +kernel, by decide +kernel, by decide +kernel⟩
theorem kM_136 : pq_okM (9, ⟨"PursuitDeskModel", "settles", "()I"⟩, prog_10_method_37_code, 4, (some .int)) := ⟨(lw_in 881 (by decide +kernel) (by decide +kernel)), by decide +kernel, by decide +kernel, by decide +kernel, by decide +kernel⟩
theorem kM_137 : pq_okM (9, ⟨"PursuitDeskModel", "planTurns", "()I"⟩, prog_10_method_45_code, 2, (some .int)) := ⟨(lw_in 885 (by decide +kernel) (by decide +kernel)), by decide +kernel, by decide +kernel, by decide +kernel, by decide +kernel⟩
theorem kM_138 : pq_okM (9, ⟨"PursuitDeskModel", "plan", "()I"⟩, prog_10_method_44_code, 1, (some .int)) := ⟨(lw_in 889 (by decide +kernel) (by decide +kernel)), by decide +kernel, by decide +kernel, by decide +kernel, by decide +kernel⟩
theorem kM_139 : pq_okM (9, ⟨"PursuitDeskModel", "clears", "()V"⟩, prog_10_method_39_code, 2, none) := ⟨(lw_in 893 (by decide +kernel) (by decide +kernel)), by decide +kernel, by decide +kernel, by decide +kernel, by decide +kernel⟩
theorem kM_140 : pq_okM (9, ⟨"PursuitDeskModel", "now", "()I"⟩, prog_10_method_43_code, 3, (some .int)) := ⟨(lw_in 897 (by decide +kernel) (by decide +kernel)), by decide +kernel, by decide +kernel, by decide +kernel, by decide +kernel⟩
theorem kM_141 : pq_okM (9, ⟨"PursuitDeskModel", "placed", "(III)I"⟩, prog_10_method_38_code, 3, (some .int)) := ⟨(lw_in 900 (by decide +kernel) (by decide +kernel)), by decide +kernel, by decide +kernel, by decide +kernel, by decide +kernel⟩
theorem kM_142 : pq_okM (9, ⟨"PursuitDeskModel", "searches", "(II)I"⟩, prog_10_method_42_code, 7, (some .int)) := ⟨(lw_in 904 (by decide +kernel) (by decide +kernel)), by decide +kernel, by decide +kernel, by decide +kernel, by decide +kernel⟩
theorem kM_143 : pq_okM (9, ⟨"PursuitDeskModel", "moves", "(I)I"⟩, prog_10_method_41_code, 1, (some .int)) := ⟨(lw_in 907 (by decide +kernel) (by decide +kernel)), by decide +kernel, by decide +kernel, by decide +kernel, by decide +kernel⟩
theorem kM_144 : pq_okM (9, ⟨"PursuitDeskModel", "moved", "(III)I"⟩, prog_10_method_40_code, 7, (some .int)) := ⟨(lw_in 911 (by decide +kernel) (by decide +kernel)), by decide +kernel, by decide +kernel, by decide +kernel, by decide +kernel⟩
theorem kM_145 : pq_okM (9, ⟨"PursuitDeskModel", "planOrder", "(II)I"⟩, prog_10_method_46_code, 4, (some .int)) := ⟨(lw_in 915 (by decide +kernel) (by decide +kernel)), by decide +kernel, by decide +kernel, by decide +kernel, by decide +kernel⟩
theorem kM_146 : pq_okM (9, ⟨"PursuitDeskModel", "planMoves", "()I"⟩, prog_10_method_48_code, 8, (some .int)) := ⟨(lw_in 919 (by decide +kernel) (by decide +kernel)), by decide +kernel, by decide +kernel, by decide +kernel, by decide +kernel⟩
theorem kM_147 : pq_okM (9, ⟨"PursuitDeskModel", "leaving", "(III)I"⟩, prog_10_method_47_code, 5, (some .int)) := ⟨(lw_in 922 (by decide +kernel) (by decide +kernel)), by decide +kernel, by decide +kernel, by decide +kernel, by decide +kernel⟩
theorem kM_148 : pq_okM (9, ⟨"PursuitDeskModel", "leastSearchers", "()I"⟩, prog_10_method_50_code, 2, (some .int)) := ⟨(lw_in 926 (by decide +kernel) (by decide +kernel)), by decide +kernel, by decide +kernel, by decide +kernel, by decide +kernel⟩
theorem kM_149 : pq_okM (9, ⟨"PursuitDeskModel", "turnsOf", "(I)I"⟩, prog_10_method_49_code, 9, (some .int)) := ⟨(lw_in 930 (by decide +kernel) (by decide +kernel)), by decide +kernel, by decide +kernel, by decide +kernel, by decide +kernel⟩
theorem kM_150 : pq_okM (9, ⟨"PursuitDeskModel", "bestTurns", "(I)I"⟩, prog_10_method_51_code, 3, (some .int)) := ⟨(lw_in 934 (by decide +kernel) (by decide +kernel)), by decide +kernel, by decide +kernel, by decide +kernel, by decide +kernel⟩
theorem kM_151 : pq_okM (9, ⟨"PursuitDeskModel", "type", "(I)I"⟩, prog_10_method_52_code, 2, (some .int)) := ⟨(lw_in 938 (by decide +kernel) (by decide +kernel)), by decide +kernel, by decide +kernel, by decide +kernel, by decide +kernel⟩
theorem kM_152 : pq_okM (9, ⟨"PursuitDeskModel", "clearText", "()I"⟩, prog_10_method_53_code, 2, (some .int)) := ⟨(lw_in 942 (by decide +kernel) (by decide +kernel)), by decide +kernel, by decide +kernel, by decide +kernel, by decide +kernel⟩
theorem kM_153 : pq_okM (9, ⟨"PursuitDeskModel", "fault", "()I"⟩, prog_10_method_55_code, 5, (some .int)) := ⟨(lw_in 946 (by decide +kernel) (by decide +kernel)), by decide +kernel, by decide +kernel, by decide +kernel, by decide +kernel⟩
theorem kM_154 : pq_okM (9, ⟨"PursuitDeskModel", "letter", "(I)I"⟩, prog_10_method_54_code, 2, (some .int)) := ⟨(lw_in 950 (by decide +kernel) (by decide +kernel)), by decide +kernel, by decide +kernel, by decide +kernel, by decide +kernel⟩
theorem kM_155 : pq_okM (9, ⟨"PursuitDeskModel", "lay", "()I"⟩, prog_10_method_56_code, 2, (some .int)) := ⟨(lw_in 954 (by decide +kernel) (by decide +kernel)), by decide +kernel, by decide +kernel, by decide +kernel, by decide +kernel⟩
theorem kF_2_9 : ∀ q ∈ ([(0, 0)] : List (Nat × Nat)), pq_okF "PursuitDesk$Beliefs" 9 q.1 q.2 := pq_ac ⟨_, rfl, by decide, "PursuitDesk$Beliefs", (lw_in 68 (by decide +kernel) (by decide +kernel)), Or.inl rfl⟩ (pq_an)
theorem kF_2_13 : ∀ q ∈ ([(0, 1)] : List (Nat × Nat)), pq_okF "PursuitDesk$Beliefs" 13 q.1 q.2 := pq_ac ⟨_, rfl, by decide, "PursuitDesk$Beliefs", (lw_in 69 (by decide +kernel) (by decide +kernel)), Or.inl rfl⟩ (pq_an)
theorem kF_2_23 : ∀ q ∈ ([(0, 2)] : List (Nat × Nat)), pq_okF "PursuitDesk$Beliefs" 23 q.1 q.2 := pq_ac ⟨_, rfl, by decide, "PursuitDesk$Beliefs", (lw_in 70 (by decide +kernel) (by decide +kernel)), Or.inl rfl⟩ (pq_an)
theorem kF_2_27 : ∀ q ∈ ([(0, 3)] : List (Nat × Nat)), pq_okF "PursuitDesk$Beliefs" 27 q.1 q.2 := pq_ac ⟨_, rfl, by decide, "PursuitDesk$Beliefs", (lw_in 71 (by decide +kernel) (by decide +kernel)), Or.inl rfl⟩ (pq_an)
theorem kF_3_9 : ∀ q ∈ ([(1, 6)] : List (Nat × Nat)), pq_okF "PursuitDesk$Evader" 9 q.1 q.2 := pq_ac ⟨_, rfl, by decide, "PursuitDesk$Evader", (lw_in 103 (by decide +kernel) (by decide +kernel)), Or.inl rfl⟩ (pq_an)
theorem kF_3_15 : ∀ q ∈ ([(1, 0)] : List (Nat × Nat)), pq_okF "PursuitDesk$Evader" 15 q.1 q.2 := pq_ac ⟨_, rfl, by decide, "PursuitDesk$Evader", (lw_in 90 (by decide +kernel) (by decide +kernel)), Or.inl rfl⟩ (pq_an)
theorem kF_3_19 : ∀ q ∈ ([(1, 1)] : List (Nat × Nat)), pq_okF "PursuitDesk$Evader" 19 q.1 q.2 := pq_ac ⟨_, rfl, by decide, "PursuitDesk$Evader", (lw_in 93 (by decide +kernel) (by decide +kernel)), Or.inl rfl⟩ (pq_an)
theorem kF_3_23 : ∀ q ∈ ([(1, 2)] : List (Nat × Nat)), pq_okF "PursuitDesk$Evader" 23 q.1 q.2 := pq_ac ⟨_, rfl, by decide, "PursuitDesk$Evader", (lw_in 96 (by decide +kernel) (by decide +kernel)), Or.inl rfl⟩ (pq_an)
theorem kF_3_26 : ∀ q ∈ ([(1, 3)] : List (Nat × Nat)), pq_okF "PursuitDesk$Evader" 26 q.1 q.2 := pq_ac ⟨_, rfl, by decide, "PursuitDesk$Evader", (lw_in 99 (by decide +kernel) (by decide +kernel)), Or.inl rfl⟩ (pq_an)
theorem kF_3_29 : ∀ q ∈ ([(1, 4)] : List (Nat × Nat)), pq_okF "PursuitDesk$Evader" 29 q.1 q.2 := pq_ac ⟨_, rfl, by decide, "PursuitDesk$Evader", (lw_in 100 (by decide +kernel) (by decide +kernel)), Or.inl rfl⟩ (pq_an)
theorem kF_3_32 : ∀ q ∈ ([(1, 5)] : List (Nat × Nat)), pq_okF "PursuitDesk$Evader" 32 q.1 q.2 := pq_ac ⟨_, rfl, by decide, "PursuitDesk$Evader", (lw_in 101 (by decide +kernel) (by decide +kernel)), Or.inl rfl⟩ (pq_an)
theorem kF_4_11 : ∀ q ∈ ([(2, 3), (4, 3)] : List (Nat × Nat)), pq_okF "PursuitDesk$Search" 11 q.1 q.2 := pq_ac ⟨_, rfl, by decide, "PursuitDesk$Search", (lw_in 182 (by decide +kernel) (by decide +kernel)), Or.inl rfl⟩ (pq_ac ⟨_, rfl, by decide, "PursuitDesk$Search", (lw_in 182 (by decide +kernel) (by decide +kernel)), Or.inl rfl⟩ (pq_an))
theorem kF_4_15 : ∀ q ∈ ([(2, 0), (4, 0)] : List (Nat × Nat)), pq_okF "PursuitDesk$Search" 15 q.1 q.2 := pq_ac ⟨_, rfl, by decide, "PursuitDesk$Search", (lw_in 175 (by decide +kernel) (by decide +kernel)), Or.inl rfl⟩ (pq_ac ⟨_, rfl, by decide, "PursuitDesk$Search", (lw_in 175 (by decide +kernel) (by decide +kernel)), Or.inl rfl⟩ (pq_an))
theorem kF_4_19 : ∀ q ∈ ([(2, 1), (4, 1)] : List (Nat × Nat)), pq_okF "PursuitDesk$Search" 19 q.1 q.2 := pq_ac ⟨_, rfl, by decide, "PursuitDesk$Search", (lw_in 178 (by decide +kernel) (by decide +kernel)), Or.inl rfl⟩ (pq_ac ⟨_, rfl, by decide, "PursuitDesk$Search", (lw_in 178 (by decide +kernel) (by decide +kernel)), Or.inl rfl⟩ (pq_an))
theorem kF_4_23 : ∀ q ∈ ([(2, 2), (4, 2)] : List (Nat × Nat)), pq_okF "PursuitDesk$Search" 23 q.1 q.2 := pq_ac ⟨_, rfl, by decide, "PursuitDesk$Search", (lw_in 179 (by decide +kernel) (by decide +kernel)), Or.inl rfl⟩ (pq_ac ⟨_, rfl, by decide, "PursuitDesk$Search", (lw_in 179 (by decide +kernel) (by decide +kernel)), Or.inl rfl⟩ (pq_an))
theorem kF_5_9 : ∀ q ∈ ([(4, 4)] : List (Nat × Nat)), pq_okF "PursuitDesk$TurnSearch" 9 q.1 q.2 := pq_ac ⟨_, rfl, by decide, "PursuitDesk$TurnSearch", (lw_in 170 (by decide +kernel) (by decide +kernel)), Or.inl rfl⟩ (pq_an)
theorem kF_5_15 : ∀ q ∈ ([(4, 5)] : List (Nat × Nat)), pq_okF "PursuitDesk$TurnSearch" 15 q.1 q.2 := pq_ac ⟨_, rfl, by decide, "PursuitDesk$TurnSearch", (lw_in 171 (by decide +kernel) (by decide +kernel)), Or.inl rfl⟩ (pq_an)
theorem kF_5_22 : ∀ q ∈ ([(4, 6)] : List (Nat × Nat)), pq_okF "PursuitDesk$TurnSearch" 22 q.1 q.2 := pq_ac ⟨_, rfl, by decide, "PursuitDesk$TurnSearch", (lw_in 172 (by decide +kernel) (by decide +kernel)), Or.inl rfl⟩ (pq_an)
theorem kF_5_26 : ∀ q ∈ ([(4, 8)] : List (Nat × Nat)), pq_okF "PursuitDesk$TurnSearch" 26 q.1 q.2 := pq_ac ⟨_, rfl, by decide, "PursuitDesk$TurnSearch", (lw_in 174 (by decide +kernel) (by decide +kernel)), Or.inl rfl⟩ (pq_an)
theorem kF_5_53 : ∀ q ∈ ([(4, 7)] : List (Nat × Nat)), pq_okF "PursuitDesk$TurnSearch" 53 q.1 q.2 := pq_ac ⟨_, rfl, by decide, "PursuitDesk$TurnSearch", (lw_in 173 (by decide +kernel) (by decide +kernel)), Or.inl rfl⟩ (pq_an)
theorem kF_5_46 : ∀ q ∈ ([(4, 3)] : List (Nat × Nat)), pq_okF "PursuitDesk$TurnSearch" 46 q.1 q.2 := pq_ac ⟨_, rfl, by decide, "PursuitDesk$TurnSearch", (lw_in 183 (by decide +kernel) (by decide +kernel)), Or.inr (lw_in 184 (by decide +kernel) (by decide +kernel))⟩ (pq_an)
theorem kF_5_40 : ∀ q ∈ ([(4, 0)] : List (Nat × Nat)), pq_okF "PursuitDesk$TurnSearch" 40 q.1 q.2 := pq_ac ⟨_, rfl, by decide, "PursuitDesk$TurnSearch", (lw_in 176 (by decide +kernel) (by decide +kernel)), Or.inr (lw_in 177 (by decide +kernel) (by decide +kernel))⟩ (pq_an)
theorem kF_5_43 : ∀ q ∈ ([(4, 2)] : List (Nat × Nat)), pq_okF "PursuitDesk$TurnSearch" 43 q.1 q.2 := pq_ac ⟨_, rfl, by decide, "PursuitDesk$TurnSearch", (lw_in 180 (by decide +kernel) (by decide +kernel)), Or.inr (lw_in 181 (by decide +kernel) (by decide +kernel))⟩ (pq_an)
theorem kF_6_9 : ∀ q ∈ ([(2, 4)] : List (Nat × Nat)), pq_okF "PursuitDesk$MoveSearch" 9 q.1 q.2 := pq_ac ⟨_, rfl, by decide, "PursuitDesk$MoveSearch", (lw_in 211 (by decide +kernel) (by decide +kernel)), Or.inl rfl⟩ (pq_an)
theorem kF_6_24 : ∀ q ∈ ([(2, 5)] : List (Nat × Nat)), pq_okF "PursuitDesk$MoveSearch" 24 q.1 q.2 := pq_ac ⟨_, rfl, by decide, "PursuitDesk$MoveSearch", (lw_in 212 (by decide +kernel) (by decide +kernel)), Or.inl rfl⟩ (pq_an)
theorem kF_6_19 : ∀ q ∈ ([(2, 6)] : List (Nat × Nat)), pq_okF "PursuitDesk$MoveSearch" 19 q.1 q.2 := pq_ac ⟨_, rfl, by decide, "PursuitDesk$MoveSearch", (lw_in 213 (by decide +kernel) (by decide +kernel)), Or.inl rfl⟩ (pq_an)
theorem kF_7_9 : ∀ q ∈ ([(3, 3)] : List (Nat × Nat)), pq_okF "PursuitDesk$State" 9 q.1 q.2 := pq_ac ⟨_, rfl, by decide, "PursuitDesk$State", (lw_in 125 (by decide +kernel) (by decide +kernel)), Or.inl rfl⟩ (pq_an)
theorem kF_7_15 : ∀ q ∈ ([(3, 4)] : List (Nat × Nat)), pq_okF "PursuitDesk$State" 15 q.1 q.2 := pq_ac ⟨_, rfl, by decide, "PursuitDesk$State", (lw_in 127 (by decide +kernel) (by decide +kernel)), Or.inl rfl⟩ (pq_an)
theorem kF_7_21 : ∀ q ∈ ([(3, 8)] : List (Nat × Nat)), pq_okF "PursuitDesk$State" 21 q.1 q.2 := pq_ac ⟨_, rfl, by decide, "PursuitDesk$State", (lw_in 135 (by decide +kernel) (by decide +kernel)), Or.inl rfl⟩ (pq_an)
theorem kF_7_28 : ∀ q ∈ ([(3, 9)] : List (Nat × Nat)), pq_okF "PursuitDesk$State" 28 q.1 q.2 := pq_ac ⟨_, rfl, by decide, "PursuitDesk$State", (lw_in 137 (by decide +kernel) (by decide +kernel)), Or.inl rfl⟩ (pq_an)
theorem kF_7_32 : ∀ q ∈ ([(3, 0)] : List (Nat × Nat)), pq_okF "PursuitDesk$State" 32 q.1 q.2 := pq_ac ⟨_, rfl, by decide, "PursuitDesk$State", (lw_in 119 (by decide +kernel) (by decide +kernel)), Or.inl rfl⟩ (pq_an)
theorem kF_7_36 : ∀ q ∈ ([(3, 1)] : List (Nat × Nat)), pq_okF "PursuitDesk$State" 36 q.1 q.2 := pq_ac ⟨_, rfl, by decide, "PursuitDesk$State", (lw_in 121 (by decide +kernel) (by decide +kernel)), Or.inl rfl⟩ (pq_an)
theorem kF_7_40 : ∀ q ∈ ([(3, 2)] : List (Nat × Nat)), pq_okF "PursuitDesk$State" 40 q.1 q.2 := pq_ac ⟨_, rfl, by decide, "PursuitDesk$State", (lw_in 123 (by decide +kernel) (by decide +kernel)), Or.inl rfl⟩ (pq_an)
theorem kF_7_49 : ∀ q ∈ ([(3, 5)] : List (Nat × Nat)), pq_okF "PursuitDesk$State" 49 q.1 q.2 := pq_ac ⟨_, rfl, by decide, "PursuitDesk$State", (lw_in 129 (by decide +kernel) (by decide +kernel)), Or.inl rfl⟩ (pq_an)
theorem kF_7_71 : ∀ q ∈ ([(1, 0)] : List (Nat × Nat)), pq_okF "PursuitDesk$State" 71 q.1 q.2 := pq_ac ⟨_, rfl, by decide, "PursuitDesk$Evader", (lw_in 91 (by decide +kernel) (by decide +kernel)), Or.inl rfl⟩ (pq_an)
theorem kF_7_52 : ∀ q ∈ ([(3, 6)] : List (Nat × Nat)), pq_okF "PursuitDesk$State" 52 q.1 q.2 := pq_ac ⟨_, rfl, by decide, "PursuitDesk$State", (lw_in 131 (by decide +kernel) (by decide +kernel)), Or.inl rfl⟩ (pq_an)
theorem kF_7_55 : ∀ q ∈ ([(3, 7)] : List (Nat × Nat)), pq_okF "PursuitDesk$State" 55 q.1 q.2 := pq_ac ⟨_, rfl, by decide, "PursuitDesk$State", (lw_in 133 (by decide +kernel) (by decide +kernel)), Or.inl rfl⟩ (pq_an)
theorem kF_7_108 : ∀ q ∈ ([(1, 1)] : List (Nat × Nat)), pq_okF "PursuitDesk$State" 108 q.1 q.2 := pq_ac ⟨_, rfl, by decide, "PursuitDesk$Evader", (lw_in 94 (by decide +kernel) (by decide +kernel)), Or.inl rfl⟩ (pq_an)
theorem kF_7_111 : ∀ q ∈ ([(1, 2)] : List (Nat × Nat)), pq_okF "PursuitDesk$State" 111 q.1 q.2 := pq_ac ⟨_, rfl, by decide, "PursuitDesk$Evader", (lw_in 97 (by decide +kernel) (by decide +kernel)), Or.inl rfl⟩ (pq_an)
theorem kF_7_140 : ∀ q ∈ ([(1, 5)] : List (Nat × Nat)), pq_okF "PursuitDesk$State" 140 q.1 q.2 := pq_ac ⟨_, rfl, by decide, "PursuitDesk$Evader", (lw_in 102 (by decide +kernel) (by decide +kernel)), Or.inl rfl⟩ (pq_an)
theorem kF_8_10 : ∀ q ∈ ([(5, 0)] : List (Nat × Nat)), pq_okF "PursuitDesk" 10 q.1 q.2 := pq_ac ⟨_, rfl, by decide, "PursuitDesk", (lw_in 250 (by decide +kernel) (by decide +kernel)), Or.inl rfl⟩ (pq_an)
theorem kF_8_16 : ∀ q ∈ ([(5, 1)] : List (Nat × Nat)), pq_okF "PursuitDesk" 16 q.1 q.2 := pq_ac ⟨_, rfl, by decide, "PursuitDesk", (lw_in 251 (by decide +kernel) (by decide +kernel)), Or.inl rfl⟩ (pq_an)
theorem kF_8_20 : ∀ q ∈ ([(5, 3)] : List (Nat × Nat)), pq_okF "PursuitDesk" 20 q.1 q.2 := pq_ac ⟨_, rfl, by decide, "PursuitDesk", (lw_in 253 (by decide +kernel) (by decide +kernel)), Or.inl rfl⟩ (pq_an)
theorem kF_8_27 : ∀ q ∈ ([(5, 5)] : List (Nat × Nat)), pq_okF "PursuitDesk" 27 q.1 q.2 := pq_ac ⟨_, rfl, by decide, "PursuitDesk", (lw_in 255 (by decide +kernel) (by decide +kernel)), Or.inl rfl⟩ (pq_an)
theorem kF_8_31 : ∀ q ∈ ([(5, 7)] : List (Nat × Nat)), pq_okF "PursuitDesk" 31 q.1 q.2 := pq_ac ⟨_, rfl, by decide, "PursuitDesk", (lw_in 257 (by decide +kernel) (by decide +kernel)), Or.inl rfl⟩ (pq_an)
theorem kF_8_37 : ∀ q ∈ ([(5, 8)] : List (Nat × Nat)), pq_okF "PursuitDesk" 37 q.1 q.2 := pq_ac ⟨_, rfl, by decide, "PursuitDesk", (lw_in 258 (by decide +kernel) (by decide +kernel)), Or.inl rfl⟩ (pq_an)
theorem kF_8_48 : ∀ q ∈ ([(3, 0)] : List (Nat × Nat)), pq_okF "PursuitDesk" 48 q.1 q.2 := pq_ac ⟨_, rfl, by decide, "PursuitDesk$State", (lw_in 120 (by decide +kernel) (by decide +kernel)), Or.inl rfl⟩ (pq_an)
theorem kF_8_139 : ∀ q ∈ ([(5, 2)] : List (Nat × Nat)), pq_okF "PursuitDesk" 139 q.1 q.2 := pq_ac ⟨_, rfl, by decide, "PursuitDesk", (lw_in 252 (by decide +kernel) (by decide +kernel)), Or.inl rfl⟩ (pq_an)
theorem kF_8_146 : ∀ q ∈ ([(5, 6)] : List (Nat × Nat)), pq_okF "PursuitDesk" 146 q.1 q.2 := pq_ac ⟨_, rfl, by decide, "PursuitDesk", (lw_in 256 (by decide +kernel) (by decide +kernel)), Or.inl rfl⟩ (pq_an)
theorem kF_8_60 : ∀ q ∈ ([(3, 1)] : List (Nat × Nat)), pq_okF "PursuitDesk" 60 q.1 q.2 := pq_ac ⟨_, rfl, by decide, "PursuitDesk$State", (lw_in 122 (by decide +kernel) (by decide +kernel)), Or.inl rfl⟩ (pq_an)
theorem kF_8_221 : ∀ q ∈ ([(5, 4)] : List (Nat × Nat)), pq_okF "PursuitDesk" 221 q.1 q.2 := pq_ac ⟨_, rfl, by decide, "PursuitDesk", (lw_in 254 (by decide +kernel) (by decide +kernel)), Or.inl rfl⟩ (pq_an)
theorem kF_8_89 : ∀ q ∈ ([(3, 2)] : List (Nat × Nat)), pq_okF "PursuitDesk" 89 q.1 q.2 := pq_ac ⟨_, rfl, by decide, "PursuitDesk$State", (lw_in 124 (by decide +kernel) (by decide +kernel)), Or.inl rfl⟩ (pq_an)
theorem kF_8_98 : ∀ q ∈ ([(3, 3)] : List (Nat × Nat)), pq_okF "PursuitDesk" 98 q.1 q.2 := pq_ac ⟨_, rfl, by decide, "PursuitDesk$State", (lw_in 126 (by decide +kernel) (by decide +kernel)), Or.inl rfl⟩ (pq_an)
theorem kF_8_102 : ∀ q ∈ ([(3, 4)] : List (Nat × Nat)), pq_okF "PursuitDesk" 102 q.1 q.2 := pq_ac ⟨_, rfl, by decide, "PursuitDesk$State", (lw_in 128 (by decide +kernel) (by decide +kernel)), Or.inl rfl⟩ (pq_an)
theorem kF_8_111 : ∀ q ∈ ([(3, 8)] : List (Nat × Nat)), pq_okF "PursuitDesk" 111 q.1 q.2 := pq_ac ⟨_, rfl, by decide, "PursuitDesk$State", (lw_in 136 (by decide +kernel) (by decide +kernel)), Or.inl rfl⟩ (pq_an)
theorem kF_8_115 : ∀ q ∈ ([(3, 5)] : List (Nat × Nat)), pq_okF "PursuitDesk" 115 q.1 q.2 := pq_ac ⟨_, rfl, by decide, "PursuitDesk$State", (lw_in 130 (by decide +kernel) (by decide +kernel)), Or.inl rfl⟩ (pq_an)
theorem kF_8_150 : ∀ q ∈ ([(0, 3)] : List (Nat × Nat)), pq_okF "PursuitDesk" 150 q.1 q.2 := pq_ac ⟨_, rfl, by decide, "PursuitDesk$Beliefs", (lw_in 72 (by decide +kernel) (by decide +kernel)), Or.inl rfl⟩ (pq_an)
theorem kF_8_153 : ∀ q ∈ ([(3, 6)] : List (Nat × Nat)), pq_okF "PursuitDesk" 153 q.1 q.2 := pq_ac ⟨_, rfl, by decide, "PursuitDesk$State", (lw_in 132 (by decide +kernel) (by decide +kernel)), Or.inl rfl⟩ (pq_an)
theorem kF_8_156 : ∀ q ∈ ([(3, 7)] : List (Nat × Nat)), pq_okF "PursuitDesk" 156 q.1 q.2 := pq_ac ⟨_, rfl, by decide, "PursuitDesk$State", (lw_in 134 (by decide +kernel) (by decide +kernel)), Or.inl rfl⟩ (pq_an)
theorem kF_8_166 : ∀ q ∈ ([(3, 9)] : List (Nat × Nat)), pq_okF "PursuitDesk" 166 q.1 q.2 := pq_ac ⟨_, rfl, by decide, "PursuitDesk$State", (lw_in 138 (by decide +kernel) (by decide +kernel)), Or.inl rfl⟩ (pq_an)
theorem kF_8_179 : ∀ q ∈ ([(1, 1)] : List (Nat × Nat)), pq_okF "PursuitDesk" 179 q.1 q.2 := pq_ac ⟨_, rfl, by decide, "PursuitDesk$Evader", (lw_in 95 (by decide +kernel) (by decide +kernel)), Or.inl rfl⟩ (pq_an)
theorem kF_8_182 : ∀ q ∈ ([(1, 2)] : List (Nat × Nat)), pq_okF "PursuitDesk" 182 q.1 q.2 := pq_ac ⟨_, rfl, by decide, "PursuitDesk$Evader", (lw_in 98 (by decide +kernel) (by decide +kernel)), Or.inl rfl⟩ (pq_an)
theorem kF_8_184 : ∀ q ∈ ([(1, 0)] : List (Nat × Nat)), pq_okF "PursuitDesk" 184 q.1 q.2 := pq_ac ⟨_, rfl, by decide, "PursuitDesk$Evader", (lw_in 92 (by decide +kernel) (by decide +kernel)), Or.inl rfl⟩ (pq_an)
theorem kF_9_7 : ∀ q ∈ ([(6, 0)] : List (Nat × Nat)), pq_okF "PursuitDeskModel" 7 q.1 q.2 := pq_ac ⟨_, rfl, by decide, "PursuitDeskModel", (lw_in 709 (by decide +kernel) (by decide +kernel)), Or.inl rfl⟩ (pq_an)
theorem kF_9_13 : ∀ q ∈ ([(6, 1)] : List (Nat × Nat)), pq_okF "PursuitDeskModel" 13 q.1 q.2 := pq_ac ⟨_, rfl, by decide, "PursuitDeskModel", (lw_in 710 (by decide +kernel) (by decide +kernel)), Or.inl rfl⟩ (pq_an)
theorem kF_9_16 : ∀ q ∈ ([(6, 3)] : List (Nat × Nat)), pq_okF "PursuitDeskModel" 16 q.1 q.2 := pq_ac ⟨_, rfl, by decide, "PursuitDeskModel", (lw_in 712 (by decide +kernel) (by decide +kernel)), Or.inl rfl⟩ (pq_an)
theorem kF_9_20 : ∀ q ∈ ([(6, 5)] : List (Nat × Nat)), pq_okF "PursuitDeskModel" 20 q.1 q.2 := pq_ac ⟨_, rfl, by decide, "PursuitDeskModel", (lw_in 714 (by decide +kernel) (by decide +kernel)), Or.inl rfl⟩ (pq_an)
theorem kF_9_23 : ∀ q ∈ ([(6, 6)] : List (Nat × Nat)), pq_okF "PursuitDeskModel" 23 q.1 q.2 := pq_ac ⟨_, rfl, by decide, "PursuitDeskModel", (lw_in 715 (by decide +kernel) (by decide +kernel)), Or.inl rfl⟩ (pq_an)
theorem kF_9_26 : ∀ q ∈ ([(6, 7)] : List (Nat × Nat)), pq_okF "PursuitDeskModel" 26 q.1 q.2 := pq_ac ⟨_, rfl, by decide, "PursuitDeskModel", (lw_in 716 (by decide +kernel) (by decide +kernel)), Or.inl rfl⟩ (pq_an)
theorem kF_9_30 : ∀ q ∈ ([(6, 8)] : List (Nat × Nat)), pq_okF "PursuitDeskModel" 30 q.1 q.2 := pq_ac ⟨_, rfl, by decide, "PursuitDeskModel", (lw_in 717 (by decide +kernel) (by decide +kernel)), Or.inl rfl⟩ (pq_an)
theorem kF_9_33 : ∀ q ∈ ([(6, 9)] : List (Nat × Nat)), pq_okF "PursuitDeskModel" 33 q.1 q.2 := pq_ac ⟨_, rfl, by decide, "PursuitDeskModel", (lw_in 718 (by decide +kernel) (by decide +kernel)), Or.inl rfl⟩ (pq_an)
theorem kF_9_36 : ∀ q ∈ ([(6, 10)] : List (Nat × Nat)), pq_okF "PursuitDeskModel" 36 q.1 q.2 := pq_ac ⟨_, rfl, by decide, "PursuitDeskModel", (lw_in 719 (by decide +kernel) (by decide +kernel)), Or.inl rfl⟩ (pq_an)
theorem kF_9_39 : ∀ q ∈ ([(6, 11)] : List (Nat × Nat)), pq_okF "PursuitDeskModel" 39 q.1 q.2 := pq_ac ⟨_, rfl, by decide, "PursuitDeskModel", (lw_in 720 (by decide +kernel) (by decide +kernel)), Or.inl rfl⟩ (pq_an)
theorem kF_9_53 : ∀ q ∈ ([(6, 2)] : List (Nat × Nat)), pq_okF "PursuitDeskModel" 53 q.1 q.2 := pq_ac ⟨_, rfl, by decide, "PursuitDeskModel", (lw_in 711 (by decide +kernel) (by decide +kernel)), Or.inl rfl⟩ (pq_an)
theorem kF_9_133 : ∀ q ∈ ([(6, 4)] : List (Nat × Nat)), pq_okF "PursuitDeskModel" 133 q.1 q.2 := pq_ac ⟨_, rfl, by decide, "PursuitDeskModel", (lw_in 713 (by decide +kernel) (by decide +kernel)), Or.inl rfl⟩ (pq_an)
theorem kQ_2_9i : ∀ q ∈ ([(0, 0)] : List (Nat × Nat)), pq_okQ "PursuitDesk$Beliefs" true 9 q.1 q.2 := pq_ac ⟨kF_2_9 _ (List.mem_of_getElem? (i := 0) rfl), _, rfl, Or.inr ⟨rfl, rfl, rfl⟩⟩ (pq_an)
theorem kQ_2_13i : ∀ q ∈ ([(0, 1)] : List (Nat × Nat)), pq_okQ "PursuitDesk$Beliefs" true 13 q.1 q.2 := pq_ac ⟨kF_2_13 _ (List.mem_of_getElem? (i := 0) rfl), _, rfl, Or.inr ⟨rfl, rfl, rfl⟩⟩ (pq_an)
theorem kQ_2_23 : ∀ q ∈ ([(0, 2)] : List (Nat × Nat)), pq_okQ "PursuitDesk$Beliefs" false 23 q.1 q.2 := pq_ac ⟨kF_2_23 _ (List.mem_of_getElem? (i := 0) rfl), _, rfl, Or.inl rfl⟩ (pq_an)
theorem kQ_2_27 : ∀ q ∈ ([(0, 3)] : List (Nat × Nat)), pq_okQ "PursuitDesk$Beliefs" false 27 q.1 q.2 := pq_ac ⟨kF_2_27 _ (List.mem_of_getElem? (i := 0) rfl), _, rfl, Or.inl rfl⟩ (pq_an)
theorem kQ_3_9i : ∀ q ∈ ([(1, 6)] : List (Nat × Nat)), pq_okQ "PursuitDesk$Evader" true 9 q.1 q.2 := pq_ac ⟨kF_3_9 _ (List.mem_of_getElem? (i := 0) rfl), _, rfl, Or.inr ⟨rfl, rfl, rfl⟩⟩ (pq_an)
theorem kQ_3_15 : ∀ q ∈ ([(1, 0)] : List (Nat × Nat)), pq_okQ "PursuitDesk$Evader" false 15 q.1 q.2 := pq_ac ⟨kF_3_15 _ (List.mem_of_getElem? (i := 0) rfl), _, rfl, Or.inl rfl⟩ (pq_an)
theorem kQ_3_19 : ∀ q ∈ ([(1, 1)] : List (Nat × Nat)), pq_okQ "PursuitDesk$Evader" false 19 q.1 q.2 := pq_ac ⟨kF_3_19 _ (List.mem_of_getElem? (i := 0) rfl), _, rfl, Or.inl rfl⟩ (pq_an)
theorem kQ_3_23 : ∀ q ∈ ([(1, 2)] : List (Nat × Nat)), pq_okQ "PursuitDesk$Evader" false 23 q.1 q.2 := pq_ac ⟨kF_3_23 _ (List.mem_of_getElem? (i := 0) rfl), _, rfl, Or.inl rfl⟩ (pq_an)
theorem kQ_3_26 : ∀ q ∈ ([(1, 3)] : List (Nat × Nat)), pq_okQ "PursuitDesk$Evader" false 26 q.1 q.2 := pq_ac ⟨kF_3_26 _ (List.mem_of_getElem? (i := 0) rfl), _, rfl, Or.inl rfl⟩ (pq_an)
theorem kQ_3_29 : ∀ q ∈ ([(1, 4)] : List (Nat × Nat)), pq_okQ "PursuitDesk$Evader" false 29 q.1 q.2 := pq_ac ⟨kF_3_29 _ (List.mem_of_getElem? (i := 0) rfl), _, rfl, Or.inl rfl⟩ (pq_an)
theorem kQ_3_32 : ∀ q ∈ ([(1, 5)] : List (Nat × Nat)), pq_okQ "PursuitDesk$Evader" false 32 q.1 q.2 := pq_ac ⟨kF_3_32 _ (List.mem_of_getElem? (i := 0) rfl), _, rfl, Or.inl rfl⟩ (pq_an)
theorem kQ_4_11i : ∀ q ∈ ([(2, 3), (4, 3)] : List (Nat × Nat)), pq_okQ "PursuitDesk$Search" true 11 q.1 q.2 := pq_ac ⟨kF_4_11 _ (List.mem_of_getElem? (i := 0) rfl), _, rfl, Or.inr ⟨rfl, rfl, rfl⟩⟩ (pq_ac ⟨kF_4_11 _ (List.mem_of_getElem? (i := 1) rfl), _, rfl, Or.inr ⟨rfl, rfl, rfl⟩⟩ (pq_an))
theorem kQ_4_15 : ∀ q ∈ ([(2, 0), (4, 0)] : List (Nat × Nat)), pq_okQ "PursuitDesk$Search" false 15 q.1 q.2 := pq_ac ⟨kF_4_15 _ (List.mem_of_getElem? (i := 0) rfl), _, rfl, Or.inl rfl⟩ (pq_ac ⟨kF_4_15 _ (List.mem_of_getElem? (i := 1) rfl), _, rfl, Or.inl rfl⟩ (pq_an))
theorem kQ_4_19 : ∀ q ∈ ([(2, 1), (4, 1)] : List (Nat × Nat)), pq_okQ "PursuitDesk$Search" false 19 q.1 q.2 := pq_ac ⟨kF_4_19 _ (List.mem_of_getElem? (i := 0) rfl), _, rfl, Or.inl rfl⟩ (pq_ac ⟨kF_4_19 _ (List.mem_of_getElem? (i := 1) rfl), _, rfl, Or.inl rfl⟩ (pq_an))
theorem kQ_4_23 : ∀ q ∈ ([(2, 2), (4, 2)] : List (Nat × Nat)), pq_okQ "PursuitDesk$Search" false 23 q.1 q.2 := pq_ac ⟨kF_4_23 _ (List.mem_of_getElem? (i := 0) rfl), _, rfl, Or.inl rfl⟩ (pq_ac ⟨kF_4_23 _ (List.mem_of_getElem? (i := 1) rfl), _, rfl, Or.inl rfl⟩ (pq_an))
theorem kQ_5_9i : ∀ q ∈ ([(4, 4)] : List (Nat × Nat)), pq_okQ "PursuitDesk$TurnSearch" true 9 q.1 q.2 := pq_ac ⟨kF_5_9 _ (List.mem_of_getElem? (i := 0) rfl), _, rfl, Or.inr ⟨rfl, rfl, rfl⟩⟩ (pq_an)
theorem kQ_5_15i : ∀ q ∈ ([(4, 5)] : List (Nat × Nat)), pq_okQ "PursuitDesk$TurnSearch" true 15 q.1 q.2 := pq_ac ⟨kF_5_15 _ (List.mem_of_getElem? (i := 0) rfl), _, rfl, Or.inr ⟨rfl, rfl, rfl⟩⟩ (pq_an)
theorem kQ_5_22 : ∀ q ∈ ([(4, 6)] : List (Nat × Nat)), pq_okQ "PursuitDesk$TurnSearch" false 22 q.1 q.2 := pq_ac ⟨kF_5_22 _ (List.mem_of_getElem? (i := 0) rfl), _, rfl, Or.inl rfl⟩ (pq_an)
theorem kQ_5_26 : ∀ q ∈ ([(4, 8)] : List (Nat × Nat)), pq_okQ "PursuitDesk$TurnSearch" false 26 q.1 q.2 := pq_ac ⟨kF_5_26 _ (List.mem_of_getElem? (i := 0) rfl), _, rfl, Or.inl rfl⟩ (pq_an)
theorem kQ_5_53 : ∀ q ∈ ([(4, 7)] : List (Nat × Nat)), pq_okQ "PursuitDesk$TurnSearch" false 53 q.1 q.2 := pq_ac ⟨kF_5_53 _ (List.mem_of_getElem? (i := 0) rfl), _, rfl, Or.inl rfl⟩ (pq_an)
theorem kQ_6_9i : ∀ q ∈ ([(2, 4)] : List (Nat × Nat)), pq_okQ "PursuitDesk$MoveSearch" true 9 q.1 q.2 := pq_ac ⟨kF_6_9 _ (List.mem_of_getElem? (i := 0) rfl), _, rfl, Or.inr ⟨rfl, rfl, rfl⟩⟩ (pq_an)
theorem kQ_6_19 : ∀ q ∈ ([(2, 6)] : List (Nat × Nat)), pq_okQ "PursuitDesk$MoveSearch" false 19 q.1 q.2 := pq_ac ⟨kF_6_19 _ (List.mem_of_getElem? (i := 0) rfl), _, rfl, Or.inl rfl⟩ (pq_an)
theorem kQ_6_24 : ∀ q ∈ ([(2, 5)] : List (Nat × Nat)), pq_okQ "PursuitDesk$MoveSearch" false 24 q.1 q.2 := pq_ac ⟨kF_6_24 _ (List.mem_of_getElem? (i := 0) rfl), _, rfl, Or.inl rfl⟩ (pq_an)
theorem kQ_7_9i : ∀ q ∈ ([(3, 3)] : List (Nat × Nat)), pq_okQ "PursuitDesk$State" true 9 q.1 q.2 := pq_ac ⟨kF_7_9 _ (List.mem_of_getElem? (i := 0) rfl), _, rfl, Or.inr ⟨rfl, rfl, rfl⟩⟩ (pq_an)
theorem kQ_7_15i : ∀ q ∈ ([(3, 4)] : List (Nat × Nat)), pq_okQ "PursuitDesk$State" true 15 q.1 q.2 := pq_ac ⟨kF_7_15 _ (List.mem_of_getElem? (i := 0) rfl), _, rfl, Or.inr ⟨rfl, rfl, rfl⟩⟩ (pq_an)
theorem kQ_7_21i : ∀ q ∈ ([(3, 8)] : List (Nat × Nat)), pq_okQ "PursuitDesk$State" true 21 q.1 q.2 := pq_ac ⟨kF_7_21 _ (List.mem_of_getElem? (i := 0) rfl), _, rfl, Or.inr ⟨rfl, rfl, rfl⟩⟩ (pq_an)
theorem kQ_7_28i : ∀ q ∈ ([(3, 9)] : List (Nat × Nat)), pq_okQ "PursuitDesk$State" true 28 q.1 q.2 := pq_ac ⟨kF_7_28 _ (List.mem_of_getElem? (i := 0) rfl), _, rfl, Or.inr ⟨rfl, rfl, rfl⟩⟩ (pq_an)
theorem kQ_7_32 : ∀ q ∈ ([(3, 0)] : List (Nat × Nat)), pq_okQ "PursuitDesk$State" false 32 q.1 q.2 := pq_ac ⟨kF_7_32 _ (List.mem_of_getElem? (i := 0) rfl), _, rfl, Or.inl rfl⟩ (pq_an)
theorem kQ_7_36 : ∀ q ∈ ([(3, 1)] : List (Nat × Nat)), pq_okQ "PursuitDesk$State" false 36 q.1 q.2 := pq_ac ⟨kF_7_36 _ (List.mem_of_getElem? (i := 0) rfl), _, rfl, Or.inl rfl⟩ (pq_an)
theorem kQ_7_40 : ∀ q ∈ ([(3, 2)] : List (Nat × Nat)), pq_okQ "PursuitDesk$State" false 40 q.1 q.2 := pq_ac ⟨kF_7_40 _ (List.mem_of_getElem? (i := 0) rfl), _, rfl, Or.inl rfl⟩ (pq_an)
theorem kQ_7_49 : ∀ q ∈ ([(3, 5)] : List (Nat × Nat)), pq_okQ "PursuitDesk$State" false 49 q.1 q.2 := pq_ac ⟨kF_7_49 _ (List.mem_of_getElem? (i := 0) rfl), _, rfl, Or.inl rfl⟩ (pq_an)
theorem kQ_7_71 : ∀ q ∈ ([(1, 0)] : List (Nat × Nat)), pq_okQ "PursuitDesk$State" false 71 q.1 q.2 := pq_ac ⟨kF_7_71 _ (List.mem_of_getElem? (i := 0) rfl), _, rfl, Or.inl rfl⟩ (pq_an)
theorem kQ_7_52 : ∀ q ∈ ([(3, 6)] : List (Nat × Nat)), pq_okQ "PursuitDesk$State" false 52 q.1 q.2 := pq_ac ⟨kF_7_52 _ (List.mem_of_getElem? (i := 0) rfl), _, rfl, Or.inl rfl⟩ (pq_an)
theorem kQ_7_55 : ∀ q ∈ ([(3, 7)] : List (Nat × Nat)), pq_okQ "PursuitDesk$State" false 55 q.1 q.2 := pq_ac ⟨kF_7_55 _ (List.mem_of_getElem? (i := 0) rfl), _, rfl, Or.inl rfl⟩ (pq_an)
theorem kQ_7_111 : ∀ q ∈ ([(1, 2)] : List (Nat × Nat)), pq_okQ "PursuitDesk$State" false 111 q.1 q.2 := pq_ac ⟨kF_7_111 _ (List.mem_of_getElem? (i := 0) rfl), _, rfl, Or.inl rfl⟩ (pq_an)
theorem kQ_8_10i : ∀ q ∈ ([(5, 0)] : List (Nat × Nat)), pq_okQ "PursuitDesk" true 10 q.1 q.2 := pq_ac ⟨kF_8_10 _ (List.mem_of_getElem? (i := 0) rfl), _, rfl, Or.inr ⟨rfl, rfl, rfl⟩⟩ (pq_an)
theorem kQ_8_16i : ∀ q ∈ ([(5, 1)] : List (Nat × Nat)), pq_okQ "PursuitDesk" true 16 q.1 q.2 := pq_ac ⟨kF_8_16 _ (List.mem_of_getElem? (i := 0) rfl), _, rfl, Or.inr ⟨rfl, rfl, rfl⟩⟩ (pq_an)
theorem kQ_8_20i : ∀ q ∈ ([(5, 3)] : List (Nat × Nat)), pq_okQ "PursuitDesk" true 20 q.1 q.2 := pq_ac ⟨kF_8_20 _ (List.mem_of_getElem? (i := 0) rfl), _, rfl, Or.inr ⟨rfl, rfl, rfl⟩⟩ (pq_an)
theorem kQ_8_27i : ∀ q ∈ ([(5, 5)] : List (Nat × Nat)), pq_okQ "PursuitDesk" true 27 q.1 q.2 := pq_ac ⟨kF_8_27 _ (List.mem_of_getElem? (i := 0) rfl), _, rfl, Or.inr ⟨rfl, rfl, rfl⟩⟩ (pq_an)
theorem kQ_8_31i : ∀ q ∈ ([(5, 7)] : List (Nat × Nat)), pq_okQ "PursuitDesk" true 31 q.1 q.2 := pq_ac ⟨kF_8_31 _ (List.mem_of_getElem? (i := 0) rfl), _, rfl, Or.inr ⟨rfl, rfl, rfl⟩⟩ (pq_an)
theorem kQ_8_37i : ∀ q ∈ ([(5, 8)] : List (Nat × Nat)), pq_okQ "PursuitDesk" true 37 q.1 q.2 := pq_ac ⟨kF_8_37 _ (List.mem_of_getElem? (i := 0) rfl), _, rfl, Or.inr ⟨rfl, rfl, rfl⟩⟩ (pq_an)
theorem kQ_8_139 : ∀ q ∈ ([(5, 2)] : List (Nat × Nat)), pq_okQ "PursuitDesk" false 139 q.1 q.2 := pq_ac ⟨kF_8_139 _ (List.mem_of_getElem? (i := 0) rfl), _, rfl, Or.inl rfl⟩ (pq_an)
theorem kQ_8_146 : ∀ q ∈ ([(5, 6)] : List (Nat × Nat)), pq_okQ "PursuitDesk" false 146 q.1 q.2 := pq_ac ⟨kF_8_146 _ (List.mem_of_getElem? (i := 0) rfl), _, rfl, Or.inl rfl⟩ (pq_an)
theorem kQ_8_60 : ∀ q ∈ ([(3, 1)] : List (Nat × Nat)), pq_okQ "PursuitDesk" false 60 q.1 q.2 := pq_ac ⟨kF_8_60 _ (List.mem_of_getElem? (i := 0) rfl), _, rfl, Or.inl rfl⟩ (pq_an)
theorem kQ_8_89 : ∀ q ∈ ([(3, 2)] : List (Nat × Nat)), pq_okQ "PursuitDesk" false 89 q.1 q.2 := pq_ac ⟨kF_8_89 _ (List.mem_of_getElem? (i := 0) rfl), _, rfl, Or.inl rfl⟩ (pq_an)
theorem kQ_8_182 : ∀ q ∈ ([(1, 2)] : List (Nat × Nat)), pq_okQ "PursuitDesk" false 182 q.1 q.2 := pq_ac ⟨kF_8_182 _ (List.mem_of_getElem? (i := 0) rfl), _, rfl, Or.inl rfl⟩ (pq_an)
theorem kQ_8_153 : ∀ q ∈ ([(3, 6)] : List (Nat × Nat)), pq_okQ "PursuitDesk" false 153 q.1 q.2 := pq_ac ⟨kF_8_153 _ (List.mem_of_getElem? (i := 0) rfl), _, rfl, Or.inl rfl⟩ (pq_an)
theorem kQ_8_156 : ∀ q ∈ ([(3, 7)] : List (Nat × Nat)), pq_okQ "PursuitDesk" false 156 q.1 q.2 := pq_ac ⟨kF_8_156 _ (List.mem_of_getElem? (i := 0) rfl), _, rfl, Or.inl rfl⟩ (pq_an)
theorem kQ_8_221 : ∀ q ∈ ([(5, 4)] : List (Nat × Nat)), pq_okQ "PursuitDesk" false 221 q.1 q.2 := pq_ac ⟨kF_8_221 _ (List.mem_of_getElem? (i := 0) rfl), _, rfl, Or.inl rfl⟩ (pq_an)
theorem kQ_9_7i : ∀ q ∈ ([(6, 0)] : List (Nat × Nat)), pq_okQ "PursuitDeskModel" true 7 q.1 q.2 := pq_ac ⟨kF_9_7 _ (List.mem_of_getElem? (i := 0) rfl), _, rfl, Or.inr ⟨rfl, rfl, rfl⟩⟩ (pq_an)
theorem kQ_9_13i : ∀ q ∈ ([(6, 1)] : List (Nat × Nat)), pq_okQ "PursuitDeskModel" true 13 q.1 q.2 := pq_ac ⟨kF_9_13 _ (List.mem_of_getElem? (i := 0) rfl), _, rfl, Or.inr ⟨rfl, rfl, rfl⟩⟩ (pq_an)
theorem kQ_9_16i : ∀ q ∈ ([(6, 3)] : List (Nat × Nat)), pq_okQ "PursuitDeskModel" true 16 q.1 q.2 := pq_ac ⟨kF_9_16 _ (List.mem_of_getElem? (i := 0) rfl), _, rfl, Or.inr ⟨rfl, rfl, rfl⟩⟩ (pq_an)
theorem kQ_9_20i : ∀ q ∈ ([(6, 5)] : List (Nat × Nat)), pq_okQ "PursuitDeskModel" true 20 q.1 q.2 := pq_ac ⟨kF_9_20 _ (List.mem_of_getElem? (i := 0) rfl), _, rfl, Or.inr ⟨rfl, rfl, rfl⟩⟩ (pq_an)
theorem kQ_9_23i : ∀ q ∈ ([(6, 6)] : List (Nat × Nat)), pq_okQ "PursuitDeskModel" true 23 q.1 q.2 := pq_ac ⟨kF_9_23 _ (List.mem_of_getElem? (i := 0) rfl), _, rfl, Or.inr ⟨rfl, rfl, rfl⟩⟩ (pq_an)
theorem kQ_9_26i : ∀ q ∈ ([(6, 7)] : List (Nat × Nat)), pq_okQ "PursuitDeskModel" true 26 q.1 q.2 := pq_ac ⟨kF_9_26 _ (List.mem_of_getElem? (i := 0) rfl), _, rfl, Or.inr ⟨rfl, rfl, rfl⟩⟩ (pq_an)
theorem kQ_9_30i : ∀ q ∈ ([(6, 8)] : List (Nat × Nat)), pq_okQ "PursuitDeskModel" true 30 q.1 q.2 := pq_ac ⟨kF_9_30 _ (List.mem_of_getElem? (i := 0) rfl), _, rfl, Or.inr ⟨rfl, rfl, rfl⟩⟩ (pq_an)
theorem kQ_9_33i : ∀ q ∈ ([(6, 9)] : List (Nat × Nat)), pq_okQ "PursuitDeskModel" true 33 q.1 q.2 := pq_ac ⟨kF_9_33 _ (List.mem_of_getElem? (i := 0) rfl), _, rfl, Or.inr ⟨rfl, rfl, rfl⟩⟩ (pq_an)
theorem kQ_9_36i : ∀ q ∈ ([(6, 10)] : List (Nat × Nat)), pq_okQ "PursuitDeskModel" true 36 q.1 q.2 := pq_ac ⟨kF_9_36 _ (List.mem_of_getElem? (i := 0) rfl), _, rfl, Or.inr ⟨rfl, rfl, rfl⟩⟩ (pq_an)
theorem kQ_9_39i : ∀ q ∈ ([(6, 11)] : List (Nat × Nat)), pq_okQ "PursuitDeskModel" true 39 q.1 q.2 := pq_ac ⟨kF_9_39 _ (List.mem_of_getElem? (i := 0) rfl), _, rfl, Or.inr ⟨rfl, rfl, rfl⟩⟩ (pq_an)
theorem kQ_9_53 : ∀ q ∈ ([(6, 2)] : List (Nat × Nat)), pq_okQ "PursuitDeskModel" false 53 q.1 q.2 := pq_ac ⟨kF_9_53 _ (List.mem_of_getElem? (i := 0) rfl), _, rfl, Or.inl rfl⟩ (pq_an)
theorem kQ_9_133 : ∀ q ∈ ([(6, 4)] : List (Nat × Nat)), pq_okQ "PursuitDeskModel" false 133 q.1 q.2 := pq_ac ⟨kF_9_133 _ (List.mem_of_getElem? (i := 0) rfl), _, rfl, Or.inl rfl⟩ (pq_an)
theorem kV_2_34 : ∀ q ∈ ([(0, 15)] : List (Nat × Nat)), pq_okV "PursuitDesk$Beliefs" 34 1 q.1 q.2 := pq_ac ⟨_, _, rfl, rfl, kM_15, Or.inl ⟨rfl, by (show _ = _); decide +kernel, (lw_in 430 (by decide +kernel) (by decide +kernel)), (lw_in 407 (by decide +kernel) (by decide +kernel)), (lw_in 408 (by decide +kernel) (by decide +kernel)), (lw_in 38 (by decide +kernel) (by decide +kernel))⟩⟩ (pq_an)
theorem kV_3_41 : ∀ q ∈ ([(1, 23)] : List (Nat × Nat)), pq_okV "PursuitDesk$Evader" 41 2 q.1 q.2 := pq_ac ⟨_, _, rfl, rfl, kM_23, Or.inl ⟨rfl, by (show _ = _); decide +kernel, (lw_in 380 (by decide +kernel) (by decide +kernel)), (lw_in 382 (by decide +kernel) (by decide +kernel)), (lw_in 7 (by decide +kernel) (by decide +kernel)), (lw_in 39 (by decide +kernel) (by decide +kernel))⟩⟩ (pq_an)
theorem kV_3_51 : ∀ q ∈ ([(1, 22)] : List (Nat × Nat)), pq_okV "PursuitDesk$Evader" 51 2 q.1 q.2 := pq_ac ⟨_, _, rfl, rfl, kM_22, Or.inl ⟨rfl, by (show _ = _); decide +kernel, (lw_in 471 (by decide +kernel) (by decide +kernel)), (lw_in 377 (by decide +kernel) (by decide +kernel)), (lw_in 378 (by decide +kernel) (by decide +kernel)), (lw_in 39 (by decide +kernel) (by decide +kernel))⟩⟩ (pq_an)
theorem kV_4_26 : ∀ q ∈ ([(2, 31), (4, 31)] : List (Nat × Nat)), pq_okV "PursuitDesk$Search" 26 0 q.1 q.2 := pq_ac ⟨_, _, rfl, rfl, kM_31, Or.inr ⟨"PursuitDesk$Search", (⟨"PursuitDesk$Search", "bound", "()I"⟩ : MethodName), ⟨by decide +kernel, by decide +kernel⟩, by (show _ = _); decide +kernel, (lw_in 557 (by decide +kernel) (by decide +kernel)), (lw_in 559 (by decide +kernel) (by decide +kernel)), (lw_in 560 (by decide +kernel) (by decide +kernel)), (lw_in 558 (by decide +kernel) (by decide +kernel)), (lw_in 40 (by decide +kernel) (by decide +kernel)), Or.inl rfl⟩⟩ (pq_ac ⟨_, _, rfl, rfl, kM_31, Or.inr ⟨"PursuitDesk$Search", (⟨"PursuitDesk$Search", "bound", "()I"⟩ : MethodName), ⟨by decide +kernel, by decide +kernel⟩, by (show _ = _); decide +kernel, (lw_in 557 (by decide +kernel) (by decide +kernel)), (lw_in 559 (by decide +kernel) (by decide +kernel)), (lw_in 561 (by decide +kernel) (by decide +kernel)), (lw_in 558 (by decide +kernel) (by decide +kernel)), (lw_in 40 (by decide +kernel) (by decide +kernel)), Or.inl rfl⟩⟩ (pq_an))
theorem kV_4_30 : ∀ q ∈ ([(2, 34), (4, 34)] : List (Nat × Nat)), pq_okV "PursuitDesk$Search" 30 1 q.1 q.2 := pq_ac ⟨_, _, rfl, rfl, kM_34, Or.inr ⟨"PursuitDesk$Search", (⟨"PursuitDesk$Search", "placeSearchers", "(I)V"⟩ : MethodName), ⟨by decide +kernel, by decide +kernel⟩, by (show _ = _); decide +kernel, (lw_in 583 (by decide +kernel) (by decide +kernel)), (lw_in 585 (by decide +kernel) (by decide +kernel)), (lw_in 586 (by decide +kernel) (by decide +kernel)), (lw_in 584 (by decide +kernel) (by decide +kernel)), (lw_in 40 (by decide +kernel) (by decide +kernel)), Or.inl rfl⟩⟩ (pq_ac ⟨_, _, rfl, rfl, kM_34, Or.inr ⟨"PursuitDesk$Search", (⟨"PursuitDesk$Search", "placeSearchers", "(I)V"⟩ : MethodName), ⟨by decide +kernel, by decide +kernel⟩, by (show _ = _); decide +kernel, (lw_in 583 (by decide +kernel) (by decide +kernel)), (lw_in 585 (by decide +kernel) (by decide +kernel)), (lw_in 587 (by decide +kernel) (by decide +kernel)), (lw_in 584 (by decide +kernel) (by decide +kernel)), (lw_in 40 (by decide +kernel) (by decide +kernel)), Or.inl rfl⟩⟩ (pq_an))
theorem kV_4_40 : ∀ q ∈ ([(2, 35), (4, 35)] : List (Nat × Nat)), pq_okV "PursuitDesk$Search" 40 4 q.1 q.2 := pq_ac ⟨_, _, rfl, rfl, kM_35, Or.inr ⟨"PursuitDesk$Search", (⟨"PursuitDesk$Search", "giveOrders", "(IJII)V"⟩ : MethodName), ⟨by decide +kernel, by decide +kernel⟩, by (show _ = _); decide +kernel, (lw_in 590 (by decide +kernel) (by decide +kernel)), (lw_in 956 (by decide +kernel) (by decide +kernel)), (lw_in 0 (by decide +kernel) (by decide +kernel)), (lw_in 592 (by decide +kernel) (by decide +kernel)), (lw_in 40 (by decide +kernel) (by decide +kernel)), Or.inl rfl⟩⟩ (pq_ac ⟨_, _, rfl, rfl, kM_35, Or.inr ⟨"PursuitDesk$Search", (⟨"PursuitDesk$Search", "giveOrders", "(IJII)V"⟩ : MethodName), ⟨by decide +kernel, by decide +kernel⟩, by (show _ = _); decide +kernel, (lw_in 590 (by decide +kernel) (by decide +kernel)), (lw_in 956 (by decide +kernel) (by decide +kernel)), (lw_in 1 (by decide +kernel) (by decide +kernel)), (lw_in 592 (by decide +kernel) (by decide +kernel)), (lw_in 40 (by decide +kernel) (by decide +kernel)), Or.inl rfl⟩⟩ (pq_an))
theorem kV_4_48 : ∀ q ∈ ([(2, 46), (4, 40)] : List (Nat × Nat)), pq_okV "PursuitDesk$Search" 48 2 q.1 q.2 := pq_ac ⟨_, _, rfl, rfl, kM_46, Or.inr ⟨"PursuitDesk$Search", (⟨"PursuitDesk$Search", "arrive", "(II)V"⟩ : MethodName), ⟨by decide +kernel, by decide +kernel⟩, by (show _ = _); decide +kernel, (lw_in 595 (by decide +kernel) (by decide +kernel)), (lw_in 597 (by decide +kernel) (by decide +kernel)), (lw_in 598 (by decide +kernel) (by decide +kernel)), (lw_in 599 (by decide +kernel) (by decide +kernel)), (lw_in 42 (by decide +kernel) (by decide +kernel)), Or.inr (List.mem_of_getElem? (i := 11) (by decide +kernel))⟩⟩ (pq_ac ⟨_, _, rfl, rfl, kM_40, Or.inr ⟨"PursuitDesk$Search", (⟨"PursuitDesk$Search", "arrive", "(II)V"⟩ : MethodName), ⟨by decide +kernel, by decide +kernel⟩, by (show _ = _); decide +kernel, (lw_in 595 (by decide +kernel) (by decide +kernel)), (lw_in 597 (by decide +kernel) (by decide +kernel)), (lw_in 604 (by decide +kernel) (by decide +kernel)), (lw_in 605 (by decide +kernel) (by decide +kernel)), (lw_in 41 (by decide +kernel) (by decide +kernel)), Or.inr (List.mem_of_getElem? (i := 11) (by decide +kernel))⟩⟩ (pq_an))
theorem kV_5_18 : ∀ q ∈ ([(4, 30)] : List (Nat × Nat)), pq_okV "PursuitDesk$TurnSearch" 18 1 q.1 q.2 := pq_ac ⟨_, _, rfl, rfl, kM_30, Or.inr ⟨"PursuitDesk$Search", (⟨"PursuitDesk$TurnSearch", "clear", "([I)V"⟩ : MethodName), ⟨by decide +kernel, by decide +kernel⟩, by (show _ = _); decide +kernel, (lw_in 551 (by decide +kernel) (by decide +kernel)), (lw_in 552 (by decide +kernel) (by decide +kernel)), (lw_in 554 (by decide +kernel) (by decide +kernel)), (lw_in 555 (by decide +kernel) (by decide +kernel)), (lw_in 40 (by decide +kernel) (by decide +kernel)), Or.inl rfl⟩⟩ (pq_an)
theorem kV_5_56 : ∀ q ∈ ([(4, 33)] : List (Nat × Nat)), pq_okV "PursuitDesk$TurnSearch" 56 1 q.1 q.2 := pq_ac ⟨_, _, rfl, rfl, kM_33, Or.inr ⟨"PursuitDesk$Search", (⟨"PursuitDesk$TurnSearch", "expand", "(I)V"⟩ : MethodName), ⟨by decide +kernel, by decide +kernel⟩, by (show _ = _); decide +kernel, (lw_in 577 (by decide +kernel) (by decide +kernel)), (lw_in 578 (by decide +kernel) (by decide +kernel)), (lw_in 580 (by decide +kernel) (by decide +kernel)), (lw_in 581 (by decide +kernel) (by decide +kernel)), (lw_in 40 (by decide +kernel) (by decide +kernel)), Or.inl rfl⟩⟩ (pq_an)
theorem kV_5_49 : ∀ q ∈ ([(4, 38)] : List (Nat × Nat)), pq_okV "PursuitDesk$TurnSearch" 49 2 q.1 q.2 := pq_ac ⟨_, _, rfl, rfl, kM_38, Or.inl ⟨rfl, by (show _ = _); decide +kernel, (lw_in 607 (by decide +kernel) (by decide +kernel)), (lw_in 570 (by decide +kernel) (by decide +kernel)), (lw_in 571 (by decide +kernel) (by decide +kernel)), (lw_in 41 (by decide +kernel) (by decide +kernel))⟩⟩ (pq_an)
theorem kV_5_59 : ∀ q ∈ ([(4, 41)] : List (Nat × Nat)), pq_okV "PursuitDesk$TurnSearch" 59 0 q.1 q.2 := pq_ac ⟨_, _, rfl, rfl, kM_41, Or.inl ⟨rfl, by (show _ = _); decide +kernel, (lw_in 624 (by decide +kernel) (by decide +kernel)), (lw_in 613 (by decide +kernel) (by decide +kernel)), (lw_in 614 (by decide +kernel) (by decide +kernel)), (lw_in 41 (by decide +kernel) (by decide +kernel))⟩⟩ (pq_an)
theorem kV_5_33 : ∀ q ∈ ([(4, 34)] : List (Nat × Nat)), pq_okV "PursuitDesk$TurnSearch" 33 1 q.1 q.2 := pq_ac ⟨_, _, rfl, rfl, kM_34, Or.inr ⟨"PursuitDesk$Search", (⟨"PursuitDesk$TurnSearch", "placeSearchers", "(I)V"⟩ : MethodName), ⟨by decide +kernel, by decide +kernel⟩, by (show _ = _); decide +kernel, (lw_in 625 (by decide +kernel) (by decide +kernel)), (lw_in 626 (by decide +kernel) (by decide +kernel)), (lw_in 628 (by decide +kernel) (by decide +kernel)), (lw_in 584 (by decide +kernel) (by decide +kernel)), (lw_in 40 (by decide +kernel) (by decide +kernel)), Or.inl rfl⟩⟩ (pq_an)
theorem kV_5_29 : ∀ q ∈ ([(4, 31)] : List (Nat × Nat)), pq_okV "PursuitDesk$TurnSearch" 29 0 q.1 q.2 := pq_ac ⟨_, _, rfl, rfl, kM_31, Or.inr ⟨"PursuitDesk$Search", (⟨"PursuitDesk$TurnSearch", "bound", "()I"⟩ : MethodName), ⟨by decide +kernel, by decide +kernel⟩, by (show _ = _); decide +kernel, (lw_in 674 (by decide +kernel) (by decide +kernel)), (lw_in 675 (by decide +kernel) (by decide +kernel)), (lw_in 676 (by decide +kernel) (by decide +kernel)), (lw_in 558 (by decide +kernel) (by decide +kernel)), (lw_in 40 (by decide +kernel) (by decide +kernel)), Or.inl rfl⟩⟩ (pq_an)
theorem kV_5_37 : ∀ q ∈ ([(4, 44)] : List (Nat × Nat)), pq_okV "PursuitDesk$TurnSearch" 37 1 q.1 q.2 := pq_ac ⟨_, _, rfl, rfl, kM_44, Or.inl ⟨rfl, by (show _ = _); decide +kernel, (lw_in 677 (by decide +kernel) (by decide +kernel)), (lw_in 679 (by decide +kernel) (by decide +kernel)), (lw_in 12 (by decide +kernel) (by decide +kernel)), (lw_in 41 (by decide +kernel) (by decide +kernel))⟩⟩ (pq_an)
theorem kV_6_15 : ∀ q ∈ ([(2, 30)] : List (Nat × Nat)), pq_okV "PursuitDesk$MoveSearch" 15 1 q.1 q.2 := pq_ac ⟨_, _, rfl, rfl, kM_30, Or.inr ⟨"PursuitDesk$Search", (⟨"PursuitDesk$MoveSearch", "clear", "([I)V"⟩ : MethodName), ⟨by decide +kernel, by decide +kernel⟩, by (show _ = _); decide +kernel, (lw_in 643 (by decide +kernel) (by decide +kernel)), (lw_in 644 (by decide +kernel) (by decide +kernel)), (lw_in 645 (by decide +kernel) (by decide +kernel)), (lw_in 555 (by decide +kernel) (by decide +kernel)), (lw_in 40 (by decide +kernel) (by decide +kernel)), Or.inl rfl⟩⟩ (pq_an)
theorem kV_6_27 : ∀ q ∈ ([(2, 48)] : List (Nat × Nat)), pq_okV "PursuitDesk$MoveSearch" 27 0 q.1 q.2 := pq_ac ⟨_, _, rfl, rfl, kM_48, Or.inl ⟨rfl, by (show _ = _); decide +kernel, (lw_in 647 (by decide +kernel) (by decide +kernel)), (lw_in 649 (by decide +kernel) (by decide +kernel)), (lw_in 10 (by decide +kernel) (by decide +kernel)), (lw_in 42 (by decide +kernel) (by decide +kernel))⟩⟩ (pq_an)
theorem kV_6_31 : ∀ q ∈ ([(2, 31)] : List (Nat × Nat)), pq_okV "PursuitDesk$MoveSearch" 31 0 q.1 q.2 := pq_ac ⟨_, _, rfl, rfl, kM_31, Or.inr ⟨"PursuitDesk$Search", (⟨"PursuitDesk$MoveSearch", "bound", "()I"⟩ : MethodName), ⟨by decide +kernel, by decide +kernel⟩, by (show _ = _); decide +kernel, (lw_in 651 (by decide +kernel) (by decide +kernel)), (lw_in 652 (by decide +kernel) (by decide +kernel)), (lw_in 654 (by decide +kernel) (by decide +kernel)), (lw_in 558 (by decide +kernel) (by decide +kernel)), (lw_in 40 (by decide +kernel) (by decide +kernel)), Or.inl rfl⟩⟩ (pq_an)
theorem kV_6_35 : ∀ q ∈ ([(2, 33)] : List (Nat × Nat)), pq_okV "PursuitDesk$MoveSearch" 35 1 q.1 q.2 := pq_ac ⟨_, _, rfl, rfl, kM_33, Or.inr ⟨"PursuitDesk$Search", (⟨"PursuitDesk$MoveSearch", "expand", "(I)V"⟩ : MethodName), ⟨by decide +kernel, by decide +kernel⟩, by (show _ = _); decide +kernel, (lw_in 655 (by decide +kernel) (by decide +kernel)), (lw_in 656 (by decide +kernel) (by decide +kernel)), (lw_in 657 (by decide +kernel) (by decide +kernel)), (lw_in 581 (by decide +kernel) (by decide +kernel)), (lw_in 40 (by decide +kernel) (by decide +kernel)), Or.inl rfl⟩⟩ (pq_an)
theorem kV_7_75 : ∀ q ∈ ([(3, 51)] : List (Nat × Nat)), pq_okV "PursuitDesk$State" 75 0 q.1 q.2 := pq_ac ⟨_, _, rfl, rfl, kM_51, Or.inl ⟨rfl, by (show _ = _); decide +kernel, (lw_in 235 (by decide +kernel) (by decide +kernel)), (lw_in 236 (by decide +kernel) (by decide +kernel)), (lw_in 237 (by decide +kernel) (by decide +kernel)), (lw_in 37 (by decide +kernel) (by decide +kernel))⟩⟩ (pq_an)
theorem kV_7_78 : ∀ q ∈ ([(3, 52)] : List (Nat × Nat)), pq_okV "PursuitDesk$State" 78 0 q.1 q.2 := pq_ac ⟨_, _, rfl, rfl, kM_52, Or.inl ⟨rfl, by (show _ = _); decide +kernel, (lw_in 239 (by decide +kernel) (by decide +kernel)), (lw_in 240 (by decide +kernel) (by decide +kernel)), (lw_in 241 (by decide +kernel) (by decide +kernel)), (lw_in 37 (by decide +kernel) (by decide +kernel))⟩⟩ (pq_an)
theorem kV_7_82 : ∀ q ∈ ([(0, 11)] : List (Nat × Nat)), pq_okV "PursuitDesk$State" 82 2 q.1 q.2 := pq_ac ⟨_, _, rfl, rfl, kM_11, Or.inl ⟨rfl, by (show _ = _); decide +kernel, (lw_in 243 (by decide +kernel) (by decide +kernel)), (lw_in 244 (by decide +kernel) (by decide +kernel)), (lw_in 245 (by decide +kernel) (by decide +kernel)), (lw_in 38 (by decide +kernel) (by decide +kernel))⟩⟩ (pq_an)
theorem kV_7_58 : ∀ q ∈ ([(0, 13)] : List (Nat × Nat)), pq_okV "PursuitDesk$State" 58 1 q.1 q.2 := pq_ac ⟨_, _, rfl, rfl, kM_13, Or.inl ⟨rfl, by (show _ = _); decide +kernel, (lw_in 297 (by decide +kernel) (by decide +kernel)), (lw_in 298 (by decide +kernel) (by decide +kernel)), (lw_in 299 (by decide +kernel) (by decide +kernel)), (lw_in 38 (by decide +kernel) (by decide +kernel))⟩⟩ (pq_an)
theorem kV_7_62 : ∀ q ∈ ([(1, 20)] : List (Nat × Nat)), pq_okV "PursuitDesk$State" 62 1 q.1 q.2 := pq_ac ⟨_, _, rfl, rfl, kM_20, Or.inl ⟨rfl, by (show _ = _); decide +kernel, (lw_in 302 (by decide +kernel) (by decide +kernel)), (lw_in 303 (by decide +kernel) (by decide +kernel)), (lw_in 304 (by decide +kernel) (by decide +kernel)), (lw_in 39 (by decide +kernel) (by decide +kernel))⟩⟩ (pq_an)
theorem kV_7_104 : ∀ q ∈ ([(3, 54)] : List (Nat × Nat)), pq_okV "PursuitDesk$State" 104 2 q.1 q.2 := pq_ac ⟨_, _, rfl, rfl, kM_54, Or.inl ⟨rfl, by (show _ = _); decide +kernel, (lw_in 329 (by decide +kernel) (by decide +kernel)), (lw_in 316 (by decide +kernel) (by decide +kernel)), (lw_in 317 (by decide +kernel) (by decide +kernel)), (lw_in 37 (by decide +kernel) (by decide +kernel))⟩⟩ (pq_an)
theorem kV_7_113 : ∀ q ∈ ([(0, 14)] : List (Nat × Nat)), pq_okV "PursuitDesk$State" 113 1 q.1 q.2 := pq_ac ⟨_, _, rfl, rfl, kM_14, Or.inl ⟨rfl, by (show _ = _); decide +kernel, (lw_in 368 (by decide +kernel) (by decide +kernel)), (lw_in 369 (by decide +kernel) (by decide +kernel)), (lw_in 370 (by decide +kernel) (by decide +kernel)), (lw_in 38 (by decide +kernel) (by decide +kernel))⟩⟩ (pq_an)
theorem kV_7_117 : ∀ q ∈ ([(1, 21)] : List (Nat × Nat)), pq_okV "PursuitDesk$State" 117 0 q.1 q.2 := pq_ac ⟨_, _, rfl, rfl, kM_21, Or.inl ⟨rfl, by (show _ = _); decide +kernel, (lw_in 372 (by decide +kernel) (by decide +kernel)), (lw_in 373 (by decide +kernel) (by decide +kernel)), (lw_in 374 (by decide +kernel) (by decide +kernel)), (lw_in 39 (by decide +kernel) (by decide +kernel))⟩⟩ (pq_an)
theorem kV_7_121 : ∀ q ∈ ([(1, 22)] : List (Nat × Nat)), pq_okV "PursuitDesk$State" 121 2 q.1 q.2 := pq_ac ⟨_, _, rfl, rfl, kM_22, Or.inl ⟨rfl, by (show _ = _); decide +kernel, (lw_in 376 (by decide +kernel) (by decide +kernel)), (lw_in 377 (by decide +kernel) (by decide +kernel)), (lw_in 378 (by decide +kernel) (by decide +kernel)), (lw_in 39 (by decide +kernel) (by decide +kernel))⟩⟩ (pq_an)
theorem kV_7_124 : ∀ q ∈ ([(3, 60)] : List (Nat × Nat)), pq_okV "PursuitDesk$State" 124 1 q.1 q.2 := pq_ac ⟨_, _, rfl, rfl, kM_60, Or.inl ⟨rfl, by (show _ = _); decide +kernel, (lw_in 451 (by decide +kernel) (by decide +kernel)), (lw_in 452 (by decide +kernel) (by decide +kernel)), (lw_in 453 (by decide +kernel) (by decide +kernel)), (lw_in 37 (by decide +kernel) (by decide +kernel))⟩⟩ (pq_an)
theorem kV_7_128 : ∀ q ∈ ([(0, 18)] : List (Nat × Nat)), pq_okV "PursuitDesk$State" 128 1 q.1 q.2 := pq_ac ⟨_, _, rfl, rfl, kM_18, Or.inl ⟨rfl, by (show _ = _); decide +kernel, (lw_in 459 (by decide +kernel) (by decide +kernel)), (lw_in 460 (by decide +kernel) (by decide +kernel)), (lw_in 461 (by decide +kernel) (by decide +kernel)), (lw_in 38 (by decide +kernel) (by decide +kernel))⟩⟩ (pq_an)
theorem kV_7_132 : ∀ q ∈ ([(1, 24)] : List (Nat × Nat)), pq_okV "PursuitDesk$State" 132 2 q.1 q.2 := pq_ac ⟨_, _, rfl, rfl, kM_24, Or.inl ⟨rfl, by (show _ = _); decide +kernel, (lw_in 466 (by decide +kernel) (by decide +kernel)), (lw_in 467 (by decide +kernel) (by decide +kernel)), (lw_in 468 (by decide +kernel) (by decide +kernel)), (lw_in 39 (by decide +kernel) (by decide +kernel))⟩⟩ (pq_an)
theorem kV_7_136 : ∀ q ∈ ([(0, 16)] : List (Nat × Nat)), pq_okV "PursuitDesk$State" 136 1 q.1 q.2 := pq_ac ⟨_, _, rfl, rfl, kM_16, Or.inl ⟨rfl, by (show _ = _); decide +kernel, (lw_in 476 (by decide +kernel) (by decide +kernel)), (lw_in 416 (by decide +kernel) (by decide +kernel)), (lw_in 417 (by decide +kernel) (by decide +kernel)), (lw_in 38 (by decide +kernel) (by decide +kernel))⟩⟩ (pq_an)
theorem kV_7_143 : ∀ q ∈ ([(1, 25)] : List (Nat × Nat)), pq_okV "PursuitDesk$State" 143 1 q.1 q.2 := pq_ac ⟨_, _, rfl, rfl, kM_25, Or.inl ⟨rfl, by (show _ = _); decide +kernel, (lw_in 477 (by decide +kernel) (by decide +kernel)), (lw_in 478 (by decide +kernel) (by decide +kernel)), (lw_in 479 (by decide +kernel) (by decide +kernel)), (lw_in 39 (by decide +kernel) (by decide +kernel))⟩⟩ (pq_an)
theorem kV_7_147 : ∀ q ∈ ([(0, 17)] : List (Nat × Nat)), pq_okV "PursuitDesk$State" 147 2 q.1 q.2 := pq_ac ⟨_, _, rfl, rfl, kM_17, Or.inl ⟨rfl, by (show _ = _); decide +kernel, (lw_in 481 (by decide +kernel) (by decide +kernel)), (lw_in 427 (by decide +kernel) (by decide +kernel)), (lw_in 428 (by decide +kernel) (by decide +kernel)), (lw_in 38 (by decide +kernel) (by decide +kernel))⟩⟩ (pq_an)
theorem kV_8_41 : ∀ q ∈ ([(3, 50)] : List (Nat × Nat)), pq_okV "PursuitDesk" 41 1 q.1 q.2 := pq_ac ⟨_, _, rfl, rfl, kM_50, Or.inl ⟨rfl, by (show _ = _); decide +kernel, (lw_in 225 (by decide +kernel) (by decide +kernel)), (lw_in 226 (by decide +kernel) (by decide +kernel)), (lw_in 227 (by decide +kernel) (by decide +kernel)), (lw_in 37 (by decide +kernel) (by decide +kernel))⟩⟩ (pq_an)
theorem kV_8_45 : ∀ q ∈ ([(5, 64)] : List (Nat × Nat)), pq_okV "PursuitDesk" 45 0 q.1 q.2 := pq_ac ⟨_, _, rfl, rfl, kM_64, Or.inl ⟨rfl, by (show _ = _); decide +kernel, (lw_in 282 (by decide +kernel) (by decide +kernel)), (lw_in 284 (by decide +kernel) (by decide +kernel)), (lw_in 2 (by decide +kernel) (by decide +kernel)), (lw_in 36 (by decide +kernel) (by decide +kernel))⟩⟩ (pq_an)
theorem kV_8_228 : ∀ q ∈ ([(5, 65)] : List (Nat × Nat)), pq_okV "PursuitDesk" 228 0 q.1 q.2 := pq_ac ⟨_, _, rfl, rfl, kM_65, Or.inl ⟨rfl, by (show _ = _); decide +kernel, (lw_in 286 (by decide +kernel) (by decide +kernel)), (lw_in 288 (by decide +kernel) (by decide +kernel)), (lw_in 3 (by decide +kernel) (by decide +kernel)), (lw_in 36 (by decide +kernel) (by decide +kernel))⟩⟩ (pq_an)
theorem kV_8_142 : ∀ q ∈ ([(3, 53)] : List (Nat × Nat)), pq_okV "PursuitDesk" 142 1 q.1 q.2 := pq_ac ⟨_, _, rfl, rfl, kM_53, Or.inl ⟨rfl, by (show _ = _); decide +kernel, (lw_in 290 (by decide +kernel) (by decide +kernel)), (lw_in 291 (by decide +kernel) (by decide +kernel)), (lw_in 292 (by decide +kernel) (by decide +kernel)), (lw_in 37 (by decide +kernel) (by decide +kernel))⟩⟩ (pq_an)
theorem kV_8_52 : ∀ q ∈ ([(5, 67)] : List (Nat × Nat)), pq_okV "PursuitDesk" 52 1 q.1 q.2 := pq_ac ⟨_, _, rfl, rfl, kM_67, Or.inl ⟨rfl, by (show _ = _); decide +kernel, (lw_in 311 (by decide +kernel) (by decide +kernel)), (lw_in 313 (by decide +kernel) (by decide +kernel)), (lw_in 4 (by decide +kernel) (by decide +kernel)), (lw_in 36 (by decide +kernel) (by decide +kernel))⟩⟩ (pq_an)
theorem kV_8_56 : ∀ q ∈ ([(3, 54)] : List (Nat × Nat)), pq_okV "PursuitDesk" 56 2 q.1 q.2 := pq_ac ⟨_, _, rfl, rfl, kM_54, Or.inl ⟨rfl, by (show _ = _); decide +kernel, (lw_in 315 (by decide +kernel) (by decide +kernel)), (lw_in 316 (by decide +kernel) (by decide +kernel)), (lw_in 317 (by decide +kernel) (by decide +kernel)), (lw_in 37 (by decide +kernel) (by decide +kernel))⟩⟩ (pq_an)
theorem kV_8_70 : ∀ q ∈ ([(3, 55)] : List (Nat × Nat)), pq_okV "PursuitDesk" 70 2 q.1 q.2 := pq_ac ⟨_, _, rfl, rfl, kM_55, Or.inl ⟨rfl, by (show _ = _); decide +kernel, (lw_in 323 (by decide +kernel) (by decide +kernel)), (lw_in 324 (by decide +kernel) (by decide +kernel)), (lw_in 325 (by decide +kernel) (by decide +kernel)), (lw_in 37 (by decide +kernel) (by decide +kernel))⟩⟩ (pq_an)
theorem kV_8_74 : ∀ q ∈ ([(5, 69)] : List (Nat × Nat)), pq_okV "PursuitDesk" 74 0 q.1 q.2 := pq_ac ⟨_, _, rfl, rfl, kM_69, Or.inl ⟨rfl, by (show _ = _); decide +kernel, (lw_in 334 (by decide +kernel) (by decide +kernel)), (lw_in 335 (by decide +kernel) (by decide +kernel)), (lw_in 336 (by decide +kernel) (by decide +kernel)), (lw_in 36 (by decide +kernel) (by decide +kernel))⟩⟩ (pq_an)
theorem kV_8_78 : ∀ q ∈ ([(5, 71)] : List (Nat × Nat)), pq_okV "PursuitDesk" 78 0 q.1 q.2 := pq_ac ⟨_, _, rfl, rfl, kM_71, Or.inl ⟨rfl, by (show _ = _); decide +kernel, (lw_in 342 (by decide +kernel) (by decide +kernel)), (lw_in 344 (by decide +kernel) (by decide +kernel)), (lw_in 6 (by decide +kernel) (by decide +kernel)), (lw_in 36 (by decide +kernel) (by decide +kernel))⟩⟩ (pq_an)
theorem kV_8_82 : ∀ q ∈ ([(3, 56)] : List (Nat × Nat)), pq_okV "PursuitDesk" 82 1 q.1 q.2 := pq_ac ⟨_, _, rfl, rfl, kM_56, Or.inl ⟨rfl, by (show _ = _); decide +kernel, (lw_in 346 (by decide +kernel) (by decide +kernel)), (lw_in 347 (by decide +kernel) (by decide +kernel)), (lw_in 348 (by decide +kernel) (by decide +kernel)), (lw_in 37 (by decide +kernel) (by decide +kernel))⟩⟩ (pq_an)
theorem kV_8_86 : ∀ q ∈ ([(3, 57)] : List (Nat × Nat)), pq_okV "PursuitDesk" 86 0 q.1 q.2 := pq_ac ⟨_, _, rfl, rfl, kM_57, Or.inl ⟨rfl, by (show _ = _); decide +kernel, (lw_in 350 (by decide +kernel) (by decide +kernel)), (lw_in 351 (by decide +kernel) (by decide +kernel)), (lw_in 352 (by decide +kernel) (by decide +kernel)), (lw_in 37 (by decide +kernel) (by decide +kernel))⟩⟩ (pq_an)
theorem kV_8_224 : ∀ q ∈ ([(5, 70)] : List (Nat × Nat)), pq_okV "PursuitDesk" 224 1 q.1 q.2 := pq_ac ⟨_, _, rfl, rfl, kM_70, Or.inl ⟨rfl, by (show _ = _); decide +kernel, (lw_in 338 (by decide +kernel) (by decide +kernel)), (lw_in 340 (by decide +kernel) (by decide +kernel)), (lw_in 5 (by decide +kernel) (by decide +kernel)), (lw_in 36 (by decide +kernel) (by decide +kernel))⟩⟩ (pq_an)
theorem kV_8_92 : ∀ q ∈ ([(3, 58)] : List (Nat × Nat)), pq_okV "PursuitDesk" 92 1 q.1 q.2 := pq_ac ⟨_, _, rfl, rfl, kM_58, Or.inl ⟨rfl, by (show _ = _); decide +kernel, (lw_in 364 (by decide +kernel) (by decide +kernel)), (lw_in 365 (by decide +kernel) (by decide +kernel)), (lw_in 366 (by decide +kernel) (by decide +kernel)), (lw_in 37 (by decide +kernel) (by decide +kernel))⟩⟩ (pq_an)
theorem kV_8_95 : ∀ q ∈ ([(5, 75)] : List (Nat × Nat)), pq_okV "PursuitDesk" 95 1 q.1 q.2 := pq_ac ⟨_, _, rfl, rfl, kM_75, Or.inl ⟨rfl, by (show _ = _); decide +kernel, (lw_in 393 (by decide +kernel) (by decide +kernel)), (lw_in 395 (by decide +kernel) (by decide +kernel)), (lw_in 8 (by decide +kernel) (by decide +kernel)), (lw_in 36 (by decide +kernel) (by decide +kernel))⟩⟩ (pq_an)
theorem kV_8_105 : ∀ q ∈ ([(3, 51)] : List (Nat × Nat)), pq_okV "PursuitDesk" 105 0 q.1 q.2 := pq_ac ⟨_, _, rfl, rfl, kM_51, Or.inl ⟨rfl, by (show _ = _); decide +kernel, (lw_in 401 (by decide +kernel) (by decide +kernel)), (lw_in 236 (by decide +kernel) (by decide +kernel)), (lw_in 237 (by decide +kernel) (by decide +kernel)), (lw_in 37 (by decide +kernel) (by decide +kernel))⟩⟩ (pq_an)
theorem kV_8_108 : ∀ q ∈ ([(5, 77)] : List (Nat × Nat)), pq_okV "PursuitDesk" 108 0 q.1 q.2 := pq_ac ⟨_, _, rfl, rfl, kM_77, Or.inl ⟨rfl, by (show _ = _); decide +kernel, (lw_in 402 (by decide +kernel) (by decide +kernel)), (lw_in 403 (by decide +kernel) (by decide +kernel)), (lw_in 404 (by decide +kernel) (by decide +kernel)), (lw_in 36 (by decide +kernel) (by decide +kernel))⟩⟩ (pq_an)
theorem kV_8_118 : ∀ q ∈ ([(0, 15)] : List (Nat × Nat)), pq_okV "PursuitDesk" 118 1 q.1 q.2 := pq_ac ⟨_, _, rfl, rfl, kM_15, Or.inl ⟨rfl, by (show _ = _); decide +kernel, (lw_in 406 (by decide +kernel) (by decide +kernel)), (lw_in 407 (by decide +kernel) (by decide +kernel)), (lw_in 408 (by decide +kernel) (by decide +kernel)), (lw_in 38 (by decide +kernel) (by decide +kernel))⟩⟩ (pq_an)
theorem kV_8_124 : ∀ q ∈ ([(0, 16)] : List (Nat × Nat)), pq_okV "PursuitDesk" 124 1 q.1 q.2 := pq_ac ⟨_, _, rfl, rfl, kM_16, Or.inl ⟨rfl, by (show _ = _); decide +kernel, (lw_in 415 (by decide +kernel) (by decide +kernel)), (lw_in 416 (by decide +kernel) (by decide +kernel)), (lw_in 417 (by decide +kernel) (by decide +kernel)), (lw_in 38 (by decide +kernel) (by decide +kernel))⟩⟩ (pq_an)
theorem kV_8_130 : ∀ q ∈ ([(0, 17)] : List (Nat × Nat)), pq_okV "PursuitDesk" 130 2 q.1 q.2 := pq_ac ⟨_, _, rfl, rfl, kM_17, Or.inl ⟨rfl, by (show _ = _); decide +kernel, (lw_in 426 (by decide +kernel) (by decide +kernel)), (lw_in 427 (by decide +kernel) (by decide +kernel)), (lw_in 428 (by decide +kernel) (by decide +kernel)), (lw_in 38 (by decide +kernel) (by decide +kernel))⟩⟩ (pq_an)
theorem kV_8_133 : ∀ q ∈ ([(3, 59)] : List (Nat × Nat)), pq_okV "PursuitDesk" 133 0 q.1 q.2 := pq_ac ⟨_, _, rfl, rfl, kM_59, Or.inl ⟨rfl, by (show _ = _); decide +kernel, (lw_in 447 (by decide +kernel) (by decide +kernel)), (lw_in 448 (by decide +kernel) (by decide +kernel)), (lw_in 449 (by decide +kernel) (by decide +kernel)), (lw_in 37 (by decide +kernel) (by decide +kernel))⟩⟩ (pq_an)
theorem kV_8_136 : ∀ q ∈ ([(3, 61)] : List (Nat × Nat)), pq_okV "PursuitDesk" 136 0 q.1 q.2 := pq_ac ⟨_, _, rfl, rfl, kM_61, Or.inl ⟨rfl, by (show _ = _); decide +kernel, (lw_in 472 (by decide +kernel) (by decide +kernel)), (lw_in 473 (by decide +kernel) (by decide +kernel)), (lw_in 474 (by decide +kernel) (by decide +kernel)), (lw_in 37 (by decide +kernel) (by decide +kernel))⟩⟩ (pq_an)
theorem kV_8_163 : ∀ q ∈ ([(3, 52)] : List (Nat × Nat)), pq_okV "PursuitDesk" 163 0 q.1 q.2 := pq_ac ⟨_, _, rfl, rfl, kM_52, Or.inl ⟨rfl, by (show _ = _); decide +kernel, (lw_in 505 (by decide +kernel) (by decide +kernel)), (lw_in 240 (by decide +kernel) (by decide +kernel)), (lw_in 241 (by decide +kernel) (by decide +kernel)), (lw_in 37 (by decide +kernel) (by decide +kernel))⟩⟩ (pq_an)
theorem kV_8_170 : ∀ q ∈ ([(1, 26)] : List (Nat × Nat)), pq_okV "PursuitDesk" 170 2 q.1 q.2 := pq_ac ⟨_, _, rfl, rfl, kM_26, Or.inl ⟨rfl, by (show _ = _); decide +kernel, (lw_in 506 (by decide +kernel) (by decide +kernel)), (lw_in 507 (by decide +kernel) (by decide +kernel)), (lw_in 508 (by decide +kernel) (by decide +kernel)), (lw_in 39 (by decide +kernel) (by decide +kernel))⟩⟩ (pq_an)
theorem kV_8_175 : ∀ q ∈ ([(1, 21)] : List (Nat × Nat)), pq_okV "PursuitDesk" 175 0 q.1 q.2 := pq_ac ⟨_, _, rfl, rfl, kM_21, Or.inl ⟨rfl, by (show _ = _); decide +kernel, (lw_in 514 (by decide +kernel) (by decide +kernel)), (lw_in 373 (by decide +kernel) (by decide +kernel)), (lw_in 374 (by decide +kernel) (by decide +kernel)), (lw_in 39 (by decide +kernel) (by decide +kernel))⟩⟩ (pq_an)
theorem kV_8_187 : ∀ q ∈ ([(1, 27)] : List (Nat × Nat)), pq_okV "PursuitDesk" 187 1 q.1 q.2 := pq_ac ⟨_, _, rfl, rfl, kM_27, Or.inl ⟨rfl, by (show _ = _); decide +kernel, (lw_in 523 (by decide +kernel) (by decide +kernel)), (lw_in 524 (by decide +kernel) (by decide +kernel)), (lw_in 525 (by decide +kernel) (by decide +kernel)), (lw_in 39 (by decide +kernel) (by decide +kernel))⟩⟩ (pq_an)
theorem kV_8_190 : ∀ q ∈ ([(3, 60)] : List (Nat × Nat)), pq_okV "PursuitDesk" 190 1 q.1 q.2 := pq_ac ⟨_, _, rfl, rfl, kM_60, Or.inl ⟨rfl, by (show _ = _); decide +kernel, (lw_in 531 (by decide +kernel) (by decide +kernel)), (lw_in 452 (by decide +kernel) (by decide +kernel)), (lw_in 453 (by decide +kernel) (by decide +kernel)), (lw_in 37 (by decide +kernel) (by decide +kernel))⟩⟩ (pq_an)
theorem kV_8_197 : ∀ q ∈ ([(5, 91)] : List (Nat × Nat)), pq_okV "PursuitDesk" 197 0 q.1 q.2 := pq_ac ⟨_, _, rfl, rfl, kM_91, Or.inl ⟨rfl, by (show _ = _); decide +kernel, (lw_in 537 (by decide +kernel) (by decide +kernel)), (lw_in 539 (by decide +kernel) (by decide +kernel)), (lw_in 9 (by decide +kernel) (by decide +kernel)), (lw_in 36 (by decide +kernel) (by decide +kernel))⟩⟩ (pq_an)
theorem kV_8_200 : ∀ q ∈ ([(4, 41)] : List (Nat × Nat)), pq_okV "PursuitDesk" 200 0 q.1 q.2 := pq_ac ⟨_, _, rfl, rfl, kM_41, Or.inl ⟨rfl, by (show _ = _); decide +kernel, (lw_in 612 (by decide +kernel) (by decide +kernel)), (lw_in 613 (by decide +kernel) (by decide +kernel)), (lw_in 614 (by decide +kernel) (by decide +kernel)), (lw_in 41 (by decide +kernel) (by decide +kernel))⟩⟩ (pq_an)
theorem kV_8_231 : ∀ q ∈ ([(4, 29)] : List (Nat × Nat)), pq_okV "PursuitDesk" 231 3 q.1 q.2 := pq_ac ⟨_, _, rfl, rfl, kM_29, Or.inr ⟨"PursuitDesk$Search", (⟨"PursuitDesk$TurnSearch", "prepare", "(IJI)V"⟩ : MethodName), ⟨by decide +kernel, by decide +kernel⟩, by (show _ = _); decide +kernel, (lw_in 541 (by decide +kernel) (by decide +kernel)), (lw_in 542 (by decide +kernel) (by decide +kernel)), (lw_in 544 (by decide +kernel) (by decide +kernel)), (lw_in 545 (by decide +kernel) (by decide +kernel)), (lw_in 40 (by decide +kernel) (by decide +kernel)), Or.inl rfl⟩⟩ (pq_an)
theorem kV_8_232 : ∀ q ∈ ([(4, 37)] : List (Nat × Nat)), pq_okV "PursuitDesk" 232 0 q.1 q.2 := pq_ac ⟨_, _, rfl, rfl, kM_37, Or.inl ⟨rfl, by (show _ = _); decide +kernel, (lw_in 547 (by decide +kernel) (by decide +kernel)), (lw_in 548 (by decide +kernel) (by decide +kernel)), (lw_in 549 (by decide +kernel) (by decide +kernel)), (lw_in 41 (by decide +kernel) (by decide +kernel))⟩⟩ (pq_an)
theorem kV_8_235 : ∀ q ∈ ([(4, 32)] : List (Nat × Nat)), pq_okV "PursuitDesk" 235 2 q.1 q.2 := pq_ac ⟨_, _, rfl, rfl, kM_32, Or.inr ⟨"PursuitDesk$Search", (⟨"PursuitDesk$TurnSearch", "numberOf", "([II)I"⟩ : MethodName), ⟨by decide +kernel, by decide +kernel⟩, by (show _ = _); decide +kernel, (lw_in 563 (by decide +kernel) (by decide +kernel)), (lw_in 564 (by decide +kernel) (by decide +kernel)), (lw_in 566 (by decide +kernel) (by decide +kernel)), (lw_in 567 (by decide +kernel) (by decide +kernel)), (lw_in 40 (by decide +kernel) (by decide +kernel)), Or.inl rfl⟩⟩ (pq_an)
theorem kV_8_236 : ∀ q ∈ ([(4, 38)] : List (Nat × Nat)), pq_okV "PursuitDesk" 236 2 q.1 q.2 := pq_ac ⟨_, _, rfl, rfl, kM_38, Or.inl ⟨rfl, by (show _ = _); decide +kernel, (lw_in 569 (by decide +kernel) (by decide +kernel)), (lw_in 570 (by decide +kernel) (by decide +kernel)), (lw_in 571 (by decide +kernel) (by decide +kernel)), (lw_in 41 (by decide +kernel) (by decide +kernel))⟩⟩ (pq_an)
theorem kV_8_239 : ∀ q ∈ ([(4, 39)] : List (Nat × Nat)), pq_okV "PursuitDesk" 239 0 q.1 q.2 := pq_ac ⟨_, _, rfl, rfl, kM_39, Or.inl ⟨rfl, by (show _ = _); decide +kernel, (lw_in 573 (by decide +kernel) (by decide +kernel)), (lw_in 574 (by decide +kernel) (by decide +kernel)), (lw_in 575 (by decide +kernel) (by decide +kernel)), (lw_in 41 (by decide +kernel) (by decide +kernel))⟩⟩ (pq_an)
theorem kV_8_203 : ∀ q ∈ ([(4, 42)] : List (Nat × Nat)), pq_okV "PursuitDesk" 203 2 q.1 q.2 := pq_ac ⟨_, _, rfl, rfl, kM_42, Or.inl ⟨rfl, by (show _ = _); decide +kernel, (lw_in 620 (by decide +kernel) (by decide +kernel)), (lw_in 621 (by decide +kernel) (by decide +kernel)), (lw_in 622 (by decide +kernel) (by decide +kernel)), (lw_in 41 (by decide +kernel) (by decide +kernel))⟩⟩ (pq_an)
theorem kV_8_207 : ∀ q ∈ ([(2, 29)] : List (Nat × Nat)), pq_okV "PursuitDesk" 207 3 q.1 q.2 := pq_ac ⟨_, _, rfl, rfl, kM_29, Or.inr ⟨"PursuitDesk$Search", (⟨"PursuitDesk$MoveSearch", "prepare", "(IJI)V"⟩ : MethodName), ⟨by decide +kernel, by decide +kernel⟩, by (show _ = _); decide +kernel, (lw_in 633 (by decide +kernel) (by decide +kernel)), (lw_in 634 (by decide +kernel) (by decide +kernel)), (lw_in 635 (by decide +kernel) (by decide +kernel)), (lw_in 545 (by decide +kernel) (by decide +kernel)), (lw_in 40 (by decide +kernel) (by decide +kernel)), Or.inl rfl⟩⟩ (pq_an)
theorem kV_8_211 : ∀ q ∈ ([(2, 32)] : List (Nat × Nat)), pq_okV "PursuitDesk" 211 2 q.1 q.2 := pq_ac ⟨_, _, rfl, rfl, kM_32, Or.inr ⟨"PursuitDesk$Search", (⟨"PursuitDesk$MoveSearch", "numberOf", "([II)I"⟩ : MethodName), ⟨by decide +kernel, by decide +kernel⟩, by (show _ = _); decide +kernel, (lw_in 636 (by decide +kernel) (by decide +kernel)), (lw_in 637 (by decide +kernel) (by decide +kernel)), (lw_in 638 (by decide +kernel) (by decide +kernel)), (lw_in 567 (by decide +kernel) (by decide +kernel)), (lw_in 40 (by decide +kernel) (by decide +kernel)), Or.inl rfl⟩⟩ (pq_an)
theorem kV_8_215 : ∀ q ∈ ([(2, 47)] : List (Nat × Nat)), pq_okV "PursuitDesk" 215 1 q.1 q.2 := pq_ac ⟨_, _, rfl, rfl, kM_47, Or.inl ⟨rfl, by (show _ = _); decide +kernel, (lw_in 639 (by decide +kernel) (by decide +kernel)), (lw_in 640 (by decide +kernel) (by decide +kernel)), (lw_in 641 (by decide +kernel) (by decide +kernel)), (lw_in 42 (by decide +kernel) (by decide +kernel))⟩⟩ (pq_an)
theorem kV_8_218 : ∀ q ∈ ([(5, 96)] : List (Nat × Nat)), pq_okV "PursuitDesk" 218 1 q.1 q.2 := pq_ac ⟨_, _, rfl, rfl, kM_96, Or.inl ⟨rfl, by (show _ = _); decide +kernel, (lw_in 666 (by decide +kernel) (by decide +kernel)), (lw_in 668 (by decide +kernel) (by decide +kernel)), (lw_in 11 (by decide +kernel) (by decide +kernel)), (lw_in 36 (by decide +kernel) (by decide +kernel))⟩⟩ (pq_an)
theorem kV_8_242 : ∀ q ∈ ([(4, 43)] : List (Nat × Nat)), pq_okV "PursuitDesk" 242 0 q.1 q.2 := pq_ac ⟨_, _, rfl, rfl, kM_43, Or.inl ⟨rfl, by (show _ = _); decide +kernel, (lw_in 670 (by decide +kernel) (by decide +kernel)), (lw_in 671 (by decide +kernel) (by decide +kernel)), (lw_in 672 (by decide +kernel) (by decide +kernel)), (lw_in 41 (by decide +kernel) (by decide +kernel))⟩⟩ (pq_an)
theorem kV_9_42 : ∀ q ∈ ([(6, 101)] : List (Nat × Nat)), pq_okV "PursuitDeskModel" 42 0 q.1 q.2 := pq_ac ⟨_, _, rfl, rfl, kM_101, Or.inl ⟨rfl, by (show _ = _); decide +kernel, (lw_in 701 (by decide +kernel) (by decide +kernel)), (lw_in 703 (by decide +kernel) (by decide +kernel)), (lw_in 13 (by decide +kernel) (by decide +kernel)), (lw_in 44 (by decide +kernel) (by decide +kernel))⟩⟩ (pq_an)
theorem kV_9_49 : ∀ q ∈ ([(6, 102)] : List (Nat × Nat)), pq_okV "PursuitDeskModel" 49 0 q.1 q.2 := pq_ac ⟨_, _, rfl, rfl, kM_102, Or.inl ⟨rfl, by (show _ = _); decide +kernel, (lw_in 705 (by decide +kernel) (by decide +kernel)), (lw_in 707 (by decide +kernel) (by decide +kernel)), (lw_in 14 (by decide +kernel) (by decide +kernel)), (lw_in 44 (by decide +kernel) (by decide +kernel))⟩⟩ (pq_an)
theorem kV_9_57 : ∀ q ∈ ([(6, 105)] : List (Nat × Nat)), pq_okV "PursuitDeskModel" 57 0 q.1 q.2 := pq_ac ⟨_, _, rfl, rfl, kM_105, Or.inl ⟨rfl, by (show _ = _); decide +kernel, (lw_in 753 (by decide +kernel) (by decide +kernel)), (lw_in 755 (by decide +kernel) (by decide +kernel)), (lw_in 15 (by decide +kernel) (by decide +kernel)), (lw_in 44 (by decide +kernel) (by decide +kernel))⟩⟩ (pq_an)
theorem kV_9_60 : ∀ q ∈ ([(6, 107)] : List (Nat × Nat)), pq_okV "PursuitDeskModel" 60 1 q.1 q.2 := pq_ac ⟨_, _, rfl, rfl, kM_107, Or.inl ⟨rfl, by (show _ = _); decide +kernel, (lw_in 761 (by decide +kernel) (by decide +kernel)), (lw_in 763 (by decide +kernel) (by decide +kernel)), (lw_in 16 (by decide +kernel) (by decide +kernel)), (lw_in 44 (by decide +kernel) (by decide +kernel))⟩⟩ (pq_an)
theorem kV_9_64 : ∀ q ∈ ([(6, 108)] : List (Nat × Nat)), pq_okV "PursuitDeskModel" 64 3 q.1 q.2 := pq_ac ⟨_, _, rfl, rfl, kM_108, Or.inl ⟨rfl, by (show _ = _); decide +kernel, (lw_in 765 (by decide +kernel) (by decide +kernel)), (lw_in 767 (by decide +kernel) (by decide +kernel)), (lw_in 17 (by decide +kernel) (by decide +kernel)), (lw_in 44 (by decide +kernel) (by decide +kernel))⟩⟩ (pq_an)
theorem kV_9_68 : ∀ q ∈ ([(6, 109)] : List (Nat × Nat)), pq_okV "PursuitDeskModel" 68 2 q.1 q.2 := pq_ac ⟨_, _, rfl, rfl, kM_109, Or.inl ⟨rfl, by (show _ = _); decide +kernel, (lw_in 769 (by decide +kernel) (by decide +kernel)), (lw_in 771 (by decide +kernel) (by decide +kernel)), (lw_in 18 (by decide +kernel) (by decide +kernel)), (lw_in 44 (by decide +kernel) (by decide +kernel))⟩⟩ (pq_an)
theorem kV_9_72 : ∀ q ∈ ([(6, 111)] : List (Nat × Nat)), pq_okV "PursuitDeskModel" 72 0 q.1 q.2 := pq_ac ⟨_, _, rfl, rfl, kM_111, Or.inl ⟨rfl, by (show _ = _); decide +kernel, (lw_in 777 (by decide +kernel) (by decide +kernel)), (lw_in 779 (by decide +kernel) (by decide +kernel)), (lw_in 19 (by decide +kernel) (by decide +kernel)), (lw_in 44 (by decide +kernel) (by decide +kernel))⟩⟩ (pq_an)
theorem kV_9_75 : ∀ q ∈ ([(6, 114)] : List (Nat × Nat)), pq_okV "PursuitDeskModel" 75 1 q.1 q.2 := pq_ac ⟨_, _, rfl, rfl, kM_114, Or.inl ⟨rfl, by (show _ = _); decide +kernel, (lw_in 789 (by decide +kernel) (by decide +kernel)), (lw_in 791 (by decide +kernel) (by decide +kernel)), (lw_in 20 (by decide +kernel) (by decide +kernel)), (lw_in 44 (by decide +kernel) (by decide +kernel))⟩⟩ (pq_an)
theorem kV_9_78 : ∀ q ∈ ([(6, 118)] : List (Nat × Nat)), pq_okV "PursuitDeskModel" 78 1 q.1 q.2 := pq_ac ⟨_, _, rfl, rfl, kM_118, Or.inl ⟨rfl, by (show _ = _); decide +kernel, (lw_in 805 (by decide +kernel) (by decide +kernel)), (lw_in 807 (by decide +kernel) (by decide +kernel)), (lw_in 21 (by decide +kernel) (by decide +kernel)), (lw_in 44 (by decide +kernel) (by decide +kernel))⟩⟩ (pq_an)
theorem kV_9_86 : ∀ q ∈ ([(6, 120)] : List (Nat × Nat)), pq_okV "PursuitDeskModel" 86 2 q.1 q.2 := pq_ac ⟨_, _, rfl, rfl, kM_120, Or.inl ⟨rfl, by (show _ = _); decide +kernel, (lw_in 813 (by decide +kernel) (by decide +kernel)), (lw_in 815 (by decide +kernel) (by decide +kernel)), (lw_in 22 (by decide +kernel) (by decide +kernel)), (lw_in 44 (by decide +kernel) (by decide +kernel))⟩⟩ (pq_an)
theorem kV_9_90 : ∀ q ∈ ([(6, 116)] : List (Nat × Nat)), pq_okV "PursuitDeskModel" 90 0 q.1 q.2 := pq_ac ⟨_, _, rfl, rfl, kM_116, Or.inl ⟨rfl, by (show _ = _); decide +kernel, (lw_in 821 (by decide +kernel) (by decide +kernel)), (lw_in 798 (by decide +kernel) (by decide +kernel)), (lw_in 799 (by decide +kernel) (by decide +kernel)), (lw_in 44 (by decide +kernel) (by decide +kernel))⟩⟩ (pq_an)
theorem kV_9_82 : ∀ q ∈ ([(6, 121)] : List (Nat × Nat)), pq_okV "PursuitDeskModel" 82 2 q.1 q.2 := pq_ac ⟨_, _, rfl, rfl, kM_121, Or.inl ⟨rfl, by (show _ = _); decide +kernel, (lw_in 817 (by decide +kernel) (by decide +kernel)), (lw_in 819 (by decide +kernel) (by decide +kernel)), (lw_in 23 (by decide +kernel) (by decide +kernel)), (lw_in 44 (by decide +kernel) (by decide +kernel))⟩⟩ (pq_an)
theorem kV_9_93 : ∀ q ∈ ([(6, 123)] : List (Nat × Nat)), pq_okV "PursuitDeskModel" 93 0 q.1 q.2 := pq_ac ⟨_, _, rfl, rfl, kM_123, Or.inl ⟨rfl, by (show _ = _); decide +kernel, (lw_in 826 (by decide +kernel) (by decide +kernel)), (lw_in 828 (by decide +kernel) (by decide +kernel)), (lw_in 24 (by decide +kernel) (by decide +kernel)), (lw_in 44 (by decide +kernel) (by decide +kernel))⟩⟩ (pq_an)
theorem kV_9_96 : ∀ q ∈ ([(6, 124)] : List (Nat × Nat)), pq_okV "PursuitDeskModel" 96 0 q.1 q.2 := pq_ac ⟨_, _, rfl, rfl, kM_124, Or.inl ⟨rfl, by (show _ = _); decide +kernel, (lw_in 830 (by decide +kernel) (by decide +kernel)), (lw_in 832 (by decide +kernel) (by decide +kernel)), (lw_in 25 (by decide +kernel) (by decide +kernel)), (lw_in 44 (by decide +kernel) (by decide +kernel))⟩⟩ (pq_an)
theorem kV_9_99 : ∀ q ∈ ([(6, 125)] : List (Nat × Nat)), pq_okV "PursuitDeskModel" 99 0 q.1 q.2 := pq_ac ⟨_, _, rfl, rfl, kM_125, Or.inl ⟨rfl, by (show _ = _); decide +kernel, (lw_in 834 (by decide +kernel) (by decide +kernel)), (lw_in 836 (by decide +kernel) (by decide +kernel)), (lw_in 26 (by decide +kernel) (by decide +kernel)), (lw_in 44 (by decide +kernel) (by decide +kernel))⟩⟩ (pq_an)
theorem kV_9_102 : ∀ q ∈ ([(6, 128)] : List (Nat × Nat)), pq_okV "PursuitDeskModel" 102 0 q.1 q.2 := pq_ac ⟨_, _, rfl, rfl, kM_128, Or.inl ⟨rfl, by (show _ = _); decide +kernel, (lw_in 846 (by decide +kernel) (by decide +kernel)), (lw_in 848 (by decide +kernel) (by decide +kernel)), (lw_in 27 (by decide +kernel) (by decide +kernel)), (lw_in 44 (by decide +kernel) (by decide +kernel))⟩⟩ (pq_an)
theorem kV_9_124 : ∀ q ∈ ([(6, 138)] : List (Nat × Nat)), pq_okV "PursuitDeskModel" 124 0 q.1 q.2 := pq_ac ⟨_, _, rfl, rfl, kM_138, Or.inl ⟨rfl, by (show _ = _); decide +kernel, (lw_in 886 (by decide +kernel) (by decide +kernel)), (lw_in 888 (by decide +kernel) (by decide +kernel)), (lw_in 28 (by decide +kernel) (by decide +kernel)), (lw_in 44 (by decide +kernel) (by decide +kernel))⟩⟩ (pq_an)
theorem kV_9_115 : ∀ q ∈ ([(6, 139)] : List (Nat × Nat)), pq_okV "PursuitDeskModel" 115 0 q.1 q.2 := pq_ac ⟨_, _, rfl, rfl, kM_139, Or.inl ⟨rfl, by (show _ = _); decide +kernel, (lw_in 890 (by decide +kernel) (by decide +kernel)), (lw_in 892 (by decide +kernel) (by decide +kernel)), (lw_in 29 (by decide +kernel) (by decide +kernel)), (lw_in 44 (by decide +kernel) (by decide +kernel))⟩⟩ (pq_an)
theorem kV_9_118 : ∀ q ∈ ([(6, 140)] : List (Nat × Nat)), pq_okV "PursuitDeskModel" 118 0 q.1 q.2 := pq_ac ⟨_, _, rfl, rfl, kM_140, Or.inl ⟨rfl, by (show _ = _); decide +kernel, (lw_in 894 (by decide +kernel) (by decide +kernel)), (lw_in 896 (by decide +kernel) (by decide +kernel)), (lw_in 30 (by decide +kernel) (by decide +kernel)), (lw_in 44 (by decide +kernel) (by decide +kernel))⟩⟩ (pq_an)
theorem kV_9_121 : ∀ q ∈ ([(6, 142)] : List (Nat × Nat)), pq_okV "PursuitDeskModel" 121 2 q.1 q.2 := pq_ac ⟨_, _, rfl, rfl, kM_142, Or.inl ⟨rfl, by (show _ = _); decide +kernel, (lw_in 901 (by decide +kernel) (by decide +kernel)), (lw_in 903 (by decide +kernel) (by decide +kernel)), (lw_in 31 (by decide +kernel) (by decide +kernel)), (lw_in 44 (by decide +kernel) (by decide +kernel))⟩⟩ (pq_an)
theorem kV_9_112 : ∀ q ∈ ([(6, 144)] : List (Nat × Nat)), pq_okV "PursuitDeskModel" 112 3 q.1 q.2 := pq_ac ⟨_, _, rfl, rfl, kM_144, Or.inl ⟨rfl, by (show _ = _); decide +kernel, (lw_in 908 (by decide +kernel) (by decide +kernel)), (lw_in 910 (by decide +kernel) (by decide +kernel)), (lw_in 32 (by decide +kernel) (by decide +kernel)), (lw_in 44 (by decide +kernel) (by decide +kernel))⟩⟩ (pq_an)
theorem kV_9_130 : ∀ q ∈ ([(6, 149)] : List (Nat × Nat)), pq_okV "PursuitDeskModel" 130 1 q.1 q.2 := pq_ac ⟨_, _, rfl, rfl, kM_149, Or.inl ⟨rfl, by (show _ = _); decide +kernel, (lw_in 927 (by decide +kernel) (by decide +kernel)), (lw_in 929 (by decide +kernel) (by decide +kernel)), (lw_in 33 (by decide +kernel) (by decide +kernel)), (lw_in 44 (by decide +kernel) (by decide +kernel))⟩⟩ (pq_an)
theorem kV_9_136 : ∀ q ∈ ([(6, 154)] : List (Nat × Nat)), pq_okV "PursuitDeskModel" 136 1 q.1 q.2 := pq_ac ⟨_, _, rfl, rfl, kM_154, Or.inl ⟨rfl, by (show _ = _); decide +kernel, (lw_in 947 (by decide +kernel) (by decide +kernel)), (lw_in 949 (by decide +kernel) (by decide +kernel)), (lw_in 34 (by decide +kernel) (by decide +kernel)), (lw_in 44 (by decide +kernel) (by decide +kernel))⟩⟩ (pq_an)
theorem kV_9_139 : ∀ q ∈ ([(6, 153)] : List (Nat × Nat)), pq_okV "PursuitDeskModel" 139 0 q.1 q.2 := pq_ac ⟨_, _, rfl, rfl, kM_153, Or.inl ⟨rfl, by (show _ = _); decide +kernel, (lw_in 955 (by decide +kernel) (by decide +kernel)), (lw_in 944 (by decide +kernel) (by decide +kernel)), (lw_in 945 (by decide +kernel) (by decide +kernel)), (lw_in 44 (by decide +kernel) (by decide +kernel))⟩⟩ (pq_an)
theorem kV_10_13 : ∀ q ∈ ([(5, 63)] : List (Nat × Nat)), pq_okV "PursuitDeskLaw" 13 1 q.1 q.2 := pq_ac ⟨_, _, rfl, rfl, kM_63, Or.inl ⟨rfl, by (show _ = _); decide +kernel, (lw_in 278 (by decide +kernel) (by decide +kernel)), (lw_in 279 (by decide +kernel) (by decide +kernel)), (lw_in 280 (by decide +kernel) (by decide +kernel)), (lw_in 36 (by decide +kernel) (by decide +kernel))⟩⟩ (pq_an)
theorem kV_10_17 : ∀ q ∈ ([(6, 103)] : List (Nat × Nat)), pq_okV "PursuitDeskLaw" 17 1 q.1 q.2 := pq_ac ⟨_, _, rfl, rfl, kM_103, Or.inl ⟨rfl, by (show _ = _); decide +kernel, (lw_in 746 (by decide +kernel) (by decide +kernel)), (lw_in 747 (by decide +kernel) (by decide +kernel)), (lw_in 748 (by decide +kernel) (by decide +kernel)), (lw_in 44 (by decide +kernel) (by decide +kernel))⟩⟩ (pq_an)
theorem kV_10_18 : ∀ q ∈ ([(5, 66)] : List (Nat × Nat)), pq_okV "PursuitDeskLaw" 18 3 q.1 q.2 := pq_ac ⟨_, _, rfl, rfl, kM_66, Or.inl ⟨rfl, by (show _ = _); decide +kernel, (lw_in 307 (by decide +kernel) (by decide +kernel)), (lw_in 308 (by decide +kernel) (by decide +kernel)), (lw_in 309 (by decide +kernel) (by decide +kernel)), (lw_in 36 (by decide +kernel) (by decide +kernel))⟩⟩ (pq_an)
theorem kV_10_22 : ∀ q ∈ ([(6, 106)] : List (Nat × Nat)), pq_okV "PursuitDeskLaw" 22 3 q.1 q.2 := pq_ac ⟨_, _, rfl, rfl, kM_106, Or.inl ⟨rfl, by (show _ = _); decide +kernel, (lw_in 757 (by decide +kernel) (by decide +kernel)), (lw_in 758 (by decide +kernel) (by decide +kernel)), (lw_in 759 (by decide +kernel) (by decide +kernel)), (lw_in 44 (by decide +kernel) (by decide +kernel))⟩⟩ (pq_an)
theorem kV_10_23 : ∀ q ∈ ([(5, 68)] : List (Nat × Nat)), pq_okV "PursuitDeskLaw" 23 0 q.1 q.2 := pq_ac ⟨_, _, rfl, rfl, kM_68, Or.inl ⟨rfl, by (show _ = _); decide +kernel, (lw_in 330 (by decide +kernel) (by decide +kernel)), (lw_in 331 (by decide +kernel) (by decide +kernel)), (lw_in 332 (by decide +kernel) (by decide +kernel)), (lw_in 36 (by decide +kernel) (by decide +kernel))⟩⟩ (pq_an)
theorem kV_10_27 : ∀ q ∈ ([(6, 155)] : List (Nat × Nat)), pq_okV "PursuitDeskLaw" 27 0 q.1 q.2 := pq_ac ⟨_, _, rfl, rfl, kM_155, Or.inl ⟨rfl, by (show _ = _); decide +kernel, (lw_in 951 (by decide +kernel) (by decide +kernel)), (lw_in 952 (by decide +kernel) (by decide +kernel)), (lw_in 953 (by decide +kernel) (by decide +kernel)), (lw_in 44 (by decide +kernel) (by decide +kernel))⟩⟩ (pq_an)
theorem kV_10_28 : ∀ q ∈ ([(5, 72)] : List (Nat × Nat)), pq_okV "PursuitDeskLaw" 28 1 q.1 q.2 := pq_ac ⟨_, _, rfl, rfl, kM_72, Or.inl ⟨rfl, by (show _ = _); decide +kernel, (lw_in 360 (by decide +kernel) (by decide +kernel)), (lw_in 361 (by decide +kernel) (by decide +kernel)), (lw_in 362 (by decide +kernel) (by decide +kernel)), (lw_in 36 (by decide +kernel) (by decide +kernel))⟩⟩ (pq_an)
theorem kV_10_31 : ∀ q ∈ ([(6, 110)] : List (Nat × Nat)), pq_okV "PursuitDeskLaw" 31 1 q.1 q.2 := pq_ac ⟨_, _, rfl, rfl, kM_110, Or.inl ⟨rfl, by (show _ = _); decide +kernel, (lw_in 773 (by decide +kernel) (by decide +kernel)), (lw_in 774 (by decide +kernel) (by decide +kernel)), (lw_in 775 (by decide +kernel) (by decide +kernel)), (lw_in 44 (by decide +kernel) (by decide +kernel))⟩⟩ (pq_an)
theorem kV_10_32 : ∀ q ∈ ([(5, 73)] : List (Nat × Nat)), pq_okV "PursuitDeskLaw" 32 0 q.1 q.2 := pq_ac ⟨_, _, rfl, rfl, kM_73, Or.inl ⟨rfl, by (show _ = _); decide +kernel, (lw_in 385 (by decide +kernel) (by decide +kernel)), (lw_in 386 (by decide +kernel) (by decide +kernel)), (lw_in 387 (by decide +kernel) (by decide +kernel)), (lw_in 36 (by decide +kernel) (by decide +kernel))⟩⟩ (pq_an)
theorem kV_10_35 : ∀ q ∈ ([(6, 112)] : List (Nat × Nat)), pq_okV "PursuitDeskLaw" 35 0 q.1 q.2 := pq_ac ⟨_, _, rfl, rfl, kM_112, Or.inl ⟨rfl, by (show _ = _); decide +kernel, (lw_in 781 (by decide +kernel) (by decide +kernel)), (lw_in 782 (by decide +kernel) (by decide +kernel)), (lw_in 783 (by decide +kernel) (by decide +kernel)), (lw_in 44 (by decide +kernel) (by decide +kernel))⟩⟩ (pq_an)
theorem kV_10_36 : ∀ q ∈ ([(5, 74)] : List (Nat × Nat)), pq_okV "PursuitDeskLaw" 36 2 q.1 q.2 := pq_ac ⟨_, _, rfl, rfl, kM_74, Or.inl ⟨rfl, by (show _ = _); decide +kernel, (lw_in 389 (by decide +kernel) (by decide +kernel)), (lw_in 390 (by decide +kernel) (by decide +kernel)), (lw_in 391 (by decide +kernel) (by decide +kernel)), (lw_in 36 (by decide +kernel) (by decide +kernel))⟩⟩ (pq_an)
theorem kV_10_40 : ∀ q ∈ ([(6, 113)] : List (Nat × Nat)), pq_okV "PursuitDeskLaw" 40 2 q.1 q.2 := pq_ac ⟨_, _, rfl, rfl, kM_113, Or.inl ⟨rfl, by (show _ = _); decide +kernel, (lw_in 785 (by decide +kernel) (by decide +kernel)), (lw_in 786 (by decide +kernel) (by decide +kernel)), (lw_in 787 (by decide +kernel) (by decide +kernel)), (lw_in 44 (by decide +kernel) (by decide +kernel))⟩⟩ (pq_an)
theorem kV_10_41 : ∀ q ∈ ([(5, 76)] : List (Nat × Nat)), pq_okV "PursuitDeskLaw" 41 0 q.1 q.2 := pq_ac ⟨_, _, rfl, rfl, kM_76, Or.inl ⟨rfl, by (show _ = _); decide +kernel, (lw_in 397 (by decide +kernel) (by decide +kernel)), (lw_in 398 (by decide +kernel) (by decide +kernel)), (lw_in 399 (by decide +kernel) (by decide +kernel)), (lw_in 36 (by decide +kernel) (by decide +kernel))⟩⟩ (pq_an)
theorem kV_10_44 : ∀ q ∈ ([(6, 115)] : List (Nat × Nat)), pq_okV "PursuitDeskLaw" 44 0 q.1 q.2 := pq_ac ⟨_, _, rfl, rfl, kM_115, Or.inl ⟨rfl, by (show _ = _); decide +kernel, (lw_in 793 (by decide +kernel) (by decide +kernel)), (lw_in 794 (by decide +kernel) (by decide +kernel)), (lw_in 795 (by decide +kernel) (by decide +kernel)), (lw_in 44 (by decide +kernel) (by decide +kernel))⟩⟩ (pq_an)
theorem kV_10_45 : ∀ q ∈ ([(5, 77)] : List (Nat × Nat)), pq_okV "PursuitDeskLaw" 45 0 q.1 q.2 := pq_ac ⟨_, _, rfl, rfl, kM_77, Or.inl ⟨rfl, by (show _ = _); decide +kernel, (lw_in 410 (by decide +kernel) (by decide +kernel)), (lw_in 403 (by decide +kernel) (by decide +kernel)), (lw_in 404 (by decide +kernel) (by decide +kernel)), (lw_in 36 (by decide +kernel) (by decide +kernel))⟩⟩ (pq_an)
theorem kV_10_48 : ∀ q ∈ ([(6, 116)] : List (Nat × Nat)), pq_okV "PursuitDeskLaw" 48 0 q.1 q.2 := pq_ac ⟨_, _, rfl, rfl, kM_116, Or.inl ⟨rfl, by (show _ = _); decide +kernel, (lw_in 797 (by decide +kernel) (by decide +kernel)), (lw_in 798 (by decide +kernel) (by decide +kernel)), (lw_in 799 (by decide +kernel) (by decide +kernel)), (lw_in 44 (by decide +kernel) (by decide +kernel))⟩⟩ (pq_an)
theorem kV_10_49 : ∀ q ∈ ([(5, 78)] : List (Nat × Nat)), pq_okV "PursuitDeskLaw" 49 1 q.1 q.2 := pq_ac ⟨_, _, rfl, rfl, kM_78, Or.inl ⟨rfl, by (show _ = _); decide +kernel, (lw_in 411 (by decide +kernel) (by decide +kernel)), (lw_in 412 (by decide +kernel) (by decide +kernel)), (lw_in 413 (by decide +kernel) (by decide +kernel)), (lw_in 36 (by decide +kernel) (by decide +kernel))⟩⟩ (pq_an)
theorem kV_10_52 : ∀ q ∈ ([(6, 117)] : List (Nat × Nat)), pq_okV "PursuitDeskLaw" 52 1 q.1 q.2 := pq_ac ⟨_, _, rfl, rfl, kM_117, Or.inl ⟨rfl, by (show _ = _); decide +kernel, (lw_in 801 (by decide +kernel) (by decide +kernel)), (lw_in 802 (by decide +kernel) (by decide +kernel)), (lw_in 803 (by decide +kernel) (by decide +kernel)), (lw_in 44 (by decide +kernel) (by decide +kernel))⟩⟩ (pq_an)
theorem kV_10_53 : ∀ q ∈ ([(5, 79)] : List (Nat × Nat)), pq_okV "PursuitDeskLaw" 53 2 q.1 q.2 := pq_ac ⟨_, _, rfl, rfl, kM_79, Or.inl ⟨rfl, by (show _ = _); decide +kernel, (lw_in 419 (by decide +kernel) (by decide +kernel)), (lw_in 420 (by decide +kernel) (by decide +kernel)), (lw_in 421 (by decide +kernel) (by decide +kernel)), (lw_in 36 (by decide +kernel) (by decide +kernel))⟩⟩ (pq_an)
theorem kV_10_56 : ∀ q ∈ ([(6, 119)] : List (Nat × Nat)), pq_okV "PursuitDeskLaw" 56 2 q.1 q.2 := pq_ac ⟨_, _, rfl, rfl, kM_119, Or.inl ⟨rfl, by (show _ = _); decide +kernel, (lw_in 809 (by decide +kernel) (by decide +kernel)), (lw_in 810 (by decide +kernel) (by decide +kernel)), (lw_in 811 (by decide +kernel) (by decide +kernel)), (lw_in 44 (by decide +kernel) (by decide +kernel))⟩⟩ (pq_an)
theorem kV_10_57 : ∀ q ∈ ([(5, 80)] : List (Nat × Nat)), pq_okV "PursuitDeskLaw" 57 0 q.1 q.2 := pq_ac ⟨_, _, rfl, rfl, kM_80, Or.inl ⟨rfl, by (show _ = _); decide +kernel, (lw_in 443 (by decide +kernel) (by decide +kernel)), (lw_in 444 (by decide +kernel) (by decide +kernel)), (lw_in 445 (by decide +kernel) (by decide +kernel)), (lw_in 36 (by decide +kernel) (by decide +kernel))⟩⟩ (pq_an)
theorem kV_10_60 : ∀ q ∈ ([(6, 122)] : List (Nat × Nat)), pq_okV "PursuitDeskLaw" 60 0 q.1 q.2 := pq_ac ⟨_, _, rfl, rfl, kM_122, Or.inl ⟨rfl, by (show _ = _); decide +kernel, (lw_in 822 (by decide +kernel) (by decide +kernel)), (lw_in 823 (by decide +kernel) (by decide +kernel)), (lw_in 824 (by decide +kernel) (by decide +kernel)), (lw_in 44 (by decide +kernel) (by decide +kernel))⟩⟩ (pq_an)
theorem kV_10_61 : ∀ q ∈ ([(5, 81)] : List (Nat × Nat)), pq_okV "PursuitDeskLaw" 61 0 q.1 q.2 := pq_ac ⟨_, _, rfl, rfl, kM_81, Or.inl ⟨rfl, by (show _ = _); decide +kernel, (lw_in 482 (by decide +kernel) (by decide +kernel)), (lw_in 483 (by decide +kernel) (by decide +kernel)), (lw_in 484 (by decide +kernel) (by decide +kernel)), (lw_in 36 (by decide +kernel) (by decide +kernel))⟩⟩ (pq_an)
theorem kV_10_64 : ∀ q ∈ ([(6, 126)] : List (Nat × Nat)), pq_okV "PursuitDeskLaw" 64 0 q.1 q.2 := pq_ac ⟨_, _, rfl, rfl, kM_126, Or.inl ⟨rfl, by (show _ = _); decide +kernel, (lw_in 838 (by decide +kernel) (by decide +kernel)), (lw_in 839 (by decide +kernel) (by decide +kernel)), (lw_in 840 (by decide +kernel) (by decide +kernel)), (lw_in 44 (by decide +kernel) (by decide +kernel))⟩⟩ (pq_an)
theorem kV_10_65 : ∀ q ∈ ([(5, 82)] : List (Nat × Nat)), pq_okV "PursuitDeskLaw" 65 1 q.1 q.2 := pq_ac ⟨_, _, rfl, rfl, kM_82, Or.inl ⟨rfl, by (show _ = _); decide +kernel, (lw_in 486 (by decide +kernel) (by decide +kernel)), (lw_in 487 (by decide +kernel) (by decide +kernel)), (lw_in 488 (by decide +kernel) (by decide +kernel)), (lw_in 36 (by decide +kernel) (by decide +kernel))⟩⟩ (pq_an)
theorem kV_10_68 : ∀ q ∈ ([(6, 127)] : List (Nat × Nat)), pq_okV "PursuitDeskLaw" 68 1 q.1 q.2 := pq_ac ⟨_, _, rfl, rfl, kM_127, Or.inl ⟨rfl, by (show _ = _); decide +kernel, (lw_in 842 (by decide +kernel) (by decide +kernel)), (lw_in 843 (by decide +kernel) (by decide +kernel)), (lw_in 844 (by decide +kernel) (by decide +kernel)), (lw_in 44 (by decide +kernel) (by decide +kernel))⟩⟩ (pq_an)
theorem kV_10_69 : ∀ q ∈ ([(5, 83)] : List (Nat × Nat)), pq_okV "PursuitDeskLaw" 69 1 q.1 q.2 := pq_ac ⟨_, _, rfl, rfl, kM_83, Or.inl ⟨rfl, by (show _ = _); decide +kernel, (lw_in 490 (by decide +kernel) (by decide +kernel)), (lw_in 491 (by decide +kernel) (by decide +kernel)), (lw_in 492 (by decide +kernel) (by decide +kernel)), (lw_in 36 (by decide +kernel) (by decide +kernel))⟩⟩ (pq_an)
theorem kV_10_72 : ∀ q ∈ ([(6, 129)] : List (Nat × Nat)), pq_okV "PursuitDeskLaw" 72 1 q.1 q.2 := pq_ac ⟨_, _, rfl, rfl, kM_129, Or.inl ⟨rfl, by (show _ = _); decide +kernel, (lw_in 850 (by decide +kernel) (by decide +kernel)), (lw_in 851 (by decide +kernel) (by decide +kernel)), (lw_in 852 (by decide +kernel) (by decide +kernel)), (lw_in 44 (by decide +kernel) (by decide +kernel))⟩⟩ (pq_an)
theorem kV_10_73 : ∀ q ∈ ([(5, 84)] : List (Nat × Nat)), pq_okV "PursuitDeskLaw" 73 2 q.1 q.2 := pq_ac ⟨_, _, rfl, rfl, kM_84, Or.inl ⟨rfl, by (show _ = _); decide +kernel, (lw_in 497 (by decide +kernel) (by decide +kernel)), (lw_in 498 (by decide +kernel) (by decide +kernel)), (lw_in 499 (by decide +kernel) (by decide +kernel)), (lw_in 36 (by decide +kernel) (by decide +kernel))⟩⟩ (pq_an)
theorem kV_10_76 : ∀ q ∈ ([(6, 130)] : List (Nat × Nat)), pq_okV "PursuitDeskLaw" 76 2 q.1 q.2 := pq_ac ⟨_, _, rfl, rfl, kM_130, Or.inl ⟨rfl, by (show _ = _); decide +kernel, (lw_in 854 (by decide +kernel) (by decide +kernel)), (lw_in 855 (by decide +kernel) (by decide +kernel)), (lw_in 856 (by decide +kernel) (by decide +kernel)), (lw_in 44 (by decide +kernel) (by decide +kernel))⟩⟩ (pq_an)
theorem kV_10_77 : ∀ q ∈ ([(5, 85)] : List (Nat × Nat)), pq_okV "PursuitDeskLaw" 77 1 q.1 q.2 := pq_ac ⟨_, _, rfl, rfl, kM_85, Or.inl ⟨rfl, by (show _ = _); decide +kernel, (lw_in 501 (by decide +kernel) (by decide +kernel)), (lw_in 502 (by decide +kernel) (by decide +kernel)), (lw_in 503 (by decide +kernel) (by decide +kernel)), (lw_in 36 (by decide +kernel) (by decide +kernel))⟩⟩ (pq_an)
theorem kV_10_80 : ∀ q ∈ ([(6, 131)] : List (Nat × Nat)), pq_okV "PursuitDeskLaw" 80 1 q.1 q.2 := pq_ac ⟨_, _, rfl, rfl, kM_131, Or.inl ⟨rfl, by (show _ = _); decide +kernel, (lw_in 858 (by decide +kernel) (by decide +kernel)), (lw_in 859 (by decide +kernel) (by decide +kernel)), (lw_in 860 (by decide +kernel) (by decide +kernel)), (lw_in 44 (by decide +kernel) (by decide +kernel))⟩⟩ (pq_an)
theorem kV_10_81 : ∀ q ∈ ([(5, 86)] : List (Nat × Nat)), pq_okV "PursuitDeskLaw" 81 1 q.1 q.2 := pq_ac ⟨_, _, rfl, rfl, kM_86, Or.inl ⟨rfl, by (show _ = _); decide +kernel, (lw_in 510 (by decide +kernel) (by decide +kernel)), (lw_in 511 (by decide +kernel) (by decide +kernel)), (lw_in 512 (by decide +kernel) (by decide +kernel)), (lw_in 36 (by decide +kernel) (by decide +kernel))⟩⟩ (pq_an)
theorem kV_10_84 : ∀ q ∈ ([(6, 132)] : List (Nat × Nat)), pq_okV "PursuitDeskLaw" 84 1 q.1 q.2 := pq_ac ⟨_, _, rfl, rfl, kM_132, Or.inl ⟨rfl, by (show _ = _); decide +kernel, (lw_in 862 (by decide +kernel) (by decide +kernel)), (lw_in 863 (by decide +kernel) (by decide +kernel)), (lw_in 864 (by decide +kernel) (by decide +kernel)), (lw_in 44 (by decide +kernel) (by decide +kernel))⟩⟩ (pq_an)
theorem kV_10_85 : ∀ q ∈ ([(5, 87)] : List (Nat × Nat)), pq_okV "PursuitDeskLaw" 85 2 q.1 q.2 := pq_ac ⟨_, _, rfl, rfl, kM_87, Or.inl ⟨rfl, by (show _ = _); decide +kernel, (lw_in 515 (by decide +kernel) (by decide +kernel)), (lw_in 516 (by decide +kernel) (by decide +kernel)), (lw_in 517 (by decide +kernel) (by decide +kernel)), (lw_in 36 (by decide +kernel) (by decide +kernel))⟩⟩ (pq_an)
theorem kV_10_88 : ∀ q ∈ ([(6, 133)] : List (Nat × Nat)), pq_okV "PursuitDeskLaw" 88 2 q.1 q.2 := pq_ac ⟨_, _, rfl, rfl, kM_133, Or.inl ⟨rfl, by (show _ = _); decide +kernel, (lw_in 866 (by decide +kernel) (by decide +kernel)), (lw_in 867 (by decide +kernel) (by decide +kernel)), (lw_in 868 (by decide +kernel) (by decide +kernel)), (lw_in 44 (by decide +kernel) (by decide +kernel))⟩⟩ (pq_an)
theorem kV_10_89 : ∀ q ∈ ([(5, 88)] : List (Nat × Nat)), pq_okV "PursuitDeskLaw" 89 1 q.1 q.2 := pq_ac ⟨_, _, rfl, rfl, kM_88, Or.inl ⟨rfl, by (show _ = _); decide +kernel, (lw_in 519 (by decide +kernel) (by decide +kernel)), (lw_in 520 (by decide +kernel) (by decide +kernel)), (lw_in 521 (by decide +kernel) (by decide +kernel)), (lw_in 36 (by decide +kernel) (by decide +kernel))⟩⟩ (pq_an)
theorem kV_10_92 : ∀ q ∈ ([(6, 134)] : List (Nat × Nat)), pq_okV "PursuitDeskLaw" 92 1 q.1 q.2 := pq_ac ⟨_, _, rfl, rfl, kM_134, Or.inl ⟨rfl, by (show _ = _); decide +kernel, (lw_in 870 (by decide +kernel) (by decide +kernel)), (lw_in 871 (by decide +kernel) (by decide +kernel)), (lw_in 872 (by decide +kernel) (by decide +kernel)), (lw_in 44 (by decide +kernel) (by decide +kernel))⟩⟩ (pq_an)
theorem kV_10_93 : ∀ q ∈ ([(5, 89)] : List (Nat × Nat)), pq_okV "PursuitDeskLaw" 93 0 q.1 q.2 := pq_ac ⟨_, _, rfl, rfl, kM_89, Or.inl ⟨rfl, by (show _ = _); decide +kernel, (lw_in 527 (by decide +kernel) (by decide +kernel)), (lw_in 528 (by decide +kernel) (by decide +kernel)), (lw_in 529 (by decide +kernel) (by decide +kernel)), (lw_in 36 (by decide +kernel) (by decide +kernel))⟩⟩ (pq_an)
theorem kV_10_96 : ∀ q ∈ ([(6, 135)] : List (Nat × Nat)), pq_okV "PursuitDeskLaw" 96 0 q.1 q.2 := pq_ac ⟨_, _, rfl, rfl, kM_135, Or.inl ⟨rfl, by (show _ = _); decide +kernel, (lw_in 874 (by decide +kernel) (by decide +kernel)), (lw_in 875 (by decide +kernel) (by decide +kernel)), (lw_in 876 (by decide +kernel) (by decide +kernel)), (lw_in 44 (by decide +kernel) (by decide +kernel))⟩⟩ (pq_an)
theorem kV_10_97 : ∀ q ∈ ([(5, 90)] : List (Nat × Nat)), pq_okV "PursuitDeskLaw" 97 0 q.1 q.2 := pq_ac ⟨_, _, rfl, rfl, kM_90, Or.inl ⟨rfl, by (show _ = _); decide +kernel, (lw_in 533 (by decide +kernel) (by decide +kernel)), (lw_in 534 (by decide +kernel) (by decide +kernel)), (lw_in 535 (by decide +kernel) (by decide +kernel)), (lw_in 36 (by decide +kernel) (by decide +kernel))⟩⟩ (pq_an)
theorem kV_10_100 : ∀ q ∈ ([(6, 137)] : List (Nat × Nat)), pq_okV "PursuitDeskLaw" 100 0 q.1 q.2 := pq_ac ⟨_, _, rfl, rfl, kM_137, Or.inl ⟨rfl, by (show _ = _); decide +kernel, (lw_in 882 (by decide +kernel) (by decide +kernel)), (lw_in 883 (by decide +kernel) (by decide +kernel)), (lw_in 884 (by decide +kernel) (by decide +kernel)), (lw_in 44 (by decide +kernel) (by decide +kernel))⟩⟩ (pq_an)
theorem kV_10_101 : ∀ q ∈ ([(5, 92)] : List (Nat × Nat)), pq_okV "PursuitDeskLaw" 101 2 q.1 q.2 := pq_ac ⟨_, _, rfl, rfl, kM_92, Or.inl ⟨rfl, by (show _ = _); decide +kernel, (lw_in 616 (by decide +kernel) (by decide +kernel)), (lw_in 617 (by decide +kernel) (by decide +kernel)), (lw_in 618 (by decide +kernel) (by decide +kernel)), (lw_in 36 (by decide +kernel) (by decide +kernel))⟩⟩ (pq_an)
theorem kV_10_104 : ∀ q ∈ ([(6, 145)] : List (Nat × Nat)), pq_okV "PursuitDeskLaw" 104 2 q.1 q.2 := pq_ac ⟨_, _, rfl, rfl, kM_145, Or.inl ⟨rfl, by (show _ = _); decide +kernel, (lw_in 912 (by decide +kernel) (by decide +kernel)), (lw_in 913 (by decide +kernel) (by decide +kernel)), (lw_in 914 (by decide +kernel) (by decide +kernel)), (lw_in 44 (by decide +kernel) (by decide +kernel))⟩⟩ (pq_an)
theorem kV_10_105 : ∀ q ∈ ([(5, 93)] : List (Nat × Nat)), pq_okV "PursuitDeskLaw" 105 0 q.1 q.2 := pq_ac ⟨_, _, rfl, rfl, kM_93, Or.inl ⟨rfl, by (show _ = _); decide +kernel, (lw_in 629 (by decide +kernel) (by decide +kernel)), (lw_in 630 (by decide +kernel) (by decide +kernel)), (lw_in 631 (by decide +kernel) (by decide +kernel)), (lw_in 36 (by decide +kernel) (by decide +kernel))⟩⟩ (pq_an)
theorem kV_10_108 : ∀ q ∈ ([(6, 146)] : List (Nat × Nat)), pq_okV "PursuitDeskLaw" 108 0 q.1 q.2 := pq_ac ⟨_, _, rfl, rfl, kM_146, Or.inl ⟨rfl, by (show _ = _); decide +kernel, (lw_in 916 (by decide +kernel) (by decide +kernel)), (lw_in 917 (by decide +kernel) (by decide +kernel)), (lw_in 918 (by decide +kernel) (by decide +kernel)), (lw_in 44 (by decide +kernel) (by decide +kernel))⟩⟩ (pq_an)
theorem kV_10_109 : ∀ q ∈ ([(5, 94)] : List (Nat × Nat)), pq_okV "PursuitDeskLaw" 109 0 q.1 q.2 := pq_ac ⟨_, _, rfl, rfl, kM_94, Or.inl ⟨rfl, by (show _ = _); decide +kernel, (lw_in 658 (by decide +kernel) (by decide +kernel)), (lw_in 659 (by decide +kernel) (by decide +kernel)), (lw_in 660 (by decide +kernel) (by decide +kernel)), (lw_in 36 (by decide +kernel) (by decide +kernel))⟩⟩ (pq_an)
theorem kV_10_112 : ∀ q ∈ ([(6, 136)] : List (Nat × Nat)), pq_okV "PursuitDeskLaw" 112 0 q.1 q.2 := pq_ac ⟨_, _, rfl, rfl, kM_136, Or.inl ⟨rfl, by (show _ = _); decide +kernel, (lw_in 878 (by decide +kernel) (by decide +kernel)), (lw_in 879 (by decide +kernel) (by decide +kernel)), (lw_in 880 (by decide +kernel) (by decide +kernel)), (lw_in 44 (by decide +kernel) (by decide +kernel))⟩⟩ (pq_an)
theorem kV_10_113 : ∀ q ∈ ([(5, 95)] : List (Nat × Nat)), pq_okV "PursuitDeskLaw" 113 0 q.1 q.2 := pq_ac ⟨_, _, rfl, rfl, kM_95, Or.inl ⟨rfl, by (show _ = _); decide +kernel, (lw_in 662 (by decide +kernel) (by decide +kernel)), (lw_in 663 (by decide +kernel) (by decide +kernel)), (lw_in 664 (by decide +kernel) (by decide +kernel)), (lw_in 36 (by decide +kernel) (by decide +kernel))⟩⟩ (pq_an)
theorem kV_10_116 : ∀ q ∈ ([(6, 148)] : List (Nat × Nat)), pq_okV "PursuitDeskLaw" 116 0 q.1 q.2 := pq_ac ⟨_, _, rfl, rfl, kM_148, Or.inl ⟨rfl, by (show _ = _); decide +kernel, (lw_in 923 (by decide +kernel) (by decide +kernel)), (lw_in 924 (by decide +kernel) (by decide +kernel)), (lw_in 925 (by decide +kernel) (by decide +kernel)), (lw_in 44 (by decide +kernel) (by decide +kernel))⟩⟩ (pq_an)
theorem kV_10_117 : ∀ q ∈ ([(5, 97)] : List (Nat × Nat)), pq_okV "PursuitDeskLaw" 117 1 q.1 q.2 := pq_ac ⟨_, _, rfl, rfl, kM_97, Or.inl ⟨rfl, by (show _ = _); decide +kernel, (lw_in 681 (by decide +kernel) (by decide +kernel)), (lw_in 682 (by decide +kernel) (by decide +kernel)), (lw_in 683 (by decide +kernel) (by decide +kernel)), (lw_in 36 (by decide +kernel) (by decide +kernel))⟩⟩ (pq_an)
theorem kV_10_120 : ∀ q ∈ ([(6, 150)] : List (Nat × Nat)), pq_okV "PursuitDeskLaw" 120 1 q.1 q.2 := pq_ac ⟨_, _, rfl, rfl, kM_150, Or.inl ⟨rfl, by (show _ = _); decide +kernel, (lw_in 931 (by decide +kernel) (by decide +kernel)), (lw_in 932 (by decide +kernel) (by decide +kernel)), (lw_in 933 (by decide +kernel) (by decide +kernel)), (lw_in 44 (by decide +kernel) (by decide +kernel))⟩⟩ (pq_an)
theorem kV_10_121 : ∀ q ∈ ([(5, 98)] : List (Nat × Nat)), pq_okV "PursuitDeskLaw" 121 1 q.1 q.2 := pq_ac ⟨_, _, rfl, rfl, kM_98, Or.inl ⟨rfl, by (show _ = _); decide +kernel, (lw_in 685 (by decide +kernel) (by decide +kernel)), (lw_in 686 (by decide +kernel) (by decide +kernel)), (lw_in 687 (by decide +kernel) (by decide +kernel)), (lw_in 36 (by decide +kernel) (by decide +kernel))⟩⟩ (pq_an)
theorem kV_10_124 : ∀ q ∈ ([(6, 151)] : List (Nat × Nat)), pq_okV "PursuitDeskLaw" 124 1 q.1 q.2 := pq_ac ⟨_, _, rfl, rfl, kM_151, Or.inl ⟨rfl, by (show _ = _); decide +kernel, (lw_in 935 (by decide +kernel) (by decide +kernel)), (lw_in 936 (by decide +kernel) (by decide +kernel)), (lw_in 937 (by decide +kernel) (by decide +kernel)), (lw_in 44 (by decide +kernel) (by decide +kernel))⟩⟩ (pq_an)
theorem kV_10_125 : ∀ q ∈ ([(5, 99)] : List (Nat × Nat)), pq_okV "PursuitDeskLaw" 125 0 q.1 q.2 := pq_ac ⟨_, _, rfl, rfl, kM_99, Or.inl ⟨rfl, by (show _ = _); decide +kernel, (lw_in 689 (by decide +kernel) (by decide +kernel)), (lw_in 690 (by decide +kernel) (by decide +kernel)), (lw_in 691 (by decide +kernel) (by decide +kernel)), (lw_in 36 (by decide +kernel) (by decide +kernel))⟩⟩ (pq_an)
theorem kV_10_128 : ∀ q ∈ ([(6, 152)] : List (Nat × Nat)), pq_okV "PursuitDeskLaw" 128 0 q.1 q.2 := pq_ac ⟨_, _, rfl, rfl, kM_152, Or.inl ⟨rfl, by (show _ = _); decide +kernel, (lw_in 939 (by decide +kernel) (by decide +kernel)), (lw_in 940 (by decide +kernel) (by decide +kernel)), (lw_in 941 (by decide +kernel) (by decide +kernel)), (lw_in 44 (by decide +kernel) (by decide +kernel))⟩⟩ (pq_an)
theorem kV_10_129 : ∀ q ∈ ([(5, 69)] : List (Nat × Nat)), pq_okV "PursuitDeskLaw" 129 0 q.1 q.2 := pq_ac ⟨_, _, rfl, rfl, kM_69, Or.inl ⟨rfl, by (show _ = _); decide +kernel, (lw_in 693 (by decide +kernel) (by decide +kernel)), (lw_in 335 (by decide +kernel) (by decide +kernel)), (lw_in 336 (by decide +kernel) (by decide +kernel)), (lw_in 36 (by decide +kernel) (by decide +kernel))⟩⟩ (pq_an)
theorem kV_10_132 : ∀ q ∈ ([(6, 153)] : List (Nat × Nat)), pq_okV "PursuitDeskLaw" 132 0 q.1 q.2 := pq_ac ⟨_, _, rfl, rfl, kM_153, Or.inl ⟨rfl, by (show _ = _); decide +kernel, (lw_in 943 (by decide +kernel) (by decide +kernel)), (lw_in 944 (by decide +kernel) (by decide +kernel)), (lw_in 945 (by decide +kernel) (by decide +kernel)), (lw_in 44 (by decide +kernel) (by decide +kernel))⟩⟩ (pq_an)
theorem kS_1_9 : pq_okS "PursuitDesk$Ways" 9 2 2 := ⟨_, rfl, kM_2, by (show _ = _); decide +kernel, (lw_in 232 (by decide +kernel) (by decide +kernel)), (lw_in 233 (by decide +kernel) (by decide +kernel)), (lw_in 43 (by decide +kernel) (by decide +kernel))⟩
theorem kS_1_23 : pq_okS "PursuitDesk$Ways" 23 2 6 := ⟨_, rfl, kM_6, by (show _ = _); decide +kernel, (lw_in 435 (by decide +kernel) (by decide +kernel)), (lw_in 436 (by decide +kernel) (by decide +kernel)), (lw_in 43 (by decide +kernel) (by decide +kernel))⟩
theorem kS_1_27 : pq_okS "PursuitDesk$Ways" 27 1 7 := ⟨_, rfl, kM_7, by (show _ = _); decide +kernel, (lw_in 440 (by decide +kernel) (by decide +kernel)), (lw_in 441 (by decide +kernel) (by decide +kernel)), (lw_in 43 (by decide +kernel) (by decide +kernel))⟩
theorem kS_1_19 : pq_okS "PursuitDesk$Ways" 19 2 4 := ⟨_, rfl, kM_4, by (show _ = _); decide +kernel, (lw_in 438 (by decide +kernel) (by decide +kernel)), (lw_in 424 (by decide +kernel) (by decide +kernel)), (lw_in 43 (by decide +kernel) (by decide +kernel))⟩
theorem kS_2_30 : pq_okS "PursuitDesk$Beliefs" 30 1 12 := ⟨_, rfl, kM_12, by (show _ = _); decide +kernel, (lw_in 247 (by decide +kernel) (by decide +kernel)), (lw_in 248 (by decide +kernel) (by decide +kernel)), (lw_in 38 (by decide +kernel) (by decide +kernel))⟩
theorem kS_2_49 : pq_okS "PursuitDesk$Beliefs" 49 2 4 := ⟨_, rfl, kM_4, by (show _ = _); decide +kernel, (lw_in 431 (by decide +kernel) (by decide +kernel)), (lw_in 424 (by decide +kernel) (by decide +kernel)), (lw_in 43 (by decide +kernel) (by decide +kernel))⟩
theorem kS_2_37 : pq_okS "PursuitDesk$Beliefs" 37 2 5 := ⟨_, rfl, kM_5, by (show _ = _); decide +kernel, (lw_in 432 (by decide +kernel) (by decide +kernel)), (lw_in 433 (by decide +kernel) (by decide +kernel)), (lw_in 43 (by decide +kernel) (by decide +kernel))⟩
theorem kS_3_54 : pq_okS "PursuitDesk$Evader" 54 1 12 := ⟨_, rfl, kM_12, by (show _ = _); decide +kernel, (lw_in 384 (by decide +kernel) (by decide +kernel)), (lw_in 248 (by decide +kernel) (by decide +kernel)), (lw_in 38 (by decide +kernel) (by decide +kernel))⟩
theorem kS_3_45 : pq_okS "PursuitDesk$Evader" 45 2 2 := ⟨_, rfl, kM_2, by (show _ = _); decide +kernel, (lw_in 470 (by decide +kernel) (by decide +kernel)), (lw_in 233 (by decide +kernel) (by decide +kernel)), (lw_in 43 (by decide +kernel) (by decide +kernel))⟩
theorem kS_4_34 : pq_okS "PursuitDesk$Search" 34 2 6 := ⟨_, rfl, kM_6, by (show _ = _); decide +kernel, (lw_in 589 (by decide +kernel) (by decide +kernel)), (lw_in 436 (by decide +kernel) (by decide +kernel)), (lw_in 43 (by decide +kernel) (by decide +kernel))⟩
theorem kS_4_44 : pq_okS "PursuitDesk$Search" 44 1 7 := ⟨_, rfl, kM_7, by (show _ = _); decide +kernel, (lw_in 594 (by decide +kernel) (by decide +kernel)), (lw_in 441 (by decide +kernel) (by decide +kernel)), (lw_in 43 (by decide +kernel) (by decide +kernel))⟩
theorem kS_4_52 : pq_okS "PursuitDesk$Search" 52 2 9 := ⟨_, rfl, kM_9, by (show _ = _); decide +kernel, (lw_in 608 (by decide +kernel) (by decide +kernel)), (lw_in 495 (by decide +kernel) (by decide +kernel)), (lw_in 43 (by decide +kernel) (by decide +kernel))⟩
theorem kS_4_56 : pq_okS "PursuitDesk$Search" 56 2 4 := ⟨_, rfl, kM_4, by (show _ = _); decide +kernel, (lw_in 609 (by decide +kernel) (by decide +kernel)), (lw_in 424 (by decide +kernel) (by decide +kernel)), (lw_in 43 (by decide +kernel) (by decide +kernel))⟩
theorem kS_4_60 : pq_okS "PursuitDesk$Search" 60 2 8 := ⟨_, rfl, kM_8, by (show _ = _); decide +kernel, (lw_in 610 (by decide +kernel) (by decide +kernel)), (lw_in 456 (by decide +kernel) (by decide +kernel)), (lw_in 43 (by decide +kernel) (by decide +kernel))⟩
theorem kS_7_65 : pq_okS "PursuitDesk$State" 65 1 1 := ⟨_, rfl, kM_1, by (show _ = _); decide +kernel, (lw_in 229 (by decide +kernel) (by decide +kernel)), (lw_in 230 (by decide +kernel) (by decide +kernel)), (lw_in 43 (by decide +kernel) (by decide +kernel))⟩
theorem kS_7_86 : pq_okS "PursuitDesk$State" 86 2 2 := ⟨_, rfl, kM_2, by (show _ = _); decide +kernel, (lw_in 319 (by decide +kernel) (by decide +kernel)), (lw_in 233 (by decide +kernel) (by decide +kernel)), (lw_in 43 (by decide +kernel) (by decide +kernel))⟩
theorem kS_7_101 : pq_okS "PursuitDesk$State" 101 2 3 := ⟨_, rfl, kM_3, by (show _ = _); decide +kernel, (lw_in 327 (by decide +kernel) (by decide +kernel)), (lw_in 321 (by decide +kernel) (by decide +kernel)), (lw_in 43 (by decide +kernel) (by decide +kernel))⟩
theorem kS_7_90 : pq_okS "PursuitDesk$State" 90 1 0 := ⟨_, rfl, kM_0, by (show _ = _); decide +kernel, (lw_in 354 (by decide +kernel) (by decide +kernel)), (lw_in 355 (by decide +kernel) (by decide +kernel)), (lw_in 46 (by decide +kernel) (by decide +kernel))⟩
theorem kS_7_96 : pq_okS "PursuitDesk$State" 96 2 8 := ⟨_, rfl, kM_8, by (show _ = _); decide +kernel, (lw_in 455 (by decide +kernel) (by decide +kernel)), (lw_in 456 (by decide +kernel) (by decide +kernel)), (lw_in 43 (by decide +kernel) (by decide +kernel))⟩
theorem kS_8_64 : pq_okS "PursuitDesk" 64 2 3 := ⟨_, rfl, kM_3, by (show _ = _); decide +kernel, (lw_in 320 (by decide +kernel) (by decide +kernel)), (lw_in 321 (by decide +kernel) (by decide +kernel)), (lw_in 43 (by decide +kernel) (by decide +kernel))⟩
theorem kS_8_127 : pq_okS "PursuitDesk" 127 2 4 := ⟨_, rfl, kM_4, by (show _ = _); decide +kernel, (lw_in 423 (by decide +kernel) (by decide +kernel)), (lw_in 424 (by decide +kernel) (by decide +kernel)), (lw_in 43 (by decide +kernel) (by decide +kernel))⟩
theorem kS_8_159 : pq_okS "PursuitDesk" 159 2 9 := ⟨_, rfl, kM_9, by (show _ = _); decide +kernel, (lw_in 494 (by decide +kernel) (by decide +kernel)), (lw_in 495 (by decide +kernel) (by decide +kernel)), (lw_in 43 (by decide +kernel) (by decide +kernel))⟩
theorem kS_8_194 : pq_okS "PursuitDesk" 194 2 5 := ⟨_, rfl, kM_5, by (show _ = _); decide +kernel, (lw_in 532 (by decide +kernel) (by decide +kernel)), (lw_in 433 (by decide +kernel) (by decide +kernel)), (lw_in 43 (by decide +kernel) (by decide +kernel))⟩
theorem kS_9_45 : pq_okS "PursuitDeskModel" 45 3 104 := ⟨_, rfl, kM_104, by (show _ = _); decide +kernel, (lw_in 750 (by decide +kernel) (by decide +kernel)), (lw_in 751 (by decide +kernel) (by decide +kernel)), (lw_in 44 (by decide +kernel) (by decide +kernel))⟩
theorem kS_9_105 : pq_okS "PursuitDeskModel" 105 3 141 := ⟨_, rfl, kM_141, by (show _ = _); decide +kernel, (lw_in 898 (by decide +kernel) (by decide +kernel)), (lw_in 899 (by decide +kernel) (by decide +kernel)), (lw_in 44 (by decide +kernel) (by decide +kernel))⟩
theorem kS_9_109 : pq_okS "PursuitDeskModel" 109 1 143 := ⟨_, rfl, kM_143, by (show _ = _); decide +kernel, (lw_in 905 (by decide +kernel) (by decide +kernel)), (lw_in 906 (by decide +kernel) (by decide +kernel)), (lw_in 44 (by decide +kernel) (by decide +kernel))⟩
theorem kS_9_127 : pq_okS "PursuitDeskModel" 127 3 147 := ⟨_, rfl, kM_147, by (show _ = _); decide +kernel, (lw_in 920 (by decide +kernel) (by decide +kernel)), (lw_in 921 (by decide +kernel) (by decide +kernel)), (lw_in 44 (by decide +kernel) (by decide +kernel))⟩
theorem kI_5_3 : ∀ q ∈ ([(4, 28)] : List (Nat × Nat)), pq_okI "PursuitDesk$TurnSearch" 3 0 q.2 := pq_ac ⟨_, rfl, kM_28, rfl, rfl, by (show _ = _); decide +kernel, (lw_in 167 (by decide +kernel) (by decide +kernel)), (lw_in 40 (by decide +kernel) (by decide +kernel)), Or.inr ⟨"PursuitDesk", List.mem_of_getElem? (i := 4) (by decide +kernel)⟩⟩ (pq_an)
theorem kI_6_5 : ∀ q ∈ ([(2, 28)] : List (Nat × Nat)), pq_okI "PursuitDesk$MoveSearch" 5 0 q.2 := pq_ac ⟨_, rfl, kM_28, rfl, rfl, by (show _ = _); decide +kernel, (lw_in 167 (by decide +kernel) (by decide +kernel)), (lw_in 40 (by decide +kernel) (by decide +kernel)), Or.inr ⟨"PursuitDesk", List.mem_of_getElem? (i := 6) (by decide +kernel)⟩⟩ (pq_an)
theorem kI_7_20 : ∀ q ∈ ([(0, 10)] : List (Nat × Nat)), pq_okI "PursuitDesk$State" 20 0 q.2 := pq_ac ⟨_, rfl, kM_10, rfl, rfl, by (show _ = _); decide +kernel, (lw_in 65 (by decide +kernel) (by decide +kernel)), (lw_in 38 (by decide +kernel) (by decide +kernel)), Or.inr ⟨"PursuitDesk", List.mem_of_getElem? (i := 1) (by decide +kernel)⟩⟩ (pq_an)
theorem kI_7_27 : ∀ q ∈ ([(1, 19)] : List (Nat × Nat)), pq_okI "PursuitDesk$State" 27 0 q.2 := pq_ac ⟨_, rfl, kM_19, rfl, rfl, by (show _ = _); decide +kernel, (lw_in 87 (by decide +kernel) (by decide +kernel)), (lw_in 39 (by decide +kernel) (by decide +kernel)), Or.inr ⟨"PursuitDesk", List.mem_of_getElem? (i := 2) (by decide +kernel)⟩⟩ (pq_an)
theorem kI_8_9 : ∀ q ∈ ([(3, 49)] : List (Nat × Nat)), pq_okI "PursuitDesk" 9 0 q.2 := pq_ac ⟨_, rfl, kM_49, rfl, rfl, by (show _ = _); decide +kernel, (lw_in 59 (by decide +kernel) (by decide +kernel)), (lw_in 37 (by decide +kernel) (by decide +kernel)), Or.inr ⟨"PursuitDesk", List.mem_of_getElem? (i := 0) (by decide +kernel)⟩⟩ (pq_an)
theorem kI_8_26 : ∀ q ∈ ([(4, 36)] : List (Nat × Nat)), pq_okI "PursuitDesk" 26 0 q.2 := pq_ac ⟨_, rfl, kM_36, rfl, rfl, by (show _ = _); decide +kernel, (lw_in 164 (by decide +kernel) (by decide +kernel)), (lw_in 41 (by decide +kernel) (by decide +kernel)), Or.inr ⟨"PursuitDesk", List.mem_of_getElem? (i := 3) (by decide +kernel)⟩⟩ (pq_an)
theorem kI_8_36 : ∀ q ∈ ([(2, 45)] : List (Nat × Nat)), pq_okI "PursuitDesk" 36 0 q.2 := pq_ac ⟨_, rfl, kM_45, rfl, rfl, by (show _ = _); decide +kernel, (lw_in 208 (by decide +kernel) (by decide +kernel)), (lw_in 42 (by decide +kernel) (by decide +kernel)), Or.inr ⟨"PursuitDesk", List.mem_of_getElem? (i := 5) (by decide +kernel)⟩⟩ (pq_an)
theorem kI_10_9 : ∀ q ∈ ([(5, 62)] : List (Nat × Nat)), pq_okI "PursuitDeskLaw" 9 0 q.2 := pq_ac ⟨_, rfl, kM_62, rfl, rfl, by (show _ = _); decide +kernel, (lw_in 51 (by decide +kernel) (by decide +kernel)), (lw_in 36 (by decide +kernel) (by decide +kernel)), Or.inl (lw_in 50 (by decide +kernel) (by decide +kernel))⟩ (pq_an)
theorem kI_10_12 : ∀ q ∈ ([(6, 100)] : List (Nat × Nat)), pq_okI "PursuitDeskLaw" 12 0 q.2 := pq_ac ⟨_, rfl, kM_100, rfl, rfl, by (show _ = _); decide +kernel, (lw_in 697 (by decide +kernel) (by decide +kernel)), (lw_in 44 (by decide +kernel) (by decide +kernel)), Or.inl (lw_in 696 (by decide +kernel) (by decide +kernel))⟩ (pq_an)
theorem kN_7_18 : ∀ q ∈ ([(0, 0)] : List (Nat × Nat)), pq_okN "PursuitDesk$State" 18 q.1 := pq_ac ⟨_, rfl, (lw_in 62 (by decide +kernel) (by decide +kernel)), (lw_in 63 (by decide +kernel) (by decide +kernel)), (lw_in 38 (by decide +kernel) (by decide +kernel))⟩ pq_an
theorem kN_7_25 : ∀ q ∈ ([(1, 0)] : List (Nat × Nat)), pq_okN "PursuitDesk$State" 25 q.1 := pq_ac ⟨_, rfl, (lw_in 84 (by decide +kernel) (by decide +kernel)), (lw_in 85 (by decide +kernel) (by decide +kernel)), (lw_in 39 (by decide +kernel) (by decide +kernel))⟩ pq_an
theorem kN_8_7 : ∀ q ∈ ([(3, 0)] : List (Nat × Nat)), pq_okN "PursuitDesk" 7 q.1 := pq_ac ⟨_, rfl, (lw_in 56 (by decide +kernel) (by decide +kernel)), (lw_in 57 (by decide +kernel) (by decide +kernel)), (lw_in 37 (by decide +kernel) (by decide +kernel))⟩ pq_an
theorem kW_8_7 : ∀ q ∈ ([(3, 0)] : List (Nat × Nat)), pq_okW "PursuitDesk" 7 q.1 := pq_ac ⟨rfl, (lw_in 56 (by decide +kernel) (by decide +kernel))⟩ pq_an
theorem kN_8_24 : ∀ q ∈ ([(4, 0)] : List (Nat × Nat)), pq_okN "PursuitDesk" 24 q.1 := pq_ac ⟨_, rfl, (lw_in 161 (by decide +kernel) (by decide +kernel)), (lw_in 162 (by decide +kernel) (by decide +kernel)), (lw_in 41 (by decide +kernel) (by decide +kernel))⟩ pq_an
theorem kN_8_34 : ∀ q ∈ ([(2, 0)] : List (Nat × Nat)), pq_okN "PursuitDesk" 34 q.1 := pq_ac ⟨_, rfl, (lw_in 205 (by decide +kernel) (by decide +kernel)), (lw_in 206 (by decide +kernel) (by decide +kernel)), (lw_in 42 (by decide +kernel) (by decide +kernel))⟩ pq_an
theorem kN_10_7 : ∀ q ∈ ([(5, 0)] : List (Nat × Nat)), pq_okN "PursuitDeskLaw" 7 q.1 := pq_ac ⟨_, rfl, (lw_in 48 (by decide +kernel) (by decide +kernel)), (lw_in 49 (by decide +kernel) (by decide +kernel)), (lw_in 36 (by decide +kernel) (by decide +kernel))⟩ pq_an
theorem kN_10_10 : ∀ q ∈ ([(6, 0)] : List (Nat × Nat)), pq_okN "PursuitDeskLaw" 10 q.1 := pq_ac ⟨_, rfl, (lw_in 694 (by decide +kernel) (by decide +kernel)), (lw_in 695 (by decide +kernel) (by decide +kernel)), (lw_in 44 (by decide +kernel) (by decide +kernel))⟩ pq_an
theorem kO_2_1 : pq_okO "PursuitDesk$Beliefs" 1 := ⟨(lw_in 67 (by decide +kernel) (by decide +kernel)), (lw_in 54 (by decide +kernel) (by decide +kernel)), (lw_in 55 (by decide +kernel) (by decide +kernel))⟩
theorem kO_3_1 : pq_okO "PursuitDesk$Evader" 1 := ⟨(lw_in 89 (by decide +kernel) (by decide +kernel)), (lw_in 54 (by decide +kernel) (by decide +kernel)), (lw_in 55 (by decide +kernel) (by decide +kernel))⟩
theorem kO_4_5 : pq_okO "PursuitDesk$Search" 5 := ⟨(lw_in 169 (by decide +kernel) (by decide +kernel)), (lw_in 54 (by decide +kernel) (by decide +kernel)), (lw_in 55 (by decide +kernel) (by decide +kernel))⟩
theorem kO_7_3 : pq_okO "PursuitDesk$State" 3 := ⟨(lw_in 61 (by decide +kernel) (by decide +kernel)), (lw_in 54 (by decide +kernel) (by decide +kernel)), (lw_in 55 (by decide +kernel) (by decide +kernel))⟩
theorem kO_8_1 : pq_okO "PursuitDesk" 1 := ⟨(lw_in 53 (by decide +kernel) (by decide +kernel)), (lw_in 54 (by decide +kernel) (by decide +kernel)), (lw_in 55 (by decide +kernel) (by decide +kernel))⟩
theorem kO_9_1 : pq_okO "PursuitDeskModel" 1 := ⟨(lw_in 699 (by decide +kernel) (by decide +kernel)), (lw_in 54 (by decide +kernel) (by decide +kernel)), (lw_in 55 (by decide +kernel) (by decide +kernel))⟩
theorem kA_2_17 : pq_okA "PursuitDesk$Beliefs" 17 := ⟨(lw_in 301 (by decide +kernel) (by decide +kernel)), (lw_in 296 (by decide +kernel) (by decide +kernel)), (lw_in 295 (by decide +kernel) (by decide +kernel)), (lw_in 45 (by decide +kernel) (by decide +kernel))⟩
theorem kA_3_35 : pq_okA "PursuitDesk$Evader" 35 := ⟨(lw_in 306 (by decide +kernel) (by decide +kernel)), (lw_in 296 (by decide +kernel) (by decide +kernel)), (lw_in 295 (by decide +kernel) (by decide +kernel)), (lw_in 45 (by decide +kernel) (by decide +kernel))⟩
theorem kA_7_43 : pq_okA "PursuitDesk$State" 43 := ⟨(lw_in 294 (by decide +kernel) (by decide +kernel)), (lw_in 296 (by decide +kernel) (by decide +kernel)), (lw_in 295 (by decide +kernel) (by decide +kernel)), (lw_in 45 (by decide +kernel) (by decide +kernel))⟩
theorem kX_2_43 : pq_okY "PursuitDesk$Beliefs" 43 := ⟨(lw_in 463 (by decide +kernel) (by decide +kernel)), (lw_in 464 (by decide +kernel) (by decide +kernel)), (lw_in 47 (by decide +kernel) (by decide +kernel)), (lw_in 465 (by decide +kernel) (by decide +kernel))⟩
theorem kX_6_39 : pq_okX "PursuitDesk$MoveSearch" 39 := ⟨(lw_in 601 (by decide +kernel) (by decide +kernel)), (lw_in 602 (by decide +kernel) (by decide +kernel)), (lw_in 47 (by decide +kernel) (by decide +kernel)), (lw_in 603 (by decide +kernel) (by decide +kernel))⟩
theorem kC_6_23 : pq_okC "PursuitDesk$MoveSearch" 23 (.int (nI 41472)) := ⟨_, rfl, (lw_in 646 (by decide +kernel) (by decide +kernel))⟩
theorem kC_9_29 : pq_okC "PursuitDeskModel" 29 (.int (nI 32768)) := ⟨_, rfl, (lw_in 700 (by decide +kernel) (by decide +kernel))⟩
theorem kD_0_314 : pq_okD "java/lang/Long" 314 (.long (lN 6148914691236517205)) := ⟨_, rfl, (lw_in 357 (by decide +kernel) (by decide +kernel))⟩
theorem kD_0_316 : pq_okD "java/lang/Long" 316 (.long (lN 3689348814741910323)) := ⟨_, rfl, (lw_in 358 (by decide +kernel) (by decide +kernel))⟩
theorem kD_0_318 : pq_okD "java/lang/Long" 318 (.long (lN 1085102592571150095)) := ⟨_, rfl, (lw_in 359 (by decide +kernel) (by decide +kernel))⟩
theorem kD_1_17 : pq_okD "PursuitDesk$Ways" 17 (.long (lN 63)) := ⟨_, rfl, (lw_in 439 (by decide +kernel) (by decide +kernel))⟩
theorem kD_1_15 : pq_okD "PursuitDesk$Ways" 15 (.long (lN 1090785345)) := ⟨_, rfl, (lw_in 458 (by decide +kernel) (by decide +kernel))⟩
theorem kD_4_64 : pq_okD "PursuitDesk$Search" 64 (.long (-1)) := ⟨_, rfl, (lw_in 611 (by decide +kernel) (by decide +kernel))⟩
theorem kD_7_99 : pq_okD "PursuitDesk$State" 99 (.long (-1)) := ⟨_, rfl, (lw_in 328 (by decide +kernel) (by decide +kernel))⟩
theorem pi0 : ∀ w ∈ u_ws "PursuitDesk$Beliefs" pT0 4, w ∈ lw_g := pq_ac (lw_in 73 (by decide +kernel) (by decide +kernel)) (pq_ac (lw_in 75 (by decide +kernel) (by decide +kernel)) (pq_ac (lw_in 77 (by decide +kernel) (by decide +kernel)) (pq_ac (lw_in 79 (by decide +kernel) (by decide +kernel)) (pq_an))))
theorem pi1 : ∀ w ∈ u_ws "PursuitDesk$Evader" pT1 7, w ∈ lw_g := pq_ac (lw_in 104 (by decide +kernel) (by decide +kernel)) (pq_ac (lw_in 106 (by decide +kernel) (by decide +kernel)) (pq_ac (lw_in 108 (by decide +kernel) (by decide +kernel)) (pq_ac (lw_in 110 (by decide +kernel) (by decide +kernel)) (pq_ac (lw_in 112 (by decide +kernel) (by decide +kernel)) (pq_ac (lw_in 114 (by decide +kernel) (by decide +kernel)) (pq_ac (lw_in 116 (by decide +kernel) (by decide +kernel)) (pq_an)))))))
theorem pi2 : ∀ w ∈ u_ws "PursuitDesk$MoveSearch" pT2 7, w ∈ lw_g := pq_ac (lw_in 220 (by decide +kernel) (by decide +kernel)) (pq_ac (lw_in 221 (by decide +kernel) (by decide +kernel)) (pq_ac (lw_in 222 (by decide +kernel) (by decide +kernel)) (pq_ac (lw_in 223 (by decide +kernel) (by decide +kernel)) (pq_ac (lw_in 214 (by decide +kernel) (by decide +kernel)) (pq_ac (lw_in 216 (by decide +kernel) (by decide +kernel)) (pq_ac (lw_in 218 (by decide +kernel) (by decide +kernel)) (pq_an)))))))
theorem pi3 : ∀ w ∈ u_ws "PursuitDesk$State" pT3 10, w ∈ lw_g := pq_ac (lw_in 139 (by decide +kernel) (by decide +kernel)) (pq_ac (lw_in 141 (by decide +kernel) (by decide +kernel)) (pq_ac (lw_in 143 (by decide +kernel) (by decide +kernel)) (pq_ac (lw_in 145 (by decide +kernel) (by decide +kernel)) (pq_ac (lw_in 147 (by decide +kernel) (by decide +kernel)) (pq_ac (lw_in 149 (by decide +kernel) (by decide +kernel)) (pq_ac (lw_in 151 (by decide +kernel) (by decide +kernel)) (pq_ac (lw_in 153 (by decide +kernel) (by decide +kernel)) (pq_ac (lw_in 155 (by decide +kernel) (by decide +kernel)) (pq_ac (lw_in 157 (by decide +kernel) (by decide +kernel)) (pq_an))))))))))
theorem pi4 : ∀ w ∈ u_ws "PursuitDesk$TurnSearch" pT4 9, w ∈ lw_g := pq_ac (lw_in 195 (by decide +kernel) (by decide +kernel)) (pq_ac (lw_in 197 (by decide +kernel) (by decide +kernel)) (pq_ac (lw_in 199 (by decide +kernel) (by decide +kernel)) (pq_ac (lw_in 201 (by decide +kernel) (by decide +kernel)) (pq_ac (lw_in 185 (by decide +kernel) (by decide +kernel)) (pq_ac (lw_in 187 (by decide +kernel) (by decide +kernel)) (pq_ac (lw_in 189 (by decide +kernel) (by decide +kernel)) (pq_ac (lw_in 191 (by decide +kernel) (by decide +kernel)) (pq_ac (lw_in 193 (by decide +kernel) (by decide +kernel)) (pq_an)))))))))
theorem pi5 : ∀ w ∈ u_ws "PursuitDesk" pT5 9, w ∈ lw_g := pq_ac (lw_in 259 (by decide +kernel) (by decide +kernel)) (pq_ac (lw_in 261 (by decide +kernel) (by decide +kernel)) (pq_ac (lw_in 263 (by decide +kernel) (by decide +kernel)) (pq_ac (lw_in 265 (by decide +kernel) (by decide +kernel)) (pq_ac (lw_in 267 (by decide +kernel) (by decide +kernel)) (pq_ac (lw_in 269 (by decide +kernel) (by decide +kernel)) (pq_ac (lw_in 271 (by decide +kernel) (by decide +kernel)) (pq_ac (lw_in 273 (by decide +kernel) (by decide +kernel)) (pq_ac (lw_in 275 (by decide +kernel) (by decide +kernel)) (pq_an)))))))))
theorem pi6 : ∀ w ∈ u_ws "PursuitDeskModel" pT6 12, w ∈ lw_g := pq_ac (lw_in 721 (by decide +kernel) (by decide +kernel)) (pq_ac (lw_in 723 (by decide +kernel) (by decide +kernel)) (pq_ac (lw_in 725 (by decide +kernel) (by decide +kernel)) (pq_ac (lw_in 727 (by decide +kernel) (by decide +kernel)) (pq_ac (lw_in 729 (by decide +kernel) (by decide +kernel)) (pq_ac (lw_in 731 (by decide +kernel) (by decide +kernel)) (pq_ac (lw_in 733 (by decide +kernel) (by decide +kernel)) (pq_ac (lw_in 735 (by decide +kernel) (by decide +kernel)) (pq_ac (lw_in 737 (by decide +kernel) (by decide +kernel)) (pq_ac (lw_in 739 (by decide +kernel) (by decide +kernel)) (pq_ac (lw_in 741 (by decide +kernel) (by decide +kernel)) (pq_ac (lw_in 743 (by decide +kernel) (by decide +kernel)) (pq_an))))))))))))
end
section
set_option maxRecDepth 100000 in
theorem dk_0 : ct_0.all (pq_dc prog_11_method_50_code (some .int)) = true := by decide +kernel
set_option maxRecDepth 100000 in
theorem dk_1 : ct_1.all (pq_dc prog_8_method_5_code (some .long)) = true := by decide +kernel
set_option maxRecDepth 100000 in
theorem dk_2 : ct_2.all (pq_dc prog_8_method_3_code (some .long)) = true := by decide +kernel
set_option maxRecDepth 100000 in
theorem dk_3 : ct_3.all (pq_dc prog_8_method_4_code (some .long)) = true := by decide +kernel
set_option maxRecDepth 100000 in
theorem dk_4 : ct_4.all (pq_dc prog_8_method_2_code (some .boolean)) = true := by decide +kernel
set_option maxRecDepth 100000 in
theorem dk_5 : ct_5.all (pq_dc prog_8_method_10_code (some .int)) = true := by decide +kernel
set_option maxRecDepth 100000 in
theorem dk_6 : ct_6.all (pq_dc prog_8_method_8_code (some .long)) = true := by decide +kernel
set_option maxRecDepth 100000 in
theorem dk_7 : ct_7.all (pq_dc prog_8_method_9_code (some .int)) = true := by decide +kernel
set_option maxRecDepth 100000 in
theorem dk_8 : ct_8.all (pq_dc prog_8_method_6_code (some .long)) = true := by decide +kernel
set_option maxRecDepth 100000 in
theorem dk_9 : ct_9.all (pq_dc prog_8_method_7_code (some .int)) = true := by decide +kernel
set_option maxRecDepth 100000 in
theorem dk_10 : ct_10.all (pq_dc prog_2_method_1_code none) = true := by decide +kernel
set_option maxRecDepth 100000 in
theorem dk_11 : ct_11.all (pq_dc prog_2_method_4_code none) = true := by decide +kernel
set_option maxRecDepth 100000 in
theorem dk_12 : ct_12.all (pq_dc prog_2_method_3_code (some .int)) = true := by decide +kernel
set_option maxRecDepth 100000 in
theorem dk_13 : ct_13.all (pq_dc prog_2_method_2_code none) = true := by decide +kernel
set_option maxRecDepth 100000 in
theorem dk_14 : ct_14.all (pq_dc prog_2_method_7_code none) = true := by decide +kernel
set_option maxRecDepth 100000 in
theorem dk_15 : ct_15.all (pq_dc prog_2_method_6_code (some .int)) = true := by decide +kernel
set_option maxRecDepth 100000 in
theorem dk_16 : ct_16.all (pq_dc prog_2_method_5_code (some .boolean)) = true := by decide +kernel
set_option maxRecDepth 100000 in
theorem dk_17 : ct_17.all (pq_dc prog_2_method_9_code none) = true := by decide +kernel
set_option maxRecDepth 100000 in
theorem dk_18 : ct_18.all (pq_dc prog_2_method_8_code none) = true := by decide +kernel
set_option maxRecDepth 100000 in
theorem dk_19 : ct_19.all (pq_dc prog_3_method_1_code none) = true := by decide +kernel
set_option maxRecDepth 100000 in
theorem dk_20 : ct_20.all (pq_dc prog_3_method_2_code none) = true := by decide +kernel
set_option maxRecDepth 100000 in
theorem dk_21 : ct_21.all (pq_dc prog_3_method_4_code (some .boolean)) = true := by decide +kernel
set_option maxRecDepth 100000 in
theorem dk_22 : ct_22.all (pq_dc prog_3_method_5_code none) = true := by decide +kernel
set_option maxRecDepth 100000 in
theorem dk_23 : ct_23.all (pq_dc prog_3_method_7_code none) = true := by decide +kernel
set_option maxRecDepth 100000 in
theorem dk_24 : ct_24.all (pq_dc prog_3_method_6_code none) = true := by decide +kernel
set_option maxRecDepth 100000 in
theorem dk_25 : ct_25.all (pq_dc prog_3_method_8_code (some .int)) = true := by decide +kernel
set_option maxRecDepth 100000 in
theorem dk_26 : ct_26.all (pq_dc prog_3_method_3_code none) = true := by decide +kernel
set_option maxRecDepth 100000 in
theorem dk_27 : ct_27.all (pq_dc prog_3_method_9_code (some .int)) = true := by decide +kernel
set_option maxRecDepth 100000 in
theorem dk_28 : ct_28.all (pq_dc prog_5_method_1_code none) = true := by decide +kernel
set_option maxRecDepth 100000 in
theorem dk_29 : ct_29.all (pq_dc prog_5_method_3_code none) = true := by decide +kernel
set_option maxRecDepth 100000 in
theorem dk_30 : ct_30.all (pq_dc prog_5_method_6_code none) = true := by decide +kernel
set_option maxRecDepth 100000 in
theorem dk_31 : ct_31.all (pq_dc prog_5_method_4_code (some .int)) = true := by decide +kernel
set_option maxRecDepth 100000 in
theorem dk_32 : ct_32.all (pq_dc prog_5_method_5_code (some .int)) = true := by decide +kernel
set_option maxRecDepth 100000 in
theorem dk_33 : ct_33.all (pq_dc prog_5_method_8_code none) = true := by decide +kernel
set_option maxRecDepth 100000 in
theorem dk_34 : ct_34.all (pq_dc prog_5_method_7_code none) = true := by decide +kernel
set_option maxRecDepth 100000 in
theorem dk_35 : ct_35.all (pq_dc prog_5_method_9_code none) = true := by decide +kernel
set_option maxRecDepth 100000 in
theorem dk_36 : ct_36.all (pq_dc prog_7_method_1_code none) = true := by decide +kernel
set_option maxRecDepth 100000 in
theorem dk_37 : ct_37.all (pq_dc prog_7_method_2_code none) = true := by decide +kernel
set_option maxRecDepth 100000 in
theorem dk_38 : ct_38.all (pq_dc prog_7_method_3_code none) = true := by decide +kernel
set_option maxRecDepth 100000 in
theorem dk_39 : ct_39.all (pq_dc prog_7_method_6_code none) = true := by decide +kernel
set_option maxRecDepth 100000 in
theorem dk_40 : ct_40.all (pq_dc prog_7_method_7_code none) = true := by decide +kernel
set_option maxRecDepth 100000 in
theorem dk_41 : ct_41.all (pq_dc prog_7_method_8_code (some .int)) = true := by decide +kernel
set_option maxRecDepth 100000 in
theorem dk_42 : ct_42.all (pq_dc prog_7_method_9_code (some .int)) = true := by decide +kernel
set_option maxRecDepth 100000 in
theorem dk_43 : ct_43.all (pq_dc prog_7_method_4_code none) = true := by decide +kernel
set_option maxRecDepth 100000 in
theorem dk_44 : ct_44.all (pq_dc prog_7_method_5_code none) = true := by decide +kernel
set_option maxRecDepth 100000 in
theorem dk_45 : ct_45.all (pq_dc prog_4_method_1_code none) = true := by decide +kernel
set_option maxRecDepth 100000 in
theorem dk_46 : ct_46.all (pq_dc prog_4_method_4_code none) = true := by decide +kernel
set_option maxRecDepth 100000 in
theorem dk_47 : ct_47.all (pq_dc prog_4_method_2_code (some .int)) = true := by decide +kernel
set_option maxRecDepth 100000 in
theorem dk_48 : ct_48.all (pq_dc prog_4_method_3_code (some .boolean)) = true := by decide +kernel
set_option maxRecDepth 100000 in
theorem dk_49 : ct_49.all (pq_dc prog_6_method_1_code none) = true := by decide +kernel
set_option maxRecDepth 100000 in
theorem dk_50 : ct_50.all (pq_dc prog_6_method_3_code none) = true := by decide +kernel
set_option maxRecDepth 100000 in
theorem dk_51 : ct_51.all (pq_dc prog_6_method_4_code none) = true := by decide +kernel
set_option maxRecDepth 100000 in
theorem dk_52 : ct_52.all (pq_dc prog_6_method_7_code (some .int)) = true := by decide +kernel
set_option maxRecDepth 100000 in
theorem dk_53 : ct_53.all (pq_dc prog_6_method_2_code none) = true := by decide +kernel
set_option maxRecDepth 100000 in
theorem dk_54 : ct_54.all (pq_dc prog_6_method_5_code (some .boolean)) = true := by decide +kernel
set_option maxRecDepth 100000 in
theorem dk_55 : ct_55.all (pq_dc prog_6_method_9_code none) = true := by decide +kernel
set_option maxRecDepth 100000 in
theorem dk_56 : ct_56.all (pq_dc prog_6_method_10_code none) = true := by decide +kernel
set_option maxRecDepth 100000 in
theorem dk_57 : ct_57.all (pq_dc prog_6_method_6_code (some .int)) = true := by decide +kernel
set_option maxRecDepth 100000 in
theorem dk_58 : ct_58.all (pq_dc prog_6_method_11_code none) = true := by decide +kernel
set_option maxRecDepth 100000 in
theorem dk_59 : ct_59.all (pq_dc prog_6_method_12_code none) = true := by decide +kernel
set_option maxRecDepth 100000 in
theorem dk_60 : ct_60.all (pq_dc prog_6_method_8_code (some .long)) = true := by decide +kernel
set_option maxRecDepth 100000 in
theorem dk_61 : ct_61.all (pq_dc prog_6_method_13_code none) = true := by decide +kernel
set_option maxRecDepth 100000 in
theorem dk_62 : ct_62.all (pq_dc prog_1_method_1_code none) = true := by decide +kernel
set_option maxRecDepth 100000 in
theorem dk_63 : ct_63.all (pq_dc prog_1_method_2_code (some .int)) = true := by decide +kernel
set_option maxRecDepth 100000 in
theorem dk_64 : ct_64.all (pq_dc prog_1_method_33_code none) = true := by decide +kernel
set_option maxRecDepth 100000 in
theorem dk_65 : ct_65.all (pq_dc prog_1_method_34_code none) = true := by decide +kernel
set_option maxRecDepth 100000 in
theorem dk_66 : ct_66.all (pq_dc prog_1_method_3_code (some .int)) = true := by decide +kernel
set_option maxRecDepth 100000 in
theorem dk_67 : ct_67.all (pq_dc prog_1_method_31_code (some .boolean)) = true := by decide +kernel
set_option maxRecDepth 100000 in
theorem dk_68 : ct_68.all (pq_dc prog_1_method_4_code (some .int)) = true := by decide +kernel
set_option maxRecDepth 100000 in
theorem dk_69 : ct_69.all (pq_dc prog_1_method_30_code (some .int)) = true := by decide +kernel
set_option maxRecDepth 100000 in
theorem dk_70 : ct_70.all (pq_dc prog_1_method_37_code (some .long)) = true := by decide +kernel
set_option maxRecDepth 100000 in
theorem dk_71 : ct_71.all (pq_dc prog_1_method_38_code (some .long)) = true := by decide +kernel
set_option maxRecDepth 100000 in
theorem dk_72 : ct_72.all (pq_dc prog_1_method_5_code (some .int)) = true := by decide +kernel
set_option maxRecDepth 100000 in
theorem dk_73 : ct_73.all (pq_dc prog_1_method_6_code (some .int)) = true := by decide +kernel
set_option maxRecDepth 100000 in
theorem dk_74 : ct_74.all (pq_dc prog_1_method_7_code (some .int)) = true := by decide +kernel
set_option maxRecDepth 100000 in
theorem dk_75 : ct_75.all (pq_dc prog_1_method_32_code (some .boolean)) = true := by decide +kernel
set_option maxRecDepth 100000 in
theorem dk_76 : ct_76.all (pq_dc prog_1_method_8_code (some .int)) = true := by decide +kernel
set_option maxRecDepth 100000 in
theorem dk_77 : ct_77.all (pq_dc prog_1_method_9_code (some .int)) = true := by decide +kernel
set_option maxRecDepth 100000 in
theorem dk_78 : ct_78.all (pq_dc prog_1_method_10_code (some .int)) = true := by decide +kernel
set_option maxRecDepth 100000 in
theorem dk_79 : ct_79.all (pq_dc prog_1_method_11_code (some .int)) = true := by decide +kernel
set_option maxRecDepth 100000 in
theorem dk_80 : ct_80.all (pq_dc prog_1_method_12_code (some .int)) = true := by decide +kernel
set_option maxRecDepth 100000 in
theorem dk_81 : ct_81.all (pq_dc prog_1_method_13_code (some .int)) = true := by decide +kernel
set_option maxRecDepth 100000 in
theorem dk_82 : ct_82.all (pq_dc prog_1_method_14_code (some .int)) = true := by decide +kernel
set_option maxRecDepth 100000 in
theorem dk_83 : ct_83.all (pq_dc prog_1_method_15_code (some .int)) = true := by decide +kernel
set_option maxRecDepth 100000 in
theorem dk_84 : ct_84.all (pq_dc prog_1_method_16_code (some .int)) = true := by decide +kernel
set_option maxRecDepth 100000 in
theorem dk_85 : ct_85.all (pq_dc prog_1_method_17_code (some .int)) = true := by decide +kernel
set_option maxRecDepth 100000 in
theorem dk_86 : ct_86.all (pq_dc prog_1_method_18_code (some .int)) = true := by decide +kernel
set_option maxRecDepth 100000 in
theorem dk_87 : ct_87.all (pq_dc prog_1_method_19_code (some .int)) = true := by decide +kernel
set_option maxRecDepth 100000 in
theorem dk_88 : ct_88.all (pq_dc prog_1_method_20_code (some .int)) = true := by decide +kernel
set_option maxRecDepth 100000 in
theorem dk_89 : ct_89.all (pq_dc prog_1_method_21_code (some .int)) = true := by decide +kernel
set_option maxRecDepth 100000 in
theorem dk_90 : ct_90.all (pq_dc prog_1_method_22_code (some .int)) = true := by decide +kernel
set_option maxRecDepth 100000 in
theorem dk_91 : ct_91.all (pq_dc prog_1_method_35_code none) = true := by decide +kernel
set_option maxRecDepth 100000 in
theorem dk_92 : ct_92.all (pq_dc prog_1_method_23_code (some .int)) = true := by decide +kernel
set_option maxRecDepth 100000 in
theorem dk_93 : ct_93.all (pq_dc prog_1_method_24_code (some .int)) = true := by decide +kernel
set_option maxRecDepth 100000 in
theorem dk_94 : ct_94.all (pq_dc prog_1_method_25_code (some .int)) = true := by decide +kernel
set_option maxRecDepth 100000 in
theorem dk_95 : ct_95.all (pq_dc prog_1_method_26_code (some .int)) = true := by decide +kernel
set_option maxRecDepth 100000 in
theorem dk_96 : ct_96.all (pq_dc prog_1_method_36_code (some .int)) = true := by decide +kernel
set_option maxRecDepth 100000 in
theorem dk_97 : ct_97.all (pq_dc prog_1_method_27_code (some .int)) = true := by decide +kernel
set_option maxRecDepth 100000 in
theorem dk_98 : ct_98.all (pq_dc prog_1_method_28_code (some .int)) = true := by decide +kernel
set_option maxRecDepth 100000 in
theorem dk_99 : ct_99.all (pq_dc prog_1_method_29_code (some .int)) = true := by decide +kernel
set_option maxRecDepth 100000 in
theorem dk_100 : ct_100.all (pq_dc prog_10_method_1_code none) = true := by decide +kernel
set_option maxRecDepth 100000 in
theorem dk_101 : ct_101.all (pq_dc prog_10_method_7_code none) = true := by decide +kernel
set_option maxRecDepth 100000 in
theorem dk_102 : ct_102.all (pq_dc prog_10_method_5_code (some .int)) = true := by decide +kernel
set_option maxRecDepth 100000 in
theorem dk_103 : ct_103.all (pq_dc prog_10_method_10_code (some .int)) = true := by decide +kernel
set_option maxRecDepth 100000 in
theorem dk_104 : ct_104.all (pq_dc prog_10_method_2_code (some .boolean)) = true := by decide +kernel
set_option maxRecDepth 100000 in
theorem dk_105 : ct_105.all (pq_dc prog_10_method_8_code none) = true := by decide +kernel
set_option maxRecDepth 100000 in
theorem dk_106 : ct_106.all (pq_dc prog_10_method_12_code (some .int)) = true := by decide +kernel
set_option maxRecDepth 100000 in
theorem dk_107 : ct_107.all (pq_dc prog_10_method_3_code (some .boolean)) = true := by decide +kernel
set_option maxRecDepth 100000 in
theorem dk_108 : ct_108.all (pq_dc prog_10_method_11_code none) = true := by decide +kernel
set_option maxRecDepth 100000 in
theorem dk_109 : ct_109.all (pq_dc prog_10_method_9_code (some .boolean)) = true := by decide +kernel
set_option maxRecDepth 100000 in
theorem dk_110 : ct_110.all (pq_dc prog_10_method_14_code (some .int)) = true := by decide +kernel
set_option maxRecDepth 100000 in
theorem dk_111 : ct_111.all (pq_dc prog_10_method_6_code (some .int)) = true := by decide +kernel
set_option maxRecDepth 100000 in
theorem dk_112 : ct_112.all (pq_dc prog_10_method_15_code (some .int)) = true := by decide +kernel
set_option maxRecDepth 100000 in
theorem dk_113 : ct_113.all (pq_dc prog_10_method_16_code (some .int)) = true := by decide +kernel
set_option maxRecDepth 100000 in
theorem dk_114 : ct_114.all (pq_dc prog_10_method_4_code (some .boolean)) = true := by decide +kernel
set_option maxRecDepth 100000 in
theorem dk_115 : ct_115.all (pq_dc prog_10_method_17_code (some .int)) = true := by decide +kernel
set_option maxRecDepth 100000 in
theorem dk_116 : ct_116.all (pq_dc prog_10_method_18_code (some .int)) = true := by decide +kernel
set_option maxRecDepth 100000 in
theorem dk_117 : ct_117.all (pq_dc prog_10_method_20_code (some .int)) = true := by decide +kernel
set_option maxRecDepth 100000 in
theorem dk_118 : ct_118.all (pq_dc prog_10_method_19_code (some .int)) = true := by decide +kernel
set_option maxRecDepth 100000 in
theorem dk_119 : ct_119.all (pq_dc prog_10_method_23_code (some .int)) = true := by decide +kernel
set_option maxRecDepth 100000 in
theorem dk_120 : ct_120.all (pq_dc prog_10_method_22_code none) = true := by decide +kernel
set_option maxRecDepth 100000 in
theorem dk_121 : ct_121.all (pq_dc prog_10_method_21_code (some .int)) = true := by decide +kernel
set_option maxRecDepth 100000 in
theorem dk_122 : ct_122.all (pq_dc prog_10_method_27_code (some .int)) = true := by decide +kernel
set_option maxRecDepth 100000 in
theorem dk_123 : ct_123.all (pq_dc prog_10_method_24_code none) = true := by decide +kernel
set_option maxRecDepth 100000 in
theorem dk_124 : ct_124.all (pq_dc prog_10_method_25_code none) = true := by decide +kernel
set_option maxRecDepth 100000 in
theorem dk_125 : ct_125.all (pq_dc prog_10_method_26_code none) = true := by decide +kernel
set_option maxRecDepth 100000 in
theorem dk_126 : ct_126.all (pq_dc prog_10_method_28_code (some .int)) = true := by decide +kernel
set_option maxRecDepth 100000 in
theorem dk_127 : ct_127.all (pq_dc prog_10_method_29_code (some .int)) = true := by decide +kernel
set_option maxRecDepth 100000 in
theorem dk_128 : ct_128.all (pq_dc prog_10_method_13_code (some .int)) = true := by decide +kernel
set_option maxRecDepth 100000 in
theorem dk_129 : ct_129.all (pq_dc prog_10_method_30_code (some .int)) = true := by decide +kernel
set_option maxRecDepth 100000 in
theorem dk_130 : ct_130.all (pq_dc prog_10_method_31_code (some .int)) = true := by decide +kernel
set_option maxRecDepth 100000 in
theorem dk_131 : ct_131.all (pq_dc prog_10_method_32_code (some .int)) = true := by decide +kernel
set_option maxRecDepth 100000 in
theorem dk_132 : ct_132.all (pq_dc prog_10_method_33_code (some .int)) = true := by decide +kernel
set_option maxRecDepth 100000 in
theorem dk_133 : ct_133.all (pq_dc prog_10_method_34_code (some .int)) = true := by decide +kernel
set_option maxRecDepth 100000 in
theorem dk_134 : ct_134.all (pq_dc prog_10_method_35_code (some .int)) = true := by decide +kernel
set_option maxRecDepth 100000 in
theorem dk_135 : ct_135.all (pq_dc prog_10_method_36_code (some .int)) = true := by decide +kernel
set_option maxRecDepth 100000 in
theorem dk_136 : ct_136.all (pq_dc prog_10_method_37_code (some .int)) = true := by decide +kernel
set_option maxRecDepth 100000 in
theorem dk_137 : ct_137.all (pq_dc prog_10_method_45_code (some .int)) = true := by decide +kernel
set_option maxRecDepth 100000 in
theorem dk_138 : ct_138.all (pq_dc prog_10_method_44_code (some .int)) = true := by decide +kernel
set_option maxRecDepth 100000 in
theorem dk_139 : ct_139.all (pq_dc prog_10_method_39_code none) = true := by decide +kernel
set_option maxRecDepth 100000 in
theorem dk_140 : ct_140.all (pq_dc prog_10_method_43_code (some .int)) = true := by decide +kernel
set_option maxRecDepth 100000 in
theorem dk_141 : ct_141.all (pq_dc prog_10_method_38_code (some .int)) = true := by decide +kernel
set_option maxRecDepth 100000 in
theorem dk_142 : ct_142.all (pq_dc prog_10_method_42_code (some .int)) = true := by decide +kernel
set_option maxRecDepth 100000 in
theorem dk_143 : ct_143.all (pq_dc prog_10_method_41_code (some .int)) = true := by decide +kernel
set_option maxRecDepth 100000 in
theorem dk_144 : ct_144.all (pq_dc prog_10_method_40_code (some .int)) = true := by decide +kernel
set_option maxRecDepth 100000 in
theorem dk_145 : ct_145.all (pq_dc prog_10_method_46_code (some .int)) = true := by decide +kernel
set_option maxRecDepth 100000 in
theorem dk_146 : ct_146.all (pq_dc prog_10_method_48_code (some .int)) = true := by decide +kernel
set_option maxRecDepth 100000 in
theorem dk_147 : ct_147.all (pq_dc prog_10_method_47_code (some .int)) = true := by decide +kernel
set_option maxRecDepth 100000 in
theorem dk_148 : ct_148.all (pq_dc prog_10_method_50_code (some .int)) = true := by decide +kernel
set_option maxRecDepth 100000 in
theorem dk_149 : ct_149.all (pq_dc prog_10_method_49_code (some .int)) = true := by decide +kernel
set_option maxRecDepth 100000 in
theorem dk_150 : ct_150.all (pq_dc prog_10_method_51_code (some .int)) = true := by decide +kernel
set_option maxRecDepth 100000 in
theorem dk_151 : ct_151.all (pq_dc prog_10_method_52_code (some .int)) = true := by decide +kernel
set_option maxRecDepth 100000 in
theorem dk_152 : ct_152.all (pq_dc prog_10_method_53_code (some .int)) = true := by decide +kernel
set_option maxRecDepth 100000 in
theorem dk_153 : ct_153.all (pq_dc prog_10_method_55_code (some .int)) = true := by decide +kernel
set_option maxRecDepth 100000 in
theorem dk_154 : ct_154.all (pq_dc prog_10_method_54_code (some .int)) = true := by decide +kernel
set_option maxRecDepth 100000 in
theorem dk_155 : ct_155.all (pq_dc prog_10_method_56_code (some .int)) = true := by decide +kernel
set_option maxRecDepth 100000 in
theorem dk_156 : ct_156.all (pq_dc code (some .boolean)) = true := by decide +kernel

set_option maxRecDepth 100000 in
theorem ck_0 : ∀ e ∈ ct_0, pq_ok "java/lang/Long" false e := pq_ac trivial (pq_ac trivial (pq_ac trivial (pq_ac trivial (pq_ac kD_0_314 (pq_ac trivial (pq_ac trivial (pq_ac trivial (pq_ac trivial (pq_ac kD_0_316 (pq_ac trivial (pq_ac trivial (pq_ac trivial (pq_ac trivial (pq_ac kD_0_316 (pq_ac trivial (pq_ac trivial (pq_ac trivial (pq_ac trivial (pq_ac trivial (pq_ac trivial (pq_ac trivial (pq_ac trivial (pq_ac kD_0_318 (pq_ac trivial (pq_ac trivial (pq_ac trivial (pq_ac trivial (pq_ac trivial (pq_ac trivial (pq_ac trivial (pq_ac trivial (pq_ac trivial (pq_ac trivial (pq_ac trivial (pq_ac trivial (pq_ac trivial (pq_ac trivial (pq_ac trivial (pq_ac trivial (pq_ac trivial (pq_ac trivial (pq_ac trivial (pq_ac trivial (pq_ac trivial (pq_ac trivial (pq_ac trivial (pq_ac trivial (pq_ac trivial (pq_an)))))))))))))))))))))))))))))))))))))))))))))))))
set_option maxRecDepth 100000 in
theorem ck_1 : ∀ e ∈ ct_1, pq_ok "PursuitDesk$Ways" false e := pq_ac trivial (pq_ac trivial (pq_ac trivial (pq_ac trivial (pq_ac trivial (pq_ac trivial (pq_ac trivial (pq_ac trivial (pq_ac trivial (pq_ac trivial (pq_ac kS_1_9 (pq_ac trivial (pq_ac trivial (pq_ac trivial (pq_ac trivial (pq_ac trivial (pq_ac trivial (pq_an)))))))))))))))))
set_option maxRecDepth 100000 in
theorem ck_2 : ∀ e ∈ ct_2, pq_ok "PursuitDesk$Ways" false e := pq_ac trivial (pq_ac trivial (pq_ac trivial (pq_ac trivial (pq_ac trivial (pq_ac trivial (pq_ac trivial (pq_ac trivial (pq_an))))))))
set_option maxRecDepth 100000 in
theorem ck_3 : ∀ e ∈ ct_3, pq_ok "PursuitDesk$Ways" false e := pq_ac trivial (pq_ac trivial (pq_ac kS_1_9 (pq_ac trivial (pq_ac trivial (pq_ac kS_1_9 (pq_ac trivial (pq_ac trivial (pq_an))))))))
set_option maxRecDepth 100000 in
theorem ck_4 : ∀ e ∈ ct_4, pq_ok "PursuitDesk$Ways" false e := pq_ac trivial (pq_ac trivial (pq_ac trivial (pq_ac trivial (pq_ac trivial (pq_ac trivial (pq_ac trivial (pq_ac trivial (pq_ac trivial (pq_ac trivial (pq_ac trivial (pq_an)))))))))))
set_option maxRecDepth 100000 in
theorem ck_5 : ∀ e ∈ ct_5, pq_ok "PursuitDesk$Ways" false e := pq_ac trivial (pq_ac trivial (pq_ac kS_1_23 (pq_ac kS_1_27 (pq_ac trivial (pq_an)))))
set_option maxRecDepth 100000 in
theorem ck_6 : ∀ e ∈ ct_6, pq_ok "PursuitDesk$Ways" false e := pq_ac trivial (pq_ac trivial (pq_ac trivial (pq_ac trivial (pq_ac trivial (pq_ac trivial (pq_ac trivial (pq_ac trivial (pq_ac trivial (pq_ac kS_1_19 (pq_ac trivial (pq_ac trivial (pq_ac kD_1_17 (pq_ac trivial (pq_ac trivial (pq_ac trivial (pq_ac trivial (pq_ac trivial (pq_ac trivial (pq_ac trivial (pq_ac trivial (pq_ac trivial (pq_ac trivial (pq_ac trivial (pq_ac trivial (pq_an)))))))))))))))))))))))))
set_option maxRecDepth 100000 in
theorem ck_7 : ∀ e ∈ ct_7, pq_ok "PursuitDesk$Ways" false e := pq_ac trivial (pq_ac trivial (pq_ac trivial (pq_ac trivial (pq_ac trivial (pq_ac trivial (pq_ac trivial (pq_ac trivial (pq_ac trivial (pq_ac trivial (pq_ac trivial (pq_ac trivial (pq_ac trivial (pq_ac trivial (pq_ac trivial (pq_ac kD_1_17 (pq_ac trivial (pq_ac trivial (pq_ac trivial (pq_an)))))))))))))))))))
set_option maxRecDepth 100000 in
theorem ck_8 : ∀ e ∈ ct_8, pq_ok "PursuitDesk$Ways" false e := pq_ac kD_1_15 (pq_ac trivial (pq_ac trivial (pq_ac trivial (pq_ac trivial (pq_ac kS_1_9 (pq_ac trivial (pq_ac trivial (pq_an))))))))
set_option maxRecDepth 100000 in
theorem ck_9 : ∀ e ∈ ct_9, pq_ok "PursuitDesk$Ways" false e := pq_ac trivial (pq_ac trivial (pq_ac trivial (pq_ac trivial (pq_ac trivial (pq_ac kD_1_17 (pq_ac trivial (pq_ac trivial (pq_ac trivial (pq_an)))))))))
set_option maxRecDepth 100000 in
theorem ck_10 : ∀ e ∈ ct_10, pq_ok "PursuitDesk$Beliefs" true e := pq_ac trivial (pq_ac kO_2_1 (pq_ac trivial (pq_ac trivial (pq_ac trivial (pq_ac kQ_2_9i (pq_ac trivial (pq_ac trivial (pq_ac trivial (pq_ac kQ_2_13i (pq_ac trivial (pq_an)))))))))))
set_option maxRecDepth 100000 in
theorem ck_11 : ∀ e ∈ ct_11, pq_ok "PursuitDesk$Beliefs" false e := pq_ac trivial (pq_ac trivial (pq_ac kQ_2_23 (pq_ac trivial (pq_ac trivial (pq_ac kQ_2_27 (pq_ac trivial (pq_ac kF_2_9 (pq_ac trivial (pq_ac kS_2_30 (pq_ac trivial (pq_ac trivial (pq_ac trivial (pq_an)))))))))))))
set_option maxRecDepth 100000 in
theorem ck_12 : ∀ e ∈ ct_12, pq_ok "PursuitDesk$Beliefs" false e := pq_ac trivial (pq_ac trivial (pq_ac trivial (pq_ac trivial (pq_an))))
set_option maxRecDepth 100000 in
theorem ck_13 : ∀ e ∈ ct_13, pq_ok "PursuitDesk$Beliefs" false e := pq_ac trivial (pq_ac kF_2_9 (pq_ac trivial (pq_ac trivial (pq_ac kF_2_9 (pq_ac trivial (pq_ac trivial (pq_ac kA_2_17 (pq_ac trivial (pq_ac kF_2_13 (pq_ac trivial (pq_ac trivial (pq_ac kF_2_13 (pq_ac trivial (pq_ac trivial (pq_ac kA_2_17 (pq_ac trivial (pq_ac trivial (pq_ac kF_2_23 (pq_ac kQ_2_23 (pq_ac trivial (pq_ac trivial (pq_ac kF_2_27 (pq_ac kQ_2_27 (pq_ac trivial (pq_an)))))))))))))))))))))))))
set_option maxRecDepth 100000 in
theorem ck_14 : ∀ e ∈ ct_14, pq_ok "PursuitDesk$Beliefs" false e := pq_ac trivial (pq_ac kF_2_9 (pq_ac trivial (pq_ac kF_2_23 (pq_ac kS_2_30 (pq_ac trivial (pq_ac trivial (pq_ac trivial (pq_ac trivial (pq_ac trivial (pq_ac trivial (pq_ac trivial (pq_ac trivial (pq_ac trivial (pq_ac trivial (pq_an)))))))))))))))
set_option maxRecDepth 100000 in
theorem ck_15 : ∀ e ∈ ct_15, pq_ok "PursuitDesk$Beliefs" false e := pq_ac trivial (pq_ac kF_2_9 (pq_ac trivial (pq_ac kS_2_30 (pq_ac trivial (pq_ac trivial (pq_an))))))
set_option maxRecDepth 100000 in
theorem ck_16 : ∀ e ∈ ct_16, pq_ok "PursuitDesk$Beliefs" false e := pq_ac trivial (pq_ac trivial (pq_ac kF_2_23 (pq_ac trivial (pq_ac trivial (pq_ac trivial (pq_ac kF_2_23 (pq_ac trivial (pq_ac kF_2_27 (pq_ac trivial (pq_ac trivial (pq_ac trivial (pq_ac trivial (pq_ac trivial (pq_ac trivial (pq_an)))))))))))))))
set_option maxRecDepth 100000 in
theorem ck_17 : ∀ e ∈ ct_17, pq_ok "PursuitDesk$Beliefs" false e := pq_ac trivial (pq_ac trivial (pq_ac kV_2_34 (pq_ac trivial (pq_ac kS_2_49 (pq_ac trivial (pq_ac trivial (pq_ac trivial (pq_ac kF_2_9 (pq_ac trivial (pq_ac kS_2_30 (pq_ac trivial (pq_ac trivial (pq_ac trivial (pq_ac trivial (pq_ac trivial (pq_ac trivial (pq_ac trivial (pq_ac trivial (pq_ac trivial (pq_ac trivial (pq_ac kF_2_23 (pq_ac trivial (pq_ac trivial (pq_ac kF_2_9 (pq_ac trivial (pq_ac kS_2_30 (pq_ac trivial (pq_ac trivial (pq_ac trivial (pq_ac kF_2_13 (pq_ac trivial (pq_ac kS_2_30 (pq_ac trivial (pq_ac trivial (pq_ac trivial (pq_ac trivial (pq_ac trivial (pq_ac kV_2_34 (pq_ac kS_2_37 (pq_ac trivial (pq_ac trivial (pq_ac trivial (pq_ac trivial (pq_ac trivial (pq_an)))))))))))))))))))))))))))))))))))))))))))))
set_option maxRecDepth 100000 in
theorem ck_18 : ∀ e ∈ ct_18, pq_ok "PursuitDesk$Beliefs" false e := pq_ac trivial (pq_ac trivial (pq_ac trivial (pq_ac kF_2_23 (pq_ac kV_2_34 (pq_ac kS_2_37 (pq_ac trivial (pq_ac trivial (pq_ac trivial (pq_ac kF_2_23 (pq_ac trivial (pq_ac trivial (pq_ac kQ_2_23 (pq_ac trivial (pq_ac trivial (pq_ac kF_2_27 (pq_ac trivial (pq_ac trivial (pq_ac trivial (pq_ac kX_2_43 (pq_ac kQ_2_27 (pq_ac trivial (pq_ac kF_2_9 (pq_ac trivial (pq_ac kF_2_23 (pq_ac kS_2_30 (pq_ac trivial (pq_ac trivial (pq_ac trivial (pq_ac kF_2_13 (pq_ac trivial (pq_ac kF_2_23 (pq_ac kS_2_30 (pq_ac trivial (pq_ac trivial (pq_ac trivial (pq_an))))))))))))))))))))))))))))))))))))
set_option maxRecDepth 100000 in
theorem ck_19 : ∀ e ∈ ct_19, pq_ok "PursuitDesk$Evader" true e := pq_ac trivial (pq_ac kO_3_1 (pq_ac trivial (pq_ac trivial (pq_ac trivial (pq_ac kQ_3_9i (pq_ac trivial (pq_an)))))))
set_option maxRecDepth 100000 in
theorem ck_20 : ∀ e ∈ ct_20, pq_ok "PursuitDesk$Evader" false e := pq_ac trivial (pq_ac trivial (pq_ac kF_3_15 (pq_ac kQ_3_15 (pq_ac trivial (pq_ac trivial (pq_ac kF_3_19 (pq_ac kQ_3_19 (pq_ac trivial (pq_ac trivial (pq_ac kF_3_23 (pq_ac kQ_3_23 (pq_ac trivial (pq_ac trivial (pq_ac kF_3_26 (pq_ac kQ_3_26 (pq_ac trivial (pq_ac trivial (pq_ac kF_3_29 (pq_ac kQ_3_29 (pq_ac trivial (pq_ac trivial (pq_ac kF_3_32 (pq_ac kQ_3_32 (pq_ac trivial (pq_ac kF_3_9 (pq_ac trivial (pq_ac trivial (pq_ac kF_3_9 (pq_ac trivial (pq_ac trivial (pq_ac kA_3_35 (pq_ac trivial (pq_an)))))))))))))))))))))))))))))))))
set_option maxRecDepth 100000 in
theorem ck_21 : ∀ e ∈ ct_21, pq_ok "PursuitDesk$Evader" false e := pq_ac trivial (pq_ac kF_3_15 (pq_ac trivial (pq_ac trivial (pq_ac kF_3_26 (pq_ac trivial (pq_ac trivial (pq_ac trivial (pq_ac trivial (pq_ac trivial (pq_an))))))))))
set_option maxRecDepth 100000 in
theorem ck_22 : ∀ e ∈ ct_22, pq_ok "PursuitDesk$Evader" false e := pq_ac trivial (pq_ac trivial (pq_ac kQ_3_26 (pq_ac trivial (pq_ac trivial (pq_ac kQ_3_29 (pq_ac trivial (pq_ac trivial (pq_ac trivial (pq_ac kV_3_41 (pq_ac trivial (pq_an)))))))))))
set_option maxRecDepth 100000 in
theorem ck_23 : ∀ e ∈ ct_23, pq_ok "PursuitDesk$Evader" false e := pq_ac trivial (pq_ac trivial (pq_ac kQ_3_19 (pq_ac trivial (pq_ac trivial (pq_ac kQ_3_23 (pq_ac trivial (pq_ac kF_3_9 (pq_ac trivial (pq_ac kS_3_54 (pq_ac trivial (pq_ac trivial (pq_ac trivial (pq_an)))))))))))))
set_option maxRecDepth 100000 in
theorem ck_24 : ∀ e ∈ ct_24, pq_ok "PursuitDesk$Evader" false e := pq_ac trivial (pq_ac trivial (pq_ac kF_3_19 (pq_ac trivial (pq_ac kF_3_23 (pq_ac kS_3_45 (pq_ac trivial (pq_ac trivial (pq_ac trivial (pq_ac trivial (pq_ac trivial (pq_ac trivial (pq_ac kF_3_23 (pq_ac trivial (pq_ac kV_3_51 (pq_ac trivial (pq_ac trivial (pq_ac trivial (pq_ac kF_3_23 (pq_ac trivial (pq_ac kV_3_41 (pq_ac trivial (pq_an))))))))))))))))))))))
set_option maxRecDepth 100000 in
theorem ck_25 : ∀ e ∈ ct_25, pq_ok "PursuitDesk$Evader" false e := pq_ac trivial (pq_ac kF_3_9 (pq_ac trivial (pq_ac kS_3_54 (pq_ac trivial (pq_ac trivial (pq_an))))))
set_option maxRecDepth 100000 in
theorem ck_26 : ∀ e ∈ ct_26, pq_ok "PursuitDesk$Evader" false e := pq_ac trivial (pq_ac trivial (pq_ac kQ_3_15 (pq_ac trivial (pq_ac trivial (pq_ac kQ_3_26 (pq_ac trivial (pq_ac trivial (pq_ac kQ_3_29 (pq_ac trivial (pq_ac trivial (pq_ac kQ_3_32 (pq_ac trivial (pq_ac trivial (pq_ac trivial (pq_ac kV_3_41 (pq_ac trivial (pq_an)))))))))))))))))
set_option maxRecDepth 100000 in
theorem ck_27 : ∀ e ∈ ct_27, pq_ok "PursuitDesk$Evader" false e := pq_ac trivial (pq_ac trivial (pq_ac trivial (pq_ac kF_3_19 (pq_ac trivial (pq_ac trivial (pq_ac kF_3_23 (pq_ac trivial (pq_ac trivial (pq_ac kF_3_26 (pq_ac trivial (pq_ac trivial (pq_ac trivial (pq_ac trivial (pq_ac trivial (pq_ac trivial (pq_ac kF_3_29 (pq_ac trivial (pq_ac trivial (pq_ac kF_3_32 (pq_ac trivial (pq_an)))))))))))))))))))))
set_option maxRecDepth 100000 in
theorem ck_28 : ∀ e ∈ ct_28, pq_ok "PursuitDesk$Search" true e := pq_ac trivial (pq_ac kO_4_5 (pq_ac trivial (pq_ac trivial (pq_ac trivial (pq_ac kQ_4_11i (pq_ac trivial (pq_an)))))))
set_option maxRecDepth 100000 in
theorem ck_29 : ∀ e ∈ ct_29, pq_ok "PursuitDesk$Search" false e := pq_ac trivial (pq_ac trivial (pq_ac kQ_4_15 (pq_ac trivial (pq_ac trivial (pq_ac kQ_4_19 (pq_ac trivial (pq_ac trivial (pq_ac kQ_4_23 (pq_ac trivial (pq_an))))))))))
set_option maxRecDepth 100000 in
theorem ck_30 : ∀ e ∈ ct_30, pq_ok "PursuitDesk$Search" false e := pq_ac trivial (pq_ac kV_4_26 (pq_ac trivial (pq_ac trivial (pq_ac trivial (pq_ac trivial (pq_ac trivial (pq_ac trivial (pq_ac trivial (pq_ac trivial (pq_ac trivial (pq_ac trivial (pq_ac trivial (pq_ac trivial (pq_ac trivial (pq_an)))))))))))))))
set_option maxRecDepth 100000 in
theorem ck_31 : ∀ e ∈ ct_31, pq_ok "PursuitDesk$Search" false e := pq_ac trivial (pq_ac trivial (pq_ac trivial (pq_ac trivial (pq_ac trivial (pq_ac trivial (pq_ac kF_4_23 (pq_ac trivial (pq_ac trivial (pq_ac trivial (pq_ac trivial (pq_ac trivial (pq_ac trivial (pq_ac trivial (pq_ac trivial (pq_ac trivial (pq_an))))))))))))))))
set_option maxRecDepth 100000 in
theorem ck_32 : ∀ e ∈ ct_32, pq_ok "PursuitDesk$Search" false e := pq_ac trivial (pq_ac trivial (pq_ac trivial (pq_ac trivial (pq_ac trivial (pq_ac trivial (pq_ac kF_4_23 (pq_ac trivial (pq_ac trivial (pq_ac trivial (pq_ac trivial (pq_ac trivial (pq_ac trivial (pq_ac trivial (pq_ac trivial (pq_ac trivial (pq_ac trivial (pq_ac trivial (pq_ac trivial (pq_ac trivial (pq_ac trivial (pq_ac trivial (pq_ac trivial (pq_ac trivial (pq_an))))))))))))))))))))))))
set_option maxRecDepth 100000 in
theorem ck_33 : ∀ e ∈ ct_33, pq_ok "PursuitDesk$Search" false e := pq_ac trivial (pq_ac trivial (pq_ac kV_4_30 (pq_ac trivial (pq_ac trivial (pq_ac trivial (pq_ac kF_4_19 (pq_ac trivial (pq_ac trivial (pq_ac trivial (pq_ac kS_4_34 (pq_ac trivial (pq_ac trivial (pq_ac kV_4_40 (pq_ac trivial (pq_an)))))))))))))))
set_option maxRecDepth 100000 in
theorem ck_34 : ∀ e ∈ ct_34, pq_ok "PursuitDesk$Search" false e := pq_ac trivial (pq_ac trivial (pq_ac trivial (pq_ac trivial (pq_ac trivial (pq_ac kF_4_23 (pq_ac trivial (pq_ac trivial (pq_ac trivial (pq_ac trivial (pq_ac trivial (pq_ac trivial (pq_ac kF_4_11 (pq_ac trivial (pq_ac trivial (pq_ac trivial (pq_ac trivial (pq_ac trivial (pq_ac trivial (pq_ac trivial (pq_ac trivial (pq_ac trivial (pq_ac trivial (pq_ac trivial (pq_ac trivial (pq_an)))))))))))))))))))))))))
set_option maxRecDepth 100000 in
theorem ck_35 : ∀ e ∈ ct_35, pq_ok "PursuitDesk$Search" false e := pq_ac trivial (pq_ac trivial (pq_ac kF_4_23 (pq_ac trivial (pq_ac trivial (pq_ac trivial (pq_ac trivial (pq_ac trivial (pq_ac trivial (pq_ac trivial (pq_ac trivial (pq_ac trivial (pq_ac kS_4_44 (pq_ac trivial (pq_ac trivial (pq_ac kV_4_48 (pq_ac trivial (pq_ac trivial (pq_ac kF_4_11 (pq_ac trivial (pq_ac trivial (pq_ac trivial (pq_ac trivial (pq_ac kF_4_19 (pq_ac trivial (pq_ac kS_4_52 (pq_ac trivial (pq_ac trivial (pq_ac trivial (pq_ac trivial (pq_ac trivial (pq_ac kF_4_15 (pq_ac trivial (pq_ac trivial (pq_ac trivial (pq_ac kS_4_56 (pq_ac trivial (pq_ac trivial (pq_ac trivial (pq_ac trivial (pq_ac kS_4_60 (pq_ac kD_4_64 (pq_ac trivial (pq_ac trivial (pq_ac trivial (pq_ac trivial (pq_ac trivial (pq_ac trivial (pq_ac trivial (pq_ac trivial (pq_ac trivial (pq_ac trivial (pq_ac trivial (pq_ac trivial (pq_ac trivial (pq_ac trivial (pq_ac trivial (pq_ac trivial (pq_ac trivial (pq_ac trivial (pq_ac trivial (pq_ac trivial (pq_ac trivial (pq_ac kV_4_40 (pq_ac trivial (pq_ac trivial (pq_ac trivial (pq_an)))))))))))))))))))))))))))))))))))))))))))))))))))))))))))))))))))
set_option maxRecDepth 100000 in
theorem ck_36 : ∀ e ∈ ct_36, pq_ok "PursuitDesk$TurnSearch" true e := pq_ac trivial (pq_ac kI_5_3 (pq_ac trivial (pq_ac trivial (pq_ac trivial (pq_ac kQ_5_9i (pq_ac trivial (pq_ac trivial (pq_ac trivial (pq_ac kQ_5_15i (pq_ac trivial (pq_an)))))))))))
set_option maxRecDepth 100000 in
theorem ck_37 : ∀ e ∈ ct_37, pq_ok "PursuitDesk$TurnSearch" false e := pq_ac trivial (pq_ac trivial (pq_ac kF_5_9 (pq_ac kV_5_18 (pq_ac trivial (pq_ac trivial (pq_ac kQ_5_22 (pq_ac trivial (pq_ac trivial (pq_ac kQ_5_26 (pq_ac trivial (pq_an)))))))))))
set_option maxRecDepth 100000 in
theorem ck_38 : ∀ e ∈ ct_38, pq_ok "PursuitDesk$TurnSearch" false e := pq_ac trivial (pq_ac kF_5_26 (pq_ac trivial (pq_ac trivial (pq_ac trivial (pq_ac kF_5_9 (pq_ac trivial (pq_ac trivial (pq_ac trivial (pq_ac trivial (pq_ac trivial (pq_ac kF_5_22 (pq_ac trivial (pq_ac trivial (pq_ac trivial (pq_ac trivial (pq_ac kF_5_9 (pq_ac trivial (pq_ac trivial (pq_ac trivial (pq_ac trivial (pq_ac kF_5_15 (pq_ac trivial (pq_ac kF_5_22 (pq_ac trivial (pq_ac trivial (pq_ac trivial (pq_ac trivial (pq_ac kF_5_22 (pq_ac trivial (pq_ac trivial (pq_ac kQ_5_22 (pq_ac trivial (pq_ac trivial (pq_ac trivial (pq_ac trivial (pq_ac trivial (pq_ac trivial (pq_ac kQ_5_26 (pq_ac trivial (pq_an))))))))))))))))))))))))))))))))))))))))
set_option maxRecDepth 100000 in
theorem ck_39 : ∀ e ∈ ct_39, pq_ok "PursuitDesk$TurnSearch" false e := pq_ac trivial (pq_ac trivial (pq_ac trivial (pq_ac trivial (pq_ac kF_5_22 (pq_ac trivial (pq_ac trivial (pq_ac trivial (pq_ac trivial (pq_ac trivial (pq_ac kF_5_26 (pq_ac trivial (pq_ac trivial (pq_ac trivial (pq_ac trivial (pq_ac kF_5_15 (pq_ac trivial (pq_ac trivial (pq_ac kQ_5_53 (pq_ac trivial (pq_ac trivial (pq_ac kF_5_53 (pq_ac kV_5_56 (pq_ac trivial (pq_ac trivial (pq_ac trivial (pq_an))))))))))))))))))))))))))
set_option maxRecDepth 100000 in
theorem ck_40 : ∀ e ∈ ct_40, pq_ok "PursuitDesk$TurnSearch" false e := pq_ac trivial (pq_ac trivial (pq_ac trivial (pq_ac kF_5_53 (pq_ac kV_5_49 (pq_ac trivial (pq_an))))))
set_option maxRecDepth 100000 in
theorem ck_41 : ∀ e ∈ ct_41, pq_ok "PursuitDesk$TurnSearch" false e := pq_ac trivial (pq_ac kF_5_26 (pq_ac trivial (pq_ac trivial (pq_ac trivial (pq_ac trivial (pq_ac trivial (pq_ac trivial (pq_ac trivial (pq_ac kF_5_26 (pq_ac trivial (pq_ac trivial (pq_ac trivial (pq_ac trivial (pq_ac trivial (pq_ac kF_5_9 (pq_ac trivial (pq_ac trivial (pq_ac trivial (pq_ac trivial (pq_ac trivial (pq_ac kF_5_9 (pq_ac trivial (pq_ac trivial (pq_ac trivial (pq_ac trivial (pq_ac trivial (pq_ac trivial (pq_ac trivial (pq_an)))))))))))))))))))))))))))))
set_option maxRecDepth 100000 in
theorem ck_42 : ∀ e ∈ ct_42, pq_ok "PursuitDesk$TurnSearch" false e := pq_ac trivial (pq_ac kF_5_26 (pq_ac trivial (pq_ac trivial (pq_ac kV_5_59 (pq_ac trivial (pq_ac trivial (pq_ac trivial (pq_ac trivial (pq_ac trivial (pq_ac trivial (pq_ac kF_5_9 (pq_ac trivial (pq_ac trivial (pq_ac trivial (pq_ac trivial (pq_ac trivial (pq_ac trivial (pq_ac trivial (pq_ac kV_5_33 (pq_ac trivial (pq_ac kF_5_46 (pq_ac trivial (pq_ac trivial (pq_ac trivial (pq_an)))))))))))))))))))))))))
set_option maxRecDepth 100000 in
theorem ck_43 : ∀ e ∈ ct_43, pq_ok "PursuitDesk$TurnSearch" false e := pq_ac trivial (pq_ac kV_5_29 (pq_ac trivial (pq_ac trivial (pq_ac trivial (pq_ac trivial (pq_ac trivial (pq_ac trivial (pq_ac trivial (pq_ac trivial (pq_ac kV_5_33 (pq_ac trivial (pq_ac trivial (pq_ac kV_5_37 (pq_ac trivial (pq_ac trivial (pq_ac trivial (pq_an)))))))))))))))))
set_option maxRecDepth 100000 in
theorem ck_44 : ∀ e ∈ ct_44, pq_ok "PursuitDesk$TurnSearch" false e := pq_ac trivial (pq_ac trivial (pq_ac kF_5_40 (pq_ac trivial (pq_ac trivial (pq_ac trivial (pq_ac trivial (pq_ac trivial (pq_ac trivial (pq_ac trivial (pq_ac trivial (pq_ac kF_5_43 (pq_ac trivial (pq_ac trivial (pq_ac kF_5_46 (pq_ac trivial (pq_ac trivial (pq_ac trivial (pq_ac kF_5_40 (pq_ac trivial (pq_ac trivial (pq_ac trivial (pq_ac trivial (pq_ac trivial (pq_ac kF_5_46 (pq_ac trivial (pq_ac trivial (pq_ac trivial (pq_ac trivial (pq_ac trivial (pq_ac trivial (pq_ac trivial (pq_ac trivial (pq_ac trivial (pq_ac trivial (pq_ac trivial (pq_ac trivial (pq_ac trivial (pq_ac trivial (pq_ac kV_5_49 (pq_ac trivial (pq_an)))))))))))))))))))))))))))))))))))))))))
set_option maxRecDepth 100000 in
theorem ck_45 : ∀ e ∈ ct_45, pq_ok "PursuitDesk$MoveSearch" true e := pq_ac trivial (pq_ac kI_6_5 (pq_ac trivial (pq_ac trivial (pq_ac trivial (pq_ac kQ_6_9i (pq_ac trivial (pq_an)))))))
set_option maxRecDepth 100000 in
theorem ck_46 : ∀ e ∈ ct_46, pq_ok "PursuitDesk$MoveSearch" false e := pq_ac trivial (pq_ac trivial (pq_ac trivial (pq_ac trivial (pq_ac kF_6_9 (pq_ac trivial (pq_ac trivial (pq_ac trivial (pq_ac trivial (pq_ac trivial (pq_ac trivial (pq_ac trivial (pq_ac trivial (pq_ac kF_6_24 (pq_ac trivial (pq_ac trivial (pq_ac trivial (pq_ac trivial (pq_ac kF_6_9 (pq_ac trivial (pq_ac trivial (pq_ac kF_6_24 (pq_ac trivial (pq_ac trivial (pq_ac trivial (pq_ac trivial (pq_ac trivial (pq_ac kF_6_19 (pq_ac trivial (pq_ac kF_6_24 (pq_ac trivial (pq_ac trivial (pq_ac kX_6_39 (pq_ac kQ_6_19 (pq_ac trivial (pq_an)))))))))))))))))))))))))))))))))))
set_option maxRecDepth 100000 in
theorem ck_47 : ∀ e ∈ ct_47, pq_ok "PursuitDesk$MoveSearch" false e := pq_ac trivial (pq_ac trivial (pq_ac kF_6_9 (pq_ac kV_6_15 (pq_ac trivial (pq_ac kF_6_9 (pq_ac trivial (pq_ac trivial (pq_ac trivial (pq_ac trivial (pq_ac trivial (pq_ac kQ_6_19 (pq_ac trivial (pq_ac trivial (pq_ac trivial (pq_ac trivial (pq_ac kF_6_19 (pq_ac trivial (pq_ac trivial (pq_ac kC_6_23 (pq_ac trivial (pq_ac trivial (pq_ac trivial (pq_ac kQ_6_24 (pq_ac trivial (pq_ac kV_6_27 (pq_ac trivial (pq_ac trivial (pq_ac kF_6_24 (pq_ac trivial (pq_ac trivial (pq_ac trivial (pq_ac trivial (pq_ac trivial (pq_an))))))))))))))))))))))))))))))))))
set_option maxRecDepth 100000 in
theorem ck_48 : ∀ e ∈ ct_48, pq_ok "PursuitDesk$MoveSearch" false e := pq_ac trivial (pq_ac kV_6_31 (pq_ac trivial (pq_ac trivial (pq_ac trivial (pq_ac trivial (pq_ac trivial (pq_ac trivial (pq_ac trivial (pq_ac kF_6_9 (pq_ac trivial (pq_ac trivial (pq_ac trivial (pq_ac kF_6_24 (pq_ac trivial (pq_ac trivial (pq_ac trivial (pq_ac trivial (pq_ac trivial (pq_ac trivial (pq_ac trivial (pq_ac trivial (pq_ac trivial (pq_ac kV_6_35 (pq_ac trivial (pq_ac trivial (pq_ac trivial (pq_ac trivial (pq_an))))))))))))))))))))))))))))
set_option maxRecDepth 100000 in
theorem ck_49 : ∀ e ∈ ct_49, pq_ok "PursuitDesk$State" true e := pq_ac trivial (pq_ac kO_7_3 (pq_ac trivial (pq_ac trivial (pq_ac trivial (pq_ac kQ_7_9i (pq_ac trivial (pq_ac trivial (pq_ac trivial (pq_ac kQ_7_15i (pq_ac trivial (pq_ac kN_7_18 (pq_ac trivial (pq_ac kI_7_20 (pq_ac kQ_7_21i (pq_ac trivial (pq_ac kN_7_25 (pq_ac trivial (pq_ac kI_7_27 (pq_ac kQ_7_28i (pq_ac trivial (pq_an)))))))))))))))))))))
set_option maxRecDepth 100000 in
theorem ck_50 : ∀ e ∈ ct_50, pq_ok "PursuitDesk$State" false e := pq_ac trivial (pq_ac trivial (pq_ac kQ_7_32 (pq_ac trivial (pq_ac trivial (pq_ac kS_7_65 (pq_ac kQ_7_36 (pq_ac trivial (pq_ac trivial (pq_ac kQ_7_40 (pq_ac trivial (pq_ac trivial (pq_ac kQ_7_49 (pq_ac trivial (pq_ac kF_7_28 (pq_ac trivial (pq_ac kQ_7_71 (pq_ac trivial (pq_ac kV_7_75 (pq_ac trivial (pq_an))))))))))))))))))))
set_option maxRecDepth 100000 in
theorem ck_51 : ∀ e ∈ ct_51, pq_ok "PursuitDesk$State" false e := pq_ac trivial (pq_ac kF_7_21 (pq_ac trivial (pq_ac kF_7_49 (pq_ac trivial (pq_ac trivial (pq_ac kF_7_32 (pq_ac trivial (pq_ac trivial (pq_ac trivial (pq_ac trivial (pq_ac kV_7_78 (pq_ac trivial (pq_ac trivial (pq_ac trivial (pq_ac kV_7_82 (pq_ac trivial (pq_an)))))))))))))))))
set_option maxRecDepth 100000 in
theorem ck_52 : ∀ e ∈ ct_52, pq_ok "PursuitDesk$State" false e := pq_ac trivial (pq_ac trivial (pq_ac trivial (pq_ac trivial (pq_ac trivial (pq_ac trivial (pq_ac kF_7_40 (pq_ac trivial (pq_ac trivial (pq_ac trivial (pq_ac trivial (pq_ac kF_7_9 (pq_ac trivial (pq_ac trivial (pq_ac trivial (pq_ac trivial (pq_ac trivial (pq_ac trivial (pq_ac trivial (pq_ac trivial (pq_ac trivial (pq_an)))))))))))))))))))))
set_option maxRecDepth 100000 in
theorem ck_53 : ∀ e ∈ ct_53, pq_ok "PursuitDesk$State" false e := pq_ac trivial (pq_ac trivial (pq_ac kF_7_32 (pq_ac kQ_7_32 (pq_ac trivial (pq_ac trivial (pq_ac kF_7_36 (pq_ac kQ_7_36 (pq_ac trivial (pq_ac trivial (pq_ac kF_7_40 (pq_ac kQ_7_40 (pq_ac trivial (pq_ac kF_7_9 (pq_ac trivial (pq_ac trivial (pq_ac kF_7_9 (pq_ac trivial (pq_ac trivial (pq_ac kA_7_43 (pq_ac trivial (pq_ac kF_7_15 (pq_ac trivial (pq_ac trivial (pq_ac kF_7_15 (pq_ac trivial (pq_ac trivial (pq_ac kA_7_43 (pq_ac trivial (pq_ac trivial (pq_ac kF_7_49 (pq_ac kQ_7_49 (pq_ac trivial (pq_ac trivial (pq_ac kF_7_52 (pq_ac kQ_7_52 (pq_ac trivial (pq_ac trivial (pq_ac kF_7_55 (pq_ac kQ_7_55 (pq_ac trivial (pq_ac kF_7_21 (pq_ac trivial (pq_ac kF_7_21 (pq_ac kV_7_58 (pq_ac trivial (pq_ac kF_7_28 (pq_ac trivial (pq_ac kF_7_28 (pq_ac kV_7_62 (pq_ac trivial (pq_an)))))))))))))))))))))))))))))))))))))))))))))))))))
set_option maxRecDepth 100000 in
theorem ck_54 : ∀ e ∈ ct_54, pq_ok "PursuitDesk$State" false e := pq_ac trivial (pq_ac kF_7_36 (pq_ac trivial (pq_ac trivial (pq_ac kS_7_86 (pq_ac trivial (pq_ac trivial (pq_ac trivial (pq_ac trivial (pq_ac trivial (pq_ac trivial (pq_ac trivial (pq_ac trivial (pq_an)))))))))))))
set_option maxRecDepth 100000 in
theorem ck_55 : ∀ e ∈ ct_55, pq_ok "PursuitDesk$State" false e := pq_ac trivial (pq_ac trivial (pq_ac kF_7_36 (pq_ac trivial (pq_ac trivial (pq_ac kS_7_101 (pq_ac kD_7_99 (pq_ac trivial (pq_ac trivial (pq_ac kQ_7_36 (pq_ac trivial (pq_ac trivial (pq_ac trivial (pq_ac trivial (pq_ac kF_7_40 (pq_ac trivial (pq_ac trivial (pq_ac trivial (pq_ac kF_7_9 (pq_ac trivial (pq_ac trivial (pq_ac trivial (pq_ac kF_7_15 (pq_ac trivial (pq_ac trivial (pq_ac kV_7_104 (pq_ac trivial (pq_ac trivial (pq_ac kF_7_15 (pq_ac trivial (pq_ac trivial (pq_ac kF_7_9 (pq_ac trivial (pq_ac trivial (pq_ac trivial (pq_ac trivial (pq_ac trivial (pq_ac trivial (pq_ac kF_7_28 (pq_ac kF_7_71 (pq_ac trivial (pq_ac trivial (pq_ac trivial (pq_ac kF_7_28 (pq_ac kF_7_108 (pq_ac trivial (pq_ac kF_7_28 (pq_ac kF_7_111 (pq_ac kV_7_104 (pq_ac trivial (pq_ac trivial (pq_ac kF_7_28 (pq_ac trivial (pq_ac kF_7_28 (pq_ac kF_7_108 (pq_ac kQ_7_111 (pq_ac trivial (pq_an)))))))))))))))))))))))))))))))))))))))))))))))))))))))))
set_option maxRecDepth 100000 in
theorem ck_56 : ∀ e ∈ ct_56, pq_ok "PursuitDesk$State" false e := pq_ac trivial (pq_ac trivial (pq_ac kF_7_32 (pq_ac kS_7_65 (pq_ac trivial (pq_ac trivial (pq_ac kQ_7_36 (pq_ac trivial (pq_ac kF_7_9 (pq_ac trivial (pq_ac trivial (pq_ac kF_7_15 (pq_ac trivial (pq_ac trivial (pq_ac kA_7_43 (pq_ac trivial (pq_ac kF_7_28 (pq_ac trivial (pq_ac kF_7_28 (pq_ac kF_7_108 (pq_ac kQ_7_111 (pq_ac trivial (pq_ac kV_7_75 (pq_ac trivial (pq_an))))))))))))))))))))))))
set_option maxRecDepth 100000 in
theorem ck_57 : ∀ e ∈ ct_57, pq_ok "PursuitDesk$State" false e := pq_ac trivial (pq_ac kF_7_36 (pq_ac kS_7_90 (pq_ac trivial (pq_ac kF_7_32 (pq_ac trivial (pq_ac trivial (pq_ac trivial (pq_ac trivial (pq_an)))))))))
set_option maxRecDepth 100000 in
theorem ck_58 : ∀ e ∈ ct_58, pq_ok "PursuitDesk$State" false e := pq_ac trivial (pq_ac kF_7_9 (pq_ac trivial (pq_ac kF_7_40 (pq_ac trivial (pq_ac trivial (pq_ac trivial (pq_ac kF_7_15 (pq_ac trivial (pq_ac kF_7_40 (pq_ac trivial (pq_ac trivial (pq_ac trivial (pq_ac trivial (pq_ac kF_7_40 (pq_ac trivial (pq_ac trivial (pq_ac kQ_7_40 (pq_ac trivial (pq_ac kF_7_21 (pq_ac trivial (pq_ac kV_7_113 (pq_ac trivial (pq_ac kF_7_28 (pq_ac kV_7_117 (pq_ac trivial (pq_ac trivial (pq_ac kF_7_28 (pq_ac kF_7_108 (pq_ac trivial (pq_ac trivial (pq_ac trivial (pq_ac kF_7_28 (pq_ac trivial (pq_ac trivial (pq_ac kF_7_49 (pq_ac kV_7_121 (pq_ac trivial (pq_an))))))))))))))))))))))))))))))))))))))
set_option maxRecDepth 100000 in
theorem ck_59 : ∀ e ∈ ct_59, pq_ok "PursuitDesk$State" false e := pq_ac trivial (pq_ac trivial (pq_ac kF_7_15 (pq_ac kV_7_124 (pq_ac trivial (pq_ac trivial (pq_ac trivial (pq_ac kF_7_49 (pq_ac trivial (pq_ac trivial (pq_ac kQ_7_49 (pq_ac trivial (pq_ac kF_7_21 (pq_ac trivial (pq_ac kV_7_128 (pq_ac trivial (pq_ac kF_7_28 (pq_ac kV_7_117 (pq_ac trivial (pq_ac trivial (pq_ac kF_7_28 (pq_ac trivial (pq_ac trivial (pq_ac kF_7_49 (pq_ac kV_7_132 (pq_ac trivial (pq_ac kF_7_15 (pq_ac trivial (pq_ac trivial (pq_ac kF_7_9 (pq_ac trivial (pq_ac trivial (pq_ac kA_7_43 (pq_ac trivial (pq_an))))))))))))))))))))))))))))))))))
set_option maxRecDepth 100000 in
theorem ck_60 : ∀ e ∈ ct_60, pq_ok "PursuitDesk$State" false e := pq_ac trivial (pq_ac kF_7_36 (pq_ac trivial (pq_ac trivial (pq_ac trivial (pq_ac trivial (pq_ac trivial (pq_ac kF_7_40 (pq_ac trivial (pq_ac trivial (pq_ac trivial (pq_ac kF_7_9 (pq_ac trivial (pq_ac trivial (pq_ac trivial (pq_ac trivial (pq_ac trivial (pq_ac kS_7_96 (pq_ac kD_7_99 (pq_ac trivial (pq_ac trivial (pq_ac trivial (pq_ac trivial (pq_ac trivial (pq_ac trivial (pq_ac trivial (pq_an))))))))))))))))))))))))))
set_option maxRecDepth 100000 in
theorem ck_61 : ∀ e ∈ ct_61, pq_ok "PursuitDesk$State" false e := pq_ac trivial (pq_ac kF_7_28 (pq_ac kV_7_117 (pq_ac trivial (pq_ac trivial (pq_ac kF_7_52 (pq_ac trivial (pq_ac trivial (pq_ac kF_7_49 (pq_ac trivial (pq_ac kF_7_52 (pq_ac trivial (pq_ac trivial (pq_ac trivial (pq_ac kF_7_49 (pq_ac trivial (pq_ac kF_7_55 (pq_ac trivial (pq_ac trivial (pq_ac trivial (pq_ac kF_7_49 (pq_ac trivial (pq_ac kF_7_55 (pq_ac trivial (pq_ac trivial (pq_ac trivial (pq_ac kF_7_21 (pq_ac trivial (pq_ac kV_7_136 (pq_ac trivial (pq_ac trivial (pq_ac kF_7_28 (pq_ac kF_7_140 (pq_ac trivial (pq_ac trivial (pq_ac trivial (pq_ac kF_7_21 (pq_ac trivial (pq_ac trivial (pq_ac kF_7_28 (pq_ac trivial (pq_ac kV_7_143 (pq_ac kV_7_147 (pq_ac trivial (pq_an))))))))))))))))))))))))))))))))))))))))))))
set_option maxRecDepth 100000 in
theorem ck_62 : ∀ e ∈ ct_62, pq_ok "PursuitDesk" true e := pq_ac trivial (pq_ac kO_8_1 (pq_ac trivial (pq_ac kN_8_7 (pq_ac trivial (pq_ac kI_8_9 (pq_ac kQ_8_10i (pq_ac trivial (pq_ac trivial (pq_ac kW_8_7 (pq_ac kQ_8_16i (pq_ac trivial (pq_ac trivial (pq_ac trivial (pq_ac trivial (pq_ac trivial (pq_ac trivial (pq_ac kF_8_16 (pq_ac trivial (pq_ac kN_8_7 (pq_ac trivial (pq_ac kI_8_9 (pq_ac trivial (pq_ac trivial (pq_ac trivial (pq_ac trivial (pq_ac trivial (pq_ac trivial (pq_ac kQ_8_20i (pq_ac trivial (pq_ac kN_8_24 (pq_ac trivial (pq_ac kI_8_26 (pq_ac kQ_8_27i (pq_ac trivial (pq_ac kN_8_24 (pq_ac trivial (pq_ac kI_8_26 (pq_ac kQ_8_31i (pq_ac trivial (pq_ac kN_8_34 (pq_ac trivial (pq_ac kI_8_36 (pq_ac kQ_8_37i (pq_ac trivial (pq_ac kF_8_10 (pq_ac trivial (pq_ac kV_8_41 (pq_ac trivial (pq_an)))))))))))))))))))))))))))))))))))))))))))))))))
set_option maxRecDepth 100000 in
theorem ck_63 : ∀ e ∈ ct_63, pq_ok "PursuitDesk" false e := pq_ac trivial (pq_ac trivial (pq_ac trivial (pq_ac trivial (pq_ac trivial (pq_ac trivial (pq_ac trivial (pq_ac trivial (pq_ac trivial (pq_ac kV_8_45 (pq_ac trivial (pq_ac kF_8_10 (pq_ac kF_8_48 (pq_ac trivial (pq_ac trivial (pq_ac kF_8_10 (pq_ac trivial (pq_ac kV_8_41 (pq_ac trivial (pq_ac trivial (pq_an))))))))))))))))))))
set_option maxRecDepth 100000 in
theorem ck_64 : ∀ e ∈ ct_64, pq_ok "PursuitDesk" false e := pq_ac trivial (pq_ac kF_8_139 (pq_ac trivial (pq_ac trivial (pq_ac trivial (pq_ac kV_8_228 (pq_ac trivial (pq_ac kF_8_16 (pq_ac trivial (pq_ac kF_8_139 (pq_ac trivial (pq_ac trivial (pq_ac kF_8_10 (pq_ac kV_8_142 (pq_ac trivial (pq_ac trivial (pq_ac kF_8_139 (pq_ac trivial (pq_ac trivial (pq_ac kQ_8_139 (pq_ac trivial (pq_ac trivial (pq_ac kQ_8_146 (pq_ac trivial (pq_an))))))))))))))))))))))))
set_option maxRecDepth 100000 in
theorem ck_65 : ∀ e ∈ ct_65, pq_ok "PursuitDesk" false e := pq_ac trivial (pq_ac kF_8_16 (pq_ac trivial (pq_ac trivial (pq_ac trivial (pq_ac trivial (pq_ac trivial (pq_ac trivial (pq_ac trivial (pq_ac trivial (pq_ac trivial (pq_ac kF_8_16 (pq_ac trivial (pq_ac trivial (pq_ac trivial (pq_ac trivial (pq_ac kF_8_16 (pq_ac trivial (pq_ac trivial (pq_ac trivial (pq_ac trivial (pq_ac trivial (pq_ac trivial (pq_ac kF_8_16 (pq_ac trivial (pq_ac trivial (pq_ac trivial (pq_ac trivial (pq_ac trivial (pq_ac kQ_8_139 (pq_ac trivial (pq_an)))))))))))))))))))))))))))))))
set_option maxRecDepth 100000 in
theorem ck_66 : ∀ e ∈ ct_66, pq_ok "PursuitDesk" false e := pq_ac trivial (pq_ac trivial (pq_ac kV_8_52 (pq_ac trivial (pq_ac trivial (pq_ac trivial (pq_ac kV_8_52 (pq_ac trivial (pq_ac trivial (pq_ac trivial (pq_ac trivial (pq_ac trivial (pq_ac trivial (pq_ac trivial (pq_ac trivial (pq_ac trivial (pq_ac trivial (pq_ac trivial (pq_ac trivial (pq_ac kV_8_45 (pq_ac trivial (pq_ac kF_8_10 (pq_ac trivial (pq_ac trivial (pq_ac kV_8_56 (pq_ac trivial (pq_ac trivial (pq_ac trivial (pq_ac trivial (pq_ac trivial (pq_ac trivial (pq_ac trivial (pq_ac trivial (pq_ac trivial (pq_ac kF_8_10 (pq_ac trivial (pq_ac kF_8_60 (pq_ac trivial (pq_ac trivial (pq_ac kS_8_64 (pq_ac trivial (pq_ac kQ_8_60 (pq_ac trivial (pq_ac trivial (pq_ac kF_8_10 (pq_ac trivial (pq_ac trivial (pq_ac kV_8_70 (pq_ac trivial (pq_ac trivial (pq_an))))))))))))))))))))))))))))))))))))))))))))))))))
set_option maxRecDepth 100000 in
theorem ck_67 : ∀ e ∈ ct_67, pq_ok "PursuitDesk" false e := pq_ac trivial (pq_ac trivial (pq_ac trivial (pq_ac trivial (pq_ac kF_8_10 (pq_ac kF_8_48 (pq_ac trivial (pq_ac trivial (pq_ac trivial (pq_ac trivial (pq_ac trivial (pq_an)))))))))))
set_option maxRecDepth 100000 in
theorem ck_68 : ∀ e ∈ ct_68, pq_ok "PursuitDesk" false e := pq_ac trivial (pq_ac kV_8_74 (pq_ac trivial (pq_ac trivial (pq_ac trivial (pq_ac trivial (pq_ac trivial (pq_ac kV_8_45 (pq_ac trivial (pq_ac kF_8_10 (pq_ac trivial (pq_ac kV_8_78 (pq_ac kV_8_82 (pq_ac trivial (pq_ac kF_8_10 (pq_ac kV_8_86 (pq_ac trivial (pq_an)))))))))))))))))
set_option maxRecDepth 100000 in
theorem ck_69 : ∀ e ∈ ct_69, pq_ok "PursuitDesk" false e := pq_ac trivial (pq_ac trivial (pq_ac trivial (pq_ac trivial (pq_ac trivial (pq_ac trivial (pq_ac kF_8_221 (pq_ac trivial (pq_ac trivial (pq_ac trivial (pq_ac kV_8_224 (pq_ac trivial (pq_ac trivial (pq_ac trivial (pq_ac trivial (pq_ac trivial (pq_ac trivial (pq_ac trivial (pq_ac trivial (pq_ac trivial (pq_ac trivial (pq_ac trivial (pq_ac trivial (pq_ac trivial (pq_ac trivial (pq_ac trivial (pq_ac trivial (pq_ac trivial (pq_ac trivial (pq_ac trivial (pq_ac trivial (pq_ac trivial (pq_an))))))))))))))))))))))))))))))))
set_option maxRecDepth 100000 in
theorem ck_70 : ∀ e ∈ ct_70, pq_ok "PursuitDesk" false e := pq_ac trivial (pq_ac trivial (pq_ac trivial (pq_ac trivial (pq_ac kF_8_221 (pq_ac trivial (pq_ac trivial (pq_ac trivial (pq_ac trivial (pq_ac kF_8_20 (pq_ac trivial (pq_ac trivial (pq_ac trivial (pq_ac trivial (pq_ac trivial (pq_ac trivial (pq_ac kF_8_20 (pq_ac trivial (pq_ac trivial (pq_ac trivial (pq_ac trivial (pq_ac trivial (pq_ac trivial (pq_ac trivial (pq_ac trivial (pq_ac trivial (pq_ac kV_8_52 (pq_ac trivial (pq_ac trivial (pq_ac trivial (pq_ac kV_8_52 (pq_ac trivial (pq_ac trivial (pq_ac trivial (pq_ac trivial (pq_ac trivial (pq_ac kF_8_20 (pq_ac trivial (pq_ac trivial (pq_ac trivial (pq_ac trivial (pq_ac trivial (pq_ac trivial (pq_ac trivial (pq_ac kF_8_20 (pq_ac trivial (pq_ac trivial (pq_ac trivial (pq_ac trivial (pq_ac trivial (pq_ac trivial (pq_ac trivial (pq_ac trivial (pq_ac trivial (pq_ac trivial (pq_ac kS_8_64 (pq_ac trivial (pq_an)))))))))))))))))))))))))))))))))))))))))))))))))))))))))
set_option maxRecDepth 100000 in
theorem ck_71 : ∀ e ∈ ct_71, pq_ok "PursuitDesk" false e := pq_ac trivial (pq_ac trivial (pq_ac trivial (pq_ac trivial (pq_ac trivial (pq_ac trivial (pq_ac kF_8_221 (pq_ac trivial (pq_ac trivial (pq_ac trivial (pq_ac trivial (pq_ac kV_8_224 (pq_ac trivial (pq_ac trivial (pq_ac trivial (pq_ac trivial (pq_ac trivial (pq_ac trivial (pq_an))))))))))))))))))
set_option maxRecDepth 100000 in
theorem ck_72 : ∀ e ∈ ct_72, pq_ok "PursuitDesk" false e := pq_ac trivial (pq_ac trivial (pq_ac kV_8_52 (pq_ac trivial (pq_ac trivial (pq_ac trivial (pq_ac trivial (pq_ac kF_8_10 (pq_ac kF_8_89 (pq_ac trivial (pq_ac trivial (pq_ac trivial (pq_ac trivial (pq_ac trivial (pq_ac kV_8_45 (pq_ac trivial (pq_ac kF_8_10 (pq_ac trivial (pq_ac kV_8_92 (pq_ac trivial (pq_ac kF_8_10 (pq_ac kF_8_89 (pq_ac trivial (pq_ac trivial (pq_ac trivial (pq_an)))))))))))))))))))))))))
set_option maxRecDepth 100000 in
theorem ck_73 : ∀ e ∈ ct_73, pq_ok "PursuitDesk" false e := pq_ac trivial (pq_ac kF_8_10 (pq_ac kF_8_89 (pq_ac trivial (pq_ac trivial (pq_ac trivial (pq_ac trivial (pq_ac kV_8_45 (pq_ac trivial (pq_ac kF_8_10 (pq_ac trivial (pq_ac kF_8_89 (pq_ac trivial (pq_ac trivial (pq_ac kQ_8_89 (pq_ac trivial (pq_ac kF_8_10 (pq_ac kF_8_89 (pq_ac trivial (pq_an)))))))))))))))))))
set_option maxRecDepth 100000 in
theorem ck_74 : ∀ e ∈ ct_74, pq_ok "PursuitDesk" false e := pq_ac trivial (pq_ac trivial (pq_ac kV_8_95 (pq_ac trivial (pq_ac trivial (pq_ac trivial (pq_ac kV_8_52 (pq_ac trivial (pq_ac trivial (pq_ac trivial (pq_ac trivial (pq_ac kF_8_10 (pq_ac trivial (pq_ac kF_8_10 (pq_ac kF_8_98 (pq_ac trivial (pq_ac trivial (pq_ac trivial (pq_ac kV_8_56 (pq_ac trivial (pq_ac trivial (pq_ac trivial (pq_ac trivial (pq_ac kV_8_45 (pq_ac trivial (pq_ac kF_8_10 (pq_ac kF_8_102 (pq_ac trivial (pq_ac trivial (pq_ac trivial (pq_ac trivial (pq_ac kF_8_10 (pq_ac kF_8_102 (pq_ac trivial (pq_ac trivial (pq_ac trivial (pq_ac trivial (pq_ac trivial (pq_an))))))))))))))))))))))))))))))))))))))
set_option maxRecDepth 100000 in
theorem ck_75 : ∀ e ∈ ct_75, pq_ok "PursuitDesk" false e := pq_ac trivial (pq_ac trivial (pq_ac trivial (pq_ac trivial (pq_ac kF_8_10 (pq_ac kF_8_89 (pq_ac trivial (pq_ac trivial (pq_ac trivial (pq_ac trivial (pq_ac trivial (pq_an)))))))))))
set_option maxRecDepth 100000 in
theorem ck_76 : ∀ e ∈ ct_76, pq_ok "PursuitDesk" false e := pq_ac trivial (pq_ac kV_8_45 (pq_ac trivial (pq_ac kF_8_10 (pq_ac kV_8_105 (pq_ac trivial (pq_ac kV_8_108 (pq_ac trivial (pq_an))))))))
set_option maxRecDepth 100000 in
theorem ck_77 : ∀ e ∈ ct_77, pq_ok "PursuitDesk" false e := pq_ac trivial (pq_ac kF_8_10 (pq_ac kF_8_111 (pq_ac trivial (pq_ac kF_8_10 (pq_ac kF_8_115 (pq_ac kV_8_118 (pq_ac trivial (pq_an))))))))
set_option maxRecDepth 100000 in
theorem ck_78 : ∀ e ∈ ct_78, pq_ok "PursuitDesk" false e := pq_ac trivial (pq_ac trivial (pq_ac trivial (pq_ac trivial (pq_ac kF_8_10 (pq_ac kF_8_115 (pq_ac trivial (pq_ac trivial (pq_ac trivial (pq_ac trivial (pq_ac kF_8_10 (pq_ac kF_8_111 (pq_ac trivial (pq_ac kV_8_124 (pq_ac trivial (pq_ac trivial (pq_ac kF_8_10 (pq_ac kF_8_111 (pq_ac trivial (pq_ac kV_8_118 (pq_ac trivial (pq_ac trivial (pq_ac trivial (pq_an)))))))))))))))))))))))
set_option maxRecDepth 100000 in
theorem ck_79 : ∀ e ∈ ct_79, pq_ok "PursuitDesk" false e := pq_ac trivial (pq_ac trivial (pq_ac trivial (pq_ac trivial (pq_ac kF_8_10 (pq_ac kF_8_115 (pq_ac trivial (pq_ac trivial (pq_ac trivial (pq_ac kV_8_52 (pq_ac trivial (pq_ac trivial (pq_ac trivial (pq_ac trivial (pq_ac kF_8_10 (pq_ac kF_8_111 (pq_ac trivial (pq_ac kV_8_124 (pq_ac trivial (pq_ac trivial (pq_ac trivial (pq_ac trivial (pq_ac kF_8_10 (pq_ac kF_8_111 (pq_ac trivial (pq_ac kV_8_118 (pq_ac trivial (pq_ac kS_8_127 (pq_ac trivial (pq_ac trivial (pq_ac trivial (pq_ac trivial (pq_ac kV_8_45 (pq_ac trivial (pq_ac kF_8_10 (pq_ac kF_8_111 (pq_ac trivial (pq_ac trivial (pq_ac kV_8_130 (pq_ac trivial (pq_ac kV_8_108 (pq_ac trivial (pq_an))))))))))))))))))))))))))))))))))))))))))
set_option maxRecDepth 100000 in
theorem ck_80 : ∀ e ∈ ct_80, pq_ok "PursuitDesk" false e := pq_ac trivial (pq_ac kF_8_10 (pq_ac kF_8_115 (pq_ac trivial (pq_ac trivial (pq_ac trivial (pq_ac trivial (pq_ac trivial (pq_ac kV_8_45 (pq_ac trivial (pq_ac kF_8_10 (pq_ac kV_8_133 (pq_ac trivial (pq_ac kF_8_10 (pq_ac kV_8_136 (pq_ac trivial (pq_ac kV_8_108 (pq_ac trivial (pq_an))))))))))))))))))
set_option maxRecDepth 100000 in
theorem ck_81 : ∀ e ∈ ct_81, pq_ok "PursuitDesk" false e := pq_ac trivial (pq_ac kF_8_139 (pq_ac trivial (pq_ac trivial (pq_ac trivial (pq_ac trivial (pq_ac trivial (pq_ac kF_8_139 (pq_ac trivial (pq_ac trivial (pq_ac kQ_8_139 (pq_ac trivial (pq_ac kF_8_10 (pq_ac trivial (pq_ac kF_8_16 (pq_ac trivial (pq_ac kF_8_139 (pq_ac trivial (pq_ac kV_8_142 (pq_ac trivial (pq_ac trivial (pq_ac kQ_8_146 (pq_ac trivial (pq_ac kF_8_139 (pq_ac trivial (pq_an)))))))))))))))))))))))))
set_option maxRecDepth 100000 in
theorem ck_82 : ∀ e ∈ ct_82, pq_ok "PursuitDesk" false e := pq_ac trivial (pq_ac trivial (pq_ac trivial (pq_ac kF_8_10 (pq_ac kF_8_48 (pq_ac trivial (pq_ac trivial (pq_ac kF_8_10 (pq_ac kV_8_86 (pq_ac trivial (pq_ac trivial (pq_ac kF_8_10 (pq_ac kF_8_89 (pq_ac trivial (pq_ac trivial (pq_ac kF_8_10 (pq_ac kF_8_115 (pq_ac trivial (pq_ac trivial (pq_ac kF_8_10 (pq_ac kF_8_111 (pq_ac kF_8_150 (pq_ac trivial (pq_ac trivial (pq_ac kF_8_10 (pq_ac kF_8_153 (pq_ac trivial (pq_ac trivial (pq_ac kF_8_10 (pq_ac kF_8_156 (pq_ac trivial (pq_ac trivial (pq_ac kF_8_139 (pq_ac trivial (pq_ac trivial (pq_ac trivial (pq_an))))))))))))))))))))))))))))))))))))
set_option maxRecDepth 100000 in
theorem ck_83 : ∀ e ∈ ct_83, pq_ok "PursuitDesk" false e := pq_ac trivial (pq_ac trivial (pq_ac kV_8_52 (pq_ac trivial (pq_ac trivial (pq_ac trivial (pq_ac trivial (pq_ac kF_8_10 (pq_ac kF_8_60 (pq_ac trivial (pq_ac kS_8_159 (pq_ac trivial (pq_ac trivial (pq_ac trivial (pq_ac trivial (pq_ac trivial (pq_ac trivial (pq_ac trivial (pq_an))))))))))))))))))
set_option maxRecDepth 100000 in
theorem ck_84 : ∀ e ∈ ct_84, pq_ok "PursuitDesk" false e := pq_ac trivial (pq_ac trivial (pq_ac kV_8_95 (pq_ac trivial (pq_ac trivial (pq_ac trivial (pq_ac trivial (pq_ac trivial (pq_ac trivial (pq_ac trivial (pq_ac trivial (pq_ac trivial (pq_ac trivial (pq_ac trivial (pq_ac kF_8_10 (pq_ac kF_8_98 (pq_ac trivial (pq_ac trivial (pq_ac trivial (pq_ac trivial (pq_ac kF_8_10 (pq_ac kF_8_102 (pq_ac trivial (pq_ac trivial (pq_ac trivial (pq_an)))))))))))))))))))))))))
set_option maxRecDepth 100000 in
theorem ck_85 : ∀ e ∈ ct_85, pq_ok "PursuitDesk" false e := pq_ac trivial (pq_ac trivial (pq_ac kV_8_52 (pq_ac trivial (pq_ac trivial (pq_ac trivial (pq_ac trivial (pq_ac kF_8_10 (pq_ac kV_8_163 (pq_ac trivial (pq_ac kS_8_127 (pq_ac trivial (pq_ac trivial (pq_ac trivial (pq_ac trivial (pq_ac kV_8_45 (pq_ac trivial (pq_ac kF_8_10 (pq_ac kF_8_166 (pq_ac trivial (pq_ac trivial (pq_ac kF_8_10 (pq_ac kF_8_115 (pq_ac kV_8_170 (pq_ac trivial (pq_ac kV_8_108 (pq_ac trivial (pq_ac kS_8_127 (pq_ac trivial (pq_ac trivial (pq_ac trivial (pq_ac trivial (pq_ac trivial (pq_an)))))))))))))))))))))))))))))))))
set_option maxRecDepth 100000 in
theorem ck_86 : ∀ e ∈ ct_86, pq_ok "PursuitDesk" false e := pq_ac trivial (pq_ac trivial (pq_ac kV_8_52 (pq_ac trivial (pq_ac trivial (pq_ac trivial (pq_ac trivial (pq_ac kF_8_10 (pq_ac kF_8_166 (pq_ac kV_8_175 (pq_ac trivial (pq_ac trivial (pq_ac kF_8_10 (pq_ac trivial (pq_ac kF_8_10 (pq_ac kF_8_166 (pq_ac kF_8_179 (pq_ac trivial (pq_ac kV_8_56 (pq_ac trivial (pq_ac trivial (pq_ac trivial (pq_ac trivial (pq_ac kV_8_45 (pq_ac trivial (pq_ac kF_8_10 (pq_ac kF_8_166 (pq_ac kF_8_182 (pq_ac trivial (pq_ac trivial (pq_ac kF_8_10 (pq_ac kF_8_166 (pq_ac trivial (pq_ac kQ_8_182 (pq_ac trivial (pq_ac trivial (pq_an))))))))))))))))))))))))))))))))))))
set_option maxRecDepth 100000 in
theorem ck_87 : ∀ e ∈ ct_87, pq_ok "PursuitDesk" false e := pq_ac trivial (pq_ac trivial (pq_ac trivial (pq_ac trivial (pq_ac trivial (pq_ac trivial (pq_ac trivial (pq_ac trivial (pq_ac trivial (pq_ac trivial (pq_ac trivial (pq_ac trivial (pq_ac trivial (pq_ac kV_8_45 (pq_ac trivial (pq_ac trivial (pq_ac kF_8_10 (pq_ac kF_8_153 (pq_ac trivial (pq_ac trivial (pq_ac kF_8_10 (pq_ac kF_8_156 (pq_ac trivial (pq_ac trivial (pq_ac trivial (pq_ac kF_8_10 (pq_ac trivial (pq_ac kQ_8_153 (pq_ac trivial (pq_ac kF_8_10 (pq_ac trivial (pq_ac kQ_8_156 (pq_ac trivial (pq_ac trivial (pq_an))))))))))))))))))))))))))))))))))
set_option maxRecDepth 100000 in
theorem ck_88 : ∀ e ∈ ct_88, pq_ok "PursuitDesk" false e := pq_ac trivial (pq_ac trivial (pq_ac trivial (pq_ac trivial (pq_ac trivial (pq_ac trivial (pq_ac trivial (pq_ac trivial (pq_ac kF_8_10 (pq_ac kF_8_166 (pq_ac kF_8_184 (pq_ac trivial (pq_ac trivial (pq_ac kF_8_10 (pq_ac kF_8_166 (pq_ac trivial (pq_ac kV_8_187 (pq_ac trivial (pq_ac trivial (pq_ac trivial (pq_an))))))))))))))))))))
set_option maxRecDepth 100000 in
theorem ck_89 : ∀ e ∈ ct_89, pq_ok "PursuitDesk" false e := pq_ac trivial (pq_ac kF_8_10 (pq_ac trivial (pq_ac kF_8_10 (pq_ac kF_8_102 (pq_ac kV_8_190 (pq_ac trivial (pq_ac kV_8_108 (pq_ac kS_8_194 (pq_ac trivial (pq_an))))))))))
set_option maxRecDepth 100000 in
theorem ck_90 : ∀ e ∈ ct_90, pq_ok "PursuitDesk" false e := pq_ac trivial (pq_ac kV_8_197 (pq_ac trivial (pq_ac kF_8_27 (pq_ac kV_8_200 (pq_ac trivial (pq_an))))))
set_option maxRecDepth 100000 in
theorem ck_91 : ∀ e ∈ ct_91, pq_ok "PursuitDesk" false e := pq_ac trivial (pq_ac kF_8_146 (pq_ac trivial (pq_ac trivial (pq_ac trivial (pq_ac kF_8_27 (pq_ac trivial (pq_ac kF_8_10 (pq_ac kF_8_48 (pq_ac trivial (pq_ac kF_8_10 (pq_ac kF_8_60 (pq_ac trivial (pq_ac kF_8_10 (pq_ac kF_8_89 (pq_ac kV_8_231 (pq_ac trivial (pq_ac kF_8_27 (pq_ac kV_8_232 (pq_ac trivial (pq_ac kF_8_27 (pq_ac trivial (pq_ac kF_8_27 (pq_ac trivial (pq_ac kF_8_10 (pq_ac kF_8_98 (pq_ac trivial (pq_ac kV_8_108 (pq_ac kV_8_235 (pq_ac trivial (pq_ac kV_8_236 (pq_ac trivial (pq_ac kF_8_27 (pq_ac kV_8_239 (pq_ac trivial (pq_ac trivial (pq_ac kQ_8_146 (pq_ac trivial (pq_an))))))))))))))))))))))))))))))))))))))
set_option maxRecDepth 100000 in
theorem ck_92 : ∀ e ∈ ct_92, pq_ok "PursuitDesk" false e := pq_ac trivial (pq_ac trivial (pq_ac trivial (pq_ac trivial (pq_ac kV_8_95 (pq_ac trivial (pq_ac trivial (pq_ac trivial (pq_ac trivial (pq_ac kV_8_197 (pq_ac trivial (pq_ac trivial (pq_ac kF_8_27 (pq_ac kV_8_200 (pq_ac trivial (pq_ac trivial (pq_ac trivial (pq_ac trivial (pq_ac kF_8_27 (pq_ac trivial (pq_ac trivial (pq_ac trivial (pq_ac trivial (pq_ac kV_8_203 (pq_ac trivial (pq_an)))))))))))))))))))))))))
set_option maxRecDepth 100000 in
theorem ck_93 : ∀ e ∈ ct_93, pq_ok "PursuitDesk" false e := pq_ac trivial (pq_ac kF_8_37 (pq_ac trivial (pq_ac kF_8_10 (pq_ac kF_8_48 (pq_ac trivial (pq_ac kF_8_10 (pq_ac kF_8_60 (pq_ac trivial (pq_ac kF_8_10 (pq_ac kF_8_89 (pq_ac kV_8_207 (pq_ac trivial (pq_ac kF_8_37 (pq_ac trivial (pq_ac kF_8_37 (pq_ac trivial (pq_ac kF_8_10 (pq_ac kF_8_98 (pq_ac trivial (pq_ac kV_8_108 (pq_ac kV_8_211 (pq_ac kV_8_215 (pq_ac trivial (pq_an))))))))))))))))))))))))
set_option maxRecDepth 100000 in
theorem ck_94 : ∀ e ∈ ct_94, pq_ok "PursuitDesk" false e := pq_ac trivial (pq_ac kF_8_10 (pq_ac trivial (pq_ac kF_8_10 (pq_ac kF_8_98 (pq_ac kV_8_190 (pq_ac trivial (pq_ac trivial (pq_ac kV_8_108 (pq_ac trivial (pq_ac trivial (pq_ac trivial (pq_ac trivial (pq_ac trivial (pq_ac trivial (pq_ac trivial (pq_ac trivial (pq_ac kS_8_194 (pq_ac trivial (pq_ac trivial (pq_ac trivial (pq_ac trivial (pq_ac trivial (pq_ac trivial (pq_ac trivial (pq_ac trivial (pq_ac trivial (pq_ac trivial (pq_ac trivial (pq_ac trivial (pq_an))))))))))))))))))))))))))))))
set_option maxRecDepth 100000 in
theorem ck_95 : ∀ e ∈ ct_95, pq_ok "PursuitDesk" false e := pq_ac trivial (pq_ac trivial (pq_ac trivial (pq_ac trivial (pq_ac trivial (pq_ac trivial (pq_ac trivial (pq_ac kV_8_218 (pq_ac trivial (pq_ac trivial (pq_ac trivial (pq_ac trivial (pq_ac trivial (pq_ac trivial (pq_ac trivial (pq_ac trivial (pq_an))))))))))))))))
set_option maxRecDepth 100000 in
theorem ck_96 : ∀ e ∈ ct_96, pq_ok "PursuitDesk" false e := pq_ac trivial (pq_ac kF_8_31 (pq_ac trivial (pq_ac kF_8_10 (pq_ac kF_8_48 (pq_ac trivial (pq_ac kF_8_10 (pq_ac kF_8_60 (pq_ac trivial (pq_ac kV_8_231 (pq_ac trivial (pq_ac kF_8_31 (pq_ac kV_8_232 (pq_ac trivial (pq_ac kF_8_31 (pq_ac kV_8_242 (pq_ac trivial (pq_ac kF_8_31 (pq_ac kV_8_239 (pq_ac trivial (pq_ac kF_8_31 (pq_ac kV_8_200 (pq_ac trivial (pq_an)))))))))))))))))))))))
set_option maxRecDepth 100000 in
theorem ck_97 : ∀ e ∈ ct_97, pq_ok "PursuitDesk" false e := pq_ac trivial (pq_ac trivial (pq_ac trivial (pq_ac trivial (pq_ac trivial (pq_ac trivial (pq_ac trivial (pq_ac trivial (pq_ac trivial (pq_ac trivial (pq_ac kV_8_218 (pq_ac trivial (pq_an))))))))))))
set_option maxRecDepth 100000 in
theorem ck_98 : ∀ e ∈ ct_98, pq_ok "PursuitDesk" false e := pq_ac trivial (pq_ac trivial (pq_ac trivial (pq_ac trivial (pq_ac trivial (pq_ac trivial (pq_ac trivial (pq_ac trivial (pq_ac trivial (pq_ac kF_8_221 (pq_ac trivial (pq_ac trivial (pq_ac trivial (pq_ac trivial (pq_ac trivial (pq_ac kF_8_20 (pq_ac trivial (pq_ac kF_8_221 (pq_ac trivial (pq_ac trivial (pq_ac trivial (pq_ac trivial (pq_ac trivial (pq_ac kF_8_221 (pq_ac trivial (pq_ac trivial (pq_ac kQ_8_221 (pq_ac trivial (pq_ac kF_8_221 (pq_ac trivial (pq_an))))))))))))))))))))))))))))))
set_option maxRecDepth 100000 in
theorem ck_99 : ∀ e ∈ ct_99, pq_ok "PursuitDesk" false e := pq_ac trivial (pq_ac kF_8_221 (pq_ac trivial (pq_ac trivial (pq_ac trivial (pq_ac kQ_8_221 (pq_ac trivial (pq_ac trivial (pq_an))))))))
set_option maxRecDepth 100000 in
theorem ck_100 : ∀ e ∈ ct_100, pq_ok "PursuitDeskModel" true e := pq_ac trivial (pq_ac kO_9_1 (pq_ac trivial (pq_ac trivial (pq_ac trivial (pq_ac kQ_9_7i (pq_ac trivial (pq_ac trivial (pq_ac trivial (pq_ac kQ_9_13i (pq_ac trivial (pq_ac trivial (pq_ac trivial (pq_ac kQ_9_16i (pq_ac trivial (pq_ac trivial (pq_ac trivial (pq_ac kQ_9_20i (pq_ac trivial (pq_ac trivial (pq_ac trivial (pq_ac kQ_9_23i (pq_ac trivial (pq_ac trivial (pq_ac trivial (pq_ac kQ_9_26i (pq_ac trivial (pq_ac kC_9_29 (pq_ac trivial (pq_ac kQ_9_30i (pq_ac trivial (pq_ac kC_9_29 (pq_ac trivial (pq_ac kQ_9_33i (pq_ac trivial (pq_ac kC_9_29 (pq_ac trivial (pq_ac kQ_9_36i (pq_ac trivial (pq_ac trivial (pq_ac trivial (pq_ac kQ_9_39i (pq_ac trivial (pq_ac kF_9_7 (pq_ac trivial (pq_ac trivial (pq_ac trivial (pq_ac trivial (pq_ac kV_9_42 (pq_ac trivial (pq_an))))))))))))))))))))))))))))))))))))))))))))))))))
set_option maxRecDepth 100000 in
theorem ck_101 : ∀ e ∈ ct_101, pq_ok "PursuitDeskModel" false e := pq_ac trivial (pq_ac kV_9_49 (pq_ac trivial (pq_ac trivial (pq_ac trivial (pq_ac trivial (pq_ac trivial (pq_ac kF_9_7 (pq_ac trivial (pq_ac trivial (pq_ac trivial (pq_ac trivial (pq_ac trivial (pq_ac trivial (pq_ac kF_9_7 (pq_ac trivial (pq_ac trivial (pq_ac trivial (pq_ac trivial (pq_ac trivial (pq_ac trivial (pq_ac trivial (pq_ac trivial (pq_ac trivial (pq_ac trivial (pq_ac trivial (pq_ac trivial (pq_ac kF_9_7 (pq_ac trivial (pq_ac trivial (pq_ac trivial (pq_ac trivial (pq_ac kF_9_7 (pq_ac trivial (pq_ac trivial (pq_ac trivial (pq_ac trivial (pq_ac kF_9_7 (pq_ac trivial (pq_ac trivial (pq_ac kF_9_7 (pq_ac trivial (pq_ac trivial (pq_ac trivial (pq_ac trivial (pq_ac trivial (pq_ac kF_9_7 (pq_ac trivial (pq_ac trivial (pq_ac trivial (pq_ac trivial (pq_ac trivial (pq_ac trivial (pq_an)))))))))))))))))))))))))))))))))))))))))))))))))))))
set_option maxRecDepth 100000 in
theorem ck_102 : ∀ e ∈ ct_102, pq_ok "PursuitDeskModel" false e := pq_ac trivial (pq_ac trivial (pq_ac kF_9_7 (pq_ac trivial (pq_ac trivial (pq_ac trivial (pq_ac trivial (pq_ac trivial (pq_ac trivial (pq_an)))))))))
set_option maxRecDepth 100000 in
theorem ck_103 : ∀ e ∈ ct_103, pq_ok "PursuitDeskModel" false e := pq_ac trivial (pq_ac trivial (pq_ac trivial (pq_ac kS_9_45 (pq_ac trivial (pq_ac trivial (pq_ac trivial (pq_ac trivial (pq_ac kV_9_57 (pq_ac trivial (pq_ac kF_9_7 (pq_ac trivial (pq_ac trivial (pq_ac trivial (pq_ac trivial (pq_ac kF_9_7 (pq_ac trivial (pq_ac trivial (pq_ac trivial (pq_ac trivial (pq_ac kF_9_7 (pq_ac trivial (pq_ac trivial (pq_ac trivial (pq_ac trivial (pq_ac kF_9_7 (pq_ac trivial (pq_ac trivial (pq_ac trivial (pq_ac trivial (pq_ac kF_9_7 (pq_ac trivial (pq_ac trivial (pq_ac trivial (pq_ac trivial (pq_ac trivial (pq_ac trivial (pq_ac trivial (pq_ac trivial (pq_ac trivial (pq_ac kF_9_7 (pq_ac trivial (pq_ac trivial (pq_ac trivial (pq_ac trivial (pq_ac trivial (pq_ac trivial (pq_ac trivial (pq_ac trivial (pq_ac kV_9_42 (pq_ac trivial (pq_ac trivial (pq_an))))))))))))))))))))))))))))))))))))))))))))))))))))
set_option maxRecDepth 100000 in
theorem ck_104 : ∀ e ∈ ct_104, pq_ok "PursuitDeskModel" false e := pq_ac trivial (pq_ac trivial (pq_ac trivial (pq_ac trivial (pq_ac trivial (pq_ac trivial (pq_ac trivial (pq_ac trivial (pq_ac trivial (pq_ac trivial (pq_an))))))))))
set_option maxRecDepth 100000 in
theorem ck_105 : ∀ e ∈ ct_105, pq_ok "PursuitDeskModel" false e := pq_ac trivial (pq_ac kF_9_53 (pq_ac trivial (pq_ac trivial (pq_ac trivial (pq_ac trivial (pq_ac trivial (pq_ac trivial (pq_ac trivial (pq_ac trivial (pq_ac kF_9_13 (pq_ac trivial (pq_ac trivial (pq_ac kF_9_13 (pq_ac trivial (pq_ac trivial (pq_ac trivial (pq_ac trivial (pq_ac trivial (pq_ac trivial (pq_ac trivial (pq_ac trivial (pq_ac trivial (pq_ac kF_9_53 (pq_ac trivial (pq_ac trivial (pq_ac kQ_9_53 (pq_ac trivial (pq_ac trivial (pq_ac trivial (pq_ac trivial (pq_ac trivial (pq_ac trivial (pq_ac kF_9_13 (pq_ac trivial (pq_ac trivial (pq_ac kF_9_53 (pq_ac trivial (pq_ac trivial (pq_ac trivial (pq_ac trivial (pq_ac kF_9_7 (pq_ac trivial (pq_ac trivial (pq_ac trivial (pq_ac trivial (pq_ac trivial (pq_ac trivial (pq_ac trivial (pq_ac kF_9_53 (pq_ac trivial (pq_ac trivial (pq_ac kQ_9_53 (pq_ac trivial (pq_an))))))))))))))))))))))))))))))))))))))))))))))))))))))
set_option maxRecDepth 100000 in
theorem ck_106 : ∀ e ∈ ct_106, pq_ok "PursuitDeskModel" false e := pq_ac trivial (pq_ac trivial (pq_ac kV_9_60 (pq_ac trivial (pq_ac trivial (pq_ac trivial (pq_ac kV_9_60 (pq_ac trivial (pq_ac trivial (pq_ac trivial (pq_ac trivial (pq_ac trivial (pq_ac trivial (pq_ac trivial (pq_ac kS_9_45 (pq_ac trivial (pq_ac trivial (pq_ac trivial (pq_ac trivial (pq_ac kV_9_57 (pq_ac trivial (pq_ac kF_9_7 (pq_ac trivial (pq_ac trivial (pq_ac trivial (pq_ac trivial (pq_ac trivial (pq_ac trivial (pq_ac trivial (pq_ac trivial (pq_ac trivial (pq_ac trivial (pq_ac trivial (pq_ac trivial (pq_ac trivial (pq_ac kV_9_64 (pq_ac trivial (pq_ac trivial (pq_ac trivial (pq_ac trivial (pq_ac kF_9_7 (pq_ac trivial (pq_ac trivial (pq_ac trivial (pq_ac trivial (pq_ac kF_9_7 (pq_ac trivial (pq_ac trivial (pq_ac trivial (pq_ac trivial (pq_ac trivial (pq_ac kF_9_7 (pq_ac trivial (pq_ac trivial (pq_ac trivial (pq_ac trivial (pq_ac trivial (pq_ac kF_9_7 (pq_ac trivial (pq_ac trivial (pq_ac trivial (pq_ac trivial (pq_ac kV_9_68 (pq_ac trivial (pq_ac trivial (pq_ac kF_9_7 (pq_ac trivial (pq_ac trivial (pq_ac trivial (pq_ac trivial (pq_ac trivial (pq_ac trivial (pq_ac kF_9_7 (pq_ac trivial (pq_ac trivial (pq_ac trivial (pq_ac trivial (pq_ac trivial (pq_ac trivial (pq_ac trivial (pq_ac trivial (pq_ac kF_9_7 (pq_ac trivial (pq_ac trivial (pq_ac trivial (pq_ac trivial (pq_ac trivial (pq_ac trivial (pq_ac kF_9_7 (pq_ac trivial (pq_ac trivial (pq_ac trivial (pq_ac kF_9_7 (pq_ac trivial (pq_ac trivial (pq_ac kV_9_68 (pq_ac trivial (pq_ac trivial (pq_ac kF_9_7 (pq_ac trivial (pq_ac trivial (pq_ac kF_9_7 (pq_ac trivial (pq_ac trivial (pq_ac trivial (pq_ac trivial (pq_ac trivial (pq_an)))))))))))))))))))))))))))))))))))))))))))))))))))))))))))))))))))))))))))))))))))))))))))))))))))))))))))
set_option maxRecDepth 100000 in
theorem ck_107 : ∀ e ∈ ct_107, pq_ok "PursuitDeskModel" false e := pq_ac trivial (pq_ac trivial (pq_ac trivial (pq_ac kF_9_7 (pq_ac trivial (pq_ac trivial (pq_ac trivial (pq_ac trivial (pq_ac kS_9_45 (pq_ac trivial (pq_an))))))))))
set_option maxRecDepth 100000 in
theorem ck_108 : ∀ e ∈ ct_108, pq_ok "PursuitDeskModel" false e := pq_ac trivial (pq_ac kF_9_7 (pq_ac trivial (pq_ac trivial (pq_ac trivial (pq_ac trivial (pq_ac kF_9_7 (pq_ac trivial (pq_ac trivial (pq_ac trivial (pq_ac trivial (pq_ac trivial (pq_ac trivial (pq_ac trivial (pq_ac trivial (pq_ac trivial (pq_ac trivial (pq_ac trivial (pq_ac trivial (pq_ac trivial (pq_ac trivial (pq_ac trivial (pq_ac trivial (pq_ac kF_9_7 (pq_ac trivial (pq_ac trivial (pq_ac trivial (pq_ac trivial (pq_ac kF_9_7 (pq_ac trivial (pq_ac trivial (pq_ac trivial (pq_ac trivial (pq_ac trivial (pq_ac trivial (pq_ac trivial (pq_ac trivial (pq_ac trivial (pq_ac trivial (pq_ac trivial (pq_ac trivial (pq_ac trivial (pq_ac trivial (pq_ac trivial (pq_ac trivial (pq_an)))))))))))))))))))))))))))))))))))))))))))))
set_option maxRecDepth 100000 in
theorem ck_109 : ∀ e ∈ ct_109, pq_ok "PursuitDeskModel" false e := pq_ac trivial (pq_ac trivial (pq_ac trivial (pq_ac trivial (pq_ac kF_9_7 (pq_ac trivial (pq_ac trivial (pq_ac trivial (pq_ac trivial (pq_ac trivial (pq_ac trivial (pq_ac trivial (pq_ac trivial (pq_ac trivial (pq_ac trivial (pq_ac trivial (pq_ac trivial (pq_ac trivial (pq_ac trivial (pq_an)))))))))))))))))))
set_option maxRecDepth 100000 in
theorem ck_110 : ∀ e ∈ ct_110, pq_ok "PursuitDeskModel" false e := pq_ac trivial (pq_ac trivial (pq_ac kV_9_60 (pq_ac trivial (pq_ac trivial (pq_ac trivial (pq_ac trivial (pq_ac kF_9_7 (pq_ac trivial (pq_ac trivial (pq_ac trivial (pq_ac trivial (pq_ac trivial (pq_ac trivial (pq_ac trivial (pq_ac kV_9_57 (pq_ac trivial (pq_ac kF_9_7 (pq_ac trivial (pq_ac trivial (pq_ac trivial (pq_ac trivial (pq_ac kF_9_7 (pq_ac trivial (pq_ac trivial (pq_ac trivial (pq_ac trivial (pq_ac trivial (pq_ac trivial (pq_ac kF_9_7 (pq_ac trivial (pq_ac trivial (pq_ac trivial (pq_ac trivial (pq_ac trivial (pq_ac trivial (pq_ac kF_9_7 (pq_ac trivial (pq_ac trivial (pq_ac trivial (pq_ac trivial (pq_ac trivial (pq_ac trivial (pq_ac trivial (pq_ac kF_9_7 (pq_ac trivial (pq_ac kV_9_72 (pq_ac trivial (pq_ac trivial (pq_ac trivial (pq_ac trivial (pq_ac trivial (pq_ac trivial (pq_ac trivial (pq_ac trivial (pq_ac trivial (pq_ac trivial (pq_ac kF_9_7 (pq_ac trivial (pq_ac trivial (pq_ac trivial (pq_ac trivial (pq_ac trivial (pq_ac kF_9_7 (pq_ac trivial (pq_ac trivial (pq_ac trivial (pq_ac trivial (pq_ac kF_9_7 (pq_ac trivial (pq_ac trivial (pq_ac trivial (pq_ac trivial (pq_ac trivial (pq_ac kF_9_7 (pq_ac trivial (pq_ac trivial (pq_ac trivial (pq_ac trivial (pq_ac kF_9_7 (pq_ac trivial (pq_ac trivial (pq_ac kF_9_7 (pq_ac trivial (pq_ac trivial (pq_ac trivial (pq_ac trivial (pq_ac kF_9_7 (pq_ac trivial (pq_ac trivial (pq_ac trivial (pq_ac trivial (pq_ac trivial (pq_an)))))))))))))))))))))))))))))))))))))))))))))))))))))))))))))))))))))))))))))))))))))))))))))
set_option maxRecDepth 100000 in
theorem ck_111 : ∀ e ∈ ct_111, pq_ok "PursuitDeskModel" false e := pq_ac trivial (pq_ac trivial (pq_ac trivial (pq_ac kF_9_7 (pq_ac trivial (pq_ac trivial (pq_ac trivial (pq_ac trivial (pq_ac trivial (pq_ac trivial (pq_ac trivial (pq_an)))))))))))
set_option maxRecDepth 100000 in
theorem ck_112 : ∀ e ∈ ct_112, pq_ok "PursuitDeskModel" false e := pq_ac trivial (pq_ac kF_9_7 (pq_ac trivial (pq_ac trivial (pq_ac trivial (pq_ac trivial (pq_ac trivial (pq_ac trivial (pq_ac kV_9_57 (pq_ac trivial (pq_ac kF_9_7 (pq_ac trivial (pq_ac trivial (pq_ac trivial (pq_ac trivial (pq_ac trivial (pq_ac trivial (pq_ac trivial (pq_ac kF_9_7 (pq_ac trivial (pq_ac trivial (pq_ac trivial (pq_an))))))))))))))))))))))
set_option maxRecDepth 100000 in
theorem ck_113 : ∀ e ∈ ct_113, pq_ok "PursuitDeskModel" false e := pq_ac trivial (pq_ac trivial (pq_ac kV_9_75 (pq_ac trivial (pq_ac trivial (pq_ac trivial (pq_ac kV_9_60 (pq_ac trivial (pq_ac trivial (pq_ac trivial (pq_ac trivial (pq_ac trivial (pq_ac kF_9_7 (pq_ac trivial (pq_ac trivial (pq_ac trivial (pq_ac trivial (pq_ac trivial (pq_ac kV_9_68 (pq_ac trivial (pq_ac trivial (pq_ac trivial (pq_ac trivial (pq_ac kV_9_57 (pq_ac trivial (pq_ac kF_9_7 (pq_ac trivial (pq_ac trivial (pq_ac trivial (pq_ac trivial (pq_ac trivial (pq_ac trivial (pq_ac kF_9_7 (pq_ac trivial (pq_ac trivial (pq_ac trivial (pq_ac trivial (pq_ac trivial (pq_ac trivial (pq_ac trivial (pq_an))))))))))))))))))))))))))))))))))))))))
set_option maxRecDepth 100000 in
theorem ck_114 : ∀ e ∈ ct_114, pq_ok "PursuitDeskModel" false e := pq_ac trivial (pq_ac trivial (pq_ac trivial (pq_ac kF_9_7 (pq_ac trivial (pq_ac trivial (pq_ac trivial (pq_ac trivial (pq_ac kS_9_45 (pq_ac trivial (pq_an))))))))))
set_option maxRecDepth 100000 in
theorem ck_115 : ∀ e ∈ ct_115, pq_ok "PursuitDeskModel" false e := pq_ac trivial (pq_ac kV_9_57 (pq_ac trivial (pq_ac kV_9_42 (pq_ac trivial (pq_ac kF_9_7 (pq_ac trivial (pq_ac trivial (pq_ac trivial (pq_an)))))))))
set_option maxRecDepth 100000 in
theorem ck_116 : ∀ e ∈ ct_116, pq_ok "PursuitDeskModel" false e := pq_ac trivial (pq_ac kF_9_7 (pq_ac trivial (pq_ac kV_9_72 (pq_ac trivial (pq_ac trivial (pq_an))))))
set_option maxRecDepth 100000 in
theorem ck_117 : ∀ e ∈ ct_117, pq_ok "PursuitDeskModel" false e := pq_ac trivial (pq_ac trivial (pq_ac trivial (pq_ac kF_9_7 (pq_ac trivial (pq_ac trivial (pq_ac kS_9_45 (pq_ac trivial (pq_ac trivial (pq_ac trivial (pq_ac trivial (pq_ac trivial (pq_ac kV_9_78 (pq_ac trivial (pq_ac trivial (pq_ac trivial (pq_ac trivial (pq_ac trivial (pq_ac trivial (pq_ac kF_9_7 (pq_ac trivial (pq_ac trivial (pq_ac trivial (pq_an)))))))))))))))))))))))
set_option maxRecDepth 100000 in
theorem ck_118 : ∀ e ∈ ct_118, pq_ok "PursuitDeskModel" false e := pq_ac trivial (pq_ac kF_9_7 (pq_ac trivial (pq_ac trivial (pq_ac trivial (pq_ac trivial (pq_ac trivial (pq_ac kF_9_7 (pq_ac trivial (pq_ac trivial (pq_ac trivial (pq_ac trivial (pq_ac trivial (pq_ac trivial (pq_ac trivial (pq_ac trivial (pq_ac trivial (pq_ac trivial (pq_ac trivial (pq_ac trivial (pq_ac trivial (pq_ac trivial (pq_ac trivial (pq_ac trivial (pq_an))))))))))))))))))))))))
set_option maxRecDepth 100000 in
theorem ck_119 : ∀ e ∈ ct_119, pq_ok "PursuitDeskModel" false e := pq_ac trivial (pq_ac trivial (pq_ac trivial (pq_ac kF_9_7 (pq_ac trivial (pq_ac trivial (pq_ac kS_9_45 (pq_ac trivial (pq_ac trivial (pq_ac trivial (pq_ac kV_9_60 (pq_ac trivial (pq_ac trivial (pq_ac trivial (pq_ac trivial (pq_ac trivial (pq_ac kV_9_78 (pq_ac trivial (pq_ac trivial (pq_ac trivial (pq_ac trivial (pq_ac trivial (pq_ac trivial (pq_ac kF_9_7 (pq_ac trivial (pq_ac trivial (pq_ac trivial (pq_ac trivial (pq_ac trivial (pq_ac trivial (pq_ac trivial (pq_ac trivial (pq_ac trivial (pq_ac trivial (pq_ac kV_9_57 (pq_ac trivial (pq_ac trivial (pq_ac trivial (pq_ac kV_9_86 (pq_ac trivial (pq_ac kV_9_90 (pq_ac trivial (pq_an))))))))))))))))))))))))))))))))))))))))))
set_option maxRecDepth 100000 in
theorem ck_120 : ∀ e ∈ ct_120, pq_ok "PursuitDeskModel" false e := pq_ac trivial (pq_ac kF_9_7 (pq_ac trivial (pq_ac trivial (pq_ac trivial (pq_ac trivial (pq_ac trivial (pq_ac trivial (pq_ac trivial (pq_ac trivial (pq_ac trivial (pq_ac kF_9_7 (pq_ac trivial (pq_ac trivial (pq_ac trivial (pq_ac trivial (pq_ac trivial (pq_ac trivial (pq_ac trivial (pq_ac trivial (pq_ac trivial (pq_ac trivial (pq_ac trivial (pq_ac kV_9_72 (pq_ac trivial (pq_ac trivial (pq_ac trivial (pq_ac trivial (pq_ac trivial (pq_ac trivial (pq_ac trivial (pq_ac kF_9_26 (pq_ac trivial (pq_ac trivial (pq_ac kF_9_7 (pq_ac trivial (pq_ac trivial (pq_ac trivial (pq_ac trivial (pq_ac trivial (pq_ac trivial (pq_ac trivial (pq_ac trivial (pq_ac trivial (pq_ac trivial (pq_ac trivial (pq_ac trivial (pq_ac trivial (pq_ac trivial (pq_ac trivial (pq_ac kF_9_20 (pq_ac trivial (pq_ac trivial (pq_ac kF_9_7 (pq_ac trivial (pq_ac trivial (pq_ac trivial (pq_ac trivial (pq_ac trivial (pq_ac trivial (pq_ac trivial (pq_ac trivial (pq_ac kF_9_23 (pq_ac trivial (pq_ac trivial (pq_ac kF_9_7 (pq_ac trivial (pq_ac trivial (pq_ac trivial (pq_ac trivial (pq_ac trivial (pq_ac trivial (pq_ac trivial (pq_ac trivial (pq_ac trivial (pq_ac trivial (pq_ac kF_9_7 (pq_ac trivial (pq_ac trivial (pq_ac trivial (pq_ac trivial (pq_ac trivial (pq_ac kF_9_7 (pq_ac trivial (pq_ac trivial (pq_ac trivial (pq_ac trivial (pq_ac trivial (pq_ac kF_9_7 (pq_ac trivial (pq_ac trivial (pq_ac trivial (pq_ac trivial (pq_ac kV_9_82 (pq_ac trivial (pq_ac trivial (pq_ac trivial (pq_ac trivial (pq_ac trivial (pq_an)))))))))))))))))))))))))))))))))))))))))))))))))))))))))))))))))))))))))))))))))))))))))))))))))))
set_option maxRecDepth 100000 in
theorem ck_121 : ∀ e ∈ ct_121, pq_ok "PursuitDeskModel" false e := pq_ac trivial (pq_ac trivial (pq_ac trivial (pq_ac trivial (pq_ac trivial (pq_ac trivial (pq_ac kF_9_7 (pq_ac trivial (pq_ac trivial (pq_ac trivial (pq_ac trivial (pq_ac trivial (pq_ac kF_9_26 (pq_ac trivial (pq_ac trivial (pq_ac trivial (pq_ac trivial (pq_ac trivial (pq_ac trivial (pq_ac trivial (pq_ac trivial (pq_ac trivial (pq_ac trivial (pq_ac trivial (pq_ac trivial (pq_ac trivial (pq_ac trivial (pq_ac trivial (pq_ac trivial (pq_ac trivial (pq_ac trivial (pq_ac kF_9_23 (pq_ac trivial (pq_ac trivial (pq_ac trivial (pq_ac trivial (pq_ac trivial (pq_ac trivial (pq_ac trivial (pq_ac trivial (pq_ac trivial (pq_ac trivial (pq_ac kF_9_20 (pq_ac trivial (pq_ac trivial (pq_ac trivial (pq_ac trivial (pq_ac trivial (pq_ac kF_9_23 (pq_ac trivial (pq_ac trivial (pq_ac trivial (pq_ac trivial (pq_ac trivial (pq_ac trivial (pq_ac kF_9_23 (pq_ac trivial (pq_ac trivial (pq_ac trivial (pq_ac trivial (pq_ac trivial (pq_ac trivial (pq_ac trivial (pq_ac trivial (pq_ac trivial (pq_ac trivial (pq_ac trivial (pq_ac trivial (pq_ac trivial (pq_ac trivial (pq_ac trivial (pq_ac trivial (pq_ac trivial (pq_ac trivial (pq_ac trivial (pq_ac trivial (pq_ac trivial (pq_ac trivial (pq_ac trivial (pq_ac trivial (pq_ac trivial (pq_ac trivial (pq_ac trivial (pq_an)))))))))))))))))))))))))))))))))))))))))))))))))))))))))))))))))))))))))))))))))))
set_option maxRecDepth 100000 in
theorem ck_122 : ∀ e ∈ ct_122, pq_ok "PursuitDeskModel" false e := pq_ac trivial (pq_ac kF_9_7 (pq_ac trivial (pq_ac trivial (pq_ac trivial (pq_ac trivial (pq_ac trivial (pq_ac trivial (pq_ac trivial (pq_ac kV_9_57 (pq_ac trivial (pq_ac kV_9_93 (pq_ac trivial (pq_ac trivial (pq_ac kV_9_90 (pq_ac trivial (pq_ac kF_9_7 (pq_ac trivial (pq_ac trivial (pq_ac kV_9_82 (pq_ac trivial (pq_ac trivial (pq_ac kF_9_7 (pq_ac trivial (pq_ac trivial (pq_ac trivial (pq_ac trivial (pq_ac trivial (pq_ac trivial (pq_ac trivial (pq_ac kV_9_96 (pq_ac trivial (pq_ac kV_9_99 (pq_ac trivial (pq_ac kV_9_72 (pq_ac trivial (pq_ac trivial (pq_ac kF_9_7 (pq_ac trivial (pq_ac trivial (pq_ac trivial (pq_ac trivial (pq_ac kF_9_7 (pq_ac trivial (pq_ac trivial (pq_ac trivial (pq_ac trivial (pq_ac kF_9_7 (pq_ac trivial (pq_ac trivial (pq_ac trivial (pq_ac trivial (pq_ac trivial (pq_ac kF_9_7 (pq_ac trivial (pq_ac trivial (pq_ac trivial (pq_ac trivial (pq_ac trivial (pq_ac trivial (pq_ac trivial (pq_ac trivial (pq_ac trivial (pq_ac trivial (pq_ac trivial (pq_ac kF_9_7 (pq_ac trivial (pq_ac trivial (pq_ac trivial (pq_ac trivial (pq_ac trivial (pq_ac trivial (pq_ac kF_9_26 (pq_ac trivial (pq_ac trivial (pq_ac trivial (pq_ac trivial (pq_ac trivial (pq_ac trivial (pq_ac kF_9_7 (pq_ac trivial (pq_ac trivial (pq_ac trivial (pq_ac trivial (pq_ac kF_9_7 (pq_ac trivial (pq_ac trivial (pq_ac trivial (pq_ac trivial (pq_ac trivial (pq_ac trivial (pq_ac trivial (pq_ac trivial (pq_ac trivial (pq_ac kF_9_7 (pq_ac trivial (pq_ac trivial (pq_ac trivial (pq_ac trivial (pq_ac trivial (pq_ac trivial (pq_ac kF_9_20 (pq_ac trivial (pq_ac trivial (pq_ac trivial (pq_ac trivial (pq_ac kF_9_7 (pq_ac trivial (pq_ac trivial (pq_ac trivial (pq_ac trivial (pq_ac trivial (pq_ac trivial (pq_ac kF_9_23 (pq_ac trivial (pq_ac trivial (pq_ac trivial (pq_ac trivial (pq_ac trivial (pq_ac trivial (pq_ac trivial (pq_ac trivial (pq_ac trivial (pq_ac kF_9_7 (pq_ac trivial (pq_ac trivial (pq_ac trivial (pq_ac trivial (pq_ac kF_9_7 (pq_ac trivial (pq_ac trivial (pq_ac trivial (pq_ac trivial (pq_ac kF_9_7 (pq_ac trivial (pq_ac trivial (pq_ac trivial (pq_ac trivial (pq_ac trivial (pq_ac trivial (pq_ac trivial (pq_ac trivial (pq_ac kF_9_7 (pq_ac trivial (pq_ac trivial (pq_ac kF_9_7 (pq_ac trivial (pq_ac trivial (pq_ac trivial (pq_ac trivial (pq_ac kF_9_7 (pq_ac trivial (pq_ac trivial (pq_ac trivial (pq_ac trivial (pq_ac trivial (pq_ac kF_9_7 (pq_ac trivial (pq_ac trivial (pq_ac trivial (pq_ac trivial (pq_ac kF_9_7 (pq_ac trivial (pq_ac trivial (pq_ac trivial (pq_ac trivial (pq_ac kF_9_7 (pq_ac trivial (pq_ac trivial (pq_ac trivial (pq_ac kF_9_7 (pq_ac trivial (pq_ac trivial (pq_ac trivial (pq_ac trivial (pq_ac trivial (pq_ac kF_9_7 (pq_ac trivial (pq_ac trivial (pq_ac trivial (pq_ac kF_9_7 (pq_ac trivial (pq_ac trivial (pq_ac trivial (pq_ac trivial (pq_ac kF_9_7 (pq_ac trivial (pq_ac trivial (pq_ac trivial (pq_ac kF_9_7 (pq_ac trivial (pq_ac trivial (pq_ac trivial (pq_ac trivial (pq_ac trivial (pq_ac trivial (pq_ac kV_9_78 (pq_ac trivial (pq_ac trivial (pq_ac kF_9_7 (pq_ac trivial (pq_ac trivial (pq_ac trivial (pq_ac trivial (pq_ac trivial (pq_ac trivial (pq_ac trivial (pq_ac kV_9_78 (pq_ac trivial (pq_ac kF_9_7 (pq_ac trivial (pq_ac trivial (pq_ac kV_9_78 (pq_ac trivial (pq_ac trivial (pq_ac trivial (pq_ac kV_9_86 (pq_ac trivial (pq_ac kV_9_90 (pq_ac trivial (pq_an))))))))))))))))))))))))))))))))))))))))))))))))))))))))))))))))))))))))))))))))))))))))))))))))))))))))))))))))))))))))))))))))))))))))))))))))))))))))))))))))))))))))))))))))))))))))))))))))))))))))))))))))))))))))))))
set_option maxRecDepth 100000 in
theorem ck_123 : ∀ e ∈ ct_123, pq_ok "PursuitDeskModel" false e := pq_ac trivial (pq_ac trivial (pq_ac trivial (pq_ac trivial (pq_ac trivial (pq_ac trivial (pq_ac kF_9_26 (pq_ac trivial (pq_ac trivial (pq_ac kF_9_7 (pq_ac trivial (pq_ac trivial (pq_ac trivial (pq_ac trivial (pq_ac trivial (pq_ac trivial (pq_ac trivial (pq_ac trivial (pq_ac trivial (pq_ac trivial (pq_ac trivial (pq_ac trivial (pq_ac trivial (pq_ac kF_9_20 (pq_ac trivial (pq_ac trivial (pq_ac kF_9_7 (pq_ac trivial (pq_ac trivial (pq_ac trivial (pq_ac trivial (pq_ac trivial (pq_ac trivial (pq_ac kF_9_23 (pq_ac trivial (pq_ac trivial (pq_ac kF_9_7 (pq_ac trivial (pq_ac trivial (pq_ac trivial (pq_ac trivial (pq_ac trivial (pq_ac trivial (pq_ac trivial (pq_ac trivial (pq_an)))))))))))))))))))))))))))))))))))))))))))))
set_option maxRecDepth 100000 in
theorem ck_124 : ∀ e ∈ ct_124, pq_ok "PursuitDeskModel" false e := pq_ac trivial (pq_ac kF_9_7 (pq_ac trivial (pq_ac trivial (pq_ac trivial (pq_ac trivial (pq_ac kF_9_7 (pq_ac trivial (pq_ac trivial (pq_ac trivial (pq_ac trivial (pq_ac trivial (pq_ac trivial (pq_ac kF_9_7 (pq_ac trivial (pq_ac trivial (pq_ac trivial (pq_ac trivial (pq_ac kF_9_7 (pq_ac trivial (pq_ac trivial (pq_ac trivial (pq_ac trivial (pq_ac trivial (pq_ac trivial (pq_ac trivial (pq_ac kF_9_7 (pq_ac trivial (pq_ac trivial (pq_ac trivial (pq_ac trivial (pq_ac kF_9_7 (pq_ac trivial (pq_ac trivial (pq_ac trivial (pq_ac trivial (pq_ac trivial (pq_ac trivial (pq_ac trivial (pq_ac trivial (pq_ac trivial (pq_ac trivial (pq_ac kF_9_7 (pq_ac trivial (pq_ac trivial (pq_ac trivial (pq_ac trivial (pq_ac trivial (pq_ac trivial (pq_ac trivial (pq_ac kF_9_7 (pq_ac trivial (pq_ac trivial (pq_ac trivial (pq_ac trivial (pq_ac trivial (pq_ac trivial (pq_ac trivial (pq_ac kF_9_7 (pq_ac trivial (pq_ac trivial (pq_ac trivial (pq_ac trivial (pq_ac kF_9_7 (pq_ac trivial (pq_ac trivial (pq_ac kF_9_7 (pq_ac trivial (pq_ac trivial (pq_ac trivial (pq_ac trivial (pq_ac trivial (pq_ac trivial (pq_ac kF_9_7 (pq_ac trivial (pq_ac trivial (pq_ac trivial (pq_ac trivial (pq_an))))))))))))))))))))))))))))))))))))))))))))))))))))))))))))))))))))))))))))))
set_option maxRecDepth 100000 in
theorem ck_125 : ∀ e ∈ ct_125, pq_ok "PursuitDeskModel" false e := pq_ac trivial (pq_ac kF_9_7 (pq_ac trivial (pq_ac trivial (pq_ac trivial (pq_ac trivial (pq_ac trivial (pq_ac trivial (pq_ac trivial (pq_ac trivial (pq_ac trivial (pq_ac trivial (pq_ac kF_9_7 (pq_ac trivial (pq_ac trivial (pq_ac kF_9_7 (pq_ac trivial (pq_ac trivial (pq_ac trivial (pq_ac trivial (pq_ac trivial (pq_ac trivial (pq_ac trivial (pq_ac trivial (pq_ac kF_9_7 (pq_ac trivial (pq_ac trivial (pq_ac trivial (pq_ac trivial (pq_ac trivial (pq_ac trivial (pq_ac trivial (pq_ac kF_9_7 (pq_ac trivial (pq_ac trivial (pq_ac trivial (pq_ac trivial (pq_ac trivial (pq_ac trivial (pq_ac trivial (pq_an))))))))))))))))))))))))))))))))))))))))
set_option maxRecDepth 100000 in
theorem ck_126 : ∀ e ∈ ct_126, pq_ok "PursuitDeskModel" false e := pq_ac trivial (pq_ac kF_9_53 (pq_ac trivial (pq_ac trivial (pq_ac trivial (pq_ac trivial (pq_ac trivial (pq_ac kF_9_53 (pq_ac trivial (pq_ac trivial (pq_ac kQ_9_53 (pq_ac trivial (pq_ac trivial (pq_ac trivial (pq_ac trivial (pq_ac trivial (pq_ac trivial (pq_ac kF_9_7 (pq_ac trivial (pq_ac trivial (pq_ac kF_9_13 (pq_ac trivial (pq_ac trivial (pq_ac kF_9_53 (pq_ac trivial (pq_ac trivial (pq_ac trivial (pq_ac trivial (pq_ac trivial (pq_ac trivial (pq_ac trivial (pq_ac trivial (pq_ac kF_9_53 (pq_ac trivial (pq_an))))))))))))))))))))))))))))))))))
set_option maxRecDepth 100000 in
theorem ck_127 : ∀ e ∈ ct_127, pq_ok "PursuitDeskModel" false e := pq_ac trivial (pq_ac trivial (pq_ac trivial (pq_ac kF_9_7 (pq_ac trivial (pq_ac trivial (pq_ac trivial (pq_ac trivial (pq_ac kV_9_102 (pq_ac trivial (pq_ac trivial (pq_ac kF_9_7 (pq_ac trivial (pq_ac trivial (pq_ac trivial (pq_ac trivial (pq_ac kF_9_7 (pq_ac trivial (pq_ac trivial (pq_ac trivial (pq_ac trivial (pq_ac kF_9_7 (pq_ac trivial (pq_ac trivial (pq_ac trivial (pq_ac trivial (pq_ac kF_9_7 (pq_ac trivial (pq_ac trivial (pq_ac trivial (pq_ac trivial (pq_ac kF_9_7 (pq_ac trivial (pq_ac trivial (pq_ac trivial (pq_ac trivial (pq_ac kF_9_53 (pq_ac trivial (pq_ac trivial (pq_ac trivial (pq_an))))))))))))))))))))))))))))))))))))))))
set_option maxRecDepth 100000 in
theorem ck_128 : ∀ e ∈ ct_128, pq_ok "PursuitDeskModel" false e := pq_ac trivial (pq_ac trivial (pq_ac trivial (pq_ac trivial (pq_ac trivial (pq_ac trivial (pq_ac trivial (pq_ac trivial (pq_ac trivial (pq_ac trivial (pq_ac trivial (pq_ac trivial (pq_ac trivial (pq_ac trivial (pq_ac trivial (pq_ac trivial (pq_ac kF_9_7 (pq_ac trivial (pq_ac trivial (pq_ac trivial (pq_ac trivial (pq_ac trivial (pq_ac trivial (pq_ac trivial (pq_ac trivial (pq_ac trivial (pq_ac trivial (pq_ac trivial (pq_ac trivial (pq_ac trivial (pq_ac trivial (pq_ac trivial (pq_ac trivial (pq_ac trivial (pq_ac trivial (pq_ac trivial (pq_ac trivial (pq_an)))))))))))))))))))))))))))))))))))))
set_option maxRecDepth 100000 in
theorem ck_129 : ∀ e ∈ ct_129, pq_ok "PursuitDeskModel" false e := pq_ac trivial (pq_ac trivial (pq_ac kV_9_60 (pq_ac trivial (pq_ac trivial (pq_ac kF_9_7 (pq_ac trivial (pq_ac trivial (pq_ac trivial (pq_ac trivial (pq_ac trivial (pq_ac trivial (pq_ac trivial (pq_an)))))))))))))
set_option maxRecDepth 100000 in
theorem ck_130 : ∀ e ∈ ct_130, pq_ok "PursuitDeskModel" false e := pq_ac trivial (pq_ac trivial (pq_ac kV_9_75 (pq_ac trivial (pq_ac trivial (pq_ac trivial (pq_ac trivial (pq_ac kS_9_45 (pq_ac trivial (pq_ac trivial (pq_ac kF_9_7 (pq_ac trivial (pq_ac trivial (pq_ac trivial (pq_ac trivial (pq_ac trivial (pq_ac trivial (pq_ac trivial (pq_ac trivial (pq_ac trivial (pq_ac trivial (pq_ac trivial (pq_an))))))))))))))))))))))
set_option maxRecDepth 100000 in
theorem ck_131 : ∀ e ∈ ct_131, pq_ok "PursuitDeskModel" false e := pq_ac trivial (pq_ac trivial (pq_ac kV_9_60 (pq_ac trivial (pq_ac trivial (pq_ac trivial (pq_ac trivial (pq_ac trivial (pq_ac trivial (pq_ac trivial (pq_ac kF_9_7 (pq_ac trivial (pq_ac trivial (pq_ac trivial (pq_ac trivial (pq_ac kF_9_7 (pq_ac trivial (pq_ac trivial (pq_ac trivial (pq_ac trivial (pq_ac trivial (pq_ac trivial (pq_ac trivial (pq_ac trivial (pq_ac trivial (pq_ac trivial (pq_ac trivial (pq_ac kV_9_57 (pq_ac trivial (pq_ac kF_9_7 (pq_ac trivial (pq_ac trivial (pq_ac trivial (pq_ac trivial (pq_ac kF_9_7 (pq_ac trivial (pq_ac trivial (pq_ac trivial (pq_ac trivial (pq_ac kF_9_7 (pq_ac trivial (pq_ac trivial (pq_ac trivial (pq_ac trivial (pq_ac kF_9_7 (pq_ac trivial (pq_ac trivial (pq_ac trivial (pq_ac trivial (pq_ac kF_9_7 (pq_ac trivial (pq_ac trivial (pq_ac trivial (pq_ac trivial (pq_ac kF_9_7 (pq_ac trivial (pq_ac trivial (pq_ac kF_9_7 (pq_ac trivial (pq_ac trivial (pq_ac trivial (pq_ac trivial (pq_ac kF_9_7 (pq_ac trivial (pq_ac kV_9_72 (pq_ac trivial (pq_ac trivial (pq_ac trivial (pq_ac trivial (pq_ac trivial (pq_ac kF_9_7 (pq_ac trivial (pq_ac kV_9_72 (pq_ac trivial (pq_ac trivial (pq_ac trivial (pq_ac trivial (pq_ac trivial (pq_ac trivial (pq_an)))))))))))))))))))))))))))))))))))))))))))))))))))))))))))))))))))))))))))))))
set_option maxRecDepth 100000 in
theorem ck_132 : ∀ e ∈ ct_132, pq_ok "PursuitDeskModel" false e := pq_ac trivial (pq_ac trivial (pq_ac kV_9_60 (pq_ac trivial (pq_ac trivial (pq_ac trivial (pq_ac trivial (pq_ac kF_9_7 (pq_ac trivial (pq_ac trivial (pq_ac trivial (pq_ac trivial (pq_ac kF_9_7 (pq_ac trivial (pq_ac trivial (pq_ac trivial (pq_ac trivial (pq_ac trivial (pq_ac trivial (pq_ac kF_9_7 (pq_ac trivial (pq_ac trivial (pq_ac trivial (pq_ac kV_9_68 (pq_ac trivial (pq_ac trivial (pq_ac trivial (pq_ac trivial (pq_ac kV_9_57 (pq_ac trivial (pq_ac kF_9_7 (pq_ac trivial (pq_ac trivial (pq_ac trivial (pq_ac trivial (pq_ac kF_9_7 (pq_ac trivial (pq_ac trivial (pq_ac trivial (pq_ac trivial (pq_ac trivial (pq_an)))))))))))))))))))))))))))))))))))))))))
set_option maxRecDepth 100000 in
theorem ck_133 : ∀ e ∈ ct_133, pq_ok "PursuitDeskModel" false e := pq_ac trivial (pq_ac trivial (pq_ac trivial (pq_ac kS_9_45 (pq_ac trivial (pq_ac trivial (pq_ac trivial (pq_ac trivial (pq_ac kS_9_45 (pq_ac trivial (pq_ac trivial (pq_ac trivial (pq_ac trivial (pq_ac kV_9_57 (pq_ac trivial (pq_ac trivial (pq_ac kF_9_7 (pq_ac trivial (pq_ac trivial (pq_ac trivial (pq_ac trivial (pq_ac kF_9_7 (pq_ac trivial (pq_ac trivial (pq_ac trivial (pq_ac trivial (pq_ac trivial (pq_ac kF_9_7 (pq_ac trivial (pq_ac trivial (pq_ac trivial (pq_ac trivial (pq_ac kF_9_7 (pq_ac trivial (pq_ac trivial (pq_ac trivial (pq_ac trivial (pq_ac trivial (pq_an))))))))))))))))))))))))))))))))))))))
set_option maxRecDepth 100000 in
theorem ck_134 : ∀ e ∈ ct_134, pq_ok "PursuitDeskModel" false e := pq_ac trivial (pq_ac trivial (pq_ac trivial (pq_ac kS_9_45 (pq_ac trivial (pq_ac trivial (pq_ac trivial (pq_ac trivial (pq_ac kF_9_7 (pq_ac trivial (pq_ac trivial (pq_ac trivial (pq_ac trivial (pq_ac trivial (pq_ac trivial (pq_ac kF_9_7 (pq_ac trivial (pq_ac trivial (pq_ac trivial (pq_ac trivial (pq_ac trivial (pq_an)))))))))))))))))))))
set_option maxRecDepth 100000 in
theorem ck_135 : ∀ e ∈ ct_135, pq_ok "PursuitDeskModel" false e := pq_ac trivial (pq_ac kV_9_93 (pq_ac trivial (pq_ac trivial (pq_ac kV_9_90 (pq_ac trivial (pq_ac kF_9_7 (pq_ac trivial (pq_ac trivial (pq_ac kV_9_82 (pq_ac trivial (pq_an)))))))))))
set_option maxRecDepth 100000 in
theorem ck_136 : ∀ e ∈ ct_136, pq_ok "PursuitDeskModel" false e := pq_ac trivial (pq_ac kV_9_93 (pq_ac trivial (pq_ac trivial (pq_ac trivial (pq_ac trivial (pq_ac trivial (pq_ac trivial (pq_ac kF_9_23 (pq_ac trivial (pq_ac trivial (pq_ac kF_9_20 (pq_ac trivial (pq_ac trivial (pq_ac trivial (pq_ac trivial (pq_ac trivial (pq_ac trivial (pq_ac kV_9_90 (pq_ac trivial (pq_ac trivial (pq_ac trivial (pq_ac trivial (pq_ac trivial (pq_ac trivial (pq_ac kF_9_7 (pq_ac trivial (pq_ac trivial (pq_ac kV_9_82 (pq_ac trivial (pq_ac trivial (pq_ac trivial (pq_ac trivial (pq_ac trivial (pq_ac trivial (pq_ac trivial (pq_ac trivial (pq_ac trivial (pq_ac kF_9_7 (pq_ac trivial (pq_ac trivial (pq_ac kV_9_82 (pq_ac trivial (pq_ac trivial (pq_ac trivial (pq_ac trivial (pq_ac trivial (pq_an)))))))))))))))))))))))))))))))))))))))))))))))
set_option maxRecDepth 100000 in
theorem ck_137 : ∀ e ∈ ct_137, pq_ok "PursuitDeskModel" false e := pq_ac trivial (pq_ac kV_9_124 (pq_ac trivial (pq_ac trivial (pq_ac trivial (pq_ac trivial (pq_ac trivial (pq_ac trivial (pq_ac kF_9_30 (pq_ac trivial (pq_ac trivial (pq_ac trivial (pq_an))))))))))))
set_option maxRecDepth 100000 in
theorem ck_138 : ∀ e ∈ ct_138, pq_ok "PursuitDeskModel" false e := pq_ac trivial (pq_ac kV_9_115 (pq_ac trivial (pq_ac kF_9_36 (pq_ac trivial (pq_ac trivial (pq_ac kV_9_118 (pq_ac trivial (pq_ac trivial (pq_ac kF_9_30 (pq_ac trivial (pq_ac kF_9_36 (pq_ac trivial (pq_ac trivial (pq_ac trivial (pq_ac trivial (pq_ac trivial (pq_ac trivial (pq_ac trivial (pq_ac kF_9_7 (pq_ac trivial (pq_ac trivial (pq_ac kV_9_121 (pq_ac trivial (pq_an))))))))))))))))))))))))
set_option maxRecDepth 100000 in
theorem ck_139 : ∀ e ∈ ct_139, pq_ok "PursuitDeskModel" false e := pq_ac trivial (pq_ac kV_9_93 (pq_ac trivial (pq_ac trivial (pq_ac trivial (pq_ac kC_9_29 (pq_ac trivial (pq_ac trivial (pq_ac kF_9_30 (pq_ac trivial (pq_ac trivial (pq_ac trivial (pq_ac trivial (pq_ac trivial (pq_ac trivial (pq_an)))))))))))))))
set_option maxRecDepth 100000 in
theorem ck_140 : ∀ e ∈ ct_140, pq_ok "PursuitDeskModel" false e := pq_ac trivial (pq_ac kV_9_90 (pq_ac trivial (pq_ac trivial (pq_ac trivial (pq_ac trivial (pq_ac trivial (pq_ac kF_9_7 (pq_ac trivial (pq_ac trivial (pq_ac trivial (pq_ac trivial (pq_ac trivial (pq_ac trivial (pq_ac kF_9_7 (pq_ac trivial (pq_ac trivial (pq_ac trivial (pq_ac trivial (pq_ac kS_9_105 (pq_ac trivial (pq_ac trivial (pq_ac trivial (pq_ac trivial (pq_ac trivial (pq_an)))))))))))))))))))))))))
set_option maxRecDepth 100000 in
theorem ck_141 : ∀ e ∈ ct_141, pq_ok "PursuitDeskModel" false e := pq_ac trivial (pq_ac trivial (pq_ac trivial (pq_ac trivial (pq_ac trivial (pq_ac trivial (pq_ac trivial (pq_ac trivial (pq_ac trivial (pq_ac trivial (pq_ac trivial (pq_ac trivial (pq_ac trivial (pq_ac trivial (pq_ac trivial (pq_ac trivial (pq_ac trivial (pq_ac trivial (pq_ac trivial (pq_ac trivial (pq_an))))))))))))))))))))
set_option maxRecDepth 100000 in
theorem ck_142 : ∀ e ∈ ct_142, pq_ok "PursuitDeskModel" false e := pq_ac trivial (pq_ac trivial (pq_ac trivial (pq_ac trivial (pq_ac trivial (pq_ac trivial (pq_ac trivial (pq_ac trivial (pq_ac kF_9_36 (pq_ac trivial (pq_ac trivial (pq_ac trivial (pq_ac trivial (pq_ac trivial (pq_ac trivial (pq_ac kF_9_36 (pq_ac trivial (pq_ac trivial (pq_ac trivial (pq_ac trivial (pq_ac trivial (pq_ac trivial (pq_ac trivial (pq_ac kS_9_109 (pq_ac trivial (pq_ac trivial (pq_ac trivial (pq_ac kF_9_36 (pq_ac trivial (pq_ac trivial (pq_ac trivial (pq_ac trivial (pq_ac kV_9_112 (pq_ac trivial (pq_ac trivial (pq_ac trivial (pq_ac trivial (pq_ac kF_9_30 (pq_ac trivial (pq_ac trivial (pq_ac trivial (pq_ac trivial (pq_ac kF_9_30 (pq_ac trivial (pq_ac trivial (pq_ac kF_9_30 (pq_ac trivial (pq_ac kF_9_36 (pq_ac trivial (pq_ac trivial (pq_ac trivial (pq_ac trivial (pq_ac trivial (pq_ac trivial (pq_ac trivial (pq_ac kF_9_33 (pq_ac trivial (pq_ac trivial (pq_ac kF_9_36 (pq_ac trivial (pq_ac trivial (pq_ac trivial (pq_ac trivial (pq_ac kF_9_36 (pq_ac trivial (pq_ac trivial (pq_ac trivial (pq_ac trivial (pq_ac trivial (pq_ac trivial (pq_ac trivial (pq_ac trivial (pq_ac trivial (pq_ac trivial (pq_an))))))))))))))))))))))))))))))))))))))))))))))))))))))))))))))))))))))))))
set_option maxRecDepth 100000 in
theorem ck_143 : ∀ e ∈ ct_143, pq_ok "PursuitDeskModel" false e := pq_ac trivial (pq_ac trivial (pq_ac trivial (pq_ac trivial (pq_ac trivial (pq_ac trivial (pq_ac trivial (pq_ac trivial (pq_ac trivial (pq_ac trivial (pq_ac trivial (pq_ac trivial (pq_ac trivial (pq_ac trivial (pq_ac trivial (pq_ac trivial (pq_an))))))))))))))))
set_option maxRecDepth 100000 in
theorem ck_144 : ∀ e ∈ ct_144, pq_ok "PursuitDeskModel" false e := pq_ac trivial (pq_ac trivial (pq_ac trivial (pq_ac trivial (pq_ac trivial (pq_ac trivial (pq_ac trivial (pq_ac trivial (pq_ac trivial (pq_ac trivial (pq_ac trivial (pq_ac kF_9_20 (pq_ac trivial (pq_ac trivial (pq_ac trivial (pq_ac trivial (pq_ac trivial (pq_ac trivial (pq_ac trivial (pq_ac trivial (pq_ac trivial (pq_ac trivial (pq_ac trivial (pq_ac trivial (pq_ac kF_9_23 (pq_ac trivial (pq_ac trivial (pq_ac trivial (pq_ac trivial (pq_ac trivial (pq_ac trivial (pq_ac trivial (pq_ac trivial (pq_ac trivial (pq_ac trivial (pq_ac kF_9_23 (pq_ac trivial (pq_ac trivial (pq_ac trivial (pq_ac kF_9_7 (pq_ac trivial (pq_ac trivial (pq_ac trivial (pq_ac trivial (pq_ac trivial (pq_ac kF_9_20 (pq_ac trivial (pq_ac trivial (pq_ac trivial (pq_ac kF_9_23 (pq_ac trivial (pq_ac trivial (pq_ac kV_9_68 (pq_ac trivial (pq_ac trivial (pq_ac trivial (pq_ac trivial (pq_ac trivial (pq_ac trivial (pq_ac kF_9_23 (pq_ac trivial (pq_ac trivial (pq_ac kS_9_105 (pq_ac trivial (pq_ac trivial (pq_ac trivial (pq_ac trivial (pq_ac trivial (pq_ac trivial (pq_ac trivial (pq_ac trivial (pq_ac trivial (pq_ac kV_9_82 (pq_ac trivial (pq_ac trivial (pq_an)))))))))))))))))))))))))))))))))))))))))))))))))))))))))))))))))))))))))))
set_option maxRecDepth 100000 in
theorem ck_145 : ∀ e ∈ ct_145, pq_ok "PursuitDeskModel" false e := pq_ac trivial (pq_ac trivial (pq_ac trivial (pq_ac trivial (pq_ac kV_9_75 (pq_ac trivial (pq_ac trivial (pq_ac trivial (pq_ac trivial (pq_ac kV_9_124 (pq_ac trivial (pq_ac trivial (pq_ac trivial (pq_ac trivial (pq_ac trivial (pq_ac kF_9_30 (pq_ac trivial (pq_ac trivial (pq_ac trivial (pq_ac trivial (pq_ac trivial (pq_ac trivial (pq_ac kF_9_30 (pq_ac trivial (pq_ac trivial (pq_ac trivial (pq_ac trivial (pq_ac trivial (pq_ac trivial (pq_ac trivial (pq_ac kF_9_33 (pq_ac trivial (pq_ac trivial (pq_ac trivial (pq_ac trivial (pq_ac trivial (pq_ac trivial (pq_ac trivial (pq_ac trivial (pq_ac trivial (pq_ac trivial (pq_ac trivial (pq_ac trivial (pq_ac trivial (pq_ac trivial (pq_an)))))))))))))))))))))))))))))))))))))))))))))
set_option maxRecDepth 100000 in
theorem ck_146 : ∀ e ∈ ct_146, pq_ok "PursuitDeskModel" false e := pq_ac trivial (pq_ac kV_9_115 (pq_ac trivial (pq_ac kF_9_30 (pq_ac trivial (pq_ac kV_9_118 (pq_ac trivial (pq_ac trivial (pq_ac trivial (pq_ac trivial (pq_ac trivial (pq_ac trivial (pq_ac trivial (pq_ac kC_9_29 (pq_ac trivial (pq_ac trivial (pq_ac kF_9_33 (pq_ac trivial (pq_ac trivial (pq_ac trivial (pq_ac trivial (pq_ac trivial (pq_ac trivial (pq_ac trivial (pq_ac trivial (pq_ac trivial (pq_ac trivial (pq_ac trivial (pq_ac trivial (pq_ac trivial (pq_ac trivial (pq_ac trivial (pq_ac trivial (pq_ac kC_9_29 (pq_ac trivial (pq_ac trivial (pq_ac trivial (pq_ac trivial (pq_ac kF_9_30 (pq_ac trivial (pq_ac trivial (pq_ac trivial (pq_ac trivial (pq_ac trivial (pq_ac trivial (pq_ac trivial (pq_ac trivial (pq_ac trivial (pq_ac kF_9_30 (pq_ac trivial (pq_ac trivial (pq_ac trivial (pq_ac trivial (pq_ac trivial (pq_ac kF_9_33 (pq_ac trivial (pq_ac trivial (pq_ac trivial (pq_ac trivial (pq_ac kF_9_33 (pq_ac trivial (pq_ac trivial (pq_ac trivial (pq_ac trivial (pq_ac kF_9_36 (pq_ac trivial (pq_ac trivial (pq_ac trivial (pq_ac trivial (pq_ac trivial (pq_ac trivial (pq_ac trivial (pq_ac trivial (pq_ac trivial (pq_ac trivial (pq_ac trivial (pq_ac trivial (pq_ac kF_9_36 (pq_ac trivial (pq_ac trivial (pq_ac trivial (pq_ac trivial (pq_ac trivial (pq_ac trivial (pq_ac trivial (pq_ac trivial (pq_ac trivial (pq_ac trivial (pq_ac trivial (pq_ac kF_9_7 (pq_ac trivial (pq_ac trivial (pq_ac kS_9_109 (pq_ac trivial (pq_ac trivial (pq_ac trivial (pq_ac kF_9_36 (pq_ac trivial (pq_ac trivial (pq_ac trivial (pq_ac trivial (pq_ac kF_9_7 (pq_ac trivial (pq_ac trivial (pq_ac kV_9_112 (pq_ac trivial (pq_ac trivial (pq_ac trivial (pq_ac trivial (pq_ac trivial (pq_ac trivial (pq_ac trivial (pq_ac kF_9_36 (pq_ac trivial (pq_ac trivial (pq_ac trivial (pq_ac trivial (pq_ac kF_9_7 (pq_ac trivial (pq_ac trivial (pq_ac kS_9_127 (pq_ac trivial (pq_ac trivial (pq_ac trivial (pq_ac trivial (pq_ac trivial (pq_ac kF_9_30 (pq_ac trivial (pq_ac trivial (pq_ac trivial (pq_ac trivial (pq_ac trivial (pq_ac kF_9_30 (pq_ac trivial (pq_ac trivial (pq_ac trivial (pq_ac trivial (pq_ac kF_9_30 (pq_ac trivial (pq_ac trivial (pq_ac trivial (pq_ac trivial (pq_ac trivial (pq_ac trivial (pq_ac trivial (pq_ac trivial (pq_ac trivial (pq_ac kF_9_33 (pq_ac trivial (pq_ac trivial (pq_ac trivial (pq_ac trivial (pq_ac kF_9_36 (pq_ac trivial (pq_ac trivial (pq_ac trivial (pq_ac trivial (pq_ac trivial (pq_ac trivial (pq_ac trivial (pq_ac trivial (pq_ac trivial (pq_ac trivial (pq_ac trivial (pq_ac trivial (pq_an)))))))))))))))))))))))))))))))))))))))))))))))))))))))))))))))))))))))))))))))))))))))))))))))))))))))))))))))))))))))))))))))))))))))))))))))))))))))))))))))))))))
set_option maxRecDepth 100000 in
theorem ck_147 : ∀ e ∈ ct_147, pq_ok "PursuitDeskModel" false e := pq_ac trivial (pq_ac trivial (pq_ac trivial (pq_ac trivial (pq_ac trivial (pq_ac trivial (pq_ac trivial (pq_ac trivial (pq_ac trivial (pq_ac trivial (pq_ac trivial (pq_ac trivial (pq_ac trivial (pq_ac trivial (pq_ac trivial (pq_ac trivial (pq_ac trivial (pq_ac trivial (pq_ac trivial (pq_ac trivial (pq_ac trivial (pq_ac trivial (pq_ac trivial (pq_ac trivial (pq_ac trivial (pq_ac trivial (pq_ac trivial (pq_ac trivial (pq_ac trivial (pq_ac trivial (pq_ac trivial (pq_ac trivial (pq_ac trivial (pq_ac trivial (pq_ac trivial (pq_ac trivial (pq_an))))))))))))))))))))))))))))))))))))
set_option maxRecDepth 100000 in
theorem ck_148 : ∀ e ∈ ct_148, pq_ok "PursuitDeskModel" false e := pq_ac trivial (pq_ac trivial (pq_ac trivial (pq_ac trivial (pq_ac trivial (pq_ac trivial (pq_ac trivial (pq_ac kV_9_130 (pq_ac trivial (pq_ac trivial (pq_ac trivial (pq_ac trivial (pq_ac trivial (pq_ac trivial (pq_ac trivial (pq_an)))))))))))))))
set_option maxRecDepth 100000 in
theorem ck_149 : ∀ e ∈ ct_149, pq_ok "PursuitDeskModel" false e := pq_ac trivial (pq_ac kV_9_115 (pq_ac trivial (pq_ac trivial (pq_ac trivial (pq_ac trivial (pq_ac trivial (pq_ac trivial (pq_ac kS_9_109 (pq_ac trivial (pq_ac trivial (pq_ac kV_9_49 (pq_ac trivial (pq_ac trivial (pq_ac trivial (pq_ac trivial (pq_ac trivial (pq_ac trivial (pq_ac trivial (pq_ac trivial (pq_ac trivial (pq_ac trivial (pq_ac trivial (pq_ac trivial (pq_ac trivial (pq_ac trivial (pq_ac trivial (pq_ac trivial (pq_ac trivial (pq_ac trivial (pq_ac trivial (pq_ac trivial (pq_ac trivial (pq_ac trivial (pq_ac kF_9_7 (pq_ac trivial (pq_ac trivial (pq_ac trivial (pq_ac trivial (pq_ac trivial (pq_ac trivial (pq_ac trivial (pq_ac trivial (pq_ac trivial (pq_ac trivial (pq_ac trivial (pq_ac trivial (pq_ac trivial (pq_ac trivial (pq_ac trivial (pq_ac trivial (pq_ac kS_9_105 (pq_ac trivial (pq_ac trivial (pq_ac trivial (pq_ac trivial (pq_ac trivial (pq_ac trivial (pq_ac kF_9_30 (pq_ac trivial (pq_ac trivial (pq_ac trivial (pq_ac trivial (pq_ac kF_9_30 (pq_ac trivial (pq_ac trivial (pq_ac trivial (pq_ac trivial (pq_ac kF_9_36 (pq_ac trivial (pq_ac trivial (pq_ac trivial (pq_ac trivial (pq_ac trivial (pq_ac trivial (pq_ac trivial (pq_ac trivial (pq_ac trivial (pq_ac kV_9_121 (pq_ac trivial (pq_ac trivial (pq_ac trivial (pq_ac trivial (pq_ac trivial (pq_ac trivial (pq_ac kF_9_30 (pq_ac trivial (pq_ac trivial (pq_ac trivial (pq_an)))))))))))))))))))))))))))))))))))))))))))))))))))))))))))))))))))))))))))))))))))))))))
set_option maxRecDepth 100000 in
theorem ck_150 : ∀ e ∈ ct_150, pq_ok "PursuitDeskModel" false e := pq_ac trivial (pq_ac trivial (pq_ac trivial (pq_ac kS_9_45 (pq_ac trivial (pq_ac trivial (pq_ac trivial (pq_ac trivial (pq_ac trivial (pq_ac kV_9_130 (pq_ac trivial (pq_ac trivial (pq_ac trivial (pq_ac trivial (pq_ac trivial (pq_ac trivial (pq_ac trivial (pq_an)))))))))))))))))
set_option maxRecDepth 100000 in
theorem ck_151 : ∀ e ∈ ct_151, pq_ok "PursuitDeskModel" false e := pq_ac trivial (pq_ac trivial (pq_ac trivial (pq_ac kS_9_45 (pq_ac trivial (pq_ac trivial (pq_ac trivial (pq_ac trivial (pq_ac kF_9_133 (pq_ac trivial (pq_ac trivial (pq_ac trivial (pq_ac trivial (pq_ac trivial (pq_ac kF_9_16 (pq_ac trivial (pq_ac kF_9_133 (pq_ac trivial (pq_ac trivial (pq_ac trivial (pq_ac trivial (pq_ac trivial (pq_ac kF_9_133 (pq_ac trivial (pq_ac trivial (pq_ac kQ_9_133 (pq_ac trivial (pq_ac kF_9_133 (pq_ac trivial (pq_an)))))))))))))))))))))))))))))
set_option maxRecDepth 100000 in
theorem ck_152 : ∀ e ∈ ct_152, pq_ok "PursuitDeskModel" false e := pq_ac trivial (pq_ac kF_9_133 (pq_ac trivial (pq_ac trivial (pq_ac trivial (pq_ac kQ_9_133 (pq_ac trivial (pq_ac trivial (pq_an))))))))
set_option maxRecDepth 100000 in
theorem ck_153 : ∀ e ∈ ct_153, pq_ok "PursuitDeskModel" false e := pq_ac trivial (pq_ac trivial (pq_ac trivial (pq_ac trivial (pq_ac trivial (pq_ac trivial (pq_ac kF_9_39 (pq_ac trivial (pq_ac trivial (pq_ac trivial (pq_ac trivial (pq_ac trivial (pq_ac trivial (pq_ac trivial (pq_ac trivial (pq_ac trivial (pq_ac kF_9_133 (pq_ac trivial (pq_ac trivial (pq_ac trivial (pq_ac kV_9_136 (pq_ac trivial (pq_ac trivial (pq_ac trivial (pq_ac trivial (pq_ac trivial (pq_ac trivial (pq_ac trivial (pq_ac kV_9_136 (pq_ac trivial (pq_ac trivial (pq_ac trivial (pq_ac trivial (pq_ac trivial (pq_ac kV_9_60 (pq_ac trivial (pq_ac trivial (pq_ac trivial (pq_ac trivial (pq_ac trivial (pq_ac kV_9_136 (pq_ac trivial (pq_ac trivial (pq_ac trivial (pq_ac trivial (pq_ac kV_9_60 (pq_ac trivial (pq_ac trivial (pq_ac trivial (pq_ac trivial (pq_ac trivial (pq_ac trivial (pq_ac trivial (pq_ac trivial (pq_ac kV_9_136 (pq_ac trivial (pq_ac trivial (pq_ac trivial (pq_ac trivial (pq_ac trivial (pq_ac trivial (pq_ac trivial (pq_ac trivial (pq_ac trivial (pq_ac kF_9_39 (pq_ac trivial (pq_ac trivial (pq_ac trivial (pq_ac trivial (pq_ac trivial (pq_ac trivial (pq_ac trivial (pq_ac trivial (pq_ac trivial (pq_ac trivial (pq_ac trivial (pq_ac kF_9_39 (pq_ac trivial (pq_ac trivial (pq_ac trivial (pq_ac trivial (pq_ac trivial (pq_ac trivial (pq_ac trivial (pq_ac trivial (pq_ac trivial (pq_ac kF_9_39 (pq_ac trivial (pq_ac trivial (pq_ac trivial (pq_ac trivial (pq_ac trivial (pq_ac trivial (pq_ac trivial (pq_ac trivial (pq_ac trivial (pq_ac trivial (pq_ac trivial (pq_ac trivial (pq_an)))))))))))))))))))))))))))))))))))))))))))))))))))))))))))))))))))))))))))))))))))))))))))))))))))
set_option maxRecDepth 100000 in
theorem ck_154 : ∀ e ∈ ct_154, pq_ok "PursuitDeskModel" false e := pq_ac trivial (pq_ac trivial (pq_ac kF_9_133 (pq_ac trivial (pq_ac trivial (pq_ac kF_9_16 (pq_ac trivial (pq_ac trivial (pq_ac trivial (pq_ac trivial (pq_ac trivial (pq_an)))))))))))
set_option maxRecDepth 100000 in
theorem ck_155 : ∀ e ∈ ct_155, pq_ok "PursuitDeskModel" false e := pq_ac trivial (pq_ac kV_9_139 (pq_ac trivial (pq_ac trivial (pq_ac trivial (pq_ac trivial (pq_ac trivial (pq_ac kV_9_57 (pq_ac trivial (pq_ac trivial (pq_ac trivial (pq_ac trivial (pq_ac trivial (pq_ac trivial (pq_ac kF_9_7 (pq_ac trivial (pq_ac trivial (pq_ac trivial (pq_ac trivial (pq_ac kF_9_39 (pq_ac trivial (pq_ac trivial (pq_ac trivial (pq_ac trivial (pq_ac trivial (pq_ac trivial (pq_ac trivial (pq_ac trivial (pq_ac trivial (pq_ac kF_9_7 (pq_ac trivial (pq_ac trivial (pq_ac trivial (pq_ac trivial (pq_ac kF_9_7 (pq_ac trivial (pq_ac trivial (pq_ac trivial (pq_ac trivial (pq_ac kF_9_7 (pq_ac trivial (pq_ac trivial (pq_ac trivial (pq_ac trivial (pq_ac trivial (pq_ac trivial (pq_ac trivial (pq_ac trivial (pq_ac kF_9_7 (pq_ac trivial (pq_ac trivial (pq_ac kF_9_7 (pq_ac trivial (pq_ac trivial (pq_ac trivial (pq_ac trivial (pq_ac kV_9_42 (pq_ac trivial (pq_ac kV_9_102 (pq_ac trivial (pq_an))))))))))))))))))))))))))))))))))))))))))))))))))))))))))))
set_option maxRecDepth 100000 in
theorem ck_156 : ∀ e ∈ ct_156, pq_ok "PursuitDeskLaw" false e := pq_ac kN_10_7 (pq_ac trivial (pq_ac kI_10_9 (pq_ac trivial (pq_ac kN_10_10 (pq_ac trivial (pq_ac kI_10_12 (pq_ac trivial (pq_ac trivial (pq_ac trivial (pq_ac trivial (pq_ac trivial (pq_ac trivial (pq_ac trivial (pq_ac trivial (pq_ac trivial (pq_ac trivial (pq_ac trivial (pq_ac trivial (pq_ac trivial (pq_ac trivial (pq_ac trivial (pq_ac trivial (pq_ac trivial (pq_ac trivial (pq_ac trivial (pq_ac trivial (pq_ac trivial (pq_ac kV_10_13 (pq_ac trivial (pq_ac trivial (pq_ac trivial (pq_ac trivial (pq_ac trivial (pq_ac trivial (pq_ac kV_10_17 (pq_ac trivial (pq_ac trivial (pq_ac trivial (pq_ac trivial (pq_ac trivial (pq_ac trivial (pq_ac trivial (pq_ac trivial (pq_ac trivial (pq_ac trivial (pq_ac trivial (pq_ac trivial (pq_ac trivial (pq_ac trivial (pq_ac trivial (pq_ac trivial (pq_ac trivial (pq_ac trivial (pq_ac trivial (pq_ac kV_10_18 (pq_ac trivial (pq_ac trivial (pq_ac trivial (pq_ac trivial (pq_ac trivial (pq_ac trivial (pq_ac trivial (pq_ac trivial (pq_ac trivial (pq_ac trivial (pq_ac trivial (pq_ac trivial (pq_ac trivial (pq_ac trivial (pq_ac trivial (pq_ac trivial (pq_ac kV_10_22 (pq_ac trivial (pq_ac trivial (pq_ac trivial (pq_ac trivial (pq_ac kV_10_23 (pq_ac trivial (pq_ac kV_10_27 (pq_ac trivial (pq_ac trivial (pq_ac trivial (pq_ac trivial (pq_ac trivial (pq_ac trivial (pq_ac trivial (pq_ac trivial (pq_ac trivial (pq_ac kV_10_28 (pq_ac trivial (pq_ac trivial (pq_ac trivial (pq_ac trivial (pq_ac trivial (pq_ac trivial (pq_ac kV_10_31 (pq_ac trivial (pq_ac trivial (pq_ac trivial (pq_ac trivial (pq_ac kV_10_32 (pq_ac trivial (pq_ac kV_10_35 (pq_ac trivial (pq_ac trivial (pq_ac trivial (pq_ac trivial (pq_ac trivial (pq_ac trivial (pq_ac trivial (pq_ac trivial (pq_ac trivial (pq_ac trivial (pq_ac trivial (pq_ac trivial (pq_ac trivial (pq_ac trivial (pq_ac kV_10_36 (pq_ac trivial (pq_ac trivial (pq_ac trivial (pq_ac trivial (pq_ac trivial (pq_ac trivial (pq_ac trivial (pq_ac trivial (pq_ac trivial (pq_ac trivial (pq_ac trivial (pq_ac kV_10_40 (pq_ac trivial (pq_ac trivial (pq_ac trivial (pq_ac trivial (pq_ac kV_10_41 (pq_ac trivial (pq_ac kV_10_44 (pq_ac trivial (pq_ac trivial (pq_ac trivial (pq_ac trivial (pq_ac kV_10_45 (pq_ac trivial (pq_ac kV_10_48 (pq_ac trivial (pq_ac trivial (pq_ac trivial (pq_ac trivial (pq_ac trivial (pq_ac trivial (pq_ac trivial (pq_ac trivial (pq_ac trivial (pq_ac kV_10_49 (pq_ac trivial (pq_ac trivial (pq_ac trivial (pq_ac trivial (pq_ac trivial (pq_ac trivial (pq_ac kV_10_52 (pq_ac trivial (pq_ac trivial (pq_ac trivial (pq_ac trivial (pq_ac trivial (pq_ac trivial (pq_ac trivial (pq_ac trivial (pq_ac trivial (pq_ac trivial (pq_ac trivial (pq_ac trivial (pq_ac trivial (pq_ac trivial (pq_ac kV_10_53 (pq_ac trivial (pq_ac trivial (pq_ac trivial (pq_ac trivial (pq_ac trivial (pq_ac trivial (pq_ac trivial (pq_ac trivial (pq_ac trivial (pq_ac trivial (pq_ac trivial (pq_ac kV_10_56 (pq_ac trivial (pq_ac trivial (pq_ac trivial (pq_ac trivial (pq_ac kV_10_57 (pq_ac trivial (pq_ac kV_10_60 (pq_ac trivial (pq_ac trivial (pq_ac trivial (pq_ac trivial (pq_ac kV_10_61 (pq_ac trivial (pq_ac kV_10_64 (pq_ac trivial (pq_ac trivial (pq_ac trivial (pq_ac trivial (pq_ac trivial (pq_ac trivial (pq_ac trivial (pq_ac trivial (pq_ac trivial (pq_ac kV_10_65 (pq_ac trivial (pq_ac trivial (pq_ac trivial (pq_ac trivial (pq_ac trivial (pq_ac trivial (pq_ac kV_10_68 (pq_ac trivial (pq_ac trivial (pq_ac trivial (pq_ac trivial (pq_ac trivial (pq_ac trivial (pq_ac trivial (pq_ac trivial (pq_ac trivial (pq_ac kV_10_69 (pq_ac trivial (pq_ac trivial (pq_ac trivial (pq_ac trivial (pq_ac trivial (pq_ac trivial (pq_ac kV_10_72 (pq_ac trivial (pq_ac trivial (pq_ac trivial (pq_ac trivial (pq_ac trivial (pq_ac trivial (pq_ac trivial (pq_ac trivial (pq_ac trivial (pq_ac trivial (pq_ac trivial (pq_ac trivial (pq_ac trivial (pq_ac trivial (pq_ac kV_10_73 (pq_ac trivial (pq_ac trivial (pq_ac trivial (pq_ac trivial (pq_ac trivial (pq_ac trivial (pq_ac trivial (pq_ac trivial (pq_ac trivial (pq_ac trivial (pq_ac trivial (pq_ac kV_10_76 (pq_ac trivial (pq_ac trivial (pq_ac trivial (pq_ac trivial (pq_ac trivial (pq_ac trivial (pq_ac trivial (pq_ac trivial (pq_ac trivial (pq_ac kV_10_77 (pq_ac trivial (pq_ac trivial (pq_ac trivial (pq_ac trivial (pq_ac trivial (pq_ac trivial (pq_ac kV_10_80 (pq_ac trivial (pq_ac trivial (pq_ac trivial (pq_ac trivial (pq_ac trivial (pq_ac trivial (pq_ac trivial (pq_ac trivial (pq_ac trivial (pq_ac kV_10_81 (pq_ac trivial (pq_ac trivial (pq_ac trivial (pq_ac trivial (pq_ac trivial (pq_ac trivial (pq_ac kV_10_84 (pq_ac trivial (pq_ac trivial (pq_ac trivial (pq_ac trivial (pq_ac trivial (pq_ac trivial (pq_ac trivial (pq_ac trivial (pq_ac trivial (pq_ac trivial (pq_ac trivial (pq_ac trivial (pq_ac trivial (pq_ac trivial (pq_ac kV_10_85 (pq_ac trivial (pq_ac trivial (pq_ac trivial (pq_ac trivial (pq_ac trivial (pq_ac trivial (pq_ac trivial (pq_ac trivial (pq_ac trivial (pq_ac trivial (pq_ac trivial (pq_ac kV_10_88 (pq_ac trivial (pq_ac trivial (pq_ac trivial (pq_ac trivial (pq_ac trivial (pq_ac trivial (pq_ac trivial (pq_ac trivial (pq_ac trivial (pq_ac kV_10_89 (pq_ac trivial (pq_ac trivial (pq_ac trivial (pq_ac trivial (pq_ac trivial (pq_ac trivial (pq_ac kV_10_92 (pq_ac trivial (pq_ac trivial (pq_ac trivial (pq_ac trivial (pq_ac kV_10_93 (pq_ac trivial (pq_ac kV_10_96 (pq_ac trivial (pq_ac trivial (pq_ac trivial (pq_ac trivial (pq_ac kV_10_97 (pq_ac trivial (pq_ac kV_10_100 (pq_ac trivial (pq_ac trivial (pq_ac trivial (pq_ac trivial (pq_ac trivial (pq_ac trivial (pq_ac trivial (pq_ac trivial (pq_ac trivial (pq_ac trivial (pq_ac trivial (pq_ac trivial (pq_ac trivial (pq_ac trivial (pq_ac kV_10_101 (pq_ac trivial (pq_ac trivial (pq_ac trivial (pq_ac trivial (pq_ac trivial (pq_ac trivial (pq_ac trivial (pq_ac trivial (pq_ac trivial (pq_ac trivial (pq_ac trivial (pq_ac kV_10_104 (pq_ac trivial (pq_ac trivial (pq_ac trivial (pq_ac trivial (pq_ac kV_10_105 (pq_ac trivial (pq_ac kV_10_108 (pq_ac trivial (pq_ac trivial (pq_ac trivial (pq_ac trivial (pq_ac kV_10_109 (pq_ac trivial (pq_ac kV_10_112 (pq_ac trivial (pq_ac trivial (pq_ac trivial (pq_ac trivial (pq_ac kV_10_113 (pq_ac trivial (pq_ac kV_10_116 (pq_ac trivial (pq_ac trivial (pq_ac trivial (pq_ac trivial (pq_ac trivial (pq_ac trivial (pq_ac trivial (pq_ac trivial (pq_ac trivial (pq_ac kV_10_117 (pq_ac trivial (pq_ac trivial (pq_ac trivial (pq_ac trivial (pq_ac trivial (pq_ac trivial (pq_ac kV_10_120 (pq_ac trivial (pq_ac trivial (pq_ac trivial (pq_ac trivial (pq_ac trivial (pq_ac trivial (pq_ac trivial (pq_ac trivial (pq_ac trivial (pq_ac kV_10_121 (pq_ac trivial (pq_ac trivial (pq_ac trivial (pq_ac trivial (pq_ac trivial (pq_ac trivial (pq_ac kV_10_124 (pq_ac trivial (pq_ac trivial (pq_ac trivial (pq_ac trivial (pq_ac kV_10_125 (pq_ac trivial (pq_ac kV_10_128 (pq_ac trivial (pq_ac trivial (pq_ac trivial (pq_ac trivial (pq_ac kV_10_129 (pq_ac trivial (pq_ac kV_10_132 (pq_ac trivial (pq_ac trivial (pq_ac trivial (pq_ac trivial (pq_ac trivial (pq_ac trivial (pq_ac trivial (pq_an)))))))))))))))))))))))))))))))))))))))))))))))))))))))))))))))))))))))))))))))))))))))))))))))))))))))))))))))))))))))))))))))))))))))))))))))))))))))))))))))))))))))))))))))))))))))))))))))))))))))))))))))))))))))))))))))))))))))))))))))))))))))))))))))))))))))))))))))))))))))))))))))))))))))))))))))))))))))))))))))))))))))))))))))))))))))))))))))))))))))))))))))))))))))))))))))))))))))))))))))))))))))))))))))))))))))))))))))))))))))))))))))))))))))))))
end
section
/-! The small machine's steps are the real machine's: locals, stack, constants, arithmetic. -/
def pq_ad (h0 b q : Nat) : Nat := if q = 0 then b else h0 + (q - 1)
def pq_rv (h0 b : Nat) (v : Value) : Value := match v with
  | .ref q => .ref (pq_ad h0 b q)
  | v => v
theorem pq_rv_cat (h0 b : Nat) (v : Value) : (pq_rv h0 b v).category = v.category := by cases v <;> rfl
theorem pq_rv_cats (h0 b : Nat) (st : List Value) : ((st.map (pq_rv h0 b)).map fun v => v.category).sum = pq_cat st := by
  unfold pq_cat
  rw [List.map_map]
  congr 1
  exact List.map_congr_left fun v _ => pq_rv_cat h0 b v
def pq_Lr (h0 b : Nat) (ls : Array Slot) (nL : Nat) (l : pq_L) : Prop := ls.size = nL ∧ lv_wf ls ∧ l.length = nL ∧ ∀ (i : Nat) (v : Value), l[i]? = some (some v) → ls[i]? = some (.val (pq_rv h0 b v))
def pq_pr (h0 b : Nat) : Nat → pq_L → List (Nat × Value)
  | _, [] => []
  | i, none :: r => pq_pr h0 b (i + 1) r
  | i, some v :: r => (i, pq_rv h0 b v) :: pq_pr h0 b (i + 1) r
theorem pq_pr_mem {h0 b : Nat} {q : Nat × Value} : ∀ (l : pq_L) (i : Nat), q ∈ pq_pr h0 b i l → ∃ (n : Nat) (v : Value), q = (i + n, pq_rv h0 b v) ∧ l[n]? = some (some v) := by
  intro l
  induction l with
  | nil => intro i h; exact absurd h List.not_mem_nil
  | cons a r ih =>
    intro i h
    cases a with
    | none =>
      obtain ⟨n, v, e, h2⟩ := ih (i + 1) h
      exact ⟨n + 1, v, by rw [e]; congr 1; omega, by simpa using h2⟩
    | some w =>
      rcases List.mem_cons.mp h with e | h
      · exact ⟨0, w, by rw [e]; rfl, rfl⟩
      · obtain ⟨n, v, e, h2⟩ := ih (i + 1) h
        exact ⟨n + 1, v, by rw [e]; congr 1; omega, by simpa using h2⟩
theorem pq_pr_of {h0 b : Nat} {v : Value} : ∀ (l : pq_L) (i n : Nat), l[n]? = some (some v) → (i + n, pq_rv h0 b v) ∈ pq_pr h0 b i l := by
  intro l
  induction l with
  | nil => intro i n h; simp at h
  | cons a r ih =>
    intro i n h
    cases n with
    | zero =>
      have : a = some v := by simpa using h
      subst this
      exact List.mem_cons_self
    | succ n =>
      have h2 : r[n]? = some (some v) := by simpa using h
      have := ih (i + 1) n h2
      rw [show i + 1 + n = i + (n + 1) by omega] at this
      cases a with
      | none => exact this
      | some w => exact List.mem_cons_of_mem _ this
theorem pq_Lr.has {h0 b nL : Nat} {ls : Array Slot} {l : pq_L} (h : pq_Lr h0 b ls nL l) : lv_has ls nL (pq_pr h0 b 0 l) := by
  refine ⟨h.1, h.2.1, fun q hq => ?_⟩
  obtain ⟨n, v, rfl, h2⟩ := pq_pr_mem l 0 hq
  simpa using h.2.2.2 n v h2
theorem pq_put0_eq : ∀ (l : pq_L) (i : Nat) (v : Option Value), pq_put0 l i v = if i < l.length then some (l.set i v) else none := by
  intro l
  induction l with
  | nil => intro i v; simp [pq_put0]
  | cons a r ih =>
    intro i v
    cases i with
    | zero => simp [pq_put0]
    | succ i =>
      unfold pq_put0
      rw [ih i v]
      by_cases h : i < r.length
      · rw [if_pos h, if_pos (by simpa using h)]; rfl
      · rw [if_neg h, if_neg (by simpa using h)]
theorem pq_cut0_eq (l : pq_L) (i : Nat) : pq_cut0 l i = some (pq_cut l i) := by
  unfold pq_cut0 pq_cut
  split
  · rfl
  · rename_i k
    split
    · rename_i x hx
      rw [pq_put0_eq, if_pos (List.getElem?_eq_some_iff.mp hx).1]
    · rename_i x hx
      rw [pq_put0_eq, if_pos (List.getElem?_eq_some_iff.mp hx).1]
    · rfl
theorem pq_cut_len (l : pq_L) (i : Nat) : (pq_cut l i).length = l.length := by
  unfold pq_cut
  split
  · rfl
  · split <;> simp
theorem pq_st1_eq (l : pq_L) (i : Nat) (v : Value) : pq_st1 l i v = if i < l.length then some ((pq_cut l i).set i (some v)) else none := by
  unfold pq_st1
  rw [pq_cut0_eq]
  show pq_put0 (pq_cut l i) i (some v) = _
  rw [pq_put0_eq, pq_cut_len]
theorem pq_st2_eq (l : pq_L) (i : Nat) (v : Value) : pq_st2 l i v = if i + 1 < l.length then some (((pq_cut l i).set i (some v)).set (i + 1) none) else none := by
  unfold pq_st2
  rw [pq_cut0_eq]
  show (match pq_put0 (pq_cut l i) i (some v) with | some l2 => pq_put0 l2 (i + 1) none | none => none) = _
  rw [pq_put0_eq, pq_cut_len]
  by_cases h : i < l.length
  · rw [if_pos h]
    show pq_put0 ((pq_cut l i).set i (some v)) (i + 1) none = _
    rw [pq_put0_eq, List.length_set, pq_cut_len]
  · rw [if_neg h, if_neg (by omega)]
theorem pq_cut_at {l : pq_L} {i k : Nat} {w : Value} (h : (pq_cut l i)[k]? = some (some w)) : l[k]? = some (some w) ∧ ¬ (k + 1 = i ∧ w.category = 2) := by
  unfold pq_cut at h
  split at h
  · exact ⟨h, by omega⟩
  · rename_i n
    have key : ∀ (h : (l.set n none)[k]? = some (some w)), l[k]? = some (some w) ∧ ¬ (k + 1 = n + 1 ∧ w.category = 2) := by
      intro h
      rw [List.getElem?_set] at h
      split at h
      · split at h
        · cases h
        · cases h
      · rename_i hne
        exact ⟨h, by omega⟩
    split at h
    · exact key h
    · exact key h
    · rename_i h1 h2
      refine ⟨h, fun q => ?_⟩
      have hk : k = n := by omega
      subst hk
      cases w <;> simp [Value.category] at q
      · exact h1 _ h
      · exact h2 _ h
theorem pq_st1_ok {h0 b nL i : Nat} {ls ls' : Array Slot} {l l' : pq_L} {v : Value} (h : pq_Lr h0 b ls nL l) (hs : pq_st1 l i v = some l')
    (h' : lv_has ls' nL ((i, pq_rv h0 b v) :: (pq_pr h0 b 0 l).filter (fun q => !(q.1 == i) && !(q.1 + 1 == i && q.2.category == 2)))) : pq_Lr h0 b ls' nL l' := by
  rw [pq_st1_eq] at hs
  split at hs
  · cases hs
    refine ⟨h'.1, h'.2.1, by rw [List.length_set, pq_cut_len]; exact h.2.2.1, fun k w hk => ?_⟩
    rw [List.getElem?_set] at hk
    split at hk
    · rename_i e
      subst e
      split at hk
      · cases hk
        exact h'.2.2 _ List.mem_cons_self
      · cases hk
    · rename_i hne
      obtain ⟨h1, h2⟩ := pq_cut_at hk
      refine h'.2.2 (k, pq_rv h0 b w) (List.mem_cons_of_mem _ (List.mem_filter.mpr ⟨by simpa using pq_pr_of l 0 k h1, ?_⟩))
      have h3 : ¬ k = i := fun q => hne q.symm
      simp only [pq_rv_cat]
      by_cases hq : k + 1 = i
      · have h4 : ¬ w.category = 2 := fun q => h2 ⟨hq, q⟩
        simp [h3, hq, h4]
      · simp [h3, hq]
  · cases hs
theorem pq_st2_ok {h0 b nL i : Nat} {ls ls' : Array Slot} {l l' : pq_L} {v : Value} (h : pq_Lr h0 b ls nL l) (hs : pq_st2 l i v = some l')
    (h' : lv_has ls' nL ((i, pq_rv h0 b v) :: (pq_pr h0 b 0 l).filter (fun q => !(q.1 == i) && (!(q.1 == i + 1) && !(q.1 + 1 == i && q.2.category == 2))))) : pq_Lr h0 b ls' nL l' := by
  rw [pq_st2_eq] at hs
  split at hs
  · cases hs
    refine ⟨h'.1, h'.2.1, by rw [List.length_set, List.length_set, pq_cut_len]; exact h.2.2.1, fun k w hk => ?_⟩
    rw [List.getElem?_set] at hk
    split at hk
    · split at hk <;> cases hk
    · rename_i hne2
      rw [List.getElem?_set] at hk
      split at hk
      · rename_i e
        subst e
        split at hk
        · cases hk
          exact h'.2.2 _ List.mem_cons_self
        · cases hk
      · rename_i hne
        obtain ⟨h1, h2⟩ := pq_cut_at hk
        refine h'.2.2 (k, pq_rv h0 b w) (List.mem_cons_of_mem _ (List.mem_filter.mpr ⟨by simpa using pq_pr_of l 0 k h1, ?_⟩))
        have h3 : ¬ k = i := fun q => hne q.symm
        have h5 : ¬ k = i + 1 := fun q => hne2 q.symm
        simp only [pq_rv_cat]
        by_cases hq : k + 1 = i
        · have h4 : ¬ w.category = 2 := fun q => h2 ⟨hq, q⟩
          simp [h3, h5, hq, h4]
        · simp [h3, h5, hq]
  · cases hs
theorem pq_nn {α : Type} {x : α} {P : Prop} (h : (none : Option α) = some x) : P := by cases h
theorem pq_i1_eq {st : List Value} {x : Int32} {r : List Value} (h : pq_i1 st = some (x, r)) : st = .int x :: r := by
  unfold pq_i1 at h; split at h <;> cases h; rfl
theorem pq_i2_eq {st : List Value} {x y : Int32} {r : List Value} (h : pq_i2 st = some (x, y, r)) : st = .int y :: .int x :: r := by
  unfold pq_i2 at h; split at h <;> cases h; rfl
theorem pq_l1_eq {st : List Value} {x : Int64} {r : List Value} (h : pq_l1 st = some (x, r)) : st = .long x :: r := by
  unfold pq_l1 at h; split at h <;> cases h; rfl
theorem pq_l2_eq {st : List Value} {x y : Int64} {r : List Value} (h : pq_l2 st = some (x, y, r)) : st = .long y :: .long x :: r := by
  unfold pq_l2 at h; split at h <;> cases h; rfl
theorem pq_li_eq {st : List Value} {x : Int64} {y : Int32} {r : List Value} (h : pq_li st = some (x, y, r)) : st = .int y :: .long x :: r := by
  unfold pq_li at h; split at h <;> cases h; rfl
theorem pq_ld_at {l : pq_L} {i : Nat} {v : Value} (h : pq_ld l i = some v) : l[i]? = some (some v) := by
  unfold pq_ld at h; split at h
  · rename_i w e; cases h; exact e
  · cases h
theorem pq_st1_lt {l l' : pq_L} {i : Nat} {v : Value} (h : pq_st1 l i v = some l') : i < l.length := by
  rw [pq_st1_eq] at h; split at h
  · assumption
  · cases h
theorem pq_st2_lt {l l' : pq_L} {i : Nat} {v : Value} (h : pq_st2 l i v = some l') : i + 1 < l.length := by
  rw [pq_st2_eq] at h; split at h
  · assumption
  · cases h
section PQ1
variable {p : Program} {l : Launch} {e : Env} {R : Room} {s : State} {m : MethodId} {args : Array Value} {below : List Frame} {meth : Method} {c : Code} {H : Heap} {locs : List Loc} {cells slots : Nat} {Q : State → Prop}
  {cc : ByteArray} {h0 b nL pc nx na : Nat} {lk : List (Nat × Nat)} {own : String} {ini : Bool} {ret : Option FieldType} {ls : Array Slot} {lo lo' : pq_L} {st st' : List Value} {v : Value}
theorem pq_s_il (hx : p.tables.exec = Jvm.exec) (hb : c.code = cc) {i n : Nat} (h : pq_il lo i st = some (lo', st')) (hl : pq_Lr h0 b ls nL lo)
    (row : ∀ {x : Int32}, ls[i]? = some (.val (.int x)) → W p l e R s m args below meth c H locs cells slots Q (F0 m (pc + n) ls (.int x :: st.map (pq_rv h0 b))) → W p l e R s m args below meth c H locs cells slots Q (F0 m pc ls (st.map (pq_rv h0 b))))
    (k : ∀ ls', pq_Lr h0 b ls' nL lo' → W p l e R s m args below meth c H locs cells slots Q (F0 m (pc + n) ls' (st'.map (pq_rv h0 b)))) :
    W p l e R s m args below meth c H locs cells slots Q (F0 m pc ls (st.map (pq_rv h0 b))) := by
  unfold pq_il at h
  split at h
  · rename_i x hq
    cases h
    exact row (hl.2.2.2 _ _ (pq_ld_at hq)) (k ls hl)
  · cases h
theorem pq_s_ll (hx : p.tables.exec = Jvm.exec) (hb : c.code = cc) {i n : Nat} (h : pq_ll lo i st = some (lo', st')) (hl : pq_Lr h0 b ls nL lo)
    (row : ∀ {x : Int64}, ls[i]? = some (.val (.long x)) → W p l e R s m args below meth c H locs cells slots Q (F0 m (pc + n) ls (.long x :: st.map (pq_rv h0 b))) → W p l e R s m args below meth c H locs cells slots Q (F0 m pc ls (st.map (pq_rv h0 b))))
    (k : ∀ ls', pq_Lr h0 b ls' nL lo' → W p l e R s m args below meth c H locs cells slots Q (F0 m (pc + n) ls' (st'.map (pq_rv h0 b)))) :
    W p l e R s m args below meth c H locs cells slots Q (F0 m pc ls (st.map (pq_rv h0 b))) := by
  unfold pq_ll at h
  split at h
  · rename_i x hq
    cases h
    exact row (hl.2.2.2 _ _ (pq_ld_at hq)) (k ls hl)
  · cases h
theorem pq_s_al (hx : p.tables.exec = Jvm.exec) (hb : c.code = cc) {i n : Nat} (h : pq_al lo i st = some (lo', st')) (hl : pq_Lr h0 b ls nL lo)
    (row : ∀ {x : Nat}, ls[i]? = some (.val (.ref x)) → W p l e R s m args below meth c H locs cells slots Q (F0 m (pc + n) ls (.ref x :: st.map (pq_rv h0 b))) → W p l e R s m args below meth c H locs cells slots Q (F0 m pc ls (st.map (pq_rv h0 b))))
    (k : ∀ ls', pq_Lr h0 b ls' nL lo' → W p l e R s m args below meth c H locs cells slots Q (F0 m (pc + n) ls' (st'.map (pq_rv h0 b)))) :
    W p l e R s m args below meth c H locs cells slots Q (F0 m pc ls (st.map (pq_rv h0 b))) := by
  unfold pq_al at h
  split at h
  · rename_i x hq
    cases h
    exact row (hl.2.2.2 _ _ (pq_ld_at hq)) (k ls hl)
  · cases h
theorem pq_s_is {i n : Nat} (h : pq_is lo i st = some (lo', st')) (hl : pq_Lr h0 b ls nL lo)
    (row : ∀ {x : Int32} {rest : List Value}, i < nL → (∀ ls' : Array Slot, lv_has ls' nL ((i, Value.int x) :: (pq_pr h0 b 0 lo).filter (fun q => !(q.1 == i) && !(q.1 + 1 == i && q.2.category == 2))) → W p l e R s m args below meth c H locs cells slots Q (F0 m (pc + n) ls' rest)) → W p l e R s m args below meth c H locs cells slots Q (F0 m pc ls (.int x :: rest)))
    (k : ∀ ls', pq_Lr h0 b ls' nL lo' → W p l e R s m args below meth c H locs cells slots Q (F0 m (pc + n) ls' (st'.map (pq_rv h0 b)))) :
    W p l e R s m args below meth c H locs cells slots Q (F0 m pc ls (st.map (pq_rv h0 b))) := by
  unfold pq_is at h
  split at h
  · rename_i x r
    split at h
    · rename_i l1 h1
      cases h
      exact row (x := x) (rest := st'.map (pq_rv h0 b)) (by rw [← hl.2.2.1]; exact pq_st1_lt h1) (fun ls' h' => k ls' (pq_st1_ok hl h1 h'))
    · cases h
  · cases h
theorem pq_s_as {i n : Nat} (h : pq_as lo i st = some (lo', st')) (hl : pq_Lr h0 b ls nL lo)
    (row : ∀ {x : Nat} {rest : List Value}, i < nL → (∀ ls' : Array Slot, lv_has ls' nL ((i, Value.ref x) :: (pq_pr h0 b 0 lo).filter (fun q => !(q.1 == i) && !(q.1 + 1 == i && q.2.category == 2))) → W p l e R s m args below meth c H locs cells slots Q (F0 m (pc + n) ls' rest)) → W p l e R s m args below meth c H locs cells slots Q (F0 m pc ls (.ref x :: rest)))
    (k : ∀ ls', pq_Lr h0 b ls' nL lo' → W p l e R s m args below meth c H locs cells slots Q (F0 m (pc + n) ls' (st'.map (pq_rv h0 b)))) :
    W p l e R s m args below meth c H locs cells slots Q (F0 m pc ls (st.map (pq_rv h0 b))) := by
  unfold pq_as at h
  split at h
  · rename_i x r
    split at h
    · rename_i l1 h1
      cases h
      exact row (x := pq_ad h0 b x) (rest := st'.map (pq_rv h0 b)) (by rw [← hl.2.2.1]; exact pq_st1_lt h1) (fun ls' h' => k ls' (pq_st1_ok hl h1 h'))
    · cases h
  · cases h
theorem pq_s_ls {i n : Nat} (h : pq_ls lo i st = some (lo', st')) (hl : pq_Lr h0 b ls nL lo)
    (row : ∀ {x : Int64} {rest : List Value}, i + 1 < nL → (∀ ls' : Array Slot, lv_has ls' nL ((i, Value.long x) :: (pq_pr h0 b 0 lo).filter (fun q => !(q.1 == i) && (!(q.1 == i + 1) && !(q.1 + 1 == i && q.2.category == 2)))) → W p l e R s m args below meth c H locs cells slots Q (F0 m (pc + n) ls' rest)) → W p l e R s m args below meth c H locs cells slots Q (F0 m pc ls (.long x :: rest)))
    (k : ∀ ls', pq_Lr h0 b ls' nL lo' → W p l e R s m args below meth c H locs cells slots Q (F0 m (pc + n) ls' (st'.map (pq_rv h0 b)))) :
    W p l e R s m args below meth c H locs cells slots Q (F0 m pc ls (st.map (pq_rv h0 b))) := by
  unfold pq_ls at h
  split at h
  · rename_i x r
    split at h
    · rename_i l1 h1
      cases h
      exact row (x := x) (rest := st'.map (pq_rv h0 b)) (by rw [← hl.2.2.1]; exact pq_st2_lt h1) (fun ls' h' => k ls' (pq_st2_ok hl h1 h'))
    · cases h
  · cases h
set_option maxHeartbeats 4000000 in
theorem pq_s1 (hx : p.tables.exec = Jvm.exec) (hb : c.code = cc) {ins : Instr} (h : pq_x1 ins v lo st = some (lo', st')) (hd : decode cc pc = .ok (ins, pq_len ins)) (hown : s.vm.findClass own = some m.cls) (hts : ∀ w ∈ lw_g, w.before args s = true)
    (hok : pq_ok own ini (pc, ins, nx, na, lk, v)) (hcb : pq_cb ret (pc, ins, nx, na, lk, v) = true) (hl : pq_Lr h0 b ls nL lo)
    (k : ∀ ls', pq_Lr h0 b ls' nL lo' → W p l e R s m args below meth c H locs cells slots Q (F0 m (pc + pq_len ins) ls' (st'.map (pq_rv h0 b)))) :
    W p l e R s m args below meth c H locs cells slots Q (F0 m pc ls (st.map (pq_rv h0 b))) := by
  cases ins
  all_goals try exact pq_nn h
  case iconst n =>
    have hv := of_decide_eq_true hcb
    cases h
    cases (show v = _ from hv)
    exact lv_iconst hx hb hd rfl (k ls hl)
  case bipush n =>
    have hv := of_decide_eq_true hcb
    cases h
    cases (show v = _ from hv)
    exact lv_bipush hx hb hd rfl (k ls hl)
  case sipush n =>
    have hv := of_decide_eq_true hcb
    cases h
    cases (show v = _ from hv)
    exact lv_sipush hx hb hd rfl (k ls hl)
  case lconst n =>
    have hv := of_decide_eq_true hcb
    cases h
    cases (show v = _ from hv)
    exact lv_lconst hx hb hd rfl (k ls hl)
  case ldc n =>
    obtain ⟨x, hv, hw⟩ := hok
    cases h
    cases (show v = _ from hv)
    exact lv_ldc hx hb hown (hts _ hw) hd (k ls hl)
  case ldc2_w n =>
    obtain ⟨x, hv, hw⟩ := hok
    cases h
    cases (show v = _ from hv)
    exact lv_ldc2 hx hb hown (hts _ hw) hd (k ls hl)
  case iload_n i => exact pq_s_il hx hb h hl (fun a b => lv_iload_n hx hb hd rfl a b) k
  case iload i => exact pq_s_il hx hb h hl (fun a b => lv_iload hx hb hd a b) k
  case lload_n i => exact pq_s_ll hx hb h hl (fun a b => lv_lload_n hx hb hd rfl a b) k
  case lload i => exact pq_s_ll hx hb h hl (fun a b => lv_lload hx hb hd a b) k
  case aload_n i => exact pq_s_al hx hb h hl (fun a b => lv_aload_n hx hb hd rfl a b) k
  case aload i => exact pq_s_al hx hb h hl (fun a b => lv_aload hx hb hd a b) k
  case istore_n i => exact pq_s_is h hl (fun a b => lv_istore_n hx hb hd rfl hl.has a rfl b) k
  case istore i => exact pq_s_is h hl (fun a b => lv_istore hx hb hd hl.has a rfl b) k
  case lstore_n i => exact pq_s_ls h hl (fun a b => lv_lstore_n hx hb hd rfl hl.has a rfl b) k
  case lstore i => exact pq_s_ls h hl (fun a b => lv_lstore hx hb hd hl.has a rfl b) k
  case astore_n i => exact pq_s_as h hl (fun a b => lv_astore_n hx hb hd rfl hl.has a rfl b) k
  case astore i => exact pq_s_as h hl (fun a b => lv_astore hx hb hd hl.has a rfl b) k
  case iinc i n =>
    have hv : v = .int (Int32.ofInt n) := of_decide_eq_true hcb
    subst hv
    have h2 : pq_inc lo i (.int (Int32.ofInt n)) st = some (lo', st') := h
    unfold pq_inc at h2
    split at h2
    · rename_i x n2 hq e2
      cases e2
      split at h2
      · rename_i l1 h3
        cases h2
        obtain ⟨q, hq2⟩ := List.getElem?_of_mem (by simpa using pq_pr_of (h0 := h0) (b := b) lo 0 i (pq_ld_at hq))
        exact lv_iinc hx hb hd hl.has hq2 rfl (by rw [← hl.2.2.1]; exact pq_st1_lt h3) rfl (fun ls' h' => k ls' (pq_st1_ok hl h3 h'))
      · cases h2
    · cases h2
  case iadd =>
    simp only [pq_x1] at h
    split at h
    · rename_i x y r h1
      cases pq_i2_eq h1
      cases h
      exact lv_iadd hx hb hd (k ls hl)
    · cases h
  case isub =>
    simp only [pq_x1] at h
    split at h
    · rename_i x y r h1
      cases pq_i2_eq h1
      cases h
      exact lv_isub hx hb hd (k ls hl)
    · cases h
  case imul =>
    simp only [pq_x1] at h
    split at h
    · rename_i x y r h1
      cases pq_i2_eq h1
      cases h
      exact lv_imul hx hb hd (k ls hl)
    · cases h
  case iand =>
    simp only [pq_x1] at h
    split at h
    · rename_i x y r h1
      cases pq_i2_eq h1
      cases h
      exact lv_iand hx hb hd (k ls hl)
    · cases h
  case ior =>
    simp only [pq_x1] at h
    split at h
    · rename_i x y r h1
      cases pq_i2_eq h1
      cases h
      exact lv_ior hx hb hd (k ls hl)
    · cases h
  case ixor =>
    simp only [pq_x1] at h
    split at h
    · rename_i x y r h1
      cases pq_i2_eq h1
      cases h
      exact lv_ixor hx hb hd (k ls hl)
    · cases h
  case ishl =>
    simp only [pq_x1] at h
    split at h
    · rename_i x y r h1
      cases pq_i2_eq h1
      cases h
      exact lv_ishl hx hb hd (k ls hl)
    · cases h
  case ishr =>
    simp only [pq_x1] at h
    split at h
    · rename_i x y r h1
      cases pq_i2_eq h1
      cases h
      exact lv_ishr hx hb hd (k ls hl)
    · cases h
  case ladd =>
    simp only [pq_x1] at h
    split at h
    · rename_i x y r h1
      cases pq_l2_eq h1
      cases h
      exact lv_ladd hx hb hd (k ls hl)
    · cases h
  case lsub =>
    simp only [pq_x1] at h
    split at h
    · rename_i x y r h1
      cases pq_l2_eq h1
      cases h
      exact lv_lsub hx hb hd (k ls hl)
    · cases h
  case land =>
    simp only [pq_x1] at h
    split at h
    · rename_i x y r h1
      cases pq_l2_eq h1
      cases h
      exact lv_land hx hb hd (k ls hl)
    · cases h
  case lor =>
    simp only [pq_x1] at h
    split at h
    · rename_i x y r h1
      cases pq_l2_eq h1
      cases h
      exact lv_lor hx hb hd (k ls hl)
    · cases h
  case lxor =>
    simp only [pq_x1] at h
    split at h
    · rename_i x y r h1
      cases pq_l2_eq h1
      cases h
      exact lv_lxor hx hb hd (k ls hl)
    · cases h
  case lcmp =>
    simp only [pq_x1] at h
    split at h
    · rename_i x y r h1
      cases pq_l2_eq h1
      cases h
      exact W.lcmp hx hb hd (k ls hl)
    · cases h
  case lshl =>
    simp only [pq_x1] at h
    split at h
    · rename_i x y r h1
      cases pq_li_eq h1
      cases h
      exact lv_lshl hx hb hd rfl (k ls hl)
    · cases h
  case lushr =>
    simp only [pq_x1] at h
    split at h
    · rename_i x y r h1
      cases pq_li_eq h1
      cases h
      exact lv_lushr hx hb hd rfl (k ls hl)
    · cases h
  case l2i =>
    simp only [pq_x1] at h
    split at h
    · rename_i x r h1
      cases pq_l1_eq h1
      cases h
      exact lv_l2i hx hb hd rfl (k ls hl)
    · cases h
  case i2c =>
    simp only [pq_x1] at h
    split at h
    · rename_i x r h1
      cases pq_i1_eq h1
      cases h
      exact lv_i2c hx hb hd rfl (k ls hl)
    · cases h
  case idiv =>
    simp only [pq_x1] at h
    split at h
    · rename_i x y r h1
      cases pq_i2_eq h1
      split at h
      · cases h
      · rename_i hne
        cases h
        exact lv_idiv hx hb hd hne (k ls hl)
    · cases h
  case irem =>
    simp only [pq_x1] at h
    split at h
    · rename_i x y r h1
      cases pq_i2_eq h1
      split at h
      · cases h
      · rename_i hne
        cases h
        exact lv_irem hx hb hd hne (k ls hl)
    · cases h
  case dup =>
    have h1 : pq_dup st = some st' ∧ lo = lo' := by
      simp only [pq_x1] at h
      split at h
      · rename_i r h1; cases h; exact ⟨h1, rfl⟩
      · cases h
    obtain ⟨h1, rfl⟩ := h1
    unfold pq_dup at h1
    split at h1
    · split at h1
      · rename_i w r2 hc
        cases h1
        exact lv_dup hx hb hd (by rw [pq_rv_cat]; exact hc) (k ls hl)
      · cases h1
    · cases h1
  case dup2 =>
    have h1 : pq_dup2 st = some st' ∧ lo = lo' := by
      simp only [pq_x1] at h
      split at h
      · rename_i r h1; cases h; exact ⟨h1, rfl⟩
      · cases h
    obtain ⟨h1, rfl⟩ := h1
    unfold pq_dup2 at h1
    split at h1
    · split at h1
      · rename_i w w2 r2 hc
        cases h1
        exact lv_dup2_11 hx hb hd (by rw [pq_rv_cat]; exact hc.1) (by rw [pq_rv_cat]; exact hc.2) (k ls hl)
      · cases h1
    · cases h1
end PQ1
end
section
/-! branches -/
section PQ2
variable {p : Program} {l : Launch} {e : Env} {R : Room} {s : State} {m : MethodId} {args : Array Value} {below : List Frame} {meth : Method} {c : Code} {H : Heap} {locs : List Loc} {cells slots : Nat} {Q : State → Prop}
  {cc : ByteArray} {h0 b nL pc pc' nx na len : Nat} {lk : List (Nat × Nat)} {own : String} {ini : Bool} {ret : Option FieldType} {ls : Array Slot} {st st' : List Value} {v : Value}
theorem pq_hd {t : Nat × Nat} (h : lk.head? = some t) : t ∈ lk := List.mem_of_mem_head? h
set_option maxHeartbeats 4000000 in
theorem pq_s2 (hx : p.tables.exec = Jvm.exec) (hb : c.code = cc) {ins : Instr} (h : pq_x2 ins nx lk st = some (pc', st')) (hd : decode cc pc = .ok (ins, len)) (hlen : len = pq_len ins ∨ pq_len ins = 0) (hnx : nx = pc + len)
    (hcb : pq_cb ret (pc, ins, nx, na, lk, v) = true)
    (k : W p l e R s m args below meth c H locs cells slots Q (F0 m pc' ls (st'.map (pq_rv h0 b)))) :
    W p l e R s m args below meth c H locs cells slots Q (F0 m pc ls (st.map (pq_rv h0 b))) := by
  cases ins
  all_goals try exact pq_nn h
  case goto off =>
    rcases hlen with rfl | hz
    · simp only [pq_x2] at h
      split at h
      · cases h
        exact lv_goto hx hb hd (of_decide_eq_true hcb _ List.mem_cons_self) k
      · cases h
    · cases hz
  case ifCond cd off =>
    rcases hlen with rfl | hz
    · simp only [pq_x2] at h
      split at h
      · rename_i t _ _ x r h2
        cases pq_i1_eq h2
        have ht := of_decide_eq_true hcb _ List.mem_cons_self
        subst hnx
        cases cd <;> cases h
        · exact lv_if_eq hx hb hd ht (fun q => by rw [if_pos q] at k; exact k) (fun q => by rw [if_neg q] at k; exact k)
        · exact lv_if_ne hx hb hd ht (fun q => by rw [if_neg q] at k; exact k) (fun q => by rw [if_pos q] at k; exact k)
        · exact lv_if_lt hx hb hd ht (fun q => by rw [if_pos q] at k; exact k) (fun q => by rw [if_neg q] at k; exact k)
        · exact lv_if_ge hx hb hd ht (fun q => by rw [if_neg (Int32.not_lt.mpr q)] at k; exact k) (fun q => by rw [if_pos (Int32.not_le.mp q)] at k; exact k)
        · exact lv_if_gt hx hb hd ht (fun q => by rw [if_pos q] at k; exact k) (fun q => by rw [if_neg q] at k; exact k)
        · exact lv_if_le hx hb hd ht (fun q => by rw [if_neg (Int32.not_lt.mpr q)] at k; exact k) (fun q => by rw [if_pos (Int32.not_le.mp q)] at k; exact k)
      · cases h
    · cases hz
  case if_icmp cd off =>
    rcases hlen with rfl | hz
    · simp only [pq_x2] at h
      split at h
      · rename_i t _ _ x y r h2
        cases pq_i2_eq h2
        have ht := of_decide_eq_true hcb _ List.mem_cons_self
        subst hnx
        cases cd <;> cases h
        · exact lv_icmp_eq hx hb hd ht (fun q => by rw [if_pos q] at k; exact k) (fun q => by rw [if_neg q] at k; exact k)
        · exact lv_icmp_ne hx hb hd ht (fun q => by rw [if_neg q] at k; exact k) (fun q => by rw [if_pos q] at k; exact k)
        · exact lv_icmp_lt hx hb hd ht (fun q => by rw [if_pos q] at k; exact k) (fun q => by rw [if_neg q] at k; exact k)
        · exact lv_icmp_ge hx hb hd ht (fun q => by rw [if_neg (Int32.not_lt.mpr q)] at k; exact k) (fun q => by rw [if_pos (Int32.not_le.mp q)] at k; exact k)
        · exact lv_icmp_gt hx hb hd ht (fun q => by rw [if_pos q] at k; exact k) (fun q => by rw [if_neg q] at k; exact k)
        · exact lv_icmp_le hx hb hd ht (fun q => by rw [if_neg (Int32.not_lt.mpr q)] at k; exact k) (fun q => by rw [if_pos (Int32.not_le.mp q)] at k; exact k)
      · cases h
    · cases hz
  case tableswitch d lo hi offs =>
    have hm : lk.map (fun t => (t.1 : Int)) = (d :: offs.toList).map (fun o => (pc : Int) + o) := of_decide_eq_true hcb
    simp only [pq_x2] at h
    split at h
    · rename_i t _ ts x r h1
      cases pq_i1_eq h1
      rw [List.map_cons, List.map_cons] at hm
      obtain ⟨hm1, hm2⟩ := List.cons.inj hm
      split at h
      · rename_i hc
        cases h
        exact lv_tableOut hx hb hd hc hm1.symm k
      · rename_i hc
        split at h
        · rename_i u u2 h3
          cases h
          have h5 : (offs.toList.map (fun o => (pc : Int) + o))[(x.toInt - lo).toNat]? = some (pc' : Int) := by
            rw [← hm2, List.getElem?_map, h3]; rfl
          rw [List.getElem?_map] at h5
          obtain ⟨o, h6, h7⟩ := Option.map_eq_some_iff.mp h5
          exact lv_tableIn hx hb hd (fun q => hc (Or.inl q)) (fun q => hc (Or.inr q)) (by rw [← Array.getElem?_toList]; exact h6) h7 k
        · cases h
    · cases h
end PQ2
end
section
/-! the memory -/
theorem pq_rf_eq (M : pq_M) (ci p k : Nat) : pq_rf M ci p k = (match (pq_ft.getD ci []).getD k .int with
    | .int => .int (M.2.1 p k)
    | .boolean => .int (M.2.1 p k)
    | .long => .long (M.2.2.1 p k)
    | _ => va_rf (M.2.2.2 p k)) := rfl
def pq_nf (ci : Nat) : Nat := (pq_ft.getD ci []).length
def pq_sz (q : pq_S) : Nat := match q with
  | .inl a => a.2
  | .inr ci => pq_nf ci
def pq_tot (sh : List pq_S) : Nat := (sh.map pq_sz).sum
def pq_tyok (ty : FieldType) : Prop := ty = .int ∨ ty = .long ∨ ty = .char ∨ ty = .object "PursuitDesk$State"
def pq_tok (sh : List pq_S) : Prop := ∀ (p n : Nat) (ty : FieldType), sh[p]? = some (.inl (ty, n)) → pq_tyok ty
def pq_tys (aC : FieldType → ClassId) : List (ClassId × FieldType) := [(aC .int, .int), (aC .long, .long), (aC .char, .char), (aC (.object "PursuitDesk$State"), .object "PursuitDesk$State")]
def pq_fs (h0 b : Nat) (M : pq_M) (ci q : Nat) : List Value := (List.range (pq_nf ci)).map (fun k => pq_rv h0 b (pq_rf M ci q k))
def pq_av (h0 b : Nat) (M : pq_M) (ty : FieldType) (q : Nat) : (Nat → Int32) ⊕ (Nat → Int64) ⊕ (Nat → UInt32) ⊕ (Nat → UInt64) ⊕ (Nat → Option Nat) := match ty with
  | .long => .inr (.inl (M.2.2.1 q))
  | .object _ => .inr (.inr (.inr (.inr (fun k => (M.2.2.2 q k).map (pq_ad h0 b)))))
  | _ => .inl (M.2.1 q)
def pq_cell (aC : FieldType → ClassId) (h0 b : Nat) (M : pq_M) (q : Nat) : va_E := match M.1[q]? with
  | some (.inl a) => .inl (aC a.1, a.2, pq_av h0 b M a.1 q)
  | some (.inr ci) => .inr (ci, pq_fs h0 b M ci q)
  | none => .inr (0, [])
def pq_ws (aC : FieldType → ClassId) (h0 b : Nat) (M : pq_M) : va_W := (List.range (M.1.length - 1)).map (fun i => (h0 + i, pq_cell aC h0 b M (i + 1)))
def pq_A (h0 : Nat) : Nat → Prop := fun q => h0 ≤ q
def pq_R (D : va_G) (aC : FieldType → ClassId) (h0 b L : Nat) (xs : Nat → Int32) (M : pq_M) (H : Heap) : Prop :=
  1 ≤ M.1.length ∧ va_P D pq_cl (pq_ws aC h0 b M) H ∧ M.1[0]? = some (.inl (.int, L)) ∧ (∀ j, j < L → M.2.1 0 j = xs j) ∧ pq_tok M.1
def pq_K (D : va_G) (aC : FieldType → ClassId) (h0 b L : Nat) (xs : Nat → Int32) (U : State) : Prop :=
  va_K D pq_cl (pq_tys aC) U ∧ (∀ w ∈ pq_nest, va_Nw w U) ∧ va_AO "PursuitDesk$State" U ∧ va_X b L xs U U.heap ∧ b < h0 ∧ h0 ≤ U.heap.size
theorem pq_ws_at {aC : FieldType → ClassId} {h0 b : Nat} {M : pq_M} {q : Nat} (h1 : ¬ q = 0) (h2 : q < M.1.length) : (pq_ws aC h0 b M)[q - 1]? = some (pq_ad h0 b q, pq_cell aC h0 b M q) := by
  unfold pq_ws
  rw [List.getElem?_map, List.getElem?_range (by omega)]
  simp only [Option.map_some, pq_ad, if_neg h1, show q - 1 + 1 = q by omega]
theorem pq_wsD {aC : FieldType → ClassId} {h0 b : Nat} {M : pq_M} : va_D (pq_A h0) (pq_ws aC h0 b M) := by
  have key : ∀ (i : Nat) (q : Nat × va_E), (pq_ws aC h0 b M)[i]? = some q → q.1 = h0 + i := by
    intro i q h
    unfold pq_ws at h
    rw [List.getElem?_map] at h
    obtain ⟨k, h1, h2⟩ := Option.map_eq_some_iff.mp h
    obtain ⟨h3, h4⟩ := List.getElem?_eq_some_iff.mp h1
    rw [List.getElem_range] at h4
    subst h4
    rw [← h2]
  refine ⟨fun i j p q hi hj e => ?_, fun k q h => ?_⟩
  · have := key i p hi; have := key j q hj; omega
  · show h0 ≤ q.1; rw [key k q h]; omega
def pq_off (q : Nat) (M M' : pq_M) : Prop := M'.1 = M.1 ∧ ∀ r, ¬ r = q → M'.2.1 r = M.2.1 r ∧ M'.2.2.1 r = M.2.2.1 r ∧ M'.2.2.2 r = M.2.2.2 r
theorem pq_cell_off {aC : FieldType → ClassId} {h0 b q r : Nat} {M M' : pq_M} (h : pq_off q M M') (hr : ¬ r = q) : pq_cell aC h0 b M' r = pq_cell aC h0 b M r := by
  obtain ⟨h1, h2⟩ := h
  obtain ⟨e1, e2, e3⟩ := h2 r hr
  unfold pq_cell pq_fs pq_av
  simp only [pq_rf_eq, h1, e1, e2, e3]
theorem pq_ws_set {aC : FieldType → ClassId} {h0 b q : Nat} {M M' : pq_M} (h : pq_off q M M') (h1 : ¬ q = 0) : (pq_ws aC h0 b M).set (q - 1) (pq_ad h0 b q, pq_cell aC h0 b M' q) = pq_ws aC h0 b M' := by
  apply List.ext_getElem?
  intro i
  have hlen : M'.1.length = M.1.length := by rw [h.1]
  rw [List.getElem?_set]
  by_cases hi : i < M.1.length - 1
  · have e1 : (pq_ws aC h0 b M')[i]? = some (pq_ad h0 b (i + 1), pq_cell aC h0 b M' (i + 1)) := pq_ws_at (q := i + 1) (by omega) (by rw [hlen]; omega)
    have e2 : (pq_ws aC h0 b M)[i]? = some (pq_ad h0 b (i + 1), pq_cell aC h0 b M (i + 1)) := pq_ws_at (q := i + 1) (by omega) (by omega)
    rw [e1, e2]
    split
    · rename_i e
      have hq : i + 1 = q := by omega
      rw [if_pos (by unfold pq_ws; simp; omega), hq]
    · rename_i e
      rw [pq_cell_off h (show ¬ i + 1 = q by omega)]
  · have e1 : (pq_ws aC h0 b M')[i]? = none := by unfold pq_ws; simp; omega
    have e2 : (pq_ws aC h0 b M)[i]? = none := by unfold pq_ws; simp; omega
    rw [e1, e2]
    split
    · rename_i e
      rw [if_neg (by unfold pq_ws; simp; omega)]
    · rfl
theorem pq_u_off {α : Type} (f : Nat → Nat → α) (q k : Nat) (x : α) {r : Nat} (h : ¬ r = q) : pq_u f q k x r = f r := by
  funext j; unfold pq_u; rw [if_neg (fun e => h e.1)]
theorem pq_cpy_off {α : Type} (f : Nat → Nat → α) (a sp q dp n : Nat) {r : Nat} (h : ¬ r = q) : pq_cpy f a sp q dp n r = f r := by
  funext j; unfold pq_cpy; rw [if_neg (fun e => h e.1)]
/-- behind a write at q: the relation again -/
theorem pq_R.wrote {D : va_G} {aC : FieldType → ClassId} {h0 b L q : Nat} {xs : Nat → Int32} {M M' : pq_M} {H H1 : Heap} {E : va_E} (hR : pq_R D aC h0 b L xs M H) (ho : pq_off q M M') (hq : ¬ q = 0)
    (hE : pq_cell aC h0 b M' q = E) (hP : va_P D pq_cl ((pq_ws aC h0 b M).set (q - 1) (pq_ad h0 b q, E)) H1) : pq_R D aC h0 b L xs M' H1 := by
  obtain ⟨r2, r3, r4, r5, r6⟩ := hR
  subst hE
  rw [pq_ws_set ho hq] at hP
  exact ⟨by rw [ho.1]; exact r2, hP, by rw [ho.1]; exact r4, fun j hj => by rw [(ho.2 0 (fun e => hq e.symm)).1]; exact r5 j hj, by rw [ho.1]; exact r6⟩
end
section
theorem pq_lku {ci k : Nat} : ∀ {lk : List (Nat × Nat)}, lk.lookup ci = some k → (ci, k) ∈ lk := by
  intro lk
  induction lk with
  | nil => intro h; cases h
  | cons a r ih =>
    intro h
    obtain ⟨a1, a2⟩ := a
    rw [List.lookup_cons] at h
    by_cases e : ci = a1
    · subst e
      simp at h
      subst h
      exact List.mem_cons_self
    · rw [show (ci == a1) = false by simpa using e] at h
      exact List.mem_cons_of_mem _ (ih h)
/-- what the tables say of a class of ours -/
theorem pq_clok {ci : Nat} {r : vw_C} (h : pq_cl[ci]? = some r) : (∀ w ∈ u_ws r.1 r.2.1 r.2.2, w ∈ lw_g) ∧ pq_nf ci = r.2.2 ∧ pq_cn[ci]? = some r.1 ∧ ∃ ty0 : Nat → FieldType, (∀ k, k < r.2.2 → parseFieldDescriptor (r.2.1 k).2.2.1 = some (ty0 k)) ∧ (∀ a, a < r.2.2 → ∀ b, b < r.2.2 → a ≠ b → (r.2.1 a).2.1 ≠ (r.2.1 b).2.1) ∧ ∀ k, k < r.2.2 → (pq_ft.getD ci [])[k]? = some (ty0 k) := by
  match ci, h with
  | 0, h => cases h; exact ⟨pi0, rfl, rfl, pt0, po0, pn0, by decide⟩
  | 1, h => cases h; exact ⟨pi1, rfl, rfl, pt1, po1, pn1, by decide⟩
  | 2, h => cases h; exact ⟨pi2, rfl, rfl, pt2, po2, pn2, by decide⟩
  | 3, h => cases h; exact ⟨pi3, rfl, rfl, pt3, po3, pn3, by decide⟩
  | 4, h => cases h; exact ⟨pi4, rfl, rfl, pt4, po4, pn4, by decide⟩
  | 5, h => cases h; exact ⟨pi5, rfl, rfl, pt5, po5, pn5, by decide⟩
  | 6, h => cases h; exact ⟨pi6, rfl, rfl, pt6, po6, pn6, by decide⟩
  | k + 7, h => simp [pq_cl] at h
theorem pq_fs_at {h0 b : Nat} {M : pq_M} {ci q k : Nat} (h : k < pq_nf ci) : (pq_fs h0 b M ci q)[k]? = some (pq_rv h0 b (pq_rf M ci q k)) := by
  unfold pq_fs
  rw [List.getElem?_map, List.getElem?_range h]
  rfl
theorem pq_cell_o {aC : FieldType → ClassId} {h0 b : Nat} {M : pq_M} {ci q : Nat} (h : M.1[q]? = some (.inr ci)) : pq_cell aC h0 b M q = .inr (ci, pq_fs h0 b M ci q) := by
  unfold pq_cell; rw [h]
theorem pq_cell_a {aC : FieldType → ClassId} {h0 b : Nat} {M : pq_M} {q n : Nat} {ty : FieldType} (h : M.1[q]? = some (.inl (ty, n))) : pq_cell aC h0 b M q = .inl (aC ty, n, pq_av h0 b M ty q) := by
  unfold pq_cell; rw [h]
theorem pq_lt {M : pq_M} {q : Nat} {x : pq_S} (h : M.1[q]? = some x) : q < M.1.length := (List.getElem?_eq_some_iff.mp h).1
theorem pq_u_same {α : Type} (f : Nat → Nat → α) (q k j : Nat) (x : α) : pq_u f q k x q j = if j = k then x else f q j := by
  unfold pq_u; by_cases h : j = k <;> simp [h]
theorem pq_arr_ok {M : pq_M} {q : Nat} {i : Int32} {ty : FieldType} (h : pq_arr M q i = some ty) : ∃ n, M.1[q]? = some (.inl (ty, n)) ∧ vp_in i n := by
  unfold pq_arr at h
  split at h
  · rename_i ty2 n e
    split at h
    · cases h
    · rename_i hn
      cases h
      exact ⟨n, e, hn⟩
  · cases h
theorem pq_wf_ok {h0 b : Nat} {M M' : pq_M} {ci q k : Nat} {v : Value} (h : pq_wf M ci q k v = some M') : ∃ ty, (pq_ft.getD ci [])[k]? = some ty ∧ pq_off q M M' ∧ narrow ty (pq_rv h0 b v) = pq_rv h0 b v ∧ fits ty (pq_rv h0 b v) = true ∧
    ∀ j, pq_rf M' ci q j = if j = k then v else pq_rf M ci q j := by
  have hg : ∀ ty, (pq_ft.getD ci [])[k]? = some ty → (pq_ft.getD ci []).getD k .int = ty := fun ty e => by rw [List.getD_eq_getElem?_getD, e]; rfl
  obtain ⟨sh, I, J, RR⟩ := M
  simp only [pq_wf] at h
  split at h
  · rename_i x e1
    cases h
    refine ⟨_, e1, ⟨rfl, fun r hr => ⟨pq_u_off _ _ _ _ hr, rfl, rfl⟩⟩, rfl, rfl, fun j => ?_⟩
    by_cases hj : j = k
    · subst hj; rw [pq_rf_eq, hg _ e1]; simp [pq_u_same]
    · simp only [pq_rf_eq, if_neg hj, pq_u_same]
  · rename_i x e1
    split at h
    · rename_i hx
      cases h
      refine ⟨_, e1, ⟨rfl, fun r hr => ⟨pq_u_off _ _ _ _ hr, rfl, rfl⟩⟩, ?_, ?_, fun j => ?_⟩
      · rcases hx with rfl | rfl <;> rfl
      · rcases hx with rfl | rfl <;> rfl
      · by_cases hj : j = k
        · subst hj; rw [pq_rf_eq, hg _ e1]; simp [pq_u_same]
        · simp only [pq_rf_eq, if_neg hj, pq_u_same]
    · cases h
  · rename_i x e1
    cases h
    refine ⟨_, e1, ⟨rfl, fun r hr => ⟨rfl, pq_u_off _ _ _ _ hr, rfl⟩⟩, rfl, rfl, fun j => ?_⟩
    by_cases hj : j = k
    · subst hj; rw [pq_rf_eq, hg _ e1]; simp [pq_u_same]
    · simp only [pq_rf_eq, if_neg hj, pq_u_same]
  · rename_i t x e1
    cases h
    refine ⟨_, e1, ⟨rfl, fun r hr => ⟨rfl, rfl, pq_u_off _ _ _ _ hr⟩⟩, rfl, rfl, fun j => ?_⟩
    by_cases hj : j = k
    · subst hj; rw [pq_rf_eq, hg _ e1]; simp [pq_u_same, va_rf]
    · simp only [pq_rf_eq, if_neg hj, pq_u_same]
  · rename_i t x e1
    cases h
    refine ⟨_, e1, ⟨rfl, fun r hr => ⟨rfl, rfl, pq_u_off _ _ _ _ hr⟩⟩, rfl, rfl, fun j => ?_⟩
    by_cases hj : j = k
    · subst hj; rw [pq_rf_eq, hg _ e1]; simp [pq_u_same, va_rf]
    · simp only [pq_rf_eq, if_neg hj, pq_u_same]
  · cases h
theorem pq_rf_rv (h0 b : Nat) (r : Option Nat) : va_rf (r.map (pq_ad h0 b)) = pq_rv h0 b (va_rf r) := by cases r <;> rfl
section PQ3
variable {p : Program} {l : Launch} {e : Env} {R : Room} {s : State} {m : MethodId} {args : Array Value} {below : List Frame} {meth : Method} {c : Code} {H : Heap} {locs : List Loc} {cells slots : Nat} {Q : State → Prop}
  {cc : ByteArray} {D : va_G} {aC : FieldType → ClassId} {xs : Nat → Int32} {h0 b L pc nL : Nat} {own : String} {ini : Bool} {ls : Array Slot} {r : List Value} {M M' : pq_M}
theorem pq_get (hx : p.tables.exec = Jvm.exec) (hb : c.code = cc) (hts : ∀ w ∈ lw_g, w.before args s = true) (hown : s.vm.findClass own = some m.cls) (hK : va_K D pq_cl (pq_tys aC) s) (hR : pq_R D aC h0 b L xs M H)
    {q ci k idx : Nat} (hsh : M.1[q]? = some (.inr ci)) (hok : pq_okF own idx ci k) (hd : decode cc pc = .ok (.getfield idx, 3))
    (kk : W p l e R s m args below meth c H locs cells slots Q (F0 m (pc + 3) ls (pq_rv h0 b (pq_rf M ci q k) :: r))) : W p l e R s m args below meth c H locs cells slots Q (F0 m pc ls (.ref (pq_ad h0 b q) :: r)) := by
  obtain ⟨rc, hc, hk, ref, hl, hsame⟩ := hok
  obtain ⟨hin, hnf, -, ty0, hty, hnm, hft⟩ := pq_clok hc
  have hq0 : ¬ q = 0 := fun e => by rw [e, hR.2.2.1] at hsh; cases hsh
  have he := pq_ws_at (aC := aC) (h0 := h0) (b := b) hq0 (pq_lt hsh)
  rw [pq_cell_o hsh] at he
  refine va_get (C := rc.1) (T := rc.2.1) (N := rc.2.2) (ref := ref) hx hb hts hin hown hK hR.2.1 (q - 1) he hc k hk (hts _ hl) ?_ (pq_fs_at (by rw [hnf]; exact hk)) hd kk
  rcases hsame with e1 | e1
  · intro x hx; rw [← e1]; exact hx
  · intro x hx; exact u_same (hts _ e1) x hx
theorem pq_put (hx : p.tables.exec = Jvm.exec) (hb : c.code = cc) (hts : ∀ w ∈ lw_g, w.before args s = true) (hown : s.vm.findClass own = some m.cls) (hK : va_K D pq_cl (pq_tys aC) s) (hR : pq_R D aC h0 b L xs M H) (hS : va_S (pq_A h0) s.heap H locs)
    (hini : ini = true → meth.name = "<init>") {q ci k idx : Nat} {v : Value} (hsh : M.1[q]? = some (.inr ci)) (hok : pq_okQ own ini idx ci k) (hw : pq_wf M ci q k v = some M') (hd : decode cc pc = .ok (.putfield idx, 3))
    (kk : ∀ (H1 : Heap) (locs1 : List Loc), pq_R D aC h0 b L xs M' H1 → va_S (pq_A h0) s.heap H1 locs1 → W p l e R s m args below meth c H1 locs1 cells slots Q (F0 m (pc + 3) ls r)) : W p l e R s m args below meth c H locs cells slots Q (F0 m pc ls (pq_rv h0 b v :: .ref (pq_ad h0 b q) :: r)) := by
  obtain ⟨⟨rc, hc, hk, ref, hl, hsame⟩, rc2, hc2, hfin⟩ := hok
  cases Option.some.inj (hc.symm.trans hc2)
  obtain ⟨hin, hnf, -, ty0, hty, hnm, hft⟩ := pq_clok hc
  obtain ⟨ty, ht1, hoff, hnar, hfit, hrf⟩ := pq_wf_ok (h0 := h0) (b := b) hw
  have hty2 : ty0 k = ty := Option.some.inj ((hft k hk).symm.trans ht1)
  have hq0 : ¬ q = 0 := fun e => by rw [e, hR.2.2.1] at hsh; cases hsh
  have he := pq_ws_at (aC := aC) (h0 := h0) (b := b) hq0 (pq_lt hsh)
  rw [pq_cell_o hsh] at he
  have hcell : pq_cell aC h0 b M' q = .inr (ci, (pq_fs h0 b M ci q).set k (pq_rv h0 b v)) := by
    rw [pq_cell_o (by rw [hoff.1]; exact hsh)]
    congr 2
    apply List.ext_getElem?
    intro j
    rw [List.getElem?_set]
    by_cases hj : j < pq_nf ci
    · rw [pq_fs_at hj, pq_fs_at hj, hrf j]
      by_cases hjk : j = k
      · subst hjk; rw [if_pos rfl, if_pos rfl, if_pos (by unfold pq_fs; simpa using hj)]
      · rw [if_neg hjk, if_neg (fun e => hjk e.symm)]
    · have e1 : ∀ M2 : pq_M, (pq_fs h0 b M2 ci q)[j]? = none := fun M2 => by unfold pq_fs; simp; omega
      rw [e1, e1, if_neg (by rw [hnf] at hj; omega)]
  have hs2 : ∀ x, s.fieldFound? (rc.2.1 k).1 (rc.2.1 k).2.1 (rc.2.1 k).2.2.1 = some x → s.fieldFound? ref (rc.2.1 k).2.1 (rc.2.1 k).2.2.1 = some x := by
    rcases hsame with e1 | e1
    · intro x hx; rw [← e1]; exact hx
    · intro x hx; exact u_same (hts _ e1) x hx
  have hlen : k < (pq_fs h0 b M ci q).length := by unfold pq_fs; simp; rw [hnf]; exact hk
  rcases hfin with hf | ⟨hf, hi, hdc⟩
  · exact va_put (C := rc.1) (T := rc.2.1) (N := rc.2.2) (ref := ref) hx hb hts hin ty0 hty hnm hown hK hR.2.1 pq_wsD hS (q - 1) he hc k hk (hts _ hl) hs2 hf (by rw [hty k hk, hty2]) hnar hfit hlen hd (fun H1 locs1 hP1 hD1 hS1 => kk H1 locs1 (hR.wrote hoff hq0 hcell hP1) hS1)
  · exact va_putF (C := rc.1) (T := rc.2.1) (N := rc.2.2) (ref := ref) hx hb hts hin ty0 hty hnm hown hK hR.2.1 pq_wsD hS (q - 1) he hc k hk (hts _ hl) hs2 hf (hini hi) hdc (by rw [hty k hk, hty2]) hnar hfit hlen hd (fun H1 locs1 hP1 hD1 hS1 => kk H1 locs1 (hR.wrote hoff hq0 hcell hP1) hS1)
theorem pq_nA (hKx : b < h0) : ¬ pq_A h0 b := fun (h : h0 ≤ b) => by omega
theorem pq_ald (hx : p.tables.exec = Jvm.exec) (hb : c.code = cc) (hK : pq_K D aC h0 b L xs s) (hR : pq_R D aC h0 b L xs M H) (hS : va_S (pq_A h0) s.heap H locs)
    {q : Nat} {i : Int32} (ha : pq_arr M q i = some .int) (hd : decode cc pc = .ok (.iaload, 1))
    (kk : W p l e R s m args below meth c H locs cells slots Q (F0 m (pc + 1) ls (.int (M.2.1 q i.toNatClampNeg) :: r))) : W p l e R s m args below meth c H locs cells slots Q (F0 m pc ls (.int i :: .ref (pq_ad h0 b q) :: r)) := by
  obtain ⟨n, hsh, hin⟩ := pq_arr_ok ha
  by_cases hq0 : q = 0
  · subst hq0
    have hn : n = L := by rw [hR.2.2.1] at hsh; cases hsh; rfl
    subst hn
    have hlt : i.toNatClampNeg < n := Nat.not_le.mp fun z => hin (Or.inr z)
    rw [hR.2.2.2.1 _ hlt] at kk
    exact va_sld hx hb hK.2.2.2.1 (Nat.lt_of_lt_of_le hK.2.2.2.2.1 hK.2.2.2.2.2) (pq_nA hK.2.2.2.2.1) hS hin hd kk
  · have he := pq_ws_at (aC := aC) (h0 := h0) (b := b) hq0 (pq_lt hsh)
    rw [pq_cell_a hsh] at he
    exact va_iald hx hb hK.1 hR.2.1 (q - 1) 0 he rfl hin hd kk
theorem pq_cald (hx : p.tables.exec = Jvm.exec) (hb : c.code = cc) (hK : pq_K D aC h0 b L xs s) (hR : pq_R D aC h0 b L xs M H)
    {q : Nat} {i : Int32} (ha : pq_arr M q i = some .char) (hd : decode cc pc = .ok (.caload, 1))
    (kk : W p l e R s m args below meth c H locs cells slots Q (F0 m (pc + 1) ls (.int (M.2.1 q i.toNatClampNeg) :: r))) : W p l e R s m args below meth c H locs cells slots Q (F0 m pc ls (.int i :: .ref (pq_ad h0 b q) :: r)) := by
  obtain ⟨n, hsh, hin⟩ := pq_arr_ok ha
  have hq0 : ¬ q = 0 := fun e => by rw [e, hR.2.2.1] at hsh; cases hsh
  have he := pq_ws_at (aC := aC) (h0 := h0) (b := b) hq0 (pq_lt hsh)
  rw [pq_cell_a hsh] at he
  exact va_cald hx hb hK.1 hR.2.1 (q - 1) 2 he rfl hin hd kk
theorem pq_lald (hx : p.tables.exec = Jvm.exec) (hb : c.code = cc) (hK : pq_K D aC h0 b L xs s) (hR : pq_R D aC h0 b L xs M H)
    {q : Nat} {i : Int32} (ha : pq_arr M q i = some .long) (hd : decode cc pc = .ok (.laload, 1))
    (kk : W p l e R s m args below meth c H locs cells slots Q (F0 m (pc + 1) ls (.long (M.2.2.1 q i.toNatClampNeg) :: r))) : W p l e R s m args below meth c H locs cells slots Q (F0 m pc ls (.int i :: .ref (pq_ad h0 b q) :: r)) := by
  obtain ⟨n, hsh, hin⟩ := pq_arr_ok ha
  have hq0 : ¬ q = 0 := fun e => by rw [e, hR.2.2.1] at hsh; cases hsh
  have he := pq_ws_at (aC := aC) (h0 := h0) (b := b) hq0 (pq_lt hsh)
  rw [pq_cell_a hsh] at he
  exact va_lald hx hb hK.1 hR.2.1 (q - 1) 1 he rfl hin hd kk
theorem pq_aald (hx : p.tables.exec = Jvm.exec) (hb : c.code = cc) (hK : pq_K D aC h0 b L xs s) (hR : pq_R D aC h0 b L xs M H)
    {q : Nat} {i : Int32} {C : String} (ha : pq_arr M q i = some (.object C)) (hd : decode cc pc = .ok (.aaload, 1))
    (kk : W p l e R s m args below meth c H locs cells slots Q (F0 m (pc + 1) ls (pq_rv h0 b (va_rf (M.2.2.2 q i.toNatClampNeg)) :: r))) : W p l e R s m args below meth c H locs cells slots Q (F0 m pc ls (.int i :: .ref (pq_ad h0 b q) :: r)) := by
  obtain ⟨n, hsh, hin⟩ := pq_arr_ok ha
  have hC : C = "PursuitDesk$State" := by
    rcases hR.2.2.2.2 q n _ hsh with e | e | e | e <;> cases e
    rfl
  subst hC
  have hq0 : ¬ q = 0 := fun e => by rw [e, hR.2.2.1] at hsh; cases hsh
  have he := pq_ws_at (aC := aC) (h0 := h0) (b := b) hq0 (pq_lt hsh)
  rw [pq_cell_a hsh] at he
  rw [← pq_rf_rv] at kk
  exact va_aldq hx hb hK.1 hR.2.1 (q - 1) 3 he rfl hin hd kk
theorem pq_ist (hx : p.tables.exec = Jvm.exec) (hb : c.code = cc) (hK : pq_K D aC h0 b L xs s) (hR : pq_R D aC h0 b L xs M H) (hS : va_S (pq_A h0) s.heap H locs)
    {q : Nat} {i x : Int32} (ha : pq_arr M q i = some .int) (hq0 : ¬ q = 0) (hd : decode cc pc = .ok (.iastore, 1))
    (kk : ∀ (H1 : Heap) (locs1 : List Loc), pq_R D aC h0 b L xs (M.1, pq_u M.2.1 q i.toNatClampNeg x, M.2.2.1, M.2.2.2) H1 → va_S (pq_A h0) s.heap H1 locs1 → W p l e R s m args below meth c H1 locs1 cells slots Q (F0 m (pc + 1) ls r)) : W p l e R s m args below meth c H locs cells slots Q (F0 m pc ls (.int x :: .int i :: .ref (pq_ad h0 b q) :: r)) := by
  obtain ⟨n, hsh, hin⟩ := pq_arr_ok ha
  have he := pq_ws_at (aC := aC) (h0 := h0) (b := b) hq0 (pq_lt hsh)
  rw [pq_cell_a hsh] at he
  refine va_iast hx hb hK.1 hR.2.1 pq_wsD hS (q - 1) 0 he rfl hin hd (fun H1 locs1 hP1 hD1 hS1 => kk H1 locs1 (hR.wrote ⟨rfl, fun r hr => ⟨pq_u_off _ _ _ _ hr, rfl, rfl⟩⟩ hq0 ?_ hP1) hS1)
  rw [pq_cell_a (M := (M.1, pq_u M.2.1 q i.toNatClampNeg x, M.2.2.1, M.2.2.2)) hsh]
  show Sum.inl (aC .int, n, Sum.inl (pq_u M.2.1 q i.toNatClampNeg x q)) = _
  congr 4
  funext j
  rw [pq_u_same]
  rfl
theorem pq_cst (hx : p.tables.exec = Jvm.exec) (hb : c.code = cc) (hK : pq_K D aC h0 b L xs s) (hR : pq_R D aC h0 b L xs M H) (hS : va_S (pq_A h0) s.heap H locs)
    {q : Nat} {i x : Int32} (ha : pq_arr M q i = some .char) (hq0 : ¬ q = 0) (hd : decode cc pc = .ok (.castore, 1))
    (kk : ∀ (H1 : Heap) (locs1 : List Loc), pq_R D aC h0 b L xs (M.1, pq_u M.2.1 q i.toNatClampNeg (vp_nar .char x), M.2.2.1, M.2.2.2) H1 → va_S (pq_A h0) s.heap H1 locs1 → W p l e R s m args below meth c H1 locs1 cells slots Q (F0 m (pc + 1) ls r)) : W p l e R s m args below meth c H locs cells slots Q (F0 m pc ls (.int x :: .int i :: .ref (pq_ad h0 b q) :: r)) := by
  obtain ⟨n, hsh, hin⟩ := pq_arr_ok ha
  have he := pq_ws_at (aC := aC) (h0 := h0) (b := b) hq0 (pq_lt hsh)
  rw [pq_cell_a hsh] at he
  refine va_cast hx hb hK.1 hR.2.1 pq_wsD hS (q - 1) 2 he rfl hin hd (fun H1 locs1 hP1 hD1 hS1 => kk H1 locs1 (hR.wrote ⟨rfl, fun r hr => ⟨pq_u_off _ _ _ _ hr, rfl, rfl⟩⟩ hq0 ?_ hP1) hS1)
  rw [pq_cell_a (M := (M.1, pq_u M.2.1 q i.toNatClampNeg (vp_nar .char x), M.2.2.1, M.2.2.2)) hsh]
  show Sum.inl (aC .char, n, Sum.inl (pq_u M.2.1 q i.toNatClampNeg (vp_nar .char x) q)) = _
  congr 4
  funext j
  rw [pq_u_same]
  rfl
theorem pq_lst (hx : p.tables.exec = Jvm.exec) (hb : c.code = cc) (hK : pq_K D aC h0 b L xs s) (hR : pq_R D aC h0 b L xs M H) (hS : va_S (pq_A h0) s.heap H locs)
    {q : Nat} {i : Int32} {x : Int64} (ha : pq_arr M q i = some .long) (hq0 : ¬ q = 0) (hd : decode cc pc = .ok (.lastore, 1))
    (kk : ∀ (H1 : Heap) (locs1 : List Loc), pq_R D aC h0 b L xs (M.1, M.2.1, pq_u M.2.2.1 q i.toNatClampNeg x, M.2.2.2) H1 → va_S (pq_A h0) s.heap H1 locs1 → W p l e R s m args below meth c H1 locs1 cells slots Q (F0 m (pc + 1) ls r)) : W p l e R s m args below meth c H locs cells slots Q (F0 m pc ls (.long x :: .int i :: .ref (pq_ad h0 b q) :: r)) := by
  obtain ⟨n, hsh, hin⟩ := pq_arr_ok ha
  have he := pq_ws_at (aC := aC) (h0 := h0) (b := b) hq0 (pq_lt hsh)
  rw [pq_cell_a hsh] at he
  refine va_last hx hb hK.1 hR.2.1 pq_wsD hS (q - 1) 1 he rfl hin hd (fun H1 locs1 hP1 hD1 hS1 => kk H1 locs1 (hR.wrote ⟨rfl, fun r hr => ⟨rfl, pq_u_off _ _ _ _ hr, rfl⟩⟩ hq0 ?_ hP1) hS1)
  rw [pq_cell_a (M := (M.1, M.2.1, pq_u M.2.2.1 q i.toNatClampNeg x, M.2.2.2)) hsh]
  show Sum.inl (aC .long, n, Sum.inr (Sum.inl (pq_u M.2.2.1 q i.toNatClampNeg x q))) = _
  congr 5
  funext j
  rw [pq_u_same]
  rfl
theorem pq_ast (hx : p.tables.exec = Jvm.exec) (hb : c.code = cc) (hK : pq_K D aC h0 b L xs s) (hR : pq_R D aC h0 b L xs M H) (hS : va_S (pq_A h0) s.heap H locs)
    {q v : Nat} {i : Int32} {C : String} (ha : pq_arr M q i = some (.object C)) (hv : M.1[v]? = some (.inr 3)) (hq0 : ¬ q = 0) (hd : decode cc pc = .ok (.aastore, 1))
    (kk : ∀ (H1 : Heap) (locs1 : List Loc), pq_R D aC h0 b L xs (M.1, M.2.1, M.2.2.1, pq_u M.2.2.2 q i.toNatClampNeg (some v)) H1 → va_S (pq_A h0) s.heap H1 locs1 → W p l e R s m args below meth c H1 locs1 cells slots Q (F0 m (pc + 1) ls r)) : W p l e R s m args below meth c H locs cells slots Q (F0 m pc ls (.ref (pq_ad h0 b v) :: .int i :: .ref (pq_ad h0 b q) :: r)) := by
  obtain ⟨n, hsh, hin⟩ := pq_arr_ok ha
  have hC : C = "PursuitDesk$State" := by
    rcases hR.2.2.2.2 q n _ hsh with e | e | e | e <;> cases e
    rfl
  subst hC
  have hv0 : ¬ v = 0 := fun e => by rw [e, hR.2.2.1] at hv; cases hv
  have he := pq_ws_at (aC := aC) (h0 := h0) (b := b) hq0 (pq_lt hsh)
  rw [pq_cell_a hsh] at he
  have hev := pq_ws_at (aC := aC) (h0 := h0) (b := b) hv0 (pq_lt hv)
  rw [pq_cell_o hv] at hev
  refine va_astq (r := ("PursuitDesk$State", pT3, 10)) hx hb hK.1 hR.2.1 pq_wsD hS (q - 1) 3 (v - 1) 3 he rfl hev rfl hin hd (fun H1 locs1 hP1 hD1 hS1 => kk H1 locs1 (hR.wrote ⟨rfl, fun r hr => ⟨rfl, rfl, pq_u_off _ _ _ _ hr⟩⟩ hq0 ?_ hP1) hS1)
  rw [pq_cell_a (M := (M.1, M.2.1, M.2.2.1, pq_u M.2.2.2 q i.toNatClampNeg (some v))) hsh]
  show Sum.inl (aC _, n, Sum.inr (Sum.inr (Sum.inr (Sum.inr (fun k => (pq_u M.2.2.2 q i.toNatClampNeg (some v) q k).map (pq_ad h0 b)))))) = _
  congr 7
  funext j
  rw [pq_u_same]
  unfold va_up
  split <;> rfl
theorem pq_aln (hx : p.tables.exec = Jvm.exec) (hb : c.code = cc) (hK : pq_K D aC h0 b L xs s) (hR : pq_R D aC h0 b L xs M H) (hS : va_S (pq_A h0) s.heap H locs)
    {q n : Nat} {ty : FieldType} (hsh : M.1[q]? = some (.inl (ty, n))) (hd : decode cc pc = .ok (.arraylength, 1))
    (kk : W p l e R s m args below meth c H locs cells slots Q (F0 m (pc + 1) ls (.int (Int32.ofNat n) :: r))) : W p l e R s m args below meth c H locs cells slots Q (F0 m pc ls (.ref (pq_ad h0 b q) :: r)) := by
  by_cases hq0 : q = 0
  · subst hq0
    have hn : n = L := by rw [hR.2.2.1] at hsh; cases hsh; rfl
    subst hn
    exact va_slen hx hb hK.2.2.2.1 (Nat.lt_of_lt_of_le hK.2.2.2.2.1 hK.2.2.2.2.2) (pq_nA hK.2.2.2.2.1) hS hd kk
  · have he := pq_ws_at (aC := aC) (h0 := h0) (b := b) hq0 (pq_lt hsh)
    rw [pq_cell_a hsh] at he
    have hmem : ∃ t0 : Nat, (pq_tys aC)[t0]? = some (aC ty, ty) := by
      rcases hR.2.2.2.2 q n _ hsh with e | e | e | e <;> subst e
      · exact ⟨0, rfl⟩
      · exact ⟨1, rfl⟩
      · exact ⟨2, rfl⟩
      · exact ⟨3, rfl⟩
    obtain ⟨t0, ht⟩ := hmem
    exact va_alen hx hb hK.1 hR.2.1 (q - 1) t0 he ht rfl hd kk
theorem pq_cpyi (hx : p.tables.exec = Jvm.exec) (hb : c.code = cc) (hml : c.maxLocals = ls.size) (hts : ∀ w ∈ lw_g, w.before args s = true) (hown : s.vm.findClass own = some m.cls) (hK : pq_K D aC h0 b L xs s) (hR : pq_R D aC h0 b L xs M H) (hS : va_S (pq_A h0) s.heap H locs)
    {q1 q2 n1 n2 idx : Nat} {sp dp n : Int32} (hok : pq_okA own idx) (h1 : M.1[q1]? = some (.inl (.int, n1))) (h2 : M.1[q2]? = some (.inl (.int, n2))) (hq1 : ¬ q1 = 0) (hq2 : ¬ q2 = 0)
    (g1 : ¬ sp < 0) (g2 : ¬ dp < 0) (g3 : ¬ n < 0) (g4 : sp.toNatClampNeg + n.toNatClampNeg ≤ n1) (g5 : dp.toNatClampNeg + n.toNatClampNeg ≤ n2) (hfr : 1 ≤ R.frames) (hlo : 100 ≤ R.locals) (hrest : (r.map fun v => v.category).sum ≤ 8) (hd : decode cc pc = .ok (.invokestatic idx, 3))
    (kk : ∀ (H1 : Heap) (locs1 : List Loc), pq_R D aC h0 b L xs (M.1, pq_cpy M.2.1 q1 sp.toNatClampNeg q2 dp.toNatClampNeg n.toNatClampNeg, M.2.2.1, M.2.2.2) H1 → va_S (pq_A h0) s.heap H1 locs1 → W p l e R s m args below meth c H1 locs1 cells slots Q (F0 m (pc + 3) ls r)) :
    W p l e R s m args below meth c H locs cells slots Q (F0 m pc ls (.int n :: .int dp :: .ref (pq_ad h0 b q2) :: .int sp :: .ref (pq_ad h0 b q1) :: r)) := by
  obtain ⟨w1, w2, w3, w4⟩ := hok
  have he1 := pq_ws_at (aC := aC) (h0 := h0) (b := b) hq1 (pq_lt h1)
  rw [pq_cell_a h1] at he1
  have he2 := pq_ws_at (aC := aC) (h0 := h0) (b := b) hq2 (pq_lt h2)
  rw [pq_cell_a h2] at he2
  refine va_copyi hx hb hml hown (hts _ w1) (hts _ w2) (hts _ w3) (hts _ w4) hK.1 hR.2.1 pq_wsD hS (q1 - 1) (q2 - 1) 0 0 he1 he2 rfl rfl rfl g1 g2 g3 g4 g5 (fun i _ => rfl) hfr (Nat.le_trans (Nat.add_le_add_right hrest _) (Nat.le_trans (show 8 + (nativeFrameWords "java/lang/System" "arraycopy" 5 + 11) ≤ 100 by decide +kernel) hlo)) hd (fun H1 locs1 hP1 hD1 hS1 => kk H1 locs1 (hR.wrote ⟨rfl, fun r hr => ⟨pq_cpy_off _ _ _ _ _ _ hr, rfl, rfl⟩⟩ hq2 ?_ hP1) hS1)
  rw [pq_cell_a (M := (M.1, pq_cpy M.2.1 q1 sp.toNatClampNeg q2 dp.toNatClampNeg n.toNatClampNeg, M.2.2.1, M.2.2.2)) h2]
  show Sum.inl (aC .int, n2, Sum.inl (pq_cpy M.2.1 q1 sp.toNatClampNeg q2 dp.toNatClampNeg n.toNatClampNeg q2)) = _
  congr 4
  funext j
  unfold pq_cpy va_cpy
  simp only [true_and]
theorem pq_cpyl (hx : p.tables.exec = Jvm.exec) (hb : c.code = cc) (hml : c.maxLocals = ls.size) (hts : ∀ w ∈ lw_g, w.before args s = true) (hown : s.vm.findClass own = some m.cls) (hK : pq_K D aC h0 b L xs s) (hR : pq_R D aC h0 b L xs M H) (hS : va_S (pq_A h0) s.heap H locs)
    {q1 q2 n1 n2 idx : Nat} {sp dp n : Int32} (hok : pq_okA own idx) (h1 : M.1[q1]? = some (.inl (.long, n1))) (h2 : M.1[q2]? = some (.inl (.long, n2))) (hq1 : ¬ q1 = 0) (hq2 : ¬ q2 = 0)
    (g1 : ¬ sp < 0) (g2 : ¬ dp < 0) (g3 : ¬ n < 0) (g4 : sp.toNatClampNeg + n.toNatClampNeg ≤ n1) (g5 : dp.toNatClampNeg + n.toNatClampNeg ≤ n2) (hfr : 1 ≤ R.frames) (hlo : 100 ≤ R.locals) (hrest : (r.map fun v => v.category).sum ≤ 8) (hd : decode cc pc = .ok (.invokestatic idx, 3))
    (kk : ∀ (H1 : Heap) (locs1 : List Loc), pq_R D aC h0 b L xs (M.1, M.2.1, pq_cpy M.2.2.1 q1 sp.toNatClampNeg q2 dp.toNatClampNeg n.toNatClampNeg, M.2.2.2) H1 → va_S (pq_A h0) s.heap H1 locs1 → W p l e R s m args below meth c H1 locs1 cells slots Q (F0 m (pc + 3) ls r)) :
    W p l e R s m args below meth c H locs cells slots Q (F0 m pc ls (.int n :: .int dp :: .ref (pq_ad h0 b q2) :: .int sp :: .ref (pq_ad h0 b q1) :: r)) := by
  obtain ⟨w1, w2, w3, w4⟩ := hok
  have he1 := pq_ws_at (aC := aC) (h0 := h0) (b := b) hq1 (pq_lt h1)
  rw [pq_cell_a h1] at he1
  have he2 := pq_ws_at (aC := aC) (h0 := h0) (b := b) hq2 (pq_lt h2)
  rw [pq_cell_a h2] at he2
  refine va_copyl hx hb hml hown (hts _ w1) (hts _ w2) (hts _ w3) (hts _ w4) hK.1 hR.2.1 pq_wsD hS (q1 - 1) (q2 - 1) 1 1 he1 he2 rfl rfl rfl g1 g2 g3 g4 g5 (fun i _ => rfl) hfr (Nat.le_trans (Nat.add_le_add_right hrest _) (Nat.le_trans (show 8 + (nativeFrameWords "java/lang/System" "arraycopy" 5 + 11) ≤ 100 by decide +kernel) hlo)) hd (fun H1 locs1 hP1 hD1 hS1 => kk H1 locs1 (hR.wrote ⟨rfl, fun r hr => ⟨rfl, pq_cpy_off _ _ _ _ _ _ hr, rfl⟩⟩ hq2 ?_ hP1) hS1)
  rw [pq_cell_a (M := (M.1, M.2.1, pq_cpy M.2.2.1 q1 sp.toNatClampNeg q2 dp.toNatClampNeg n.toNatClampNeg, M.2.2.2)) h2]
  show Sum.inl (aC .long, n2, Sum.inr (Sum.inl (pq_cpy M.2.2.1 q1 sp.toNatClampNeg q2 dp.toNatClampNeg n.toNatClampNeg q2))) = _
  congr 5
  funext j
  unfold pq_cpy va_cpy
  simp only [true_and]
end PQ3
end
section
section PQ4
variable {p : Program} {l : Launch} {e : Env} {R : Room} {s : State} {m : MethodId} {args : Array Value} {below : List Frame} {meth : Method} {c : Code} {H : Heap} {locs : List Loc} {cells slots : Nat} {Q : State → Prop}
  {cc : ByteArray} {D : va_G} {aC : FieldType → ClassId} {xs : Nat → Int32} {h0 b L pc nL : Nat} {own : String} {ini : Bool} {ls : Array Slot} {r : List Value} {M M' : pq_M}
theorem pq_ws_len {aC : FieldType → ClassId} {h0 b : Nat} {M : pq_M} : (pq_ws aC h0 b M).length = M.1.length - 1 := by unfold pq_ws; simp
theorem pq_addr {T : State} (X : Stand p l e R s m args below meth c T locs cells slots) {H1 : Heap} {E : va_E} {q n0 : Nat} (hT : T.heap = H1) (hP : va_P D pq_cl (pq_ws aC h0 b M ++ [(q, E)]) H1) (hD : va_D (pq_A h0) (pq_ws aC h0 b M ++ [(q, E)]))
    (hsz : s.heap.size + 1 = h0 + n0) (hc : cells = M.1.length - n0 + 1) (hn0 : n0 ≤ M.1.length) (h1 : 1 ≤ M.1.length) : q = pq_ad h0 b M.1.length := by
  have hlast : (pq_ws aC h0 b M ++ [(q, E)])[M.1.length - 1]? = some (q, E) := by
    rw [List.getElem?_append_right (by rw [pq_ws_len]; omega), pq_ws_len]; simp
  have hlt : q < H1.size := (hP _ _ hlast).lt
  have hge : h0 ≤ q := hD.2 _ _ hlast
  have hX := X.heapSize
  rw [hT] at hX
  have hnot : ¬ q < h0 + (M.1.length - 1) := by
    intro hq
    have hi : (pq_ws aC h0 b M ++ [(q, E)])[q - h0]? = some (pq_ad h0 b (q - h0 + 1), pq_cell aC h0 b M (q - h0 + 1)) := by
      rw [List.getElem?_append_left (by rw [pq_ws_len]; omega)]
      exact pq_ws_at (q := q - h0 + 1) (by omega) (by omega)
    have := hD.1 _ _ _ _ hi hlast (by simp only [pq_ad, if_neg (show ¬ q - h0 + 1 = 0 by omega)]; omega)
    omega
  simp only [pq_ad, if_neg (show ¬ M.1.length = 0 by omega)]
  omega
theorem pq_add_at {M : pq_M} {sh : pq_S} {q : Nat} (h : q < M.1.length) : (pq_add M sh).1[q]? = M.1[q]? := by
  unfold pq_add; exact List.getElem?_append_left h
theorem pq_add_new {M : pq_M} {sh : pq_S} : (pq_add M sh).1[M.1.length]? = some sh := by
  unfold pq_add; simp
theorem pq_add_len {M : pq_M} {sh : pq_S} : (pq_add M sh).1.length = M.1.length + 1 := by unfold pq_add; simp
theorem pq_blank_off {α : Type} (f : Nat → Nat → α) (q : Nat) (x : α) {r : Nat} (h : ¬ r = q) : pq_blank f q x r = f r := by
  funext j; unfold pq_blank; rw [if_neg h]
theorem pq_cell_add {aC : FieldType → ClassId} {h0 b q : Nat} {M : pq_M} {sh : pq_S} (h : q < M.1.length) : pq_cell aC h0 b (pq_add M sh) q = pq_cell aC h0 b M q := by
  have hne : ¬ q = M.1.length := by omega
  have e1 : (pq_add M sh).2.1 q = M.2.1 q := pq_blank_off _ _ _ hne
  have e2 : (pq_add M sh).2.2.1 q = M.2.2.1 q := pq_blank_off _ _ _ hne
  have e3 : (pq_add M sh).2.2.2 q = M.2.2.2 q := pq_blank_off _ _ _ hne
  unfold pq_cell pq_fs pq_av
  simp only [pq_rf_eq, pq_add_at h, e1, e2, e3]
theorem pq_ws_add {aC : FieldType → ClassId} {h0 b : Nat} {M : pq_M} {sh : pq_S} (h1 : 1 ≤ M.1.length) : pq_ws aC h0 b (pq_add M sh) = pq_ws aC h0 b M ++ [(pq_ad h0 b M.1.length, pq_cell aC h0 b (pq_add M sh) M.1.length)] := by
  unfold pq_ws
  rw [pq_add_len, show M.1.length + 1 - 1 = (M.1.length - 1) + 1 by omega, List.range_succ, List.map_append]
  congr 1
  · apply List.map_congr_left
    intro i hi
    have := List.mem_range.mp hi
    rw [pq_cell_add (by omega)]
  · simp only [List.map_cons, List.map_nil, pq_ad, if_neg (show ¬ M.1.length = 0 by omega), show M.1.length - 1 + 1 = M.1.length by omega]
theorem pq_R.added {H1 : Heap} {sh : pq_S} (hR : pq_R D aC h0 b L xs M H) (hP : va_P D pq_cl (pq_ws aC h0 b M ++ [(pq_ad h0 b M.1.length, pq_cell aC h0 b (pq_add M sh) M.1.length)]) H1)
    (hty : ∀ (n : Nat) (ty : FieldType), sh = .inl (ty, n) → pq_tyok ty) : pq_R D aC h0 b L xs (pq_add M sh) H1 := by
  obtain ⟨r1, r2, r3, r4, r5⟩ := hR
  refine ⟨by rw [pq_add_len]; omega, by rw [pq_ws_add r1]; exact hP, by rw [pq_add_at (by omega)]; exact r3, fun j hj => ?_, fun q n ty h => ?_⟩
  · rw [← r4 j hj]; exact congrFun (pq_blank_off M.2.1 M.1.length 0 (r := 0) (by omega)) j
  · by_cases hq : q < M.1.length
    · rw [pq_add_at hq] at h; exact r5 q n ty h
    · have h2 := pq_lt h
      rw [pq_add_len] at h2
      have : q = M.1.length := by omega
      subst this
      rw [pq_add_new] at h
      exact hty n ty (Option.some.inj h)
theorem pq_newo (hx : p.tables.exec = Jvm.exec) (hb : c.code = cc) (hts : ∀ w ∈ lw_g, w.before args s = true) (hown : s.vm.findClass own = some m.cls) (hK : pq_K D aC h0 b L xs s) (hR : pq_R D aC h0 b L xs M H) (hS : va_S (pq_A h0) s.heap H locs)
    {ci idx n0 : Nat} (hok : pq_okN own idx ci) (hsz : s.heap.size + 1 = h0 + n0) (hc : cells = M.1.length - n0) (hn0 : n0 ≤ M.1.length) (hcells : cells + 1 ≤ R.cells) (hslots : slots + pq_nf ci ≤ R.slots) (hd : decode cc pc = .ok (.new idx, 3))
    (kk : ∀ H1 : Heap, pq_R D aC h0 b L xs (pq_add M (.inr ci)) H1 → va_S (pq_A h0) s.heap H1 locs → W p l e R s m args below meth c H1 locs (cells + 1) (slots + pq_nf ci) Q (F0 m (pc + 3) ls (.ref (pq_ad h0 b M.1.length) :: r))) :
    W p l e R s m args below meth c H locs cells slots Q (F0 m pc ls r) := by
  obtain ⟨rc, hcl, w1, w2, w3⟩ := hok
  obtain ⟨hin, hnf, -, ty0, hty, hnm, hft⟩ := pq_clok hcl
  rw [hnf] at hslots kk
  refine va_new (C := rc.1) (T := rc.2.1) (N := rc.2.2) (fs := pq_fs h0 b (pq_add M (.inr ci)) ci M.1.length) hx hb hts hin ty0 hty hown (hts _ w1) (hts _ w2) (hts _ w3) hK.1 hR.2.1 pq_wsD hS (fun q (hq : s.heap.size ≤ q) => Nat.le_trans hK.2.2.2.2.2 hq) hcl (fun j hj => ?_) hcells hslots hd (fun q H1 hP1 hD1 hS1 => ?_)
  · unfold vp_V
    rw [List.getD_eq_getElem?_getD, pq_fs_at (by rw [hnf]; exact hj)]
    have hg : (pq_ft.getD ci []).getD j .int = ty0 j := by rw [List.getD_eq_getElem?_getD, hft j hj]; rfl
    rw [pq_rf_eq, hg]
    have b1 : (pq_add M (.inr ci)).2.1 M.1.length j = 0 := by simp [pq_add, pq_blank]
    have b2 : (pq_add M (.inr ci)).2.2.1 M.1.length j = 0 := by simp [pq_add, pq_blank]
    have b3 : (pq_add M (.inr ci)).2.2.2 M.1.length j = none := by simp [pq_add, pq_blank]
    rw [b1, b2, b3]
    have hfl : ty0 j = .int ∨ ty0 j = .boolean ∨ ty0 j = .long ∨ (∃ t, ty0 j = .array t) ∨ ∃ t, ty0 j = .object t := by
      have h1 := hft j hj
      have h2 : pq_ft.all (fun q => q.all (fun t => match t with | .int => true | .boolean => true | .long => true | .array _ => true | .object _ => true | _ => false)) = true := by decide
      have hmem : ty0 j ∈ pq_ft.getD ci [] := List.mem_of_getElem? h1
      have hm2 : pq_ft.getD ci [] ∈ pq_ft := by
        rw [List.getD_eq_getElem?_getD]
        cases hq : pq_ft[ci]? with
        | none => rw [List.getD_eq_getElem?_getD, hq] at hmem; simp at hmem
        | some z => exact List.mem_of_getElem? hq
      have h3 := List.all_eq_true.mp (List.all_eq_true.mp h2 _ hm2) _ hmem
      cases hz : ty0 j <;> rw [hz] at h3 <;> simp at h3 <;> simp
    rcases hfl with h | h | h | ⟨t, h⟩ | ⟨t, h⟩ <;> rw [h] <;> rfl
  · intro T hT X
    have hq := pq_addr X hT hP1 hD1 hsz (by rw [hc]) hn0 hR.1
    subst hq
    refine kk H1 (hR.added (by rw [pq_cell_o pq_add_new]; exact hP1) (fun n ty h => by cases h)) hS1 T hT X
theorem pq_RA {ty : FieldType} {cA : ClassId} {t0 : Nat} (hK : va_K D pq_cl (pq_tys aC) s) (ht : (pq_tys aC)[t0]? = some (aC ty, ty)) (hK2 : va_K D pq_cl (pq_tys aC ++ [(cA, ty)]) s) : cA = aC ty := by
  have h1 := (hK.2 t0 _ ht).2
  have h2 := (hK2.2 4 (cA, ty) rfl).2
  cases ty with
  | object C =>
    obtain ⟨_, _, _, _, _, e1⟩ := h1
    obtain ⟨_, _, _, _, _, e2⟩ := h2
    exact Option.some.inj (e2.symm.trans e1)
  | _ => exact Option.some.inj (Eq.trans (Eq.symm h2) h1)
theorem pq_newa (hx : p.tables.exec = Jvm.exec) (hb : c.code = cc) (hts : ∀ w ∈ lw_g, w.before args s = true) (hK : pq_K D aC h0 b L xs s) (hR : pq_R D aC h0 b L xs M H) (hS : va_S (pq_A h0) s.heap H locs)
    {n0 t0 : Nat} {n : Int32} {a : ArrayType} {ty : FieldType} (hty : newarray.typeOf a = ty) (hw : Cond.arrayClass ty ∈ lw_g) (ht : (pq_tys aC)[t0]? = some (aC ty, ty)) (htk : pq_tyok ty) (hav : ∀ cA : ClassId, vp_cell cA (n.toNatClampNeg, pq_av h0 b (pq_add M (.inl (ty, n.toNatClampNeg))) ty M.1.length) = arrV cA n.toNatClampNeg (fun _ => defaultValue ty))
    (hn : ¬ n < 0) (hbd : n.toNatClampNeg ≤ 65536) (hcb : componentBytes ty ≤ 8) (hsz : s.heap.size + 1 = h0 + n0) (hc : cells = M.1.length - n0) (hn0 : n0 ≤ M.1.length) (hcells : cells + 1 ≤ R.cells) (hslots : slots + n.toNatClampNeg ≤ R.slots) (hd : decode cc pc = .ok (.newarray a, 2))
    (kk : ∀ H1 : Heap, pq_R D aC h0 b L xs (pq_add M (.inl (ty, n.toNatClampNeg))) H1 → va_S (pq_A h0) s.heap H1 locs → W p l e R s m args below meth c H1 locs (cells + 1) (slots + n.toNatClampNeg) Q (F0 m (pc + 2) ls (.ref (pq_ad h0 b M.1.length) :: r))) :
    W p l e R s m args below meth c H locs cells slots Q (F0 m pc ls (.int n :: r)) := by
  refine va_newa hx hb (by rw [hty]; exact hts _ hw) hty hK.1 hR.2.1 pq_wsD hS (fun q (hq : s.heap.size ≤ q) => Nat.le_trans hK.2.2.2.2.2 hq) hav hn rfl (Nat.le_trans (Nat.mul_le_mul hbd hcb) (by decide)) hcells hslots hd (fun q cA H1 hK1 hP1 hD1 hS1 => ?_)
  have hcA := pq_RA hK.1 ht hK1
  subst hcA
  intro T hT X
  have hq := pq_addr X hT hP1 hD1 hsz (by rw [hc]) hn0 hR.1
  subst hq
  exact kk H1 (hR.added (by rw [pq_cell_a pq_add_new]; exact hP1) (fun n ty h => by cases h; exact htk)) hS1 T hT X
theorem pq_newr (hx : p.tables.exec = Jvm.exec) (hb : c.code = cc) (hts : ∀ w ∈ lw_g, w.before args s = true) (hown : s.vm.findClass own = some m.cls) (hK : pq_K D aC h0 b L xs s) (hR : pq_R D aC h0 b L xs M H) (hS : va_S (pq_A h0) s.heap H locs)
    {n0 idx : Nat} {n : Int32} (hw : Cond.classLink own idx "PursuitDesk$State" ∈ lw_g)
    (hn : ¬ n < 0) (hbd : n.toNatClampNeg ≤ 65536) (hsz : s.heap.size + 1 = h0 + n0) (hc : cells = M.1.length - n0) (hn0 : n0 ≤ M.1.length) (hcells : cells + 1 ≤ R.cells) (hslots : slots + n.toNatClampNeg ≤ R.slots) (hd : decode cc pc = .ok (.anewarray idx, 3))
    (kk : ∀ H1 : Heap, pq_R D aC h0 b L xs (pq_add M (.inl (.object "PursuitDesk$State", n.toNatClampNeg))) H1 → va_S (pq_A h0) s.heap H1 locs → W p l e R s m args below meth c H1 locs (cells + 1) (slots + n.toNatClampNeg) Q (F0 m (pc + 3) ls (.ref (pq_ad h0 b M.1.length) :: r))) :
    W p l e R s m args below meth c H locs cells slots Q (F0 m pc ls (.int n :: r)) := by
  refine va_newq hx hb hown (hts _ hw) hK.2.2.1 hK.1 hR.2.1 pq_wsD hS (fun q (hq : s.heap.size ≤ q) => Nat.le_trans hK.2.2.2.2.2 hq) hn rfl (by omega) hcells hslots hd (fun q cA H1 hK1 hP1 hD1 hS1 => ?_)
  have hcA := pq_RA (t0 := 3) hK.1 rfl hK1
  subst hcA
  intro T hT X
  have hq := pq_addr X hT hP1 hD1 hsz (by rw [hc]) hn0 hR.1
  subst hq
  refine kk H1 (hR.added ?_ (fun n ty h => by cases h; exact Or.inr (Or.inr (Or.inr rfl)))) hS1 T hT X
  rw [pq_cell_a pq_add_new]
  have e : pq_av h0 b (pq_add M (.inl (.object "PursuitDesk$State", n.toNatClampNeg))) (.object "PursuitDesk$State") M.1.length = .inr (.inr (.inr (.inr (fun _ => none)))) := by
    show Sum.inr (Sum.inr (Sum.inr (Sum.inr _))) = _
    congr 4
    funext k
    simp [pq_add, pq_blank]
  rw [e]
  exact hP1
end PQ4
end
section
theorem kz_int : Cond.arrayClass .int ∈ lw_g := lw_in 82 (by decide +kernel) (by decide +kernel)
theorem kz_long : Cond.arrayClass .long ∈ lw_g := lw_in 83 (by decide +kernel) (by decide +kernel)
theorem kz_char : Cond.arrayClass .char ∈ lw_g := lw_in 204 (by decide +kernel) (by decide +kernel)
theorem pq_tot_add (M : pq_M) (sh : pq_S) : pq_tot (pq_add M sh).1 = pq_tot M.1 + pq_sz sh := by simp [pq_tot, pq_add]
section PQ5
variable {p : Program} {l : Launch} {e : Env} {R : Room} {s : State} {m : MethodId} {args : Array Value} {below : List Frame} {meth : Method} {c : Code} {H : Heap} {locs : List Loc} {cells slots : Nat} {Q : State → Prop}
  {cc : ByteArray} {D : va_G} {aC : FieldType → ClassId} {xs : Nat → Int32} {h0 b L pc nL : Nat} {own : String} {ini : Bool} {ls : Array Slot} {r : List Value} {M M' : pq_M}
set_option maxHeartbeats 4000000 in
theorem pq_s3 (hx : p.tables.exec = Jvm.exec) (hb : c.code = cc) (hml : c.maxLocals = ls.size) (hts : ∀ w ∈ lw_g, w.before args s = true) (hown : s.vm.findClass own = some m.cls) (hini : ini = true → meth.name = "<init>") (hK : pq_K D aC h0 b L xs s) (hR : pq_R D aC h0 b L xs M H) (hS : va_S (pq_A h0) s.heap H locs)
    {ins : Instr} {lk : List (Nat × Nat)} {st st' : List Value} {nx na n0 t0 : Nat} {v0 : Value} (h : pq_x3 ins lk st M = some (st', M')) (hd : decode cc pc = .ok (ins, pq_len ins)) (hok : pq_ok own ini (pc, ins, nx, na, lk, v0))
    (hfr : 1 ≤ R.frames) (hlo : 100 ≤ R.locals) (hce : M'.1.length - n0 ≤ R.cells) (hsl : pq_tot M'.1 - t0 ≤ R.slots) (hn0 : n0 ≤ M.1.length) (ht0 : t0 ≤ pq_tot M.1) (hsz : s.heap.size + 1 = h0 + n0)
    (k : ∀ (H1 : Heap) (locs1 : List Loc), pq_R D aC h0 b L xs M' H1 → va_S (pq_A h0) s.heap H1 locs1 → W p l e R s m args below meth c H1 locs1 (M'.1.length - n0) (pq_tot M'.1 - t0) Q (F0 m (pc + pq_len ins) ls (st'.map (pq_rv h0 b)))) :
    W p l e R s m args below meth c H locs (M.1.length - n0) (pq_tot M.1 - t0) Q (F0 m pc ls (st.map (pq_rv h0 b))) := by
  cases ins
  all_goals try exact pq_nn h
  case getfield idx =>
    simp only [pq_x3] at h
    split at h
    · rename_i q r2
      split at h
      · rename_i ci hsh
        split at h
        · rename_i kf h1
          have hv : st' = pq_rf M ci q kf :: r2 ∧ M' = M := by
            split at h
            · rename_i e; cases h; exact ⟨by rw [e], rfl⟩
            · rename_i e; cases h; exact ⟨by rw [e], rfl⟩
            · rename_i e; cases h; exact ⟨by rw [e], rfl⟩
            · rename_i e; cases h; exact ⟨by rw [e], rfl⟩
            · cases h
          obtain ⟨rfl, rfl⟩ := hv
          exact pq_get hx hb hts hown hK.1 hR hsh (hok _ (pq_lku h1)) hd (k H locs hR hS)
        · cases h
      · cases h
    · cases h
  case putfield idx =>
    simp only [pq_x3] at h
    split at h
    · rename_i w q r2
      split at h
      · rename_i ci hsh
        split at h
        · rename_i kf hlk
          split at h
          · rename_i M2 h1
            cases h
            obtain ⟨ty, -, hoff, -, -, -⟩ := pq_wf_ok (h0 := h0) (b := b) h1
            rw [hoff.1] at k
            exact pq_put hx hb hts hown hK.1 hR hS hini hsh (hok _ (pq_lku hlk)) h1 hd k
          · cases h
        · cases h
      · cases h
    · cases h
  case iaload =>
    simp only [pq_x3] at h
    split at h
    · rename_i i q r2
      split at h
      · rename_i ha
        cases h
        exact pq_ald hx hb hK hR hS ha hd (k H locs hR hS)
      · cases h
    · cases h
  case caload =>
    simp only [pq_x3] at h
    split at h
    · rename_i i q r2
      split at h
      · rename_i ha
        cases h
        exact pq_cald hx hb hK hR ha hd (k H locs hR hS)
      · cases h
    · cases h
  case laload =>
    simp only [pq_x3] at h
    split at h
    · rename_i i q r2
      split at h
      · rename_i ha
        cases h
        exact pq_lald hx hb hK hR ha hd (k H locs hR hS)
      · cases h
    · cases h
  case aaload =>
    simp only [pq_x3] at h
    split at h
    · rename_i i q r2
      split at h
      · rename_i C ha
        cases h
        exact pq_aald hx hb hK hR ha hd (k H locs hR hS)
      · cases h
    · cases h
  case iastore =>
    simp only [pq_x3] at h
    split at h
    · rename_i x i q r2
      split at h
      · rename_i ha
        split at h
        · cases h
        · rename_i hq
          cases h
          exact pq_ist hx hb hK hR hS ha hq hd k
      · cases h
    · cases h
  case castore =>
    simp only [pq_x3] at h
    split at h
    · rename_i x i q r2
      split at h
      · rename_i ha
        split at h
        · cases h
        · rename_i hq
          cases h
          exact pq_cst hx hb hK hR hS ha hq hd k
      · cases h
    · cases h
  case lastore =>
    simp only [pq_x3] at h
    split at h
    · rename_i x i q r2
      split at h
      · rename_i ha
        split at h
        · cases h
        · rename_i hq
          cases h
          exact pq_lst hx hb hK hR hS ha hq hd k
      · cases h
    · cases h
  case aastore =>
    simp only [pq_x3] at h
    split at h
    · rename_i w i q r2
      split at h
      · rename_i C ci ha hv
        split at h
        · cases h
        · rename_i hq
          have hq0 : ¬ q = 0 := fun z => hq (Or.inl z)
          have hc3 : ci = 3 := Classical.not_not.mp fun z => hq (Or.inr z)
          subst hc3
          cases h
          exact pq_ast hx hb hK hR hS ha hv hq0 hd k
      · cases h
    · cases h
  case arraylength =>
    simp only [pq_x3] at h
    split at h
    · rename_i q r2
      split at h
      · rename_i ty n hsh
        cases h
        exact pq_aln hx hb hK hR hS hsh hd (k H locs hR hS)
      · cases h
    · cases h
  case new idx =>
    simp only [pq_x3] at h
    split at h
    case h_2 => cases h
    rename_i ci _ _
    cases h
    have hc1 : (pq_add M (.inr ci)).1.length - n0 = M.1.length - n0 + 1 := by rw [pq_add_len]; omega
    have hs1 : pq_tot (pq_add M (.inr ci)).1 - t0 = pq_tot M.1 - t0 + pq_nf ci := by rw [pq_tot_add]; show _ + pq_nf ci - _ = _; omega
    rw [hc1] at hce k
    rw [hs1] at hsl k
    exact pq_newo hx hb hts hown hK hR hS (hok _ List.mem_cons_self) hsz rfl hn0 hce hsl hd (fun H1 => k H1 locs)
  case newarray a =>
    simp only [pq_x3] at h
    split at h
    · rename_i n r2 ty hty
      split at h
      · cases h
      · rename_i hn
        cases h
        have hn1 : ¬ n < 0 := fun z => hn (Or.inl z)
        have hn2 : n.toNatClampNeg ≤ 65536 := Nat.not_lt.mp fun z => hn (Or.inr z)
        have hc1 : (pq_add M (.inl (ty, n.toNatClampNeg))).1.length - n0 = M.1.length - n0 + 1 := by rw [pq_add_len]; omega
        have hs1 : pq_tot (pq_add M (.inl (ty, n.toNatClampNeg))).1 - t0 = pq_tot M.1 - t0 + n.toNatClampNeg := by rw [pq_tot_add]; show _ + n.toNatClampNeg - _ = _; omega
        rw [hc1] at hce k
        rw [hs1] at hsl k
        cases a <;> cases hty
        · refine pq_newa (a := .char) (ty := .char) (t0 := 2) hx hb hts hK hR hS rfl kz_char rfl (Or.inr (Or.inr (Or.inl rfl))) (fun cA => ?_) hn1 hn2 (by decide) hsz rfl hn0 hce hsl hd (fun H1 => k H1 locs)
          show arrV _ _ (fun j => .int (pq_blank M.2.1 M.1.length 0 M.1.length j)) = _
          simp [pq_blank, defaultValue]
        · refine pq_newa (a := .int) (ty := .int) (t0 := 0) hx hb hts hK hR hS rfl kz_int rfl (Or.inl rfl) (fun cA => ?_) hn1 hn2 (by decide) hsz rfl hn0 hce hsl hd (fun H1 => k H1 locs)
          show arrV _ _ (fun j => .int (pq_blank M.2.1 M.1.length 0 M.1.length j)) = _
          simp [pq_blank, defaultValue]
        · refine pq_newa (a := .long) (ty := .long) (t0 := 1) hx hb hts hK hR hS rfl kz_long rfl (Or.inr (Or.inl rfl)) (fun cA => ?_) hn1 hn2 (by decide) hsz rfl hn0 hce hsl hd (fun H1 => k H1 locs)
          show arrV _ _ (fun j => .long (pq_blank M.2.2.1 M.1.length 0 M.1.length j)) = _
          simp [pq_blank, defaultValue]
    · cases h
  case anewarray idx =>
    simp only [pq_x3] at h
    split at h
    · rename_i n r2 ci _ _
      split at h
      · rename_i C hC
        split at h
        · cases h
        · rename_i hn
          have hn1 : ¬ n < 0 := fun z => hn (Or.inl z)
          have hn2 : n.toNatClampNeg ≤ 65536 := Nat.not_lt.mp fun z => hn (Or.inr z)
          obtain ⟨w1, w2⟩ := hok _ List.mem_cons_self
          cases Option.some.inj (hC.symm.trans w1)
          cases h
          have hc1 : (pq_add M (.inl (.object "PursuitDesk$State", n.toNatClampNeg))).1.length - n0 = M.1.length - n0 + 1 := by rw [pq_add_len]; omega
          have hs1 : pq_tot (pq_add M (.inl (.object "PursuitDesk$State", n.toNatClampNeg))).1 - t0 = pq_tot M.1 - t0 + n.toNatClampNeg := by rw [pq_tot_add]; show _ + n.toNatClampNeg - _ = _; omega
          rw [hc1] at hce k
          rw [hs1] at hsl k
          exact pq_newr hx hb hts hown hK hR hS w2 hn1 hn2 hsz rfl hn0 hce hsl hd (fun H1 => k H1 locs)
      · cases h
    · cases h
  case invokespecial idx =>
    simp only [pq_x3] at h
    split at h
    · rename_i q r2
      split at h
      · rename_i hcat
        cases h
        obtain ⟨w1, w2, w3⟩ := hok
        refine W.objInit hx hb hown (hts _ w1) (hts _ w2) (hts _ w3) rfl (by rw [hml]) rfl hd hfr ?_ (k H locs hR hS)
        rw [pq_rv_cats]
        show 2 * 0 + _ + 12 ≤ _
        omega
      · cases h
    · cases h
  case invokestatic idx =>
    replace h : pq_sc lk st M = some (st', M') := h
    unfold pq_sc at h
    split at h
    · split at h
      · rename_i n dp q2 sp q1 r2
        split at h
        · rename_i ta na2 tb nb e1 e2
          split at h
          · cases h
          · rename_i hg
            split at h
            · cases h
              exact pq_cpyi hx hb hml hts hown hK hR hS hok e1 e2 (fun z => hg (by simp [z])) (fun z => hg (by simp [z])) (fun z => hg (by simp [z])) (fun z => hg (by simp [z])) (fun z => hg (by simp [z])) (by omega) (by omega) hfr hlo (by rw [pq_rv_cats]; omega) hd k
            · cases h
              exact pq_cpyl hx hb hml hts hown hK hR hS hok e1 e2 (fun z => hg (by simp [z])) (fun z => hg (by simp [z])) (fun z => hg (by simp [z])) (fun z => hg (by simp [z])) (fun z => hg (by simp [z])) (by omega) (by omega) hfr hlo (by rw [pq_rv_cats]; omega) hd k
            · cases h
        · cases h
      · cases h
    · rename_i q lk2
      obtain ⟨qa, qb⟩ := q
      split at h
      · rename_i e1
        cases e1
        split at h
        · rename_i x y r2 e2
          cases pq_i2_eq e2
          split at h
          · cases h
          · rename_i hcat
            cases h
            obtain ⟨w1, w2, w3, w4⟩ := hok
            exact va_mmax hx hb hml hown (hts _ w1) (hts _ w2) (hts _ w3) (hts _ w4) hfr (by rw [pq_rv_cats]; omega) hce hsl hd (k H locs hR hS)
        · cases h
      · rename_i e1
        cases e1
        split at h
        · rename_i x y r2 e2
          cases pq_i2_eq e2
          split at h
          · cases h
          · rename_i hcat
            cases h
            obtain ⟨w1, w2, w3, w4⟩ := hok
            exact va_mmin hx hb hml hown (hts _ w1) (hts _ w2) (hts _ w3) (hts _ w4) hfr (by rw [pq_rv_cats]; omega) hce hsl hd (k H locs hR hS)
        · cases h
      · cases h

end PQ5
end
section
def pq_rm (d mc ms : Nat) : Room := { frames := d + 1, cells := mc, slots := ms, locals := 200 * (d + 1) }
def pq_Pc (D : va_G) (aC : FieldType → ClassId) (h0 b L : Nat) (xs : Nat → Int32) (as : List Value) (M : pq_M) : Array Value → State → Prop :=
  va_Pc (as.map (pq_rv h0 b)) (fun U => U.heap.size + 1 = h0 + M.1.length ∧ pq_R D aC h0 b L xs M U.heap ∧ pq_K D aC h0 b L xs U)
def pq_Qc (D : va_G) (aC : FieldType → ClassId) (h0 b L : Nat) (xs : Nat → Int32) (r : Option Value) (M' : pq_M) : Array Value → State → Outcome → State → Prop :=
  fun _ st oc t => oc = .returned (r.map (pq_rv h0 b)) ∧ pq_R D aC h0 b L xs M' t.heap ∧ va_F (pq_A h0) st t
def pq_mc (M M' : pq_M) : Nat := M'.1.length - M.1.length
def pq_ms (M M' : pq_M) : Nat := pq_tot M'.1 - pq_tot M.1
def pq_Met (l : Launch) (D : va_G) (aC : FieldType → ClassId) (h0 b L : Nat) (xs : Nat → Int32) (d j : Nat) (as : List Value) (M : pq_M) (r : Option Value) (M' : pq_M) : Prop :=
  ∀ q : pq_Q, pq_mtab[j]? = some q → pq_okM q → Met l q.2.1 (Cond.code q.2.1 q.2.2.1 q.2.2.2.1 q.2.2.2.2 :: lw_g) (pq_rm d (pq_mc M M') (pq_ms M M')) (pq_Pc D aC h0 b L xs as M) (pq_Qc D aC h0 b L xs r M') (pq_mc M M') (pq_ms M M') (pq_A h0)
theorem pq_nest_k {w : Cond} (h : w ∈ pq_nest) : (∃ (a : String) (i : Nat) (x : MethodName) (t : String), w = .methodLinkNest a i x t) ∨ ∃ x : MethodName, w = .declares x := by
  simp only [pq_nest, List.mem_cons, List.not_mem_nil, or_false] at h
  rcases h with h | h | h | h | h | h | h | h | h | h | h | h | h | h <;> subst h <;> first | exact Or.inl ⟨_, _, _, _, rfl⟩ | exact Or.inr ⟨_, rfl⟩
theorem pq_nest_warm {w : Cond} {s U : State} (h : w ∈ pq_nest) (hW : s.WarmedH U.vm) (hz : va_Nw w s) : va_Nw w U := by
  rcases pq_nest_k h with ⟨a, i, x, t, rfl⟩ | ⟨x, rfl⟩
  · exact va_Nw.warmM hW hz
  · exact va_Nw.warmD hW hz
theorem pq_nest_tab {w : Cond} (h : w ∈ pq_nest) : w.onTables = true := by
  rcases pq_nest_k h with ⟨a, i, x, t, rfl⟩ | ⟨x, rfl⟩ <;> rfl
theorem pq_good {ws : List Cond} (h : ∀ w ∈ ws, w ∈ lw_g) : GoodIn lw_g ws := fun w hw => ⟨h w hw, good_of_word (List.mem_filter.mp (h w hw)).2⟩
theorem pq_good_app {a b : List Cond} (ha : ∀ w ∈ a, w ∈ lw_g) (hb : ∀ w ∈ b, w ∈ lw_g) : ∀ w ∈ a ++ b, w ∈ lw_g := fun w h => (List.mem_append.mp h).elim (ha w) (hb w)
theorem pq_psh_rv (h0 b : Nat) (r : Option Value) (st : List Value) : (pq_psh r st).map (pq_rv h0 b) = (r.map (pq_rv h0 b)).toList ++ st.map (pq_rv h0 b) := by cases r <;> rfl
theorem pq_cn_cl {ci : Nat} {C : String} (h : pq_cn[ci]? = some C) : ∃ rc : vw_C, pq_cl[ci]? = some rc ∧ rc.1 = C := by
  match ci, h with
  | 0, h => cases h; exact ⟨_, rfl, rfl⟩
  | 1, h => cases h; exact ⟨_, rfl, rfl⟩
  | 2, h => cases h; exact ⟨_, rfl, rfl⟩
  | 3, h => cases h; exact ⟨_, rfl, rfl⟩
  | 4, h => cases h; exact ⟨_, rfl, rfl⟩
  | 5, h => cases h; exact ⟨_, rfl, rfl⟩
  | 6, h => cases h; exact ⟨_, rfl, rfl⟩
  | k + 7, h => simp [pq_cn] at h
theorem pq_K_same {D : va_G} {aC : FieldType → ClassId} {h0 b L : Nat} {xs : Nat → Int32} {U V : State} (h : pq_K D aC h0 b L xs U) (hv : U.vm = V.vm) (hh : U.heap = V.heap) : pq_K D aC h0 b L xs V := by
  have ha : U.vm.Alike V.vm := by rw [hv]; exact Vm.Alike.refl _
  obtain ⟨k1, k2, k3, k4, k5, k6⟩ := h
  exact ⟨va_K.moved ha k1, fun w hw => va_Nw.same (pq_nest_tab hw) hv (k2 w hw), va_AO.moved ha k3, by rw [← hh]; exact va_X.moved ha k4, k5, by rw [← hh]; exact k6⟩
theorem pq_K_warm {D : va_G} {aC : FieldType → ClassId} {h0 b L : Nat} {xs : Nat → Int32} {s U : State} {locs : List Loc} (h : pq_K D aC h0 b L xs s) (hW : s.WarmedH U.vm) (hS : va_S (pq_A h0) s.heap U.heap locs) : pq_K D aC h0 b L xs U := by
  obtain ⟨k1, k2, k3, k4, k5, k6⟩ := h
  refine ⟨va_K.moved hW.alike k1, fun w hw => pq_nest_warm hw hW (k2 w hw), va_AO.moved hW.alike k3, ?_, k5, Nat.le_trans k6 hS.1⟩
  exact (va_X.moved hW.alike k4).kept (hS.2.1 b (Nat.lt_of_lt_of_le k5 k6) (fun z => by have : h0 ≤ b := z; omega))
theorem pq_blind {D : va_G} {aC : FieldType → ClassId} {h0 b L : Nat} {xs : Nat → Int32} {as : List Value} {M : pq_M} : FrameBlind (pq_Pc D aC h0 b L xs as M) := by
  intro a U g mk h
  obtain ⟨h1, h2, h3, h4⟩ := h
  exact ⟨h1, h2, h3, pq_K_same h4 rfl rfl⟩
theorem pq_drop {st r : List Value} {na q : Nat} (h : st.drop na = .ref q :: r) : na < st.length ∧ st = st.take na ++ .ref q :: r := by
  constructor
  · apply Nat.lt_of_not_le; intro hle; rw [List.drop_eq_nil_of_le hle] at h; cases h
  · rw [← h, List.take_append_drop]
theorem pq_split_ok : ∀ {na : Nat} {st acc as r : List Value}, pq_split na st acc = some (as, r) → na ≤ st.length ∧ as = (st.take na).reverse ++ acc ∧ r = st.drop na := by
  intro na
  induction na with
  | zero => intro st acc as r h; cases h; exact ⟨Nat.zero_le _, rfl, rfl⟩
  | succ n ih =>
    intro st acc as r h
    cases st with
    | nil => cases h
    | cons v st =>
      obtain ⟨h1, h2, h3⟩ := ih h
      exact ⟨by simpa using h1, by rw [h2]; simp, h3⟩
theorem pq_split_nil {na : Nat} {st as r : List Value} (h : pq_split na st [] = some (as, r)) : na ≤ st.length ∧ as = (st.take na).reverse ∧ r = st.drop na := by
  obtain ⟨h1, h2, h3⟩ := pq_split_ok h
  exact ⟨h1, by rw [h2]; simp, h3⟩
theorem pq_revs (h0 b : Nat) (x : List Value) : (x.reverse.map (pq_rv h0 b)).reverse = x.map (pq_rv h0 b) := by rw [List.map_reverse, List.reverse_reverse]
section PQ6
variable {p : Program} {l : Launch} {e : Env} {R : Room} {s : State} {m : MethodId} {args : Array Value} {below : List Frame} {meth : Method} {c : Code} {H : Heap} {locs : List Loc} {cells slots : Nat} {Q : State → Prop}
  {cc : ByteArray} {D : va_G} {aC : FieldType → ClassId} {xs : Nat → Int32} {h0 b L pc nL : Nat} {own : String} {ini : Bool} {ls : Array Slot} {r : Option Value} {M M' : pq_M}
theorem pq_gocall {mc ms : Nat} {st0 rest : List Value} {a : Array Value} (hr : va_Run p l e R s m args below meth c H locs cells slots mc ms (F0 m pc ls st0) rest (pq_Qc D aC h0 b L xs r M' a) (pq_A h0)) (hS : va_S (pq_A h0) s.heap H locs)
    (kk : ∀ (H1 : Heap) (locs1 : List Loc), pq_R D aC h0 b L xs M' H1 → va_S (pq_A h0) s.heap H1 locs1 → W p l e R s m args below meth c H1 locs1 (cells + mc) (slots + ms) Q (F0 m (pc + 3) ls ((r.map (pq_rv h0 b)).toList ++ rest))) :
    W p l e R s m args below meth c H locs cells slots Q (F0 m pc ls st0) := by
  intro T hT X
  obtain ⟨v, st₀, t, T', L2, g0, X', hL, e1, e2, ⟨hv, hp, hz, hk⟩, st⟩ := hr T hT X
  cases hv
  rw [g0] at hz hk
  obtain ⟨t2, a1, b1⟩ := kk T'.heap (locs ++ L2) (by rw [e1]; exact hp)
    ⟨Nat.le_trans hS.1 (by rw [e1]; exact hz), fun q h1 h2 => by rw [e1, hk q (Nat.lt_of_lt_of_le h1 hS.1) h2]; exact hS.2.1 q h1 h2, fun q hq => by
      rcases List.mem_append.mp hq with h | h
      · exact hS.2.2 q h
      · exact hL q h⟩ T' rfl X'
  exact ⟨t2, st t2 a1, b1⟩
theorem pq_pre (hK : pq_K D aC h0 b L xs s) (hR : pq_R D aC h0 b L xs M H) (hS : va_S (pq_A h0) s.heap H locs) (hHs : H.size + 1 = h0 + M.1.length) {as : List Value} : ∀ U : State, U.heap = H → s.WarmedH U.vm → pq_Pc D aC h0 b L xs as M (as.map (pq_rv h0 b)).toArray U := by
  intro U hU hW
  subst hU
  exact ⟨rfl, hHs, hR, pq_K_warm hK hW hS⟩
set_option maxHeartbeats 4000000 in
theorem pq_s5 (hx : p.tables.exec = Jvm.exec) (hb : c.code = cc) (hml : c.maxLocals = ls.size) (hts : ∀ w ∈ lw_g, w.before args s = true) (hown : s.vm.findClass own = some m.cls) (hK : pq_K D aC h0 b L xs s) (hR : pq_R D aC h0 b L xs M H) (hS : va_S (pq_A h0) s.heap H locs)
    {ins : Instr} {lk : List (Nat × Nat)} {st as rest : List Value} {nx na d j : Nat} {v0 : Value} (h : pq_x5 ins na lk st M = some (j, as, rest)) (hd : decode cc pc = .ok (ins, pq_len ins)) (hok : pq_ok own ini (pc, ins, nx, na, lk, v0))
    (hM : pq_Met l D aC h0 b L xs d j as M r M') (hHs : H.size + 1 = h0 + M.1.length) (hfr : d + 2 ≤ R.frames) (hlo : 200 * (d + 2) ≤ R.locals) (hce : cells + pq_mc M M' ≤ R.cells) (hsl : slots + pq_ms M M' ≤ R.slots)
    (k : ∀ (H1 : Heap) (locs1 : List Loc), pq_R D aC h0 b L xs M' H1 → va_S (pq_A h0) s.heap H1 locs1 → W p l e R s m args below meth c H1 locs1 (cells + pq_mc M M') (slots + pq_ms M M') Q (F0 m (pc + pq_len ins) ls ((pq_psh r rest).map (pq_rv h0 b)))) :
    W p l e R s m args below meth c H locs cells slots Q (F0 m pc ls (st.map (pq_rv h0 b))) := by
  have hroom : ∀ n : Nat, n ≤ 100 → (pq_rm d (pq_mc M M') (pq_ms M M')).frames + 1 ≤ R.frames ∧ 8 + (n + 11) + (pq_rm d (pq_mc M M') (pq_ms M M')).locals ≤ R.locals := fun n hn => ⟨hfr, by show 8 + (n + 11) + 200 * (d + 1) ≤ R.locals; omega⟩
  have hself : ∀ w ∈ lw_g, w ∈ lw_g := fun _ h => h
  cases ins
  all_goals try exact pq_nn h
  case invokestatic idx =>
    simp only [pq_x5] at h
    split at h
    · rename_i qa qb lk2 as2 r2 hspl
      obtain ⟨hq1, rfl, rfl⟩ := pq_split_nil hspl
      split at h
      · rename_i hq
        obtain ⟨hq0, hq2⟩ := hq
        subst hq0
        cases h
        obtain ⟨q, hq, hokM, hdm, w1, w2, w3⟩ := hok
        have hws : ∀ w ∈ Cond.code q.2.1 q.2.2.1 q.2.2.2.1 q.2.2.2.2 :: lw_g, w ∈ lw_g := fun w h => (List.mem_cons.mp h).elim (fun e => e ▸ hokM.1) id
        have hG : GoodIn lw_g (va_wsS own idx q.2.1 (Cond.code q.2.1 q.2.2.1 q.2.2.2.1 q.2.2.2.2 :: lw_g)) := pq_good (pq_good_app (pq_ac w1 (pq_ac w2 (pq_ac w3 pq_an))) hws)
        refine pq_gocall (va_runS (rest := (st.drop na).map (pq_rv h0 b)) ⟨hx, hb, hml, hown, hts⟩ (hM q hq hokM) (va_cwS na hts hG rfl rfl rfl ⟨hokM.2.2.2.1, hokM.2.2.2.2, hdm⟩ (hroom _ hokM.2.2.1)) ⟨pq_blind, pq_pre hK hR hS hHs⟩ rfl (by simp; omega) rfl ?_ (lv_room (by rw [pq_rv_cats]; exact hq2)) hd ⟨hce, hsl⟩) hS (fun H1 locs1 a1 a2 => ?_)
        · show st.map (pq_rv h0 b) = _
          rw [pq_revs, ← List.map_append, List.take_append_drop]
        · rw [← pq_psh_rv]; exact k H1 locs1 a1 a2
      · cases h
    · cases h
  case invokevirtual idx =>
    simp only [pq_x5] at h
    split at h
    · rename_i as2 q r2 hspl
      obtain ⟨hle, rfl, hdr⟩ := pq_split_nil hspl
      replace hdr := hdr.symm
      split at h
      · rename_i ci hsh
        split at h
        · rename_i j2 hlk
          split at h
          · rename_i hcat
            cases h
            obtain ⟨hlt, hst⟩ := pq_drop hdr
            obtain ⟨Qm, C, hq, hC, hokM, hkind⟩ := hok _ (pq_lku hlk)
            obtain ⟨rc, hcl, hrcC⟩ := pq_cn_cl hC
            have hq0 : ¬ q = 0 := fun e => by rw [e, hR.2.2.1] at hsh; cases hsh
            have he := pq_ws_at (aC := aC) (h0 := h0) (b := b) hq0 (pq_lt hsh)
            rw [pq_cell_o hsh] at he
            have hrecv := va_recv hK.1 hR.2.1 hcl he
            rw [hrcC] at hrecv
            have hws : ∀ w ∈ Cond.code Qm.2.1 Qm.2.2.1 Qm.2.2.2.1 Qm.2.2.2.2 :: lw_g, w ∈ lw_g := fun w h => (List.mem_cons.mp h).elim (fun e => e ▸ hokM.1) id
            have hstk : st.map (pq_rv h0 b) = (((st.take na).reverse).map (pq_rv h0 b)).reverse ++ .ref (pq_ad h0 b q) :: rest.map (pq_rv h0 b) := by
              rw [pq_revs]
              conv => lhs; rw [hst]
              rw [List.map_append]; rfl
            have hlen : ((st.take na).reverse.map (pq_rv h0 b)).length = na := by simp; omega
            have hcat2 : ((rest.map (pq_rv h0 b)).map fun v => v.category).sum ≤ 8 := by rw [pq_rv_cats]; exact hcat
            have hpv : PreV s H C (pq_ad h0 b q) (pq_Pc D aC h0 b L xs (.ref q :: (st.take na).reverse) M) ((st.take na).reverse.map (pq_rv h0 b)) := ⟨pq_blind, hrecv, pq_pre hK hR hS hHs⟩
            rcases hkind with ⟨e1, hdm, w1, w2, w3, w4⟩ | ⟨owner, x, hnc, hdm, w1, w2, w3, w4, w5, hlast⟩
            · have hG : GoodIn lw_g (wsV own idx C Qm.2.1 (Cond.code Qm.2.1 Qm.2.2.1 Qm.2.2.2.1 Qm.2.2.2.2 :: lw_g)) := pq_good (pq_good_app (pq_ac w1 (pq_ac w2 (pq_ac w3 (pq_ac w4 pq_an)))) hws)
              refine pq_gocall (va_runV (As := (st.take na).reverse.map (pq_rv h0 b)) (rest := rest.map (pq_rv h0 b)) ⟨hx, hb, hml, hown, hts⟩ (hM Qm hq hokM) (cwV na hts hG rfl rfl rfl ⟨e1, hokM.2.2.2.1, hokM.2.2.2.2, hdm⟩ (hroom _ hokM.2.2.1)) hpv rfl hlen rfl hstk (lv_room hcat2) hd ⟨hce, hsl⟩) hS (fun H1 locs1 a1 a2 => ?_)
              rw [← pq_psh_rv]; exact k H1 locs1 a1 a2
            · have hG : GoodIn lw_g (va_wsU own idx C owner x Qm.2.1 (Cond.code Qm.2.1 Qm.2.2.1 Qm.2.2.2.1 Qm.2.2.2.2 :: lw_g)) := pq_good (pq_good_app (pq_ac w1 (pq_ac w2 (pq_ac w3 (pq_ac w4 (pq_ac w5 pq_an))))) hws)
              have hcu : va_CU R s args own C owner idx x Qm.2.1 Qm.2.2.1 Qm.2.2.2.1 Qm.2.2.2.2 (Cond.code Qm.2.1 Qm.2.2.1 Qm.2.2.2.1 Qm.2.2.2.2 :: lw_g) (pq_rm d (pq_mc M M') (pq_ms M M')) (pq_mc M M') (pq_ms M M') na := by
                rcases hlast with hy | hz
                · exact va_cwU na hts hG rfl rfl rfl hy ⟨hnc.1, hnc.2, hdm⟩ (hroom _ hokM.2.2.1)
                · exact va_cwA na hts hG rfl rfl rfl (hK.2.1 _ hz) ⟨hnc.1, hnc.2, hdm⟩ (hroom _ hokM.2.2.1)
              refine pq_gocall (va_runU (As := (st.take na).reverse.map (pq_rv h0 b)) (rest := rest.map (pq_rv h0 b)) ⟨hx, hb, hml, hown, hts⟩ (hM Qm hq hokM) hcu hpv rfl hlen rfl hstk (lv_room hcat2) hd ⟨hce, hsl⟩) hS (fun H1 locs1 a1 a2 => ?_)
              rw [← pq_psh_rv]; exact k H1 locs1 a1 a2
          · cases h
        · cases h
      · cases h
    · cases h
  case invokespecial idx =>
    simp only [pq_x5] at h
    split at h
    · rename_i as2 q r2 hspl
      obtain ⟨hle, rfl, hdr⟩ := pq_split_nil hspl
      replace hdr := hdr.symm
      split at h
      · rename_i ci hsh
        split at h
        · rename_i j2 hlk
          split at h
          · rename_i hcat
            cases h
            obtain ⟨hlt, hst⟩ := pq_drop hdr
            have hmem := pq_lku hlk
            have hok2 : pq_okI own idx na j := by
              cases lk with
              | nil => cases hmem
              | cons a t => exact hok _ hmem
            obtain ⟨⟨o, y, bytes, maxL, rt⟩, hq, hokM, hret, hnm, hdm, w1, w2, hlink⟩ := hok2
            dsimp only at hret hnm hdm w1 w2 hlink
            subst hret
            have hws : ∀ w ∈ Cond.code y bytes maxL none :: lw_g, w ∈ lw_g := fun w h => (List.mem_cons.mp h).elim (fun e => e ▸ hokM.1) id
            have hstk : st.map (pq_rv h0 b) = (((st.take na).reverse).map (pq_rv h0 b)).reverse ++ .ref (pq_ad h0 b q) :: rest.map (pq_rv h0 b) := by
              rw [pq_revs]
              conv => lhs; rw [hst]
              rw [List.map_append]; rfl
            have hlen : ((st.take na).reverse.map (pq_rv h0 b)).length = na := by simp; omega
            have hcat2 : ((rest.map (pq_rv h0 b)).map fun v => v.category).sum ≤ 8 := by rw [pq_rv_cats]; exact hcat
            have hps : PreS s H (pq_Pc D aC h0 b L xs (.ref q :: (st.take na).reverse) M) (.ref (pq_ad h0 b q) :: (st.take na).reverse.map (pq_rv h0 b)) := ⟨pq_blind, pq_pre hK hR hS hHs⟩
            rcases hlink with hl | ⟨host, hl⟩
            · refine pq_gocall (va_runI (As := (st.take na).reverse.map (pq_rv h0 b)) (rest := rest.map (pq_rv h0 b)) ⟨hx, hb, hml, hown, hts⟩ (hM _ hq hokM) (cwI na hts (pq_good hws) rfl rfl rfl (hts _ w2) (hts _ hl) (hts _ w1) hnm ⟨hokM.2.2.2.1, hokM.2.2.2.2, hdm⟩ (hroom _ hokM.2.2.1)) hps rfl hlen rfl hstk (lv_room hcat2) hd ⟨hce, hsl⟩) hS (fun H1 locs1 a1 a2 => ?_)
              rw [← pq_psh_rv]; exact k H1 locs1 a1 a2
            · refine pq_gocall (va_runIN (host := host) (As := (st.take na).reverse.map (pq_rv h0 b)) (rest := rest.map (pq_rv h0 b)) ⟨hx, hb, hml, hown, hts⟩ (hM _ hq hokM) ⟨va_cnB na hts (pq_good hws) rfl rfl rfl (hK.2.1 _ hl) (hts _ w2) ⟨hokM.2.2.2.1, hokM.2.2.2.2, hdm⟩ (hroom _ hokM.2.2.1), hnm, hts _ w1⟩ hps rfl hlen rfl hstk (lv_room hcat2) hd ⟨hce, hsl⟩) hS (fun H1 locs1 a1 a2 => ?_)
              rw [← pq_psh_rv]; exact k H1 locs1 a1 a2
          · cases h
        · cases h
      · cases h
    · cases h
end PQ6
end
section
def pq_tab1 (x : List pq_E × pq_Q) : Prop := x.1.all (pq_dc x.2.2.2.1 x.2.2.2.2.2) = true ∧ ∃ ini : Bool, (ini = true → x.2.2.1.name = "<init>") ∧ ∀ e ∈ x.1, pq_ok x.2.2.1.cls ini e
set_option maxRecDepth 100000 in
theorem pq_tab : ∀ x ∈ List.zip pq_ctab pq_mtab, pq_tab1 x := pq_ac ⟨dk_0, false, (fun h => nomatch h), ck_0⟩ (pq_ac ⟨dk_1, false, (fun h => nomatch h), ck_1⟩ (pq_ac ⟨dk_2, false, (fun h => nomatch h), ck_2⟩ (pq_ac ⟨dk_3, false, (fun h => nomatch h), ck_3⟩ (pq_ac ⟨dk_4, false, (fun h => nomatch h), ck_4⟩ (pq_ac ⟨dk_5, false, (fun h => nomatch h), ck_5⟩ (pq_ac ⟨dk_6, false, (fun h => nomatch h), ck_6⟩ (pq_ac ⟨dk_7, false, (fun h => nomatch h), ck_7⟩ (pq_ac ⟨dk_8, false, (fun h => nomatch h), ck_8⟩ (pq_ac ⟨dk_9, false, (fun h => nomatch h), ck_9⟩ (pq_ac ⟨dk_10, true, (fun _ => rfl), ck_10⟩ (pq_ac ⟨dk_11, false, (fun h => nomatch h), ck_11⟩ (pq_ac ⟨dk_12, false, (fun h => nomatch h), ck_12⟩ (pq_ac ⟨dk_13, false, (fun h => nomatch h), ck_13⟩ (pq_ac ⟨dk_14, false, (fun h => nomatch h), ck_14⟩ (pq_ac ⟨dk_15, false, (fun h => nomatch h), ck_15⟩ (pq_ac ⟨dk_16, false, (fun h => nomatch h), ck_16⟩ (pq_ac ⟨dk_17, false, (fun h => nomatch h), ck_17⟩ (pq_ac ⟨dk_18, false, (fun h => nomatch h), ck_18⟩ (pq_ac ⟨dk_19, true, (fun _ => rfl), ck_19⟩ (pq_ac ⟨dk_20, false, (fun h => nomatch h), ck_20⟩ (pq_ac ⟨dk_21, false, (fun h => nomatch h), ck_21⟩ (pq_ac ⟨dk_22, false, (fun h => nomatch h), ck_22⟩ (pq_ac ⟨dk_23, false, (fun h => nomatch h), ck_23⟩ (pq_ac ⟨dk_24, false, (fun h => nomatch h), ck_24⟩ (pq_ac ⟨dk_25, false, (fun h => nomatch h), ck_25⟩ (pq_ac ⟨dk_26, false, (fun h => nomatch h), ck_26⟩ (pq_ac ⟨dk_27, false, (fun h => nomatch h), ck_27⟩ (pq_ac ⟨dk_28, true, (fun _ => rfl), ck_28⟩ (pq_ac ⟨dk_29, false, (fun h => nomatch h), ck_29⟩ (pq_ac ⟨dk_30, false, (fun h => nomatch h), ck_30⟩ (pq_ac ⟨dk_31, false, (fun h => nomatch h), ck_31⟩ (pq_ac ⟨dk_32, false, (fun h => nomatch h), ck_32⟩ (pq_ac ⟨dk_33, false, (fun h => nomatch h), ck_33⟩ (pq_ac ⟨dk_34, false, (fun h => nomatch h), ck_34⟩ (pq_ac ⟨dk_35, false, (fun h => nomatch h), ck_35⟩ (pq_ac ⟨dk_36, true, (fun _ => rfl), ck_36⟩ (pq_ac ⟨dk_37, false, (fun h => nomatch h), ck_37⟩ (pq_ac ⟨dk_38, false, (fun h => nomatch h), ck_38⟩ (pq_ac ⟨dk_39, false, (fun h => nomatch h), ck_39⟩ (pq_ac ⟨dk_40, false, (fun h => nomatch h), ck_40⟩ (pq_ac ⟨dk_41, false, (fun h => nomatch h), ck_41⟩ (pq_ac ⟨dk_42, false, (fun h => nomatch h), ck_42⟩ (pq_ac ⟨dk_43, false, (fun h => nomatch h), ck_43⟩ (pq_ac ⟨dk_44, false, (fun h => nomatch h), ck_44⟩ (pq_ac ⟨dk_45, true, (fun _ => rfl), ck_45⟩ (pq_ac ⟨dk_46, false, (fun h => nomatch h), ck_46⟩ (pq_ac ⟨dk_47, false, (fun h => nomatch h), ck_47⟩ (pq_ac ⟨dk_48, false, (fun h => nomatch h), ck_48⟩ (pq_ac ⟨dk_49, true, (fun _ => rfl), ck_49⟩ (pq_ac ⟨dk_50, false, (fun h => nomatch h), ck_50⟩ (pq_ac ⟨dk_51, false, (fun h => nomatch h), ck_51⟩ (pq_ac ⟨dk_52, false, (fun h => nomatch h), ck_52⟩ (pq_ac ⟨dk_53, false, (fun h => nomatch h), ck_53⟩ (pq_ac ⟨dk_54, false, (fun h => nomatch h), ck_54⟩ (pq_ac ⟨dk_55, false, (fun h => nomatch h), ck_55⟩ (pq_ac ⟨dk_56, false, (fun h => nomatch h), ck_56⟩ (pq_ac ⟨dk_57, false, (fun h => nomatch h), ck_57⟩ (pq_ac ⟨dk_58, false, (fun h => nomatch h), ck_58⟩ (pq_ac ⟨dk_59, false, (fun h => nomatch h), ck_59⟩ (pq_ac ⟨dk_60, false, (fun h => nomatch h), ck_60⟩ (pq_ac ⟨dk_61, false, (fun h => nomatch h), ck_61⟩ (pq_ac ⟨dk_62, true, (fun _ => rfl), ck_62⟩ (pq_ac ⟨dk_63, false, (fun h => nomatch h), ck_63⟩ (pq_ac ⟨dk_64, false, (fun h => nomatch h), ck_64⟩ (pq_ac ⟨dk_65, false, (fun h => nomatch h), ck_65⟩ (pq_ac ⟨dk_66, false, (fun h => nomatch h), ck_66⟩ (pq_ac ⟨dk_67, false, (fun h => nomatch h), ck_67⟩ (pq_ac ⟨dk_68, false, (fun h => nomatch h), ck_68⟩ (pq_ac ⟨dk_69, false, (fun h => nomatch h), ck_69⟩ (pq_ac ⟨dk_70, false, (fun h => nomatch h), ck_70⟩ (pq_ac ⟨dk_71, false, (fun h => nomatch h), ck_71⟩ (pq_ac ⟨dk_72, false, (fun h => nomatch h), ck_72⟩ (pq_ac ⟨dk_73, false, (fun h => nomatch h), ck_73⟩ (pq_ac ⟨dk_74, false, (fun h => nomatch h), ck_74⟩ (pq_ac ⟨dk_75, false, (fun h => nomatch h), ck_75⟩ (pq_ac ⟨dk_76, false, (fun h => nomatch h), ck_76⟩ (pq_ac ⟨dk_77, false, (fun h => nomatch h), ck_77⟩ (pq_ac ⟨dk_78, false, (fun h => nomatch h), ck_78⟩ (pq_ac ⟨dk_79, false, (fun h => nomatch h), ck_79⟩ (pq_ac ⟨dk_80, false, (fun h => nomatch h), ck_80⟩ (pq_ac ⟨dk_81, false, (fun h => nomatch h), ck_81⟩ (pq_ac ⟨dk_82, false, (fun h => nomatch h), ck_82⟩ (pq_ac ⟨dk_83, false, (fun h => nomatch h), ck_83⟩ (pq_ac ⟨dk_84, false, (fun h => nomatch h), ck_84⟩ (pq_ac ⟨dk_85, false, (fun h => nomatch h), ck_85⟩ (pq_ac ⟨dk_86, false, (fun h => nomatch h), ck_86⟩ (pq_ac ⟨dk_87, false, (fun h => nomatch h), ck_87⟩ (pq_ac ⟨dk_88, false, (fun h => nomatch h), ck_88⟩ (pq_ac ⟨dk_89, false, (fun h => nomatch h), ck_89⟩ (pq_ac ⟨dk_90, false, (fun h => nomatch h), ck_90⟩ (pq_ac ⟨dk_91, false, (fun h => nomatch h), ck_91⟩ (pq_ac ⟨dk_92, false, (fun h => nomatch h), ck_92⟩ (pq_ac ⟨dk_93, false, (fun h => nomatch h), ck_93⟩ (pq_ac ⟨dk_94, false, (fun h => nomatch h), ck_94⟩ (pq_ac ⟨dk_95, false, (fun h => nomatch h), ck_95⟩ (pq_ac ⟨dk_96, false, (fun h => nomatch h), ck_96⟩ (pq_ac ⟨dk_97, false, (fun h => nomatch h), ck_97⟩ (pq_ac ⟨dk_98, false, (fun h => nomatch h), ck_98⟩ (pq_ac ⟨dk_99, false, (fun h => nomatch h), ck_99⟩ (pq_ac ⟨dk_100, true, (fun _ => rfl), ck_100⟩ (pq_ac ⟨dk_101, false, (fun h => nomatch h), ck_101⟩ (pq_ac ⟨dk_102, false, (fun h => nomatch h), ck_102⟩ (pq_ac ⟨dk_103, false, (fun h => nomatch h), ck_103⟩ (pq_ac ⟨dk_104, false, (fun h => nomatch h), ck_104⟩ (pq_ac ⟨dk_105, false, (fun h => nomatch h), ck_105⟩ (pq_ac ⟨dk_106, false, (fun h => nomatch h), ck_106⟩ (pq_ac ⟨dk_107, false, (fun h => nomatch h), ck_107⟩ (pq_ac ⟨dk_108, false, (fun h => nomatch h), ck_108⟩ (pq_ac ⟨dk_109, false, (fun h => nomatch h), ck_109⟩ (pq_ac ⟨dk_110, false, (fun h => nomatch h), ck_110⟩ (pq_ac ⟨dk_111, false, (fun h => nomatch h), ck_111⟩ (pq_ac ⟨dk_112, false, (fun h => nomatch h), ck_112⟩ (pq_ac ⟨dk_113, false, (fun h => nomatch h), ck_113⟩ (pq_ac ⟨dk_114, false, (fun h => nomatch h), ck_114⟩ (pq_ac ⟨dk_115, false, (fun h => nomatch h), ck_115⟩ (pq_ac ⟨dk_116, false, (fun h => nomatch h), ck_116⟩ (pq_ac ⟨dk_117, false, (fun h => nomatch h), ck_117⟩ (pq_ac ⟨dk_118, false, (fun h => nomatch h), ck_118⟩ (pq_ac ⟨dk_119, false, (fun h => nomatch h), ck_119⟩ (pq_ac ⟨dk_120, false, (fun h => nomatch h), ck_120⟩ (pq_ac ⟨dk_121, false, (fun h => nomatch h), ck_121⟩ (pq_ac ⟨dk_122, false, (fun h => nomatch h), ck_122⟩ (pq_ac ⟨dk_123, false, (fun h => nomatch h), ck_123⟩ (pq_ac ⟨dk_124, false, (fun h => nomatch h), ck_124⟩ (pq_ac ⟨dk_125, false, (fun h => nomatch h), ck_125⟩ (pq_ac ⟨dk_126, false, (fun h => nomatch h), ck_126⟩ (pq_ac ⟨dk_127, false, (fun h => nomatch h), ck_127⟩ (pq_ac ⟨dk_128, false, (fun h => nomatch h), ck_128⟩ (pq_ac ⟨dk_129, false, (fun h => nomatch h), ck_129⟩ (pq_ac ⟨dk_130, false, (fun h => nomatch h), ck_130⟩ (pq_ac ⟨dk_131, false, (fun h => nomatch h), ck_131⟩ (pq_ac ⟨dk_132, false, (fun h => nomatch h), ck_132⟩ (pq_ac ⟨dk_133, false, (fun h => nomatch h), ck_133⟩ (pq_ac ⟨dk_134, false, (fun h => nomatch h), ck_134⟩ (pq_ac ⟨dk_135, false, (fun h => nomatch h), ck_135⟩ (pq_ac ⟨dk_136, false, (fun h => nomatch h), ck_136⟩ (pq_ac ⟨dk_137, false, (fun h => nomatch h), ck_137⟩ (pq_ac ⟨dk_138, false, (fun h => nomatch h), ck_138⟩ (pq_ac ⟨dk_139, false, (fun h => nomatch h), ck_139⟩ (pq_ac ⟨dk_140, false, (fun h => nomatch h), ck_140⟩ (pq_ac ⟨dk_141, false, (fun h => nomatch h), ck_141⟩ (pq_ac ⟨dk_142, false, (fun h => nomatch h), ck_142⟩ (pq_ac ⟨dk_143, false, (fun h => nomatch h), ck_143⟩ (pq_ac ⟨dk_144, false, (fun h => nomatch h), ck_144⟩ (pq_ac ⟨dk_145, false, (fun h => nomatch h), ck_145⟩ (pq_ac ⟨dk_146, false, (fun h => nomatch h), ck_146⟩ (pq_ac ⟨dk_147, false, (fun h => nomatch h), ck_147⟩ (pq_ac ⟨dk_148, false, (fun h => nomatch h), ck_148⟩ (pq_ac ⟨dk_149, false, (fun h => nomatch h), ck_149⟩ (pq_ac ⟨dk_150, false, (fun h => nomatch h), ck_150⟩ (pq_ac ⟨dk_151, false, (fun h => nomatch h), ck_151⟩ (pq_ac ⟨dk_152, false, (fun h => nomatch h), ck_152⟩ (pq_ac ⟨dk_153, false, (fun h => nomatch h), ck_153⟩ (pq_ac ⟨dk_154, false, (fun h => nomatch h), ck_154⟩ (pq_ac ⟨dk_155, false, (fun h => nomatch h), ck_155⟩ (pq_ac ⟨dk_156, false, (fun h => nomatch h), ck_156⟩ (pq_an)))))))))))))))))))))))))))))))))))))))))))))))))))))))))))))))))))))))))))))))))))))))))))))))))))))))))))))))))))))))))))))))))))))))))))))))))))))))))))))
theorem pq_tab_at {j : Nat} {ct : List pq_E} {q : pq_Q} (h1 : pq_ctab[j]? = some ct) (h2 : pq_mtab[j]? = some q) : pq_tab1 (ct, q) :=
  pq_tab _ (List.mem_of_getElem? (i := j) (List.getElem?_zip_eq_some.mpr ⟨h1, h2⟩))
theorem pq_find_ok {pc : Nat} {e : pq_E} : ∀ {ct : List pq_E}, pq_find ct pc = some e → e ∈ ct ∧ e.1 = pc := by
  intro ct
  induction ct with
  | nil => intro h; cases h
  | cons a r ih =>
    intro h
    unfold pq_find at h
    split at h
    · rename_i e1; cases h; exact ⟨List.mem_cons_self, e1⟩
    · exact ⟨List.mem_cons_of_mem _ (ih h).1, (ih h).2⟩
theorem pq_fetch_ok {j pc : Nat} {e : pq_E} (h : pq_fetch j pc = some e) : ∃ ct, pq_ctab[j]? = some ct ∧ e ∈ ct ∧ e.1 = pc := by
  unfold pq_fetch at h
  split at h
  · rename_i ct e1; exact ⟨ct, e1, pq_find_ok h⟩
  · cases h
theorem pq_dc_ok {b : ByteArray} {ret : Option FieldType} {e : pq_E} (h : pq_dc b ret e = true) : ∃ len, decode b e.1 = .ok (e.2.1, len) ∧ e.2.2.1 = e.1 + len ∧ (len = pq_len e.2.1 ∨ pq_len e.2.1 = 0) ∧ pq_cb ret e = true := by
  unfold pq_dc at h
  split at h
  · rename_i i n e1
    simp only [Bool.and_eq_true, Bool.or_eq_true, decide_eq_true_eq] at h
    obtain ⟨⟨⟨h1, h2⟩, h3⟩, h4⟩ := h
    subst h1
    exact ⟨n, e1, h2, h3, h4⟩
  · cases h
theorem pq_len0 {i : Instr} (h : pq_len i = 0) : ∃ (a b c : Int) (d : Array Int), i = .tableswitch a b c d := by
  cases i <;> first | exact ⟨_, _, _, _, rfl⟩ | (exfalso; revert h; unfold pq_len; simp)
theorem pq_exec_inl {e : pq_E} {l : pq_L} {st : List Value} {M : pq_M} {c : Nat × pq_L × List Value × pq_M} (h : pq_exec e l st M = some (.inl c)) :
    (∃ q, pq_x1 e.2.1 e.2.2.2.2.2 l st = some q ∧ c = (e.2.2.1, q.1, q.2, M)) ∨ (∃ q, pq_x2 e.2.1 e.2.2.1 e.2.2.2.2.1 st = some q ∧ c = (q.1, l, q.2, M)) ∨ (∃ q, pq_x3 e.2.1 e.2.2.2.2.1 st M = some q ∧ c = (e.2.2.1, l, q.1, q.2)) := by
  obtain ⟨pc, ins, nx, na, lk, v⟩ := e
  simp only [pq_exec] at h
  split at h
  · rename_i q1 q2 e1; cases h; exact Or.inl ⟨(q1, q2), e1, rfl⟩
  · split at h
    · rename_i q1 q2 e1; cases h; exact Or.inr (Or.inl ⟨(q1, q2), e1, rfl⟩)
    · split at h
      · rename_i q1 q2 e1; cases h; exact Or.inr (Or.inr ⟨(q1, q2), e1, rfl⟩)
      · split at h
        · cases h
        · split at h <;> cases h
theorem pq_exec_ret {e : pq_E} {l : pq_L} {st : List Value} {M : pq_M} {r : Option Value} (h : pq_exec e l st M = some (.inr (.inl r))) : pq_x4 e.2.1 e.2.2.2.1 st = some r := by
  obtain ⟨pc, ins, nx, na, lk, v⟩ := e
  simp only [pq_exec] at h
  split at h
  · cases h
  · split at h
    · cases h
    · split at h
      · cases h
      · split at h
        · rename_i e1; cases h; exact e1
        · split at h <;> cases h
theorem pq_exec_call {e : pq_E} {l : pq_L} {st : List Value} {M : pq_M} {q : Nat × List Value × List Value} (h : pq_exec e l st M = some (.inr (.inr q))) : pq_x5 e.2.1 e.2.2.2.1 e.2.2.2.2.1 st M = some q := by
  obtain ⟨pc, ins, nx, na, lk, v⟩ := e
  simp only [pq_exec] at h
  split at h
  · cases h
  · split at h
    · cases h
    · split at h
      · cases h
      · split at h
        · cases h
        · split at h
          · rename_i h1; cases h; exact h1
          · cases h
def pq_gr (M M' : pq_M) : Prop := M.1.length ≤ M'.1.length ∧ pq_tot M.1 ≤ pq_tot M'.1
theorem pq_gr.rf {M : pq_M} : pq_gr M M := ⟨Nat.le_refl _, Nat.le_refl _⟩
theorem pq_gr.tr {M M1 M2 : pq_M} (h : pq_gr M M1) (h2 : pq_gr M1 M2) : pq_gr M M2 := ⟨Nat.le_trans h.1 h2.1, Nat.le_trans h.2 h2.2⟩
theorem pq_gr.eq {M M' : pq_M} (h : M'.1 = M.1) : pq_gr M M' := by unfold pq_gr; rw [h]; exact ⟨Nat.le_refl _, Nat.le_refl _⟩
theorem pq_gr.add {M : pq_M} {sh : pq_S} : pq_gr M (pq_add M sh) := ⟨by rw [pq_add_len]; omega, by rw [pq_tot_add]; omega⟩
set_option maxHeartbeats 4000000 in
theorem pq_x3_gr {ins : Instr} {lk : List (Nat × Nat)} {st st' : List Value} {M M' : pq_M} (h : pq_x3 ins lk st M = some (st', M')) : pq_gr M M' := by
  cases ins
  all_goals try exact pq_nn h
  case putfield idx =>
    simp only [pq_x3] at h
    split at h
    · split at h
      · split at h
        · split at h
          · rename_i M2 h1
            cases h
            obtain ⟨ty, -, hoff, -⟩ := pq_wf_ok (h0 := 0) (b := 0) h1
            exact pq_gr.eq hoff.1
          · cases h
        · cases h
      · cases h
    · cases h
  case invokestatic idx =>
    replace h : pq_sc lk st M = some (st', M') := h
    unfold pq_sc at h
    repeat' split at h
    all_goals first | (cases h; exact pq_gr.rf) | (cases h; exact pq_gr.eq rfl) | cases h
  all_goals (simp only [pq_x3] at h; (repeat' split at h); all_goals first | (cases h; exact pq_gr.rf) | (cases h; exact pq_gr.eq rfl) | (cases h; exact pq_gr.add) | cases h)
theorem pq_loop_gr {call : Nat → List Value → pq_M → Option (Option Value × pq_M)} (hc : ∀ j as M r M', call j as M = some (r, M') → pq_gr M M') :
    ∀ (n j pc : Nat) (lo : pq_L) (st : List Value) (M : pq_M) (r : Option Value) (M' : pq_M), pq_loop call n j pc lo st M = some (r, M') → pq_gr M M' := by
  intro n
  induction n with
  | zero => intro j pc lo st M r M' h; cases h
  | succ n ih =>
    intro j pc lo st M r M' h
    unfold pq_loop at h
    split at h
    · cases h
    · rename_i e he
      split at h
      · cases h
      · rename_i c hex
        have := ih _ _ _ _ _ _ _ h
        rcases pq_exec_inl hex with ⟨q, h1, rfl⟩ | ⟨q, h1, rfl⟩ | ⟨⟨q1, q2⟩, h1, rfl⟩
        · exact this
        · exact this
        · exact (pq_x3_gr h1).tr this
      · cases h; exact pq_gr.rf
      · rename_i c hex
        split at h
        · cases h
        · rename_i q hq
          obtain ⟨q1, q2⟩ := q
          exact (hc _ _ _ _ _ hq).tr (ih _ _ _ _ _ _ _ h)
section PQ7
variable {p : Program} {l : Launch} {e : Env} {R : Room} {s : State} {m : MethodId} {args : Array Value} {below : List Frame} {meth : Method} {c : Code} {Q : State → Prop}
  {cc : ByteArray} {D : va_G} {aC : FieldType → ClassId} {xs : Nat → Int32} {h0 b L nL d j n0 t0 : Nat} {own : String} {ini : Bool} {ret : Option FieldType} {ct : List pq_E}
theorem pq_size {T : State} {H : Heap} {M : pq_M} {locs : List Loc} {slots : Nat} (X : Stand p l e R s m args below meth c T locs (M.1.length - n0) slots) (hT : T.heap = H) (hR : pq_R D aC h0 b L xs M H) (hK : pq_K D aC h0 b L xs s) (hS : va_S (pq_A h0) s.heap H locs)
    (hsz : s.heap.size + 1 = h0 + n0) (hn0 : n0 ≤ M.1.length) : H.size + 1 = h0 + M.1.length := by
  have h1 := X.heapSize
  rw [hT] at h1
  have h2 := hS.1
  have h3 := hK.2.2.2.2.2
  have h4 := hR.1
  by_cases hl : M.1.length = 1
  · omega
  · have h5 := (hR.2.1 _ _ (pq_ws_at (aC := aC) (h0 := h0) (b := b) (q := M.1.length - 1) (by omega) (by omega))).lt
    simp only [pq_ad, if_neg (show ¬ M.1.length - 1 = 0 by omega)] at h5
    omega
set_option maxHeartbeats 4000000 in
theorem pq_sloop {call : Nat → List Value → pq_M → Option (Option Value × pq_M)} (hcall : ∀ j as M r M', call j as M = some (r, M') → pq_Met l D aC h0 b L xs d j as M r M') (hgr : ∀ j as M r M', call j as M = some (r, M') → pq_gr M M')
    (hx : p.tables.exec = Jvm.exec) (hb : c.code = cc) (hml : c.maxLocals = nL) (hts : ∀ w ∈ lw_g, w.before args s = true) (hown : s.vm.findClass own = some m.cls) (hini : ini = true → meth.name = "<init>") (hK : pq_K D aC h0 b L xs s)
    (hct : pq_ctab[j]? = some ct) (hdc : ct.all (pq_dc cc ret) = true) (hok : ∀ e ∈ ct, pq_ok own ini e) (hfr : d + 2 ≤ R.frames) (hlo : 200 * (d + 2) ≤ R.locals) (hsz : s.heap.size + 1 = h0 + n0) :
    ∀ (n pc : Nat) (lo : pq_L) (st : List Value) (M : pq_M) (r : Option Value) (M' : pq_M), pq_loop call n j pc lo st M = some (r, M') → ∀ (H : Heap) (locs : List Loc) (ls : Array Slot), pq_Lr h0 b ls nL lo → pq_R D aC h0 b L xs M H → va_S (pq_A h0) s.heap H locs →
      n0 ≤ M.1.length → t0 ≤ pq_tot M.1 → M'.1.length - n0 ≤ R.cells → pq_tot M'.1 - t0 ≤ R.slots →
      (∀ (pc nx na : Nat) (lk : List (Nat × Nat)) (v : Value) (ls : Array Slot) (H : Heap) (locs : List Loc) (st : List Value) (ins : Instr), pq_x4 ins na st = some r → decode cc pc = .ok (ins, pq_len ins) → pq_cb ret (pc, ins, nx, na, lk, v) = true → pq_R D aC h0 b L xs M' H → va_S (pq_A h0) s.heap H locs →
        W p l e R s m args below meth c H locs (M'.1.length - n0) (pq_tot M'.1 - t0) Q (F0 m pc ls (st.map (pq_rv h0 b)))) →
      W p l e R s m args below meth c H locs (M.1.length - n0) (pq_tot M.1 - t0) Q (F0 m pc ls (st.map (pq_rv h0 b))) := by
  intro n
  induction n with
  | zero => intro pc lo st M r M' h; cases h
  | succ n ih =>
    intro pc lo st M r M' h H locs ls hl hR hS hn0 ht0 hce hsl fin
    unfold pq_loop at h
    split at h
    · cases h
    · rename_i en he
      obtain ⟨ct2, hct2, hmem, hpc⟩ := pq_fetch_ok he
      cases Option.some.inj (hct.symm.trans hct2)
      obtain ⟨len, hd, hnx, hlen, hcb⟩ := pq_dc_ok (List.all_eq_true.mp hdc en hmem)
      have hok1 := hok en hmem
      obtain ⟨pc1, ins, nx, na, lk, v⟩ := en
      dsimp only at hpc hd hnx hlen hcb hok1 he
      subst hpc
      have hls : c.maxLocals = ls.size := by rw [hml]; exact hl.1.symm
      split at h
      · cases h
      · rename_i cf hex
        have hg := pq_loop_gr hgr _ _ _ _ _ _ _ _ h
        rcases pq_exec_inl hex with ⟨⟨q1, q2⟩, h1, rfl⟩ | ⟨⟨q1, q2⟩, h1, rfl⟩ | ⟨⟨q1, q2⟩, h1, rfl⟩
        · have hlen2 : len = pq_len ins := by
            rcases hlen with h2 | h2
            · exact h2
            · obtain ⟨a1, a2, a3, a4, rfl⟩ := pq_len0 h2; exact pq_nn h1
          subst hlen2
          subst hnx
          exact pq_s1 hx hb h1 hd hown hts hok1 hcb hl (fun ls' hl' => ih _ _ _ _ _ _ h H locs ls' hl' hR hS hn0 ht0 hce hsl fin)
        · exact pq_s2 hx hb h1 hd hlen hnx hcb (ih _ _ _ _ _ _ h H locs ls hl hR hS hn0 ht0 hce hsl fin)
        · have hlen2 : len = pq_len ins := by
            rcases hlen with h2 | h2
            · exact h2
            · obtain ⟨a1, a2, a3, a4, rfl⟩ := pq_len0 h2; exact pq_nn h1
          subst hlen2
          subst hnx
          have hg1 := pq_x3_gr h1
          dsimp only at hg
          exact pq_s3 hx hb hls hts hown hini hK hR hS h1 hd hok1 (by omega) (by omega) (Nat.le_trans (Nat.sub_le_sub_right hg.1 _) hce) (Nat.le_trans (Nat.sub_le_sub_right hg.2 _) hsl) hn0 ht0 hsz (fun H1 locs1 hR1 hS1 => ih _ _ _ _ _ _ h H1 locs1 ls hl hR1 hS1 (Nat.le_trans hn0 hg1.1) (Nat.le_trans ht0 hg1.2) hce hsl fin)
      · rename_i r2 hex
        cases h
        have h1 := pq_exec_ret hex
        have hlen2 : len = pq_len ins := by
          rcases hlen with h2 | h2
          · exact h2
          · obtain ⟨a1, a2, a3, a4, rfl⟩ := pq_len0 h2; exact pq_nn h1
        subst hlen2
        exact fin _ nx na lk v ls H locs st ins h1 hd hcb hR hS
      · rename_i cf hex
        obtain ⟨j2, as, rest⟩ := cf
        have h1 := pq_exec_call hex
        split at h
        · cases h
        · rename_i q hq
          obtain ⟨r1, M1⟩ := q
          have hlen2 : len = pq_len ins := by
            rcases hlen with h2 | h2
            · exact h2
            · obtain ⟨a1, a2, a3, a4, rfl⟩ := pq_len0 h2; exact pq_nn h1
          subst hlen2
          subst hnx
          have hg := pq_loop_gr hgr _ _ _ _ _ _ _ _ h
          have hg1 := hgr _ _ _ _ _ hq
          dsimp only at hg hq h
          have e1 : M.1.length - n0 + pq_mc M M1 = M1.1.length - n0 := by unfold pq_mc; have := hg1.1; omega
          have e2 : pq_tot M.1 - t0 + pq_ms M M1 = pq_tot M1.1 - t0 := by unfold pq_ms; have := hg1.2; omega
          intro T hT X
          refine pq_s5 hx hb hls hts hown hK hR hS h1 hd hok1 (hcall _ _ _ _ _ hq) (pq_size X hT hR hK hS hsz hn0) hfr hlo (by rw [e1]; exact Nat.le_trans (Nat.sub_le_sub_right hg.1 _) hce) (by rw [e2]; exact Nat.le_trans (Nat.sub_le_sub_right hg.2 _) hsl) (fun H1 locs1 hR1 hS1 => ?_) T hT X
          rw [e1, e2]
          exact ih _ _ _ _ _ _ h H1 locs1 ls hl hR1 hS1 (Nat.le_trans hn0 hg1.1) (Nat.le_trans ht0 hg1.2) hce hsl fin
end PQ7
end
section
theorem pq_flat_len (h0 b : Nat) : ∀ as : List Value, (lg_sl (as.map (pq_rv h0 b))).length = (pq_flat as).length := by
  intro as
  induction as with
  | nil => rfl
  | cons a r ih =>
    have e : lg_sl ((a :: r).map (pq_rv h0 b)) = (if (pq_rv h0 b a).category = 2 then [.val (pq_rv h0 b a), .second] else [.val (pq_rv h0 b a)]) ++ lg_sl (r.map (pq_rv h0 b)) := rfl
    rw [e, List.length_append, ih, pq_rv_cat]
    cases a <;> simp [Value.category, pq_flat] <;> omega
theorem pq_flat_args {h0 b : Nat} {v : Value} : ∀ (as : List Value) (i n : Nat), (pq_flat as)[n]? = some (some v) → (i + n, pq_rv h0 b v) ∈ lv_args i (as.map (pq_rv h0 b)) := by
  intro as
  induction as with
  | nil => intro i n h; simp [pq_flat] at h
  | cons a r ih =>
    intro i n h
    rw [List.map_cons, lv_args, pq_rv_cat]
    by_cases hc : a.category = 2
    · rw [if_pos hc]
      have hf : pq_flat (a :: r) = some a :: none :: pq_flat r := by cases a <;> simp [Value.category] at hc <;> rfl
      rw [hf] at h
      match n, h with
      | 0, h => simp at h; subst h; exact List.mem_cons_self
      | 1, h => simp at h
      | n + 2, h =>
        have h2 : (pq_flat r)[n]? = some (some v) := by simpa using h
        have := ih (i + 2) n h2
        rw [show i + 2 + n = i + (n + 2) by omega] at this
        exact List.mem_cons_of_mem _ this
    · rw [if_neg hc]
      have hf : pq_flat (a :: r) = some a :: pq_flat r := by cases a <;> simp [Value.category] at hc <;> rfl
      rw [hf] at h
      match n, h with
      | 0, h => simp at h; subst h; exact List.mem_cons_self
      | n + 1, h =>
        have h2 : (pq_flat r)[n]? = some (some v) := by simpa using h
        have := ih (i + 1) n h2
        rw [show i + 1 + n = i + (n + 1) by omega] at this
        exact List.mem_cons_of_mem _ this
theorem pq_entry {h0 b n : Nat} {as : List Value} (h : (pq_flat as).length ≤ n) : pq_Lr h0 b ((lg_sl (as.map (pq_rv h0 b)) ++ List.replicate (n - (lg_sl (as.map (pq_rv h0 b))).length) Slot.unset).toArray) n (pq_loc as n) := by
  obtain ⟨h1, h2, h3⟩ := lv_entry (as.map (pq_rv h0 b)) (n := n) (by rw [pq_flat_len]; exact h)
  refine ⟨h1, h2, by unfold pq_loc; simp; omega, fun i v hi => ?_⟩
  unfold pq_loc at hi
  have hi2 : (pq_flat as)[i]? = some (some v) := by
    by_cases hlt : i < (pq_flat as).length
    · rw [List.getElem?_append_left hlt] at hi; exact hi
    · rw [List.getElem?_append_right (Nat.not_lt.mp hlt)] at hi
      rw [List.getElem?_replicate] at hi
      split at hi
      · cases hi
      · cases hi
  have := h3 _ (pq_flat_args (h0 := h0) (b := b) as 0 i hi2)
  simpa using this
theorem pq_loc0_ok : ∀ (n : Nat) (as : List Value) (lo : pq_L), pq_loc0 n as = some lo → (pq_flat as).length ≤ n ∧ lo = pq_loc as n := by
  intro n
  induction n using Nat.strongRecOn with
  | _ n ih =>
    intro as lo h
    have cons : ∀ {k c : Nat} {vs : List Value} {v : Value} {pre : pq_L} {r : pq_L}, pq_loc0 k vs = some r → k < n → n = k + c → pre.length = c → pq_flat (v :: vs) = pre ++ pq_flat vs → lo = pre ++ r → (pq_flat (v :: vs)).length ≤ n ∧ lo = pq_loc (v :: vs) n := by
      intro k c vs v pre r h1 hk hn hc hp hl
      obtain ⟨h2, h3⟩ := ih k hk vs r h1
      refine ⟨by rw [hp, List.length_append]; omega, ?_⟩
      rw [hl, h3]
      unfold pq_loc
      rw [hp, List.length_append, List.append_assoc, hc]
      congr 3
      omega
    unfold pq_loc0 at h
    split at h
    · cases h; exact ⟨Nat.le_refl _, rfl⟩
    · rename_i k
      split at h
      · rename_i r h1
        cases h
        obtain ⟨h2, h3⟩ := ih k (by omega) [] r h1
        refine ⟨Nat.zero_le _, ?_⟩
        rw [h3]
        simp [pq_loc, pq_flat, List.replicate_succ]
      · cases h
    · rename_i k x vs
      split at h
      · rename_i r h1; cases h; exact cons (c := 2) (pre := [some (.long x), none]) h1 (by omega) rfl rfl rfl rfl
      · cases h
    · rename_i k x vs
      split at h
      · rename_i r h1; cases h; exact cons (c := 1) (pre := [some (.int x)]) h1 (by omega) rfl rfl rfl rfl
      · cases h
    · rename_i k x vs
      split at h
      · rename_i r h1; cases h; exact cons (c := 1) (pre := [some (.ref x)]) h1 (by omega) rfl rfl rfl rfl
      · cases h
    · cases h
section PQ8
variable {l : Launch} {D : va_G} {aC : FieldType → ClassId} {xs : Nat → Int32} {h0 b L : Nat}
set_option maxHeartbeats 4000000 in
theorem pq_sound : ∀ (d k j : Nat) (as : List Value) (M : pq_M) (r : Option Value) (M' : pq_M), pq_call d k j as M = some (r, M') → pq_Met l D aC h0 b L xs d j as M r M' ∧ pq_gr M M' := by
  intro d
  induction d with
  | zero => intro k j as M r M' h; cases h
  | succ d ih =>
    intro k j as M r M' h
    unfold pq_call at h
    split at h
    · cases h
    · rename_i q hq
      split at h
      · rename_i lo0 hfl0
        obtain ⟨hfl, rfl⟩ := pq_loc0_ok _ _ _ hfl0
        refine ⟨?_, pq_loop_gr (fun _ _ _ _ _ hc => (ih _ _ _ _ _ _ hc).2) _ _ _ _ _ _ _ _ h⟩
        intro q2 hq2 hokM
        cases Option.some.inj (hq.symm.trans hq2)
        obtain ⟨o, y, bytes, maxL, ret⟩ := q
        dsimp only at h hfl
        refine Met.ofW (cc := bytes) (maxL := maxL) (ret := ret) hokM.2.1 rfl ?_
        intro p e s m args below meth c s₁ B hml hv
        obtain ⟨rfl, hsz, hR, hK⟩ := hv
        have hx := B.exec
        have hb := B.bytes
        have hr := B.returns
        have hlocks := B.notSynchronized
        have hts0 := atoms_spec (ws := Cond.code y bytes maxL ret :: lw_g) B.pre
        have hts : ∀ w ∈ lw_g, w.before (as.map (pq_rv h0 b)).toArray s = true := fun w hw => hts0 w (List.mem_cons_of_mem _ hw)
        have hown : s.vm.findClass y.cls = some m.cls := findClass_of_methodNamed B.named
        obtain ⟨ct, hct⟩ : ∃ ct, pq_ctab[j]? = some ct := by
          have h1 : j < pq_mtab.length := (List.getElem?_eq_some_iff.mp hq).1
          have h2 : pq_ctab.length = pq_mtab.length := by decide +kernel
          exact ⟨_, List.getElem?_eq_getElem (by rw [h2]; exact h1)⟩
        obtain ⟨hdc, ini, hini, hok⟩ := pq_tab_at hct hq
        have hS : va_S (pq_A h0) s.heap s.heap [] := va_S.rf
        have hnm : meth.name = y.name := (name_of_methodNamed B.named B.method).1
        have key := pq_sloop (l := l) (R := pq_rm (d + 1) (pq_mc M M') (pq_ms M M')) (below := below) (e := e) (Q := MQ below (pq_Qc D aC h0 b L xs r M') (as.map (pq_rv h0 b)).toArray s (pq_mc M M') (pq_ms M M') (pq_A h0)) (n0 := M.1.length) (t0 := pq_tot M.1) (d := d) (fun j as M r M' hc => (ih _ _ _ _ _ _ hc).1) (fun j as M r M' hc => (ih _ _ _ _ _ _ hc).2)
          hx hb hml hts hown (fun hi => by rw [hnm]; exact hini hi) hK hct hdc hok (Nat.le_refl _) (Nat.le_refl _) hsz k 0 (pq_loc as maxL) [] M r M' h s.heap [] _ (pq_entry hfl) hR hS (Nat.le_refl _) (Nat.le_refl _) (Nat.le_refl _) (Nat.le_refl _) ?_
        · rw [Nat.sub_self, Nat.sub_self] at key
          rw [lg_entry_eq]
          exact key
        · intro pc nx na lk v ls H locs st ins h4 hd hcb hR' hS'
          have hQ : ∀ t : State, t.heap = H → s.WarmedH t.vm → pq_Qc D aC h0 b L xs r M' (as.map (pq_rv h0 b)).toArray s (.returned (r.map (pq_rv h0 b))) t := fun t ht hW => ⟨rfl, by rw [ht]; exact hR', hS'.F ht⟩
          cases ins
          all_goals try exact pq_nn h4
          case return_ =>
            simp only [pq_x4] at h4
            split at h4
            · cases h4
              have hret : ret = none := of_decide_eq_true hcb
              exact W.vret hx hb (by rw [hr, hret]) hQ hS'.2.2 hd
            · cases h4
          case lreturn =>
            simp only [pq_x4] at h4
            split at h4
            · cases h4
              have hret : ret = some .long := of_decide_eq_true hcb
              exact W.lret hx hb (by rw [hr, hret]) hQ hS'.2.2 hd
            · cases h4
          case ireturn =>
            have hret : ret = if na = 0 then some .int else some .boolean := of_decide_eq_true hcb
            simp only [pq_x4] at h4
            split at h4
            · split at h4
              · rename_i hna
                cases h4
                rw [if_pos hna] at hret
                exact W.iret hx hb (by rw [hr, hret]) hQ hS'.2.2 hd
              · rename_i hna
                split at h4
                · rename_i hx01
                  cases h4
                  rw [if_neg hna] at hret
                  exact W.zret hx hb (by rw [hr, hret]) (by rcases hx01 with rfl | rfl <;> rfl) hQ hS'.2.2 hd
                · cases h4
            · cases h4
      · cases h
end PQ8
end
section
/-! Runs of the small machine: what is to be shown of a program point, and its rules -/
def pq_step (j pc : Nat) (lo : pq_L) (st : List Value) (M : pq_M) : Option (Nat × pq_O) := match pq_fetch j pc with
  | some (a, ins, nx, na, lk, v) => match pq_exec (a, ins, nx, na, lk, v) lo st M with
    | some o => some (nx, o)
    | none => none
  | none => none
def pq_Ev (d j pc : Nat) (lo : pq_L) (st : List Value) (M : pq_M) (Q : Option Value → pq_M → Prop) : Prop := ∃ (N : Nat) (r : Option Value) (M' : pq_M), Q r M' ∧ ∀ n k, N ≤ n → N ≤ k → pq_loop (pq_call d k) n j pc lo st M = some (r, M')
def pq_Ca (d j : Nat) (as : List Value) (M : pq_M) (Q : Option Value → pq_M → Prop) : Prop := ∃ (N : Nat) (r : Option Value) (M' : pq_M), Q r M' ∧ ∀ k, N ≤ k → pq_call d k j as M = some (r, M')
theorem pq_step_eq {j pc nx : Nat} {lo : pq_L} {st : List Value} {M : pq_M} {o : pq_O} (h : pq_step j pc lo st M = some (nx, o)) : ∃ e, pq_fetch j pc = some e ∧ pq_exec e lo st M = some o ∧ e.2.2.1 = nx := by
  unfold pq_step at h
  split at h
  · rename_i a ins nx2 na lk v he
    split at h
    · rename_i o2 ho
      cases h
      exact ⟨_, he, ho, rfl⟩
    · cases h
  · cases h
theorem E_st0 {d j pc nx pc' : Nat} {lo lo' : pq_L} {st st' : List Value} {M M' : pq_M} {Q : Option Value → pq_M → Prop} (h : pq_step j pc lo st M = some (nx, .inl (pc', lo', st', M'))) (k : pq_Ev d j pc' lo' st' M' Q) : pq_Ev d j pc lo st M Q := by
  obtain ⟨e, he, hx, -⟩ := pq_step_eq h
  obtain ⟨N, r, M2, hQ, hN⟩ := k
  refine ⟨N + 1, r, M2, hQ, fun n k hn hk => ?_⟩
  obtain ⟨n, rfl⟩ : ∃ z, n = z + 1 := ⟨n - 1, by omega⟩
  unfold pq_loop
  rw [he]
  simp only [hx]
  exact hN n k (by omega) (by omega)
/-- an instruction that goes on behind itself -/
theorem E_st {d j pc nx : Nat} {lo lo' : pq_L} {st st' : List Value} {M M' : pq_M} {Q : Option Value → pq_M → Prop} (h : pq_step j pc lo st M = some (nx, .inl (nx, lo', st', M'))) (k : pq_Ev d j nx lo' st' M' Q) : pq_Ev d j pc lo st M Q := E_st0 h k
theorem E_br {d j pc nx t f : Nat} {cd : Prop} {dc : Decidable cd} {lo lo' : pq_L} {st st' : List Value} {M M' : pq_M} {Q : Option Value → pq_M → Prop} (h : pq_step j pc lo st M = some (nx, .inl (if cd then t else f, lo', st', M'))) (kt : cd → pq_Ev d j t lo' st' M' Q) (kf : ¬ cd → pq_Ev d j f lo' st' M' Q) : pq_Ev d j pc lo st M Q := by
  by_cases hc : cd
  · rw [if_pos hc] at h; exact E_st0 h (kt hc)
  · rw [if_neg hc] at h; exact E_st0 h (kf hc)
theorem E_rt {d j pc nx : Nat} {lo : pq_L} {st : List Value} {M : pq_M} {r : Option Value} {Q : Option Value → pq_M → Prop} (h : pq_step j pc lo st M = some (nx, .inr (.inl r))) (hQ : Q r M) : pq_Ev d j pc lo st M Q := by
  obtain ⟨e, he, hx, -⟩ := pq_step_eq h
  refine ⟨1, r, M, hQ, fun n k hn hk => ?_⟩
  obtain ⟨n, rfl⟩ : ∃ z, n = z + 1 := ⟨n - 1, by omega⟩
  unfold pq_loop
  rw [he]
  simp only [hx]
theorem pq_loop_mono {c1 c2 : Nat → List Value → pq_M → Option (Option Value × pq_M)} (h : ∀ j as M x, c1 j as M = some x → c2 j as M = some x) : ∀ (n j pc : Nat) (lo : pq_L) (st : List Value) (M : pq_M) (x : Option Value × pq_M), pq_loop c1 n j pc lo st M = some x → pq_loop c2 n j pc lo st M = some x := by
  intro n
  induction n with
  | zero => intro j pc lo st M x hx; cases hx
  | succ n ih =>
    intro j pc lo st M x hx
    unfold pq_loop at hx ⊢
    split at hx
    · cases hx
    · rename_i e he
      split at hx
      · cases hx
      · exact ih _ _ _ _ _ _ hx
      · exact hx
      · rename_i c hc
        split at hx
        · cases hx
        · rename_i q hq
          rw [h _ _ _ _ hq]
          exact ih _ _ _ _ _ _ hx
theorem pq_call_mono : ∀ (d k j : Nat) (as : List Value) (M : pq_M) (x : Option Value × pq_M), pq_call d k j as M = some x → pq_call (d + 1) k j as M = some x := by
  intro d
  induction d with
  | zero => intro k j as M x h; cases h
  | succ d ih =>
    intro k j as M x h
    unfold pq_call at h ⊢
    split at h
    · cases h
    · rename_i q hq
      split at h
      · exact pq_loop_mono (fun j as M x => ih k j as M x) _ _ _ _ _ _ _ h
      · cases h
theorem pq_call_le {d d' k j : Nat} {as : List Value} {M : pq_M} {x : Option Value × pq_M} (h : pq_call d k j as M = some x) (hd : d ≤ d') : pq_call d' k j as M = some x := by
  induction hd with
  | refl => exact h
  | step _ ih => exact pq_call_mono _ _ _ _ _ _ ih
theorem E_ca {d d' j pc nx j' : Nat} {as rest : List Value} {lo : pq_L} {st : List Value} {M : pq_M} {Q Qc : Option Value → pq_M → Prop} (h : pq_step j pc lo st M = some (nx, .inr (.inr (j', as, rest)))) (hd : d' ≤ d) (hc : pq_Ca d' j' as M Qc) (k : ∀ r M', Qc r M' → pq_Ev d j nx lo (pq_psh r rest) M' Q) : pq_Ev d j pc lo st M Q := by
  obtain ⟨e, he, hx, hnx⟩ := pq_step_eq h
  obtain ⟨N1, r1, M1, hQ1, hN1⟩ := hc
  obtain ⟨N, r, M2, hQ, hN⟩ := k r1 M1 hQ1
  refine ⟨N + N1 + 1, r, M2, hQ, fun n k hn hk => ?_⟩
  obtain ⟨n, rfl⟩ : ∃ z, n = z + 1 := ⟨n - 1, by omega⟩
  unfold pq_loop
  rw [he]
  simp only [hx]
  rw [pq_call_le (hN1 k (by omega)) hd]
  dsimp only
  rw [hnx]
  exact hN n k (by omega) (by omega)
/-- a call whose end is known exactly -/
theorem E_cx {d d' j pc nx j' : Nat} {as rest : List Value} {lo : pq_L} {st : List Value} {M M1 : pq_M} {r1 : Option Value} {Q : Option Value → pq_M → Prop} (h : pq_step j pc lo st M = some (nx, .inr (.inr (j', as, rest)))) (hd : d' ≤ d) (hc : pq_Ca d' j' as M (fun r M' => r = r1 ∧ M' = M1)) (k : pq_Ev d j nx lo (pq_psh r1 rest) M1 Q) : pq_Ev d j pc lo st M Q :=
  E_ca h hd hc (fun r M' ⟨e1, e2⟩ => by subst e1; subst e2; exact k)
theorem Ca_mk {d j : Nat} {as : List Value} {M : pq_M} {q : pq_Q} {lo : pq_L} {Q : Option Value → pq_M → Prop} (h : pq_mtab[j]? = some q) (hf : pq_loc0 q.2.2.2.1 as = some lo) (k : pq_Ev d j 0 lo [] M Q) : pq_Ca (d + 1) j as M Q := by
  obtain ⟨N, r, M2, hQ, hN⟩ := k
  refine ⟨N, r, M2, hQ, fun k hk => ?_⟩
  unfold pq_call
  rw [h]
  dsimp only
  rw [hf]
  exact hN k k hk hk
theorem E_go {d j pc nx na t z : Nat} {off : Int} {lk : List (Nat × Nat)} {v : Value} {lo : pq_L} {st : List Value} {M : pq_M} {Q : Option Value → pq_M → Prop} (hf : pq_fetch j pc = some (pc, .goto off, nx, na, (t, z) :: lk, v)) (k : pq_Ev d j t lo st M Q) : pq_Ev d j pc lo st M Q :=
  E_st0 (nx := nx) (by unfold pq_step; rw [hf]; rfl) k
theorem pq_Ca.mono {d j : Nat} {as : List Value} {M : pq_M} {Q Q' : Option Value → pq_M → Prop} (h : pq_Ca d j as M Q) (hq : ∀ r M', Q r M' → Q' r M') : pq_Ca d j as M Q' := by
  obtain ⟨N, r, M2, hQ, hN⟩ := h
  exact ⟨N, r, M2, hq _ _ hQ, hN⟩
theorem pq_Ev.mono {d j pc : Nat} {lo : pq_L} {st : List Value} {M : pq_M} {Q Q' : Option Value → pq_M → Prop} (h : pq_Ev d j pc lo st M Q) (hq : ∀ r M', Q r M' → Q' r M') : pq_Ev d j pc lo st M Q' := by
  obtain ⟨N, r, M2, hQ, hN⟩ := h
  exact ⟨N, r, M2, hq _ _ hQ, hN⟩
theorem pq_Ca.le {d d' j : Nat} {as : List Value} {M : pq_M} {Q : Option Value → pq_M → Prop} (h : pq_Ca d j as M Q) (hd : d ≤ d') : pq_Ca d' j as M Q := by
  obtain ⟨N, r, M2, hQ, hN⟩ := h
  exact ⟨N, r, M2, hQ, fun k hk => pq_call_le (hN k hk) hd⟩
theorem pq_Ev.cast {d j pc : Nat} {lo lo' : pq_L} {st st' : List Value} {M M' : pq_M} {Q : Option Value → pq_M → Prop} (k : pq_Ev d j pc lo' st' M' Q) (h1 : lo = lo') (h2 : st = st') (h3 : M = M') : pq_Ev d j pc lo st M Q := by
  subst h1; subst h2; subst h3; exact k
/-! fewer known locals -/
def pq_le (a b : pq_L) : Prop := a.length = b.length ∧ ∀ (i : Nat) (v : Value), a[i]? = some (some v) → b[i]? = some (some v)
theorem pq_le_ld {a b : pq_L} (h : pq_le a b) {i : Nat} {v : Value} (hi : pq_ld a i = some v) : pq_ld b i = some v := by
  have := h.2 i v (pq_ld_at hi)
  unfold pq_ld; rw [this]
theorem pq_le_cut {a b : pq_L} (h : pq_le a b) (i k : Nat) (v : Value) (hv : (pq_cut a i)[k]? = some (some v)) : (pq_cut b i)[k]? = some (some v) := by
  obtain ⟨h1, h2⟩ := pq_cut_at hv
  have h3 := h.2 k v h1
  unfold pq_cut
  split
  · exact h3
  · rename_i n
    have key : (n = k → v.category = 2) → (b.set n none)[k]? = some (some v) := by
      intro hc
      rw [List.getElem?_set]
      split
      · rename_i e; exact absurd ⟨by omega, hc e⟩ h2
      · exact h3
    split
    · rename_i x hx; exact key (fun e => by subst e; rw [h3] at hx; cases hx; rfl)
    · rename_i x hx; exact key (fun e => by subst e; rw [h3] at hx; cases hx; rfl)
    · exact h3
theorem pq_le_st1 {a b a' : pq_L} (h : pq_le a b) {i : Nat} {v : Value} (hs : pq_st1 a i v = some a') : ∃ b', pq_st1 b i v = some b' ∧ pq_le a' b' := by
  have hl := pq_st1_lt hs
  rw [pq_st1_eq] at hs ⊢
  rw [if_pos hl] at hs
  cases hs
  refine ⟨_, if_pos (by rw [← h.1]; exact hl), by simp [pq_cut_len, h.1], fun k w hk => ?_⟩
  rw [List.getElem?_set] at hk ⊢
  split
  · rename_i e
    subst e
    rw [if_pos rfl] at hk
    split at hk
    · cases hk; rw [if_pos (by rw [pq_cut_len, ← h.1]; exact hl)]
    · cases hk
  · rename_i e
    rw [if_neg e] at hk
    exact pq_le_cut h _ _ _ hk
theorem pq_le_st2 {a b a' : pq_L} (h : pq_le a b) {i : Nat} {v : Value} (hs : pq_st2 a i v = some a') : ∃ b', pq_st2 b i v = some b' ∧ pq_le a' b' := by
  have hl := pq_st2_lt hs
  rw [pq_st2_eq] at hs ⊢
  rw [if_pos hl] at hs
  cases hs
  refine ⟨_, if_pos (by rw [← h.1]; exact hl), by simp [pq_cut_len, h.1], fun k w hk => ?_⟩
  rw [List.getElem?_set] at hk ⊢
  split
  · rename_i e
    rw [if_pos e] at hk
    split at hk <;> cases hk
  · rename_i e
    rw [if_neg e] at hk
    rw [List.getElem?_set] at hk ⊢
    split
    · rename_i e2
      subst e2
      rw [if_pos rfl] at hk
      split at hk
      · cases hk; rw [if_pos (by rw [pq_cut_len, ← h.1]; omega)]
      · cases hk
    · rename_i e2
      rw [if_neg e2] at hk
      exact pq_le_cut h _ _ _ hk
set_option maxHeartbeats 4000000 in
theorem pq_le_x1 {ins : Instr} {v : Value} {a b : pq_L} {st : List Value} {q : pq_L × List Value} (h : pq_le a b) (hx : pq_x1 ins v a st = some q) : ∃ b', pq_x1 ins v b st = some (b', q.2) ∧ pq_le q.1 b' := by
  have hil : ∀ {i : Nat}, pq_il a i st = some q → ∃ b', pq_il b i st = some (b', q.2) ∧ pq_le q.1 b' := by
    intro i hq; unfold pq_il at hq ⊢
    split at hq
    · rename_i x hx; rw [pq_le_ld h hx]; cases hq; exact ⟨b, rfl, h⟩
    · cases hq
  have hll : ∀ {i : Nat}, pq_ll a i st = some q → ∃ b', pq_ll b i st = some (b', q.2) ∧ pq_le q.1 b' := by
    intro i hq; unfold pq_ll at hq ⊢
    split at hq
    · rename_i x hx; rw [pq_le_ld h hx]; cases hq; exact ⟨b, rfl, h⟩
    · cases hq
  have hal : ∀ {i : Nat}, pq_al a i st = some q → ∃ b', pq_al b i st = some (b', q.2) ∧ pq_le q.1 b' := by
    intro i hq; unfold pq_al at hq ⊢
    split at hq
    · rename_i x hx; rw [pq_le_ld h hx]; cases hq; exact ⟨b, rfl, h⟩
    · cases hq
  have his : ∀ {i : Nat}, pq_is a i st = some q → ∃ b', pq_is b i st = some (b', q.2) ∧ pq_le q.1 b' := by
    intro i hq; unfold pq_is at hq ⊢
    split at hq
    · split at hq
      · rename_i l1 h1
        obtain ⟨b', e1, e2⟩ := pq_le_st1 h h1
        cases hq; dsimp only; rw [e1]; exact ⟨b', rfl, e2⟩
      · cases hq
    · cases hq
  have has : ∀ {i : Nat}, pq_as a i st = some q → ∃ b', pq_as b i st = some (b', q.2) ∧ pq_le q.1 b' := by
    intro i hq; unfold pq_as at hq ⊢
    split at hq
    · split at hq
      · rename_i l1 h1
        obtain ⟨b', e1, e2⟩ := pq_le_st1 h h1
        cases hq; dsimp only; rw [e1]; exact ⟨b', rfl, e2⟩
      · cases hq
    · cases hq
  have hls : ∀ {i : Nat}, pq_ls a i st = some q → ∃ b', pq_ls b i st = some (b', q.2) ∧ pq_le q.1 b' := by
    intro i hq; unfold pq_ls at hq ⊢
    split at hq
    · split at hq
      · rename_i l1 h1
        obtain ⟨b', e1, e2⟩ := pq_le_st2 h h1
        cases hq; dsimp only; rw [e1]; exact ⟨b', rfl, e2⟩
      · cases hq
    · cases hq
  cases ins
  all_goals try exact pq_nn hx
  case iload_n i => exact hil hx
  case iload i => exact hil hx
  case lload_n i => exact hll hx
  case lload i => exact hll hx
  case aload_n i => exact hal hx
  case aload i => exact hal hx
  case istore_n i => exact his hx
  case istore i => exact his hx
  case lstore_n i => exact hls hx
  case lstore i => exact hls hx
  case astore_n i => exact has hx
  case astore i => exact has hx
  case iinc i n =>
    replace hx : pq_inc a i v st = some q := hx
    show ∃ b', pq_inc b i v st = some (b', q.2) ∧ pq_le q.1 b'
    unfold pq_inc at hx ⊢
    split at hx
    · rename_i x n2 hq
      split at hx
      · rename_i l1 h1
        obtain ⟨b', e1, e2⟩ := pq_le_st1 h h1
        rw [pq_le_ld h hq]
        cases hx; dsimp only; rw [e1]; exact ⟨b', rfl, e2⟩
      · cases hx
    · cases hx
  case idiv =>
    simp only [pq_x1] at hx ⊢
    split at hx
    · split at hx
      · cases hx
      · rename_i hne; cases hx; rw [if_neg hne]; exact ⟨b, rfl, h⟩
    · cases hx
  case irem =>
    simp only [pq_x1] at hx ⊢
    split at hx
    · split at hx
      · cases hx
      · rename_i hne; cases hx; rw [if_neg hne]; exact ⟨b, rfl, h⟩
    · cases hx
  all_goals first
    | (cases hx; exact ⟨b, rfl, h⟩)
    | (simp only [pq_x1] at hx ⊢; split at hx <;> first | (cases hx; exact ⟨b, rfl, h⟩) | cases hx)
theorem pq_x1_none {ins : Instr} {v : Value} {a b : pq_L} {st : List Value} (h : pq_le a b) {e : pq_E} {M : pq_M} {o : pq_O} (hx : pq_exec (e.1, ins, e.2.2.1, e.2.2.2.1, e.2.2.2.2.1, v) a st M = some o) (hn : pq_x1 ins v a st = none) : pq_x1 ins v b st = none := by
  have hrest : pq_x2 ins e.2.2.1 e.2.2.2.2.1 st ≠ none ∨ pq_x3 ins e.2.2.2.2.1 st M ≠ none ∨ pq_x4 ins e.2.2.2.1 st ≠ none ∨ pq_x5 ins e.2.2.2.1 e.2.2.2.2.1 st M ≠ none := by
    unfold pq_exec at hx
    dsimp only at hx
    rw [hn] at hx
    dsimp only at hx
    split at hx
    · rename_i q1 q2 h1; exact Or.inl (by rw [h1]; exact fun h => nomatch h)
    · split at hx
      · rename_i q1 q2 h1; exact Or.inr (Or.inl (by rw [h1]; exact fun h => nomatch h))
      · split at hx
        · rename_i q h1; exact Or.inr (Or.inr (Or.inl (by rw [h1]; exact fun h => nomatch h)))
        · split at hx
          · rename_i q h1; exact Or.inr (Or.inr (Or.inr (by rw [h1]; exact fun h => nomatch h)))
          · cases hx
  cases ins <;> first | rfl | (exfalso; rcases hrest with h | h | h | h <;> exact h rfl)
theorem pq_le_exec {e : pq_E} {a b : pq_L} {st : List Value} {M : pq_M} {o : pq_O} (h : pq_le a b) (hx : pq_exec e a st M = some o) : ∃ o', pq_exec e b st M = some o' ∧ ((∃ pc la lb s2 M2, o = .inl (pc, la, s2, M2) ∧ o' = .inl (pc, lb, s2, M2) ∧ pq_le la lb) ∨ (∃ z, o = .inr z ∧ o' = .inr z)) := by
  obtain ⟨pc, ins, nx, na, lk, v⟩ := e
  cases h1 : pq_x1 ins v a st with
  | some q =>
    obtain ⟨b', e1, e2⟩ := pq_le_x1 h h1
    unfold pq_exec at hx ⊢
    dsimp only at hx ⊢
    rw [h1] at hx
    rw [e1]
    cases hx
    exact ⟨_, rfl, Or.inl ⟨_, _, _, _, _, rfl, rfl, e2⟩⟩
  | none =>
    have h2 := pq_x1_none (e := (pc, ins, nx, na, lk, v)) h hx h1
    unfold pq_exec at hx ⊢
    dsimp only at hx ⊢
    rw [h1] at hx
    rw [h2]
    dsimp only at hx ⊢
    split at hx
    · cases hx; exact ⟨_, rfl, Or.inl ⟨_, _, _, _, _, rfl, rfl, h⟩⟩
    · split at hx
      · cases hx; exact ⟨_, rfl, Or.inl ⟨_, _, _, _, _, rfl, rfl, h⟩⟩
      · split at hx
        · cases hx; exact ⟨_, rfl, Or.inr ⟨_, rfl, rfl⟩⟩
        · split at hx
          · cases hx; exact ⟨_, rfl, Or.inr ⟨_, rfl, rfl⟩⟩
          · cases hx
theorem pq_le_loop {call : Nat → List Value → pq_M → Option (Option Value × pq_M)} : ∀ (n j pc : Nat) (a b : pq_L) (st : List Value) (M : pq_M) (x : Option Value × pq_M), pq_le a b → pq_loop call n j pc a st M = some x → pq_loop call n j pc b st M = some x := by
  intro n
  induction n with
  | zero => intro j pc a b st M x _ hx; cases hx
  | succ n ih =>
    intro j pc a b st M x h hx
    unfold pq_loop at hx ⊢
    split at hx
    · cases hx
    · rename_i e he
      split at hx
      · cases hx
      · rename_i c hc
        obtain ⟨o', e1, e2⟩ := pq_le_exec h hc
        rcases e2 with ⟨pc2, la, lb, s2, M2, g1, g2, g3⟩ | ⟨z, g1, g2⟩
        · cases g1; subst g2; rw [e1]; exact ih _ _ _ _ _ _ _ g3 hx
        · cases g1
      · rename_i r hc
        obtain ⟨o', e1, e2⟩ := pq_le_exec h hc
        rcases e2 with ⟨pc2, la, lb, s2, M2, g1, g2, g3⟩ | ⟨z, g1, g2⟩
        · cases g1
        · cases g1; subst g2; rw [e1]; exact hx
      · rename_i c hc
        obtain ⟨o', e1, e2⟩ := pq_le_exec h hc
        rcases e2 with ⟨pc2, la, lb, s2, M2, g1, g2, g3⟩ | ⟨z, g1, g2⟩
        · cases g1
        · cases g1; subst g2; rw [e1]
          dsimp only
          split at hx
          · cases hx
          · rename_i q hq
            exact ih _ _ _ _ _ _ _ h hx
/-- forget a local -/
theorem E_fo (i : Nat) {d j pc : Nat} {lo : pq_L} {st : List Value} {M : pq_M} {Q : Option Value → pq_M → Prop} (k : pq_Ev d j pc (lo.set i none) st M Q) : pq_Ev d j pc lo st M Q := by
  obtain ⟨N, r, M2, hQ, hN⟩ := k
  refine ⟨N, r, M2, hQ, fun n k hn hk => pq_le_loop _ _ _ _ _ _ _ _ ⟨by simp, fun i2 v hv => ?_⟩ (hN n k hn hk)⟩
  rw [List.getElem?_set] at hv
  split at hv
  · split at hv <;> cases hv
  · exact hv
end
section
def pq_Sh (L : Nat) : List pq_S := [.inl (.int, L), .inr 5, .inr 3, .inl (.int, 3), .inl (.int, 3), .inr 0, .inl (.int, 8), .inl (.long, 8), .inr 1, .inl (.int, 8), .inl (.object "PursuitDesk$State", 5), .inr 3, .inl (.int, 3), .inl (.int, 3), .inr 0, .inl (.int, 8), .inl (.long, 8), .inr 1, .inl (.int, 8), .inr 3, .inl (.int, 3), .inl (.int, 3), .inr 0, .inl (.int, 8), .inl (.long, 8), .inr 1, .inl (.int, 8), .inr 3, .inl (.int, 3), .inl (.int, 3), .inr 0, .inl (.int, 8), .inl (.long, 8), .inr 1, .inl (.int, 8), .inr 3, .inl (.int, 3), .inl (.int, 3), .inr 0, .inl (.int, 8), .inl (.long, 8), .inr 1, .inl (.int, 8), .inr 3, .inl (.int, 3), .inl (.int, 3), .inr 0, .inl (.int, 8), .inl (.long, 8), .inr 1, .inl (.int, 8), .inl (.char, 60), .inr 4, .inl (.int, 3), .inl (.int, 13824), .inl (.int, 13824), .inr 4, .inl (.int, 3), .inl (.int, 13824), .inl (.int, 13824), .inr 2, .inl (.int, 3), .inl (.int, 13824), .inr 6, .inl (.int, 144), .inl (.int, 720), .inl (.char, 60), .inl (.int, 3), .inl (.int, 3), .inl (.int, 6), .inl (.int, 32768), .inl (.int, 32768), .inl (.int, 32768), .inl (.int, 6)]
def pq_Rt : List (List (Option Nat)) := [[], [some 2, some 10, none, some 51, none, some 52, none, some 56, some 60], [none, none, none, some 3, some 4, none, none, none, some 5, some 8], [], [], [some 6, some 7], [], [], [none, none, none, none, none, none, some 9], [], [], [none, none, none, some 12, some 13, none, none, none, some 14, some 17], [], [], [some 15, some 16], [], [], [none, none, none, none, none, none, some 18], [], [none, none, none, some 20, some 21, none, none, none, some 22, some 25], [], [], [some 23, some 24], [], [], [none, none, none, none, none, none, some 26], [], [none, none, none, some 28, some 29, none, none, none, some 30, some 33], [], [], [some 31, some 32], [], [], [none, none, none, none, none, none, some 34], [], [none, none, none, some 36, some 37, none, none, none, some 38, some 41], [], [], [some 39, some 40], [], [], [none, none, none, none, none, none, some 42], [], [none, none, none, some 44, some 45, none, none, none, some 46, some 49], [], [], [some 47, some 48], [], [], [none, none, none, none, none, none, some 50], [], [], [none, none, none, some 53, some 54, some 55], [], [], [], [none, none, none, some 57, some 58, some 59], [], [], [], [none, none, none, some 61, some 62], [], [], [some 64, some 65, none, some 66, none, some 67, some 68, some 69, some 70, some 71, some 72, some 73], [], [], [], [], [], [], [], [], [], []]
def pq_rt (h : Nat → Nat) (p k : Nat) : Option Nat := if p = 10 then some (h k) else (pq_Rt.getD p []).getD k none
/-! numbers: all ints as nI of a Nat, all longs as lN of one -/
def an (a b : Nat) : Nat := a &&& (a ^^^ b)
theorem an_bit (a b i : Nat) : (an a b).testBit i = (a.testBit i && !(b.testBit i)) := by
  unfold an; rw [Nat.testBit_and, Nat.testBit_xor]; cases a.testBit i <;> cases b.testBit i <;> rfl
theorem an_le (a b : Nat) : an a b ≤ a := Nat.and_le_left
theorem zi_and (a b : Nat) : nI a &&& nI b = nI (a &&& b) := by
  apply Int32.toBitVec_inj.1
  show BitVec.ofNat 32 a &&& BitVec.ofNat 32 b = BitVec.ofNat 32 (a &&& b)
  apply BitVec.eq_of_getLsbD_eq
  intro i hi
  simp [hi]
theorem zi_or (a b : Nat) : nI a ||| nI b = nI (a ||| b) := by
  apply Int32.toBitVec_inj.1
  show BitVec.ofNat 32 a ||| BitVec.ofNat 32 b = BitVec.ofNat 32 (a ||| b)
  apply BitVec.eq_of_getLsbD_eq
  intro i hi
  simp [hi]
theorem zi_not (a b : Nat) : nI a &&& (nI b ^^^ (-1)) = nI (an a b) := by
  apply Int32.toBitVec_inj.1
  show BitVec.ofNat 32 a &&& (BitVec.ofNat 32 b ^^^ BitVec.allOnes 32) = BitVec.ofNat 32 (an a b)
  apply BitVec.eq_of_getLsbD_eq
  intro i hi
  rw [BitVec.getLsbD_and, BitVec.getLsbD_xor, BitVec.getLsbD_allOnes, BitVec.getLsbD_ofNat, BitVec.getLsbD_ofNat, BitVec.getLsbD_ofNat, an_bit]
  simp [hi]
theorem zi_c : ∀ k, k < 32 → ((nI k &&& 31).toBitVec.smod 32).toNat = k := by decide +kernel
theorem zi_shl (a : Nat) {k : Nat} (hk : k < 32) : nI a <<< (nI k &&& 31) = nI (a <<< k) := by
  apply Int32.toBitVec_inj.1
  apply BitVec.eq_of_toNat_eq
  rw [pk_shl _ _ k (zi_c k hk), Nat.shiftLeft_eq]
  show (BitVec.ofNat 32 a).toNat * 2 ^ k % 2 ^ 32 = (BitVec.ofNat 32 (a * 2 ^ k)).toNat
  rw [BitVec.toNat_ofNat, BitVec.toNat_ofNat, Nat.mod_mul_mod]
theorem zi_shr {a k : Nat} (ha : a < 2 ^ 31) (hk : k < 32) : nI a >>> (nI k &&& 31) = nI (a >>> k) := by
  rw [pk_shrN ha _ k (zi_c k hk), Nat.shiftRight_eq_div_pow]
theorem zl_inj {a b : Int64} (h : a.toBitVec = b.toBitVec) : a = b := Int64.toBitVec_inj.1 h
theorem zl_and (a b : Nat) : lN a &&& lN b = lN (a &&& b) := by
  apply zl_inj
  show BitVec.ofNat 64 a &&& BitVec.ofNat 64 b = BitVec.ofNat 64 (a &&& b)
  apply BitVec.eq_of_getLsbD_eq
  intro i hi
  simp [hi]
theorem zl_or (a b : Nat) : lN a ||| lN b = lN (a ||| b) := by
  apply zl_inj
  show BitVec.ofNat 64 a ||| BitVec.ofNat 64 b = BitVec.ofNat 64 (a ||| b)
  apply BitVec.eq_of_getLsbD_eq
  intro i hi
  simp [hi]
theorem zl_not (a b : Nat) : lN a &&& (lN b ^^^ (-1)) = lN (an a b) := by
  apply zl_inj
  show BitVec.ofNat 64 a &&& (BitVec.ofNat 64 b ^^^ BitVec.allOnes 64) = BitVec.ofNat 64 (an a b)
  apply BitVec.eq_of_getLsbD_eq
  intro i hi
  rw [BitVec.getLsbD_and, BitVec.getLsbD_xor, BitVec.getLsbD_allOnes, BitVec.getLsbD_ofNat, BitVec.getLsbD_ofNat, BitVec.getLsbD_ofNat, an_bit]
  simp [hi]
theorem zl_cu : ∀ k, k < 64 → ((nI k).toInt64.toUInt64 &&& Int64.toUInt64 63) = UInt64.ofNat k := by decide +kernel
theorem zl_c : ∀ k, k < 64 → (((nI k).toInt64 &&& 63).toBitVec.smod 64) = BitVec.ofNat 64 k := by decide +kernel
theorem zl_shr {n k : Nat} (hn : n < 2 ^ 64) (hk : k < 64) : ((lN n).toUInt64 >>> ((nI k).toInt64.toUInt64 &&& Int64.toUInt64 63)).toInt64 = lN (n >>> k) := by
  rw [zl_cu k hk]
  apply zl_inj
  apply BitVec.eq_of_toNat_eq
  show ((lN n).toUInt64 >>> UInt64.ofNat k).toNat = (BitVec.ofNat 64 _).toNat
  have h1 : (UInt64.ofNat k).toNat = k := by
    show (BitVec.ofNat 64 k).toNat = k
    rw [BitVec.toNat_ofNat, Nat.mod_eq_of_lt (by omega)]
  have h2 : (lN n).toUInt64.toNat = n := by
    show (BitVec.ofNat 64 n).toNat = n
    rw [BitVec.toNat_ofNat, Nat.mod_eq_of_lt hn]
  rw [UInt64.toNat_shiftRight, h1, h2, Nat.mod_eq_of_lt hk, BitVec.toNat_ofNat, Nat.mod_eq_of_lt]
  exact Nat.lt_of_le_of_lt (by rw [Nat.shiftRight_eq_div_pow]; exact Nat.div_le_self _ _) hn
theorem zl_shl (n : Nat) {k : Nat} (hk : k < 64) : lN n <<< ((nI k).toInt64 &&& 63) = lN (n <<< k) := by
  apply zl_inj
  rw [Int64.toBitVec_shiftLeft, zl_c k hk]
  apply BitVec.eq_of_toNat_eq
  show ((BitVec.ofNat 64 n) <<< (BitVec.ofNat 64 k)).toNat = (BitVec.ofNat 64 (n <<< k)).toNat
  rw [BitVec.shiftLeft_eq', BitVec.toNat_shiftLeft, BitVec.toNat_ofNat, BitVec.toNat_ofNat, BitVec.toNat_ofNat, Nat.mod_eq_of_lt (show k < 2 ^ 64 by omega), Nat.shiftLeft_eq, Nat.shiftLeft_eq, Nat.mod_mul_mod]
theorem zl_lt {a b : Nat} (ha : a < 2 ^ 63) (hb : b < 2 ^ 63) : lN a < lN b ↔ a < b := pk_lLT ha hb
theorem zl_cmp {a : Nat} (h : a < 2 ^ 63) : lg_cmp (lN a) (lN 0) = nI 0 ↔ a = 0 := by
  unfold lg_cmp
  by_cases h0 : a = 0
  · subst h0
    rw [if_neg (by rw [GT.gt, zl_lt (by decide) (by decide)]; omega), if_pos rfl]
    exact ⟨fun _ => rfl, fun _ => rfl⟩
  · rw [if_pos (by rw [GT.gt, zl_lt (by decide) h]; omega)]
    exact ⟨fun e => absurd e (by decide), fun e => absurd e h0⟩
theorem zb_lt {a k : Nat} (h : a < 2 ^ k) {i : Nat} (hi : k ≤ i) : a.testBit i = false := Nat.testBit_lt_two_pow (Nat.lt_of_lt_of_le h (Nat.pow_le_pow_right (by decide) hi))
theorem zb_ext {a b k : Nat} (ha : a < 2 ^ k) (hb : b < 2 ^ k) (h : ∀ i, i < k → a.testBit i = b.testBit i) : a = b := by
  apply Nat.eq_of_testBit_eq
  intro i
  by_cases hi : i < k
  · exact h i hi
  · rw [zb_lt ha (Nat.not_lt.mp hi), zb_lt hb (Nat.not_lt.mp hi)]
theorem zb_bound {a k : Nat} (h : ∀ i, k ≤ i → a.testBit i = false) : a < 2 ^ k := Nat.lt_pow_two_of_testBit a h
theorem zb_one (k i : Nat) : (1 <<< k).testBit i = decide (k = i) := by
  rw [Nat.one_shiftLeft, Nat.testBit_two_pow]
theorem zb_and1 (a k : Nat) : (a >>> k) &&& 1 = if a.testBit k then 1 else 0 := by
  have h : (a >>> k) &&& 1 = (a >>> k) % 2 := Nat.and_one_is_mod _
  unfold Nat.testBit
  rw [Nat.and_comm 1, h]
  rcases Nat.mod_two_eq_zero_or_one (a >>> k) with e | e <;> simp [e]
/-! memory of numbers -/
def pn (F : Nat → Nat → Nat) : Nat → Nat → Int32 := fun p j => nI (F p j)
def pl (G : Nat → Nat → Nat) : Nat → Nat → Int64 := fun p j => lN (G p j)
theorem pn_at (F : Nat → Nat → Nat) (p j : Nat) : pn F p j = nI (F p j) := rfl
theorem pl_at (G : Nat → Nat → Nat) (p j : Nat) : pl G p j = lN (G p j) := rfl
theorem pu_n (F : Nat → Nat → Nat) (p k x : Nat) : pq_u (pn F) p k (nI x) = pn (pq_u F p k x) := by
  funext q j; simp only [pq_u, pn]; split <;> rfl
theorem pu_l (G : Nat → Nat → Nat) (p k x : Nat) : pq_u (pl G) p k (lN x) = pl (pq_u G p k x) := by
  funext q j; simp only [pq_u, pl]; split <;> rfl
theorem pc_n (F : Nat → Nat → Nat) (a sp b dp n : Nat) : pq_cpy (pn F) a sp b dp n = pn (pq_cpy F a sp b dp n) := by
  funext q j; simp only [pq_cpy, pn]; split <;> rfl
theorem pc_l (G : Nat → Nat → Nat) (a sp b dp n : Nat) : pq_cpy (pl G) a sp b dp n = pl (pq_cpy G a sp b dp n) := by
  funext q j; simp only [pq_cpy, pl]; split <;> rfl
theorem pu_at {α : Type} (f : Nat → Nat → α) (p k : Nat) (x : α) (q j : Nat) : pq_u f p k x q j = if q = p ∧ j = k then x else f q j := rfl
section EV2
variable {d j pc p k n nx na : Nat} {lk : List (Nat × Nat)} {v : Value} {lo : pq_L} {r : List Value} {sh : List pq_S} {F G : Nat → Nat → Nat} {I : Nat → Nat → Int32} {J : Nat → Nat → Int64} {R : Nat → Nat → Option Nat} {Q : Option Value → pq_M → Prop}
theorem pq_arr_n {ty : FieldType} (hs : sh[p]? = some (.inl (ty, n))) (hk : k < n) (hn : n < 2 ^ 31) : pq_arr (sh, I, J, R) p (nI k) = some ty := by
  unfold pq_arr
  rw [show (sh, I, J, R).1[p]? = some (.inl (ty, n)) from hs]
  exact if_neg (nI_in hk hn)
theorem E_ial (hf : pq_fetch j pc = some (pc, .iaload, nx, na, lk, v)) (hs : sh[p]? = some (.inl (.int, n))) (hk : k < n) (hn : n < 2 ^ 31) (K : pq_Ev d j nx lo (.int (nI (F p k)) :: r) (sh, pn F, J, R) Q) : pq_Ev d j pc lo (.int (nI k) :: .ref p :: r) (sh, pn F, J, R) Q := by
  refine E_st (nx := nx) ?_ K
  have h3 : pq_x3 .iaload lk (.int (nI k) :: .ref p :: r) (sh, pn F, J, R) = some (.int (nI (F p k)) :: r, (sh, pn F, J, R)) := by
    simp only [pq_x3, pq_arr_n hs hk hn, nI_clamp (show k < 2 ^ 31 by omega)]
    rfl
  unfold pq_step
  simp only [hf, pq_exec, pq_x1, pq_x2, h3]
theorem E_cal (hf : pq_fetch j pc = some (pc, .caload, nx, na, lk, v)) (hs : sh[p]? = some (.inl (.char, n))) (hk : k < n) (hn : n < 2 ^ 31) (K : pq_Ev d j nx lo (.int (nI (F p k)) :: r) (sh, pn F, J, R) Q) : pq_Ev d j pc lo (.int (nI k) :: .ref p :: r) (sh, pn F, J, R) Q := by
  refine E_st (nx := nx) ?_ K
  have h3 : pq_x3 .caload lk (.int (nI k) :: .ref p :: r) (sh, pn F, J, R) = some (.int (nI (F p k)) :: r, (sh, pn F, J, R)) := by
    simp only [pq_x3, pq_arr_n hs hk hn, nI_clamp (show k < 2 ^ 31 by omega)]
    rfl
  unfold pq_step
  simp only [hf, pq_exec, pq_x1, pq_x2, h3]
theorem E_lal (hf : pq_fetch j pc = some (pc, .laload, nx, na, lk, v)) (hs : sh[p]? = some (.inl (.long, n))) (hk : k < n) (hn : n < 2 ^ 31) (K : pq_Ev d j nx lo (.long (lN (G p k)) :: r) (sh, I, pl G, R) Q) : pq_Ev d j pc lo (.int (nI k) :: .ref p :: r) (sh, I, pl G, R) Q := by
  refine E_st (nx := nx) ?_ K
  have h3 : pq_x3 .laload lk (.int (nI k) :: .ref p :: r) (sh, I, pl G, R) = some (.long (lN (G p k)) :: r, (sh, I, pl G, R)) := by
    simp only [pq_x3, pq_arr_n hs hk hn, nI_clamp (show k < 2 ^ 31 by omega)]
    rfl
  unfold pq_step
  simp only [hf, pq_exec, pq_x1, pq_x2, h3]
theorem E_aal {C : String} (hf : pq_fetch j pc = some (pc, .aaload, nx, na, lk, v)) (hs : sh[p]? = some (.inl (.object C, n))) (hk : k < n) (hn : n < 2 ^ 31) {q : Nat} (hq : R p k = some q) (K : pq_Ev d j nx lo (.ref q :: r) (sh, I, J, R) Q) : pq_Ev d j pc lo (.int (nI k) :: .ref p :: r) (sh, I, J, R) Q := by
  refine E_st (nx := nx) ?_ K
  have h3 : pq_x3 .aaload lk (.int (nI k) :: .ref p :: r) (sh, I, J, R) = some (.ref q :: r, (sh, I, J, R)) := by
    simp only [pq_x3, pq_arr_n hs hk hn, nI_clamp (show k < 2 ^ 31 by omega), hq]
    rfl
  unfold pq_step
  simp only [hf, pq_exec, pq_x1, pq_x2, h3]
theorem E_ias {x : Nat} (hf : pq_fetch j pc = some (pc, .iastore, nx, na, lk, v)) (hs : sh[p]? = some (.inl (.int, n))) (hk : k < n) (hn : n < 2 ^ 31) (hp : ¬ p = 0) (K : pq_Ev d j nx lo r (sh, pn (pq_u F p k x), J, R) Q) : pq_Ev d j pc lo (.int (nI x) :: .int (nI k) :: .ref p :: r) (sh, pn F, J, R) Q := by
  refine E_st (nx := nx) ?_ K
  have h3 : pq_x3 .iastore lk (.int (nI x) :: .int (nI k) :: .ref p :: r) (sh, pn F, J, R) = some (r, (sh, pn (pq_u F p k x), J, R)) := by
    simp only [pq_x3, pq_arr_n hs hk hn, nI_clamp (show k < 2 ^ 31 by omega), if_neg hp, pu_n]
  unfold pq_step
  simp only [hf, pq_exec, pq_x1, pq_x2, h3]
theorem zc_nar {x : Nat} (hx : x < 65536) : vp_nar .char (nI x) = nI x := by
  have h := (pk_charN hx).1
  unfold vp_nar
  rw [h]
theorem E_cas {x : Nat} (hf : pq_fetch j pc = some (pc, .castore, nx, na, lk, v)) (hs : sh[p]? = some (.inl (.char, n))) (hk : k < n) (hn : n < 2 ^ 31) (hp : ¬ p = 0) (hx : x < 65536) (K : pq_Ev d j nx lo r (sh, pn (pq_u F p k x), J, R) Q) : pq_Ev d j pc lo (.int (nI x) :: .int (nI k) :: .ref p :: r) (sh, pn F, J, R) Q := by
  refine E_st (nx := nx) ?_ K
  have h3 : pq_x3 .castore lk (.int (nI x) :: .int (nI k) :: .ref p :: r) (sh, pn F, J, R) = some (r, (sh, pn (pq_u F p k x), J, R)) := by
    simp only [pq_x3, pq_arr_n hs hk hn, nI_clamp (show k < 2 ^ 31 by omega), if_neg hp, zc_nar hx, pu_n]
  unfold pq_step
  simp only [hf, pq_exec, pq_x1, pq_x2, h3]
theorem E_las {x : Nat} (hf : pq_fetch j pc = some (pc, .lastore, nx, na, lk, v)) (hs : sh[p]? = some (.inl (.long, n))) (hk : k < n) (hn : n < 2 ^ 31) (hp : ¬ p = 0) (K : pq_Ev d j nx lo r (sh, I, pl (pq_u G p k x), R) Q) : pq_Ev d j pc lo (.long (lN x) :: .int (nI k) :: .ref p :: r) (sh, I, pl G, R) Q := by
  refine E_st (nx := nx) ?_ K
  have h3 : pq_x3 .lastore lk (.long (lN x) :: .int (nI k) :: .ref p :: r) (sh, I, pl G, R) = some (r, (sh, I, pl (pq_u G p k x), R)) := by
    simp only [pq_x3, pq_arr_n hs hk hn, nI_clamp (show k < 2 ^ 31 by omega), if_neg hp, pu_l]
  unfold pq_step
  simp only [hf, pq_exec, pq_x1, pq_x2, h3]
theorem E_aas {C : String} {w : Nat} (hf : pq_fetch j pc = some (pc, .aastore, nx, na, lk, v)) (hs : sh[p]? = some (.inl (.object C, n))) (hk : k < n) (hn : n < 2 ^ 31) (hp : ¬ p = 0) (hw : sh[w]? = some (.inr 3)) (K : pq_Ev d j nx lo r (sh, I, J, pq_u R p k (some w)) Q) : pq_Ev d j pc lo (.ref w :: .int (nI k) :: .ref p :: r) (sh, I, J, R) Q := by
  refine E_st (nx := nx) ?_ K
  have h3 : pq_x3 .aastore lk (.ref w :: .int (nI k) :: .ref p :: r) (sh, I, J, R) = some (r, (sh, I, J, pq_u R p k (some w))) := by
    simp only [pq_x3, pq_arr_n hs hk hn, nI_clamp (show k < 2 ^ 31 by omega), hw]
    simp [hp]
  unfold pq_step
  simp only [hf, pq_exec, pq_x1, pq_x2, h3]
/-- other names for what lies on the stack -/
theorem E_t1 {x y : Int32} (h : x = y) (K : pq_Ev d j pc lo (.int y :: r) (sh, I, J, R) Q) : pq_Ev d j pc lo (.int x :: r) (sh, I, J, R) Q := by subst h; exact K
theorem E_t2 {x y : Int32} {w : Value} (h : x = y) (K : pq_Ev d j pc lo (w :: .int y :: r) (sh, I, J, R) Q) : pq_Ev d j pc lo (w :: .int x :: r) (sh, I, J, R) Q := by subst h; exact K
theorem E_l1 {x y : Int64} (h : x = y) (K : pq_Ev d j pc lo (.long y :: r) (sh, I, J, R) Q) : pq_Ev d j pc lo (.long x :: r) (sh, I, J, R) Q := by subst h; exact K
theorem E_if {t f : Nat} {cd : Prop} {dc : Decidable cd} {lo' : pq_L} {st st' : List Value} {M M' : pq_M} (h : pq_step j pc lo st M = some (nx, .inl (if cd then t else f, lo', st', M'))) (hc : cd) (kt : pq_Ev d j t lo' st' M' Q) : pq_Ev d j pc lo st M Q := E_br h (fun _ => kt) (fun h => absurd hc h)
theorem E_nif {t f : Nat} {cd : Prop} {dc : Decidable cd} {lo' : pq_L} {st st' : List Value} {M M' : pq_M} (h : pq_step j pc lo st M = some (nx, .inl (if cd then t else f, lo', st', M'))) (hc : ¬ cd) (kf : pq_Ev d j f lo' st' M' Q) : pq_Ev d j pc lo st M Q := E_br h (fun h => absurd h hc) (fun _ => kf)
end EV2
end
section
/-! Ways -/
def wy (u v : Nat) : Nat := 1 <<< (6 * u + v)
def wEdge (a b : Nat) : Nat := wy a b ||| wy b a
def wStays : Nat → Nat
  | 0 => 0
  | k + 1 => wStays k ||| wy k k
def wRows (s : Nat) : Nat → Nat
  | 0 => 0
  | k + 1 => if s.testBit k then wRows s k ||| 63 <<< (6 * k) else wRows s k
def wOnly (w s : Nat) : Nat := w &&& wRows s 6
def wEnds (w : Nat) : Nat := ((w ||| w >>> 18) ||| (w ||| w >>> 18) >>> 6 ||| (w ||| w >>> 18) >>> 12) &&& 63
def wClosed (f t : Nat) : Nat := 1090785345 <<< t ||| wy t f
def wFrom (w v : Nat) : Nat := (w >>> (6 * v)) &&& 63
def wSpread (w s : Nat) : Nat := wEnds (wOnly w s)
section WAYS
variable {d : Nat} {M : pq_M}
theorem c_way {u v : Nat} (h : 6 * u + v < 64) : pq_Ca (d + 1) 2 [.int (nI u), .int (nI v)] M (fun r M' => r = some (.long (lN (wy u v))) ∧ M' = M) := by
  refine Ca_mk rfl rfl ?_
  (repeat (first | refine E_st rfl ?_ | refine E_go rfl ?_))
  refine E_rt rfl ⟨?_, rfl⟩
  rw [pk_mul, nI_add, zl_shl _ h]; rfl
theorem c_edge {a b : Nat} (ha : a < 6) (hb : b < 6) : pq_Ca (d + 2) 3 [.int (nI a), .int (nI b)] M (fun r M' => r = some (.long (lN (wEdge a b))) ∧ M' = M) := by
  refine Ca_mk rfl rfl ?_
  (repeat (first | refine E_st rfl ?_ | refine E_go rfl ?_))
  refine E_cx rfl (Nat.le_refl _) (c_way (by omega)) ?_
  (repeat (first | refine E_st rfl ?_ | refine E_go rfl ?_))
  refine E_cx rfl (Nat.le_refl _) (c_way (by omega)) ?_
  (repeat (first | refine E_st rfl ?_ | refine E_go rfl ?_))
  refine E_rt rfl ⟨?_, rfl⟩
  rw [zl_or]; rfl
theorem c_contains {s n : Nat} (hs : s < 2 ^ 31) (hn : n < 32) : pq_Ca (d + 1) 4 [.int (nI s), .int (nI n)] M (fun r M' => r = some (.int (nI (if s.testBit n then 1 else 0))) ∧ M' = M) := by
  refine Ca_mk rfl rfl ?_
  (repeat (first | refine E_st rfl ?_ | refine E_go rfl ?_))
  have e : (nI s >>> (nI n &&& 31) &&& nI 1) = nI (if s.testBit n then 1 else 0) := by rw [zi_shr hs hn, zi_and, zb_and1]
  refine E_br rfl (fun h => ?_) (fun h => ?_)
  · (repeat (first | refine E_st rfl ?_ | refine E_go rfl ?_))
    refine E_rt rfl ⟨?_, rfl⟩
    rw [e] at h; rw [h]
  · (repeat (first | refine E_st rfl ?_ | refine E_go rfl ?_))
    refine E_rt rfl ⟨?_, rfl⟩
    rw [e] at h
    by_cases hb : s.testBit n = true
    · rw [if_pos hb] at h; exact absurd rfl h
    · rw [if_neg hb]
theorem l_stays {n : Nat} (hn : n ≤ 6) : ∀ m k, k + m = n → pq_Ev (d + 1) 1 4 [some (.int (nI n)), some (.long (lN (wStays k))), none, some (.int (nI k))] [] M (fun r M' => r = some (.long (lN (wStays n))) ∧ M' = M) := by
  intro m
  induction m with
  | zero =>
    intro k hk
    have hk : k = n := by omega
    subst hk
    (repeat (first | refine E_st rfl ?_ | refine E_go rfl ?_))
    refine E_nif rfl (nI_nlt (Nat.le_refl _) (by omega)) ?_
    (repeat (first | refine E_st rfl ?_ | refine E_go rfl ?_))
    exact E_rt rfl ⟨rfl, rfl⟩
  | succ m ih =>
    intro k hk
    (repeat (first | refine E_st rfl ?_ | refine E_go rfl ?_))
    refine E_if rfl (nI_lt (by omega) (by omega)) ?_
    (repeat (first | refine E_st rfl ?_ | refine E_go rfl ?_))
    refine E_cx rfl (Nat.le_refl _) (c_way (by omega)) ?_
    (iterate 4 (first | refine E_st rfl ?_ | refine E_go rfl ?_))
    rw [zl_or, nI_add]
    exact ih (k + 1) (by omega)
theorem c_stays {n : Nat} (hn : n ≤ 6) : pq_Ca (d + 2) 1 [.int (nI n)] M (fun r M' => r = some (.long (lN (wStays n))) ∧ M' = M) := by
  refine Ca_mk rfl rfl ?_
  (iterate 4 (first | refine E_st rfl ?_ | refine E_go rfl ?_))
  exact l_stays hn n 0 (by omega)
theorem c_closed {f t : Nat} (hf : f < 6) (ht : t < 6) : pq_Ca (d + 2) 8 [.int (nI f), .int (nI t)] M (fun r M' => r = some (.long (lN (wClosed f t))) ∧ M' = M) := by
  refine Ca_mk rfl rfl ?_
  (repeat (first | refine E_st rfl ?_ | refine E_go rfl ?_))
  refine E_cx rfl (Nat.le_refl _) (c_way (by omega)) ?_
  (repeat (first | refine E_st rfl ?_ | refine E_go rfl ?_))
  refine E_rt rfl ⟨?_, rfl⟩
  rw [zl_shl _ (by omega), zl_or]; rfl
theorem c_from {w v : Nat} (hw : w < 2 ^ 64) (hv : v < 6) : pq_Ca (d + 1) 9 [.long (lN w), .int (nI v)] M (fun r M' => r = some (.int (nI (wFrom w v))) ∧ M' = M) := by
  refine Ca_mk rfl rfl ?_
  (repeat (first | refine E_st rfl ?_ | refine E_go rfl ?_))
  refine E_rt rfl ⟨?_, rfl⟩
  rw [pk_mul, zl_shr hw (by omega), zl_and, lN_i]; rfl
theorem l_only {w s : Nat} (hs : s < 2 ^ 31) : ∀ m k, k + m = 6 → pq_Ev (d + 1) 6 5 [some (.long (lN w)), none, some (.int (nI s)), some (.long (lN (wRows s k))), none, some (.int (nI k))] [] M (fun r M' => r = some (.long (lN (wOnly w s))) ∧ M' = M) := by
  intro m
  induction m with
  | zero =>
    intro k hk
    have hk : k = 6 := by omega
    subst hk
    (repeat (first | refine E_st rfl ?_ | refine E_go rfl ?_))
    refine E_nif rfl (nI_nlt (Nat.le_refl _) (by omega)) ?_
    (repeat (first | refine E_st rfl ?_ | refine E_go rfl ?_))
    refine E_rt rfl ⟨?_, rfl⟩
    rw [zl_and]; rfl
  | succ m ih =>
    intro k hk
    (repeat (first | refine E_st rfl ?_ | refine E_go rfl ?_))
    refine E_if rfl (nI_lt (by omega) (by omega)) ?_
    (repeat (first | refine E_st rfl ?_ | refine E_go rfl ?_))
    refine E_cx rfl (Nat.le_refl _) (c_contains hs (by omega)) ?_
    by_cases hb : s.testBit k = true
    · rw [if_pos hb]
      refine E_nif rfl (nI_ne0 (by decide) (by decide)) ?_
      (iterate 10 (first | refine E_st rfl ?_ | refine E_go rfl ?_))
      rw [pk_mul, zl_shl _ (by omega), zl_or, nI_add]
      have e : wRows s (k + 1) = wRows s k ||| 63 <<< (6 * k) := by show (if _ then _ else _) = _; rw [if_pos hb]
      rw [← e]
      exact ih (k + 1) (by omega)
    · rw [if_neg hb]
      refine E_if rfl rfl ?_
      (iterate 2 (first | refine E_st rfl ?_ | refine E_go rfl ?_))
      rw [nI_add]
      have e : wRows s (k + 1) = wRows s k := by show (if _ then _ else _) = _; rw [if_neg hb]
      rw [← e]
      exact ih (k + 1) (by omega)
theorem c_only {w s : Nat} (hs : s < 2 ^ 31) : pq_Ca (d + 2) 6 [.long (lN w), .int (nI s)] M (fun r M' => r = some (.long (lN (wOnly w s))) ∧ M' = M) := by
  refine Ca_mk rfl rfl ?_
  (iterate 4 (first | refine E_st rfl ?_ | refine E_go rfl ?_))
  exact l_only hs 6 0 rfl
theorem c_ends {w : Nat} (hw : w < 2 ^ 64) : pq_Ca (d + 1) 7 [.long (lN w)] M (fun r M' => r = some (.int (nI (wEnds w))) ∧ M' = M) := by
  refine Ca_mk rfl rfl ?_
  (repeat (first | refine E_st rfl ?_ | refine E_go rfl ?_))
  refine E_rt rfl ⟨?_, rfl⟩
  have h1 : w ||| w >>> 18 < 2 ^ 64 := Nat.or_lt_two_pow hw (Nat.lt_of_le_of_lt (by rw [Nat.shiftRight_eq_div_pow]; exact Nat.div_le_self _ _) hw)
  rw [zl_shr hw (by decide), zl_or, zl_shr h1 (by decide), zl_or, zl_shr h1 (by decide), zl_or, zl_and, lN_i]; rfl
theorem wOnly_lt {w s : Nat} (hw : w < 2 ^ 64) : wOnly w s < 2 ^ 64 := Nat.lt_of_le_of_lt Nat.and_le_left hw
theorem c_spread {w s : Nat} (hw : w < 2 ^ 64) (hs : s < 2 ^ 31) : pq_Ca (d + 3) 5 [.long (lN w), .int (nI s)] M (fun r M' => r = some (.int (nI (wSpread w s))) ∧ M' = M) := by
  refine Ca_mk rfl rfl ?_
  (repeat (first | refine E_st rfl ?_ | refine E_go rfl ?_))
  refine E_cx rfl (Nat.le_refl _) (c_only hs) ?_
  refine E_cx rfl (by omega) (c_ends (d := d) (wOnly_lt hw)) ?_
  exact E_rt rfl ⟨rfl, rfl⟩
end WAYS
end
section
/-! Beliefs (of the present state): places 5, 6, 7 -/
theorem z8 (t : Nat) : nI t &&& nI 7 = nI (t % 8) := by rw [zi_and, show (7 : Nat) = 2 ^ 3 - 1 from rfl, Nat.and_two_pow_sub_one_eq_mod]
section BEL
variable {d L : Nat} {F G : Nat → Nat → Nat} {h : Nat → Nat}
theorem c_slot {M : pq_M} {t : Nat} : pq_Ca (d + 1) 12 [.int (nI t)] M (fun r M' => r = some (.int (nI (t % 8))) ∧ M' = M) := by
  refine Ca_mk rfl rfl ?_
  (repeat (first | refine E_st rfl ?_ | refine E_go rfl ?_))
  exact E_rt rfl ⟨by rw [z8], rfl⟩
theorem c_makeAnew {t s : Nat} : pq_Ca (d + 2) 11 [.ref 5, .int (nI t), .int (nI s)] (pq_Sh L, pn F, pl G, pq_rt h) (fun r M' => r = none ∧ M' = (pq_Sh L, pn (pq_u (pq_u (pq_u F 5 2 t) 5 3 1) 6 (t % 8) s), pl (G), pq_rt h)) := by
  refine Ca_mk rfl rfl ?_
  (repeat (first | refine E_st rfl ?_ | refine E_go rfl ?_))
  refine E_cx rfl (Nat.le_refl _) c_slot ?_
  (repeat (first | refine E_st rfl ?_ | refine E_go rfl ?_))
  simp only [pu_n, pu_l, pc_n, pc_l]
  refine E_ias rfl rfl (by omega) (by decide) (by decide) ?_
  exact E_rt rfl ⟨rfl, rfl⟩
theorem c_leaveOut {v : Nat} (hv : v < 32) : pq_Ca (d + 2) 14 [.ref 5, .int (nI v)] (pq_Sh L, pn F, pl G, pq_rt h) (fun r M' => r = none ∧ M' = (pq_Sh L, pn (pq_u F 6 (F 5 2 % 8) (an (F 6 (F 5 2 % 8)) (1 <<< v))), pl (G), pq_rt h)) := by
  refine Ca_mk rfl rfl ?_
  (repeat (first | refine E_st rfl ?_ | refine E_go rfl ?_))
  refine E_cx rfl (Nat.le_refl _) (c_slot (t := F 5 2)) ?_
  (repeat (first | refine E_st rfl ?_ | refine E_go rfl ?_))
  refine E_ial rfl rfl (by omega) (by decide) ?_
  (repeat (first | refine E_st rfl ?_ | refine E_go rfl ?_))
  rw [zi_shl _ hv, zi_not]
  refine E_ias rfl rfl (by omega) (by decide) (by decide) ?_
  exact E_rt rfl ⟨rfl, rfl⟩
theorem c_after {t : Nat} : pq_Ca (d + 2) 15 [.ref 5, .int (nI t)] (pq_Sh L, pn F, pl G, pq_rt h) (fun r M' => r = some (.int (nI (F 6 (t % 8)))) ∧ M' = (pq_Sh L, pn (F), pl (G), pq_rt h)) := by
  refine Ca_mk rfl rfl ?_
  (repeat (first | refine E_st rfl ?_ | refine E_go rfl ?_))
  refine E_cx rfl (Nat.le_refl _) c_slot ?_
  refine E_ial rfl rfl (by omega) (by decide) ?_
  exact E_rt rfl ⟨rfl, rfl⟩
theorem c_keeps {t : Nat} (h1 : F 5 3 ≤ F 5 2 + 1) (h2 : F 5 2 < 2 ^ 20) (h3 : t < 2 ^ 20) : pq_Ca (d + 1) 16 [.ref 5, .int (nI t)] (pq_Sh L, pn F, pl G, pq_rt h) (fun r M' => r = some (.int (nI (if t ≤ F 5 2 ∧ F 5 2 < t + F 5 3 then 1 else 0))) ∧ M' = (pq_Sh L, pn (F), pl (G), pq_rt h)) := by
  refine Ca_mk rfl rfl ?_
  (repeat (first | refine E_st rfl ?_ | refine E_go rfl ?_))
  refine E_br rfl (fun c => ?_) (fun c => ?_)
  · have c1 : F 5 2 < t := (nI_ltI (by omega) (by omega)).mp c
    (repeat (first | refine E_st rfl ?_ | refine E_go rfl ?_))
    refine E_rt rfl ⟨?_, rfl⟩
    rw [if_neg (by omega)]
  · have c1 : ¬ F 5 2 < t := fun q => c ((nI_ltI (by omega) (by omega)).mpr q)
    (repeat (first | refine E_st rfl ?_ | refine E_go rfl ?_))
    have key : (pn F 5 2 - pn F 5 3 < nI t) ↔ F 5 2 < t + F 5 3 := by
      simp only [pn_at]
      by_cases hle : F 5 3 ≤ F 5 2
      · rw [pk_sub hle, nI_ltI (by omega) (by omega)]; omega
      · have e : F 5 3 = F 5 2 + 1 := by omega
        rw [e]
        refine ⟨fun _ => by omega, fun _ => ?_⟩
        have : nI (F 5 2) - nI (F 5 2 + 1) < 0 := pk_sneg (by omega) (by omega)
        exact Int32.lt_of_lt_of_le this (nI_pos' (by omega))
    refine E_br rfl (fun c2 => ?_) (fun c2 => ?_)
    · (repeat (first | refine E_st rfl ?_ | refine E_go rfl ?_))
      refine E_rt rfl ⟨?_, rfl⟩
      rw [if_pos ⟨(by omega), key.mp c2⟩]
    · (repeat (first | refine E_st rfl ?_ | refine E_go rfl ?_))
      refine E_rt rfl ⟨?_, rfl⟩
      rw [if_neg (fun q => c2 (key.mpr q.2))]
def nwF (F G : Nat → Nat → Nat) (t node : Nat) : Nat → Nat → Nat → Nat
  | 0 => pq_u F 6 (t % 8) (1 <<< node)
  | k + 1 => pq_u (nwF F G t node k) 6 ((t + k + 1) % 8) (nwF F G t node k 6 ((t + k + 1) % 8) &&& wSpread (G 7 ((t + k + 1) % 8)) (nwF F G t node k 6 ((t + k) % 8)))
theorem nwF_off (t node : Nat) : ∀ (k p j : Nat), ¬ p = 6 → nwF F G t node k p j = F p j := by
  intro k
  induction k with
  | zero => intro p j hp; simp only [nwF, pu_at]; rw [if_neg (fun q => hp q.1)]
  | succ k ih => intro p j hp; simp only [nwF, pu_at]; rw [if_neg (fun q => hp q.1)]; exact ih p j hp
theorem nwF_lt {t node : Nat} (hn : node < 6) (hF : ∀ i, i < 8 → F 6 i < 64) : ∀ k i, i < 8 → nwF F G t node k 6 i < 64 := by
  intro k
  induction k with
  | zero =>
    intro i hi
    simp only [nwF, pu_at]
    split
    · rw [Nat.one_shiftLeft]; exact Nat.pow_lt_pow_right (by decide) hn
    · exact hF i hi
  | succ k ih =>
    intro i hi
    simp only [nwF, pu_at]
    split
    · exact Nat.lt_of_le_of_lt Nat.and_le_left (ih _ (Nat.mod_lt _ (by decide)))
    · exact ih i hi
theorem l_narrow {t node : Nat} (hn : node < 6) (hF : ∀ i, i < 8 → F 6 i < 64) (hG : ∀ i, i < 8 → G 7 i < 2 ^ 64) (hl : F 5 2 < 2 ^ 20) : ∀ m k, t + k + m = F 5 2 →
    pq_Ev (d + 3) 17 29 [some (.ref 5), some (.int (nI t)), some (.int (nI node)), some (.int (nI (t + k + 1)))] [] (pq_Sh L, pn (nwF F G t node k), pl G, pq_rt h) (fun r M' => r = none ∧ M' = (pq_Sh L, pn (nwF F G t node (F 5 2 - t)), pl (G), pq_rt h)) := by
  intro m
  induction m with
  | zero =>
    intro k hk
    (repeat (first | refine E_st rfl ?_ | refine E_go rfl ?_))
    refine E_if rfl (show pn (nwF F G t node k) 5 2 < nI (t + k + 1) from ?_) ?_
    · rw [pn_at, nwF_off _ _ _ _ _ (by decide)]; exact nI_lt (by omega) (by omega)
    · refine E_rt rfl ⟨rfl, ?_⟩
      rw [show k = F 5 2 - t by omega]
  | succ m ih =>
    intro k hk
    (repeat (first | refine E_st rfl ?_ | refine E_go rfl ?_))
    refine E_nif rfl (show ¬ pn (nwF F G t node k) 5 2 < nI (t + k + 1) from ?_) ?_
    · rw [pn_at, nwF_off _ _ _ _ _ (by decide)]; exact nI_nlt (by omega) (by omega)
    (repeat (first | refine E_st rfl ?_ | refine E_go rfl ?_))
    refine E_cx rfl (by omega) (c_slot (d := 0)) ?_
    (repeat (first | refine E_st rfl ?_ | refine E_go rfl ?_))
    refine E_ial rfl rfl (by omega) (by decide) ?_
    (repeat (first | refine E_st rfl ?_ | refine E_go rfl ?_))
    refine E_cx rfl (by omega) (c_slot (d := 0)) ?_
    refine E_lal rfl rfl (by omega) (by decide) ?_
    (repeat (first | refine E_st rfl ?_ | refine E_go rfl ?_))
    rw [show nI (t + k + 1) - nI 1 = nI (t + k) from pk_sub (by omega)]
    refine E_cx rfl (by omega) (c_after (d := 0)) ?_
    refine E_cx rfl (by omega) (c_spread (d := 0) (hG _ (by omega)) (Nat.lt_trans (nwF_lt hn hF k _ (by omega)) (by decide))) ?_
    (iterate 1 (first | refine E_st rfl ?_ | refine E_go rfl ?_))
    rw [zi_and]
    refine E_ias rfl rfl (by omega) (by decide) (by decide) ?_
    (iterate 2 (first | refine E_st rfl ?_ | refine E_go rfl ?_))
    rw [nI_add]
    exact ih (k + 1) (by omega)
theorem c_narrow {t node : Nat} (ht : t ≤ F 5 2) (hn : node < 6) (hF : ∀ i, i < 8 → F 6 i < 64) (hG : ∀ i, i < 8 → G 7 i < 2 ^ 64) (hl : F 5 2 < 2 ^ 20) :
    pq_Ca (d + 4) 17 [.ref 5, .int (nI t), .int (nI node)] (pq_Sh L, pn F, pl G, pq_rt h) (fun r M' => r = none ∧ M' = (pq_Sh L, pn (if (F 6 (t % 8)).testBit node then nwF F G t node (F 5 2 - t) else F), pl (G), pq_rt h)) := by
  refine Ca_mk rfl rfl ?_
  (repeat (first | refine E_st rfl ?_ | refine E_go rfl ?_))
  refine E_cx rfl (by omega) (c_after (d := 0)) ?_
  (repeat (first | refine E_st rfl ?_ | refine E_go rfl ?_))
  refine E_cx rfl (by omega) (c_contains (d := 0) (Nat.lt_trans (hF _ (by omega)) (by decide)) (by omega)) ?_
  by_cases hb : (F 6 (t % 8)).testBit node = true
  · simp only [if_pos hb]
    refine E_nif rfl (nI_ne0 (by decide) (by decide)) ?_
    (repeat (first | refine E_st rfl ?_ | refine E_go rfl ?_))
    refine E_cx rfl (by omega) (c_slot (d := 0)) ?_
    (repeat (first | refine E_st rfl ?_ | refine E_go rfl ?_))
    rw [zi_shl _ (by omega)]
    refine E_ias rfl rfl (by omega) (by decide) (by decide) ?_
    (iterate 4 (first | refine E_st rfl ?_ | refine E_go rfl ?_))
    rw [nI_add]
    exact l_narrow hn hF hG hl (F 5 2 - t) 0 (by omega)
  · simp only [if_neg hb]
    refine E_if rfl rfl ?_
    exact E_rt rfl ⟨rfl, rfl⟩
def exF (F G : Nat → Nat → Nat) (w : Nat) : Nat → Nat → Nat := pq_u (pq_u (pq_u F 5 2 (F 5 2 + 1)) 5 3 (if 8 < F 5 3 + 1 then 8 else F 5 3 + 1)) 6 ((F 5 2 + 1) % 8) (wSpread w (F 6 (F 5 2 % 8)))
theorem c_extend {w : Nat} (hw : w < 2 ^ 64) (hF : ∀ i, i < 8 → F 6 i < 64) (hk : F 5 3 < 2 ^ 30) : pq_Ca (d + 4) 18 [.ref 5, .long (lN w)] (pq_Sh L, pn F, pl G, pq_rt h) (fun r M' => r = none ∧ M' = (pq_Sh L, pn (exF F G w), pl (pq_u G 7 ((F 5 2 + 1) % 8) w), pq_rt h)) := by
  refine Ca_mk rfl rfl ?_
  (repeat (first | refine E_st rfl ?_ | refine E_go rfl ?_))
  refine E_cx rfl (by omega) (c_after (d := 0) (t := F 5 2)) ?_
  refine E_cx rfl (by omega) (c_spread (d := 0) hw (Nat.lt_trans (hF _ (by omega)) (by decide))) ?_
  (repeat (first | refine E_st rfl ?_ | refine E_go rfl ?_))
  have e1 : (if nI 8 < nI (F 5 3 + 1) then nI 8 else nI (F 5 3 + 1)) = nI (if 8 < F 5 3 + 1 then 8 else F 5 3 + 1) := by
    by_cases hc : 8 < F 5 3 + 1
    · rw [if_pos hc, if_pos (nI_lt hc (by omega))]
    · rw [if_neg hc, if_neg (nI_nlt (by omega) (by decide))]
  simp +decide only [pn_at, pl_at, pu_n, pu_l, pc_n, pc_l, pu_at, nI_add, if_true, if_false, and_true, true_and, and_false, false_and, and_self]
  rw [e1]
  simp +decide only [pn_at, pl_at, pu_n, pu_l, pc_n, pc_l, pu_at, nI_add, if_true, if_false, and_true, true_and, and_false, false_and, and_self]
  refine E_cx rfl (by omega) (c_slot (d := 0)) ?_
  (repeat (first | refine E_st rfl ?_ | refine E_go rfl ?_))
  refine E_ias rfl rfl (by omega) (by decide) (by decide) ?_
  (repeat (first | refine E_st rfl ?_ | refine E_go rfl ?_))
  simp +decide only [pn_at, pl_at, pu_n, pu_l, pc_n, pc_l, pu_at, nI_add, if_true, if_false, and_true, true_and, and_false, false_and, and_self]
  refine E_cx rfl (by omega) (c_slot (d := 0)) ?_
  (repeat (first | refine E_st rfl ?_ | refine E_go rfl ?_))
  refine E_las rfl rfl (by omega) (by decide) (by decide) ?_
  exact E_rt rfl ⟨rfl, rfl⟩
end BEL
end
section
/-! Evader (of the present state): places 8, 9 -/
section EVA
variable {d L : Nat} {F G : Nat → Nat → Nat} {h : Nat → Nat}
def stF (F : Nat → Nat → Nat) (v t : Nat) : Nat → Nat → Nat := pq_u (pq_u (pq_u F 8 1 v) 8 2 v) 9 (t % 8) v
def caF (F : Nat → Nat → Nat) (v t : Nat) : Nat → Nat → Nat := stF (pq_u (pq_u F 8 3 1) 8 4 t) v t
def hiF (F : Nat → Nat → Nat) (v t : Nat) : Nat → Nat → Nat := stF (pq_u (pq_u (pq_u (pq_u F 8 0 1) 8 3 0) 8 4 0) 8 5 t) v t
theorem c_isFree (h1 : F 8 0 < 2 ^ 31) (h2 : F 8 3 < 2 ^ 31) : pq_Ca (d + 1) 21 [.ref 8] (pq_Sh L, pn F, pl G, pq_rt h) (fun r M' => r = some (.int (nI (if F 8 0 = 0 ∨ F 8 3 ≠ 0 then 0 else 1))) ∧ M' = (pq_Sh L, pn (F), pl (G), pq_rt h)) := by
  refine Ca_mk rfl rfl ?_
  (repeat (first | refine E_st rfl ?_ | refine E_go rfl ?_))
  refine E_br rfl (fun c => ?_) (fun c => ?_)
  · have c1 : F 8 0 = 0 := (nI_eq h1 (by decide)).mp c
    (repeat (first | refine E_st rfl ?_ | refine E_go rfl ?_))
    refine E_rt rfl ⟨?_, rfl⟩
    rw [if_pos (Or.inl c1)]
  · have c1 : ¬ F 8 0 = 0 := fun q => c (by show nI (F 8 0) = 0; rw [q]; rfl)
    (repeat (first | refine E_st rfl ?_ | refine E_go rfl ?_))
    refine E_br rfl (fun c => ?_) (fun c => ?_)
    · have c2 : F 8 3 = 0 := (nI_eq h2 (by decide)).mp c
      (repeat (first | refine E_st rfl ?_ | refine E_go rfl ?_))
      refine E_rt rfl ⟨?_, rfl⟩
      rw [if_neg (fun q => q.elim c1 (fun q => q c2))]
    · have c2 : ¬ F 8 3 = 0 := fun q => c (by show nI (F 8 3) = 0; rw [q]; rfl)
      (repeat (first | refine E_st rfl ?_ | refine E_go rfl ?_))
      refine E_rt rfl ⟨?_, rfl⟩
      rw [if_pos (Or.inr c2)]
theorem c_standAt {v t : Nat} : pq_Ca (d + 2) 23 [.ref 8, .int (nI v), .int (nI t)] (pq_Sh L, pn F, pl G, pq_rt h) (fun r M' => r = none ∧ M' = (pq_Sh L, pn (stF F v t), pl (G), pq_rt h)) := by
  refine Ca_mk rfl rfl ?_
  (repeat (first | refine E_st rfl ?_ | refine E_go rfl ?_))
  refine E_cx rfl (Nat.le_refl _) c_slot ?_
  (repeat (first | refine E_st rfl ?_ | refine E_go rfl ?_))
  simp only [pu_n, pu_l, pc_n, pc_l]
  refine E_ias rfl rfl (by omega) (by decide) (by decide) ?_
  exact E_rt rfl ⟨rfl, rfl⟩
theorem c_catchAt {v t : Nat} : pq_Ca (d + 3) 22 [.ref 8, .int (nI v), .int (nI t)] (pq_Sh L, pn F, pl G, pq_rt h) (fun r M' => r = none ∧ M' = (pq_Sh L, pn (caF F v t), pl (G), pq_rt h)) := by
  refine Ca_mk rfl rfl ?_
  (repeat (first | refine E_st rfl ?_ | refine E_go rfl ?_))
  simp only [pu_n, pu_l, pc_n, pc_l]
  refine E_cx rfl (Nat.le_refl _) c_standAt ?_
  (repeat (first | refine E_st rfl ?_ | refine E_go rfl ?_))
  exact E_rt rfl ⟨rfl, rfl⟩
theorem c_hideAt {v t : Nat} : pq_Ca (d + 3) 26 [.ref 8, .int (nI v), .int (nI t)] (pq_Sh L, pn F, pl G, pq_rt h) (fun r M' => r = none ∧ M' = (pq_Sh L, pn (hiF F v t), pl (G), pq_rt h)) := by
  refine Ca_mk rfl rfl ?_
  (repeat (first | refine E_st rfl ?_ | refine E_go rfl ?_))
  simp only [pu_n, pu_l, pc_n, pc_l]
  refine E_cx rfl (Nat.le_refl _) c_standAt ?_
  (repeat (first | refine E_st rfl ?_ | refine E_go rfl ?_))
  exact E_rt rfl ⟨rfl, rfl⟩
theorem c_nodeAfter {t : Nat} : pq_Ca (d + 2) 25 [.ref 8, .int (nI t)] (pq_Sh L, pn F, pl G, pq_rt h) (fun r M' => r = some (.int (nI (F 9 (t % 8)))) ∧ M' = (pq_Sh L, pn (F), pl (G), pq_rt h)) := by
  refine Ca_mk rfl rfl ?_
  (repeat (first | refine E_st rfl ?_ | refine E_go rfl ?_))
  refine E_cx rfl (Nat.le_refl _) c_slot ?_
  refine E_ial rfl rfl (by omega) (by decide) ?_
  exact E_rt rfl ⟨rfl, rfl⟩
theorem wy_bit (u v i : Nat) : (wy u v).testBit i = decide (6 * u + v = i) := zb_one _ _
theorem and_way (w u v : Nat) : w &&& wy u v = 0 ↔ w.testBit (6 * u + v) = false := by
  constructor
  · intro e
    have := congrArg (fun z => z.testBit (6 * u + v)) e
    simpa [Nat.testBit_and, wy_bit] using this
  · intro e
    apply Nat.eq_of_testBit_eq
    intro i
    rw [Nat.testBit_and, wy_bit, Nat.zero_testBit]
    by_cases hi : 6 * u + v = i
    · subst hi; simp [e]
    · simp [hi]
theorem c_go {w t : Nat} (hw : w < 2 ^ 63) (h1 : F 8 1 < 6) (h2 : F 8 2 < 6) : pq_Ca (d + 4) 24 [.ref 8, .long (lN w), .int (nI t)] (pq_Sh L, pn F, pl G, pq_rt h) (fun r M' => r = none ∧ M' = (pq_Sh L, pn (if w.testBit (6 * F 8 1 + F 8 2) then stF F (F 8 2) t else caF F (F 8 2) t), pl (G), pq_rt h)) := by
  refine Ca_mk rfl rfl ?_
  (repeat (first | refine E_st rfl ?_ | refine E_go rfl ?_))
  refine E_cx rfl (by omega) (c_way (d := 0) (u := F 8 1) (v := F 8 2) (by omega)) ?_
  (repeat (first | refine E_st rfl ?_ | refine E_go rfl ?_))
  rw [zl_and]
  have hlt : w &&& wy (F 8 1) (F 8 2) < 2 ^ 63 := Nat.lt_of_le_of_lt Nat.and_le_left hw
  by_cases hb : w.testBit (6 * F 8 1 + F 8 2) = true
  · simp only [if_pos hb]
    have hne : ¬ w &&& wy (F 8 1) (F 8 2) = 0 := fun e => by rw [and_way, hb] at e; cases e
    refine E_nif rfl (fun e => hne ((zl_cmp hlt).mp e)) ?_
    (repeat (first | refine E_st rfl ?_ | refine E_go rfl ?_))
    refine E_cx rfl (by omega) (c_standAt (d := 0)) ?_
    (repeat (first | refine E_st rfl ?_ | refine E_go rfl ?_))
    exact E_rt rfl ⟨rfl, rfl⟩
  · simp only [if_neg hb]
    have he : w &&& wy (F 8 1) (F 8 2) = 0 := (and_way _ _ _).mpr (by simpa using hb)
    refine E_if rfl ((zl_cmp hlt).mpr he) ?_
    (repeat (first | refine E_st rfl ?_ | refine E_go rfl ?_))
    refine E_cx rfl (by omega) (c_catchAt (d := 0)) ?_
    (repeat (first | refine E_st rfl ?_ | refine E_go rfl ?_))
    exact E_rt rfl ⟨rfl, rfl⟩
end EVA
end
section
/-! State (the present one): places 2 (State), 3 (at), 4 (aim) -/
def occ (F : Nat → Nat → Nat) : Nat → Nat
  | 0 => 0
  | k + 1 => occ F k ||| 1 <<< F 3 k
def bgF (F : Nat → Nat → Nat) : Nat → Nat → Nat := pq_u (pq_u (pq_u F 5 2 (F 2 5)) 5 3 1) 6 (F 2 5 % 8) (an (1 <<< F 2 0 - 1) (occ F (F 2 2)))
def fwF (F G : Nat → Nat → Nat) (tp : Nat) : Nat → Nat
  | 0 => G 2 1
  | k + 1 => an (fwF F G tp k) (wClosed (F 3 k) (F tp k))
def cuF (F : Nat → Nat → Nat) (w : Nat) : Nat → Nat → Nat → Nat
  | 0 => F
  | k + 1 => if w.testBit (6 * F 3 k + F 4 k) then cuF F w k else pq_u (cuF F w k) 4 k (F 3 k)
def saF (F : Nat → Nat → Nat) (n : Nat) : Nat → Nat → Nat := bgF (pq_u (pq_u (pq_u (pq_u F 2 0 n) 2 2 0) 2 5 0) 8 0 0)
def ctF (F : Nat → Nat → Nat) (w : Nat) : Nat → Nat → Nat := if F 8 0 = 0 ∨ w.testBit (6 * F 8 1 + F 8 2) = true then cuF F w (F 2 2) else pq_u (cuF F w (F 2 2)) 8 2 (F 8 1)
def reF (F : Nat → Nat → Nat) : Nat → Nat → Nat := bgF (pq_u (pq_cpy F 3 0 4 0 3) 8 2 (F 8 1))
def loF (F : Nat → Nat → Nat) (v : Nat) : Nat → Nat → Nat := pq_u F 6 (F 5 2 % 8) (an (F 6 (F 5 2 % 8)) (1 <<< v))
def adF (F : Nat → Nat → Nat) (v : Nat) : Nat → Nat → Nat :=
  if F 8 0 = 0 ∨ F 8 3 ≠ 0 ∨ F 8 1 ≠ v then loF (pq_u (pq_u (pq_u F 3 (F 2 2) v) 4 (F 2 2) v) 2 2 (F 2 2 + 1)) v
  else caF (loF (pq_u (pq_u (pq_u F 3 (F 2 2) v) 4 (F 2 2) v) 2 2 (F 2 2 + 1)) v) v (F 2 5)
def mtE (F G : Nat → Nat → Nat) (w : Nat) : Nat → Nat → Nat := exF (pq_u F 2 5 (F 2 5 + 1)) G w
def mtF (F G : Nat → Nat → Nat) (w : Nat) : Nat → Nat → Nat :=
  pq_cpy (if F 8 0 = 0 ∨ F 8 3 ≠ 0 then mtE F G w else if w.testBit (6 * F 8 1 + F 8 2) = true then stF (mtE F G w) (F 8 2) (F 2 5 + 1) else caF (mtE F G w) (F 8 2) (F 2 5 + 1)) 4 0 3 0 3
section STA
variable {d L : Nat} {F G : Nat → Nat → Nat} {h : Nat → Nat}
theorem l_occ (hK : F 2 2 ≤ 3) (ha : ∀ k, k < 3 → F 3 k < 32) : ∀ m k, k + m = F 2 2 → pq_Ev d 52 4 [some (.ref 2), some (.int (nI (occ F k))), some (.int (nI k))] [] (pq_Sh L, pn F, pl G, pq_rt h) (fun r M' => r = some (.int (nI (occ F (F 2 2)))) ∧ M' = (pq_Sh L, pn (F), pl (G), pq_rt h)) := by
  intro m
  induction m with
  | zero =>
    intro k hk
    (repeat (first | refine E_st rfl ?_ | refine E_go rfl ?_))
    refine E_nif rfl (show ¬ nI k < nI (F 2 2) from nI_nlt (by omega) (by omega)) ?_
    (repeat (first | refine E_st rfl ?_ | refine E_go rfl ?_))
    refine E_rt rfl ⟨?_, rfl⟩
    rw [show k = F 2 2 by omega]
  | succ m ih =>
    intro k hk
    (repeat (first | refine E_st rfl ?_ | refine E_go rfl ?_))
    refine E_if rfl (show nI k < nI (F 2 2) from nI_lt (by omega) (by omega)) ?_
    (repeat (first | refine E_st rfl ?_ | refine E_go rfl ?_))
    refine E_ial rfl rfl (by omega) (by decide) ?_
    (iterate 5 (first | refine E_st rfl ?_ | refine E_go rfl ?_))
    rw [zi_shl _ (ha k (by omega)), zi_or, nI_add]
    exact ih (k + 1) (by omega)
theorem c_occupied (hK : F 2 2 ≤ 3) (ha : ∀ k, k < 3 → F 3 k < 32) : pq_Ca (d + 1) 52 [.ref 2] (pq_Sh L, pn F, pl G, pq_rt h) (fun r M' => r = some (.int (nI (occ F (F 2 2)))) ∧ M' = (pq_Sh L, pn (F), pl (G), pq_rt h)) := by
  refine Ca_mk rfl rfl ?_
  (iterate 4 (first | refine E_st rfl ?_ | refine E_go rfl ?_))
  exact l_occ hK ha (F 2 2) 0 (by omega)
theorem c_forget (hK : F 2 2 ≤ 3) (ha : ∀ k, k < 3 → F 3 k < 32) (hn : F 2 0 ≤ 6) : pq_Ca (d + 3) 51 [.ref 2] (pq_Sh L, pn F, pl G, pq_rt h) (fun r M' => r = none ∧ M' = (pq_Sh L, pn (bgF F), pl (G), pq_rt h)) := by
  refine Ca_mk rfl rfl ?_
  (repeat (first | refine E_st rfl ?_ | refine E_go rfl ?_))
  refine E_cx rfl (by omega) (c_occupied (d := 0) hK ha) ?_
  (repeat (first | refine E_st rfl ?_ | refine E_go rfl ?_))
  simp only [pn_at]
  rw [zi_shl _ (by omega), pk_sub (by rw [Nat.one_shiftLeft]; exact Nat.one_le_two_pow), zi_not]
  refine E_cx rfl (by omega) (c_makeAnew (d := 0)) ?_
  exact E_rt rfl ⟨rfl, rfl⟩
theorem c_startAnew {n : Nat} (hn : n ≤ 6) (ha : ∀ k, k < 3 → F 3 k < 32) : pq_Ca (d + 4) 50 [.ref 2, .int (nI n)] (pq_Sh L, pn F, pl G, pq_rt h) (fun r M' => r = none ∧ M' = (pq_Sh L, pn (saF F n), pl (pq_u G 2 1 (wStays n)), pq_rt h)) := by
  refine Ca_mk rfl rfl ?_
  (repeat (first | refine E_st rfl ?_ | refine E_go rfl ?_))
  refine E_cx rfl (by omega) (c_stays (d := 0) hn) ?_
  (repeat (first | refine E_st rfl ?_ | refine E_go rfl ?_))
  simp only [pu_n, pu_l, pc_n, pc_l]
  refine E_cx rfl (by omega) (c_forget (d := 0) (by simp +decide [pu_at]) ha (by simpa +decide [pu_at] using hn)) ?_
  exact E_rt rfl ⟨rfl, rfl⟩
theorem c_joins {a b : Nat} (hG : G 2 1 < 2 ^ 63) (hab : 6 * a + b < 64) : pq_Ca (d + 2) 54 [.ref 2, .int (nI a), .int (nI b)] (pq_Sh L, pn F, pl G, pq_rt h) (fun r M' => r = some (.int (nI (if (G 2 1).testBit (6 * a + b) then 1 else 0))) ∧ M' = (pq_Sh L, pn (F), pl (G), pq_rt h)) := by
  refine Ca_mk rfl rfl ?_
  (repeat (first | refine E_st rfl ?_ | refine E_go rfl ?_))
  refine E_cx rfl (by omega) (c_way (d := 0) hab) ?_
  (repeat (first | refine E_st rfl ?_ | refine E_go rfl ?_))
  simp only [pl_at]
  rw [zl_and]
  have hlt : G 2 1 &&& wy a b < 2 ^ 63 := Nat.lt_of_le_of_lt Nat.and_le_left hG
  by_cases hb : (G 2 1).testBit (6 * a + b) = true
  · have hne : ¬ G 2 1 &&& wy a b = 0 := fun e => by rw [and_way, hb] at e; cases e
    refine E_nif rfl (fun e => hne ((zl_cmp hlt).mp e)) ?_
    (repeat (first | refine E_st rfl ?_ | refine E_go rfl ?_))
    exact E_rt rfl ⟨by rw [if_pos hb], rfl⟩
  · have he : G 2 1 &&& wy a b = 0 := (and_way _ _ _).mpr (by simpa using hb)
    refine E_if rfl ((zl_cmp hlt).mpr he) ?_
    (repeat (first | refine E_st rfl ?_ | refine E_go rfl ?_))
    exact E_rt rfl ⟨by rw [if_neg hb], rfl⟩
theorem fwF_lt {tp : Nat} (hG : G 2 1 < 2 ^ 63) : ∀ k, fwF F G tp k < 2 ^ 63 := by
  intro k
  induction k with
  | zero => exact hG
  | succ k ih => exact Nat.lt_of_le_of_lt (an_le _ _) ih
theorem l_free {tp : Nat} (htp : tp = 3 ∨ tp = 4) (hK : F 2 2 ≤ 3) (ha : ∀ k, k < 3 → F 3 k < 6) (hb : ∀ k, k < 3 → F tp k < 6) : ∀ m k, k + m = F 2 2 →
    pq_Ev (d + 2) 60 8 [some (.ref 2), some (.ref tp), some (.long (lN (fwF F G tp k))), none, some (.int (nI k))] [] (pq_Sh L, pn F, pl G, pq_rt h) (fun r M' => r = some (.long (lN (fwF F G tp (F 2 2)))) ∧ M' = (pq_Sh L, pn (F), pl (G), pq_rt h)) := by
  intro m
  induction m with
  | zero =>
    intro k hk
    (repeat (first | refine E_st rfl ?_ | refine E_go rfl ?_))
    refine E_nif rfl (show ¬ nI k < nI (F 2 2) from nI_nlt (by omega) (by omega)) ?_
    (repeat (first | refine E_st rfl ?_ | refine E_go rfl ?_))
    refine E_rt rfl ⟨?_, rfl⟩
    rw [show k = F 2 2 by omega]
  | succ m ih =>
    intro k hk
    (repeat (first | refine E_st rfl ?_ | refine E_go rfl ?_))
    refine E_if rfl (show nI k < nI (F 2 2) from nI_lt (by omega) (by omega)) ?_
    (repeat (first | refine E_st rfl ?_ | refine E_go rfl ?_))
    refine E_ial rfl rfl (by omega) (by decide) ?_
    (repeat (first | refine E_st rfl ?_ | refine E_go rfl ?_))
    refine E_ial rfl (n := 3) (by rcases htp with e | e <;> subst e <;> rfl) (by omega) (by decide) ?_
    refine E_cx rfl (by omega) (c_closed (d := 0) (ha k (by omega)) (hb k (by omega))) ?_
    (iterate 6 (first | refine E_st rfl ?_ | refine E_go rfl ?_))
    rw [zl_not, nI_add]
    exact ih (k + 1) (by omega)
theorem c_freeWays {tp : Nat} (htp : tp = 3 ∨ tp = 4) (hK : F 2 2 ≤ 3) (ha : ∀ k, k < 3 → F 3 k < 6) (hb : ∀ k, k < 3 → F tp k < 6) : pq_Ca (d + 3) 60 [.ref 2, .ref tp] (pq_Sh L, pn F, pl G, pq_rt h) (fun r M' => r = some (.long (lN (fwF F G tp (F 2 2)))) ∧ M' = (pq_Sh L, pn (F), pl (G), pq_rt h)) := by
  refine Ca_mk rfl rfl ?_
  (iterate 5 (first | refine E_st rfl ?_ | refine E_go rfl ?_))
  exact l_free htp hK ha hb (F 2 2) 0 (by omega)
end STA
end
section
section STB
variable {d L : Nat} {F G : Nat → Nat → Nat} {h : Nat → Nat}
theorem cuF_off {w : Nat} : ∀ (k p j : Nat), ¬ (p = 4 ∧ j < k) → cuF F w k p j = F p j := by
  intro k
  induction k with
  | zero => intro p j _; rfl
  | succ k ih =>
    intro p j hp
    simp only [cuF]
    split
    · exact ih p j (fun q => hp ⟨q.1, by omega⟩)
    · rw [pu_at, if_neg (fun q => hp ⟨q.1, by omega⟩)]; exact ih p j (fun q => hp ⟨q.1, by omega⟩)
theorem l_cut {a b : Nat} (hK : F 2 2 ≤ 3) (hG : G 2 1 < 2 ^ 63) (ha : ∀ k, k < 3 → F 3 k < 6) (hb : ∀ k, k < 3 → F 4 k < 6) (hev : F 8 0 = 0 ∨ (F 8 1 < 6 ∧ F 8 2 < 6)) (h80 : F 8 0 < 2 ^ 31) : ∀ m k, k + m = F 2 2 →
    pq_Ev (d + 2) 55 20 [some (.ref 2), some (.int (nI a)), some (.int (nI b)), some (.int (nI k))] [] (pq_Sh L, pn (cuF F (G 2 1) k), pl G, pq_rt h) (fun r M' => r = none ∧ M' = (pq_Sh L, pn (ctF F (G 2 1)), pl (G), pq_rt h)) := by
  intro m
  induction m with
  | zero =>
    intro k hk
    (repeat (first | refine E_st rfl ?_ | refine E_go rfl ?_))
    have e2 : pn (cuF F (G 2 1) k) 2 2 = nI (F 2 2) := by rw [pn_at, cuF_off _ _ _ (by omega)]
    refine E_nif rfl (by rw [e2]; exact nI_nlt (by omega) (by omega)) ?_
    have hkk : k = F 2 2 := by omega
    have e80 : pn (cuF F (G 2 1) k) 8 0 = nI (F 8 0) := by rw [pn_at, cuF_off _ _ _ (by omega)]
    have e81 : pn (cuF F (G 2 1) k) 8 1 = nI (F 8 1) := by rw [pn_at, cuF_off _ _ _ (by omega)]
    have e82 : pn (cuF F (G 2 1) k) 8 2 = nI (F 8 2) := by rw [pn_at, cuF_off _ _ _ (by omega)]
    (repeat (first | refine E_st rfl ?_ | refine E_go rfl ?_))
    refine E_br rfl (fun c => ?_) (fun c => ?_)
    · rw [e80] at c
      have c1 : F 8 0 = 0 := (nI_eq h80 (by decide)).mp c
      (repeat (first | refine E_st rfl ?_ | refine E_go rfl ?_))
      refine E_rt rfl ⟨rfl, ?_⟩
      unfold ctF; rw [if_pos (Or.inl c1), hkk]
    · rw [e80] at c
      have c1 : ¬ F 8 0 = 0 := fun q => c (by rw [q]; rfl)
      have hev2 : F 8 1 < 6 ∧ F 8 2 < 6 := hev.resolve_left c1
      (repeat (first | refine E_st rfl ?_ | refine E_go rfl ?_))
      rw [e81, e82]
      refine E_cx rfl (by omega) (c_joins (d := 0) hG (by omega)) ?_
      by_cases hj : (G 2 1).testBit (6 * F 8 1 + F 8 2) = true
      · simp only [if_pos hj]
        refine E_nif rfl (nI_ne0 (by decide) (by decide)) ?_
        refine E_rt rfl ⟨rfl, ?_⟩
        unfold ctF; rw [if_pos (Or.inr hj), hkk]
      · simp only [if_neg hj]
        refine E_if rfl rfl ?_
        (repeat (first | refine E_st rfl ?_ | refine E_go rfl ?_))
        rw [e81]
        simp only [pu_n, pu_l, pc_n, pc_l]
        refine E_rt rfl ⟨rfl, ?_⟩
        unfold ctF; rw [if_neg (fun q => q.elim c1 hj), hkk]
  | succ m ih =>
    intro k hk
    (repeat (first | refine E_st rfl ?_ | refine E_go rfl ?_))
    have e2 : pn (cuF F (G 2 1) k) 2 2 = nI (F 2 2) := by rw [pn_at, cuF_off _ _ _ (by omega)]
    have e3 : cuF F (G 2 1) k 3 k = F 3 k := cuF_off _ _ _ (by omega)
    have e4 : cuF F (G 2 1) k 4 k = F 4 k := cuF_off _ _ _ (by omega)
    refine E_if rfl (by rw [e2]; exact nI_lt (by omega) (by omega)) ?_
    (repeat (first | refine E_st rfl ?_ | refine E_go rfl ?_))
    refine E_ial rfl rfl (by omega) (by decide) ?_
    (repeat (first | refine E_st rfl ?_ | refine E_go rfl ?_))
    refine E_ial rfl rfl (by omega) (by decide) ?_
    rw [e3, e4]
    have h3 := ha k (by omega)
    have h4 := hb k (by omega)
    refine E_cx rfl (by omega) (c_joins (d := 0) hG (by omega)) ?_
    by_cases hj : (G 2 1).testBit (6 * F 3 k + F 4 k) = true
    · simp only [if_pos hj]
      refine E_nif rfl (nI_ne0 (by decide) (by decide)) ?_
      (iterate 2 (first | refine E_st rfl ?_ | refine E_go rfl ?_))
      rw [nI_add]
      have e : cuF F (G 2 1) (k + 1) = cuF F (G 2 1) k := by simp only [cuF, if_pos hj]
      rw [← e]
      exact ih (k + 1) (by omega)
    · simp only [if_neg hj]
      refine E_if rfl rfl ?_
      (repeat (first | refine E_st rfl ?_ | refine E_go rfl ?_))
      refine E_ial rfl rfl (by omega) (by decide) ?_
      rw [e3]
      refine E_ias rfl rfl (by omega) (by decide) (by decide) ?_
      (iterate 2 (first | refine E_st rfl ?_ | refine E_go rfl ?_))
      rw [nI_add]
      have e : cuF F (G 2 1) (k + 1) = pq_u (cuF F (G 2 1) k) 4 k (F 3 k) := by simp only [cuF, if_neg hj]
      rw [← e]
      exact ih (k + 1) (by omega)
theorem c_cut {a b : Nat} (ha6 : a < 6) (hb6 : b < 6) (hK : F 2 2 ≤ 3) (hG : G 2 1 < 2 ^ 63) (ha : ∀ k, k < 3 → F 3 k < 6) (hb : ∀ k, k < 3 → F 4 k < 6) (hev : F 8 0 = 0 ∨ (F 8 1 < 6 ∧ F 8 2 < 6)) (h80 : F 8 0 < 2 ^ 31) :
    pq_Ca (d + 3) 55 [.ref 2, .int (nI a), .int (nI b)] (pq_Sh L, pn F, pl G, pq_rt h) (fun r M' => r = none ∧ M' = (pq_Sh L, pn (ctF F (an (G 2 1) (wEdge a b))), pl (pq_u G 2 1 (an (G 2 1) (wEdge a b))), pq_rt h)) := by
  refine Ca_mk rfl rfl ?_
  (repeat (first | refine E_st rfl ?_ | refine E_go rfl ?_))
  refine E_cx rfl (by omega) (c_edge (d := 0) ha6 hb6) ?_
  (iterate 5 (first | refine E_st rfl ?_ | refine E_go rfl ?_))
  simp only [pl_at]
  rw [zl_not]
  simp only [pu_n, pu_l, pc_n, pc_l]
  (iterate 1 (first | refine E_st rfl ?_ | refine E_go rfl ?_))
  have e : pq_u G 2 1 (an (G 2 1) (wEdge a b)) 2 1 = an (G 2 1) (wEdge a b) := by simp [pu_at]
  have := l_cut (d := d) (L := L) (h := h) (F := F) (G := pq_u G 2 1 (an (G 2 1) (wEdge a b))) (a := a) (b := b) hK (by rw [e]; exact Nat.lt_of_le_of_lt (an_le _ _) hG) ha hb hev h80 (F 2 2) 0 (by omega)
  rw [e] at this
  exact this
theorem c_replaceEdges {w : Nat} (hK : F 2 2 ≤ 3) (ha : ∀ k, k < 3 → F 3 k < 32) (hn : F 2 0 ≤ 6) : pq_Ca (d + 4) 56 [.ref 2, .long (lN w)] (pq_Sh L, pn F, pl G, pq_rt h) (fun r M' => r = none ∧ M' = (pq_Sh L, pn (reF F), pl (pq_u G 2 1 (wStays (F 2 0) ||| w)), pq_rt h)) := by
  refine Ca_mk rfl rfl ?_
  (repeat (first | refine E_st rfl ?_ | refine E_go rfl ?_))
  refine E_cx rfl (by omega) (c_stays (d := 0) (n := F 2 0) hn) ?_
  (repeat (first | refine E_st rfl ?_ | refine E_go rfl ?_))
  rw [zl_or]
  simp only [pu_n, pu_l, pc_n, pc_l]
  have e0 : (nI 0).toNatClampNeg = 0 := nI_clamp (by decide)
  have e3 : (nI 3).toNatClampNeg = 3 := nI_clamp (by decide)
  rw [e0, e3]
  simp only [pn_at, pu_n]
  refine E_cx rfl (by omega) (c_forget (d := 0) hK ha hn) ?_
  exact E_rt rfl ⟨rfl, rfl⟩
theorem c_addSearcher {v : Nat} (hv : v < 6) (hK : F 2 2 < 3) (h80 : F 8 0 < 2 ^ 31) (h83 : F 8 3 < 2 ^ 31) (h81 : F 8 1 < 2 ^ 31) : pq_Ca (d + 4) 58 [.ref 2, .int (nI v)] (pq_Sh L, pn F, pl G, pq_rt h) (fun r M' => r = none ∧ M' = (pq_Sh L, pn (adF F v), pl (G), pq_rt h)) := by
  refine Ca_mk rfl rfl ?_
  (repeat (first | refine E_st rfl ?_ | refine E_go rfl ?_))
  refine E_ias rfl rfl (k := F 2 2) (by omega) (by decide) (by decide) ?_
  (repeat (first | refine E_st rfl ?_ | refine E_go rfl ?_))
  refine E_ias rfl rfl (k := F 2 2) (by omega) (by decide) (by decide) ?_
  (repeat (first | refine E_st rfl ?_ | refine E_go rfl ?_))
  simp +decide only [pn_at, pl_at, pu_n, pu_l, pc_n, pc_l, pu_at, nI_add, if_true, if_false, and_true, true_and, and_false, false_and, and_self]
  refine E_cx rfl (by omega) (c_leaveOut (d := 0) (by omega)) ?_
  (repeat (first | refine E_st rfl ?_ | refine E_go rfl ?_))
  have hF : (pq_u (pq_u (pq_u (pq_u F 3 (F 2 2) v) 4 (F 2 2) v) 2 2 (F 2 2 + 1)) 6 (pq_u (pq_u (pq_u F 3 (F 2 2) v) 4 (F 2 2) v) 2 2 (F 2 2 + 1) 5 2 % 8) (an (pq_u (pq_u (pq_u F 3 (F 2 2) v) 4 (F 2 2) v) 2 2 (F 2 2 + 1) 6 (pq_u (pq_u (pq_u F 3 (F 2 2) v) 4 (F 2 2) v) 2 2 (F 2 2 + 1) 5 2 % 8)) (1 <<< v))) = loF (pq_u (pq_u (pq_u F 3 (F 2 2) v) 4 (F 2 2) v) 2 2 (F 2 2 + 1)) v := rfl
  rw [hF]
  generalize hE : loF (pq_u (pq_u (pq_u F 3 (F 2 2) v) 4 (F 2 2) v) 2 2 (F 2 2 + 1)) v = E
  have e0 : E 8 0 = F 8 0 := by rw [← hE]; rfl
  have e1 : E 8 1 = F 8 1 := by rw [← hE]; rfl
  have e3 : E 8 3 = F 8 3 := by rw [← hE]; rfl
  have e5 : E 2 5 = F 2 5 := by rw [← hE]; rfl
  refine E_cx rfl (by omega) (c_isFree (d := 0) (by rw [e0]; exact h80) (by rw [e3]; exact h83)) ?_
  rw [e0, e3]
  by_cases hc : F 8 0 = 0 ∨ F 8 3 ≠ 0
  · rw [if_pos hc]
    refine E_if rfl rfl ?_
    refine E_rt rfl ⟨rfl, ?_⟩
    unfold adF; rw [if_pos (hc.elim Or.inl (fun q => Or.inr (Or.inl q))), hE]
  · rw [if_neg hc]
    refine E_nif rfl (nI_ne0 (by decide) (by decide)) ?_
    (repeat (first | refine E_st rfl ?_ | refine E_go rfl ?_))
    refine E_br rfl (fun c => ?_) (fun c => ?_)
    · have c1 : F 8 1 = v := by
        rw [pn_at, e1] at c; exact (nI_eq h81 (by omega)).mp c
      (repeat (first | refine E_st rfl ?_ | refine E_go rfl ?_))
      rw [pn_at, e5]
      refine E_cx rfl (by omega) (c_catchAt (d := 0)) ?_
      refine E_rt rfl ⟨rfl, ?_⟩
      unfold adF
      rw [if_neg (fun q => q.elim (fun q => hc (Or.inl q)) (fun q => q.elim (fun q => hc (Or.inr q)) (fun q => q c1))), hE]
    · have c1 : F 8 1 ≠ v := fun q => c (by rw [pn_at, e1, q])
      refine E_rt rfl ⟨rfl, ?_⟩
      unfold adF; rw [if_pos (Or.inr (Or.inr c1)), hE]
theorem c_makeTurn (hK : F 2 2 ≤ 3) (hG : G 2 1 < 2 ^ 63) (ha : ∀ k, k < 3 → F 3 k < 6) (hb : ∀ k, k < 3 → F 4 k < 6) (hF6 : ∀ i, i < 8 → F 6 i < 64) (hk : F 5 3 < 2 ^ 30) (hev : F 8 0 = 0 ∨ (F 8 1 < 6 ∧ F 8 2 < 6)) (h80 : F 8 0 < 2 ^ 31) (h83 : F 8 3 < 2 ^ 31) :
    pq_Ca (d + 5) 59 [.ref 2] (pq_Sh L, pn F, pl G, pq_rt h) (fun r M' => r = none ∧ M' = (pq_Sh L, pn (mtF F G (fwF F G 4 (F 2 2))), pl (pq_u G 7 ((F 5 2 + 1) % 8) (fwF F G 4 (F 2 2))), pq_rt h)) := by
  refine Ca_mk rfl rfl ?_
  (repeat (first | refine E_st rfl ?_ | refine E_go rfl ?_))
  refine E_cx rfl (by omega) (c_freeWays (d := 0) (Or.inr rfl) hK ha hb) ?_
  have hw := fwF_lt (F := F) (tp := 4) hG (F 2 2)
  generalize fwF F G 4 (F 2 2) = w at hw ⊢
  (repeat (first | refine E_st rfl ?_ | refine E_go rfl ?_))
  simp only [pn_at, nI_add, pu_n]
  refine E_cx rfl (by omega) (c_extend (d := 0) (F := pq_u F 2 5 (F 2 5 + 1)) (Nat.lt_trans hw (by decide)) hF6 hk) ?_
  have hEE : exF (pq_u F 2 5 (F 2 5 + 1)) G w = mtE F G w := rfl
  rw [hEE]
  have e0 : mtE F G w 8 0 = F 8 0 := rfl
  have e1 : mtE F G w 8 1 = F 8 1 := rfl
  have e2 : mtE F G w 8 2 = F 8 2 := rfl
  have e3 : mtE F G w 8 3 = F 8 3 := rfl
  have e5 : mtE F G w 2 5 = F 2 5 + 1 := rfl
  have z0 : (nI 0).toNatClampNeg = 0 := nI_clamp (by decide)
  have z3 : (nI 3).toNatClampNeg = 3 := nI_clamp (by decide)
  (repeat (first | refine E_st rfl ?_ | refine E_go rfl ?_))
  refine E_cx rfl (by omega) (c_isFree (d := 0) h80 h83) ?_
  rw [e0, e3]
  by_cases hc : F 8 0 = 0 ∨ F 8 3 ≠ 0
  · rw [if_pos hc]
    refine E_if rfl rfl ?_
    (repeat (first | refine E_st rfl ?_ | refine E_go rfl ?_))
    rw [z0, z3]
    simp only [pu_n, pu_l, pc_n, pc_l]
    refine E_rt rfl ⟨rfl, ?_⟩
    unfold mtF; rw [if_pos hc]; rfl
  · rw [if_neg hc]
    have hev2 : F 8 1 < 6 ∧ F 8 2 < 6 := hev.resolve_left (fun q => hc (Or.inl q))
    refine E_nif rfl (nI_ne0 (by decide) (by decide)) ?_
    (repeat (first | refine E_st rfl ?_ | refine E_go rfl ?_))
    rw [pn_at, e5]
    refine E_cx rfl (by omega) (c_go (d := 0) hw hev2.1 hev2.2) ?_
    rw [e1, e2]
    (repeat (first | refine E_st rfl ?_ | refine E_go rfl ?_))
    rw [z0, z3]
    simp only [pu_n, pu_l, pc_n, pc_l]
    refine E_rt rfl ⟨rfl, ?_⟩
    unfold mtF; rw [if_neg hc]; rfl
end STB
end
section
section STC
variable {d L : Nat} {F G : Nat → Nat → Nat} {h : Nat → Nat}
theorem E_pz {j pc p k nx na ci x idx : Nat} {lk : List (Nat × Nat)} {v : Value} {lo : pq_L} {r : List Value} {sh : List pq_S} {J : Nat → Nat → Int64} {R : Nat → Nat → Option Nat} {Q : Option Value → pq_M → Prop} (hf : pq_fetch j pc = some (pc, .putfield idx, nx, na, lk, v)) (hs : sh[p]? = some (.inr ci)) (hl : lk.lookup ci = some k) (ht : (pq_ft.getD ci [])[k]? = some .boolean) (hx : x = 0 ∨ x = 1)
    (K : pq_Ev d j nx lo r (sh, pn (pq_u F p k x), J, R) Q) : pq_Ev d j pc lo (.int (nI x) :: .ref p :: r) (sh, pn F, J, R) Q := by
  refine E_st (nx := nx) ?_ K
  have hx2 : nI x = 0 ∨ nI x = 1 := by rcases hx with rfl | rfl; exact Or.inl rfl; exact Or.inr rfl
  have h3 : pq_x3 (.putfield idx) lk (.int (nI x) :: .ref p :: r) (sh, pn F, J, R) = some (r, (sh, pn (pq_u F p k x), J, R)) := by
    simp only [pq_x3, hs, hl, pq_wf, ht, if_pos hx2, pu_n]
  unfold pq_step
  simp only [hf, pq_exec, pq_x1, pq_x2, h3]
theorem E_rem {j pc nx na a b : Nat} {lk : List (Nat × Nat)} {v : Value} {lo : pq_L} {r : List Value} {M : pq_M} {Q : Option Value → pq_M → Prop} (hf : pq_fetch j pc = some (pc, .irem, nx, na, lk, v)) (hb : 0 < b) (ha2 : a < 2 ^ 31) (hb2 : b < 2 ^ 31) (K : pq_Ev d j nx lo (.int (nI (a % b)) :: r) M Q) : pq_Ev d j pc lo (.int (nI b) :: .int (nI a) :: r) M Q := by
  refine E_st (nx := nx) ?_ K
  unfold pq_step
  simp only [hf, pq_exec, pq_x1, pq_i2, if_neg (nI_ne0 hb hb2), pk_rem ha2 hb hb2]
theorem E_div {j pc nx na a b : Nat} {lk : List (Nat × Nat)} {v : Value} {lo : pq_L} {r : List Value} {M : pq_M} {Q : Option Value → pq_M → Prop} (hf : pq_fetch j pc = some (pc, .idiv, nx, na, lk, v)) (hb : 0 < b) (ha2 : a < 2 ^ 31) (hb2 : b < 2 ^ 31) (K : pq_Ev d j nx lo (.int (nI (a / b)) :: r) M Q) : pq_Ev d j pc lo (.int (nI b) :: .int (nI a) :: r) M Q := by
  refine E_st (nx := nx) ?_ K
  unfold pq_step
  simp only [hf, pq_exec, pq_x1, pq_i2, if_neg (nI_ne0 hb hb2), pk_div ha2 hb hb2]
/-- source and target of a copy: the present state and one of the history's -/
def cpOk (x y : Nat) : Prop := (x = 2 ∧ (y = 11 ∨ y = 19 ∨ y = 27 ∨ y = 35 ∨ y = 43)) ∨ (y = 2 ∧ (x = 11 ∨ x = 19 ∨ x = 27 ∨ x = 35 ∨ x = 43))
def cpB (F : Nat → Nat → Nat) (x y : Nat) : Nat → Nat → Nat := pq_u (pq_u (pq_cpy F (y + 1) 0 (x + 1) 0 8) x 2 (F y 2)) x 3 (F y 3)
def cpE (F : Nat → Nat → Nat) (x y : Nat) : Nat → Nat → Nat := pq_cpy (pq_u (pq_u (pq_u (pq_u (pq_u (pq_u F x 0 (F y 0)) x 1 (F y 1)) x 2 (F y 2)) x 3 (F y 3)) x 4 (F y 4)) x 5 (F y 5)) (y + 1) 0 (x + 1) 0 8
def cpS (F : Nat → Nat → Nat) (x y : Nat) : Nat → Nat → Nat := pq_u (pq_u (pq_u (pq_cpy (pq_cpy (pq_u (pq_u F x 0 (F y 0)) x 2 (F y 2)) (y + 1) 0 (x + 1) 0 3) (y + 2) 0 (x + 2) 0 3) x 5 (F y 5)) x 6 (F y 6)) x 7 (F y 7)
def cpF (F : Nat → Nat → Nat) (x y : Nat) : Nat → Nat → Nat := cpE (cpB (cpS F x y) (x + 3) (y + 3)) (x + 6) (y + 6)
def cpG (G : Nat → Nat → Nat) (x y : Nat) : Nat → Nat → Nat := pq_cpy (pq_u G x 1 (G y 1)) (y + 5) 0 (x + 5) 0 8
theorem z_0 : (nI 0).toNatClampNeg = 0 := nI_clamp (by decide)
theorem z_3 : (nI 3).toNatClampNeg = 3 := nI_clamp (by decide)
theorem z_8 : (nI 8).toNatClampNeg = 8 := nI_clamp (by decide)
set_option maxHeartbeats 2000000 in
theorem c_copyB {x y : Nat} (hxy : cpOk x y) : pq_Ca (d + 1) 13 [.ref (x + 3), .ref (y + 3)] (pq_Sh L, pn F, pl G, pq_rt h) (fun r M' => r = none ∧ M' = (pq_Sh L, pn (cpB F (x + 3) (y + 3)), pl (pq_cpy G (y + 5) 0 (x + 5) 0 8), pq_rt h)) := by
  rcases hxy with ⟨rfl, rfl | rfl | rfl | rfl | rfl⟩ | ⟨rfl, rfl | rfl | rfl | rfl | rfl⟩
  all_goals
    refine Ca_mk rfl rfl ?_
    (repeat (first | refine E_st rfl ?_ | refine E_go rfl ?_))
    rw [z_0, z_8]
    simp only [pc_n, pc_l, pn_at, pu_n]
    exact E_rt rfl ⟨rfl, rfl⟩
set_option maxHeartbeats 2000000 in
theorem c_copyE {x y : Nat} (hxy : cpOk x y) (h0 : F (y + 6) 0 ≤ 1) (h3 : F (y + 6) 3 ≤ 1) : pq_Ca (d + 1) 20 [.ref (x + 6), .ref (y + 6)] (pq_Sh L, pn F, pl G, pq_rt h) (fun r M' => r = none ∧ M' = (pq_Sh L, pn (cpE F (x + 6) (y + 6)), pl (G), pq_rt h)) := by
  rcases hxy with ⟨rfl, rfl | rfl | rfl | rfl | rfl⟩ | ⟨rfl, rfl | rfl | rfl | rfl | rfl⟩
  all_goals
    refine Ca_mk rfl rfl ?_
    (repeat (first | refine E_st rfl ?_ | refine E_go rfl ?_))
    refine E_pz rfl rfl rfl rfl (by omega) ?_
    (repeat (first | refine E_st rfl ?_ | refine E_go rfl ?_))
    simp only [pn_at, pu_n]
    refine E_pz rfl rfl rfl rfl (by simp +decide only [pu_at, if_false, and_false, false_and]; omega) ?_
    (repeat (first | refine E_st rfl ?_ | refine E_go rfl ?_))
    rw [z_0, z_8]
    simp only [pc_n, pn_at, pu_n]
    exact E_rt rfl ⟨rfl, rfl⟩
set_option maxHeartbeats 2000000 in
theorem c_copyS {x y : Nat} (hxy : cpOk x y) (h0 : F (y + 6) 0 ≤ 1) (h3 : F (y + 6) 3 ≤ 1) : pq_Ca (d + 2) 53 [.ref x, .ref y] (pq_Sh L, pn F, pl G, pq_rt h) (fun r M' => r = none ∧ M' = (pq_Sh L, pn (cpF F x y), pl (cpG G x y), pq_rt h)) := by
  have hxy2 := hxy
  rcases hxy with ⟨rfl, rfl | rfl | rfl | rfl | rfl⟩ | ⟨rfl, rfl | rfl | rfl | rfl | rfl⟩
  all_goals
    refine Ca_mk rfl rfl ?_
    (repeat (first | refine E_st rfl ?_ | refine E_go rfl ?_))
    rw [z_0, z_3]
    simp only [pc_n, pn_at, pl_at, pu_n, pu_l]
    refine E_cx rfl (Nat.le_refl _) (c_copyB hxy2) ?_
    (repeat (first | refine E_st rfl ?_ | refine E_go rfl ?_))
    refine E_cx rfl (Nat.le_refl _) (c_copyE hxy2 h0 h3) ?_
    exact E_rt rfl ⟨rfl, rfl⟩
/-! what a copy holds -/
theorem pcp_at {α : Type} (f : Nat → Nat → α) (a sp b dp n q j : Nat) : pq_cpy f a sp b dp n q j = if q = b ∧ dp ≤ j ∧ j < dp + n then f a (sp + (j - dp)) else f q j := rfl
def gnC (F : Nat → Nat → Nat) : Prop := ¬ (F 8 0 = 0 ∨ F 8 3 ≠ 0) ∧ 0 < F 2 6 ∧ F 2 5 % F 2 6 = 0 ∧ F 2 7 ≤ F 2 5 ∧ (F 2 5 - F 2 7 ≤ F 5 2 ∧ F 5 2 < F 2 5 - F 2 7 + F 5 3) ∧ F 8 5 ≤ F 2 5 - F 2 7
def gnN (F G : Nat → Nat → Nat) (t v : Nat) : Nat → Nat → Nat := if (F 6 (t % 8)).testBit v then nwF F G t v (F 5 2 - t) else F
set_option maxHeartbeats 2000000 in
theorem c_giveNews (h80 : F 8 0 < 2 ^ 31) (h83 : F 8 3 < 2 ^ 31) (h26 : F 2 6 < 2 ^ 20) (h25 : F 2 5 < 2 ^ 20) (h27 : F 2 7 < 2 ^ 20) (h52 : F 5 2 = F 2 5) (h53 : F 5 3 ≤ F 5 2 + 1) (h85 : F 8 5 < 2 ^ 31) (h9 : gnC F → F 9 ((F 2 5 - F 2 7) % 8) < 6) (hF : ∀ i, i < 8 → F 6 i < 64) (hG : ∀ i, i < 8 → G 7 i < 2 ^ 64) :
    pq_Ca (d + 5) 61 [.ref 2] (pq_Sh L, pn F, pl G, pq_rt h) (fun r M' => r = none ∧ ((gnC F ∧ M' = (pq_Sh L, pn (gnN F G (F 2 5 - F 2 7) (F 9 ((F 2 5 - F 2 7) % 8))), pl G, pq_rt h)) ∨ (¬ gnC F ∧ M' = (pq_Sh L, pn F, pl G, pq_rt h)))) := by
  refine Ca_mk rfl rfl ?_
  (repeat (first | refine E_st rfl ?_ | refine E_go rfl ?_))
  refine E_cx rfl (by omega) (c_isFree (d := 0) h80 h83) ?_
  by_cases c1 : F 8 0 = 0 ∨ F 8 3 ≠ 0
  · rw [if_pos c1]
    refine E_if rfl rfl ?_
    exact E_rt rfl ⟨rfl, Or.inr ⟨fun q => q.1 c1, rfl⟩⟩
  rw [if_neg c1]
  refine E_nif rfl (nI_ne0 (by decide) (by decide)) ?_
  (repeat (first | refine E_st rfl ?_ | refine E_go rfl ?_))
  refine E_br rfl (fun c2 => ?_) (fun c2 => ?_)
  case refine_2 =>
    have c2 : ¬ 0 < F 2 6 := fun q => c2 (show nI 0 < nI (F 2 6) from nI_lt q (by omega))
    exact E_rt rfl ⟨rfl, Or.inr ⟨fun q => c2 q.2.1, rfl⟩⟩
  have c2 : 0 < F 2 6 := (nI_ltI (by decide) (by omega)).mp c2
  (repeat (first | refine E_st rfl ?_ | refine E_go rfl ?_))
  refine E_rem rfl c2 (by omega) (by omega) ?_
  have h4 : F 2 5 % F 2 6 < F 2 6 := Nat.mod_lt _ c2
  refine E_br rfl (fun c3 => ?_) (fun c3 => ?_)
  case refine_2 =>
    have c3 : ¬ F 2 5 % F 2 6 = 0 := fun q => c3 (by rw [q]; rfl)
    exact E_rt rfl ⟨rfl, Or.inr ⟨fun q => c3 q.2.2.1, rfl⟩⟩
  have c3 : F 2 5 % F 2 6 = 0 := (nI_eq (by omega) (by decide)).mp c3
  (repeat (first | refine E_st rfl ?_ | refine E_go rfl ?_))
  refine E_br rfl (fun c4 => ?_) (fun c4 => ?_)
  · have c4 : F 2 5 < F 2 7 := (nI_ltI (by omega) (by omega)).mp c4
    exact E_rt rfl ⟨rfl, Or.inr ⟨fun q => absurd q.2.2.2.1 (by omega), rfl⟩⟩
  have c4 : ¬ F 2 5 < F 2 7 := fun q => c4 ((nI_ltI (by omega) (by omega)).mpr q)
  (repeat (first | refine E_st rfl ?_ | refine E_go rfl ?_))
  simp only [pn_at]
  rw [pk_sub (by omega)]
  refine E_cx rfl (by omega) (c_keeps (d := 0) h53 (by omega) (by omega)) ?_
  by_cases c5 : F 2 5 - F 2 7 ≤ F 5 2 ∧ F 5 2 < F 2 5 - F 2 7 + F 5 3
  case neg =>
    rw [if_neg c5]
    refine E_if rfl rfl ?_
    exact E_rt rfl ⟨rfl, Or.inr ⟨fun q => c5 q.2.2.2.2.1, rfl⟩⟩
  rw [if_pos c5]
  refine E_nif rfl (nI_ne0 (by decide) (by decide)) ?_
  (repeat (first | refine E_st rfl ?_ | refine E_go rfl ?_))
  refine E_br rfl (fun c6 => ?_) (fun c6 => ?_)
  · have c6 : F 2 5 - F 2 7 < F 8 5 := (nI_ltI (by omega) (by omega)).mp c6
    exact E_rt rfl ⟨rfl, Or.inr ⟨fun q => absurd q.2.2.2.2.2 (by omega), rfl⟩⟩
  have c6 : ¬ F 2 5 - F 2 7 < F 8 5 := fun q => c6 ((nI_ltI (by omega) (by omega)).mpr q)
  have hc : gnC F := ⟨c1, c2, c3, (by omega), c5, (by omega)⟩
  (repeat (first | refine E_st rfl ?_ | refine E_go rfl ?_))
  refine E_cx rfl (by omega) (c_nodeAfter (d := 0)) ?_
  refine E_cx rfl (by omega) (c_narrow (d := 0) (by omega) (h9 hc) hF hG (by omega)) ?_
  exact E_rt rfl ⟨rfl, Or.inl ⟨hc, rfl⟩⟩
end STC
end
section
section DSK
variable {d L : Nat} {F G : Nat → Nat → Nat} {h : Nat → Nat}
theorem cpF_off {x y p j : Nat} (hp : p < x ∨ x + 8 ≤ p) : cpF F x y p j = F p j := by
  simp only [cpF, cpE, cpB, cpS, pcp_at, pu_at]
  repeat rw [if_neg (by omega)]
theorem cpG_off {x y p j : Nat} (hp : p < x ∨ x + 8 ≤ p) : cpG G x y p j = G p j := by
  simp only [cpG, pcp_at, pu_at]
  repeat rw [if_neg (by omega)]
/-- the slots of a state that count: by the place in its block, and the slot -/
def slF (i k : Nat) : Prop := (i = 0 ∧ (k = 0 ∨ k = 2 ∨ k = 5 ∨ k = 6 ∨ k = 7)) ∨ (i = 1 ∧ k < 3) ∨ (i = 2 ∧ k < 3) ∨ (i = 3 ∧ (k = 2 ∨ k = 3)) ∨ (i = 4 ∧ k < 8) ∨ (i = 6 ∧ k < 6) ∨ (i = 7 ∧ k < 8)
def slG (i k : Nat) : Prop := (i = 0 ∧ k = 1) ∨ (i = 5 ∧ k < 8)
theorem cpF_in {x y i k : Nat} (hxy : x + 8 ≤ y ∨ y + 8 ≤ x) (hs : slF i k) : cpF F x y (x + i) k = F (y + i) k := by
  unfold slF at hs
  simp only [cpF, cpE, cpB, cpS, pcp_at, pu_at]
  rcases hs with ⟨rfl, rfl | rfl | rfl | rfl | rfl⟩ | ⟨rfl, hk⟩ | ⟨rfl, hk⟩ | ⟨rfl, rfl | rfl⟩ | ⟨rfl, hk⟩ | ⟨rfl, hk⟩ | ⟨rfl, hk⟩
  case inr.inr.inr.inr.inr.inl =>
    rcases (show k = 0 ∨ k = 1 ∨ k = 2 ∨ k = 3 ∨ k = 4 ∨ k = 5 by omega) with rfl | rfl | rfl | rfl | rfl | rfl <;>
    (repeat (first | rw [if_neg (by omega)] | rw [if_pos (by omega)] | rfl))
  all_goals
    (repeat (first | rw [if_neg (by omega)] | rw [if_pos (by omega)] | rfl | (simp only [Nat.zero_add, Nat.sub_zero])))
theorem cpG_in {x y i k : Nat} (hxy : x + 8 ≤ y ∨ y + 8 ≤ x) (hs : slG i k) : cpG G x y (x + i) k = G (y + i) k := by
  unfold slG at hs
  simp only [cpG, pcp_at, pu_at]
  rcases hs with ⟨rfl, rfl⟩ | ⟨rfl, hk⟩
  all_goals
    (repeat (first | rw [if_neg (by omega)] | rw [if_pos (by omega)] | rfl | (simp only [Nat.zero_add, Nat.sub_zero])))
def hOk (h : Nat → Nat) : Prop := (∀ k, k < 5 → h k = 11 ∨ h k = 19 ∨ h k = 27 ∨ h k = 35 ∨ h k = 43) ∧ ∀ i k, i < 5 → k < 5 → h i = h k → i = k
def rotH (h : Nat → Nat) : Nat → Nat := fun i => match i with
  | 0 => h 1
  | 1 => h 2
  | 2 => h 3
  | 3 => h 4
  | 4 => h 0
  | i => h i
theorem rotH_ok (hh : hOk h) : hOk (rotH h) := by
  refine ⟨fun k hk => ?_, fun i k hi hk e => ?_⟩
  · rcases (show k = 0 ∨ k = 1 ∨ k = 2 ∨ k = 3 ∨ k = 4 by omega) with rfl | rfl | rfl | rfl | rfl
    · exact hh.1 1 (by decide)
    · exact hh.1 2 (by decide)
    · exact hh.1 3 (by decide)
    · exact hh.1 4 (by decide)
    · exact hh.1 0 (by decide)
  · rcases (show k = 0 ∨ k = 1 ∨ k = 2 ∨ k = 3 ∨ k = 4 by omega) with rfl | rfl | rfl | rfl | rfl <;>
    rcases (show i = 0 ∨ i = 1 ∨ i = 2 ∨ i = 3 ∨ i = 4 by omega) with rfl | rfl | rfl | rfl | rfl <;>
    first | rfl | exact absurd (hh.2 _ _ (by decide) (by decide) e) (by decide)
theorem hSh (hh : hOk h) {k : Nat} (hk : k < 5) : (pq_Sh L)[h k]? = some (.inr 3) := by
  rcases hh.1 k hk with e | e | e | e | e <;> rw [e] <;> rfl
theorem prt_rot : pq_u (pq_u (pq_u (pq_u (pq_u (pq_rt h) 10 0 (some (h 1))) 10 1 (some (h 2))) 10 2 (some (h 3))) 10 3 (some (h 4))) 10 4 (some (h 0)) = pq_rt (rotH h) := by
  funext p k
  simp only [pu_at, pq_rt]
  by_cases hp : p = 10
  · subst hp
    match k with
    | 0 => rfl
    | 1 => rfl
    | 2 => rfl
    | 3 => rfl
    | 4 => rfl
    | k + 5 => simp [rotH]
  · simp [hp]
set_option maxHeartbeats 2000000 in
theorem c_drop (hh : hOk h) : pq_Ca (d + 1) 65 [.ref 1] (pq_Sh L, pn F, pl G, pq_rt h) (fun r M' => r = none ∧ M' = (pq_Sh L, pn (pq_u F 1 2 4), pl G, pq_rt (rotH h))) := by
  refine Ca_mk rfl rfl ?_
  (repeat (first | refine E_st rfl ?_ | refine E_go rfl ?_))
  rw [show nI 1 - nI 1 = nI 0 from rfl]
  refine E_aas rfl rfl (by decide) (by decide) (by decide) (hSh hh (by decide)) ?_
  (repeat (first | refine E_st rfl ?_ | refine E_go rfl ?_))
  rw [show nI 1 + nI 1 - nI 1 = nI 1 from rfl]
  refine E_aas rfl rfl (by decide) (by decide) (by decide) (hSh hh (by decide)) ?_
  (repeat (first | refine E_st rfl ?_ | refine E_go rfl ?_))
  rw [show nI 1 + nI 1 + nI 1 - nI 1 = nI 2 from rfl]
  refine E_aas rfl rfl (by decide) (by decide) (by decide) (hSh hh (by decide)) ?_
  (repeat (first | refine E_st rfl ?_ | refine E_go rfl ?_))
  rw [show nI 1 + nI 1 + nI 1 + nI 1 - nI 1 = nI 3 from rfl]
  refine E_aas rfl rfl (by decide) (by decide) (by decide) (hSh hh (by decide)) ?_
  (repeat (first | refine E_st rfl ?_ | refine E_go rfl ?_))
  refine E_nif rfl (by decide) ?_
  (repeat (first | refine E_st rfl ?_ | refine E_go rfl ?_))
  refine E_aas rfl rfl (by decide) (by decide) (by decide) (hSh hh (by decide)) ?_
  (repeat (first | refine E_st rfl ?_ | refine E_go rfl ?_))
  refine E_rt rfl ⟨rfl, ?_⟩
  rw [pu_n]
  exact congrArg (fun z => (pq_Sh L, pn (pq_u F 1 2 4), pl G, z)) prt_rot
def rmH (F : Nat → Nat → Nat) (h : Nat → Nat) : Nat → Nat := if F 1 2 < 5 then h else rotH h
def rmK (F : Nat → Nat → Nat) : Nat := if F 1 2 < 5 then F 1 2 else 4
def rmF (F : Nat → Nat → Nat) (h : Nat → Nat) : Nat → Nat → Nat := pq_u (pq_u (cpF (if F 1 2 < 5 then F else pq_u F 1 2 4) (rmH F h (rmK F)) 2) 1 2 (rmK F + 1)) 1 6 0
def rmG (F G : Nat → Nat → Nat) (h : Nat → Nat) : Nat → Nat → Nat := cpG G (rmH F h (rmK F)) 2
theorem hCp (hh : hOk h) {k : Nat} (hk : k < 5) : cpOk (h k) 2 := Or.inr ⟨rfl, hh.1 k hk⟩
theorem hCp2 (hh : hOk h) {k : Nat} (hk : k < 5) : cpOk 2 (h k) := Or.inl ⟨rfl, hh.1 k hk⟩
theorem l_rem {k : Nat} (hk : k < 5) (hK : F 1 2 = k) (hh : hOk h) (h0 : F 8 0 ≤ 1) (h3 : F 8 3 ≤ 1) : pq_Ev (d + 2) 64 12 [some (.ref 1)] [] (pq_Sh L, pn F, pl G, pq_rt h) (fun r M' => r = none ∧ M' = (pq_Sh L, pn (pq_u (pq_u (cpF F (h k) 2) 1 2 (k + 1)) 1 6 0), pl (cpG G (h k) 2), pq_rt h)) := by
  (repeat (first | refine E_st rfl ?_ | refine E_go rfl ?_))
  rw [pn_at, hK]
  refine E_aal rfl rfl hk (by decide) (q := h k) rfl ?_
  have hcp := hCp hh hk
  rcases hh.1 k hk with e | e | e | e | e
  all_goals
    rw [e] at hcp ⊢
    (repeat (first | refine E_st rfl ?_ | refine E_go rfl ?_))
    refine E_cx rfl (by omega) (c_copyS (d := 0) hcp h0 h3) ?_
    (repeat (first | refine E_st rfl ?_ | refine E_go rfl ?_))
    rw [pn_at, cpF_off (Or.inl (by omega)), hK, nI_add]
    simp only [pu_n]
    exact E_rt rfl ⟨rfl, rfl⟩
theorem c_remember (hr : F 1 2 ≤ 5) (hh : hOk h) (h0 : F 8 0 ≤ 1) (h3 : F 8 3 ≤ 1) : pq_Ca (d + 3) 64 [.ref 1] (pq_Sh L, pn F, pl G, pq_rt h) (fun r M' => r = none ∧ M' = (pq_Sh L, pn (rmF F h), pl (rmG F G h), pq_rt (rmH F h))) := by
  refine Ca_mk rfl rfl ?_
  (repeat (first | refine E_st rfl ?_ | refine E_go rfl ?_))
  by_cases hc : F 1 2 < 5
  · refine E_if rfl (show nI (F 1 2) < nI 5 from nI_lt hc (by decide)) ?_
    simp only [rmF, rmG, rmH, rmK, if_pos hc]
    exact l_rem hc rfl hh h0 h3
  · refine E_nif rfl (show ¬ nI (F 1 2) < nI 5 from nI_nlt (by omega) (by omega)) ?_
    (repeat (first | refine E_st rfl ?_ | refine E_go rfl ?_))
    refine E_cx rfl (by omega) (c_drop (d := 0) hh) ?_
    simp only [rmF, rmG, rmH, rmK, if_neg hc]
    exact l_rem (F := pq_u F 1 2 4) (h := rotH h) (k := 4) (by decide) rfl (rotH_ok hh) h0 h3
theorem c_isNode {v : Nat} (hn : F 2 0 ≤ 6) (hv : v < F 2 0) : pq_Ca (d + 1) 67 [.ref 1, .int (nI v)] (pq_Sh L, pn F, pl G, pq_rt h) (fun r M' => r = some (.int (nI 1)) ∧ M' = (pq_Sh L, pn (F), pl (G), pq_rt h)) := by
  refine Ca_mk rfl rfl ?_
  (repeat (first | refine E_st rfl ?_ | refine E_go rfl ?_))
  refine E_nif rfl (nI_pos (by omega)) ?_
  (repeat (first | refine E_st rfl ?_ | refine E_go rfl ?_))
  refine E_if rfl (show nI v < nI (F 2 0) from nI_lt hv (by omega)) ?_
  (repeat (first | refine E_st rfl ?_ | refine E_go rfl ?_))
  exact E_rt rfl ⟨rfl, rfl⟩
theorem c_isNode0 {x : Int32} (hx : x < 0 ∨ nI (F 2 0) ≤ x) : pq_Ca (d + 1) 67 [.ref 1, .int x] (pq_Sh L, pn F, pl G, pq_rt h) (fun r M' => r = some (.int (nI 0)) ∧ M' = (pq_Sh L, pn (F), pl (G), pq_rt h)) := by
  refine Ca_mk rfl rfl ?_
  (repeat (first | refine E_st rfl ?_ | refine E_go rfl ?_))
  refine E_br rfl (fun c => ?_) (fun c => ?_)
  · (repeat (first | refine E_st rfl ?_ | refine E_go rfl ?_))
    exact E_rt rfl ⟨rfl, rfl⟩
  · (repeat (first | refine E_st rfl ?_ | refine E_go rfl ?_))
    refine E_nif rfl (show ¬ x < nI (F 2 0) from Int32.not_lt.mpr (hx.resolve_left c)) ?_
    (repeat (first | refine E_st rfl ?_ | refine E_go rfl ?_))
    exact E_rt rfl ⟨rfl, rfl⟩
theorem c_isSearcher {v : Nat} (hn : F 2 2 ≤ 3) (hv : v < F 2 2) : pq_Ca (d + 1) 75 [.ref 1, .int (nI v)] (pq_Sh L, pn F, pl G, pq_rt h) (fun r M' => r = some (.int (nI 1)) ∧ M' = (pq_Sh L, pn (F), pl (G), pq_rt h)) := by
  refine Ca_mk rfl rfl ?_
  (repeat (first | refine E_st rfl ?_ | refine E_go rfl ?_))
  refine E_nif rfl (nI_pos (by omega)) ?_
  (repeat (first | refine E_st rfl ?_ | refine E_go rfl ?_))
  refine E_if rfl (show nI v < nI (F 2 2) from nI_lt hv (by omega)) ?_
  (repeat (first | refine E_st rfl ?_ | refine E_go rfl ?_))
  exact E_rt rfl ⟨rfl, rfl⟩
theorem c_isSearcher0 {x : Int32} (hx : x < 0 ∨ nI (F 2 2) ≤ x) : pq_Ca (d + 1) 75 [.ref 1, .int x] (pq_Sh L, pn F, pl G, pq_rt h) (fun r M' => r = some (.int (nI 0)) ∧ M' = (pq_Sh L, pn (F), pl (G), pq_rt h)) := by
  refine Ca_mk rfl rfl ?_
  (repeat (first | refine E_st rfl ?_ | refine E_go rfl ?_))
  refine E_br rfl (fun c => ?_) (fun c => ?_)
  · (repeat (first | refine E_st rfl ?_ | refine E_go rfl ?_))
    exact E_rt rfl ⟨rfl, rfl⟩
  · (repeat (first | refine E_st rfl ?_ | refine E_go rfl ?_))
    refine E_nif rfl (show ¬ x < nI (F 2 2) from Int32.not_lt.mpr (hx.resolve_left c)) ?_
    (repeat (first | refine E_st rfl ?_ | refine E_go rfl ?_))
    exact E_rt rfl ⟨rfl, rfl⟩
theorem c_belief : pq_Ca (d + 3) 77 [.ref 1] (pq_Sh L, pn F, pl G, pq_rt h) (fun r M' => r = some (.int (nI (F 6 (F 2 5 % 8)))) ∧ M' = (pq_Sh L, pn (F), pl (G), pq_rt h)) := by
  refine Ca_mk rfl rfl ?_
  (repeat (first | refine E_st rfl ?_ | refine E_go rfl ?_))
  refine E_cx rfl (by omega) (c_after (d := 0) (t := F 2 5)) ?_
  exact E_rt rfl ⟨rfl, rfl⟩
end DSK
end
section
section OPS
variable {d L : Nat} {F G : Nat → Nat → Nat} {h : Nat → Nat}
/-- bounds of the present state that the class's methods need -/
def nOk (F G : Nat → Nat → Nat) : Prop := F 2 0 ≤ 6 ∧ F 2 2 ≤ 3 ∧ F 2 5 ≤ 10000 ∧ F 2 6 ≤ 9 ∧ F 2 7 ≤ 7 ∧ G 2 1 < 2 ^ 63 ∧ (∀ k, k < 3 → F 3 k < 6) ∧ (∀ k, k < 3 → F 4 k < 6) ∧ (∀ i, i < 8 → F 6 i < 64) ∧ (∀ i, i < 8 → G 7 i < 2 ^ 63) ∧ F 5 2 = F 2 5 ∧ F 5 3 ≤ 8 ∧ F 5 3 ≤ F 2 5 + 1 ∧ F 8 0 ≤ 1 ∧ F 8 3 ≤ 1 ∧ F 8 1 < 6 ∧ F 8 2 < 6 ∧ F 8 4 ≤ 10000 ∧ F 8 5 ≤ 10000 ∧ ∀ i, i < 8 → F 9 i < 6
def dOk (F : Nat → Nat → Nat) (h : Nat → Nat) : Prop := F 1 2 ≤ 5 ∧ hOk h
theorem rmH_ok (hd : dOk F h) : hOk (rmH F h) := by
  unfold rmH; split
  · exact hd.2
  · exact rotH_ok hd.2
theorem rmK_lt (hd : dOk F h) : rmK F < 5 := by unfold rmK; split <;> omega
theorem rm_ge (hd : dOk F h) : 11 ≤ rmH F h (rmK F) ∧ rmH F h (rmK F) + 8 ≤ 51 := by
  rcases (rmH_ok hd).1 _ (rmK_lt hd) with e | e | e | e | e <;> omega
theorem rmF_off (hd : dOk F h) {p j : Nat} (hp : p < 11 ∨ 51 ≤ p) (hp1 : ¬ p = 1) : rmF F h p j = F p j := by
  have := rm_ge hd
  unfold rmF
  rw [pu_at, if_neg (fun q => hp1 q.1), pu_at, if_neg (fun q => hp1 q.1), cpF_off (by omega)]
  split
  · rfl
  · rw [pu_at, if_neg (fun q => hp1 q.1)]
theorem rmG_off (hd : dOk F h) {p j : Nat} (hp : p < 11 ∨ 51 ≤ p) : rmG F G h p j = G p j := by
  have := rm_ge hd
  unfold rmG
  exact cpG_off (by omega)
theorem rm_nOk (hd : dOk F h) (hn : nOk F G) : nOk (rmF F h) (rmG F G h) := by
  unfold nOk at hn ⊢
  simp only [rmF_off hd (Or.inl (by decide : (2 : Nat) < 11)) (by decide), rmF_off hd (Or.inl (by decide : (3 : Nat) < 11)) (by decide), rmF_off hd (Or.inl (by decide : (4 : Nat) < 11)) (by decide), rmF_off hd (Or.inl (by decide : (5 : Nat) < 11)) (by decide), rmF_off hd (Or.inl (by decide : (6 : Nat) < 11)) (by decide), rmF_off hd (Or.inl (by decide : (8 : Nat) < 11)) (by decide), rmF_off hd (Or.inl (by decide : (9 : Nat) < 11)) (by decide), rmG_off hd (Or.inl (by decide : (2 : Nat) < 11)), rmG_off hd (Or.inl (by decide : (7 : Nat) < 11))]
  exact hn
theorem o_remember (hd : dOk F h) (hn : nOk F G) : pq_Ca (d + 3) 64 [.ref 1] (pq_Sh L, pn F, pl G, pq_rt h) (fun r M' => r = none ∧ M' = (pq_Sh L, pn (rmF F h), pl (rmG F G h), pq_rt (rmH F h))) := by
  obtain ⟨n1, n2, n3, n4, n5, n6, n7, n8, n9, n10, n11, n12, n13, n14, n15, n16⟩ := hn
  exact c_remember hd.1 hd.2 n14 n15
theorem o_reset {n : Nat} (hd : dOk F h) (hn : nOk F G) (h2 : 2 ≤ n) (h6 : n ≤ 6) : pq_Ca (d + 5) 63 [.ref 1, .int (nI n)] (pq_Sh L, pn F, pl G, pq_rt h) (fun r M' => r = some (.int (nI (F 2 0))) ∧ M' = (pq_Sh L, pn (saF (rmF F h) n), pl (pq_u (rmG F G h) 2 1 (wStays n)), pq_rt (rmH F h))) := by
  refine Ca_mk rfl rfl ?_
  (repeat (first | refine E_st rfl ?_ | refine E_go rfl ?_))
  refine E_nif rfl (nI_nlt h2 (by omega)) ?_
  (repeat (first | refine E_st rfl ?_ | refine E_go rfl ?_))
  refine E_nif rfl (nI_nlt h6 (by decide)) ?_
  (repeat (first | refine E_st rfl ?_ | refine E_go rfl ?_))
  refine E_cx rfl (by omega) (o_remember (d := 0) hd hn) ?_
  (repeat (first | refine E_st rfl ?_ | refine E_go rfl ?_))
  have hn2 := rm_nOk hd hn
  refine E_cx rfl (by omega) (c_startAnew (d := 0) h6 (fun k hk => Nat.lt_trans (hn2.2.2.2.2.2.2.1 k hk) (by decide))) ?_
  (repeat (first | refine E_st rfl ?_ | refine E_go rfl ?_))
  refine E_rt rfl ⟨?_, rfl⟩
  rw [pn_at, rmF_off hd (Or.inl (by decide)) (by decide)]
theorem o_reset0 {x : Int32} (hx : x < nI 2 ∨ nI 6 < x) : pq_Ca (d + 1) 63 [.ref 1, .int x] (pq_Sh L, pn F, pl G, pq_rt h) (fun r M' => r = some (.int (-1)) ∧ M' = (pq_Sh L, pn (F), pl (G), pq_rt h)) := by
  refine Ca_mk rfl rfl ?_
  (repeat (first | refine E_st rfl ?_ | refine E_go rfl ?_))
  refine E_br rfl (fun c => ?_) (fun c => ?_)
  · (repeat (first | refine E_st rfl ?_ | refine E_go rfl ?_))
    exact E_rt rfl ⟨rfl, rfl⟩
  · (repeat (first | refine E_st rfl ?_ | refine E_go rfl ?_))
    refine E_if rfl (hx.resolve_left c) ?_
    (repeat (first | refine E_st rfl ?_ | refine E_go rfl ?_))
    exact E_rt rfl ⟨rfl, rfl⟩
theorem o_put {v : Nat} (hd : dOk F h) (hn : nOk F G) (hv : v < F 2 0) (hK : F 2 2 < 3) : pq_Ca (d + 5) 72 [.ref 1, .int (nI v)] (pq_Sh L, pn F, pl G, pq_rt h) (fun r M' => r = some (.int (nI (F 2 2))) ∧ M' = (pq_Sh L, pn (adF (rmF F h) v), pl (rmG F G h), pq_rt (rmH F h))) := by
  have hn2 := rm_nOk hd hn
  obtain ⟨n1, n2, n3, n4, n5, n6, n7, n8, n9, n10, n11, n12, n13, n14, n15, n16, n17, n18, n19, n20⟩ := hn2
  have e2 : rmF F h 2 2 = F 2 2 := rmF_off hd (Or.inl (by decide)) (by decide)
  refine Ca_mk rfl rfl ?_
  (repeat (first | refine E_st rfl ?_ | refine E_go rfl ?_))
  refine E_cx rfl (by omega) (c_isNode (d := 0) hn.1 hv) ?_
  refine E_nif rfl (nI_ne0 (by decide) (by decide)) ?_
  (repeat (first | refine E_st rfl ?_ | refine E_go rfl ?_))
  refine E_if rfl (show nI (F 2 2) < nI 3 from nI_lt hK (by decide)) ?_
  (repeat (first | refine E_st rfl ?_ | refine E_go rfl ?_))
  refine E_cx rfl (by omega) (o_remember (d := 0) hd hn) ?_
  (repeat (first | refine E_st rfl ?_ | refine E_go rfl ?_))
  have hn1 := hn.1
  refine E_cx rfl (by omega) (c_addSearcher (d := 0) (F := rmF F h) (by omega) (by omega) (by omega) (by omega) (by omega)) ?_
  (repeat (first | refine E_st rfl ?_ | refine E_go rfl ?_))
  refine E_rt rfl ⟨?_, rfl⟩
  have e : adF (rmF F h) v 2 2 = F 2 2 + 1 := by
    unfold adF; split <;> (show rmF F h 2 2 + 1 = _; rw [e2])
  rw [pn_at, e, pk_sub (by omega)]
  rfl
theorem o_put0 {x : Int32} (hx : x < 0 ∨ nI (F 2 0) ≤ x) : pq_Ca (d + 2) 72 [.ref 1, .int x] (pq_Sh L, pn F, pl G, pq_rt h) (fun r M' => r = some (.int (-1)) ∧ M' = (pq_Sh L, pn (F), pl (G), pq_rt h)) := by
  refine Ca_mk rfl rfl ?_
  (repeat (first | refine E_st rfl ?_ | refine E_go rfl ?_))
  refine E_cx rfl (by omega) (c_isNode0 (d := 0) hx) ?_
  refine E_if rfl rfl ?_
  (repeat (first | refine E_st rfl ?_ | refine E_go rfl ?_))
  exact E_rt rfl ⟨rfl, rfl⟩
theorem o_put3 {v : Nat} (hn : nOk F G) (hv : v < F 2 0) (hK : ¬ F 2 2 < 3) : pq_Ca (d + 2) 72 [.ref 1, .int (nI v)] (pq_Sh L, pn F, pl G, pq_rt h) (fun r M' => r = some (.int (-3)) ∧ M' = (pq_Sh L, pn (F), pl (G), pq_rt h)) := by
  have := hn.2.1
  refine Ca_mk rfl rfl ?_
  (repeat (first | refine E_st rfl ?_ | refine E_go rfl ?_))
  refine E_cx rfl (by omega) (c_isNode (d := 0) hn.1 hv) ?_
  refine E_nif rfl (nI_ne0 (by decide) (by decide)) ?_
  (repeat (first | refine E_st rfl ?_ | refine E_go rfl ?_))
  refine E_nif rfl (show ¬ nI (F 2 2) < nI 3 from nI_nlt (by omega) (by omega)) ?_
  (repeat (first | refine E_st rfl ?_ | refine E_go rfl ?_))
  exact E_rt rfl ⟨rfl, rfl⟩
theorem o_leave (hd : dOk F h) (hn : nOk F G) (hK : 0 < F 2 2) : pq_Ca (d + 4) 73 [.ref 1] (pq_Sh L, pn F, pl G, pq_rt h) (fun r M' => r = some (.int (nI (F 2 2 - 1))) ∧ M' = (pq_Sh L, pn (pq_u (rmF F h) 2 2 (F 2 2 - 1)), pl (rmG F G h), pq_rt (rmH F h))) := by
  have := hn.2.1
  have e2 : rmF F h 2 2 = F 2 2 := rmF_off hd (Or.inl (by decide)) (by decide)
  refine Ca_mk rfl rfl ?_
  (repeat (first | refine E_st rfl ?_ | refine E_go rfl ?_))
  refine E_if rfl (show nI 0 < nI (F 2 2) from nI_lt hK (by omega)) ?_
  (repeat (first | refine E_st rfl ?_ | refine E_go rfl ?_))
  refine E_cx rfl (by omega) (o_remember (d := 0) hd hn) ?_
  (repeat (first | refine E_st rfl ?_ | refine E_go rfl ?_))
  rw [pn_at, e2, pk_sub (by omega)]
  simp +decide only [pn_at, pl_at, pu_n, pu_l, pc_n, pc_l, pu_at, nI_add, if_true, if_false, and_true, true_and, and_false, false_and, and_self]
  exact E_rt rfl ⟨rfl, rfl⟩
theorem o_leave0 (hK : F 2 2 = 0) : pq_Ca (d + 1) 73 [.ref 1] (pq_Sh L, pn F, pl G, pq_rt h) (fun r M' => r = some (.int (-2)) ∧ M' = (pq_Sh L, pn (F), pl (G), pq_rt h)) := by
  refine Ca_mk rfl rfl ?_
  (repeat (first | refine E_st rfl ?_ | refine E_go rfl ?_))
  refine E_nif rfl (show ¬ nI 0 < nI (F 2 2) by rw [hK]; decide) ?_
  (repeat (first | refine E_st rfl ?_ | refine E_go rfl ?_))
  exact E_rt rfl ⟨rfl, rfl⟩
theorem o_release (hd : dOk F h) (hn : nOk F G) : pq_Ca (d + 4) 76 [.ref 1] (pq_Sh L, pn F, pl G, pq_rt h) (fun r M' => r = some (.int (nI (bgF (rmF F h) 6 (F 2 5 % 8)))) ∧ M' = (pq_Sh L, pn (bgF (rmF F h)), pl (rmG F G h), pq_rt (rmH F h))) := by
  have hn2 := rm_nOk hd hn
  have e5 : rmF F h 2 5 = F 2 5 := rmF_off hd (Or.inl (by decide)) (by decide)
  refine Ca_mk rfl rfl ?_
  (repeat (first | refine E_st rfl ?_ | refine E_go rfl ?_))
  refine E_cx rfl (by omega) (o_remember (d := 0) hd hn) ?_
  (repeat (first | refine E_st rfl ?_ | refine E_go rfl ?_))
  refine E_cx rfl (by omega) (c_forget (d := 0) hn2.2.1 (fun k hk => Nat.lt_trans (hn2.2.2.2.2.2.2.1 k hk) (by decide)) hn2.1) ?_
  (repeat (first | refine E_st rfl ?_ | refine E_go rfl ?_))
  refine E_cx rfl (by omega) (c_belief (d := 0)) ?_
  refine E_rt rfl ⟨?_, rfl⟩
  show some (Value.int (nI (bgF (rmF F h) 6 (rmF F h 2 5 % 8)))) = _
  rw [e5]
theorem o_undo (hd : dOk F h) (hr : 0 < F 1 2) (hb0 : F (h (F 1 2 - 1) + 6) 0 ≤ 1) (hb3 : F (h (F 1 2 - 1) + 6) 3 ≤ 1) : pq_Ca (d + 3) 81 [.ref 1] (pq_Sh L, pn F, pl G, pq_rt h) (fun r M' => r = some (.int (nI (F 1 2 - 1))) ∧ M' = (pq_Sh L, pn (pq_u (cpF (pq_u F 1 2 (F 1 2 - 1)) 2 (h (F 1 2 - 1))) 1 6 0), pl (cpG G 2 (h (F 1 2 - 1))), pq_rt h)) := by
  have h5 := hd.1
  have hlt : F 1 2 - 1 < 5 := by omega
  refine Ca_mk rfl rfl ?_
  (repeat (first | refine E_st rfl ?_ | refine E_go rfl ?_))
  refine E_if rfl (show nI 0 < nI (F 1 2) from nI_lt hr (by omega)) ?_
  (repeat (first | refine E_st rfl ?_ | refine E_go rfl ?_))
  rw [pn_at, pk_sub (by omega)]
  simp +decide only [pn_at, pl_at, pu_n, pu_l, pc_n, pc_l, pu_at, nI_add, if_true, if_false, and_true, true_and, and_false, false_and, and_self]
  refine E_aal rfl rfl hlt (by decide) (q := h (F 1 2 - 1)) rfl ?_
  have hcp := hCp2 hd.2 hlt
  have hge : 11 ≤ h (F 1 2 - 1) := by rcases hd.2.1 _ hlt with e | e | e | e | e <;> omega
  have hb0' : pq_u F 1 2 (F 1 2 - 1) (h (F 1 2 - 1) + 6) 0 ≤ 1 := by rw [pu_at, if_neg (by omega)]; exact hb0
  have hb3' : pq_u F 1 2 (F 1 2 - 1) (h (F 1 2 - 1) + 6) 3 ≤ 1 := by rw [pu_at, if_neg (by omega)]; exact hb3
  refine E_cx rfl (by omega) (c_copyS (d := 0) hcp hb0' hb3') ?_
  (repeat (first | refine E_st rfl ?_ | refine E_go rfl ?_))
  simp only [pu_n, pu_l, pc_n, pc_l]
  refine E_rt rfl ⟨?_, rfl⟩
  rw [pn_at, pu_at, if_neg (by decide), cpF_off (Or.inl (by decide)), pu_at, if_pos ⟨rfl, rfl⟩]
theorem o_undo0 (hr : F 1 2 = 0) : pq_Ca (d + 1) 81 [.ref 1] (pq_Sh L, pn F, pl G, pq_rt h) (fun r M' => r = some (.int (-2)) ∧ M' = (pq_Sh L, pn (F), pl (G), pq_rt h)) := by
  refine Ca_mk rfl rfl ?_
  (repeat (first | refine E_st rfl ?_ | refine E_go rfl ?_))
  refine E_nif rfl (show ¬ nI 0 < nI (F 1 2) by rw [hr]; decide) ?_
  (repeat (first | refine E_st rfl ?_ | refine E_go rfl ?_))
  exact E_rt rfl ⟨rfl, rfl⟩
end OPS
end
section
section OPT
variable {d L : Nat} {F G : Nat → Nat → Nat} {h : Nat → Nat}
theorem E_swo {j pc nx na t z : Nat} {dd lo hi : Int} {offs : Array Int} {ts : List (Nat × Nat)} {v : Value} {l : pq_L} {r : List Value} {M : pq_M} {x : Int32} {Q : Option Value → pq_M → Prop} (hf : pq_fetch j pc = some (pc, .tableswitch dd lo hi offs, nx, na, (t, z) :: ts, v)) (hx : x.toInt < lo ∨ hi < x.toInt) (K : pq_Ev d j t l r M Q) : pq_Ev d j pc l (.int x :: r) M Q := by
  refine E_st0 (nx := nx) ?_ K
  unfold pq_step
  simp only [hf, pq_exec, pq_x1, pq_x2, pq_i1, if_pos hx]
theorem c_property {k : Nat} (hk : k < 5) (h3 : F 8 3 ≤ 1) : pq_Ca (d + 1) 27 [.ref 8, .int (nI k)] (pq_Sh L, pn F, pl G, pq_rt h) (fun r M' => r = some (.int (nI (F 8 (k + 1)))) ∧ M' = (pq_Sh L, pn (F), pl (G), pq_rt h)) := by
  refine Ca_mk rfl rfl ?_
  (repeat (first | refine E_st rfl ?_ | refine E_go rfl ?_))
  rcases (show k = 0 ∨ k = 1 ∨ k = 2 ∨ k = 3 ∨ k = 4 by omega) with rfl | rfl | rfl | rfl | rfl
  · refine E_st0 rfl ?_
    (repeat (first | refine E_st rfl ?_ | refine E_go rfl ?_))
    exact E_rt rfl ⟨rfl, rfl⟩
  · refine E_st0 rfl ?_
    (repeat (first | refine E_st rfl ?_ | refine E_go rfl ?_))
    exact E_rt rfl ⟨rfl, rfl⟩
  · refine E_st0 rfl ?_
    (repeat (first | refine E_st rfl ?_ | refine E_go rfl ?_))
    by_cases hz : F 8 3 = 0
    · refine E_if rfl (show nI (F 8 3) = 0 by rw [hz]; rfl) ?_
      (repeat (first | refine E_st rfl ?_ | refine E_go rfl ?_))
      exact E_rt rfl ⟨by rw [hz], rfl⟩
    · refine E_nif rfl (show ¬ nI (F 8 3) = 0 from nI_ne0 (by omega) (by omega)) ?_
      (repeat (first | refine E_st rfl ?_ | refine E_go rfl ?_))
      exact E_rt rfl ⟨by rw [show F 8 3 = 1 by omega], rfl⟩
  · refine E_st0 rfl ?_
    (repeat (first | refine E_st rfl ?_ | refine E_go rfl ?_))
    exact E_rt rfl ⟨rfl, rfl⟩
  · refine E_st0 rfl ?_
    (repeat (first | refine E_st rfl ?_ | refine E_go rfl ?_))
    exact E_rt rfl ⟨rfl, rfl⟩
def cntF (F : Nat → Nat → Nat) (e : Nat) : Nat → Nat
  | 0 => F 2 0
  | 1 => e
  | 2 => F 2 2
  | 3 => F 2 5
  | 4 => F 5 3
  | 5 => F 2 6
  | 6 => F 2 7
  | _ => F 1 2
theorem o_count {k e : Nat} (hk : k < 8) (he : pq_Ca (d + 2) 57 [.ref 2] (pq_Sh L, pn F, pl G, pq_rt h) (fun r M' => r = some (.int (nI e)) ∧ M' = (pq_Sh L, pn (F), pl (G), pq_rt h))) : pq_Ca (d + 3) 82 [.ref 1, .int (nI k)] (pq_Sh L, pn F, pl G, pq_rt h) (fun r M' => r = some (.int (nI (cntF F e k))) ∧ M' = (pq_Sh L, pn (F), pl (G), pq_rt h)) := by
  refine Ca_mk rfl rfl ?_
  (repeat (first | refine E_st rfl ?_ | refine E_go rfl ?_))
  rcases (show k = 0 ∨ k = 1 ∨ k = 2 ∨ k = 3 ∨ k = 4 ∨ k = 5 ∨ k = 6 ∨ k = 7 by omega) with rfl | rfl | rfl | rfl | rfl | rfl | rfl | rfl
  case inr.inl =>
    refine E_st0 rfl ?_
    (repeat (first | refine E_st rfl ?_ | refine E_go rfl ?_))
    refine E_cx rfl (Nat.le_refl _) he ?_
    exact E_rt rfl ⟨rfl, rfl⟩
  all_goals
    refine E_st0 rfl ?_
    (repeat (first | refine E_st rfl ?_ | refine E_go rfl ?_))
    exact E_rt rfl ⟨rfl, rfl⟩
theorem o_count0 {x : Int32} (hx : x < 0 ∨ nI 8 ≤ x) : pq_Ca (d + 1) 82 [.ref 1, .int x] (pq_Sh L, pn F, pl G, pq_rt h) (fun r M' => r = some (.int (-1)) ∧ M' = (pq_Sh L, pn (F), pl (G), pq_rt h)) := by
  refine Ca_mk rfl rfl ?_
  (repeat (first | refine E_st rfl ?_ | refine E_go rfl ?_))
  refine E_swo rfl ?_ ?_
  · rcases hx with q | q
    · exact Or.inl (Int32.lt_iff_toInt_lt.mp q)
    · have := Int32.le_iff_toInt_le.mp q
      rw [nI_toInt (by decide)] at this
      right; omega
  · (repeat (first | refine E_st rfl ?_ | refine E_go rfl ?_))
    exact E_rt rfl ⟨rfl, rfl⟩
theorem o_neigh {v : Nat} (hn : F 2 0 ≤ 6) (hG : G 2 1 < 2 ^ 63) (hv : v < F 2 0) : pq_Ca (d + 2) 83 [.ref 1, .int (nI v)] (pq_Sh L, pn F, pl G, pq_rt h) (fun r M' => r = some (.int (nI (an (wFrom (G 2 1) v) (1 <<< v)))) ∧ M' = (pq_Sh L, pn (F), pl (G), pq_rt h)) := by
  refine Ca_mk rfl rfl ?_
  (repeat (first | refine E_st rfl ?_ | refine E_go rfl ?_))
  refine E_cx rfl (by omega) (c_isNode (d := 0) hn hv) ?_
  refine E_nif rfl (nI_ne0 (by decide) (by decide)) ?_
  (repeat (first | refine E_st rfl ?_ | refine E_go rfl ?_))
  refine E_cx rfl (by omega) (c_from (d := 0) (w := G 2 1) (Nat.lt_trans hG (by decide)) (by omega)) ?_
  (repeat (first | refine E_st rfl ?_ | refine E_go rfl ?_))
  refine E_rt rfl ⟨?_, rfl⟩
  rw [zi_shl _ (by omega), zi_not]
theorem o_neigh0 {x : Int32} (hx : x < 0 ∨ nI (F 2 0) ≤ x) : pq_Ca (d + 2) 83 [.ref 1, .int x] (pq_Sh L, pn F, pl G, pq_rt h) (fun r M' => r = some (.int (-1)) ∧ M' = (pq_Sh L, pn (F), pl (G), pq_rt h)) := by
  refine Ca_mk rfl rfl ?_
  (repeat (first | refine E_st rfl ?_ | refine E_go rfl ?_))
  refine E_cx rfl (by omega) (c_isNode0 (d := 0) hx) ?_
  refine E_if rfl rfl ?_
  (repeat (first | refine E_st rfl ?_ | refine E_go rfl ?_))
  exact E_rt rfl ⟨rfl, rfl⟩
theorem o_searcher {k w : Nat} (hn : F 2 2 ≤ 3) (hk : k < F 2 2) (hw : w < 2) : pq_Ca (d + 2) 84 [.ref 1, .int (nI k), .int (nI w)] (pq_Sh L, pn F, pl G, pq_rt h) (fun r M' => r = some (.int (nI (F (3 + w) k))) ∧ M' = (pq_Sh L, pn (F), pl (G), pq_rt h)) := by
  refine Ca_mk rfl rfl ?_
  (repeat (first | refine E_st rfl ?_ | refine E_go rfl ?_))
  refine E_cx rfl (by omega) (c_isSearcher (d := 0) hn hk) ?_
  refine E_nif rfl (nI_ne0 (by decide) (by decide)) ?_
  (repeat (first | refine E_st rfl ?_ | refine E_go rfl ?_))
  refine E_nif rfl (nI_pos (by omega)) ?_
  (repeat (first | refine E_st rfl ?_ | refine E_go rfl ?_))
  refine E_nif rfl (nI_nlt (by omega) (by omega)) ?_
  (repeat (first | refine E_st rfl ?_ | refine E_go rfl ?_))
  rcases (show w = 0 ∨ w = 1 by omega) with rfl | rfl
  · refine E_if rfl rfl ?_
    (repeat (first | refine E_st rfl ?_ | refine E_go rfl ?_))
    refine E_ial rfl rfl (by omega) (by decide) ?_
    (repeat (first | refine E_st rfl ?_ | refine E_go rfl ?_))
    exact E_rt rfl ⟨rfl, rfl⟩
  · refine E_nif rfl (by decide) ?_
    (repeat (first | refine E_st rfl ?_ | refine E_go rfl ?_))
    refine E_ial rfl rfl (by omega) (by decide) ?_
    exact E_rt rfl ⟨rfl, rfl⟩
theorem o_searcher0 {x : Int32} {y : Int32} (hx : x < 0 ∨ nI (F 2 2) ≤ x) : pq_Ca (d + 2) 84 [.ref 1, .int x, .int y] (pq_Sh L, pn F, pl G, pq_rt h) (fun r M' => r = some (.int (-1)) ∧ M' = (pq_Sh L, pn (F), pl (G), pq_rt h)) := by
  refine Ca_mk rfl rfl ?_
  (repeat (first | refine E_st rfl ?_ | refine E_go rfl ?_))
  refine E_cx rfl (by omega) (c_isSearcher0 (d := 0) hx) ?_
  refine E_if rfl rfl ?_
  (repeat (first | refine E_st rfl ?_ | refine E_go rfl ?_))
  exact E_rt rfl ⟨rfl, rfl⟩
theorem o_searcher1 {k : Nat} {y : Int32} (hn : F 2 2 ≤ 3) (hk : k < F 2 2) (hy : y < 0 ∨ nI 1 < y) : pq_Ca (d + 2) 84 [.ref 1, .int (nI k), .int y] (pq_Sh L, pn F, pl G, pq_rt h) (fun r M' => r = some (.int (-1)) ∧ M' = (pq_Sh L, pn (F), pl (G), pq_rt h)) := by
  refine Ca_mk rfl rfl ?_
  (repeat (first | refine E_st rfl ?_ | refine E_go rfl ?_))
  refine E_cx rfl (by omega) (c_isSearcher (d := 0) hn hk) ?_
  refine E_nif rfl (nI_ne0 (by decide) (by decide)) ?_
  (repeat (first | refine E_st rfl ?_ | refine E_go rfl ?_))
  refine E_br rfl (fun c => ?_) (fun c => ?_)
  · (repeat (first | refine E_st rfl ?_ | refine E_go rfl ?_))
    exact E_rt rfl ⟨rfl, rfl⟩
  · (repeat (first | refine E_st rfl ?_ | refine E_go rfl ?_))
    refine E_if rfl (hy.resolve_left c) ?_
    (repeat (first | refine E_st rfl ?_ | refine E_go rfl ?_))
    exact E_rt rfl ⟨rfl, rfl⟩
theorem o_bafter {t : Nat} (hn : nOk F G) (ht : t ≤ F 2 5) : pq_Ca (d + 3) 78 [.ref 1, .int (nI t)] (pq_Sh L, pn F, pl G, pq_rt h) (fun r M' => r = some (.int (if F 2 5 < t + F 5 3 then nI (F 6 (t % 8)) else (-4))) ∧ M' = (pq_Sh L, pn (F), pl (G), pq_rt h)) := by
  obtain ⟨n1, n2, n3, n4, n5, n6, n7, n8, n9, n10, n11, n12, n13, n14⟩ := hn
  refine Ca_mk rfl rfl ?_
  (repeat (first | refine E_st rfl ?_ | refine E_go rfl ?_))
  refine E_nif rfl (nI_pos (by omega)) ?_
  (repeat (first | refine E_st rfl ?_ | refine E_go rfl ?_))
  refine E_nif rfl (show ¬ nI (F 2 5) < nI t from nI_nlt (by omega) (by omega)) ?_
  (repeat (first | refine E_st rfl ?_ | refine E_go rfl ?_))
  refine E_cx rfl (by omega) (c_keeps (d := 0) (by omega) (by omega) (by omega)) ?_
  by_cases hc : F 2 5 < t + F 5 3
  · rw [if_pos hc, if_pos (by omega)]
    refine E_nif rfl (nI_ne0 (by decide) (by decide)) ?_
    (repeat (first | refine E_st rfl ?_ | refine E_go rfl ?_))
    refine E_cx rfl (by omega) (c_after (d := 0)) ?_
    (repeat (first | refine E_st rfl ?_ | refine E_go rfl ?_))
    exact E_rt rfl ⟨rfl, rfl⟩
  · rw [if_neg hc, if_neg (by omega)]
    refine E_if rfl rfl ?_
    (repeat (first | refine E_st rfl ?_ | refine E_go rfl ?_))
    exact E_rt rfl ⟨rfl, rfl⟩
theorem o_bafter0 {x : Int32} (hx : x < 0 ∨ nI (F 2 5) < x) : pq_Ca (d + 1) 78 [.ref 1, .int x] (pq_Sh L, pn F, pl G, pq_rt h) (fun r M' => r = some (.int (-1)) ∧ M' = (pq_Sh L, pn (F), pl (G), pq_rt h)) := by
  refine Ca_mk rfl rfl ?_
  (repeat (first | refine E_st rfl ?_ | refine E_go rfl ?_))
  refine E_br rfl (fun c => ?_) (fun c => ?_)
  · (repeat (first | refine E_st rfl ?_ | refine E_go rfl ?_))
    exact E_rt rfl ⟨rfl, rfl⟩
  · (repeat (first | refine E_st rfl ?_ | refine E_go rfl ?_))
    refine E_if rfl (hx.resolve_left c) ?_
    (repeat (first | refine E_st rfl ?_ | refine E_go rfl ?_))
    exact E_rt rfl ⟨rfl, rfl⟩
theorem o_setNews {p q : Nat} (hd : dOk F h) (hn : nOk F G) (hp : p ≤ 9) (hq : q ≤ 7) : pq_Ca (d + 4) 87 [.ref 1, .int (nI p), .int (nI q)] (pq_Sh L, pn F, pl G, pq_rt h) (fun r M' => r = some (.int (nI (10 * F 2 6 + F 2 7))) ∧ M' = (pq_Sh L, pn (pq_u (pq_u (rmF F h) 2 6 p) 2 7 q), pl (rmG F G h), pq_rt (rmH F h))) := by
  have e6 : rmF F h 2 6 = F 2 6 := rmF_off hd (Or.inl (by decide)) (by decide)
  have e7 : rmF F h 2 7 = F 2 7 := rmF_off hd (Or.inl (by decide)) (by decide)
  refine Ca_mk rfl rfl ?_
  (repeat (first | refine E_st rfl ?_ | refine E_go rfl ?_))
  refine E_nif rfl (nI_pos (by omega)) ?_
  (repeat (first | refine E_st rfl ?_ | refine E_go rfl ?_))
  refine E_nif rfl (nI_nlt hp (by decide)) ?_
  (repeat (first | refine E_st rfl ?_ | refine E_go rfl ?_))
  refine E_nif rfl (nI_pos (by omega)) ?_
  (repeat (first | refine E_st rfl ?_ | refine E_go rfl ?_))
  refine E_nif rfl (nI_nlt hq (by decide)) ?_
  (repeat (first | refine E_st rfl ?_ | refine E_go rfl ?_))
  refine E_cx rfl (by omega) (o_remember (d := 0) hd hn) ?_
  (repeat (first | refine E_st rfl ?_ | refine E_go rfl ?_))
  simp only [pu_n, pu_l, pc_n, pc_l]
  refine E_rt rfl ⟨?_, rfl⟩
  rw [pn_at, pn_at, e6, e7, pk_mul, nI_add]
theorem o_setNews0 {x y : Int32} (hx : x < 0 ∨ nI 9 < x ∨ y < 0 ∨ nI 7 < y) : pq_Ca (d + 1) 87 [.ref 1, .int x, .int y] (pq_Sh L, pn F, pl G, pq_rt h) (fun r M' => r = some (.int (-1)) ∧ M' = (pq_Sh L, pn (F), pl (G), pq_rt h)) := by
  refine Ca_mk rfl rfl ?_
  (repeat (first | refine E_st rfl ?_ | refine E_go rfl ?_))
  refine E_br rfl (fun c => ?_) (fun c => ?_)
  · (repeat (first | refine E_st rfl ?_ | refine E_go rfl ?_))
    exact E_rt rfl ⟨rfl, rfl⟩
  (repeat (first | refine E_st rfl ?_ | refine E_go rfl ?_))
  refine E_br rfl (fun c2 => ?_) (fun c2 => ?_)
  · (repeat (first | refine E_st rfl ?_ | refine E_go rfl ?_))
    exact E_rt rfl ⟨rfl, rfl⟩
  (repeat (first | refine E_st rfl ?_ | refine E_go rfl ?_))
  refine E_br rfl (fun c3 => ?_) (fun c3 => ?_)
  · (repeat (first | refine E_st rfl ?_ | refine E_go rfl ?_))
    exact E_rt rfl ⟨rfl, rfl⟩
  (repeat (first | refine E_st rfl ?_ | refine E_go rfl ?_))
  refine E_if rfl (((hx.resolve_left c).resolve_left c2).resolve_left c3) ?_
  (repeat (first | refine E_st rfl ?_ | refine E_go rfl ?_))
  exact E_rt rfl ⟨rfl, rfl⟩
theorem o_evader {k : Nat} (hn : nOk F G) (hk : k < 5) : pq_Ca (d + 2) 88 [.ref 1, .int (nI k)] (pq_Sh L, pn F, pl G, pq_rt h) (fun r M' => r = some (.int (if F 8 0 = 0 then (-4) else nI (F 8 (k + 1)))) ∧ M' = (pq_Sh L, pn (F), pl (G), pq_rt h)) := by
  obtain ⟨n1, n2, n3, n4, n5, n6, n7, n8, n9, n10, n11, n12, n13, n14, n15, n16⟩ := hn
  refine Ca_mk rfl rfl ?_
  (repeat (first | refine E_st rfl ?_ | refine E_go rfl ?_))
  refine E_nif rfl (nI_pos (by omega)) ?_
  (repeat (first | refine E_st rfl ?_ | refine E_go rfl ?_))
  refine E_nif rfl (nI_nlt (by omega) (by omega)) ?_
  (repeat (first | refine E_st rfl ?_ | refine E_go rfl ?_))
  by_cases hz : F 8 0 = 0
  · rw [if_pos hz]
    refine E_if rfl (show nI (F 8 0) = 0 by rw [hz]; rfl) ?_
    (repeat (first | refine E_st rfl ?_ | refine E_go rfl ?_))
    exact E_rt rfl ⟨rfl, rfl⟩
  · rw [if_neg hz]
    refine E_nif rfl (show ¬ nI (F 8 0) = 0 from nI_ne0 (by omega) (by omega)) ?_
    (repeat (first | refine E_st rfl ?_ | refine E_go rfl ?_))
    refine E_cx rfl (by omega) (c_property (d := 0) hk n15) ?_
    (repeat (first | refine E_st rfl ?_ | refine E_go rfl ?_))
    exact E_rt rfl ⟨rfl, rfl⟩
theorem o_evader0 {x : Int32} (hx : x < 0 ∨ nI 4 < x) : pq_Ca (d + 1) 88 [.ref 1, .int x] (pq_Sh L, pn F, pl G, pq_rt h) (fun r M' => r = some (.int (-1)) ∧ M' = (pq_Sh L, pn (F), pl (G), pq_rt h)) := by
  refine Ca_mk rfl rfl ?_
  (repeat (first | refine E_st rfl ?_ | refine E_go rfl ?_))
  refine E_br rfl (fun c => ?_) (fun c => ?_)
  · (repeat (first | refine E_st rfl ?_ | refine E_go rfl ?_))
    exact E_rt rfl ⟨rfl, rfl⟩
  · (repeat (first | refine E_st rfl ?_ | refine E_go rfl ?_))
    refine E_if rfl (hx.resolve_left c) ?_
    (repeat (first | refine E_st rfl ?_ | refine E_go rfl ?_))
    exact E_rt rfl ⟨rfl, rfl⟩
theorem o_ahead (hn : nOk F G) : pq_Ca (d + 4) 89 [.ref 1] (pq_Sh L, pn F, pl G, pq_rt h) (fun r M' => r = some (.int (nI (wSpread (fwF F G 4 (F 2 2)) (F 6 (F 2 5 % 8))))) ∧ M' = (pq_Sh L, pn (F), pl (G), pq_rt h)) := by
  obtain ⟨n1, n2, n3, n4, n5, n6, n7, n8, n9, n10, n11, n12, n13, n14, n15, n16⟩ := hn
  refine Ca_mk rfl rfl ?_
  (repeat (first | refine E_st rfl ?_ | refine E_go rfl ?_))
  refine E_cx rfl (by omega) (c_freeWays (d := 0) (Or.inr rfl) n2 n7 n8) ?_
  (repeat (first | refine E_st rfl ?_ | refine E_go rfl ?_))
  refine E_cx rfl (by omega) (c_belief (d := 0)) ?_
  refine E_cx rfl (by omega) (c_spread (d := 0) (Nat.lt_trans (fwF_lt n6 _) (by decide)) (Nat.lt_trans (n9 _ (by omega)) (by decide))) ?_
  exact E_rt rfl ⟨rfl, rfl⟩
theorem o_type {c : Nat} (hc : 32 ≤ c) (hc2 : c ≤ 126) (ht : F 1 4 < 60) : pq_Ca (d + 1) 98 [.ref 1, .int (nI c)] (pq_Sh L, pn F, pl G, pq_rt h) (fun r M' => r = some (.int (nI (F 1 4 + 1))) ∧ M' = (pq_Sh L, pn (pq_u (pq_u F 51 (F 1 4) c) 1 4 (F 1 4 + 1)), pl (G), pq_rt h)) := by
  refine Ca_mk rfl rfl ?_
  (repeat (first | refine E_st rfl ?_ | refine E_go rfl ?_))
  refine E_nif rfl (nI_nlt hc (by omega)) ?_
  (repeat (first | refine E_st rfl ?_ | refine E_go rfl ?_))
  refine E_nif rfl (nI_nlt hc2 (by decide)) ?_
  (repeat (first | refine E_st rfl ?_ | refine E_go rfl ?_))
  refine E_if rfl (show nI (F 1 4) < nI 60 from nI_lt ht (by decide)) ?_
  (repeat (first | refine E_st rfl ?_ | refine E_go rfl ?_))
  have ech : ((nI c).toUInt32 % 65536).toInt32 = nI c := by
    rw [pk_char, pk_tn (by omega), Nat.mod_eq_of_lt (by omega)]
  rw [ech]
  refine E_cas rfl rfl (k := F 1 4) ht (by decide) (by decide) (by omega) ?_
  (repeat (first | refine E_st rfl ?_ | refine E_go rfl ?_))
  simp +decide only [pn_at, pl_at, pu_n, pu_l, pc_n, pc_l, pu_at, nI_add, if_true, if_false, and_true, true_and, and_false, false_and, and_self]
  exact E_rt rfl ⟨rfl, rfl⟩
theorem o_type0 {x : Int32} (hx : x < nI 32 ∨ nI 126 < x) : pq_Ca (d + 1) 98 [.ref 1, .int x] (pq_Sh L, pn F, pl G, pq_rt h) (fun r M' => r = some (.int (-1)) ∧ M' = (pq_Sh L, pn (F), pl (G), pq_rt h)) := by
  refine Ca_mk rfl rfl ?_
  (repeat (first | refine E_st rfl ?_ | refine E_go rfl ?_))
  refine E_br rfl (fun c => ?_) (fun c => ?_)
  · (repeat (first | refine E_st rfl ?_ | refine E_go rfl ?_))
    exact E_rt rfl ⟨rfl, rfl⟩
  · (repeat (first | refine E_st rfl ?_ | refine E_go rfl ?_))
    refine E_if rfl (hx.resolve_left c) ?_
    (repeat (first | refine E_st rfl ?_ | refine E_go rfl ?_))
    exact E_rt rfl ⟨rfl, rfl⟩
theorem o_type3 {c : Nat} (hc : 32 ≤ c) (hc2 : c ≤ 126) (ht : F 1 4 = 60) : pq_Ca (d + 1) 98 [.ref 1, .int (nI c)] (pq_Sh L, pn F, pl G, pq_rt h) (fun r M' => r = some (.int (-3)) ∧ M' = (pq_Sh L, pn (F), pl (G), pq_rt h)) := by
  refine Ca_mk rfl rfl ?_
  (repeat (first | refine E_st rfl ?_ | refine E_go rfl ?_))
  refine E_nif rfl (nI_nlt hc (by omega)) ?_
  (repeat (first | refine E_st rfl ?_ | refine E_go rfl ?_))
  refine E_nif rfl (nI_nlt hc2 (by decide)) ?_
  (repeat (first | refine E_st rfl ?_ | refine E_go rfl ?_))
  refine E_nif rfl (show ¬ nI (F 1 4) < nI 60 by rw [ht]; decide) ?_
  (repeat (first | refine E_st rfl ?_ | refine E_go rfl ?_))
  exact E_rt rfl ⟨rfl, rfl⟩
theorem o_clearText : pq_Ca (d + 1) 99 [.ref 1] (pq_Sh L, pn F, pl G, pq_rt h) (fun r M' => r = some (.int (nI (F 1 4))) ∧ M' = (pq_Sh L, pn (pq_u F 1 4 0), pl (G), pq_rt h)) := by
  refine Ca_mk rfl rfl ?_
  (repeat (first | refine E_st rfl ?_ | refine E_go rfl ?_))
  simp only [pu_n, pu_l, pc_n, pc_l]
  exact E_rt rfl ⟨rfl, rfl⟩
end OPT
end
section
section OPU
variable {d L : Nat} {F G : Nat → Nat → Nat} {h : Nat → Nat}
theorem o_order {k v : Nat} (hd : dOk F h) (hn : nOk F G) (hk : k < F 2 2) (hv : v < F 2 0) (hj : (G 2 1).testBit (6 * F 3 k + v) = true) : pq_Ca (d + 4) 74 [.ref 1, .int (nI k), .int (nI v)] (pq_Sh L, pn F, pl G, pq_rt h) (fun r M' => r = some (.int (nI (F 4 k))) ∧ M' = (pq_Sh L, pn (pq_u (rmF F h) 4 k v), pl (rmG F G h), pq_rt (rmH F h))) := by
  have e4 : rmF F h 4 k = F 4 k := rmF_off hd (Or.inl (by decide)) (by decide)
  have hn1 := hn.1
  have hn2 := hn.2.1
  have h3 := hn.2.2.2.2.2.2.1 k (by omega)
  refine Ca_mk rfl rfl ?_
  (repeat (first | refine E_st rfl ?_ | refine E_go rfl ?_))
  refine E_cx rfl (by omega) (c_isSearcher (d := 0) hn.2.1 hk) ?_
  refine E_nif rfl (nI_ne0 (by decide) (by decide)) ?_
  (repeat (first | refine E_st rfl ?_ | refine E_go rfl ?_))
  refine E_cx rfl (by omega) (c_isNode (d := 0) hn.1 hv) ?_
  refine E_nif rfl (nI_ne0 (by decide) (by decide)) ?_
  (repeat (first | refine E_st rfl ?_ | refine E_go rfl ?_))
  refine E_ial rfl rfl (by omega) (by decide) ?_
  (repeat (first | refine E_st rfl ?_ | refine E_go rfl ?_))
  refine E_cx rfl (by omega) (c_joins (d := 0) hn.2.2.2.2.2.1 (by omega)) ?_
  rw [if_pos hj]
  refine E_nif rfl (nI_ne0 (by decide) (by decide)) ?_
  (repeat (first | refine E_st rfl ?_ | refine E_go rfl ?_))
  refine E_cx rfl (by omega) (o_remember (d := 0) hd hn) ?_
  (repeat (first | refine E_st rfl ?_ | refine E_go rfl ?_))
  refine E_ial rfl rfl (by omega) (by decide) ?_
  (repeat (first | refine E_st rfl ?_ | refine E_go rfl ?_))
  refine E_ias rfl rfl (by omega) (by decide) (by decide) ?_
  (repeat (first | refine E_st rfl ?_ | refine E_go rfl ?_))
  exact E_rt rfl ⟨by rw [e4], rfl⟩
theorem o_order2 {k v : Nat} (hn : nOk F G) (hk : k < F 2 2) (hv : v < F 2 0) (hj : (G 2 1).testBit (6 * F 3 k + v) = false) : pq_Ca (d + 3) 74 [.ref 1, .int (nI k), .int (nI v)] (pq_Sh L, pn F, pl G, pq_rt h) (fun r M' => r = some (.int (-2)) ∧ M' = (pq_Sh L, pn (F), pl (G), pq_rt h)) := by
  have hn1 := hn.1
  have hn2 := hn.2.1
  have h3 := hn.2.2.2.2.2.2.1 k (by omega)
  refine Ca_mk rfl rfl ?_
  (repeat (first | refine E_st rfl ?_ | refine E_go rfl ?_))
  refine E_cx rfl (by omega) (c_isSearcher (d := 0) hn.2.1 hk) ?_
  refine E_nif rfl (nI_ne0 (by decide) (by decide)) ?_
  (repeat (first | refine E_st rfl ?_ | refine E_go rfl ?_))
  refine E_cx rfl (by omega) (c_isNode (d := 0) hn.1 hv) ?_
  refine E_nif rfl (nI_ne0 (by decide) (by decide)) ?_
  (repeat (first | refine E_st rfl ?_ | refine E_go rfl ?_))
  refine E_ial rfl rfl (by omega) (by decide) ?_
  (repeat (first | refine E_st rfl ?_ | refine E_go rfl ?_))
  refine E_cx rfl (by omega) (c_joins (d := 0) hn.2.2.2.2.2.1 (by omega)) ?_
  rw [if_neg (by rw [hj]; decide)]
  refine E_if rfl rfl ?_
  (repeat (first | refine E_st rfl ?_ | refine E_go rfl ?_))
  exact E_rt rfl ⟨rfl, rfl⟩
theorem o_order0 {x y : Int32} (hx : x < 0 ∨ nI (F 2 2) ≤ x) : pq_Ca (d + 2) 74 [.ref 1, .int x, .int y] (pq_Sh L, pn F, pl G, pq_rt h) (fun r M' => r = some (.int (-1)) ∧ M' = (pq_Sh L, pn (F), pl (G), pq_rt h)) := by
  refine Ca_mk rfl rfl ?_
  (repeat (first | refine E_st rfl ?_ | refine E_go rfl ?_))
  refine E_cx rfl (by omega) (c_isSearcher0 (d := 0) hx) ?_
  refine E_if rfl rfl ?_
  (repeat (first | refine E_st rfl ?_ | refine E_go rfl ?_))
  exact E_rt rfl ⟨rfl, rfl⟩
theorem o_order1 {k : Nat} {y : Int32} (hn : F 2 2 ≤ 3) (hk : k < F 2 2) (hy : y < 0 ∨ nI (F 2 0) ≤ y) : pq_Ca (d + 2) 74 [.ref 1, .int (nI k), .int y] (pq_Sh L, pn F, pl G, pq_rt h) (fun r M' => r = some (.int (-1)) ∧ M' = (pq_Sh L, pn (F), pl (G), pq_rt h)) := by
  refine Ca_mk rfl rfl ?_
  (repeat (first | refine E_st rfl ?_ | refine E_go rfl ?_))
  refine E_cx rfl (by omega) (c_isSearcher (d := 0) hn hk) ?_
  refine E_nif rfl (nI_ne0 (by decide) (by decide)) ?_
  (repeat (first | refine E_st rfl ?_ | refine E_go rfl ?_))
  refine E_cx rfl (by omega) (c_isNode0 (d := 0) hy) ?_
  refine E_if rfl rfl ?_
  (repeat (first | refine E_st rfl ?_ | refine E_go rfl ?_))
  exact E_rt rfl ⟨rfl, rfl⟩
def lkF (F G : Nat → Nat → Nat) (a b s : Nat) : Nat → Nat → Nat := if s = 1 then F else ctF F (an (G 2 1) (wEdge a b))
def lkW (w a b s : Nat) : Nat := if s = 1 then w ||| wEdge a b else an w (wEdge a b)
set_option maxHeartbeats 1000000 in
theorem o_link {a b s : Nat} (hd : dOk F h) (hn : nOk F G) (ha : a < F 2 0) (hb : b < F 2 0) (hab : a ≠ b) (hs : s ≤ 1) : pq_Ca (d + 4) 66 [.ref 1, .int (nI a), .int (nI b), .int (nI s)] (pq_Sh L, pn F, pl G, pq_rt h) (fun r M' => r = some (.int (nI (if (G 2 1).testBit (6 * a + b) then 1 else 0))) ∧ M' = (pq_Sh L, pn (lkF (rmF F h) (rmG F G h) a b s), pl (pq_u (rmG F G h) 2 1 (lkW (G 2 1) a b s)), pq_rt (rmH F h))) := by
  have eG : rmG F G h 2 1 = G 2 1 := rmG_off hd (Or.inl (by decide))
  have hn1 := hn.1
  have hn2 := rm_nOk hd hn
  obtain ⟨n1, n2, n3, n4, n5, n6, n7, n8, n9, n10, n11, n12, n13, n14, n15, n16, n17, n18, n19, n20⟩ := hn2
  refine Ca_mk rfl rfl ?_
  (repeat (first | refine E_st rfl ?_ | refine E_go rfl ?_))
  refine E_cx rfl (by omega) (c_isNode (d := 0) hn.1 ha) ?_
  refine E_nif rfl (nI_ne0 (by decide) (by decide)) ?_
  (repeat (first | refine E_st rfl ?_ | refine E_go rfl ?_))
  refine E_cx rfl (by omega) (c_isNode (d := 0) hn.1 hb) ?_
  refine E_nif rfl (nI_ne0 (by decide) (by decide)) ?_
  (repeat (first | refine E_st rfl ?_ | refine E_go rfl ?_))
  refine E_nif rfl (fun e => hab ((nI_eq (by omega) (by omega)).mp e)) ?_
  (repeat (first | refine E_st rfl ?_ | refine E_go rfl ?_))
  refine E_nif rfl (nI_pos (by omega)) ?_
  (repeat (first | refine E_st rfl ?_ | refine E_go rfl ?_))
  refine E_nif rfl (nI_nlt hs (by decide)) ?_
  (repeat (first | refine E_st rfl ?_ | refine E_go rfl ?_))
  refine E_cx rfl (by omega) (o_remember (d := 0) hd hn) ?_
  (repeat (first | refine E_st rfl ?_ | refine E_go rfl ?_))
  refine E_cx rfl (by omega) (c_joins (d := 0) n6 (by omega)) ?_
  rw [eG]
  have key : pq_Ev (d + 3) 66 55 [some (.ref 1), some (.int (nI a)), some (.int (nI b)), some (.int (nI s)), some (.int (nI (if (G 2 1).testBit (6 * a + b) then 1 else 0)))] [] (pq_Sh L, pn (rmF F h), pl (rmG F G h), pq_rt (rmH F h)) (fun r M' => r = some (.int (nI (if (G 2 1).testBit (6 * a + b) then 1 else 0))) ∧ M' = (pq_Sh L, pn (lkF (rmF F h) (rmG F G h) a b s), pl (pq_u (rmG F G h) 2 1 (lkW (G 2 1) a b s)), pq_rt (rmH F h))) := by
    (repeat (first | refine E_st rfl ?_ | refine E_go rfl ?_))
    by_cases h1 : s = 1
    · subst h1
      refine E_if rfl rfl ?_
      (repeat (first | refine E_st rfl ?_ | refine E_go rfl ?_))
      refine E_cx rfl (by omega) (c_edge (d := 0) (by omega) (by omega)) ?_
      (repeat (first | refine E_st rfl ?_ | refine E_go rfl ?_))
      rw [pl_at, zl_or]
      simp only [pu_n, pu_l, pc_n, pc_l]
      rw [eG]
      exact E_rt rfl ⟨rfl, rfl⟩
    · have h0 : s = 0 := by omega
      subst h0
      refine E_nif rfl (by decide) ?_
      (repeat (first | refine E_st rfl ?_ | refine E_go rfl ?_))
      refine E_cx rfl (by omega) (c_cut (d := 0) (by omega) (by omega) n2 n6 n7 n8 (Or.inr ⟨n16, n17⟩) (by omega)) ?_
      (repeat (first | refine E_st rfl ?_ | refine E_go rfl ?_))
      refine E_rt rfl ⟨rfl, ?_⟩
      rw [eG]
      unfold lkF lkW
      rw [if_neg (by decide), if_neg (by decide), eG]
  by_cases hj : (G 2 1).testBit (6 * a + b) = true
  · rw [if_pos hj] at key ⊢
    refine E_nif rfl (nI_ne0 (by decide) (by decide)) ?_
    (iterate 3 (first | refine E_st rfl ?_ | refine E_go rfl ?_))
    exact key
  · rw [if_neg hj] at key ⊢
    refine E_if rfl rfl ?_
    (iterate 2 (first | refine E_st rfl ?_ | refine E_go rfl ?_))
    exact key
theorem o_link0 {x y z : Int32} (hx : x < 0 ∨ nI (F 2 0) ≤ x) : pq_Ca (d + 2) 66 [.ref 1, .int x, .int y, .int z] (pq_Sh L, pn F, pl G, pq_rt h) (fun r M' => r = some (.int (-1)) ∧ M' = (pq_Sh L, pn (F), pl (G), pq_rt h)) := by
  refine Ca_mk rfl rfl ?_
  (repeat (first | refine E_st rfl ?_ | refine E_go rfl ?_))
  refine E_cx rfl (by omega) (c_isNode0 (d := 0) hx) ?_
  refine E_if rfl rfl ?_
  (repeat (first | refine E_st rfl ?_ | refine E_go rfl ?_))
  exact E_rt rfl ⟨rfl, rfl⟩
theorem o_link1 {a : Nat} {y z : Int32} (hn : F 2 0 ≤ 6) (ha : a < F 2 0) (hy : y < 0 ∨ nI (F 2 0) ≤ y) : pq_Ca (d + 2) 66 [.ref 1, .int (nI a), .int y, .int z] (pq_Sh L, pn F, pl G, pq_rt h) (fun r M' => r = some (.int (-1)) ∧ M' = (pq_Sh L, pn (F), pl (G), pq_rt h)) := by
  refine Ca_mk rfl rfl ?_
  (repeat (first | refine E_st rfl ?_ | refine E_go rfl ?_))
  refine E_cx rfl (by omega) (c_isNode (d := 0) hn ha) ?_
  refine E_nif rfl (nI_ne0 (by decide) (by decide)) ?_
  (repeat (first | refine E_st rfl ?_ | refine E_go rfl ?_))
  refine E_cx rfl (by omega) (c_isNode0 (d := 0) hy) ?_
  refine E_if rfl rfl ?_
  (repeat (first | refine E_st rfl ?_ | refine E_go rfl ?_))
  exact E_rt rfl ⟨rfl, rfl⟩
theorem o_link2 {a b : Nat} {z : Int32} (hn : F 2 0 ≤ 6) (ha : a < F 2 0) (hb : b < F 2 0) (hz : a = b ∨ z < 0 ∨ nI 1 < z) : pq_Ca (d + 2) 66 [.ref 1, .int (nI a), .int (nI b), .int z] (pq_Sh L, pn F, pl G, pq_rt h) (fun r M' => r = some (.int (-1)) ∧ M' = (pq_Sh L, pn (F), pl (G), pq_rt h)) := by
  refine Ca_mk rfl rfl ?_
  (repeat (first | refine E_st rfl ?_ | refine E_go rfl ?_))
  refine E_cx rfl (by omega) (c_isNode (d := 0) hn ha) ?_
  refine E_nif rfl (nI_ne0 (by decide) (by decide)) ?_
  (repeat (first | refine E_st rfl ?_ | refine E_go rfl ?_))
  refine E_cx rfl (by omega) (c_isNode (d := 0) hn hb) ?_
  refine E_nif rfl (nI_ne0 (by decide) (by decide)) ?_
  (repeat (first | refine E_st rfl ?_ | refine E_go rfl ?_))
  refine E_br rfl (fun c => ?_) (fun c => ?_)
  · (repeat (first | refine E_st rfl ?_ | refine E_go rfl ?_))
    exact E_rt rfl ⟨rfl, rfl⟩
  have c0 : ¬ a = b := fun e => c (by rw [e])
  (repeat (first | refine E_st rfl ?_ | refine E_go rfl ?_))
  refine E_br rfl (fun c2 => ?_) (fun c2 => ?_)
  · (repeat (first | refine E_st rfl ?_ | refine E_go rfl ?_))
    exact E_rt rfl ⟨rfl, rfl⟩
  (repeat (first | refine E_st rfl ?_ | refine E_go rfl ?_))
  refine E_if rfl ((hz.resolve_left c0).resolve_left c2) ?_
  (repeat (first | refine E_st rfl ?_ | refine E_go rfl ?_))
  exact E_rt rfl ⟨rfl, rfl⟩
theorem o_tell {t v : Nat} (hd : dOk F h) (hn : nOk F G) (ht : t ≤ F 2 5) (hv : v < F 2 0) (hk : F 2 5 < t + F 5 3) (hb : (F 6 (t % 8)).testBit v = true) : pq_Ca (d + 5) 79 [.ref 1, .int (nI t), .int (nI v)] (pq_Sh L, pn F, pl G, pq_rt h) (fun r M' => r = some (.int (nI (nwF (rmF F h) (rmG F G h) t v (F 2 5 - t) 6 (F 2 5 % 8)))) ∧ M' = (pq_Sh L, pn (nwF (rmF F h) (rmG F G h) t v (F 2 5 - t)), pl (rmG F G h), pq_rt (rmH F h))) := by
  have e6 : ∀ i, rmF F h 6 i = F 6 i := fun i => rmF_off hd (Or.inl (by decide)) (by decide)
  have e5 : rmF F h 2 5 = F 2 5 := rmF_off hd (Or.inl (by decide)) (by decide)
  have e52 : rmF F h 5 2 = F 2 5 := by rw [rmF_off hd (Or.inl (by decide)) (by decide)]; exact hn.2.2.2.2.2.2.2.2.2.2.1
  have hn2 := rm_nOk hd hn
  obtain ⟨n1, n2, n3, n4, n5, n6, n7, n8, n9, n10, n11, n12, n13, n14, n15, n16, n17, n18, n19, n20⟩ := hn
  obtain ⟨m1, m2, m3, m4, m5, m6, m7, m8, m9, m10, m11, m12, m13, m14, m15, m16, m17, m18, m19, m20⟩ := hn2
  refine Ca_mk rfl rfl ?_
  (repeat (first | refine E_st rfl ?_ | refine E_go rfl ?_))
  refine E_nif rfl (nI_pos (by omega)) ?_
  (repeat (first | refine E_st rfl ?_ | refine E_go rfl ?_))
  refine E_nif rfl (show ¬ nI (F 2 5) < nI t from nI_nlt (by omega) (by omega)) ?_
  (repeat (first | refine E_st rfl ?_ | refine E_go rfl ?_))
  refine E_cx rfl (by omega) (c_isNode (d := 0) n1 hv) ?_
  refine E_nif rfl (nI_ne0 (by decide) (by decide)) ?_
  (repeat (first | refine E_st rfl ?_ | refine E_go rfl ?_))
  refine E_cx rfl (by omega) (c_keeps (d := 0) (by omega) (by omega) (by omega)) ?_
  rw [if_pos (by omega)]
  refine E_nif rfl (nI_ne0 (by decide) (by decide)) ?_
  (repeat (first | refine E_st rfl ?_ | refine E_go rfl ?_))
  refine E_cx rfl (by omega) (c_after (d := 0)) ?_
  (repeat (first | refine E_st rfl ?_ | refine E_go rfl ?_))
  refine E_cx rfl (by omega) (c_contains (d := 0) (Nat.lt_trans (n9 _ (by omega)) (by decide)) (by omega)) ?_
  rw [if_pos hb]
  refine E_nif rfl (nI_ne0 (by decide) (by decide)) ?_
  (repeat (first | refine E_st rfl ?_ | refine E_go rfl ?_))
  refine E_cx rfl (by omega) (o_remember (d := 0) hd ⟨n1, n2, n3, n4, n5, n6, n7, n8, n9, n10, n11, n12, n13, n14, n15, n16, n17, n18, n19, n20⟩) ?_
  (repeat (first | refine E_st rfl ?_ | refine E_go rfl ?_))
  refine E_cx rfl (by omega) (c_narrow (d := 0) (F := rmF F h) (G := rmG F G h) (by rw [e52]; exact ht) (by omega) m9 (fun i hi => Nat.lt_trans (m10 i hi) (by decide)) (by omega)) ?_
  rw [e6, if_pos hb, e52]
  (repeat (first | refine E_st rfl ?_ | refine E_go rfl ?_))
  refine E_cx rfl (by omega) (c_belief (d := 0)) ?_
  refine E_rt rfl ⟨?_, rfl⟩
  rw [nwF_off _ _ _ 2 5 (by decide), e5]
theorem o_tell0 {x y : Int32} (hx : x < 0 ∨ nI (F 2 5) < x ∨ y < 0 ∨ nI (F 2 0) ≤ y) : pq_Ca (d + 2) 79 [.ref 1, .int x, .int y] (pq_Sh L, pn F, pl G, pq_rt h) (fun r M' => r = some (.int (-1)) ∧ M' = (pq_Sh L, pn (F), pl (G), pq_rt h)) := by
  refine Ca_mk rfl rfl ?_
  (repeat (first | refine E_st rfl ?_ | refine E_go rfl ?_))
  refine E_br rfl (fun c => ?_) (fun c => ?_)
  · (repeat (first | refine E_st rfl ?_ | refine E_go rfl ?_))
    exact E_rt rfl ⟨rfl, rfl⟩
  (repeat (first | refine E_st rfl ?_ | refine E_go rfl ?_))
  refine E_br rfl (fun c2 => ?_) (fun c2 => ?_)
  · (repeat (first | refine E_st rfl ?_ | refine E_go rfl ?_))
    exact E_rt rfl ⟨rfl, rfl⟩
  (repeat (first | refine E_st rfl ?_ | refine E_go rfl ?_))
  refine E_cx rfl (by omega) (c_isNode0 (d := 0) ((hx.resolve_left c).resolve_left c2)) ?_
  refine E_if rfl rfl ?_
  (repeat (first | refine E_st rfl ?_ | refine E_go rfl ?_))
  exact E_rt rfl ⟨rfl, rfl⟩
theorem o_tell4 {t v : Nat} (hn : nOk F G) (ht : t ≤ F 2 5) (hv : v < F 2 0) (hk : ¬ F 2 5 < t + F 5 3) : pq_Ca (d + 3) 79 [.ref 1, .int (nI t), .int (nI v)] (pq_Sh L, pn F, pl G, pq_rt h) (fun r M' => r = some (.int (-4)) ∧ M' = (pq_Sh L, pn (F), pl (G), pq_rt h)) := by
  obtain ⟨n1, n2, n3, n4, n5, n6, n7, n8, n9, n10, n11, n12, n13, n14, n15, n16, n17, n18, n19, n20⟩ := hn
  refine Ca_mk rfl rfl ?_
  (repeat (first | refine E_st rfl ?_ | refine E_go rfl ?_))
  refine E_nif rfl (nI_pos (by omega)) ?_
  (repeat (first | refine E_st rfl ?_ | refine E_go rfl ?_))
  refine E_nif rfl (show ¬ nI (F 2 5) < nI t from nI_nlt (by omega) (by omega)) ?_
  (repeat (first | refine E_st rfl ?_ | refine E_go rfl ?_))
  refine E_cx rfl (by omega) (c_isNode (d := 0) n1 hv) ?_
  refine E_nif rfl (nI_ne0 (by decide) (by decide)) ?_
  (repeat (first | refine E_st rfl ?_ | refine E_go rfl ?_))
  refine E_cx rfl (by omega) (c_keeps (d := 0) (by omega) (by omega) (by omega)) ?_
  rw [if_neg (by omega)]
  refine E_if rfl rfl ?_
  (repeat (first | refine E_st rfl ?_ | refine E_go rfl ?_))
  exact E_rt rfl ⟨rfl, rfl⟩
theorem o_tell2 {t v : Nat} (hn : nOk F G) (ht : t ≤ F 2 5) (hv : v < F 2 0) (hk : F 2 5 < t + F 5 3) (hb : (F 6 (t % 8)).testBit v = false) : pq_Ca (d + 3) 79 [.ref 1, .int (nI t), .int (nI v)] (pq_Sh L, pn F, pl G, pq_rt h) (fun r M' => r = some (.int (-2)) ∧ M' = (pq_Sh L, pn (F), pl (G), pq_rt h)) := by
  obtain ⟨n1, n2, n3, n4, n5, n6, n7, n8, n9, n10, n11, n12, n13, n14, n15, n16, n17, n18, n19, n20⟩ := hn
  refine Ca_mk rfl rfl ?_
  (repeat (first | refine E_st rfl ?_ | refine E_go rfl ?_))
  refine E_nif rfl (nI_pos (by omega)) ?_
  (repeat (first | refine E_st rfl ?_ | refine E_go rfl ?_))
  refine E_nif rfl (show ¬ nI (F 2 5) < nI t from nI_nlt (by omega) (by omega)) ?_
  (repeat (first | refine E_st rfl ?_ | refine E_go rfl ?_))
  refine E_cx rfl (by omega) (c_isNode (d := 0) n1 hv) ?_
  refine E_nif rfl (nI_ne0 (by decide) (by decide)) ?_
  (repeat (first | refine E_st rfl ?_ | refine E_go rfl ?_))
  refine E_cx rfl (by omega) (c_keeps (d := 0) (by omega) (by omega) (by omega)) ?_
  rw [if_pos (by omega)]
  refine E_nif rfl (nI_ne0 (by decide) (by decide)) ?_
  (repeat (first | refine E_st rfl ?_ | refine E_go rfl ?_))
  refine E_cx rfl (by omega) (c_after (d := 0)) ?_
  (repeat (first | refine E_st rfl ?_ | refine E_go rfl ?_))
  refine E_cx rfl (by omega) (c_contains (d := 0) (Nat.lt_trans (n9 _ (by omega)) (by decide)) (by omega)) ?_
  rw [if_neg (by rw [hb]; decide)]
  refine E_if rfl rfl ?_
  (repeat (first | refine E_st rfl ?_ | refine E_go rfl ?_))
  exact E_rt rfl ⟨rfl, rfl⟩
end OPU
end
section
section OPV
variable {d L : Nat} {F G : Nat → Nat → Nat} {h : Nat → Nat}
theorem o_hide {v : Nat} (hd : dOk F h) (hn : nOk F G) (hv : v < F 2 0) (ho : (occ F (F 2 2)).testBit v = false) (hol : occ F (F 2 2) < 2 ^ 31) : pq_Ca (d + 4) 85 [.ref 1, .int (nI v)] (pq_Sh L, pn F, pl G, pq_rt h) (fun r M' => r = some (.int (nI (if (F 6 (F 2 5 % 8)).testBit v then 1 else 0))) ∧ M' = (pq_Sh L, pn (hiF (rmF F h) v (F 2 5)), pl (rmG F G h), pq_rt (rmH F h))) := by
  have e6 : ∀ i, rmF F h 6 i = F 6 i := fun i => rmF_off hd (Or.inl (by decide)) (by decide)
  have e5 : rmF F h 2 5 = F 2 5 := rmF_off hd (Or.inl (by decide)) (by decide)
  obtain ⟨n1, n2, n3, n4, n5, n6, n7, n8, n9, n10, n11, n12, n13, n14, n15, n16, n17, n18, n19, n20⟩ := id hn
  refine Ca_mk rfl rfl ?_
  (repeat (first | refine E_st rfl ?_ | refine E_go rfl ?_))
  refine E_cx rfl (by omega) (c_isNode (d := 0) n1 hv) ?_
  refine E_nif rfl (nI_ne0 (by decide) (by decide)) ?_
  (repeat (first | refine E_st rfl ?_ | refine E_go rfl ?_))
  refine E_cx rfl (by omega) (c_occupied (d := 0) n2 (fun k hk => Nat.lt_trans (n7 k hk) (by decide))) ?_
  (repeat (first | refine E_st rfl ?_ | refine E_go rfl ?_))
  refine E_cx rfl (by omega) (c_contains (d := 0) hol (by omega)) ?_
  rw [if_neg (by rw [ho]; decide)]
  refine E_if rfl rfl ?_
  (repeat (first | refine E_st rfl ?_ | refine E_go rfl ?_))
  refine E_cx rfl (by omega) (o_remember (d := 0) hd hn) ?_
  (repeat (first | refine E_st rfl ?_ | refine E_go rfl ?_))
  rw [pn_at, e5]
  refine E_cx rfl (by omega) (c_hideAt (d := 0)) ?_
  (repeat (first | refine E_st rfl ?_ | refine E_go rfl ?_))
  refine E_cx rfl (by omega) (c_belief (d := 0)) ?_
  (repeat (first | refine E_st rfl ?_ | refine E_go rfl ?_))
  have eb : hiF (rmF F h) v (F 2 5) 6 (hiF (rmF F h) v (F 2 5) 2 5 % 8) = F 6 (F 2 5 % 8) := by
    show rmF F h 6 (rmF F h 2 5 % 8) = _
    rw [e5, e6]
  rw [eb]
  refine E_cx rfl (by omega) (c_contains (d := 0) (Nat.lt_trans (n9 _ (by omega)) (by decide)) (by omega)) ?_
  by_cases hb : (F 6 (F 2 5 % 8)).testBit v = true
  · rw [if_pos hb]
    refine E_nif rfl (nI_ne0 (by decide) (by decide)) ?_
    (repeat (first | refine E_st rfl ?_ | refine E_go rfl ?_))
    exact E_rt rfl ⟨rfl, rfl⟩
  · rw [if_neg hb]
    refine E_if rfl rfl ?_
    (repeat (first | refine E_st rfl ?_ | refine E_go rfl ?_))
    exact E_rt rfl ⟨rfl, rfl⟩
theorem o_hide0 {x : Int32} (hx : x < 0 ∨ nI (F 2 0) ≤ x) : pq_Ca (d + 2) 85 [.ref 1, .int x] (pq_Sh L, pn F, pl G, pq_rt h) (fun r M' => r = some (.int (-1)) ∧ M' = (pq_Sh L, pn (F), pl (G), pq_rt h)) := by
  refine Ca_mk rfl rfl ?_
  (repeat (first | refine E_st rfl ?_ | refine E_go rfl ?_))
  refine E_cx rfl (by omega) (c_isNode0 (d := 0) hx) ?_
  refine E_if rfl rfl ?_
  (repeat (first | refine E_st rfl ?_ | refine E_go rfl ?_))
  exact E_rt rfl ⟨rfl, rfl⟩
theorem o_hide2 {v : Nat} (hn : nOk F G) (hv : v < F 2 0) (ho : (occ F (F 2 2)).testBit v = true) (hol : occ F (F 2 2) < 2 ^ 31) : pq_Ca (d + 2) 85 [.ref 1, .int (nI v)] (pq_Sh L, pn F, pl G, pq_rt h) (fun r M' => r = some (.int (-2)) ∧ M' = (pq_Sh L, pn (F), pl (G), pq_rt h)) := by
  obtain ⟨n1, n2, n3, n4, n5, n6, n7, n8, n9⟩ := id hn
  refine Ca_mk rfl rfl ?_
  (repeat (first | refine E_st rfl ?_ | refine E_go rfl ?_))
  refine E_cx rfl (by omega) (c_isNode (d := 0) n1 hv) ?_
  refine E_nif rfl (nI_ne0 (by decide) (by decide)) ?_
  (repeat (first | refine E_st rfl ?_ | refine E_go rfl ?_))
  refine E_cx rfl (by omega) (c_occupied (d := 0) n2 (fun k hk => Nat.lt_trans (n7 k hk) (by decide))) ?_
  (repeat (first | refine E_st rfl ?_ | refine E_go rfl ?_))
  refine E_cx rfl (by omega) (c_contains (d := 0) hol (by omega)) ?_
  rw [if_pos ho]
  refine E_nif rfl (nI_ne0 (by decide) (by decide)) ?_
  (repeat (first | refine E_st rfl ?_ | refine E_go rfl ?_))
  exact E_rt rfl ⟨rfl, rfl⟩
theorem o_flee {v : Nat} (hd : dOk F h) (hn : nOk F G) (hv : v < F 2 0) (hf : ¬ (F 8 0 = 0 ∨ F 8 3 ≠ 0)) (hj : (G 2 1).testBit (6 * F 8 1 + v) = true) : pq_Ca (d + 4) 86 [.ref 1, .int (nI v)] (pq_Sh L, pn F, pl G, pq_rt h) (fun r M' => r = some (.int (nI (F 8 2))) ∧ M' = (pq_Sh L, pn (pq_u (rmF F h) 8 2 v), pl (rmG F G h), pq_rt (rmH F h))) := by
  have e2 : rmF F h 8 2 = F 8 2 := rmF_off hd (Or.inl (by decide)) (by decide)
  obtain ⟨n1, n2, n3, n4, n5, n6, n7, n8, n9, n10, n11, n12, n13, n14, n15, n16, n17, n18, n19, n20⟩ := id hn
  refine Ca_mk rfl rfl ?_
  (repeat (first | refine E_st rfl ?_ | refine E_go rfl ?_))
  refine E_cx rfl (by omega) (c_isNode (d := 0) n1 hv) ?_
  refine E_nif rfl (nI_ne0 (by decide) (by decide)) ?_
  (repeat (first | refine E_st rfl ?_ | refine E_go rfl ?_))
  refine E_cx rfl (by omega) (c_isFree (d := 0) (by omega) (by omega)) ?_
  rw [if_neg hf]
  refine E_nif rfl (nI_ne0 (by decide) (by decide)) ?_
  (repeat (first | refine E_st rfl ?_ | refine E_go rfl ?_))
  refine E_cx rfl (by omega) (c_joins (d := 0) (a := F 8 1) n6 (by omega)) ?_
  rw [if_pos hj]
  refine E_nif rfl (nI_ne0 (by decide) (by decide)) ?_
  (repeat (first | refine E_st rfl ?_ | refine E_go rfl ?_))
  refine E_cx rfl (by omega) (o_remember (d := 0) hd hn) ?_
  (repeat (first | refine E_st rfl ?_ | refine E_go rfl ?_))
  simp only [pu_n, pu_l, pc_n, pc_l]
  exact E_rt rfl ⟨by rw [pn_at, e2], rfl⟩
theorem o_flee0 {x : Int32} (hx : x < 0 ∨ nI (F 2 0) ≤ x) : pq_Ca (d + 2) 86 [.ref 1, .int x] (pq_Sh L, pn F, pl G, pq_rt h) (fun r M' => r = some (.int (-1)) ∧ M' = (pq_Sh L, pn (F), pl (G), pq_rt h)) := by
  refine Ca_mk rfl rfl ?_
  (repeat (first | refine E_st rfl ?_ | refine E_go rfl ?_))
  refine E_cx rfl (by omega) (c_isNode0 (d := 0) hx) ?_
  refine E_if rfl rfl ?_
  (repeat (first | refine E_st rfl ?_ | refine E_go rfl ?_))
  exact E_rt rfl ⟨rfl, rfl⟩
theorem o_flee2 {v : Nat} (hn : nOk F G) (hv : v < F 2 0) (hf : (F 8 0 = 0 ∨ F 8 3 ≠ 0) ∨ (G 2 1).testBit (6 * F 8 1 + v) = false) : pq_Ca (d + 3) 86 [.ref 1, .int (nI v)] (pq_Sh L, pn F, pl G, pq_rt h) (fun r M' => r = some (.int (-2)) ∧ M' = (pq_Sh L, pn (F), pl (G), pq_rt h)) := by
  obtain ⟨n1, n2, n3, n4, n5, n6, n7, n8, n9, n10, n11, n12, n13, n14, n15, n16, n17, n18, n19, n20⟩ := id hn
  refine Ca_mk rfl rfl ?_
  (repeat (first | refine E_st rfl ?_ | refine E_go rfl ?_))
  refine E_cx rfl (by omega) (c_isNode (d := 0) n1 hv) ?_
  refine E_nif rfl (nI_ne0 (by decide) (by decide)) ?_
  (repeat (first | refine E_st rfl ?_ | refine E_go rfl ?_))
  refine E_cx rfl (by omega) (c_isFree (d := 0) (by omega) (by omega)) ?_
  by_cases hc : F 8 0 = 0 ∨ F 8 3 ≠ 0
  · rw [if_pos hc]
    refine E_if rfl rfl ?_
    (repeat (first | refine E_st rfl ?_ | refine E_go rfl ?_))
    exact E_rt rfl ⟨rfl, rfl⟩
  · rw [if_neg hc]
    refine E_nif rfl (nI_ne0 (by decide) (by decide)) ?_
    (repeat (first | refine E_st rfl ?_ | refine E_go rfl ?_))
    refine E_cx rfl (by omega) (c_joins (d := 0) (a := F 8 1) n6 (by omega)) ?_
    rw [if_neg (by rw [hf.resolve_left hc]; decide)]
    refine E_if rfl rfl ?_
    (repeat (first | refine E_st rfl ?_ | refine E_go rfl ?_))
    exact E_rt rfl ⟨rfl, rfl⟩
def stl (w : Nat) : Nat → Nat → Nat → Nat
  | 0, _, _ => 6
  | m + 1, s, k => if wSpread w s = s then k else stl w m (wSpread w s) (k + 1)
theorem wEnds_lt (w : Nat) : wEnds w < 64 := by unfold wEnds; exact Nat.and_lt_two_pow _ (by decide : 63 < 2 ^ 6)
theorem l_settles {w : Nat} (hw : w < 2 ^ 64) : ∀ m k s (z : Option Value), k + m = 6 → s < 64 → pq_Ev (d + 3) 94 23 [some (.ref 1), some (.long (lN w)), none, some (.int (nI s)), some (.int (nI k)), z] [] (pq_Sh L, pn F, pl G, pq_rt h) (fun r M' => r = some (.int (nI (stl w m s k))) ∧ M' = (pq_Sh L, pn (F), pl (G), pq_rt h)) := by
  intro m
  induction m with
  | zero =>
    intro k s z hk hs
    refine E_fo 5 ?_
    (repeat (first | refine E_st rfl ?_ | refine E_go rfl ?_))
    refine E_nif rfl (nI_nlt (by omega) (by omega)) ?_
    (repeat (first | refine E_st rfl ?_ | refine E_go rfl ?_))
    exact E_rt rfl ⟨rfl, rfl⟩
  | succ m ih =>
    intro k s z hk hs
    refine E_fo 5 ?_
    (repeat (first | refine E_st rfl ?_ | refine E_go rfl ?_))
    refine E_if rfl (nI_lt (by omega) (by omega)) ?_
    (repeat (first | refine E_st rfl ?_ | refine E_go rfl ?_))
    refine E_cx rfl (by omega) (c_spread (d := 0) hw (by omega)) ?_
    have hlt : wSpread w s < 64 := wEnds_lt _
    (repeat (first | refine E_st rfl ?_ | refine E_go rfl ?_))
    by_cases hc : wSpread w s = s
    · refine E_if rfl (by rw [hc]) ?_
      (repeat (first | refine E_st rfl ?_ | refine E_go rfl ?_))
      exact E_rt rfl ⟨by simp only [stl, if_pos hc], rfl⟩
    · refine E_nif rfl (fun e => hc ((nI_eq (by omega) (by omega)).mp e)) ?_
      (iterate 4 (first | refine E_st rfl ?_ | refine E_go rfl ?_))
      rw [nI_add]
      have e : stl w (m + 1) s k = stl w m (wSpread w s) (k + 1) := by simp only [stl, if_neg hc]
      rw [e]
      exact ih (k + 1) (wSpread w s) _ (by omega) hlt
theorem o_settles (hn : nOk F G) : pq_Ca (d + 4) 94 [.ref 1] (pq_Sh L, pn F, pl G, pq_rt h) (fun r M' => r = some (.int (nI (stl (fwF F G 3 (F 2 2)) 6 (F 6 (F 2 5 % 8)) 0))) ∧ M' = (pq_Sh L, pn (F), pl (G), pq_rt h)) := by
  obtain ⟨n1, n2, n3, n4, n5, n6, n7, n8, n9, n10, n11, n12, n13, n14, n15, n16⟩ := hn
  refine Ca_mk rfl rfl ?_
  (repeat (first | refine E_st rfl ?_ | refine E_go rfl ?_))
  refine E_cx rfl (by omega) (c_freeWays (d := 0) (Or.inl rfl) n2 n7 n7) ?_
  (repeat (first | refine E_st rfl ?_ | refine E_go rfl ?_))
  refine E_cx rfl (by omega) (c_belief (d := 0)) ?_
  (iterate 3 (first | refine E_st rfl ?_ | refine E_go rfl ?_))
  exact l_settles (Nat.lt_trans (fwF_lt n6 _) (by decide)) 6 0 _ _ rfl (n9 _ (by omega))
set_option maxHeartbeats 1000000 in
theorem o_turn (hd : dOk F h) (hn : nOk F G) (ht : F 2 5 < 10000) : pq_Ca (d + 6) 80 [.ref 1] (pq_Sh L, pn F, pl G, pq_rt h) (fun r M' => ∃ F1 F2 G2, F1 = rmF F h ∧ F2 = mtF F1 (rmG F G h) (fwF F1 (rmG F G h) 4 (F1 2 2)) ∧ G2 = pq_u (rmG F G h) 7 ((F1 5 2 + 1) % 8) (fwF F1 (rmG F G h) 4 (F1 2 2)) ∧
    ((gnC F2 ∧ r = some (.int (nI (gnN F2 G2 (F2 2 5 - F2 2 7) (F2 9 ((F2 2 5 - F2 2 7) % 8)) 6 (F2 2 5 % 8)))) ∧ M' = (pq_Sh L, pn (gnN F2 G2 (F2 2 5 - F2 2 7) (F2 9 ((F2 2 5 - F2 2 7) % 8))), pl G2, pq_rt (rmH F h))) ∨
     (¬ gnC F2 ∧ r = some (.int (nI (F2 6 (F2 2 5 % 8)))) ∧ M' = (pq_Sh L, pn F2, pl G2, pq_rt (rmH F h))))) := by
  have hn2 := rm_nOk hd hn
  have e5 : rmF F h 2 5 = F 2 5 := rmF_off hd (Or.inl (by decide)) (by decide)
  obtain ⟨m1, m2, m3, m4, m5, m6, m7, m8, m9, m10, m11, m12, m13, m14, m15, m16, m17, m18, m19, m20⟩ := hn2
  refine Ca_mk rfl rfl ?_
  (repeat (first | refine E_st rfl ?_ | refine E_go rfl ?_))
  refine E_if rfl (show nI (F 2 5) < nI 10000 from nI_lt ht (by decide)) ?_
  (repeat (first | refine E_st rfl ?_ | refine E_go rfl ?_))
  refine E_cx rfl (by omega) (o_remember (d := 0) hd hn) ?_
  (repeat (first | refine E_st rfl ?_ | refine E_go rfl ?_))
  refine E_cx rfl (by omega) (c_makeTurn (d := 0) m2 m6 m7 m8 m9 (by omega) (Or.inr ⟨m16, m17⟩) (by omega) (by omega)) ?_
  generalize hF1 : rmF F h = F1 at *
  generalize hG1 : rmG F G h = G1 at *
  generalize hw : fwF F1 G1 4 (F1 2 2) = w
  have hwl : w < 2 ^ 63 := by rw [← hw]; exact fwF_lt m6 _
  generalize hF2 : mtF F1 G1 w = F2
  generalize hG2 : pq_u G1 7 ((F1 5 2 + 1) % 8) w = G2
  have mE : ∀ p j, ¬ p = 3 → ¬ p = 8 → ¬ p = 9 → F2 p j = mtE F1 G1 w p j := by
    intro p j a3 a8 a9
    rw [← hF2]
    unfold mtF
    rw [pcp_at, if_neg (fun q => a3 q.1)]
    split
    · rfl
    · split
      · simp only [stF, pu_at]; rw [if_neg (fun q => a9 q.1), if_neg (fun q => a8 q.1), if_neg (fun q => a8 q.1)]
      · simp only [caF, stF, pu_at]; rw [if_neg (fun q => a9 q.1), if_neg (fun q => a8 q.1), if_neg (fun q => a8 q.1), if_neg (fun q => a8 q.1), if_neg (fun q => a8 q.1)]
  have q25 : F2 2 5 = F1 2 5 + 1 := by rw [mE 2 5 (by decide) (by decide) (by decide)]; rfl
  have q26 : F2 2 6 = F1 2 6 := by rw [mE 2 6 (by decide) (by decide) (by decide)]; rfl
  have q27 : F2 2 7 = F1 2 7 := by rw [mE 2 7 (by decide) (by decide) (by decide)]; rfl
  have q52 : F2 5 2 = F1 5 2 + 1 := by rw [mE 5 2 (by decide) (by decide) (by decide)]; rfl
  have q53 : F2 5 3 = if 8 < F1 5 3 + 1 then 8 else F1 5 3 + 1 := by rw [mE 5 3 (by decide) (by decide) (by decide)]; rfl
  have q6 : ∀ i, i < 8 → F2 6 i < 64 := by
    intro i hi
    rw [mE 6 i (by decide) (by decide) (by decide)]
    have e : mtE F1 G1 w 6 i = (if i = (F1 5 2 + 1) % 8 then wSpread w (F1 6 (F1 5 2 % 8)) else F1 6 i) := by
      simp +decide only [mtE, exF, pu_at, and_true, true_and, false_and, and_false, if_false]
    rw [e]
    split
    · exact wEnds_lt _
    · exact m9 i hi
  have q8 : ∀ j, (j = 0 ∨ j = 3 ∨ j = 5) → F2 8 j < 2 ^ 31 := by
    intro j hj
    rw [← hF2]
    unfold mtF
    rw [pcp_at, if_neg (by omega)]
    split
    · rcases hj with rfl | rfl | rfl
      · show F1 8 0 < _; omega
      · show F1 8 3 < _; omega
      · show F1 8 5 < _; omega
    · split
      · rcases hj with rfl | rfl | rfl
        · show F1 8 0 < _; omega
        · show F1 8 3 < _; omega
        · show F1 8 5 < _; omega
      · rcases hj with rfl | rfl | rfl
        · show F1 8 0 < _; omega
        · show 1 < _; omega
        · show F1 8 5 < _; omega
  have q9 : ∀ i, i < 8 → F2 9 i < 6 := by
    intro i hi
    rw [← hF2]
    unfold mtF
    rw [pcp_at, if_neg (by omega)]
    have b0 : mtE F1 G1 w 9 i = F1 9 i := rfl
    have := m20 i hi
    split
    · rw [b0]; exact this
    · split
      · simp only [stF, pu_at]; split
        · exact m17
        · simp +decide only [if_false, false_and]; rw [b0]; exact this
      · simp only [caF, stF, pu_at]; split
        · exact m17
        · simp +decide only [if_false, false_and]; rw [b0]; exact this
  have qG : ∀ i, i < 8 → G2 7 i < 2 ^ 64 := by
    intro i hi
    rw [← hG2, pu_at]
    split
    · exact Nat.lt_trans hwl (by decide)
    · exact Nat.lt_trans (m10 i hi) (by decide)
  (repeat (first | refine E_st rfl ?_ | refine E_go rfl ?_))
  refine E_ca rfl (by omega) (c_giveNews (d := 0) (F := F2) (G := G2) (q8 0 (Or.inl rfl)) (q8 3 (Or.inr (Or.inl rfl))) (by omega) (by omega) (by omega) (by omega) (by rw [q53, q52]; split <;> omega) (q8 5 (Or.inr (Or.inr rfl))) (fun _ => q9 _ (by omega)) q6 qG) ?_
  rintro r M' ⟨rfl, ⟨hc, rfl⟩ | ⟨hc, rfl⟩⟩
  · (repeat (first | refine E_st rfl ?_ | refine E_go rfl ?_))
    refine E_cx rfl (by omega) (c_belief (d := 0)) ?_
    refine E_rt rfl ⟨F1, F2, G2, rfl, by rw [hw, hF2], by rw [hw, hG2], Or.inl ⟨hc, ?_, rfl⟩⟩
    have : gnN F2 G2 (F2 2 5 - F2 2 7) (F2 9 ((F2 2 5 - F2 2 7) % 8)) 2 5 = F2 2 5 := by
      unfold gnN; split
      · exact nwF_off _ _ _ _ _ (by decide)
      · rfl
    rw [this]
  · (repeat (first | refine E_st rfl ?_ | refine E_go rfl ?_))
    refine E_cx rfl (by omega) (c_belief (d := 0)) ?_
    exact E_rt rfl ⟨F1, F2, G2, rfl, by rw [hw, hF2], by rw [hw, hG2], Or.inr ⟨hc, rfl, rfl⟩⟩
theorem o_turn3 (ht : F 2 5 = 10000) : pq_Ca (d + 1) 80 [.ref 1] (pq_Sh L, pn F, pl G, pq_rt h) (fun r M' => r = some (.int (-3)) ∧ M' = (pq_Sh L, pn (F), pl (G), pq_rt h)) := by
  refine Ca_mk rfl rfl ?_
  (repeat (first | refine E_st rfl ?_ | refine E_go rfl ?_))
  refine E_nif rfl (show ¬ nI (F 2 5) < nI 10000 by rw [ht]; decide) ?_
  (repeat (first | refine E_st rfl ?_ | refine E_go rfl ?_))
  exact E_rt rfl ⟨rfl, rfl⟩
end OPV
end
section
section TXT
variable {d L : Nat} {F G : Nat → Nat → Nat} {h : Nat → Nat}
/-- an edge's four characters at s -/
def edC (F : Nat → Nat → Nat) (s : Nat) : Prop := s + 4 ≤ F 1 4 ∧ (48 ≤ F 51 s ∧ F 51 s < 48 + F 2 0) ∧ (48 ≤ F 51 (s + 2) ∧ F 51 (s + 2) < 48 + F 2 0) ∧ F 51 s ≠ F 51 (s + 2) ∧ F 51 (s + 1) = 45 ∧ F 51 (s + 3) = 59
theorem zsub48 {c n : Nat} (hc : c < 65536) (hn : n ≤ 6) : (48 ≤ c ∧ c < 48 + n → nI c - nI 48 = nI (c - 48)) ∧ (¬ (48 ≤ c ∧ c < 48 + n) → nI c - nI 48 < 0 ∨ nI n ≤ nI c - nI 48) := by
  refine ⟨fun q => pk_sub q.1, fun q => ?_⟩
  by_cases h1 : 48 ≤ c
  · right; rw [pk_sub h1]; exact nI_le (by omega) (by omega)
  · left; exact pk_sneg (by decide) (by omega)
set_option maxHeartbeats 1000000 in
theorem c_edgeAt1 {s : Nat} (hn : F 2 0 ≤ 6) (ht : F 1 4 ≤ 60) (hch : ∀ i, i < 60 → F 51 i < 65536) (he : edC F s) : pq_Ca (d + 3) 70 [.ref 1, .int (nI s)] (pq_Sh L, pn F, pl G, pq_rt h) (fun r M' => r = some (.long (lN (wEdge (F 51 s - 48) (F 51 (s + 2) - 48)))) ∧ M' = (pq_Sh L, pn (F), pl (G), pq_rt h)) := by
  obtain ⟨e0, e1, e2, e3, e4, e5⟩ := he
  have c0 := hch s (by omega)
  have c2 := hch (s + 2) (by omega)
  refine Ca_mk rfl rfl ?_
  (repeat (first | refine E_st rfl ?_ | refine E_go rfl ?_))
  rw [nI_add]
  refine E_nif rfl (show ¬ nI (F 1 4) < nI (s + 4) from nI_nlt (by omega) (by omega)) ?_
  (repeat (first | refine E_st rfl ?_ | refine E_go rfl ?_))
  refine E_cal rfl rfl (k := s) (by omega) (by decide) ?_
  (repeat (first | refine E_st rfl ?_ | refine E_go rfl ?_))
  rw [nI_add]
  refine E_cal rfl rfl (k := s + 2) (by omega) (by decide) ?_
  (repeat (first | refine E_st rfl ?_ | refine E_go rfl ?_))
  rw [(zsub48 c0 hn).1 e1, (zsub48 c2 hn).1 e2]
  refine E_cx rfl (by omega) (c_isNode (d := 0) hn (by omega)) ?_
  refine E_nif rfl (nI_ne0 (by decide) (by decide)) ?_
  (repeat (first | refine E_st rfl ?_ | refine E_go rfl ?_))
  refine E_cx rfl (by omega) (c_isNode (d := 0) hn (by omega)) ?_
  refine E_nif rfl (nI_ne0 (by decide) (by decide)) ?_
  (repeat (first | refine E_st rfl ?_ | refine E_go rfl ?_))
  refine E_nif rfl (fun q => e3 (by have := (nI_eq (by omega) (by omega)).mp q; omega)) ?_
  (repeat (first | refine E_st rfl ?_ | refine E_go rfl ?_))
  rw [nI_add]
  refine E_cal rfl rfl (k := s + 1) (by omega) (by decide) ?_
  rw [e4]
  (repeat (first | refine E_st rfl ?_ | refine E_go rfl ?_))
  rw [nI_add]
  refine E_cal rfl rfl (k := s + 3) (by omega) (by decide) ?_
  rw [e5]
  (repeat (first | refine E_st rfl ?_ | refine E_go rfl ?_))
  refine E_if rfl rfl ?_
  (repeat (first | refine E_st rfl ?_ | refine E_go rfl ?_))
  refine E_cx rfl (by omega) (c_edge (d := 0) (by omega) (by omega)) ?_
  exact E_rt rfl ⟨rfl, rfl⟩
set_option maxHeartbeats 1000000 in
theorem c_edgeAt0 {s : Nat} (hn : F 2 0 ≤ 6) (ht : F 1 4 ≤ 60) (hs : s ≤ 60) (hch : ∀ i, i < 60 → F 51 i < 65536) (he : ¬ edC F s) : pq_Ca (d + 3) 70 [.ref 1, .int (nI s)] (pq_Sh L, pn F, pl G, pq_rt h) (fun r M' => r = some (.long (lN 0)) ∧ M' = (pq_Sh L, pn (F), pl (G), pq_rt h)) := by
  refine Ca_mk rfl rfl ?_
  (repeat (first | refine E_st rfl ?_ | refine E_go rfl ?_))
  rw [nI_add]
  by_cases e0 : s + 4 ≤ F 1 4
  case neg =>
    refine E_if rfl (show nI (F 1 4) < nI (s + 4) from nI_lt (by omega) (by omega)) ?_
    (repeat (first | refine E_st rfl ?_ | refine E_go rfl ?_))
    exact E_rt rfl ⟨rfl, rfl⟩
  have c0 := hch s (by omega)
  have c2 := hch (s + 2) (by omega)
  have c1 := hch (s + 1) (by omega)
  have c3 := hch (s + 3) (by omega)
  refine E_nif rfl (show ¬ nI (F 1 4) < nI (s + 4) from nI_nlt (by omega) (by omega)) ?_
  (repeat (first | refine E_st rfl ?_ | refine E_go rfl ?_))
  refine E_cal rfl rfl (k := s) (by omega) (by decide) ?_
  (repeat (first | refine E_st rfl ?_ | refine E_go rfl ?_))
  rw [nI_add]
  refine E_cal rfl rfl (k := s + 2) (by omega) (by decide) ?_
  (repeat (first | refine E_st rfl ?_ | refine E_go rfl ?_))
  by_cases e1 : 48 ≤ F 51 s ∧ F 51 s < 48 + F 2 0
  case neg =>
    refine E_cx rfl (by omega) (c_isNode0 (d := 0) ((zsub48 c0 hn).2 e1)) ?_
    refine E_if rfl rfl ?_
    (repeat (first | refine E_st rfl ?_ | refine E_go rfl ?_))
    exact E_rt rfl ⟨rfl, rfl⟩
  rw [(zsub48 c0 hn).1 e1]
  refine E_cx rfl (by omega) (c_isNode (d := 0) hn (by omega)) ?_
  refine E_nif rfl (nI_ne0 (by decide) (by decide)) ?_
  (repeat (first | refine E_st rfl ?_ | refine E_go rfl ?_))
  by_cases e2 : 48 ≤ F 51 (s + 2) ∧ F 51 (s + 2) < 48 + F 2 0
  case neg =>
    refine E_cx rfl (by omega) (c_isNode0 (d := 0) ((zsub48 c2 hn).2 e2)) ?_
    refine E_if rfl rfl ?_
    (repeat (first | refine E_st rfl ?_ | refine E_go rfl ?_))
    exact E_rt rfl ⟨rfl, rfl⟩
  rw [(zsub48 c2 hn).1 e2]
  refine E_cx rfl (by omega) (c_isNode (d := 0) hn (by omega)) ?_
  refine E_nif rfl (nI_ne0 (by decide) (by decide)) ?_
  (repeat (first | refine E_st rfl ?_ | refine E_go rfl ?_))
  refine E_br rfl (fun q => ?_) (fun q => ?_)
  · (repeat (first | refine E_st rfl ?_ | refine E_go rfl ?_))
    exact E_rt rfl ⟨rfl, rfl⟩
  have e3 : F 51 s ≠ F 51 (s + 2) := fun z => q (by rw [z])
  (repeat (first | refine E_st rfl ?_ | refine E_go rfl ?_))
  rw [nI_add]
  refine E_cal rfl rfl (k := s + 1) (by omega) (by decide) ?_
  (repeat (first | refine E_st rfl ?_ | refine E_go rfl ?_))
  refine E_br rfl (fun q => ?_) (fun q => ?_)
  case refine_2 =>
    (repeat (first | refine E_st rfl ?_ | refine E_go rfl ?_))
    exact E_rt rfl ⟨rfl, rfl⟩
  have e4 : F 51 (s + 1) = 45 := (nI_eq (by omega) (by omega)).mp q
  (repeat (first | refine E_st rfl ?_ | refine E_go rfl ?_))
  rw [nI_add]
  refine E_cal rfl rfl (k := s + 3) (by omega) (by decide) ?_
  (repeat (first | refine E_st rfl ?_ | refine E_go rfl ?_))
  refine E_br rfl (fun q => ?_) (fun q => ?_)
  · have e5 : F 51 (s + 3) = 59 := (nI_eq (by omega) (by omega)).mp q
    exact absurd ⟨e0, e1, e2, e3, e4, e5⟩ he
  · (repeat (first | refine E_st rfl ?_ | refine E_go rfl ?_))
    exact E_rt rfl ⟨rfl, rfl⟩
noncomputable def edF (F : Nat → Nat → Nat) (s : Nat) : Nat := @ite _ (edC F s) (Classical.propDecidable _) (wEdge (F 51 s - 48) (F 51 (s + 2) - 48)) 0
theorem edF_1 {s : Nat} (he : edC F s) : edF F s = wEdge (F 51 s - 48) (F 51 (s + 2) - 48) := by unfold edF; exact @if_pos _ (Classical.propDecidable _) he _ _ _
theorem edF_0 {s : Nat} (he : ¬ edC F s) : edF F s = 0 := by unfold edF; exact @if_neg _ (Classical.propDecidable _) he _ _ _
theorem c_edgeAt {s : Nat} (hn : F 2 0 ≤ 6) (ht : F 1 4 ≤ 60) (hs : s ≤ 60) (hch : ∀ i, i < 60 → F 51 i < 65536) : pq_Ca (d + 3) 70 [.ref 1, .int (nI s)] (pq_Sh L, pn F, pl G, pq_rt h) (fun r M' => r = some (.long (lN (edF F s))) ∧ M' = (pq_Sh L, pn (F), pl (G), pq_rt h)) := by
  by_cases he : edC F s
  · rw [edF_1 he]; exact c_edgeAt1 hn ht hch he
  · rw [edF_0 he]; exact c_edgeAt0 hn ht hs hch he
theorem wy_lt {u v : Nat} (hu : u < 6) (hv : v < 6) : wy u v < 2 ^ 36 := by
  unfold wy; rw [Nat.one_shiftLeft]; exact Nat.pow_lt_pow_right (by decide) (by omega)
theorem wEdge_lt {a b : Nat} (ha : a < 6) (hb : b < 6) : wEdge a b < 2 ^ 36 := Nat.or_lt_two_pow (wy_lt ha hb) (wy_lt hb ha)
theorem edF_lt {s : Nat} (hn : F 2 0 ≤ 6) : edF F s < 2 ^ 36 := by
  by_cases he : edC F s
  · rw [edF_1 he]
    obtain ⟨e0, e1, e2, e3, e4, e5⟩ := he
    exact wEdge_lt (by omega) (by omega)
  · rw [edF_0 he]; decide
/-- the fault, from position s on, with the edges seen -/
noncomputable def fltI (F : Nat → Nat → Nat) : Nat → Nat → Nat → Int32
  | 0, _, _ => -4
  | m + 1, s, seen => if s < F 1 4 then (if edF F s = 0 ∨ ¬ seen &&& edF F s = 0 then nI s else fltI F m (s + 4) (seen ||| edF F s)) else -4
set_option maxHeartbeats 1000000 in
theorem l_fault (hn : F 2 0 ≤ 6) (ht : F 1 4 ≤ 60) (hch : ∀ i, i < 60 → F 51 i < 65536) : ∀ m s seen (z : Option Value), 64 ≤ s + 4 * m → s ≤ 63 → seen < 2 ^ 36 → pq_Ev (d + 3) 69 4 [some (.ref 1), some (.long (lN seen)), none, some (.int (nI s)), z, none] [] (pq_Sh L, pn F, pl G, pq_rt h) (fun r M' => r = some (.int (fltI F m s seen)) ∧ M' = (pq_Sh L, pn (F), pl (G), pq_rt h)) := by
  intro m
  induction m with
  | zero =>
    intro s seen z hm hs hsn
    omega
  | succ m ih =>
    intro s seen z hm hs hsn
    refine E_fo 4 ?_
    (repeat (first | refine E_st rfl ?_ | refine E_go rfl ?_))
    by_cases hc : s < F 1 4
    case neg =>
      refine E_nif rfl (show ¬ nI s < nI (F 1 4) from nI_nlt (by omega) (by omega)) ?_
      (repeat (first | refine E_st rfl ?_ | refine E_go rfl ?_))
      exact E_rt rfl ⟨by simp only [fltI, if_neg hc], rfl⟩
    refine E_if rfl (show nI s < nI (F 1 4) from nI_lt hc (by omega)) ?_
    (repeat (first | refine E_st rfl ?_ | refine E_go rfl ?_))
    refine E_cx rfl (by omega) (c_edgeAt (d := 0) hn ht (by omega) hch) ?_
    have hel := edF_lt (F := F) (s := s) hn
    generalize hE : edF F s = E at hel
    (repeat (first | refine E_st rfl ?_ | refine E_go rfl ?_))
    by_cases hz : E = 0
    · refine E_if rfl ((zl_cmp (Nat.lt_trans hel (by decide))).mpr hz) ?_
      (repeat (first | refine E_st rfl ?_ | refine E_go rfl ?_))
      exact E_rt rfl ⟨by simp only [fltI, if_pos hc, hE, if_pos (Or.inl hz)], rfl⟩
    refine E_nif rfl (fun q => hz ((zl_cmp (Nat.lt_trans hel (by decide))).mp q)) ?_
    (repeat (first | refine E_st rfl ?_ | refine E_go rfl ?_))
    rw [zl_and]
    have hal : seen &&& E < 2 ^ 63 := Nat.lt_of_le_of_lt Nat.and_le_left (Nat.lt_trans hsn (by decide))
    by_cases hy : seen &&& E = 0
    · refine E_if rfl ((zl_cmp hal).mpr hy) ?_
      (iterate 6 (first | refine E_st rfl ?_ | refine E_go rfl ?_))
      rw [zl_or, nI_add]
      have e : fltI F (m + 1) s seen = fltI F m (s + 4) (seen ||| E) := by simp only [fltI, if_pos hc, hE, if_neg (show ¬ (E = 0 ∨ ¬ seen &&& E = 0) from fun q => q.elim hz (fun q => q hy))]
      rw [e]
      by_cases hs2 : s + 4 ≤ 63
      · exact ih (s + 4) (seen ||| E) _ (by omega) hs2 (Nat.or_lt_two_pow hsn hel)
      · omega
    · refine E_nif rfl (fun q => hy ((zl_cmp hal).mp q)) ?_
      (repeat (first | refine E_st rfl ?_ | refine E_go rfl ?_))
      exact E_rt rfl ⟨by simp only [fltI, if_pos hc, hE, if_pos (Or.inr hy)], rfl⟩
theorem o_fault (hn : F 2 0 ≤ 6) (ht : F 1 4 ≤ 60) (hch : ∀ i, i < 60 → F 51 i < 65536) : pq_Ca (d + 4) 69 [.ref 1] (pq_Sh L, pn F, pl G, pq_rt h) (fun r M' => r = some (.int (fltI F 16 0 0)) ∧ M' = (pq_Sh L, pn (F), pl (G), pq_rt h)) := by
  refine Ca_mk rfl rfl ?_
  (iterate 4 (first | refine E_st rfl ?_ | refine E_go rfl ?_))
  exact l_fault hn ht hch 16 0 0 none (by decide) (by decide) (by decide)
noncomputable def txE (F : Nat → Nat → Nat) : Nat → Nat → Nat → Nat
  | 0, _, acc => acc
  | m + 1, s, acc => if s < F 1 4 then txE F m (s + 4) (acc ||| edF F s) else acc
theorem l_texts (hn : F 2 0 ≤ 6) (ht : F 1 4 ≤ 60) (hch : ∀ i, i < 60 → F 51 i < 65536) : ∀ m s acc, 64 ≤ s + 4 * m → s ≤ 63 → pq_Ev (d + 3) 71 4 [some (.ref 1), some (.long (lN acc)), none, some (.int (nI s))] [] (pq_Sh L, pn F, pl G, pq_rt h) (fun r M' => r = some (.long (lN (txE F m s acc))) ∧ M' = (pq_Sh L, pn (F), pl (G), pq_rt h)) := by
  intro m
  induction m with
  | zero => intro s acc hm hs; omega
  | succ m ih =>
    intro s acc hm hs
    (repeat (first | refine E_st rfl ?_ | refine E_go rfl ?_))
    by_cases hc : s < F 1 4
    case neg =>
      refine E_nif rfl (show ¬ nI s < nI (F 1 4) from nI_nlt (by omega) (by omega)) ?_
      (repeat (first | refine E_st rfl ?_ | refine E_go rfl ?_))
      exact E_rt rfl ⟨by simp only [txE, if_neg hc], rfl⟩
    refine E_if rfl (show nI s < nI (F 1 4) from nI_lt hc (by omega)) ?_
    (repeat (first | refine E_st rfl ?_ | refine E_go rfl ?_))
    refine E_cx rfl (by omega) (c_edgeAt (d := 0) hn ht (by omega) hch) ?_
    (iterate 4 (first | refine E_st rfl ?_ | refine E_go rfl ?_))
    rw [zl_or, nI_add]
    have e : txE F (m + 1) s acc = txE F m (s + 4) (acc ||| edF F s) := by simp only [txE, if_pos hc]
    rw [e]
    exact ih (s + 4) _ (by omega) (by omega)
theorem c_texts (hn : F 2 0 ≤ 6) (ht : F 1 4 ≤ 60) (hch : ∀ i, i < 60 → F 51 i < 65536) : pq_Ca (d + 4) 71 [.ref 1] (pq_Sh L, pn F, pl G, pq_rt h) (fun r M' => r = some (.long (lN (txE F 16 0 0))) ∧ M' = (pq_Sh L, pn (F), pl (G), pq_rt h)) := by
  refine Ca_mk rfl rfl ?_
  (iterate 4 (first | refine E_st rfl ?_ | refine E_go rfl ?_))
  exact l_texts hn ht hch 16 0 0 (by decide) (by decide)
end TXT
end
section
/-! Search: places q (52 or 56: TurnSearch; 60: MoveSearch), q + 1 (at), q + 2 (cameFrom or prices), q + 3 (queue) -/
abbrev N1 : Nat := 4294967295
abbrev N2 : Nat := 4294967294
theorem zm1 : (-1 : Int32) = nI N1 := by decide
theorem zm2 : (-2 : Int32) = nI N2 := by decide
theorem zi_eq {a b : Nat} (ha : a < 2 ^ 32) (hb : b < 2 ^ 32) : nI a = nI b ↔ a = b := by
  constructor
  · intro e
    have := congrArg (fun z : Int32 => z.toBitVec.toNat) e
    simpa [pk_tn ha, pk_tn hb] using this
  · intro e; rw [e]
def qOk (q : Nat) : Prop := q = 52 ∨ q = 56 ∨ q = 60
def arJ (q : Nat) : Nat := if q = 60 then 46 else 40
def nmF (F : Nat → Nat → Nat) (tp : Nat) : Nat → Nat
  | 0 => 0
  | k + 1 => nmF F tp k * 6 + F tp k
def clF (F : Nat → Nat → Nat) (rp b : Nat) : Nat → Nat → Nat := fun p j => if p = rp ∧ j < b then N1 else F p j
theorem clF_0 (F : Nat → Nat → Nat) (rp : Nat) : clF F rp 0 = F := by funext p j; simp [clF]
theorem clF_s (F : Nat → Nat → Nat) (rp b : Nat) : pq_u (clF F rp b) rp b N1 = clF F rp (b + 1) := by
  funext p j
  simp only [clF, pu_at]
  by_cases hp : p = rp
  · by_cases hj : j = b
    · rw [if_pos ⟨hp, hj⟩, if_pos ⟨hp, by omega⟩]
    · rw [if_neg (fun q => hj q.2)]
      by_cases hl : j < b
      · rw [if_pos ⟨hp, hl⟩, if_pos ⟨hp, by omega⟩]
      · rw [if_neg (fun q => hl q.2), if_neg (fun q => hl (by omega))]
  · rw [if_neg (fun q => hp q.1), if_neg (fun q => hp q.1), if_neg (fun q => hp q.1)]
def plF (F : Nat → Nat → Nat) (ap : Nat) : Nat → Nat → Nat → Nat → Nat
  | 0, _ => F
  | i + 1, rest => plF (pq_u F ap i (rest % 6)) ap i (rest / 6)
theorem plF_off {ap : Nat} : ∀ (i rest : Nat) (F : Nat → Nat → Nat) (p j : Nat), ¬ (p = ap ∧ j < i) → plF F ap i rest p j = F p j := by
  intro i
  induction i with
  | zero => intro rest F p j _; rfl
  | succ i ih =>
    intro rest F p j hp
    simp only [plF]
    rw [ih _ _ _ _ (fun q => hp ⟨q.1, by omega⟩), pu_at, if_neg (fun q => hp ⟨q.1, by omega⟩)]
theorem plF_in {ap : Nat} : ∀ (i rest : Nat) (F : Nat → Nat → Nat) (j : Nat), j < i → plF F ap i rest ap j = rest / 6 ^ (i - 1 - j) % 6 := by
  intro i
  induction i with
  | zero => intro rest F j hj; omega
  | succ i ih =>
    intro rest F j hj
    simp only [plF]
    by_cases hji : j = i
    · subst hji
      rw [plF_off _ _ _ _ _ (by omega), pu_at, if_pos ⟨rfl, rfl⟩]
      simp
    · rw [ih _ _ _ (by omega), Nat.div_div_eq_div_mul, ← Nat.pow_succ', show (i - 1 - j).succ = i + 1 - 1 - j by omega]
section SR1
variable {d L q : Nat} {F G : Nat → Nat → Nat} {h : Nat → Nat}
theorem s_prepare (hq : qOk q) {n w K : Nat} : pq_Ca (d + 1) 29 [.ref q, .int (nI n), .long (lN w), .int (nI K)] (pq_Sh L, pn F, pl G, pq_rt h) (fun r M' => r = none ∧ M' = (pq_Sh L, pn (pq_u (pq_u F q 0 n) q 2 K), pl (pq_u G q 1 w), pq_rt h)) := by
  rcases hq with rfl | rfl | rfl
  all_goals
    refine Ca_mk rfl rfl ?_
    (repeat (first | refine E_st rfl ?_ | refine E_go rfl ?_))
    simp only [pu_n, pu_l, pc_n, pc_l]
    exact E_rt rfl ⟨rfl, rfl⟩
theorem l_bound (hq : qOk q) (hK : F q 2 ≤ 3) : ∀ m k, k + m = F q 2 → pq_Ev d 31 5 [some (.ref q), some (.int (nI (64 * 6 ^ k))), some (.int (nI k))] [] (pq_Sh L, pn F, pl G, pq_rt h) (fun r M' => r = some (.int (nI (64 * 6 ^ F q 2))) ∧ M' = (pq_Sh L, pn (F), pl (G), pq_rt h)) := by
  intro m
  induction m with
  | zero =>
    intro k hk
    have hk : k = F q 2 := by omega
    subst hk
    rcases hq with rfl | rfl | rfl
    all_goals
      (repeat (first | refine E_st rfl ?_ | refine E_go rfl ?_))
      refine E_nif rfl (nI_nlt (Nat.le_refl _) (by omega)) ?_
      (repeat (first | refine E_st rfl ?_ | refine E_go rfl ?_))
      exact E_rt rfl ⟨rfl, rfl⟩
  | succ m ih =>
    intro k hk
    have h1 := ih (k + 1) (by omega)
    rcases hq with rfl | rfl | rfl
    all_goals
      (iterate 3 (first | refine E_st rfl ?_ | refine E_go rfl ?_))
      refine E_if rfl (nI_lt (by omega) (by omega)) ?_
      (iterate 6 (first | refine E_st rfl ?_ | refine E_go rfl ?_))
      rw [pk_mul, nI_add, Nat.mul_assoc, ← Nat.pow_succ]
      exact h1
theorem s_bound (hq : qOk q) (hK : F q 2 ≤ 3) : pq_Ca (d + 1) 31 [.ref q] (pq_Sh L, pn F, pl G, pq_rt h) (fun r M' => r = some (.int (nI (64 * 6 ^ F q 2))) ∧ M' = (pq_Sh L, pn (F), pl (G), pq_rt h)) := by
  refine Ca_mk rfl rfl ?_
  (iterate 4 (first | refine E_st rfl ?_ | refine E_go rfl ?_))
  exact l_bound hq hK (F q 2) 0 (by omega)
theorem l_number (hq : qOk q) (hK : F q 2 ≤ 3) {s : Nat} : ∀ m k, k + m = F q 2 → pq_Ev d 32 5 [some (.ref q), some (.ref 3), some (.int (nI s)), some (.int (nI (nmF F 3 k))), some (.int (nI k))] [] (pq_Sh L, pn F, pl G, pq_rt h) (fun r M' => r = some (.int (nI (nmF F 3 (F q 2) * 64 + s))) ∧ M' = (pq_Sh L, pn (F), pl (G), pq_rt h)) := by
  intro m
  induction m with
  | zero =>
    intro k hk
    have hk : k = F q 2 := by omega
    subst hk
    rcases hq with rfl | rfl | rfl
    all_goals
      (repeat (first | refine E_st rfl ?_ | refine E_go rfl ?_))
      refine E_nif rfl (nI_nlt (Nat.le_refl _) (by omega)) ?_
      (repeat (first | refine E_st rfl ?_ | refine E_go rfl ?_))
      refine E_rt rfl ⟨?_, rfl⟩
      rw [pk_mul, nI_add]
  | succ m ih =>
    intro k hk
    have h1 := ih (k + 1) (by omega)
    rcases hq with rfl | rfl | rfl
    all_goals
      (iterate 3 (first | refine E_st rfl ?_ | refine E_go rfl ?_))
      refine E_if rfl (nI_lt (by omega) (by omega)) ?_
      (repeat (first | refine E_st rfl ?_ | refine E_go rfl ?_))
      refine E_ial rfl rfl (by omega) (by decide) ?_
      (iterate 4 (first | refine E_st rfl ?_ | refine E_go rfl ?_))
      rw [pk_mul, nI_add, nI_add]
      exact h1
theorem s_number (hq : qOk q) (hK : F q 2 ≤ 3) {s : Nat} : pq_Ca (d + 1) 32 [.ref q, .ref 3, .int (nI s)] (pq_Sh L, pn F, pl G, pq_rt h) (fun r M' => r = some (.int (nI (nmF F 3 (F q 2) * 64 + s))) ∧ M' = (pq_Sh L, pn (F), pl (G), pq_rt h)) := by
  refine Ca_mk rfl rfl ?_
  (iterate 4 (first | refine E_st rfl ?_ | refine E_go rfl ?_))
  exact l_number hq hK (F q 2) 0 (by omega)
theorem l_clear (hq : qOk q) {b : Nat} (hb : b ≤ 13824) : ∀ m k, k + m = b → pq_Ev d 30 7 [some (.ref q), some (.ref (q + 2)), some (.int (nI b)), some (.int (nI k))] [] (pq_Sh L, pn (clF F (q + 2) k), pl G, pq_rt h) (fun r M' => r = none ∧ M' = (pq_Sh L, pn (clF F (q + 2) b), pl (G), pq_rt h)) := by
  intro m
  induction m with
  | zero =>
    intro k hk
    have hk : k = b := by omega
    subst hk
    (repeat (first | refine E_st rfl ?_ | refine E_go rfl ?_))
    refine E_nif rfl (nI_nlt (Nat.le_refl _) (by omega)) ?_
    exact E_rt rfl ⟨rfl, rfl⟩
  | succ m ih =>
    intro k hk
    have h1 := ih (k + 1) (by omega)
    (repeat (first | refine E_st rfl ?_ | refine E_go rfl ?_))
    refine E_if rfl (nI_lt (by omega) (by omega)) ?_
    (repeat (first | refine E_st rfl ?_ | refine E_go rfl ?_))
    rw [zm1]
    refine E_ias rfl (n := 13824) (by rcases hq with rfl | rfl | rfl <;> rfl) (by omega) (by decide) (by rcases hq with rfl | rfl | rfl <;> decide) ?_
    (iterate 2 (first | refine E_st rfl ?_ | refine E_go rfl ?_))
    rw [nI_add, clF_s]
    exact h1
theorem s_clear (hq : qOk q) (hK : F q 2 ≤ 3) : pq_Ca (d + 2) 30 [.ref q, .ref (q + 2)] (pq_Sh L, pn F, pl G, pq_rt h) (fun r M' => r = none ∧ M' = (pq_Sh L, pn (clF F (q + 2) (64 * 6 ^ F q 2)), pl (G), pq_rt h)) := by
  have hb : 64 * 6 ^ F q 2 ≤ 13824 := by
    have : 6 ^ F q 2 ≤ 6 ^ 3 := Nat.pow_le_pow_right (by decide) hK
    omega
  have h1 := l_clear (d := d + 1) (L := L) (F := F) (G := G) (h := h) hq hb (64 * 6 ^ F q 2) 0 (by omega)
  rw [clF_0] at h1
  have h2 := s_bound (d := d) (L := L) (F := F) (G := G) (h := h) hq hK
  rcases hq with rfl | rfl | rfl
  all_goals
    refine Ca_mk rfl rfl ?_
    (repeat (first | refine E_st rfl ?_ | refine E_go rfl ?_))
    refine E_cx rfl (Nat.le_refl _) h2 ?_
    (iterate 3 (first | refine E_st rfl ?_ | refine E_go rfl ?_))
    exact h1
theorem zsub1 (c : Nat) : nI c - nI 1 = nI c + (-1) := by
  have : nI c - nI 1 = nI c + (-1) := by rw [Int32.sub_eq_add_neg]; rfl
  exact this
theorem l_place (hq : qOk q) {sit : Nat} : ∀ c rest (F : Nat → Nat → Nat), c ≤ 3 → rest < 2 ^ 31 → pq_Ev d 34 12 [some (.ref q), some (.int (nI sit)), some (.int (nI rest)), some (.int (nI c + (-1)))] [] (pq_Sh L, pn F, pl G, pq_rt h) (fun r M' => r = none ∧ M' = (pq_Sh L, pn (plF F (q + 1) c rest), pl (G), pq_rt h)) := by
  intro c
  induction c with
  | zero =>
    intro rest F hc hr
    (iterate 1 (first | refine E_st rfl ?_ | refine E_go rfl ?_))
    refine E_if rfl (by decide) ?_
    exact E_rt rfl ⟨rfl, rfl⟩
  | succ c ih =>
    intro rest F hc hr
    rw [pk_m1]
    have h1 := ih (rest / 6) (pq_u F (q + 1) c (rest % 6)) (by omega) (by omega)
    rcases hq with rfl | rfl | rfl
    all_goals
      (iterate 1 (first | refine E_st rfl ?_ | refine E_go rfl ?_))
      refine E_nif rfl (nI_pos (by omega)) ?_
      (repeat (first | refine E_st rfl ?_ | refine E_go rfl ?_))
      rw [pk_rem hr (by decide) (by decide)]
      refine E_ias rfl rfl (n := 3) (by omega) (by decide) (by decide) ?_
      (iterate 6 (first | refine E_st rfl ?_ | refine E_go rfl ?_))
      rw [pk_div hr (by decide) (by decide)]
      exact h1
theorem s_place (hq : qOk q) (hK : F q 2 ≤ 3) {sit : Nat} (hs : sit < 2 ^ 31) : pq_Ca (d + 1) 34 [.ref q, .int (nI sit)] (pq_Sh L, pn F, pl G, pq_rt h) (fun r M' => r = none ∧ M' = (pq_Sh L, pn (plF F (q + 1) (F q 2) (sit / 64)), pl (G), pq_rt h)) := by
  have h1 := l_place (d := d) (L := L) (G := G) (h := h) hq (sit := sit) (F q 2) (sit / 64) F hK (by omega)
  rcases hq with rfl | rfl | rfl
  all_goals
    refine Ca_mk rfl rfl ?_
    (iterate 9 (first | refine E_st rfl ?_ | refine E_go rfl ?_))
    rw [pn_at, zsub1, pk_div hs (by decide) (by decide)]
    exact h1
end SR1
end
section
abbrev FF : Type := Nat → Nat → Nat
/-- the situations to which a turn can lead, by rising orders, with the moves -/
def ords (n pa : Nat) (pos : Nat → Nat) : Nat → Nat → Nat → Nat → Nat → List (Nat × Nat)
  | 0, _, w, rc, mv => [(rc * 64 + wEnds w, mv)]
  | m + 1, k, w, rc, mv => (List.range n).flatMap (fun t => if (wFrom pa (pos k)).testBit t then ords n pa pos m (k + 1) (an w (wClosed (pos k) t)) (rc * 6 + t) (if t = pos k then mv else mv + 1) else [])
def arrs (A : Nat → Nat → FF → FF) (l : List (Nat × Nat)) (F : FF) : FF := l.foldl (fun F s => A s.1 s.2 F) F
theorem arrs_app (A : Nat → Nat → FF → FF) (a b : List (Nat × Nat)) (F : FF) : arrs A (a ++ b) F = arrs A b (arrs A a F) := by unfold arrs; rw [List.foldl_append]
theorem ords_ok {n pa : Nat} {pos : Nat → Nat} (hn : n ≤ 6) : ∀ m k w rc mv, rc < 6 ^ k → mv ≤ k → ∀ s ∈ ords n pa pos m k w rc mv, s.1 < 64 * 6 ^ (k + m) ∧ s.2 ≤ k + m := by
  intro m
  induction m with
  | zero =>
    intro k w rc mv hrc hmv s hs
    simp only [ords, List.mem_singleton] at hs
    subst hs
    have := wEnds_lt w
    refine ⟨?_, by simpa using hmv⟩
    show rc * 64 + wEnds w < 64 * 6 ^ (k + 0)
    rw [Nat.add_zero]; omega
  | succ m ih =>
    intro k w rc mv hrc hmv s hs
    simp only [ords, List.mem_flatMap, List.mem_range] at hs
    obtain ⟨t, ht, hs⟩ := hs
    split at hs
    · have := ih (k + 1) _ _ _ (show rc * 6 + t < 6 ^ (k + 1) by rw [Nat.pow_succ]; omega) (show (if t = pos k then mv else mv + 1) ≤ k + 1 by split <;> omega) s hs
      rw [show k + 1 + m = k + (m + 1) by omega] at this
      exact this
    · exact absurd hs List.not_mem_nil
section SR2
variable {d L q n K pa dA : Nat} {G : Nat → Nat → Nat} {h pos : Nat → Nat} {Inv : FF → Prop} {A : Nat → Nat → FF → FF}
/-- what arrive does, and what it keeps -/
def arOk (L q n K dA : Nat) (G : FF) (h pos : Nat → Nat) (Inv : FF → Prop) (A : Nat → Nat → FF → FF) : Prop :=
  (∀ F, Inv F → F q 0 = n ∧ F q 2 = K ∧ ∀ k, k < K → F (q + 1) k = pos k) ∧
  ∀ F s mv, Inv F → s < 64 * 6 ^ K → mv ≤ K → Inv (A s mv F) ∧ pq_Ca dA (arJ q) [.ref q, .int (nI s), .int (nI mv)] (pq_Sh L, pn F, pl G, pq_rt h) (fun r M' => r = none ∧ M' = (pq_Sh L, pn (A s mv F), pl (G), pq_rt h))
theorem arrs_inv (ha : arOk L q n K dA G h pos Inv A) : ∀ (l : List (Nat × Nat)) (F : FF), (∀ s ∈ l, s.1 < 64 * 6 ^ K ∧ s.2 ≤ K) → Inv F → Inv (arrs A l F) := by
  intro l
  induction l with
  | nil => intro F _ hF; exact hF
  | cons a l ih =>
    intro F hl hF
    have h1 := hl a List.mem_cons_self
    exact ih (A a.1 a.2 F) (fun s hs => hl s (List.mem_cons_of_mem _ hs)) (ha.2 F a.1 a.2 hF h1.1 h1.2).1
set_option maxHeartbeats 4000000 in
theorem s_give (hq : qOk q) (hn : n ≤ 6) (hK : K ≤ 3) (hpa : pa < 2 ^ 63) (hG : G q 1 = pa) (hpos : ∀ k, k < K → pos k < 6) (ha : arOk L q n K dA G h pos Inv A) :
    ∀ m k w rc mv (F : FF), k + m = K → Inv F → w < 2 ^ 63 → rc < 6 ^ k → mv ≤ k →
      pq_Ca (dA + m + 3) 35 [.ref q, .int (nI k), .long (lN w), .int (nI rc), .int (nI mv)] (pq_Sh L, pn F, pl G, pq_rt h) (fun r M' => r = none ∧ M' = (pq_Sh L, pn (arrs A (ords n pa pos m k w rc mv) F), pl (G), pq_rt h)) := by
  intro m
  induction m with
  | zero =>
    intro k w rc mv F hkm hF hw hrc hmv
    obtain ⟨f0, f2, f1⟩ := ha.1 F hF
    have hkK : k = K := by omega
    have hends := wEnds_lt w
    have hs : rc * 64 + wEnds w < 64 * 6 ^ K := by rw [← hkK]; omega
    have har := (ha.2 F (rc * 64 + wEnds w) mv hF hs (by omega)).2
    rcases hq with rfl | rfl | rfl
    all_goals
      refine Ca_mk rfl rfl ?_
      (repeat (first | refine E_st rfl ?_ | refine E_go rfl ?_))
      refine E_nif rfl (by rw [pn_at, f2, hkK]; exact nI_nlt (Nat.le_refl _) (by omega)) ?_
      (repeat (first | refine E_st rfl ?_ | refine E_go rfl ?_))
      refine E_cx rfl (by omega) (c_ends (d := 0) (Nat.lt_trans hw (by decide))) ?_
      (repeat (first | refine E_st rfl ?_ | refine E_go rfl ?_))
      rw [pk_mul, nI_add]
      refine E_cx rfl (by omega) har ?_
      exact E_rt rfl ⟨rfl, rfl⟩
  | succ m ih =>
    intro k w rc mv F hkm hF hw hrc hmv
    have hkK : k < K := by omega
    have hp := hpos k hkK
    generalize hf : (fun t => if (wFrom pa (pos k)).testBit t then ords n pa pos m (k + 1) (an w (wClosed (pos k) t)) (rc * 6 + t) (if t = pos k then mv else mv + 1) else []) = f
    have hordsE : ords n pa pos (m + 1) k w rc mv = (List.range n).flatMap f := by rw [← hf]; rfl
    have hfok : ∀ t, t < n → ∀ s ∈ f t, s.1 < 64 * 6 ^ K ∧ s.2 ≤ K := by
      intro t ht s hs
      have h1 := ords_ok (pa := pa) (pos := pos) hn (m + 1) k w rc mv hrc hmv s (by rw [hordsE]; exact List.mem_flatMap.mpr ⟨t, List.mem_range.mpr ht, hs⟩)
      rw [hkm] at h1
      exact h1
    have hFt : ∀ t, t ≤ n → Inv (arrs A ((List.range t).flatMap f) F) := by
      intro t ht
      refine arrs_inv ha _ _ (fun s hs => ?_) hF
      obtain ⟨t2, ht2, hs2⟩ := List.mem_flatMap.mp hs
      exact hfok t2 (by have := List.mem_range.mp ht2; omega) s hs2
    have loop : ∀ r t (z : Option Value), t + r = n → pq_Ev (dA + (m + 1) + 2) 35 52 [some (.ref q), some (.int (nI k)), some (.long (lN w)), none, some (.int (nI rc)), some (.int (nI mv)), some (.int (nI (pos k))), some (.int (nI (wFrom pa (pos k)))), some (.int (nI t)), z, none] [] (pq_Sh L, pn (arrs A ((List.range t).flatMap f) F), pl G, pq_rt h) (fun r M' => r = none ∧ M' = (pq_Sh L, pn (arrs A ((List.range n).flatMap f) F), pl (G), pq_rt h)) := by
      intro r
      induction r with
      | zero =>
        intro t z ht
        have ht : t = n := by omega
        subst ht
        obtain ⟨f0, f2, f1⟩ := ha.1 _ (hFt t (Nat.le_refl _))
        refine E_fo 9 ?_
        rcases hq with rfl | rfl | rfl
        all_goals
          (repeat (first | refine E_st rfl ?_ | refine E_go rfl ?_))
          refine E_nif rfl (by rw [pn_at, f0]; exact nI_nlt (Nat.le_refl _) (by omega)) ?_
          exact E_rt rfl ⟨rfl, rfl⟩
      | succ r ihr =>
        intro t z ht
        obtain ⟨f0, f2, f1⟩ := ha.1 _ (hFt t (by omega))
        have hrs : arrs A ((List.range (t + 1)).flatMap f) F = arrs A (f t) (arrs A ((List.range t).flatMap f) F) := by
          rw [List.range_succ, List.flatMap_append, arrs_app]; simp
        have hrow : wFrom pa (pos k) < 64 := Nat.and_lt_two_pow _ (by decide : 63 < 2 ^ 6)
        have hnext := ihr (t + 1)
        rw [hrs] at hnext
        refine E_fo 9 ?_
        by_cases hb : (wFrom pa (pos k)).testBit t = true
        · have hft : f t = ords n pa pos m (k + 1) (an w (wClosed (pos k) t)) (rc * 6 + t) (if t = pos k then mv else mv + 1) := by rw [← hf]; exact if_pos hb
          rw [hft] at hnext
          have hgo := ih (k + 1) (an w (wClosed (pos k) t)) (rc * 6 + t) (if t = pos k then mv else mv + 1) (arrs A ((List.range t).flatMap f) F) (by omega) (hFt t (by omega)) (Nat.lt_of_le_of_lt (an_le _ _) hw) (by rw [Nat.pow_succ]; omega) (by split <;> omega)
          rcases hq with rfl | rfl | rfl
          all_goals
            (repeat (first | refine E_st rfl ?_ | refine E_go rfl ?_))
            refine E_if rfl (by rw [pn_at, f0]; exact nI_lt (by omega) (by omega)) ?_
            (repeat (first | refine E_st rfl ?_ | refine E_go rfl ?_))
            refine E_cx rfl (by omega) (c_contains (d := 0) (Nat.lt_trans hrow (by decide)) (by omega)) ?_
            rw [if_pos hb]
            refine E_nif rfl (nI_ne0 (by decide) (by decide)) ?_
            (repeat (first | refine E_st rfl ?_ | refine E_go rfl ?_))
            refine E_cx rfl (by omega) (c_closed (d := 0) hp (by omega)) ?_
            (repeat (first | refine E_st rfl ?_ | refine E_go rfl ?_))
            rw [zl_not, pk_mul, nI_add, nI_add]
            by_cases hto : t = pos k
            · rw [if_pos hto] at hgo hnext
              refine E_if rfl (by rw [hto]) ?_
              (repeat (first | refine E_st rfl ?_ | refine E_go rfl ?_))
              refine E_cx rfl (by omega) hgo ?_
              (iterate 2 (first | refine E_st rfl ?_ | refine E_go rfl ?_))
              rw [nI_add]
              exact hnext _ (by omega)
            · rw [if_neg hto] at hgo hnext
              refine E_nif rfl (fun e => hto ((nI_eq (by omega) (by omega)).mp e)) ?_
              (repeat (first | refine E_st rfl ?_ | refine E_go rfl ?_))
              rw [nI_add]
              refine E_cx rfl (by omega) hgo ?_
              (iterate 2 (first | refine E_st rfl ?_ | refine E_go rfl ?_))
              rw [nI_add]
              exact hnext _ (by omega)
        · have hft : f t = [] := by rw [← hf]; exact if_neg hb
          rw [hft] at hnext
          rcases hq with rfl | rfl | rfl
          all_goals
            (repeat (first | refine E_st rfl ?_ | refine E_go rfl ?_))
            refine E_if rfl (by rw [pn_at, f0]; exact nI_lt (by omega) (by omega)) ?_
            (repeat (first | refine E_st rfl ?_ | refine E_go rfl ?_))
            refine E_cx rfl (by omega) (c_contains (d := 0) (Nat.lt_trans hrow (by decide)) (by omega)) ?_
            rw [if_neg hb]
            refine E_if rfl rfl ?_
            (iterate 2 (first | refine E_st rfl ?_ | refine E_go rfl ?_))
            rw [nI_add]
            exact hnext none (by omega)
    obtain ⟨f0, f2, f1⟩ := ha.1 F hF
    have h0 := loop n 0 none (Nat.zero_add n)
    rw [hordsE]
    rcases hq with rfl | rfl | rfl
    all_goals
      refine Ca_mk rfl rfl ?_
      (repeat (first | refine E_st rfl ?_ | refine E_go rfl ?_))
      refine E_if rfl (by rw [pn_at, f2]; exact nI_lt hkK (by omega)) ?_
      (repeat (first | refine E_st rfl ?_ | refine E_go rfl ?_))
      refine E_if rfl (nI_lt (by omega) (by decide)) ?_
      (repeat (first | refine E_st rfl ?_ | refine E_go rfl ?_))
      refine E_ial rfl rfl (n := 3) (by omega) (by decide) ?_
      rw [f1 k hkK]
      (repeat (first | refine E_st rfl ?_ | refine E_go rfl ?_))
      rw [pl_at, hG]
      refine E_cx rfl (by omega) (c_from (d := 0) (Nat.lt_trans hpa (by decide)) hp) ?_
      (iterate 3 (first | refine E_st rfl ?_ | refine E_go rfl ?_))
      exact h0
/-- expand: the searchers are placed, then every order is given -/
theorem s_expand (hq : qOk q) {F : FF} (hn : n ≤ 6) (hK : K ≤ 3) (hpa : pa < 2 ^ 63) (hG : G q 1 = pa) (hpos : ∀ k, k < K → pos k < 6) (ha : arOk L q n K dA G h pos Inv A) {sit : Nat} (hs : sit < 2 ^ 31) (h2 : F q 2 = K) (hI : Inv (plF F (q + 1) K (sit / 64))) :
    pq_Ca (dA + K + 5) 33 [.ref q, .int (nI sit)] (pq_Sh L, pn F, pl G, pq_rt h) (fun r M' => r = none ∧ M' = (pq_Sh L, pn (arrs A (ords n pa pos K 0 (wOnly pa (sit % 64)) 0 0) (plF F (q + 1) K (sit / 64))), pl (G), pq_rt h)) := by
  have hpl := s_place (d := 0) (L := L) (G := G) (h := h) (F := F) hq (by rw [h2]; exact hK) hs
  rw [h2] at hpl
  have hgo := s_give hq hn hK hpa hG hpos ha K 0 (wOnly pa (sit % 64)) 0 0 _ (Nat.zero_add K) hI (Nat.lt_of_le_of_lt Nat.and_le_left hpa) (by decide) (Nat.le_refl _)
  rcases hq with rfl | rfl | rfl
  all_goals
    refine Ca_mk rfl rfl ?_
    (repeat (first | refine E_st rfl ?_ | refine E_go rfl ?_))
    refine E_cx rfl (by omega) hpl ?_
    (repeat (first | refine E_st rfl ?_ | refine E_go rfl ?_))
    rw [pk_rem hs (by decide) (by decide), pl_at, hG]
    refine E_cx rfl (by omega) (c_only (d := 0) (by omega)) ?_
    (repeat (first | refine E_st rfl ?_ | refine E_go rfl ?_))
    refine E_cx rfl (by omega) hgo ?_
    exact E_rt rfl ⟨rfl, rfl⟩
end SR2
end
section
/-! TurnSearch: q = 52 (plan) or 56 (bestStart) -/
def tOk (q : Nat) : Prop := q = 52 ∨ q = 56
theorem tOk.q {q : Nat} (h : tOk q) : qOk q := h.elim Or.inl (fun e => Or.inr (Or.inl e))
def enF (F : FF) (q s b : Nat) : FF :=
  if F q 8 = N1 ∧ F (q + 2) s = N1 ∧ F q 6 < 13824 then
    (if s % 64 = 0 then pq_u (pq_u (pq_u (pq_u F (q + 2) s b) (q + 3) (F q 6) s) q 6 (F q 6 + 1)) q 8 s
     else pq_u (pq_u (pq_u F (q + 2) s b) (q + 3) (F q 6) s) q 6 (F q 6 + 1))
  else F
/-- bounds that a TurnSearch keeps -/
def tInv (q n K : Nat) (F : FF) : Prop := F q 0 = n ∧ F q 2 = K ∧ F q 8 < 2 ^ 32 ∧ F q 6 ≤ 13824 ∧ (∀ s, s < 13824 → F (q + 2) s < 2 ^ 32) ∧ (∀ i, i < F q 6 → F (q + 3) i < 64 * 6 ^ K)
section TRN
variable {d L q n K pa : Nat} {F G : Nat → Nat → Nat} {h : Nat → Nat}
theorem K_le (hK : K ≤ 3) : 64 * 6 ^ K ≤ 13824 := by
  have : 6 ^ K ≤ 6 ^ 3 := Nat.pow_le_pow_right (by decide) hK
  omega
theorem en_inv {s b : Nat} (hK : K ≤ 3) (hI : tInv q n K F) (hs : s < 64 * 6 ^ K) (hb : b < 2 ^ 32) : tInv q n K (enF F q s b) := by
  have hk := K_le hK
  obtain ⟨i0, i1, i2, i3, i4, i5⟩ := id hI
  unfold enF
  split
  · rename_i hc
    have key : ∀ e, e < 2 ^ 32 → tInv q n K (pq_u (pq_u (pq_u (pq_u F (q + 2) s b) (q + 3) (F q 6) s) q 6 (F q 6 + 1)) q 8 e) := by
      intro e he
      refine ⟨?_, ?_, ?_, ?_, fun s2 hs2 => ?_, fun i hi => ?_⟩
      · simp only [pu_at]; repeat rw [if_neg (by omega)]
        exact i0
      · simp only [pu_at]; repeat rw [if_neg (by omega)]
        exact i1
      · rw [pu_at, if_pos ⟨rfl, rfl⟩]; exact he
      · rw [pu_at, if_neg (by omega), pu_at, if_pos ⟨rfl, rfl⟩]; omega
      · simp only [pu_at]; rw [if_neg (by omega), if_neg (by omega), if_neg (by omega)]
        split
        · exact hb
        · exact i4 s2 hs2
      · rw [pu_at, if_neg (by omega), pu_at, if_pos ⟨rfl, rfl⟩] at hi
        rw [pu_at, if_neg (by omega), pu_at, if_neg (by omega), pu_at]
        by_cases hne : i = F q 6
        · rw [if_pos ⟨rfl, hne⟩]; exact hs
        · rw [if_neg (fun z => hne z.2), pu_at, if_neg (by omega)]
          exact i5 i (by omega)
    split
    · exact key s (by omega)
    · have h2 := key (F q 8) i2
      have e : pq_u (pq_u (pq_u (pq_u F (q + 2) s b) (q + 3) (F q 6) s) q 6 (F q 6 + 1)) q 8 (F q 8) = pq_u (pq_u (pq_u F (q + 2) s b) (q + 3) (F q 6) s) q 6 (F q 6 + 1) := by
        funext p j
        simp only [pu_at]
        by_cases hp : p = q ∧ j = 8
        · obtain ⟨rfl, rfl⟩ := hp
          rw [if_pos ⟨rfl, rfl⟩, if_neg (by omega), if_neg (by omega), if_neg (by omega)]
        · rw [if_neg hp]
      rw [e] at h2
      exact h2
  · exact hI
set_option maxHeartbeats 1000000 in
theorem t_enter (hq : tOk q) {s b : Nat} (hs : s < 13824) (h8 : F q 8 < 2 ^ 32) (hc : F (q + 2) s < 2 ^ 32) (h6 : F q 6 ≤ 13824) : pq_Ca (d + 1) 38 [.ref q, .int (nI s), .int (nI b)] (pq_Sh L, pn F, pl G, pq_rt h) (fun r M' => r = none ∧ M' = (pq_Sh L, pn (enF F q s b), pl (G), pq_rt h)) := by
  by_cases c1 : F q 8 = N1
  case neg =>
    have e : enF F q s b = F := if_neg (fun z => c1 z.1)
    rw [e]
    rcases hq with rfl | rfl
    all_goals
      refine Ca_mk rfl rfl ?_
      (repeat (first | refine E_st rfl ?_ | refine E_go rfl ?_))
      refine E_nif rfl (fun z => c1 ((zi_eq h8 (by decide)).mp (by rw [← zm1]; exact z))) ?_
      exact E_rt rfl ⟨rfl, rfl⟩
  by_cases c2 : F (q + 2) s = N1
  case neg =>
    have e : enF F q s b = F := if_neg (fun z => c2 z.2.1)
    rw [e]
    rcases hq with rfl | rfl
    all_goals
      refine Ca_mk rfl rfl ?_
      (repeat (first | refine E_st rfl ?_ | refine E_go rfl ?_))
      refine E_if rfl (by rw [pn_at, c1, zm1]) ?_
      (repeat (first | refine E_st rfl ?_ | refine E_go rfl ?_))
      refine E_ial rfl rfl (n := 13824) hs (by decide) ?_
      (repeat (first | refine E_st rfl ?_ | refine E_go rfl ?_))
      refine E_nif rfl (fun z => c2 ((zi_eq hc (by decide)).mp (by rw [← zm1]; exact z))) ?_
      exact E_rt rfl ⟨rfl, rfl⟩
  by_cases c3 : F q 6 < 13824
  case neg =>
    have e : enF F q s b = F := if_neg (fun z => c3 z.2.2)
    rw [e]
    rcases hq with rfl | rfl
    all_goals
      refine Ca_mk rfl rfl ?_
      (repeat (first | refine E_st rfl ?_ | refine E_go rfl ?_))
      refine E_if rfl (by rw [pn_at, c1, zm1]) ?_
      (repeat (first | refine E_st rfl ?_ | refine E_go rfl ?_))
      refine E_ial rfl rfl (n := 13824) hs (by decide) ?_
      (repeat (first | refine E_st rfl ?_ | refine E_go rfl ?_))
      refine E_if rfl (by rw [show (-1 : Int32) = nI N1 from zm1]; exact congrArg nI c2) ?_
      (repeat (first | refine E_st rfl ?_ | refine E_go rfl ?_))
      refine E_nif rfl (by rw [pn_at]; exact nI_nlt (by omega) (by omega)) ?_
      exact E_rt rfl ⟨rfl, rfl⟩
  have e : enF F q s b = (if s % 64 = 0 then pq_u (pq_u (pq_u (pq_u F (q + 2) s b) (q + 3) (F q 6) s) q 6 (F q 6 + 1)) q 8 s else pq_u (pq_u (pq_u F (q + 2) s b) (q + 3) (F q 6) s) q 6 (F q 6 + 1)) := if_pos ⟨c1, c2, c3⟩
  rw [e]
  rcases hq with rfl | rfl
  all_goals
    refine Ca_mk rfl rfl ?_
    (repeat (first | refine E_st rfl ?_ | refine E_go rfl ?_))
    refine E_if rfl (by rw [pn_at, c1, zm1]) ?_
    (repeat (first | refine E_st rfl ?_ | refine E_go rfl ?_))
    refine E_ial rfl rfl (n := 13824) hs (by decide) ?_
    (repeat (first | refine E_st rfl ?_ | refine E_go rfl ?_))
    refine E_if rfl (by rw [show (-1 : Int32) = nI N1 from zm1]; exact congrArg nI c2) ?_
    (repeat (first | refine E_st rfl ?_ | refine E_go rfl ?_))
    refine E_if rfl (by rw [pn_at]; exact nI_lt c3 (by decide)) ?_
    (repeat (first | refine E_st rfl ?_ | refine E_go rfl ?_))
    refine E_ias rfl rfl (n := 13824) hs (by decide) (by decide) ?_
    (repeat (first | refine E_st rfl ?_ | refine E_go rfl ?_))
    refine E_ias rfl rfl (n := 13824) c3 (by decide) (by decide) ?_
    (repeat (first | refine E_st rfl ?_ | refine E_go rfl ?_))
    rw [pk_rem (by omega) (by decide) (by decide)]
    simp +decide only [pn_at, pl_at, pu_n, pu_l, pc_n, pc_l, pu_at, nI_add, if_true, if_false, and_true, true_and, and_false, false_and, and_self]
    by_cases c4 : s % 64 = 0
    · refine E_if rfl (by rw [c4]; rfl) ?_
      (repeat (first | refine E_st rfl ?_ | refine E_go rfl ?_))
      simp only [pu_n, pu_l, pc_n, pc_l]
      refine E_rt rfl ⟨rfl, ?_⟩
      rw [if_pos c4]
    · refine E_nif rfl (nI_ne0 (by omega) (by omega)) ?_
      refine E_rt rfl ⟨rfl, ?_⟩
      rw [if_neg c4]
theorem t_forget (hq : tOk q) (hK : F q 2 ≤ 3) : pq_Ca (d + 3) 37 [.ref q] (pq_Sh L, pn F, pl G, pq_rt h) (fun r M' => r = none ∧ M' = (pq_Sh L, pn (pq_u (pq_u (clF F (q + 2) (64 * 6 ^ F q 2)) q 6 0) q 8 N1), pl (G), pq_rt h)) := by
  have h1 := s_clear (d := 0) (L := L) (F := F) (G := G) (h := h) hq.q hK
  rcases hq with rfl | rfl
  all_goals
    refine Ca_mk rfl rfl ?_
    (repeat (first | refine E_st rfl ?_ | refine E_go rfl ?_))
    refine E_cx rfl (by omega) h1 ?_
    (repeat (first | refine E_st rfl ?_ | refine E_go rfl ?_))
    rw [zm1]
    simp only [pu_n, pu_l, pc_n, pc_l]
    exact E_rt rfl ⟨rfl, rfl⟩
def tA (q : Nat) : Nat → Nat → FF → FF := fun s _ F => enF F q s (F q 7)
theorem t_arrive (hq : tOk q) {s mv : Nat} (hs : s < 13824) (h8 : F q 8 < 2 ^ 32) (hc : F (q + 2) s < 2 ^ 32) (h6 : F q 6 ≤ 13824) : pq_Ca (d + 2) 40 [.ref q, .int (nI s), .int (nI mv)] (pq_Sh L, pn F, pl G, pq_rt h) (fun r M' => r = none ∧ M' = (pq_Sh L, pn (tA q s mv F), pl (G), pq_rt h)) := by
  have h1 := t_enter (d := d) (L := L) (F := F) (G := G) (h := h) (s := s) (b := F q 7) hq hs h8 hc h6
  rcases hq with rfl | rfl
  all_goals
    refine Ca_mk rfl rfl ?_
    (repeat (first | refine E_st rfl ?_ | refine E_go rfl ?_))
    refine E_cx rfl (Nat.le_refl _) h1 ?_
    exact E_rt rfl ⟨rfl, rfl⟩
theorem en_off {s b p j : Nat} (hp : ¬ (p = q ∧ (j = 6 ∨ j = 8))) (h2 : ¬ p = q + 2) (h3 : ¬ p = q + 3) : enF F q s b p j = F p j := by
  unfold enF
  split
  · split
    · simp only [pu_at]; repeat rw [if_neg (by omega)]
    · simp only [pu_at]; repeat rw [if_neg (by omega)]
  · rfl
/-- arrive, for the search from a situation whose searchers stand at pos -/
theorem t_arOk (hq : tOk q) (hK : K ≤ 3) {pos : Nat → Nat} {hr : Nat} (hh : hr < 2 ^ 32) : arOk L q n K (d + 2) G h pos (fun F => tInv q n K F ∧ F q 7 = hr ∧ ∀ k, k < K → F (q + 1) k = pos k) (tA q) := by
  have hk := K_le hK
  refine ⟨fun F hF => ⟨hF.1.1, hF.1.2.1, hF.2.2⟩, fun F s mv hF hs hmv => ?_⟩
  obtain ⟨hI, h7, hp⟩ := hF
  refine ⟨⟨en_inv hK hI hs (by rw [h7]; exact hh), ?_, fun k hk2 => ?_⟩, ?_⟩
  · show enF F q s (F q 7) q 7 = hr
    rw [en_off (by omega) (by omega) (by omega)]; exact h7
  · show enF F q s (F q 7) (q + 1) k = pos k
    rw [en_off (by omega) (by omega) (by omega)]; exact hp k hk2
  · have h1 := t_arrive (d := d) (L := L) (F := F) (G := G) (h := h) (s := s) (mv := mv) hq (by omega) hI.2.2.1 (hI.2.2.2.2.1 s (by omega)) hI.2.2.2.1
    rcases hq with rfl | rfl
    all_goals exact h1
def sitPos (K sit k : Nat) : Nat := sit / 64 / 6 ^ (K - 1 - k) % 6
def seStep (q n pa K : Nat) (F : FF) (sit : Nat) : FF := arrs (tA q) (ords n pa (sitPos K sit) K 0 (wOnly pa (sit % 64)) 0 0) (plF (pq_u F q 7 sit) (q + 1) K (sit / 64))
def seF (q n pa K : Nat) : Nat → Nat → FF → FF
  | 0, _, F => F
  | m + 1, i, F => if i < F q 6 ∧ i < 13824 ∧ F q 8 = N1 then seF q n pa K m (i + 1) (seStep q n pa K F (F (q + 3) i)) else F
theorem pl_inv (hq : tOk q) (hK : K ≤ 3) (hI : tInv q n K F) (sit : Nat) : tInv q n K (plF (pq_u F q 7 sit) (q + 1) K (sit / 64)) ∧ plF (pq_u F q 7 sit) (q + 1) K (sit / 64) q 7 = sit ∧ ∀ k, k < K → plF (pq_u F q 7 sit) (q + 1) K (sit / 64) (q + 1) k = sitPos K sit k := by
  have off : ∀ p j, ¬ p = q + 1 → plF (pq_u F q 7 sit) (q + 1) K (sit / 64) p j = pq_u F q 7 sit p j := fun p j hp => plF_off _ _ _ _ _ (fun z => hp z.1)
  obtain ⟨i0, i1, i2, i3, i4, i5⟩ := hI
  refine ⟨⟨?_, ?_, ?_, ?_, fun s hs => ?_, fun i hi => ?_⟩, ?_, fun k hk => ?_⟩
  · rw [off _ _ (by omega), pu_at, if_neg (by omega)]; exact i0
  · rw [off _ _ (by omega), pu_at, if_neg (by omega)]; exact i1
  · rw [off _ _ (by omega), pu_at, if_neg (by omega)]; exact i2
  · rw [off _ _ (by omega), pu_at, if_neg (by omega)]; exact i3
  · rw [off _ _ (by omega), pu_at, if_neg (by omega)]; exact i4 s hs
  · rw [off _ _ (by omega), pu_at, if_neg (by omega)] at hi
    rw [off _ _ (by omega), pu_at, if_neg (by omega)]; exact i5 i hi
  · rw [off _ _ (by omega), pu_at, if_pos ⟨rfl, rfl⟩]
  · exact plF_in _ _ _ _ hk
theorem se_inv (hq : tOk q) (hn : n ≤ 6) (hK : K ≤ 3) (hI : tInv q n K F) {sit : Nat} (hs : sit < 2 ^ 32) : tInv q n K (seStep q n pa K F sit) := by
  have h1 := pl_inv hq hK hI sit
  refine (arrs_inv (t_arOk (d := 0) (L := 0) (G := F) (h := fun k => k) hq hK hs) _ _ (fun s hs => ?_) h1).1
  have := ords_ok hn K 0 _ 0 0 (by decide) (Nat.le_refl _) s hs
  simpa using this
set_option maxHeartbeats 1000000 in
theorem l_search (hq : tOk q) (hn : n ≤ 6) (hK : K ≤ 3) (hpa : pa < 2 ^ 63) (hG : G q 1 = pa) : ∀ m i (F : FF), 13825 ≤ i + m → i ≤ 13825 → tInv q n K F → pq_Ev (d + K + 7) 39 2 [some (.ref q), some (.int (nI i))] [] (pq_Sh L, pn F, pl G, pq_rt h) (fun r M' => r = none ∧ M' = (pq_Sh L, pn (seF q n pa K m i F), pl (G), pq_rt h)) := by
  have hk := K_le hK
  intro m
  induction m with
  | zero =>
    intro i F hi hi2 hI
    obtain ⟨i0, i1, i2, i3, i4, i5⟩ := hI
    rcases hq with rfl | rfl
    all_goals
      (repeat (first | refine E_st rfl ?_ | refine E_go rfl ?_))
      refine E_nif rfl (by rw [pn_at]; exact nI_nlt (by omega) (by omega)) ?_
      exact E_rt rfl ⟨rfl, rfl⟩
  | succ m ih =>
    intro i F hi hi2 hI
    have hI2 := hI
    obtain ⟨i0, i1, i2, i3, i4, i5⟩ := hI
    by_cases c1 : i < F q 6
    case neg =>
      have e : seF q n pa K (m + 1) i F = F := by simp only [seF]; rw [if_neg (fun z => c1 z.1)]
      rw [e]
      rcases hq with rfl | rfl
      all_goals
        (repeat (first | refine E_st rfl ?_ | refine E_go rfl ?_))
        refine E_nif rfl (by rw [pn_at]; exact nI_nlt (by omega) (by omega)) ?_
        exact E_rt rfl ⟨rfl, rfl⟩
    have c2 : i < 13824 := by omega
    by_cases c3 : F q 8 = N1
    case neg =>
      have e : seF q n pa K (m + 1) i F = F := by simp only [seF]; rw [if_neg (fun z => c3 z.2.2)]
      rw [e]
      rcases hq with rfl | rfl
      all_goals
        (repeat (first | refine E_st rfl ?_ | refine E_go rfl ?_))
        refine E_if rfl (by rw [pn_at]; exact nI_lt c1 (by omega)) ?_
        (repeat (first | refine E_st rfl ?_ | refine E_go rfl ?_))
        refine E_if rfl (nI_lt c2 (by decide)) ?_
        (repeat (first | refine E_st rfl ?_ | refine E_go rfl ?_))
        refine E_nif rfl (fun z => c3 ((zi_eq i2 (by decide)).mp (by rw [← zm1]; exact z))) ?_
        exact E_rt rfl ⟨rfl, rfl⟩
    have e : seF q n pa K (m + 1) i F = seF q n pa K m (i + 1) (seStep q n pa K F (F (q + 3) i)) := by simp only [seF]; rw [if_pos ⟨c1, c2, c3⟩]
    rw [e]
    have hsit := i5 i c1
    have hpl := pl_inv hq hK hI2 (F (q + 3) i)
    have hex := s_expand (F := pq_u F q 7 (F (q + 3) i)) hq.q hn hK hpa hG (pos := sitPos K (F (q + 3) i)) (fun k _ => Nat.mod_lt _ (by decide)) (t_arOk (d := d) (L := L) (h := h) hq hK (hr := F (q + 3) i) (by omega)) (sit := F (q + 3) i) (by omega) (by rw [pu_at, if_neg (by omega)]; exact i1) hpl
    have hnext := ih (i + 1) _ (by omega) (by omega) (se_inv (pa := pa) hq hn hK hI2 (sit := F (q + 3) i) (by omega))
    rcases hq with rfl | rfl
    all_goals
      (repeat (first | refine E_st rfl ?_ | refine E_go rfl ?_))
      refine E_if rfl (by rw [pn_at]; exact nI_lt c1 (by omega)) ?_
      (repeat (first | refine E_st rfl ?_ | refine E_go rfl ?_))
      refine E_if rfl (nI_lt c2 (by decide)) ?_
      (repeat (first | refine E_st rfl ?_ | refine E_go rfl ?_))
      refine E_if rfl (by rw [pn_at, c3, zm1]) ?_
      (repeat (first | refine E_st rfl ?_ | refine E_go rfl ?_))
      refine E_ial rfl rfl (n := 13824) c2 (by decide) ?_
      (repeat (first | refine E_st rfl ?_ | refine E_go rfl ?_))
      simp +decide only [pn_at, pl_at, pu_n, pu_l, pc_n, pc_l, pu_at, nI_add, if_true, if_false, and_true, true_and, and_false, false_and, and_self]
      refine E_cx rfl (by omega) hex ?_
      (iterate 2 (first | refine E_st rfl ?_ | refine E_go rfl ?_))
      rw [nI_add]
      exact hnext
end TRN
end
section
theorem zne1 {x : Nat} (h : x < 13824) : ¬ nI x = (-1 : Int32) := fun z => absurd ((zi_eq (Nat.lt_trans h (by decide)) (by decide)).mp (z.trans zm1)) (by show ¬ x = 4294967295; omega)
theorem zne2 {x : Nat} (h : x < 13824) : ¬ nI x = (-2 : Int32) := fun z => absurd ((zi_eq (Nat.lt_trans h (by decide)) (by decide)).mp (z.trans zm2)) (by show ¬ x = 4294967294; omega)
def tCh (F : FF) (q : Nat) : Nat → Nat → Prop
  | 0, s => s < 13824 ∧ F (q + 2) s = N2
  | k + 1, s => s < 13824 ∧ F (q + 2) s < 13824 ∧ tCh F q k (F (q + 2) s)
def tUp (F : FF) (q : Nat) : Nat → Nat → Nat
  | 0, s => s
  | k + 1, s => tUp F q k (F (q + 2) s)
theorem tCh_lt {F : FF} {q k s : Nat} (h : tCh F q k s) : s < 13824 := by cases k <;> exact h.1
theorem tCh_up {F : FF} {q : Nat} : ∀ (j k s : Nat), tCh F q (j + k) s → tCh F q k (tUp F q j s) := by
  intro j
  induction j with
  | zero => intro k s h; rw [Nat.zero_add] at h; exact h
  | succ j ih =>
    intro k s h
    rw [show j + 1 + k = (j + k) + 1 by omega] at h
    exact ih k _ h.2.2
section TRM
variable {d L q n K pa : Nat} {F G : Nat → Nat → Nat} {h : Nat → Nat}
theorem l_turns (hq : tOk q) : ∀ m t s, t + m ≤ 13824 → tCh F q m s → pq_Ev d 41 18 [some (.ref q), some (.int (nI t)), some (.int (nI s))] [] (pq_Sh L, pn F, pl G, pq_rt h) (fun r M' => r = some (.int (nI (t + m))) ∧ M' = (pq_Sh L, pn (F), pl (G), pq_rt h)) := by
  intro m
  induction m with
  | zero =>
    intro t s ht hc
    obtain ⟨c1, c2⟩ := hc
    by_cases h1 : t < 13824
    · rcases hq with rfl | rfl
      all_goals
        (repeat (first | refine E_st rfl ?_ | refine E_go rfl ?_))
        refine E_if rfl (nI_lt h1 (by decide)) ?_
        (repeat (first | refine E_st rfl ?_ | refine E_go rfl ?_))
        refine E_ial rfl rfl (n := 13824) c1 (by decide) ?_
        (repeat (first | refine E_st rfl ?_ | refine E_go rfl ?_))
        refine E_if rfl (by rw [show (-2 : Int32) = nI N2 from zm2]; exact congrArg nI c2) ?_
        (repeat (first | refine E_st rfl ?_ | refine E_go rfl ?_))
        exact E_rt rfl ⟨rfl, rfl⟩
    · (repeat (first | refine E_st rfl ?_ | refine E_go rfl ?_))
      refine E_nif rfl (nI_nlt (by omega) (by omega)) ?_
      (repeat (first | refine E_st rfl ?_ | refine E_go rfl ?_))
      exact E_rt rfl ⟨rfl, rfl⟩
  | succ m ih =>
    intro t s ht hc
    obtain ⟨c1, c2, c3⟩ := hc
    have hnext := ih (t + 1) _ (by omega) c3
    rw [show t + (m + 1) = t + 1 + m by omega]
    rcases hq with rfl | rfl
    all_goals
      (repeat (first | refine E_st rfl ?_ | refine E_go rfl ?_))
      refine E_if rfl (nI_lt (by omega) (by decide)) ?_
      (repeat (first | refine E_st rfl ?_ | refine E_go rfl ?_))
      refine E_ial rfl rfl (n := 13824) c1 (by decide) ?_
      (repeat (first | refine E_st rfl ?_ | refine E_go rfl ?_))
      refine E_nif rfl (zne2 c2) ?_
      (repeat (first | refine E_st rfl ?_ | refine E_go rfl ?_))
      refine E_ial rfl rfl (n := 13824) c1 (by decide) ?_
      (iterate 3 (first | refine E_st rfl ?_ | refine E_go rfl ?_))
      rw [nI_add]
      exact hnext
theorem t_turns (hq : tOk q) {k : Nat} (hk : k ≤ 13824) (hc : tCh F q k (F q 8)) : pq_Ca (d + 1) 41 [.ref q] (pq_Sh L, pn F, pl G, pq_rt h) (fun r M' => r = some (.int (nI k)) ∧ M' = (pq_Sh L, pn (F), pl (G), pq_rt h)) := by
  have h1 := l_turns (d := d) (L := L) (G := G) (h := h) hq k 0 (F q 8) (by omega) hc
  have h2 := tCh_lt hc
  rw [Nat.zero_add] at h1
  rcases hq with rfl | rfl
  all_goals
    refine Ca_mk rfl rfl ?_
    (repeat (first | refine E_st rfl ?_ | refine E_go rfl ?_))
    refine E_nif rfl (zne1 h2) ?_
    (iterate 5 (first | refine E_st rfl ?_ | refine E_go rfl ?_))
    exact h1
theorem t_turns0 (hq : tOk q) (he : F q 8 = N1) : pq_Ca (d + 1) 41 [.ref q] (pq_Sh L, pn F, pl G, pq_rt h) (fun r M' => r = some (.int (-4)) ∧ M' = (pq_Sh L, pn (F), pl (G), pq_rt h)) := by
  rcases hq with rfl | rfl
  all_goals
    refine Ca_mk rfl rfl ?_
    (repeat (first | refine E_st rfl ?_ | refine E_go rfl ?_))
    refine E_if rfl (by rw [pn_at, he, zm1]) ?_
    (repeat (first | refine E_st rfl ?_ | refine E_go rfl ?_))
    exact E_rt rfl ⟨rfl, rfl⟩
theorem l_nodeAfter (hq : tOk q) (hK : F q 2 = K) (hK3 : K ≤ 3) {sr : Nat} (hs : sr < K) {z : Value} : ∀ m s, tCh F q m s ∨ m = 0 → m ≤ 13824 → (∀ j, j ≤ m → tUp F q j s < 13824) → pq_Ev (d + 1) 42 13 [some (.ref q), some z, some (.int (nI sr)), some (.int (nI s)), some (.int (nI m))] [] (pq_Sh L, pn F, pl G, pq_rt h) (fun r M' => r = some (.int (nI (sitPos K (tUp F q m s) sr))) ∧ M' = (pq_Sh L, pn (plF F (q + 1) K (tUp F q m s / 64)), pl (G), pq_rt h)) := by
  intro m
  induction m with
  | zero =>
    intro s _ _ hb
    have hs2 : s < 13824 := hb 0 (Nat.le_refl _)
    have hpl := s_place (d := d) (L := L) (G := G) (h := h) (F := F) hq.q (by rw [hK]; exact hK3) (show s < 2 ^ 31 by omega)
    rw [hK] at hpl
    have hval : plF F (q + 1) K (s / 64) (q + 1) sr = sitPos K s sr := plF_in _ _ _ _ hs
    rcases hq with rfl | rfl
    all_goals
      (repeat (first | refine E_st rfl ?_ | refine E_go rfl ?_))
      refine E_nif rfl (by decide) ?_
      (repeat (first | refine E_st rfl ?_ | refine E_go rfl ?_))
      refine E_cx rfl (Nat.le_refl _) hpl ?_
      (repeat (first | refine E_st rfl ?_ | refine E_go rfl ?_))
      refine E_ial rfl rfl (n := 3) (by omega) (by decide) ?_
      refine E_rt rfl ⟨?_, rfl⟩
      rw [hval]; rfl
  | succ m ih =>
    intro s hc hm hb
    obtain ⟨c1, c2, c3⟩ := hc.resolve_right (by omega)
    have hnext := ih _ (Or.inl c3) (by omega) (fun j hj => hb (j + 1) (by omega))
    rcases hq with rfl | rfl
    all_goals
      (repeat (first | refine E_st rfl ?_ | refine E_go rfl ?_))
      refine E_if rfl (show nI 0 < nI (m + 1) from nI_lt (by omega) (by omega)) ?_
      (repeat (first | refine E_st rfl ?_ | refine E_go rfl ?_))
      refine E_ial rfl rfl (n := 13824) c1 (by decide) ?_
      (iterate 3 (first | refine E_st rfl ?_ | refine E_go rfl ?_))
      rw [pk_m1]
      exact hnext
theorem tUp_lt : ∀ (j k s : Nat), tCh F q (j + k) s → tUp F q j s < 13824 := fun j k s hc => tCh_lt (tCh_up j k s hc)
theorem tCh_le : ∀ (j k s : Nat), tCh F q (j + k) s → tCh F q j s ∨ ∀ i, i ≤ j → tUp F q i s < 13824 := fun j k s hc => Or.inr (fun i hi => tUp_lt i (j - i + k) s (by rw [show i + (j - i + k) = j + k by omega]; exact hc))
/-- the chain is followed down to tn turns -/
theorem l_nodeAfter2 (hq : tOk q) (hK : F q 2 = K) (hK3 : K ≤ 3) {sr : Nat} (hs : sr < K) {z : Value} : ∀ m r s, tCh F q (m + r) s → m ≤ 13824 → pq_Ev (d + 1) 42 13 [some (.ref q), some z, some (.int (nI sr)), some (.int (nI s)), some (.int (nI m))] [] (pq_Sh L, pn F, pl G, pq_rt h) (fun r M' => r = some (.int (nI (sitPos K (tUp F q m s) sr))) ∧ M' = (pq_Sh L, pn (plF F (q + 1) K (tUp F q m s / 64)), pl (G), pq_rt h)) := by
  intro m
  induction m with
  | zero =>
    intro r s hc _
    have hs2 : s < 13824 := tCh_lt hc
    exact l_nodeAfter hq hK hK3 hs 0 s (Or.inr rfl) (Nat.zero_le _) (fun j hj => by rw [show j = 0 by omega]; exact hs2)
  | succ m ih =>
    intro r s hc hm
    rw [show m + 1 + r = (m + r) + 1 by omega] at hc
    obtain ⟨c1, c2, c3⟩ := hc
    have hnext := ih r _ c3 (by omega)
    rcases hq with rfl | rfl
    all_goals
      (repeat (first | refine E_st rfl ?_ | refine E_go rfl ?_))
      refine E_if rfl (show nI 0 < nI (m + 1) from nI_lt (by omega) (by omega)) ?_
      (repeat (first | refine E_st rfl ?_ | refine E_go rfl ?_))
      refine E_ial rfl rfl (n := 13824) c1 (by decide) ?_
      (iterate 3 (first | refine E_st rfl ?_ | refine E_go rfl ?_))
      rw [pk_m1]
      exact hnext
theorem t_nodeAfter (hq : tOk q) (hK : F q 2 = K) (hK3 : K ≤ 3) {k tn sr : Nat} (hs : sr < K) (hk : k ≤ 13824) (htn : tn ≤ k) (hc : tCh F q k (F q 8)) : pq_Ca (d + 2) 42 [.ref q, .int (nI tn), .int (nI sr)] (pq_Sh L, pn F, pl G, pq_rt h) (fun r M' => r = some (.int (nI (sitPos K (tUp F q (k - tn) (F q 8)) sr))) ∧ M' = (pq_Sh L, pn (plF F (q + 1) K (tUp F q (k - tn) (F q 8) / 64)), pl (G), pq_rt h)) := by
  have h1 := t_turns (d := d) (L := L) (G := G) (h := h) hq hk hc
  have h2 := l_nodeAfter2 (d := d) (L := L) (G := G) (h := h) hq hK hK3 hs (z := .int (nI tn)) (k - tn) tn (F q 8) (by rw [show k - tn + tn = k by omega]; exact hc) (by omega)
  rcases hq with rfl | rfl
  all_goals
    refine Ca_mk rfl rfl ?_
    (repeat (first | refine E_st rfl ?_ | refine E_go rfl ?_))
    refine E_cx rfl (Nat.le_refl _) h1 ?_
    (iterate 3 (first | refine E_st rfl ?_ | refine E_go rfl ?_))
    rw [pk_sub htn]
    exact h2
def frF (F : FF) (q n : Nat) : Nat → Nat
  | 0 => 1 <<< n - 1
  | k + 1 => an (frF F q n k) (1 <<< F (q + 1) k)
theorem frF_lt (hn : n ≤ 6) : ∀ k, frF F q n k < 64 := by
  intro k
  induction k with
  | zero =>
    show 1 <<< n - 1 < 64
    rw [Nat.one_shiftLeft]
    have : 2 ^ n ≤ 2 ^ 6 := Nat.pow_le_pow_right (by decide) hn
    omega
  | succ k ih => exact Nat.lt_of_le_of_lt (an_le _ _) ih
def esF (F : FF) (q n K places : Nat) : FF := if ∀ k, k < K → F (q + 1) k < n then enF F q (places + frF F q n K) N2 else F
set_option maxHeartbeats 1000000 in
theorem l_enterStart (hq : tOk q) (hn : n ≤ 6) (hK : K ≤ 3) (hI : tInv q n K F) (hat : ∀ k, k < K → F (q + 1) k < 6) {i : Nat} (hi : i < 6 ^ K) : ∀ m k, k + m = K → (∀ k', k' < k → F (q + 1) k' < n) → pq_Ev (d + 1) 44 11 [some (.ref q), some (.int (nI (64 * i))), some (.int (nI (frF F q n k))), some (.int (nI k))] [] (pq_Sh L, pn F, pl G, pq_rt h) (fun r M' => r = none ∧ M' = (pq_Sh L, pn (esF F q n K (64 * i)), pl (G), pq_rt h)) := by
  have hkb := K_le hK
  obtain ⟨i0, i1, i2, i3, i4, i5⟩ := hI
  intro m
  induction m with
  | zero =>
    intro k hk hall
    have hk : k = K := by omega
    subst hk
    have e : esF F q n k (64 * i) = enF F q (64 * i + frF F q n k) N2 := if_pos hall
    have hfr := frF_lt (F := F) (q := q) hn k
    have hen := t_enter (d := d) (L := L) (F := F) (G := G) (h := h) (s := 64 * i + frF F q n k) (b := N2) hq (by omega) i2 (i4 _ (by omega)) i3
    rw [e]
    rcases hq with rfl | rfl
    all_goals
      (repeat (first | refine E_st rfl ?_ | refine E_go rfl ?_))
      refine E_nif rfl (by rw [pn_at, i1]; exact nI_nlt (Nat.le_refl _) (by omega)) ?_
      (repeat (first | refine E_st rfl ?_ | refine E_go rfl ?_))
      rw [nI_add, zm2]
      refine E_cx rfl (Nat.le_refl _) hen ?_
      exact E_rt rfl ⟨rfl, rfl⟩
  | succ m ih =>
    intro k hk hall
    have h6 := hat k (by omega)
    have h32 : F (q + 1) k < 32 := Nat.lt_trans h6 (by decide)
    by_cases hc : F (q + 1) k < n
    · have hl1 : nI (F (q + 1) k) < nI n := nI_lt hc (by omega)
      have hnext := ih (k + 1) (by omega) (fun k' hk' => by
        by_cases e : k' = k
        · rw [e]; exact hc
        · exact hall k' (by omega))
      rcases hq with rfl | rfl
      all_goals
        (repeat (first | refine E_st rfl ?_ | refine E_go rfl ?_))
        refine E_if rfl (by rw [pn_at, i1]; exact nI_lt (by omega) (by omega)) ?_
        (repeat (first | refine E_st rfl ?_ | refine E_go rfl ?_))
        refine E_ial rfl rfl (n := 3) (by omega) (by decide) ?_
        (repeat (first | refine E_st rfl ?_ | refine E_go rfl ?_))
        refine E_if rfl (by rw [pn_at, i0]; exact hl1) ?_
        (repeat (first | refine E_st rfl ?_ | refine E_go rfl ?_))
        refine E_ial rfl rfl (n := 3) (by omega) (by decide) ?_
        (iterate 7 (first | refine E_st rfl ?_ | refine E_go rfl ?_))
        rw [zi_shl _ h32, zi_not, nI_add]
        exact hnext
    · have e : esF F q n K (64 * i) = F := if_neg (fun z => hc (z k (by omega)))
      have hl1 : ¬ nI (F (q + 1) k) < nI n := nI_nlt (by omega) (by omega)
      rw [e]
      rcases hq with rfl | rfl
      all_goals
        (repeat (first | refine E_st rfl ?_ | refine E_go rfl ?_))
        refine E_if rfl (by rw [pn_at, i1]; exact nI_lt (by omega) (by omega)) ?_
        (repeat (first | refine E_st rfl ?_ | refine E_go rfl ?_))
        refine E_ial rfl rfl (n := 3) (by omega) (by decide) ?_
        (repeat (first | refine E_st rfl ?_ | refine E_go rfl ?_))
        refine E_nif rfl (by rw [pn_at, i0]; exact hl1) ?_
        exact E_rt rfl ⟨rfl, rfl⟩
theorem t_enterStart (hq : tOk q) (hn : n ≤ 6) (hK : K ≤ 3) (hI : tInv q n K F) (hat : ∀ k, k < K → F (q + 1) k < 6) {i : Nat} (hi : i < 6 ^ K) : pq_Ca (d + 2) 44 [.ref q, .int (nI (64 * i))] (pq_Sh L, pn F, pl G, pq_rt h) (fun r M' => r = none ∧ M' = (pq_Sh L, pn (esF F q n K (64 * i)), pl (G), pq_rt h)) := by
  have h1 := l_enterStart (d := d) (L := L) (G := G) (h := h) hq hn hK hI hat hi K 0 (by omega) (fun k' hk' => by omega)
  obtain ⟨i0, i1, i2, i3, i4, i5⟩ := hI
  rcases hq with rfl | rfl
  all_goals
    refine Ca_mk rfl rfl ?_
    (iterate 9 (first | refine E_st rfl ?_ | refine E_go rfl ?_))
    rw [pn_at, i0, zi_shl _ (by omega), pk_sub (by rw [Nat.one_shiftLeft]; exact Nat.one_le_two_pow)]
    exact h1
def eaF (q n K : Nat) : Nat → FF → FF
  | 0, F => F
  | i + 1, F => esF (plF (eaF q n K i F) (q + 1) K i) q n K (64 * i)
theorem pl_inv2 (hI : tInv q n K F) (i : Nat) : tInv q n K (plF F (q + 1) K i) := by
  have off : ∀ p j, ¬ p = q + 1 → plF F (q + 1) K i p j = F p j := fun p j hp => plF_off _ _ _ _ _ (fun z => hp z.1)
  obtain ⟨i0, i1, i2, i3, i4, i5⟩ := hI
  refine ⟨?_, ?_, ?_, ?_, fun s hs => ?_, fun i2 hi => ?_⟩
  · rw [off _ _ (by omega)]; exact i0
  · rw [off _ _ (by omega)]; exact i1
  · rw [off _ _ (by omega)]; exact i2
  · rw [off _ _ (by omega)]; exact i3
  · rw [off _ _ (by omega)]; exact i4 s hs
  · rw [off _ _ (by omega)] at hi
    rw [off _ _ (by omega)]; exact i5 i2 hi
theorem es_inv (hn : n ≤ 6) (hK : K ≤ 3) (hI : tInv q n K F) {i : Nat} (hi : i < 6 ^ K) : tInv q n K (esF F q n K (64 * i)) := by
  unfold esF
  split
  · have := frF_lt (F := F) (q := q) hn K
    exact en_inv hK hI (by omega) (by decide)
  · exact hI
theorem ea_inv (hn : n ≤ 6) (hK : K ≤ 3) (hI : tInv q n K F) : ∀ i, i ≤ 6 ^ K → tInv q n K (eaF q n K i F) := by
  intro i
  induction i with
  | zero => intro _; exact hI
  | succ i ih => intro hi; exact es_inv hn hK (pl_inv2 (ih (by omega)) i) (by omega)
theorem l_allStarts (hq : tOk q) (hn : n ≤ 6) (hK : K ≤ 3) (hI : tInv q n K F) : ∀ m i, i + m = 6 ^ K → pq_Ev (d + 2) 43 7 [some (.ref q), some (.int (nI (64 * 6 ^ K))), some (.int (nI (64 * i)))] [] (pq_Sh L, pn (eaF q n K i F), pl G, pq_rt h) (fun r M' => r = none ∧ M' = (pq_Sh L, pn (eaF q n K (6 ^ K) F), pl (G), pq_rt h)) := by
  have hkb := K_le hK
  intro m
  induction m with
  | zero =>
    intro i hi
    have hi : i = 6 ^ K := by omega
    subst hi
    (repeat (first | refine E_st rfl ?_ | refine E_go rfl ?_))
    refine E_nif rfl (nI_nlt (Nat.le_refl _) (by omega)) ?_
    exact E_rt rfl ⟨rfl, rfl⟩
  | succ m ih =>
    intro i hi
    have hIi := ea_inv hn hK hI i (by omega)
    have hpl := s_place (d := 0) (L := L) (G := G) (h := h) (F := eaF q n K i F) hq.q (by rw [hIi.2.1]; exact hK) (sit := 64 * i) (by omega)
    rw [hIi.2.1, Nat.mul_div_cancel_left i (by decide : 0 < 64)] at hpl
    have hes := t_enterStart (d := 0) (L := L) (G := G) (h := h) hq hn hK (pl_inv2 hIi i) (fun k hk => by rw [plF_in _ _ _ _ hk]; exact Nat.mod_lt _ (by decide)) (i := i) (by omega)
    have hnext := ih (i + 1) (by omega)
    rcases hq with rfl | rfl
    all_goals
      (repeat (first | refine E_st rfl ?_ | refine E_go rfl ?_))
      refine E_if rfl (nI_lt (by omega) (by omega)) ?_
      (repeat (first | refine E_st rfl ?_ | refine E_go rfl ?_))
      refine E_cx rfl (by omega) hpl ?_
      (repeat (first | refine E_st rfl ?_ | refine E_go rfl ?_))
      refine E_cx rfl (by omega) hes ?_
      (iterate 2 (first | refine E_st rfl ?_ | refine E_go rfl ?_))
      rw [nI_add]
      exact hnext
theorem t_allStarts (hq : tOk q) (hn : n ≤ 6) (hK : K ≤ 3) (hI : tInv q n K F) : pq_Ca (d + 3) 43 [.ref q] (pq_Sh L, pn F, pl G, pq_rt h) (fun r M' => r = none ∧ M' = (pq_Sh L, pn (eaF q n K (6 ^ K) F), pl (G), pq_rt h)) := by
  have h1 := l_allStarts (d := d) (L := L) (G := G) (h := h) hq hn hK hI (6 ^ K) 0 (by omega)
  have h2 := s_bound (d := 0) (L := L) (F := F) (G := G) (h := h) hq.q (by rw [hI.2.1]; exact hK)
  rw [hI.2.1] at h2
  rcases hq with rfl | rfl
  all_goals
    refine Ca_mk rfl rfl ?_
    (repeat (first | refine E_st rfl ?_ | refine E_go rfl ?_))
    refine E_cx rfl (by omega) h2 ?_
    (iterate 3 (first | refine E_st rfl ?_ | refine E_go rfl ?_))
    exact h1
theorem t_search (hq : tOk q) (hn : n ≤ 6) (hK : K ≤ 3) (hpa : pa < 2 ^ 63) (hG : G q 1 = pa) (hI : tInv q n K F) : pq_Ca (d + K + 8) 39 [.ref q] (pq_Sh L, pn F, pl G, pq_rt h) (fun r M' => r = none ∧ M' = (pq_Sh L, pn (seF q n pa K 13825 0 F), pl (G), pq_rt h)) := by
  have h1 := l_search (d := d) (L := L) (h := h) hq hn hK hpa hG 13825 0 F (by omega) (by omega) hI
  refine Ca_mk rfl rfl ?_
  (iterate 2 (first | refine E_st rfl ?_ | refine E_go rfl ?_))
  exact h1
end TRM
end
section
/-! MoveSearch: places 60, 61 (at), 62 (prices) -/
def mA : Nat → Nat → FF → FF := fun s mv F => if mv = 0 then F else if F 62 s = N1 ∨ F 60 5 + mv < F 62 s then pq_u (pq_u F 62 s (F 60 5 + mv)) 60 6 (if F 60 6 < F 60 5 + mv then F 60 5 + mv else F 60 6) else F
def mInv (n K : Nat) (F : FF) : Prop := F 60 0 = n ∧ F 60 2 = K ∧ F 60 5 ≤ 41472 ∧ F 60 6 ≤ 41475 ∧ ∀ s, s < 13824 → F 62 s = N1 ∨ F 62 s ≤ 41475
section MVS
variable {d L n K pa : Nat} {F G : Nat → Nat → Nat} {h : Nat → Nat}
theorem mA_off {s mv p j : Nat} (h1 : ¬ p = 62) (h2 : ¬ (p = 60 ∧ j = 6)) : mA s mv F p j = F p j := by
  unfold mA
  split
  · rfl
  · split
    · rw [pu_at, if_neg h2, pu_at, if_neg (fun z => h1 z.1)]
    · rfl
theorem mA_inv {s mv : Nat} (hI : mInv n K F) (hmv : mv ≤ 3) : mInv n K (mA s mv F) := by
  obtain ⟨i0, i1, i2, i3, i4⟩ := hI
  refine ⟨by rw [mA_off (by decide) (by decide)]; exact i0, by rw [mA_off (by decide) (by decide)]; exact i1, by rw [mA_off (by decide) (by decide)]; exact i2, ?_, fun s2 hs2 => ?_⟩
  · unfold mA
    split
    · exact i3
    · split
      · rw [pu_at, if_pos ⟨rfl, rfl⟩]; split <;> omega
      · exact i3
  · unfold mA
    split
    · exact i4 s2 hs2
    · split
      · rw [pu_at, if_neg (by omega), pu_at]
        split
        · right; omega
        · exact i4 s2 hs2
      · exact i4 s2 hs2
set_option maxHeartbeats 1000000 in
theorem m_arrive {s mv : Nat} (hI : mInv n K F) (hs : s < 13824) (hmv : mv ≤ 3) : pq_Ca (d + 1) 46 [.ref 60, .int (nI s), .int (nI mv)] (pq_Sh L, pn F, pl G, pq_rt h) (fun r M' => r = none ∧ M' = (pq_Sh L, pn (mA s mv F), pl (G), pq_rt h)) := by
  obtain ⟨i0, i1, i2, i3, i4⟩ := hI
  by_cases c0 : mv = 0
  · subst c0
    refine Ca_mk rfl rfl ?_
    (repeat (first | refine E_st rfl ?_ | refine E_go rfl ?_))
    exact E_rt rfl ⟨rfl, rfl⟩
  have hlt : F 62 s < 2 ^ 32 := by
    rcases i4 s hs with e | e
    · rw [e]; decide
    · omega
  have emax : (if pn F 60 6 < nI (F 60 5 + mv) then nI (F 60 5 + mv) else pn F 60 6) = nI (if F 60 6 < F 60 5 + mv then F 60 5 + mv else F 60 6) := by
    rw [pn_at]
    by_cases hc : F 60 6 < F 60 5 + mv
    · rw [if_pos hc, if_pos (nI_lt hc (by omega))]
    · rw [if_neg hc, if_neg (nI_nlt (by omega) (by omega))]
  have store : ∀ (z : Option Value), (F 62 s = N1 ∨ F 60 5 + mv < F 62 s) → pq_Ev d 46 27 [some (.ref 60), some (.int (nI s)), some (.int (nI mv)), z] [] (pq_Sh L, pn F, pl G, pq_rt h) (fun r M' => r = none ∧ M' = (pq_Sh L, pn (mA s mv F), pl (G), pq_rt h)) := by
    intro z hc
    have e : mA s mv F = pq_u (pq_u F 62 s (F 60 5 + mv)) 60 6 (if F 60 6 < F 60 5 + mv then F 60 5 + mv else F 60 6) := by
      unfold mA; rw [if_neg c0, if_pos hc]
    rw [e]
    (repeat (first | refine E_st rfl ?_ | refine E_go rfl ?_))
    rw [pn_at, nI_add]
    refine E_ias rfl rfl (n := 13824) hs (by decide) (by decide) ?_
    (repeat (first | refine E_st rfl ?_ | refine E_go rfl ?_))
    have e6 : pn (pq_u F 62 s (F 60 5 + mv)) 60 6 = pn F 60 6 := rfl
    have e5 : pn (pq_u F 62 s (F 60 5 + mv)) 60 5 = nI (F 60 5) := rfl
    rw [e6, e5, nI_add, emax]
    simp only [pu_n, pu_l, pc_n, pc_l]
    exact E_rt rfl ⟨rfl, rfl⟩
  refine Ca_mk rfl rfl ?_
  (repeat (first | refine E_st rfl ?_ | refine E_go rfl ?_))
  refine E_nif rfl (nI_ne0 (by omega) (by omega)) ?_
  (repeat (first | refine E_st rfl ?_ | refine E_go rfl ?_))
  refine E_ial rfl rfl (n := 13824) hs (by decide) ?_
  (repeat (first | refine E_st rfl ?_ | refine E_go rfl ?_))
  by_cases c1 : F 62 s = N1
  · refine E_if rfl (by rw [c1, zm1]) ?_
    exact store _ (Or.inl c1)
  · refine E_nif rfl (fun z => c1 ((zi_eq hlt (by decide)).mp (by rw [← zm1]; exact z))) ?_
    have h4 := (i4 s hs).resolve_left c1
    (repeat (first | refine E_st rfl ?_ | refine E_go rfl ?_))
    rw [pn_at, nI_add]
    by_cases c2 : F 60 5 + mv < F 62 s
    · refine E_if rfl (nI_lt c2 (by omega)) ?_
      exact store _ (Or.inr c2)
    · refine E_nif rfl (nI_nlt (by omega) (by omega)) ?_
      refine E_rt rfl ⟨rfl, ?_⟩
      unfold mA
      rw [if_neg c0, if_neg (fun z => z.elim c1 c2)]
theorem m_arOk (hK : K ≤ 3) {pos : Nat → Nat} : arOk L 60 n K (d + 1) G h pos (fun F => mInv n K F ∧ ∀ k, k < K → F 61 k = pos k) mA := by
  have hk := K_le hK
  refine ⟨fun F hF => ⟨hF.1.1, hF.1.2.1, hF.2⟩, fun F s mv hF hs hmv => ?_⟩
  refine ⟨⟨mA_inv hF.1 (by omega), fun k hk2 => ?_⟩, m_arrive hF.1 (by omega) (by omega)⟩
  rw [mA_off (by decide) (by omega)]; exact hF.2 k hk2
def mStep (n pa K : Nat) (F : FF) (sit : Nat) : FF := arrs mA (ords n pa (sitPos K sit) K 0 (wOnly pa (sit % 64)) 0 0) (plF F 61 K (sit / 64))
def mAll (n pa K : Nat) : Nat → Nat → FF → Bool × FF
  | 0, _, F => (false, F)
  | m + 1, i, F => if F 62 i = F 60 5 then (if i % 64 = 0 then (true, F) else mAll n pa K m (i + 1) (mStep n pa K F i)) else mAll n pa K m (i + 1) F
theorem mpl_inv (hI : mInv n K F) (i : Nat) : mInv n K (plF F 61 K i) := by
  have off : ∀ p j, ¬ p = 61 → plF F 61 K i p j = F p j := fun p j hp => plF_off _ _ _ _ _ (fun z => hp z.1)
  obtain ⟨i0, i1, i2, i3, i4⟩ := hI
  refine ⟨?_, ?_, ?_, ?_, fun s hs => ?_⟩
  · rw [off _ _ (by decide)]; exact i0
  · rw [off _ _ (by decide)]; exact i1
  · rw [off _ _ (by decide)]; exact i2
  · rw [off _ _ (by decide)]; exact i3
  · rw [off _ _ (by decide)]; exact i4 s hs
theorem ms_inv (hn : n ≤ 6) (hK : K ≤ 3) (hI : mInv n K F) (sit : Nat) : mInv n K (mStep n pa K F sit) := by
  refine (arrs_inv (m_arOk (d := 0) (L := 0) (G := F) (h := fun k => k) hK) _ _ (fun s hs => ?_) ⟨mpl_inv hI (sit / 64), fun k hk => plF_in _ _ _ _ hk⟩).1
  have := ords_ok hn K 0 _ 0 0 (by decide) (Nat.le_refl _) s hs
  simpa using this
theorem arrs_m5 : ∀ (l : List (Nat × Nat)) (F : FF), arrs mA l F 60 5 = F 60 5 := by
  intro l
  induction l with
  | nil => intro F; rfl
  | cons a l ih => intro F; show arrs mA l (mA a.1 a.2 F) 60 5 = _; rw [ih, mA_off (by decide) (by decide)]
theorem ms_5 (sit : Nat) : mStep n pa K F sit 60 5 = F 60 5 := by
  unfold mStep; rw [arrs_m5, plF_off _ _ _ _ _ (by omega)]
theorem mAll_inv (hn : n ≤ 6) (hK : K ≤ 3) : ∀ m i (F : FF), mInv n K F → mInv n K (mAll n pa K m i F).2 ∧ (mAll n pa K m i F).2 60 5 = F 60 5 := by
  intro m
  induction m with
  | zero => intro i F hI; exact ⟨hI, rfl⟩
  | succ m ih =>
    intro i F hI
    simp only [mAll]
    split
    · split
      · exact ⟨hI, rfl⟩
      · have := ih (i + 1) _ (ms_inv (pa := pa) hn hK hI i)
        rw [ms_5] at this
        exact this
    · exact ih (i + 1) F hI
set_option maxHeartbeats 1000000 in
theorem l_mAll (hn : n ≤ 6) (hK : K ≤ 3) (hpa : pa < 2 ^ 63) (hG : G 60 1 = pa) : ∀ m i (F : FF), i + m = 64 * 6 ^ K → mInv n K F → pq_Ev (d + K + 6) 48 7 [some (.ref 60), some (.int (nI (64 * 6 ^ K))), some (.int (nI i))] [] (pq_Sh L, pn F, pl G, pq_rt h) (fun r M' => r = some (.int (nI (if (mAll n pa K m i F).1 then 1 else 0))) ∧ M' = (pq_Sh L, pn ((mAll n pa K m i F).2), pl (G), pq_rt h)) := by
  have hk := K_le hK
  intro m
  induction m with
  | zero =>
    intro i F hi hI
    have hi : i = 64 * 6 ^ K := by omega
    subst hi
    (repeat (first | refine E_st rfl ?_ | refine E_go rfl ?_))
    refine E_nif rfl (nI_nlt (Nat.le_refl _) (by omega)) ?_
    (repeat (first | refine E_st rfl ?_ | refine E_go rfl ?_))
    exact E_rt rfl ⟨rfl, rfl⟩
  | succ m ih =>
    intro i F hi hI
    have hI2 := hI
    obtain ⟨i0, i1, i2, i3, i4⟩ := hI
    have hlt : F 62 i < 2 ^ 32 := by
      rcases i4 i (by omega) with e | e
      · rw [e]; decide
      · omega
    (repeat (first | refine E_st rfl ?_ | refine E_go rfl ?_))
    refine E_if rfl (nI_lt (by omega) (by omega)) ?_
    (repeat (first | refine E_st rfl ?_ | refine E_go rfl ?_))
    refine E_ial rfl rfl (n := 13824) (by omega) (by decide) ?_
    (repeat (first | refine E_st rfl ?_ | refine E_go rfl ?_))
    by_cases c1 : F 62 i = F 60 5
    · refine E_if rfl (by rw [c1]; rfl) ?_
      (repeat (first | refine E_st rfl ?_ | refine E_go rfl ?_))
      rw [pk_rem (by omega) (by decide) (by decide)]
      by_cases c2 : i % 64 = 0
      · refine E_if rfl (by rw [c2]; rfl) ?_
        (repeat (first | refine E_st rfl ?_ | refine E_go rfl ?_))
        have e : mAll n pa K (m + 1) i F = (true, F) := by simp only [mAll, if_pos c1, if_pos c2]
        rw [e]
        exact E_rt rfl ⟨rfl, rfl⟩
      · refine E_nif rfl (nI_ne0 (by omega) (by omega)) ?_
        have e : mAll n pa K (m + 1) i F = mAll n pa K m (i + 1) (mStep n pa K F i) := by simp only [mAll, if_pos c1, if_neg c2]
        rw [e]
        have hex := s_expand (F := F) (q := 60) (Or.inr (Or.inr rfl)) hn hK hpa hG (pos := sitPos K i) (fun k _ => Nat.mod_lt _ (by decide)) (m_arOk (d := d) (L := L) (h := h) hK) (sit := i) (by omega) i1 ⟨mpl_inv hI2 (i / 64), fun k hk => plF_in _ _ _ _ hk⟩
        (repeat (first | refine E_st rfl ?_ | refine E_go rfl ?_))
        refine E_cx rfl (by omega) hex ?_
        (iterate 2 (first | refine E_st rfl ?_ | refine E_go rfl ?_))
        rw [nI_add]
        exact ih (i + 1) _ (by omega) (ms_inv hn hK hI2 i)
    · refine E_nif rfl (fun z => c1 ((zi_eq hlt (by omega)).mp z)) ?_
      have e : mAll n pa K (m + 1) i F = mAll n pa K m (i + 1) F := by simp only [mAll, if_neg c1]
      rw [e]
      (iterate 2 (first | refine E_st rfl ?_ | refine E_go rfl ?_))
      rw [nI_add]
      exact ih (i + 1) F (by omega) hI2
theorem m_all (hn : n ≤ 6) (hK : K ≤ 3) (hpa : pa < 2 ^ 63) (hG : G 60 1 = pa) (hI : mInv n K F) : pq_Ca (d + K + 7) 48 [.ref 60] (pq_Sh L, pn F, pl G, pq_rt h) (fun r M' => r = some (.int (nI (if (mAll n pa K (64 * 6 ^ K) 0 F).1 then 1 else 0))) ∧ M' = (pq_Sh L, pn ((mAll n pa K (64 * 6 ^ K) 0 F).2), pl (G), pq_rt h)) := by
  have h2 := s_bound (d := 0) (L := L) (F := F) (G := G) (h := h) (q := 60) (Or.inr (Or.inr rfl)) (by rw [hI.2.1]; exact hK)
  rw [hI.2.1] at h2
  refine Ca_mk rfl rfl ?_
  (repeat (first | refine E_st rfl ?_ | refine E_go rfl ?_))
  refine E_cx rfl (by omega) h2 ?_
  (iterate 3 (first | refine E_st rfl ?_ | refine E_go rfl ?_))
  exact l_mAll hn hK hpa hG (64 * 6 ^ K) 0 F (by omega) hI
/-- by rising prices: the price at which an empty belief is found -/
def fmF (n pa K : Nat) : Nat → Nat → FF → Option Nat × FF
  | 0, _, F => (none, F)
  | m + 1, c, F => if c ≤ F 60 6 ∧ c ≤ 41472 then (if (mAll n pa K (64 * 6 ^ K) 0 (pq_u F 60 5 c)).1 then (some c, (mAll n pa K (64 * 6 ^ K) 0 (pq_u F 60 5 c)).2) else fmF n pa K m (c + 1) (mAll n pa K (64 * 6 ^ K) 0 (pq_u F 60 5 c)).2) else (none, F)
def oI (o : Option Nat) : Int32 := match o with
  | some c => nI c
  | none => -4
set_option maxHeartbeats 1000000 in
theorem l_few {z : Nat} (hn : n ≤ 6) (hK : K ≤ 3) (hpa : pa < 2 ^ 63) (hG : G 60 1 = pa) : ∀ m c (F : FF), 41474 ≤ c + m → c ≤ 41474 → mInv n K F → pq_Ev (d + K + 7) 47 22 [some (.ref 60), some (.int (nI z)), some (.int (nI c))] [] (pq_Sh L, pn F, pl G, pq_rt h) (fun r M' => r = some (.int (oI (fmF n pa K m c F).1)) ∧ M' = (pq_Sh L, pn ((fmF n pa K m c F).2), pl (G), pq_rt h)) := by
  intro m
  induction m with
  | zero =>
    intro c F hc hc2 hI
    obtain ⟨i0, i1, i2, i3, i4⟩ := hI
    by_cases c1 : c ≤ F 60 6
    · (repeat (first | refine E_st rfl ?_ | refine E_go rfl ?_))
      refine E_nif rfl (by rw [pn_at]; exact nI_nlt c1 (by omega)) ?_
      (repeat (first | refine E_st rfl ?_ | refine E_go rfl ?_))
      refine E_if rfl (nI_lt (by omega) (by omega)) ?_
      (repeat (first | refine E_st rfl ?_ | refine E_go rfl ?_))
      exact E_rt rfl ⟨rfl, rfl⟩
    · (repeat (first | refine E_st rfl ?_ | refine E_go rfl ?_))
      refine E_if rfl (by rw [pn_at]; exact nI_lt (by omega) (by omega)) ?_
      (repeat (first | refine E_st rfl ?_ | refine E_go rfl ?_))
      exact E_rt rfl ⟨rfl, rfl⟩
  | succ m ih =>
    intro c F hc hc2 hI
    have hI2 := hI
    obtain ⟨i0, i1, i2, i3, i4⟩ := hI
    by_cases c1 : c ≤ F 60 6
    case neg =>
      have e : fmF n pa K (m + 1) c F = (none, F) := by simp only [fmF]; rw [if_neg (fun z => c1 z.1)]
      rw [e]
      (repeat (first | refine E_st rfl ?_ | refine E_go rfl ?_))
      refine E_if rfl (by rw [pn_at]; exact nI_lt (by omega) (by omega)) ?_
      (repeat (first | refine E_st rfl ?_ | refine E_go rfl ?_))
      exact E_rt rfl ⟨rfl, rfl⟩
    (repeat (first | refine E_st rfl ?_ | refine E_go rfl ?_))
    refine E_nif rfl (by rw [pn_at]; exact nI_nlt c1 (by omega)) ?_
    (repeat (first | refine E_st rfl ?_ | refine E_go rfl ?_))
    by_cases c2 : c ≤ 41472
    case neg =>
      have e : fmF n pa K (m + 1) c F = (none, F) := by simp only [fmF]; rw [if_neg (fun z => c2 z.2)]
      rw [e]
      refine E_if rfl (nI_lt (by omega) (by omega)) ?_
      (repeat (first | refine E_st rfl ?_ | refine E_go rfl ?_))
      exact E_rt rfl ⟨rfl, rfl⟩
    refine E_nif rfl (nI_nlt c2 (by decide)) ?_
    have hI3 : mInv n K (pq_u F 60 5 c) := by
      refine ⟨i0, i1, ?_, i3, i4⟩
      rw [pu_at, if_pos ⟨rfl, rfl⟩]; exact c2
    have hall := m_all (d := d) (L := L) (h := h) hn hK hpa hG hI3
    have hinv := mAll_inv (pa := pa) hn hK (64 * 6 ^ K) 0 _ hI3
    (repeat (first | refine E_st rfl ?_ | refine E_go rfl ?_))
    simp only [pu_n, pu_l, pc_n, pc_l]
    refine E_cx rfl (by omega) hall ?_
    by_cases hb : (mAll n pa K (64 * 6 ^ K) 0 (pq_u F 60 5 c)).1 = true
    · have e : fmF n pa K (m + 1) c F = (some c, (mAll n pa K (64 * 6 ^ K) 0 (pq_u F 60 5 c)).2) := by simp only [fmF]; rw [if_pos ⟨c1, c2⟩, if_pos hb]
      rw [e, if_pos hb]
      refine E_nif rfl (nI_ne0 (by decide) (by decide)) ?_
      (repeat (first | refine E_st rfl ?_ | refine E_go rfl ?_))
      refine E_rt rfl ⟨?_, rfl⟩
      rw [pn_at, hinv.2, pu_at, if_pos ⟨rfl, rfl⟩]; rfl
    · have e : fmF n pa K (m + 1) c F = fmF n pa K m (c + 1) (mAll n pa K (64 * 6 ^ K) 0 (pq_u F 60 5 c)).2 := by simp only [fmF]; rw [if_pos ⟨c1, c2⟩, if_neg hb]
      rw [e, if_neg hb]
      refine E_if rfl rfl ?_
      (iterate 2 (first | refine E_st rfl ?_ | refine E_go rfl ?_))
      rw [nI_add]
      exact ih (c + 1) _ (by omega) (by omega) hinv.1
def fmS (F : FF) (K start : Nat) : FF := pq_u (pq_u (clF F 62 (64 * 6 ^ K)) 62 start 0) 60 6 0
theorem m_few (hn : n ≤ 6) (hK : K ≤ 3) (hpa : pa < 2 ^ 63) (hG : G 60 1 = pa) (h0 : F 60 0 = n) (h2 : F 60 2 = K) (h5 : F 60 5 ≤ 41472) (h62 : ∀ s, s < 13824 → F 62 s = N1 ∨ F 62 s ≤ 41475) {start : Nat} (hs : start < 64 * 6 ^ K) : pq_Ca (d + K + 8) 47 [.ref 60, .int (nI start)] (pq_Sh L, pn F, pl G, pq_rt h) (fun r M' => r = some (.int (oI (fmF n pa K 41474 0 (fmS F K start)).1)) ∧ M' = (pq_Sh L, pn ((fmF n pa K 41474 0 (fmS F K start)).2), pl (G), pq_rt h)) := by
  have hk := K_le hK
  have hcl := s_clear (d := 0) (L := L) (F := F) (G := G) (h := h) (q := 60) (Or.inr (Or.inr rfl)) (by rw [h2]; exact hK)
  rw [h2] at hcl
  have hI : mInv n K (fmS F K start) := by
    refine ⟨h0, h2, h5, by show 0 ≤ _; omega, fun s hs2 => ?_⟩
    show pq_u (pq_u (clF F 62 (64 * 6 ^ K)) 62 start 0) 60 6 0 62 s = N1 ∨ pq_u (pq_u (clF F 62 (64 * 6 ^ K)) 62 start 0) 60 6 0 62 s ≤ 41475
    rw [pu_at, if_neg (by omega), pu_at]
    split
    · right; omega
    · unfold clF
      split
      · left; rfl
      · exact h62 s hs2
  refine Ca_mk rfl rfl ?_
  (repeat (first | refine E_st rfl ?_ | refine E_go rfl ?_))
  refine E_cx rfl (by omega) hcl ?_
  (repeat (first | refine E_st rfl ?_ | refine E_go rfl ?_))
  refine E_ias rfl rfl (n := 13824) (by omega) (by decide) (by decide) ?_
  (iterate 5 (first | refine E_st rfl ?_ | refine E_go rfl ?_))
  simp only [pu_n, pu_l, pc_n, pc_l]
  exact l_few hn hK hpa hG 41474 0 _ (by omega) (by omega) hI
end MVS
end
section
section PLN
variable {d L n K pa : Nat} {F G : Nat → Nat → Nat} {h : Nat → Nat}
/-- bounds of the search objects -/
def sOk (F : FF) : Prop := (∀ s, s < 13824 → F 54 s < 2 ^ 32 ∧ F 58 s < 2 ^ 32 ∧ (F 62 s = N1 ∨ F 62 s ≤ 41475)) ∧ F 60 5 ≤ 41472
def fgF (F : FF) (q n K : Nat) : FF := pq_u (pq_u (clF (pq_u (pq_u F q 0 n) q 2 K) (q + 2) (64 * 6 ^ K)) q 6 0) q 8 N1
theorem N1_lt : N1 < 2 ^ 32 := by decide
theorem N2_lt : N2 < 2 ^ 32 := by decide
theorem fg_inv {q : Nat} (hs : ∀ s, s < 13824 → F (q + 2) s < 2 ^ 32) : tInv q n K (fgF F q n K) := by
  refine ⟨?_, ?_, ?_, ?_, fun s hs2 => ?_, fun i hi => ?_⟩
  · unfold fgF
    rw [pu_at, if_neg (by omega), pu_at, if_neg (by omega)]
    unfold clF
    rw [if_neg (by omega), pu_at, if_neg (by omega), pu_at, if_pos ⟨rfl, rfl⟩]
  · unfold fgF
    rw [pu_at, if_neg (by omega), pu_at, if_neg (by omega)]
    unfold clF
    rw [if_neg (by omega), pu_at, if_pos ⟨rfl, rfl⟩]
  · unfold fgF
    rw [pu_at, if_pos ⟨rfl, rfl⟩]; decide
  · unfold fgF
    rw [pu_at, if_neg (by omega), pu_at, if_pos ⟨rfl, rfl⟩]; omega
  · unfold fgF
    rw [pu_at, if_neg (by omega), pu_at, if_neg (by omega)]
    unfold clF
    split
    · decide
    · rw [pu_at, if_neg (by omega), pu_at, if_neg (by omega)]; exact hs s hs2
  · unfold fgF at hi
    rw [pu_at, if_neg (by omega), pu_at, if_pos ⟨rfl, rfl⟩] at hi
    omega
def kpF (F G : FF) : FF := pq_u (seF 52 (F 2 0) (G 2 1) (F 2 2) 13825 0 (enF (fgF F 52 (F 2 0) (F 2 2)) 52 (nmF F 3 (F 2 2) * 64 + F 6 (F 2 5 % 8)) N2)) 1 6 1
theorem nm_lt {tp : Nat} (ha : ∀ k, k < 3 → F tp k < 6) : ∀ k, k ≤ 3 → nmF F tp k < 6 ^ k := by
  intro k
  induction k with
  | zero => intro _; show 0 < 1; exact Nat.one_pos
  | succ k ih =>
    intro hk
    have h1 := ih (by omega)
    have h2 := ha k (by omega)
    show nmF F tp k * 6 + F tp k < 6 ^ (k + 1)
    rw [Nat.pow_succ]; omega
set_option maxHeartbeats 1000000 in
theorem k_know (hn : nOk F G) (hs : sOk F) (h16 : F 1 6 = 0) : pq_Ca (d + 20) 91 [.ref 1] (pq_Sh L, pn F, pl G, pq_rt h) (fun r M' => r = none ∧ M' = (pq_Sh L, pn (kpF F G), pl (pq_u G 52 1 (G 2 1)), pq_rt h)) := by
  obtain ⟨n1, n2, n3, n4, n5, n6, n7, n8, n9, n10, n11, n12, n13, n14, n15, n16, n17, n18, n19, n20⟩ := hn
  have hinv := fg_inv (n := F 2 0) (K := F 2 2) (q := 52) (fun s h1 => (hs.1 s h1).1)
  have hkb := K_le n2
  have hnm := nm_lt (tp := 3) n7 (F 2 2) n2
  have hb := n9 (F 2 5 % 8) (by omega)
  have hst : nmF F 3 (F 2 2) * 64 + F 6 (F 2 5 % 8) < 64 * 6 ^ F 2 2 := by omega
  refine Ca_mk rfl rfl ?_
  (repeat (first | refine E_st rfl ?_ | refine E_go rfl ?_))
  refine E_if rfl (by rw [pn_at, h16]; rfl) ?_
  (repeat (first | refine E_st rfl ?_ | refine E_go rfl ?_))
  refine E_cx rfl (by omega) (s_prepare (d := 0) (q := 52) (Or.inl rfl) (n := F 2 0) (w := G 2 1) (K := F 2 2)) ?_
  (repeat (first | refine E_st rfl ?_ | refine E_go rfl ?_))
  refine E_cx rfl (by omega) (t_forget (d := 0) (q := 52) (Or.inl rfl) n2) ?_
  (repeat (first | refine E_st rfl ?_ | refine E_go rfl ?_))
  refine E_cx rfl (by omega) (c_belief (d := 0)) ?_
  refine E_cx rfl (by omega) (s_number (d := 0) (q := 52) (Or.inl rfl) n2) ?_
  (repeat (first | refine E_st rfl ?_ | refine E_go rfl ?_))
  rw [zm2]
  have en : nmF (fgF F 52 (F 2 0) (F 2 2)) 3 (F 2 2) = nmF F 3 (F 2 2) := by
    have : ∀ k, nmF (fgF F 52 (F 2 0) (F 2 2)) 3 k = nmF F 3 k := by
      intro k
      induction k with
      | zero => rfl
      | succ k ih => show _ * 6 + _ = _ * 6 + _; rw [ih]; rfl
    exact this _
  have hen := t_enter (d := 0) (L := L) (F := fgF F 52 (F 2 0) (F 2 2)) (G := pq_u G 52 1 (G 2 1)) (h := h) (q := 52) (Or.inl rfl) (s := nmF F 3 (F 2 2) * 64 + F 6 (F 2 5 % 8)) (b := N2) (by omega) hinv.2.2.1 (hinv.2.2.2.2.1 _ (by omega)) hinv.2.2.2.1
  have hnum : nmF (fgF F 52 (F 2 0) (F 2 2)) 3 (F 2 2) * 64 + F 6 (F 2 5 % 8) = nmF F 3 (F 2 2) * 64 + F 6 (F 2 5 % 8) := by rw [en]
  refine E_cx rfl (by omega) (show pq_Ca 1 38 [.ref 52, .int (nI (nmF (fgF F 52 (F 2 0) (F 2 2)) 3 (F 2 2) * 64 + F 6 (F 2 5 % 8))), .int (nI N2)] (pq_Sh L, pn (fgF F 52 (F 2 0) (F 2 2)), pl (pq_u G 52 1 (G 2 1)), pq_rt h) _ by rw [hnum]; exact hen) ?_
  (repeat (first | refine E_st rfl ?_ | refine E_go rfl ?_))
  have hse := t_search (d := 0) (L := L) (h := h) (q := 52) (Or.inl rfl) n1 n2 n6 (show pq_u G 52 1 (G 2 1) 52 1 = G 2 1 from rfl) (en_inv n2 hinv hst N2_lt)
  refine E_cx rfl (by omega) hse ?_
  (repeat (first | refine E_st rfl ?_ | refine E_go rfl ?_))
  simp only [pu_n, pu_l, pc_n, pc_l]
  exact E_rt rfl ⟨rfl, rfl⟩
theorem k_know1 (h16 : F 1 6 = 1) : pq_Ca (d + 1) 91 [.ref 1] (pq_Sh L, pn F, pl G, pq_rt h) (fun r M' => r = none ∧ M' = (pq_Sh L, pn (F), pl (G), pq_rt h)) := by
  refine Ca_mk rfl rfl ?_
  (repeat (first | refine E_st rfl ?_ | refine E_go rfl ?_))
  refine E_nif rfl (by rw [pn_at, h16]; decide) ?_
  exact E_rt rfl ⟨rfl, rfl⟩
theorem o_planTurns {F' G' : FF} {k : Nat} (hk : pq_Ca (d + 20) 91 [.ref 1] (pq_Sh L, pn F, pl G, pq_rt h) (fun r M' => r = none ∧ M' = (pq_Sh L, pn F', pl G', pq_rt h))) (hkl : k ≤ 13824) (hc : tCh F' 52 k (F' 52 8)) : pq_Ca (d + 21) 90 [.ref 1] (pq_Sh L, pn F, pl G, pq_rt h) (fun r M' => r = some (.int (nI k)) ∧ M' = (pq_Sh L, pn F', pl G', pq_rt h)) := by
  refine Ca_mk rfl rfl ?_
  (repeat (first | refine E_st rfl ?_ | refine E_go rfl ?_))
  refine E_cx rfl (by omega) hk ?_
  (repeat (first | refine E_st rfl ?_ | refine E_go rfl ?_))
  refine E_cx rfl (by omega) (t_turns (d := 0) (q := 52) (Or.inl rfl) hkl hc) ?_
  exact E_rt rfl ⟨rfl, rfl⟩
theorem o_planTurns0 {F' G' : FF} (hk : pq_Ca (d + 20) 91 [.ref 1] (pq_Sh L, pn F, pl G, pq_rt h) (fun r M' => r = none ∧ M' = (pq_Sh L, pn F', pl G', pq_rt h))) (he : F' 52 8 = N1) : pq_Ca (d + 21) 90 [.ref 1] (pq_Sh L, pn F, pl G, pq_rt h) (fun r M' => r = some (.int (-4)) ∧ M' = (pq_Sh L, pn F', pl G', pq_rt h)) := by
  refine Ca_mk rfl rfl ?_
  (repeat (first | refine E_st rfl ?_ | refine E_go rfl ?_))
  refine E_cx rfl (by omega) hk ?_
  (repeat (first | refine E_st rfl ?_ | refine E_go rfl ?_))
  refine E_cx rfl (by omega) (t_turns0 (d := 0) (q := 52) (Or.inl rfl) he) ?_
  exact E_rt rfl ⟨rfl, rfl⟩
theorem o_planOrder {F' G' : FF} {k t sr : Nat} (hn : nOk F G) (hsr : sr < F 2 2) (hk : pq_Ca (d + 20) 91 [.ref 1] (pq_Sh L, pn F, pl G, pq_rt h) (fun r M' => r = none ∧ M' = (pq_Sh L, pn F', pl G', pq_rt h))) (h2 : F' 52 2 = F 2 2) (hkl : k ≤ 13824) (hc : tCh F' 52 k (F' 52 8)) (ht : t < k) : pq_Ca (d + 21) 92 [.ref 1, .int (nI t), .int (nI sr)] (pq_Sh L, pn F, pl G, pq_rt h) (fun r M' => r = some (.int (nI (sitPos (F 2 2) (tUp F' 52 (k - (t + 1)) (F' 52 8)) sr))) ∧ M' = (pq_Sh L, pn (plF F' 53 (F 2 2) (tUp F' 52 (k - (t + 1)) (F' 52 8) / 64)), pl G', pq_rt h)) := by
  refine Ca_mk rfl rfl ?_
  (repeat (first | refine E_st rfl ?_ | refine E_go rfl ?_))
  refine E_nif rfl (nI_pos (by omega)) ?_
  (repeat (first | refine E_st rfl ?_ | refine E_go rfl ?_))
  refine E_cx rfl (by omega) (c_isSearcher (d := 0) hn.2.1 hsr) ?_
  refine E_nif rfl (nI_ne0 (by decide) (by decide)) ?_
  (repeat (first | refine E_st rfl ?_ | refine E_go rfl ?_))
  refine E_cx rfl (by omega) hk ?_
  (repeat (first | refine E_st rfl ?_ | refine E_go rfl ?_))
  refine E_cx rfl (by omega) (t_turns (d := 0) (q := 52) (Or.inl rfl) hkl hc) ?_
  (repeat (first | refine E_st rfl ?_ | refine E_go rfl ?_))
  refine E_if rfl (nI_lt ht (by omega)) ?_
  (repeat (first | refine E_st rfl ?_ | refine E_go rfl ?_))
  rw [nI_add]
  refine E_cx rfl (by omega) (t_nodeAfter (d := 0) (q := 52) (Or.inl rfl) h2 hn.2.1 hsr hkl (by omega) hc) ?_
  exact E_rt rfl ⟨rfl, rfl⟩
theorem o_planOrder4 {F' G' : FF} {x : Int32} {sr : Nat} (hn : nOk F G) (hx : ¬ x < 0) (hsr : sr < F 2 2) (hk : pq_Ca (d + 20) 91 [.ref 1] (pq_Sh L, pn F, pl G, pq_rt h) (fun r M' => r = none ∧ M' = (pq_Sh L, pn F', pl G', pq_rt h))) (hc : F' 52 8 = N1 ∨ ∃ k, k ≤ 13824 ∧ tCh F' 52 k (F' 52 8) ∧ nI k ≤ x) : pq_Ca (d + 21) 92 [.ref 1, .int x, .int (nI sr)] (pq_Sh L, pn F, pl G, pq_rt h) (fun r M' => r = some (.int (-4)) ∧ M' = (pq_Sh L, pn F', pl G', pq_rt h)) := by
  refine Ca_mk rfl rfl ?_
  (repeat (first | refine E_st rfl ?_ | refine E_go rfl ?_))
  refine E_nif rfl hx ?_
  (repeat (first | refine E_st rfl ?_ | refine E_go rfl ?_))
  refine E_cx rfl (by omega) (c_isSearcher (d := 0) hn.2.1 hsr) ?_
  refine E_nif rfl (nI_ne0 (by decide) (by decide)) ?_
  (repeat (first | refine E_st rfl ?_ | refine E_go rfl ?_))
  refine E_cx rfl (by omega) hk ?_
  (repeat (first | refine E_st rfl ?_ | refine E_go rfl ?_))
  rcases hc with he | ⟨k, hkl, hc, hle⟩
  · refine E_cx rfl (by omega) (t_turns0 (d := 0) (q := 52) (Or.inl rfl) he) ?_
    (repeat (first | refine E_st rfl ?_ | refine E_go rfl ?_))
    refine E_nif rfl (fun z => hx (Int32.lt_trans z (by decide))) ?_
    (repeat (first | refine E_st rfl ?_ | refine E_go rfl ?_))
    exact E_rt rfl ⟨rfl, rfl⟩
  · refine E_cx rfl (by omega) (t_turns (d := 0) (q := 52) (Or.inl rfl) hkl hc) ?_
    (repeat (first | refine E_st rfl ?_ | refine E_go rfl ?_))
    refine E_nif rfl (Int32.not_lt.mpr hle) ?_
    (repeat (first | refine E_st rfl ?_ | refine E_go rfl ?_))
    exact E_rt rfl ⟨rfl, rfl⟩
theorem o_planOrder0 {x y : Int32} (hx : x < 0 ∨ y < 0 ∨ nI (F 2 2) ≤ y) : pq_Ca (d + 2) 92 [.ref 1, .int x, .int y] (pq_Sh L, pn F, pl G, pq_rt h) (fun r M' => r = some (.int (-1)) ∧ M' = (pq_Sh L, pn (F), pl (G), pq_rt h)) := by
  refine Ca_mk rfl rfl ?_
  (repeat (first | refine E_st rfl ?_ | refine E_go rfl ?_))
  refine E_br rfl (fun c => ?_) (fun c => ?_)
  · (repeat (first | refine E_st rfl ?_ | refine E_go rfl ?_))
    exact E_rt rfl ⟨rfl, rfl⟩
  · (repeat (first | refine E_st rfl ?_ | refine E_go rfl ?_))
    refine E_cx rfl (by omega) (c_isSearcher0 (d := 0) (hx.resolve_left c)) ?_
    refine E_if rfl rfl ?_
    (repeat (first | refine E_st rfl ?_ | refine E_go rfl ?_))
    exact E_rt rfl ⟨rfl, rfl⟩
def bsF (F G : FF) (K : Nat) : FF := seF 56 (F 2 0) (G 2 1) K 13825 0 (eaF 56 (F 2 0) K (6 ^ K) (fgF F 56 (F 2 0) K))
/-- what the search from the best start answers -/
def bRes (F G : FF) (K : Nat) (r : Int32) : Prop := (bsF F G K 56 8 = N1 ∧ r = -4) ∨ ∃ k, k ≤ 13824 ∧ tCh (bsF F G K) 56 k (bsF F G K 56 8) ∧ r = nI k
set_option maxHeartbeats 1000000 in
theorem k_best {x : Int32} (hn : nOk F G) (hs : sOk F) (hK : K ≤ 3) (hr : bRes F G K x) : pq_Ca (d + 20) 96 [.ref 1, .int (nI K)] (pq_Sh L, pn F, pl G, pq_rt h) (fun r M' => r = some (.int x) ∧ M' = (pq_Sh L, pn (bsF F G K), pl (pq_u G 56 1 (G 2 1)), pq_rt h)) := by
  obtain ⟨n1, n2, n3, n4, n5, n6, n7, n8, n9, n10, n11, n12, n13, n14, n15, n16, n17, n18, n19, n20⟩ := hn
  have hinv := fg_inv (n := F 2 0) (K := K) (q := 56) (fun s h1 => (hs.1 s h1).2.1)
  have hst := t_allStarts (d := 0) (L := L) (G := pq_u G 56 1 (G 2 1)) (h := h) (q := 56) (Or.inr rfl) n1 hK hinv
  have hse := t_search (d := 0) (L := L) (h := h) (q := 56) (Or.inr rfl) n1 hK n6 (show pq_u G 56 1 (G 2 1) 56 1 = G 2 1 from rfl) (ea_inv n1 hK hinv (6 ^ K) (Nat.le_refl _))
  have hfg := t_forget (d := 0) (L := L) (F := pq_u (pq_u F 56 0 (F 2 0)) 56 2 K) (G := pq_u G 56 1 (G 2 1)) (h := h) (q := 56) (Or.inr rfl) hK
  refine Ca_mk rfl rfl ?_
  (repeat (first | refine E_st rfl ?_ | refine E_go rfl ?_))
  refine E_cx rfl (by omega) (s_prepare (d := 0) (q := 56) (Or.inr (Or.inl rfl)) (n := F 2 0) (w := G 2 1) (K := K)) ?_
  (repeat (first | refine E_st rfl ?_ | refine E_go rfl ?_))
  refine E_cx rfl (by omega) hfg ?_
  (repeat (first | refine E_st rfl ?_ | refine E_go rfl ?_))
  refine E_cx rfl (by omega) hst ?_
  (repeat (first | refine E_st rfl ?_ | refine E_go rfl ?_))
  refine E_cx rfl (by omega) hse ?_
  (repeat (first | refine E_st rfl ?_ | refine E_go rfl ?_))
  rcases hr with ⟨he, e2⟩ | ⟨k, hkl, hch, e2⟩
  · refine E_cx rfl (by omega) (t_turns0 (d := 0) (q := 56) (Or.inr rfl) he) ?_
    rw [e2]
    exact E_rt rfl ⟨rfl, rfl⟩
  · refine E_cx rfl (by omega) (t_turns (d := 0) (q := 56) (Or.inr rfl) hkl hch) ?_
    rw [e2]
    exact E_rt rfl ⟨rfl, rfl⟩
end PLN
end
section
/-! what the searches leave as it is; planMoves, leastSearchers, bestTurns -/
section PLO
variable {d L n K pa q : Nat} {F G : Nat → Nat → Nat} {h : Nat → Nat}
theorem en_off2 {s b p j : Nat} (hp : p < q ∨ q + 3 < p) : enF F q s b p j = F p j := en_off (fun z => by omega) (by omega) (by omega)
theorem ar_off {p j : Nat} (hp : p < q ∨ q + 3 < p) : ∀ (l : List (Nat × Nat)) (F : FF), arrs (tA q) l F p j = F p j := by
  intro l
  induction l with
  | nil => intro F; rfl
  | cons a l ih => intro F; show arrs (tA q) l (tA q a.1 a.2 F) p j = _; rw [ih]; exact en_off2 hp
theorem ss_off {p j sit : Nat} (hp : p < q ∨ q + 3 < p) : seStep q n pa K F sit p j = F p j := by
  unfold seStep
  rw [ar_off hp, plF_off _ _ _ _ _ (by omega), pu_at, if_neg (by omega)]
theorem se_off {p j : Nat} (hp : p < q ∨ q + 3 < p) : ∀ m i (F : FF), seF q n pa K m i F p j = F p j := by
  intro m
  induction m with
  | zero => intro i F; rfl
  | succ m ih =>
    intro i F
    show (if _ then _ else _ : FF) p j = _
    split
    · rw [ih, ss_off hp]
    · rfl
theorem es_off {p j x : Nat} (hp : p < q ∨ q + 3 < p) : esF F q n K x p j = F p j := by
  unfold esF
  split
  · exact en_off2 hp
  · rfl
theorem ea_off {p j : Nat} (hp : p < q ∨ q + 3 < p) : ∀ i, eaF q n K i F p j = F p j := by
  intro i
  induction i with
  | zero => rfl
  | succ i ih => show esF (plF (eaF q n K i F) (q + 1) K i) q n K (64 * i) p j = _; rw [es_off hp, plF_off _ _ _ _ _ (by omega), ih]
theorem fg_off {p j : Nat} (hp : p < q ∨ q + 3 < p) : fgF F q n K p j = F p j := by
  unfold fgF
  rw [pu_at, if_neg (by omega), pu_at, if_neg (by omega)]
  unfold clF
  rw [if_neg (by omega), pu_at, if_neg (by omega), pu_at, if_neg (by omega)]
theorem bs_off {p j : Nat} (hp : p < 56 ∨ 59 < p) : bsF F G K p j = F p j := by
  unfold bsF
  rw [se_off (by omega), ea_off (by omega), fg_off (by omega)]
theorem kp_off {p j : Nat} (hp : p < 52 ∨ 55 < p) (h1 : ¬ (p = 1 ∧ j = 6)) : kpF F G p j = F p j := by
  unfold kpF
  rw [pu_at, if_neg h1, se_off (by omega), en_off2 (by omega), fg_off (by omega)]
theorem seF_inv (hq : tOk q) (hn : n ≤ 6) (hK : K ≤ 3) : ∀ m i (F : FF), tInv q n K F → tInv q n K (seF q n pa K m i F) := by
  have hk := K_le hK
  intro m
  induction m with
  | zero => intro i F hI; exact hI
  | succ m ih =>
    intro i F hI
    show tInv q n K (if _ then _ else _ : FF)
    split
    · rename_i hc
      refine ih _ _ (se_inv hq hn hK hI ?_)
      have := hI.2.2.2.2.2 i hc.1
      omega
    · exact hI
theorem bs_inv (hn : nOk F G) (hs : sOk F) (hK : K ≤ 3) : tInv 56 (F 2 0) K (bsF F G K) :=
  seF_inv (Or.inr rfl) hn.1 hK _ _ _ (ea_inv hn.1 hK (fg_inv (fun s h1 => (hs.1 s h1).2.1)) _ (Nat.le_refl _))
theorem nm_sit {tp b : Nat} (hK : K ≤ 3) (ha : ∀ k, k < 3 → F tp k < 6) (hb : b < 64) : nmF F tp K * 64 + b < 64 * 6 ^ K := by
  have := nm_lt ha K hK
  omega
theorem kp_inv (hn : nOk F G) (hs : sOk F) : tInv 52 (F 2 0) (F 2 2) (pq_u (kpF F G) 1 6 (F 1 6)) := by
  obtain ⟨n1, n2, n3, n4, n5, n6, n7, n8, n9, n10, n11, n12, n13, n14, n15, n16, n17, n18, n19, n20⟩ := hn
  have h1 := seF_inv (pa := G 2 1) (Or.inl rfl) n1 n2 13825 0 _ (en_inv (b := N2) n2 (fg_inv (F := F) (n := F 2 0) (K := F 2 2) (q := 52) (fun s h1 => (hs.1 s h1).1)) (nm_sit (tp := 3) n2 n7 (n9 (F 2 5 % 8) (Nat.mod_lt _ (by decide)))) (by decide))
  obtain ⟨i0, i1, i2, i3, i4, i5⟩ := h1
  exact ⟨i0, i1, i2, i3, i4, i5⟩
theorem nOk_of {F' G' : FF} (hn : nOk F G) (h1 : ∀ p j, 2 ≤ p → p ≤ 9 → F' p j = F p j) (h2 : ∀ p j, 2 ≤ p → p ≤ 9 → G' p j = G p j) : nOk F' G' := by
  obtain ⟨n1, n2, n3, n4, n5, n6, n7, n8, n9, n10, n11, n12, n13, n14, n15, n16, n17, n18, n19, n20⟩ := hn
  have e : ∀ p j, 2 ≤ p → p ≤ 9 → F' p j = F p j := h1
  refine ⟨?_, ?_, ?_, ?_, ?_, ?_, fun k hk => ?_, fun k hk => ?_, fun k hk => ?_, fun k hk => ?_, ?_, ?_, ?_, ?_, ?_, ?_, ?_, ?_, ?_, fun k hk => ?_⟩
  · rw [e _ _ (by decide) (by decide)]; exact n1
  · rw [e _ _ (by decide) (by decide)]; exact n2
  · rw [e _ _ (by decide) (by decide)]; exact n3
  · rw [e _ _ (by decide) (by decide)]; exact n4
  · rw [e _ _ (by decide) (by decide)]; exact n5
  · rw [h2 _ _ (by decide) (by decide)]; exact n6
  · rw [e _ _ (by decide) (by decide)]; exact n7 k hk
  · rw [e _ _ (by decide) (by decide)]; exact n8 k hk
  · rw [e _ _ (by decide) (by decide)]; exact n9 k hk
  · rw [h2 _ _ (by decide) (by decide)]; exact n10 k hk
  · rw [e _ _ (by decide) (by decide), e _ _ (by decide) (by decide)]; exact n11
  · rw [e _ _ (by decide) (by decide)]; exact n12
  · rw [e _ _ (by decide) (by decide), e _ _ (by decide) (by decide)]; exact n13
  · rw [e _ _ (by decide) (by decide)]; exact n14
  · rw [e _ _ (by decide) (by decide)]; exact n15
  · rw [e _ _ (by decide) (by decide)]; exact n16
  · rw [e _ _ (by decide) (by decide)]; exact n17
  · rw [e _ _ (by decide) (by decide)]; exact n18
  · rw [e _ _ (by decide) (by decide)]; exact n19
  · rw [e _ _ (by decide) (by decide)]; exact n20 k hk
theorem bs_sOk (hn : nOk F G) (hs : sOk F) (hK : K ≤ 3) : sOk (bsF F G K) := by
  have hi := bs_inv hn hs hK
  refine ⟨fun s hs2 => ⟨?_, hi.2.2.2.2.1 s hs2, ?_⟩, ?_⟩
  · rw [bs_off (by omega)]; exact (hs.1 s hs2).1
  · rw [bs_off (by omega)]; exact (hs.1 s hs2).2.2
  · rw [bs_off (by omega)]; exact hs.2
theorem kp_sOk (hn : nOk F G) (hs : sOk F) : sOk (kpF F G) := by
  have hi := kp_inv hn hs
  refine ⟨fun s hs2 => ⟨hi.2.2.2.2.1 s hs2, ?_, ?_⟩, ?_⟩
  · rw [kp_off (by omega) (by omega)]; exact (hs.1 s hs2).2.1
  · rw [kp_off (by omega) (by omega)]; exact (hs.1 s hs2).2.2
  · rw [kp_off (by omega) (by omega)]; exact hs.2
theorem pu_off {F : FF} {p j a b v : Nat} (hp : ¬ p = a) : pq_u F a b v p j = F p j := by rw [pu_at, if_neg (fun z => hp z.1)]
theorem bs_nOk (hn : nOk F G) : nOk (bsF F G K) (pq_u G 56 1 (G 2 1)) := nOk_of hn (fun p j _ _ => bs_off (by omega)) (fun p j _ _ => pu_off (by omega))
theorem kp_nOk (hn : nOk F G) : nOk (kpF F G) (pq_u G 52 1 (G 2 1)) := nOk_of hn (fun p j _ _ => kp_off (by omega) (by omega)) (fun p j _ _ => pu_off (by omega))
theorem o_best {x : Int32} (hn : nOk F G) (hs : sOk F) (hK : K ≤ 3) (h1 : 1 ≤ K) (hr : bRes F G K x) : pq_Ca (d + 22) 97 [.ref 1, .int (nI K)] (pq_Sh L, pn F, pl G, pq_rt h) (fun r M' => r = some (.int x) ∧ M' = (pq_Sh L, pn (bsF F G K), pl (pq_u G 56 1 (G 2 1)), pq_rt h)) := by
  refine Ca_mk rfl rfl ?_
  (repeat (first | refine E_st rfl ?_ | refine E_go rfl ?_))
  refine E_nif rfl (by exact nI_nlt (b := 1) h1 (by omega)) ?_
  (repeat (first | refine E_st rfl ?_ | refine E_go rfl ?_))
  refine E_nif rfl (by exact nI_nlt (a := 3) (b := K) hK (by decide)) ?_
  (repeat (first | refine E_st rfl ?_ | refine E_go rfl ?_))
  refine E_cx rfl (by omega) (k_best (d := 0) hn hs hK hr) ?_
  exact E_rt rfl ⟨rfl, rfl⟩
theorem o_best0 {x : Int32} (hx : x < 1 ∨ 3 < x) : pq_Ca (d + 2) 97 [.ref 1, .int x] (pq_Sh L, pn F, pl G, pq_rt h) (fun r M' => r = some (.int (-1)) ∧ M' = (pq_Sh L, pn (F), pl (G), pq_rt h)) := by
  refine Ca_mk rfl rfl ?_
  (repeat (first | refine E_st rfl ?_ | refine E_go rfl ?_))
  refine E_br rfl (fun c => ?_) (fun c => ?_)
  · (repeat (first | refine E_st rfl ?_ | refine E_go rfl ?_))
    exact E_rt rfl ⟨rfl, rfl⟩
  · (repeat (first | refine E_st rfl ?_ | refine E_go rfl ?_))
    refine E_if rfl (hx.resolve_left c) ?_
    (repeat (first | refine E_st rfl ?_ | refine E_go rfl ?_))
    exact E_rt rfl ⟨rfl, rfl⟩
/-- leastSearchers: three searches, one behind the other -/
theorem o_least {x y z : Int32} (hn : nOk F G) (hs : sOk F) (h1 : bRes F G 1 x) (h2 : bRes (bsF F G 1) (pq_u G 56 1 (G 2 1)) 2 y) (h3 : bRes (bsF (bsF F G 1) (pq_u G 56 1 (G 2 1)) 2) (pq_u G 56 1 (G 2 1)) 3 z) :
    pq_Ca (d + 22) 95 [.ref 1] (pq_Sh L, pn F, pl G, pq_rt h) (fun r M' => r = some (.int (if x ≠ -4 then 1 else if y ≠ -4 then 2 else if z ≠ -4 then 3 else -4)) ∧ ∃ F', M' = (pq_Sh L, pn F', pl (pq_u G 56 1 (G 2 1)), pq_rt h) ∧ (∀ p j, p < 56 ∨ 59 < p → F' p j = F p j) ∧ sOk F') := by
  have eG : pq_u (pq_u G 56 1 (G 2 1)) 56 1 (pq_u G 56 1 (G 2 1) 2 1) = pq_u G 56 1 (G 2 1) := by
    funext p j
    simp only [pu_at]
    split
    · rw [if_neg (by decide)]
    · rfl
  have a1 := bs_nOk (K := 1) hn
  have b1 := bs_sOk (K := 1) hn hs (by decide)
  have a2 := bs_nOk (K := 2) a1
  have b2 := bs_sOk (K := 2) a1 b1 (by decide)
  rw [eG] at a2
  have b3 := bs_sOk (K := 3) a2 b2 (by decide)
  have c1 := k_best (d := 0) (L := L) (h := h) hn hs (by decide) h1
  have c2 := k_best (d := 0) (L := L) (h := h) a1 b1 (by decide) h2
  have c3 := k_best (d := 0) (L := L) (h := h) a2 b2 (by decide) h3
  rw [eG] at c2 c3
  refine Ca_mk rfl rfl ?_
  (repeat (first | refine E_st rfl ?_ | refine E_go rfl ?_))
  refine E_cx rfl (by omega) c1 ?_
  (repeat (first | refine E_st rfl ?_ | refine E_go rfl ?_))
  by_cases e1 : x = -4
  case neg =>
    refine E_nif rfl e1 ?_
    (repeat (first | refine E_st rfl ?_ | refine E_go rfl ?_))
    refine E_rt rfl ⟨?_, _, rfl, fun p j hp => bs_off hp, b1⟩
    rw [if_pos e1]; rfl
  refine E_if rfl e1 ?_
  rw [if_neg (fun q => q e1)]
  (repeat (first | refine E_st rfl ?_ | refine E_go rfl ?_))
  refine E_cx rfl (by omega) c2 ?_
  (repeat (first | refine E_st rfl ?_ | refine E_go rfl ?_))
  by_cases e2 : y = -4
  case neg =>
    refine E_nif rfl e2 ?_
    (repeat (first | refine E_st rfl ?_ | refine E_go rfl ?_))
    refine E_rt rfl ⟨?_, _, rfl, fun p j hp => by rw [bs_off hp, bs_off hp], b2⟩
    rw [if_pos e2]; rfl
  refine E_if rfl e2 ?_
  rw [if_neg (fun q => q e2)]
  (repeat (first | refine E_st rfl ?_ | refine E_go rfl ?_))
  refine E_cx rfl (by omega) c3 ?_
  (repeat (first | refine E_st rfl ?_ | refine E_go rfl ?_))
  by_cases e3 : z = -4
  case neg =>
    refine E_nif rfl e3 ?_
    (repeat (first | refine E_st rfl ?_ | refine E_go rfl ?_))
    refine E_rt rfl ⟨?_, _, rfl, fun p j hp => by rw [bs_off hp, bs_off hp, bs_off hp], b3⟩
    rw [if_pos e3]; rfl
  refine E_if rfl e3 ?_
  rw [if_neg (fun q => q e3)]
  (repeat (first | refine E_st rfl ?_ | refine E_go rfl ?_))
  refine E_if rfl (by decide) ?_
  (repeat (first | refine E_st rfl ?_ | refine E_go rfl ?_))
  refine E_rt rfl ⟨rfl, _, rfl, fun p j hp => by rw [bs_off hp, bs_off hp, bs_off hp], b3⟩
/-- planMoves -/
def pmF (F G : FF) : FF := fmS (pq_u (pq_u F 60 0 (F 2 0)) 60 2 (F 2 2)) (F 2 2) (nmF F 3 (F 2 2) * 64 + F 6 (F 2 5 % 8))
theorem o_planMoves (hn : nOk F G) (hs : sOk F) : pq_Ca (d + 20) 93 [.ref 1] (pq_Sh L, pn F, pl G, pq_rt h) (fun r M' => r = some (.int (oI (fmF (F 2 0) (G 2 1) (F 2 2) 41474 0 (pmF F G)).1)) ∧ M' = (pq_Sh L, pn ((fmF (F 2 0) (G 2 1) (F 2 2) 41474 0 (pmF F G)).2), pl (pq_u G 60 1 (G 2 1)), pq_rt h)) := by
  obtain ⟨n1, n2, n3, n4, n5, n6, n7, n8, n9, n10, n11, n12, n13, n14, n15, n16, n17, n18, n19, n20⟩ := hn
  have enm : ∀ k, nmF (pq_u (pq_u F 60 0 (F 2 0)) 60 2 (F 2 2)) 3 k = nmF F 3 k := by
    intro k
    induction k with
    | zero => rfl
    | succ k ih => show nmF _ 3 k * 6 + F 3 k = _; rw [ih]; rfl
  have h1 := s_number (d := 0) (L := L) (F := pq_u (pq_u F 60 0 (F 2 0)) 60 2 (F 2 2)) (G := pq_u G 60 1 (G 2 1)) (h := h) (q := 60) (Or.inr (Or.inr rfl)) (show F 2 2 ≤ 3 from n2) (s := F 6 (F 2 5 % 8))
  rw [show pq_u (pq_u F 60 0 (F 2 0)) 60 2 (F 2 2) 60 2 = F 2 2 from rfl, enm] at h1
  have h2 := m_few (d := 0) (L := L) (F := pq_u (pq_u F 60 0 (F 2 0)) 60 2 (F 2 2)) (G := pq_u G 60 1 (G 2 1)) (h := h) n1 n2 n6 (show pq_u G 60 1 (G 2 1) 60 1 = G 2 1 from rfl) rfl rfl hs.2 (fun s h3 => (hs.1 s h3).2.2) (nm_sit (tp := 3) n2 n7 (n9 (F 2 5 % 8) (Nat.mod_lt _ (by decide))))
  refine Ca_mk rfl rfl ?_
  (repeat (first | refine E_st rfl ?_ | refine E_go rfl ?_))
  refine E_cx rfl (by omega) (s_prepare (d := 0) (q := 60) (Or.inr (Or.inr rfl)) (n := F 2 0) (w := G 2 1) (K := F 2 2)) ?_
  (repeat (first | refine E_st rfl ?_ | refine E_go rfl ?_))
  refine E_cx rfl (by omega) (c_belief (d := 0)) ?_
  (repeat (first | refine E_st rfl ?_ | refine E_go rfl ?_))
  refine E_cx rfl (by omega) h1 ?_
  (repeat (first | refine E_st rfl ?_ | refine E_go rfl ?_))
  refine E_cx rfl (by omega) h2 ?_
  exact E_rt rfl ⟨rfl, rfl⟩
end PLO
end
section
/-! the number of bits, as the library counts it -/
theorem sp_and (h c M m : Nat) (hc : c < 256) (hm : m < 256) : (256 * h + c) &&& (256 * M + m) = 256 * (h &&& M) + (c &&& m) := by
  have hcm : c &&& m < 256 := Nat.lt_of_le_of_lt Nat.and_le_left hc
  apply Nat.eq_of_testBit_eq
  intro i
  have e1 := Nat.testBit_two_pow_mul_add h (i := 8) hc i
  have e2 := Nat.testBit_two_pow_mul_add M (i := 8) hm i
  have e3 := Nat.testBit_two_pow_mul_add (h &&& M) (i := 8) hcm i
  rw [show (2 : Nat) ^ 8 = 256 from rfl] at e1 e2 e3
  rw [Nat.testBit_and, e1, e2, e3]
  split
  · rw [Nat.testBit_and]
  · rw [Nat.testBit_and]
def y1 (M w : Nat) : Nat := w - (w / 2 &&& M)
def y2 (M w : Nat) : Nat := (w &&& M) + (w / 4 &&& M)
def y3 (M w : Nat) : Nat := (w + w / 16) &&& M
def b8 (c : Nat) : Nat := c % 2 + c / 2 % 2 + c / 4 % 2 + c / 8 % 2 + c / 16 % 2 + c / 32 % 2 + c / 64 % 2 + c / 128 % 2
set_option maxRecDepth 100000 in
theorem by1 : ∀ c, c < 256 → ∀ r, r < 2 → (128 * r + c / 2) &&& 85 = c / 2 &&& 85 := by decide
set_option maxRecDepth 100000 in
theorem by2 : ∀ c, c < 256 → ∀ r, r < 4 → (64 * r + c / 4) &&& 51 = c / 4 &&& 51 := by decide
set_option maxRecDepth 100000 in
theorem by3 : ∀ c, c < 256 → (y2 51 (y1 85 c) < 69 ∧ y2 51 (y1 85 c) % 16 ≤ 4 ∧ y1 85 c < 256 ∧ y3 15 (y2 51 (y1 85 c)) = b8 c ∧ b8 c ≤ 8) := by decide
set_option maxRecDepth 100000 in
theorem by4 : ∀ c, c < 69 → ∀ r, r < 5 → (16 * r + c + c / 16) &&& 15 = y3 15 c := by decide
theorem st1 (h c M : Nat) (hc : c < 256) : y1 (256 * M + 85) (256 * h + c) = 256 * y1 M h + y1 85 c := by
  unfold y1
  have e : (256 * h + c) / 2 = 256 * (h / 2) + (128 * (h % 2) + c / 2) := by omega
  rw [e, sp_and _ _ _ _ (by omega) (by decide), by1 c hc _ (by omega)]
  have a1 : h / 2 &&& M ≤ h / 2 := Nat.and_le_left
  have a2 : c / 2 &&& 85 ≤ c / 2 := Nat.and_le_left
  generalize h / 2 &&& M = x at *
  generalize c / 2 &&& 85 = y at *
  omega
theorem st2 (h c M : Nat) (hc : c < 256) : y2 (256 * M + 51) (256 * h + c) = 256 * y2 M h + y2 51 c := by
  unfold y2
  have e : (256 * h + c) / 4 = 256 * (h / 4) + (64 * (h % 4) + c / 4) := by omega
  rw [e, sp_and _ _ _ _ hc (by decide), sp_and _ _ _ _ (by omega) (by decide), by2 c hc _ (by omega)]
  generalize h / 4 &&& M = x at *
  generalize c / 4 &&& 51 = y at *
  generalize h &&& M = z at *
  generalize c &&& 51 = t at *
  omega
theorem st3 (h c M : Nat) (hc : c < 69) (hh : h % 16 ≤ 4) : y3 (256 * M + 15) (256 * h + c) = 256 * y3 M h + y3 15 c := by
  have e : 256 * h + c + (256 * h + c) / 16 = 256 * (h + h / 16) + (16 * (h % 16) + c + c / 16) := by omega
  unfold y3
  rw [e, sp_and _ _ _ _ (by omega) (by decide), by4 c hc _ (by omega)]
  rfl
/-- one byte more -/
theorem st4 (h c A B C : Nat) (hc : c < 256) (hh : y2 B (y1 A h) % 16 ≤ 4) : y3 (256 * C + 15) (y2 (256 * B + 51) (y1 (256 * A + 85) (256 * h + c))) = 256 * y3 C (y2 B (y1 A h)) + b8 c ∧ y2 (256 * B + 51) (y1 (256 * A + 85) (256 * h + c)) % 16 ≤ 4 := by
  have h3 := by3 c hc
  rw [st1 _ _ _ hc, st2 _ _ _ h3.2.2.1, st3 _ _ _ h3.1 hh, h3.2.2.2.1]
  exact ⟨rfl, by omega⟩
set_option maxRecDepth 100000 in
theorem by5 : ∀ c, c < 16 → y3 0x0f0f0f0f (y2 0x33333333 (y1 0x55555555 c)) = b8 c ∧ y2 0x33333333 (y1 0x55555555 c) % 16 ≤ 4 := by decide
def bc (w : Nat) : Nat → Nat
  | 0 => 0
  | i + 1 => bc w i + w / 2 ^ i % 2
theorem pop36 (w : Nat) (hw : w < 2 ^ 36) : y3 0x0f0f0f0f0f0f0f0f (y2 0x3333333333333333 (y1 0x5555555555555555 w)) = b8 (w % 256) + 256 * (b8 (w / 256 % 256) + 256 * (b8 (w / 65536 % 256) + 256 * (b8 (w / 16777216 % 256) + 256 * b8 (w / 4294967296)))) := by
  have h5 := by5 (w / 4294967296) (by omega)
  have h4 := st4 (w / 4294967296) (w / 16777216 % 256) 0x55555555 0x33333333 0x0f0f0f0f (by omega) h5.2
  have h3 := st4 _ (w / 65536 % 256) _ _ (256 * 0x0f0f0f0f + 15) (by omega) h4.2
  have h2 := st4 _ (w / 256 % 256) _ _ (256 * (256 * 0x0f0f0f0f + 15) + 15) (by omega) h3.2
  have h1 := st4 _ (w % 256) _ _ (256 * (256 * (256 * 0x0f0f0f0f + 15) + 15) + 15) (by omega) h2.2
  have e : 256 * (256 * (256 * (256 * (w / 4294967296) + w / 16777216 % 256) + w / 65536 % 256) + w / 256 % 256) + w % 256 = w := by omega
  rw [e, h2.1, h3.1, h4.1, h5.1] at h1
  have h1 := h1.1
  simp only [Nat.reduceMul, Nat.reduceAdd] at h1
  rw [h1]
  omega
theorem bc_8 (w : Nat) : bc w 8 = b8 (w % 256) := by
  have e1 : w % 256 % 2 = w % 2 := by omega
  have e2 : w % 256 / 2 % 2 = w / 2 % 2 := by omega
  have e3 : w % 256 / 4 % 2 = w / 4 % 2 := by omega
  have e4 : w % 256 / 8 % 2 = w / 8 % 2 := by omega
  have e5 : w % 256 / 16 % 2 = w / 16 % 2 := by omega
  have e6 : w % 256 / 32 % 2 = w / 32 % 2 := by omega
  have e7 : w % 256 / 64 % 2 = w / 64 % 2 := by omega
  have e8 : w % 256 / 128 % 2 = w / 128 % 2 := by omega
  unfold b8
  rw [e1, e2, e3, e4, e5, e6, e7, e8]
  simp only [bc, Nat.reducePow, Nat.div_one, Nat.zero_add]
theorem bc_add (w i : Nat) : ∀ j, bc w (i + j) = bc w i + bc (w / 2 ^ i) j := by
  intro j
  induction j with
  | zero => rfl
  | succ j ih => show bc w (i + j) + w / 2 ^ (i + j) % 2 = bc w i + (bc (w / 2 ^ i) j + w / 2 ^ i / 2 ^ j % 2); rw [ih, Nat.div_div_eq_div_mul, ← Nat.pow_add]; omega
theorem bc_36 (w : Nat) (hw : w < 2 ^ 36) : bc w 36 = b8 (w % 256) + b8 (w / 256 % 256) + b8 (w / 65536 % 256) + b8 (w / 16777216 % 256) + b8 (w / 4294967296) := by
  have h1 := bc_add w 8 28
  have h2 := bc_add (w / 2 ^ 8) 8 20
  have h3 := bc_add (w / 2 ^ 8 / 2 ^ 8) 8 12
  have h4 := bc_add (w / 2 ^ 8 / 2 ^ 8 / 2 ^ 8) 8 4
  have e1 : w / 2 ^ 8 = w / 256 := rfl
  have e2 : w / 256 / 2 ^ 8 = w / 65536 := by omega
  have e3 : w / 65536 / 2 ^ 8 = w / 16777216 := by omega
  have e4 : w / 16777216 / 2 ^ 8 = w / 4294967296 := by omega
  rw [e1, e2, e3, e4, bc_8] at h4
  rw [e1, e2, e3, bc_8] at h3
  rw [e1, e2, bc_8] at h2
  rw [e1, bc_8] at h1
  have h5 : bc (w / 4294967296) 4 = b8 (w / 4294967296) := by
    have hl : w / 4294967296 < 16 := by omega
    generalize w / 4294967296 = c at hl
    unfold b8
    simp only [bc, Nat.reducePow, Nat.div_one, Nat.zero_add]
    omega
  rw [show (8 : Nat) + 28 = 36 from rfl] at h1
  rw [show (8 : Nat) + 20 = 28 from rfl] at h2
  rw [show (8 : Nat) + 12 = 20 from rfl] at h3
  rw [show (8 : Nat) + 4 = 12 from rfl] at h4
  rw [h1, h2, h3, h4, h5]
  omega
theorem b8_le (c : Nat) : b8 c ≤ 8 := by unfold b8; omega
theorem pop_end (w x : Nat) (hw : w < 2 ^ 36) (hx : x = y3 0x0f0f0f0f0f0f0f0f (y2 0x3333333333333333 (y1 0x5555555555555555 w))) : (x + x / 256 + (x + x / 256) / 65536 + (x + x / 256 + (x + x / 256) / 65536) / 4294967296) % 128 = bc w 36 := by
  rw [pop36 w hw] at hx
  rw [bc_36 w hw]
  have a0 := b8_le (w % 256)
  have a1 := b8_le (w / 256 % 256)
  have a2 := b8_le (w / 65536 % 256)
  have a3 := b8_le (w / 16777216 % 256)
  have a4 := b8_le (w / 4294967296)
  generalize b8 (w % 256) = p0 at *
  generalize b8 (w / 256 % 256) = p1 at *
  generalize b8 (w / 65536 % 256) = p2 at *
  generalize b8 (w / 16777216 % 256) = p3 at *
  generalize b8 (w / 4294967296) = p4 at *
  clear hw
  have e1 : x + x / 256 = (p0 + p1) + 256 * (p1 + p2) + 65536 * (p2 + p3) + 16777216 * (p3 + p4) + 4294967296 * p4 := by omega
  rw [e1]
  have e2 : (p0 + p1) + 256 * (p1 + p2) + 65536 * (p2 + p3) + 16777216 * (p3 + p4) + 4294967296 * p4 + ((p0 + p1) + 256 * (p1 + p2) + 65536 * (p2 + p3) + 16777216 * (p3 + p4) + 4294967296 * p4) / 65536 = (p0 + p1 + p2 + p3) + 256 * (p1 + p2 + p3 + p4) + 65536 * (p2 + p3 + p4) + 16777216 * (p3 + p4) + 4294967296 * p4 := by omega
  rw [e2]
  have e3 : ((p0 + p1 + p2 + p3) + 256 * (p1 + p2 + p3 + p4) + 65536 * (p2 + p3 + p4) + 16777216 * (p3 + p4) + 4294967296 * p4) / 4294967296 = p4 := by omega
  rw [e3]
  omega
section BIT
variable {d L : Nat} {F G : Nat → Nat → Nat} {h : Nat → Nat}
theorem zl_add (a b : Nat) : lN a + lN b = lN (a + b) := by
  apply zl_inj
  simp [lN]
theorem zl_sub {a b : Nat} (hb : b ≤ a) : lN a - lN b = lN (a - b) := by
  have e : lN a = lN (a - b) + lN b := by rw [zl_add, Nat.sub_add_cancel hb]
  rw [e]
  simp
theorem zl_i (a : Nat) : (lN a).toInt32 = nI a := by
  apply Int32.toBitVec_inj.1
  simp [lN, nI]
set_option maxHeartbeats 1000000 in
theorem c_bitCount {w : Nat} (hw : w < 2 ^ 36) : pq_Ca (d + 1) 0 [.long (lN w)] (pq_Sh L, pn F, pl G, pq_rt h) (fun r M' => r = some (.int (nI (bc w 36))) ∧ M' = (pq_Sh L, pn (F), pl (G), pq_rt h)) := by
  refine Ca_mk rfl rfl ?_
  (repeat (first | refine E_st rfl ?_ | refine E_go rfl ?_))
  refine E_rt rfl ⟨?_, rfl⟩
  have s1 : w >>> 1 &&& 6148914691236517205 ≤ w := Nat.le_trans Nat.and_le_left (by rw [Nat.shiftRight_eq_div_pow]; omega)
  rw [zl_shr (n := w) (Nat.lt_trans hw (by decide)) (by decide), zl_and, zl_sub s1]
  have e1 : w - (w >>> 1 &&& 6148914691236517205) = y1 0x5555555555555555 w := by unfold y1; rw [Nat.shiftRight_eq_div_pow]
  rw [e1]
  have b1 : y1 0x5555555555555555 w < 2 ^ 36 := by rw [← e1]; omega
  have hpe := pop_end w _ hw rfl
  generalize y1 0x5555555555555555 w = x1 at *
  rw [zl_shr (n := x1) (Nat.lt_trans b1 (by decide)) (by decide), zl_and, zl_and, zl_add]
  have e2 : (x1 &&& 3689348814741910323) + (x1 >>> 2 &&& 3689348814741910323) = y2 0x3333333333333333 x1 := by unfold y2; rw [Nat.shiftRight_eq_div_pow]
  have b2 : y2 0x3333333333333333 x1 < 2 ^ 37 := by
    rw [← e2]
    have a1 : x1 &&& 3689348814741910323 ≤ x1 := Nat.and_le_left
    have a2 : x1 >>> 2 &&& 3689348814741910323 ≤ x1 := Nat.le_trans Nat.and_le_left (by rw [Nat.shiftRight_eq_div_pow]; omega)
    omega
  rw [e2]
  generalize y2 0x3333333333333333 x1 = x2 at *
  rw [zl_shr (n := x2) (Nat.lt_trans b2 (by decide)) (by decide), zl_add, zl_and]
  have e3 : (x2 + x2 >>> 4) &&& 1085102592571150095 = y3 0x0f0f0f0f0f0f0f0f x2 := by unfold y3; rw [Nat.shiftRight_eq_div_pow]
  have b3 : y3 0x0f0f0f0f0f0f0f0f x2 < 2 ^ 38 := by
    have a1 : y3 0x0f0f0f0f0f0f0f0f x2 ≤ x2 + x2 / 16 := Nat.and_le_left
    omega
  rw [e3]
  generalize y3 0x0f0f0f0f0f0f0f0f x2 = x3 at *
  rw [zl_shr (n := x3) (Nat.lt_trans b3 (by decide)) (by decide), zl_add, show x3 >>> 8 = x3 / 256 from Nat.shiftRight_eq_div_pow _ _]
  rw [zl_shr (n := x3 + x3 / 256) (by omega) (by decide), zl_add, show (x3 + x3 / 256) >>> 16 = (x3 + x3 / 256) / 65536 from Nat.shiftRight_eq_div_pow _ _]
  rw [zl_shr (n := x3 + x3 / 256 + (x3 + x3 / 256) / 65536) (by omega) (by decide), zl_add, show (x3 + x3 / 256 + (x3 + x3 / 256) / 65536) >>> 32 = (x3 + x3 / 256 + (x3 + x3 / 256) / 65536) / 4294967296 from Nat.shiftRight_eq_div_pow _ _]
  rw [zl_i, zi_and, show (127 : Nat) = 2 ^ 7 - 1 from rfl, Nat.and_two_pow_sub_one_eq_mod, show (2 : Nat) ^ 7 = 128 from rfl, hpe]
end BIT
section LAY
variable {d L : Nat} {F G : Nat → Nat → Nat} {h : Nat → Nat}
theorem zi_sub {a b : Nat} (hb : b ≤ a) : nI a - nI b = nI (a - b) := by
  have e : nI a = nI (a - b) + nI b := by rw [nI_add, Nat.sub_add_cancel hb]
  rw [e]
  simp
theorem c_edges {e : Nat} (hw : G 2 1 < 2 ^ 36) (he : bc (G 2 1) 36 = F 2 0 + 2 * e) (hb : e < 36) : pq_Ca (d + 2) 57 [.ref 2] (pq_Sh L, pn F, pl G, pq_rt h) (fun r M' => r = some (.int (nI e)) ∧ M' = (pq_Sh L, pn (F), pl (G), pq_rt h)) := by
  refine Ca_mk rfl rfl ?_
  (repeat (first | refine E_st rfl ?_ | refine E_go rfl ?_))
  refine E_cx rfl (by omega) (c_bitCount (d := 0) hw) ?_
  rw [he]
  (iterate 3 (first | refine E_st rfl ?_ | refine E_go rfl ?_))
  rw [show pn F 2 0 = nI (F 2 0) from rfl, zi_sub (by omega), show F 2 0 + 2 * e - F 2 0 = e * 2 by omega]
  (repeat (first | refine E_st rfl ?_ | refine E_go rfl ?_))
  rw [pk_div (by omega) (by decide) (by decide), show e * 2 / 2 = e by omega]
  exact E_rt rfl ⟨rfl, rfl⟩
theorem rm1_off (hd : dOk F h) {j : Nat} (h2 : ¬ j = 2) (h6 : ¬ j = 6) : rmF F h 1 j = F 1 j := by
  have := rm_ge hd
  unfold rmF
  rw [pu_at, if_neg (fun q => h6 q.2), pu_at, if_neg (fun q => h2 q.2), cpF_off (by omega)]
  split
  · rfl
  · rw [pu_at, if_neg (fun q => h2 q.2)]
theorem o_lay0 (hn : F 2 0 ≤ 6) (ht : F 1 4 ≤ 60) (hch : ∀ i, i < 60 → F 51 i < 65536) (hf : ¬ fltI F 16 0 0 = -4) : pq_Ca (d + 5) 68 [.ref 1] (pq_Sh L, pn F, pl G, pq_rt h) (fun r M' => r = some (.int (-2)) ∧ M' = (pq_Sh L, pn (F), pl (G), pq_rt h)) := by
  refine Ca_mk rfl rfl ?_
  (repeat (first | refine E_st rfl ?_ | refine E_go rfl ?_))
  refine E_cx rfl (by omega) (o_fault (d := 0) hn ht hch) ?_
  (repeat (first | refine E_st rfl ?_ | refine E_go rfl ?_))
  refine E_nif rfl hf ?_
  (repeat (first | refine E_st rfl ?_ | refine E_go rfl ?_))
  exact E_rt rfl ⟨rfl, rfl⟩
noncomputable def lyG (F G : Nat → Nat → Nat) (h : Nat → Nat) : Nat → Nat → Nat := pq_u (rmG F G h) 2 1 (wStays (rmF F h 2 0) ||| txE (rmF F h) 16 0 0)
theorem o_lay {e : Nat} (hd : dOk F h) (hn : nOk F G) (ht : F 1 4 ≤ 60) (hch : ∀ i, i < 60 → F 51 i < 65536) (hf : fltI F 16 0 0 = -4) (hw : lyG F G h 2 1 < 2 ^ 36) (he : bc (lyG F G h 2 1) 36 = F 2 0 + 2 * e) (hb : e < 36) : pq_Ca (d + 6) 68 [.ref 1] (pq_Sh L, pn F, pl G, pq_rt h) (fun r M' => r = some (.int (nI e)) ∧ M' = (pq_Sh L, pn (reF (rmF F h)), pl (lyG F G h), pq_rt (rmH F h))) := by
  have hn2 := rm_nOk hd hn
  have e20 : reF (rmF F h) 2 0 = F 2 0 := (show reF (rmF F h) 2 0 = rmF F h 2 0 from rfl).trans (rmF_off hd (Or.inl (by decide)) (by decide))
  have ht2 : rmF F h 1 4 ≤ 60 := by rw [rm1_off hd (by decide) (by decide)]; exact ht
  have hch2 : ∀ i, i < 60 → rmF F h 51 i < 65536 := fun i hi => by rw [rmF_off hd (Or.inr (by decide)) (by decide)]; exact hch i hi
  refine Ca_mk rfl rfl ?_
  (repeat (first | refine E_st rfl ?_ | refine E_go rfl ?_))
  refine E_cx rfl (by omega) (o_fault (d := 0) hn.1 ht hch) ?_
  (repeat (first | refine E_st rfl ?_ | refine E_go rfl ?_))
  refine E_if rfl hf ?_
  (repeat (first | refine E_st rfl ?_ | refine E_go rfl ?_))
  refine E_cx rfl (by omega) (o_remember (d := 0) hd hn) ?_
  (repeat (first | refine E_st rfl ?_ | refine E_go rfl ?_))
  refine E_cx rfl (by omega) (c_texts (d := 0) hn2.1 ht2 hch2) ?_
  (repeat (first | refine E_st rfl ?_ | refine E_go rfl ?_))
  refine E_cx rfl (by omega) (c_replaceEdges (d := 0) hn2.2.1 (fun k hk => Nat.lt_trans (hn2.2.2.2.2.2.2.1 k hk) (by decide)) hn2.1) ?_
  (repeat (first | refine E_st rfl ?_ | refine E_go rfl ?_))
  refine E_cx rfl (by omega) (c_edges (d := 0) (e := e) hw (by rw [e20]; exact he) hb) ?_
  exact E_rt rfl ⟨rfl, rfl⟩
end LAY
end
section
/-! the model: its small methods. Places 63 model (states 2, typed 4), 64 d, 65 was, 66 text, 67 from, 68 to, 69 near, 70 best, 71 parent, 72 queue, 73 seen -/
def stM (F : Nat → Nat → Nat) : Nat → Nat
  | 0 => 1 <<< F 64 0 - 1
  | k + 1 => an (stM F k) (1 <<< F 64 (11 + k))
def bgM (F : Nat → Nat → Nat) : Nat → Nat → Nat := pq_u (pq_u (pq_u F 64 23 1) 64 24 (stM F (F 64 1))) 64 25 (if F 64 17 = 1 then F 64 18 else N1)
/-- bounds of what the model holds -/
def gOk (F : Nat → Nat → Nat) : Prop := 2 ≤ F 64 0 ∧ F 64 0 ≤ 6 ∧ F 64 1 ≤ 3 ∧ F 64 2 ≤ 10000 ∧ F 64 3 ≤ 9 ∧ F 64 4 ≤ 7 ∧ (∀ v, v < 6 → F 64 (5 + v) < 64) ∧ (∀ k, k < 3 → F 64 (11 + k) < 6) ∧ (∀ k, k < 3 → F 64 (14 + k) < 6) ∧ F 64 17 ≤ 1 ∧ F 64 18 < 6 ∧ F 64 19 < 6 ∧ F 64 20 ≤ 1 ∧ F 64 21 ≤ 10000 ∧ F 64 22 ≤ 10000 ∧ 1 ≤ F 64 23 ∧ F 64 23 ≤ 8 ∧ F 64 23 ≤ F 64 2 + 1 ∧ (∀ i, i < F 64 23 → F 64 (24 + 15 * i) < 64) ∧ F 63 2 ≤ 5
section MOA
variable {d L : Nat} {F G : Nat → Nat → Nat} {h : Nat → Nat}
theorem zi_mul (a b : Nat) : nI a * nI b = nI (a * b) := by
  apply Int32.toBitVec_inj.1
  simp [nI]
theorem zpred (n : Nat) (h : 1 ≤ n) : nI n - nI 1 = nI (n - 1) := zi_sub h
theorem g_in1 {x lo hi : Int32} (h1 : lo ≤ x) (h2 : x ≤ hi) : pq_Ca (d + 1) 104 [.int x, .int lo, .int hi] (pq_Sh L, pn F, pl G, pq_rt h) (fun r M' => r = some (.int 1) ∧ M' = (pq_Sh L, pn (F), pl (G), pq_rt h)) := by
  refine Ca_mk rfl rfl ?_
  (repeat (first | refine E_st rfl ?_ | refine E_go rfl ?_))
  refine E_nif rfl (Int32.not_lt.mpr h1) ?_
  (repeat (first | refine E_st rfl ?_ | refine E_go rfl ?_))
  refine E_nif rfl (Int32.not_lt.mpr h2) ?_
  (repeat (first | refine E_st rfl ?_ | refine E_go rfl ?_))
  exact E_rt rfl ⟨rfl, rfl⟩
theorem g_in0 {x lo hi : Int32} (h1 : x < lo ∨ hi < x) : pq_Ca (d + 1) 104 [.int x, .int lo, .int hi] (pq_Sh L, pn F, pl G, pq_rt h) (fun r M' => r = some (.int 0) ∧ M' = (pq_Sh L, pn (F), pl (G), pq_rt h)) := by
  refine Ca_mk rfl rfl ?_
  (repeat (first | refine E_st rfl ?_ | refine E_go rfl ?_))
  refine E_br rfl (fun c => ?_) (fun c => ?_)
  · (repeat (first | refine E_st rfl ?_ | refine E_go rfl ?_))
    exact E_rt rfl ⟨rfl, rfl⟩
  · (repeat (first | refine E_st rfl ?_ | refine E_go rfl ?_))
    refine E_if rfl (h1.resolve_left c) ?_
    (repeat (first | refine E_st rfl ?_ | refine E_go rfl ?_))
    exact E_rt rfl ⟨rfl, rfl⟩
theorem g_all (hn : F 64 0 ≤ 6) : pq_Ca (d + 1) 102 [.ref 63] (pq_Sh L, pn F, pl G, pq_rt h) (fun r M' => r = some (.int (nI (1 <<< F 64 0 - 1))) ∧ M' = (pq_Sh L, pn (F), pl (G), pq_rt h)) := by
  have h1 : 1 ≤ 1 <<< F 64 0 := by rw [Nat.one_shiftLeft]; exact Nat.one_le_two_pow
  refine Ca_mk rfl rfl ?_
  (repeat (first | refine E_st rfl ?_ | refine E_go rfl ?_))
  simp +decide only [nI_clamp, pn_at, pu_n, pu_l]
  rw [zi_shl 1 (by omega)]
  refine E_rt rfl ⟨?_, rfl⟩
  rw [zi_sub h1]
theorem g_isNode {v : Nat} (hv : v < F 64 0) (hn : F 64 0 ≤ 6) : pq_Ca (d + 2) 107 [.ref 63, .int (nI v)] (pq_Sh L, pn F, pl G, pq_rt h) (fun r M' => r = some (.int 1) ∧ M' = (pq_Sh L, pn (F), pl (G), pq_rt h)) := by
  refine Ca_mk rfl rfl ?_
  (iterate 8 (first | refine E_st rfl ?_ | refine E_go rfl ?_))
  simp +decide only [nI_clamp, pn_at, pu_n, pu_l]
  rw [zi_sub (by omega)]
  refine E_cx rfl (by omega) (g_in1 (d := 0) (nI_le (Nat.zero_le v) (by omega)) (nI_le (by omega) (by omega))) ?_
  exact E_rt rfl ⟨rfl, rfl⟩
theorem g_isNode0 {x : Int32} (hx : x < 0 ∨ nI (F 64 0) ≤ x) (h1 : 1 ≤ F 64 0) (hn : F 64 0 ≤ 6) : pq_Ca (d + 2) 107 [.ref 63, .int x] (pq_Sh L, pn F, pl G, pq_rt h) (fun r M' => r = some (.int 0) ∧ M' = (pq_Sh L, pn (F), pl (G), pq_rt h)) := by
  have h2 : x < 0 ∨ nI (F 64 0 - 1) < x := hx.imp id (fun z => Int32.lt_of_lt_of_le (nI_lt (by omega) (by omega)) z)
  refine Ca_mk rfl rfl ?_
  (iterate 8 (first | refine E_st rfl ?_ | refine E_go rfl ?_))
  simp +decide only [nI_clamp, pn_at, pu_n, pu_l]
  rw [zi_sub (by omega)]
  refine E_cx rfl (by omega) (g_in0 (d := 0) h2) ?_
  exact E_rt rfl ⟨rfl, rfl⟩
theorem g_isSearcher {v : Nat} (hv : v < F 64 1) (hn : F 64 1 ≤ 3) : pq_Ca (d + 2) 114 [.ref 63, .int (nI v)] (pq_Sh L, pn F, pl G, pq_rt h) (fun r M' => r = some (.int 1) ∧ M' = (pq_Sh L, pn (F), pl (G), pq_rt h)) := by
  refine Ca_mk rfl rfl ?_
  (iterate 8 (first | refine E_st rfl ?_ | refine E_go rfl ?_))
  simp +decide only [nI_clamp, pn_at, pu_n, pu_l]
  rw [zi_sub (by omega)]
  refine E_cx rfl (by omega) (g_in1 (d := 0) (nI_le (Nat.zero_le v) (by omega)) (nI_le (by omega) (by omega))) ?_
  exact E_rt rfl ⟨rfl, rfl⟩
theorem g_isSearcher0 {x : Int32} (hx : x < 0 ∨ nI (F 64 1) ≤ x) (hn : F 64 1 ≤ 3) : pq_Ca (d + 2) 114 [.ref 63, .int x] (pq_Sh L, pn F, pl G, pq_rt h) (fun r M' => r = some (.int 0) ∧ M' = (pq_Sh L, pn (F), pl (G), pq_rt h)) := by
  refine Ca_mk rfl rfl ?_
  (iterate 8 (first | refine E_st rfl ?_ | refine E_go rfl ?_))
  simp +decide only [nI_clamp, pn_at, pu_n, pu_l]
  by_cases h0 : F 64 1 = 0
  · refine E_cx rfl (by omega) (g_in0 (d := 0) ?_) ?_
    · rw [h0] at hx ⊢
      by_cases hc : x < 0
      · exact Or.inl hc
      · exact Or.inr (Int32.lt_of_lt_of_le (by decide) (Int32.not_lt.mp hc))
    · exact E_rt rfl ⟨rfl, rfl⟩
  · rw [zi_sub (by omega)]
    refine E_cx rfl (by omega) (g_in0 (d := 0) (hx.imp id (fun z => Int32.lt_of_lt_of_le (nI_lt (by omega) (by omega)) z))) ?_
    exact E_rt rfl ⟨rfl, rfl⟩
theorem g_last (h1 : 1 ≤ F 64 23) (h2 : F 64 23 ≤ 8) : pq_Ca (d + 1) 111 [.ref 63] (pq_Sh L, pn F, pl G, pq_rt h) (fun r M' => r = some (.int (nI (24 + 15 * (F 64 23 - 1)))) ∧ M' = (pq_Sh L, pn (F), pl (G), pq_rt h)) := by
  refine Ca_mk rfl rfl ?_
  (repeat (first | refine E_st rfl ?_ | refine E_go rfl ?_))
  simp +decide only [nI_clamp, pn_at, pu_n, pu_l]
  refine E_rt rfl ⟨?_, rfl⟩
  rw [zi_sub (by omega), zi_mul, nI_add]
theorem g_belief (h1 : 1 ≤ F 64 23) (h2 : F 64 23 ≤ 8) : pq_Ca (d + 2) 116 [.ref 63] (pq_Sh L, pn F, pl G, pq_rt h) (fun r M' => r = some (.int (nI (F 64 (24 + 15 * (F 64 23 - 1))))) ∧ M' = (pq_Sh L, pn (F), pl (G), pq_rt h)) := by
  refine Ca_mk rfl rfl ?_
  (repeat (first | refine E_st rfl ?_ | refine E_go rfl ?_))
  refine E_cx rfl (by omega) (g_last (d := 0) h1 h2) ?_
  refine E_ial rfl rfl (n := 144) (by omega) (by decide) ?_
  exact E_rt rfl ⟨rfl, rfl⟩
theorem g_isWay {a b : Nat} (ha : a < 6) (hb : b < 8) (hn : F 64 (5 + a) < 2 ^ 31) : pq_Ca (d + 1) 109 [.ref 63, .int (nI a), .int (nI b)] (pq_Sh L, pn F, pl G, pq_rt h) (fun r M' => r = some (.int (nI (if a = b ∨ (F 64 (5 + a)).testBit b then 1 else 0))) ∧ M' = (pq_Sh L, pn (F), pl (G), pq_rt h)) := by
  by_cases e : a = b
  · rw [if_pos (Or.inl e)]
    refine Ca_mk rfl rfl ?_
    (repeat (first | refine E_st rfl ?_ | refine E_go rfl ?_))
    refine E_if rfl (by rw [e]) ?_
    (repeat (first | refine E_st rfl ?_ | refine E_go rfl ?_))
    exact E_rt rfl ⟨rfl, rfl⟩
  have ne : ¬ nI a = nI b := fun z => e ((zi_eq (by omega) (by omega)).mp z)
  refine Ca_mk rfl rfl ?_
  (repeat (first | refine E_st rfl ?_ | refine E_go rfl ?_))
  refine E_nif rfl ne ?_
  (iterate 5 (first | refine E_st rfl ?_ | refine E_go rfl ?_))
  rw [nI_add]
  refine E_ial rfl rfl (n := 144) (by omega) (by decide) ?_
  (iterate 5 (first | refine E_st rfl ?_ | refine E_go rfl ?_))
  rw [zi_shr hn (by omega), zi_and, zb_and1]
  by_cases c : (F 64 (5 + a)).testBit b = true
  · rw [if_pos c, if_pos (Or.inr c)]
    refine E_if rfl rfl ?_
    (repeat (first | refine E_st rfl ?_ | refine E_go rfl ?_))
    exact E_rt rfl ⟨rfl, rfl⟩
  · rw [if_neg c, if_neg (fun z => z.elim e c)]
    refine E_nif rfl (show ¬ nI 0 = nI 1 by decide) ?_
    (repeat (first | refine E_st rfl ?_ | refine E_go rfl ?_))
    exact E_rt rfl ⟨rfl, rfl⟩
theorem l_begins (hn : F 64 0 ≤ 6) (hK : F 64 1 ≤ 3) (ha : ∀ k, k < 3 → F 64 (11 + k) < 6) (h17 : F 64 17 ≤ 1) : ∀ m k, k + m = F 64 1 → pq_Ev (d + 1) 101 7 [some (.ref 63), some (.int (nI (stM F k))), some (.int (nI k))] [] (pq_Sh L, pn F, pl G, pq_rt h) (fun r M' => r = none ∧ M' = (pq_Sh L, pn (bgM F), pl (G), pq_rt h)) := by
  intro m
  induction m with
  | zero =>
    intro k hk
    have hk : k = F 64 1 := by omega
    (repeat (first | refine E_st rfl ?_ | refine E_go rfl ?_))
    simp +decide only [nI_clamp, pn_at, pu_n, pu_l]
    refine E_nif rfl (nI_nlt (by omega) (by omega)) ?_
    (repeat (first | refine E_st rfl ?_ | refine E_go rfl ?_))
    simp +decide only [nI_clamp, pn_at, pu_n, pu_l]
    rw [show pq_u (pq_u F 64 23 1) 64 24 (stM F k) 64 17 = F 64 17 from rfl]
    by_cases c : F 64 17 = 1
    · refine E_if rfl (by rw [c]) ?_
      (repeat (first | refine E_st rfl ?_ | refine E_go rfl ?_))
      simp +decide only [nI_clamp, pn_at, pu_n, pu_l]
      refine E_rt rfl ⟨rfl, ?_⟩
      unfold bgM
      rw [if_pos c, hk]
      rfl
    · refine E_nif rfl (fun z => c ((zi_eq (by omega) (by decide)).mp z)) ?_
      (repeat (first | refine E_st rfl ?_ | refine E_go rfl ?_))
      rw [zm1]
      simp +decide only [nI_clamp, pn_at, pu_n, pu_l]
      refine E_rt rfl ⟨rfl, ?_⟩
      unfold bgM
      rw [if_neg c, hk]
  | succ m ih =>
    intro k hk
    (repeat (first | refine E_st rfl ?_ | refine E_go rfl ?_))
    simp +decide only [nI_clamp, pn_at, pu_n, pu_l]
    refine E_if rfl (nI_lt (by omega) (by omega)) ?_
    (iterate 7 (first | refine E_st rfl ?_ | refine E_go rfl ?_))
    rw [nI_add]
    refine E_ial rfl rfl (n := 144) (by omega) (by decide) ?_
    (iterate 4 (first | refine E_st rfl ?_ | refine E_go rfl ?_))
    have := ha k (by omega)
    rw [zi_shl 1 (by omega)]
    rw [zi_not]
    (iterate 3 (first | refine E_st rfl ?_ | refine E_go rfl ?_))
    rw [nI_add]
    exact ih (k + 1) (by omega)
theorem g_begins (hn : F 64 0 ≤ 6) (hK : F 64 1 ≤ 3) (ha : ∀ k, k < 3 → F 64 (11 + k) < 6) (h17 : F 64 17 ≤ 1) : pq_Ca (d + 2) 101 [.ref 63] (pq_Sh L, pn F, pl G, pq_rt h) (fun r M' => r = none ∧ M' = (pq_Sh L, pn (bgM F), pl (G), pq_rt h)) := by
  refine Ca_mk rfl rfl ?_
  (repeat (first | refine E_st rfl ?_ | refine E_go rfl ?_))
  refine E_cx rfl (by omega) (g_all (d := 0) hn) ?_
  (iterate 3 (first | refine E_st rfl ?_ | refine E_go rfl ?_))
  exact l_begins hn hK ha h17 (F 64 1) 0 (by omega)
end MOA
end
section
/-! the model: records, undo -/
def sh1 (F : Nat → Nat → Nat) (k : Nat) : Nat → Nat → Nat := fun p j => if p = 65 ∧ j < k then F 65 (j + 144) else F p j
def sh2 (F : Nat → Nat → Nat) (b k : Nat) : Nat → Nat → Nat := fun p j => if p = 65 ∧ b ≤ j ∧ j < b + k then F 64 (j - b) else F p j
def sh3 (F : Nat → Nat → Nat) (b k : Nat) : Nat → Nat → Nat := fun p j => if p = 64 ∧ j < k then F 65 (b + j) else F p j
def rcK (F : Nat → Nat → Nat) : Nat := if F 63 2 = 5 then 4 else F 63 2
def rcM (F : Nat → Nat → Nat) : Nat → Nat → Nat := pq_u (sh2 (if F 63 2 = 5 then pq_u (sh1 F 576) 63 2 4 else F) (144 * rcK F) 144) 63 2 (rcK F + 1)
section MOB
variable {d L : Nat} {F G : Nat → Nat → Nat} {h : Nat → Nat}
theorem sh1_s (k : Nat) : pq_u (sh1 F k) 65 k (F 65 (k + 144)) = sh1 F (k + 1) := by
  funext p j
  simp only [pu_at, sh1]
  by_cases c : p = 65 ∧ j = k
  · rw [if_pos c, if_pos ⟨c.1, by omega⟩, c.2]
  · rw [if_neg c]
    by_cases c2 : p = 65 ∧ j < k
    · rw [if_pos c2, if_pos ⟨c2.1, by omega⟩]
    · rw [if_neg c2, if_neg (by omega)]
theorem sh2_s (b k : Nat) : pq_u (sh2 F b k) 65 (b + k) (F 64 k) = sh2 F b (k + 1) := by
  funext p j
  simp only [pu_at, sh2]
  by_cases c : p = 65 ∧ j = b + k
  · rw [if_pos c, if_pos ⟨c.1, by omega, by omega⟩, c.2, show b + k - b = k by omega]
  · rw [if_neg c]
    by_cases c2 : p = 65 ∧ b ≤ j ∧ j < b + k
    · rw [if_pos c2, if_pos ⟨c2.1, by omega, by omega⟩]
    · rw [if_neg c2, if_neg (by omega)]
theorem sh3_s (b k : Nat) : pq_u (sh3 F b k) 64 k (F 65 (b + k)) = sh3 F b (k + 1) := by
  funext p j
  simp only [pu_at, sh3]
  by_cases c : p = 64 ∧ j = k
  · rw [if_pos c, if_pos ⟨c.1, by omega⟩, c.2]
  · rw [if_neg c]
    by_cases c2 : p = 64 ∧ j < k
    · rw [if_pos c2, if_pos ⟨c2.1, by omega⟩]
    · rw [if_neg c2, if_neg (by omega)]
theorem sh2_0 (b : Nat) : sh2 F b 0 = F := by
  funext p j
  simp only [sh2]
  rw [if_neg (by omega)]
theorem sh1_0 : sh1 F 0 = F := by
  funext p j
  simp only [sh1]
  rw [if_neg (by omega)]
theorem sh3_0 (b : Nat) : sh3 F b 0 = F := by
  funext p j
  simp only [sh3]
  rw [if_neg (by omega)]
theorem l_rec2 (hs : F 63 2 ≤ 4) : ∀ m k, k + m = 144 → pq_Ev d 105 51 [some (.ref 63), some (.int (nI k))] [] (pq_Sh L, pn (sh2 F (144 * F 63 2) k), pl G, pq_rt h) (fun r M' => r = none ∧ M' = (pq_Sh L, pn (pq_u (sh2 F (144 * F 63 2) 144) 63 2 (F 63 2 + 1)), pl (G), pq_rt h)) := by
  intro m
  induction m with
  | zero =>
    intro k hk
    have hk : k = 144 := by omega
    subst hk
    (repeat (first | refine E_st rfl ?_ | refine E_go rfl ?_))
    refine E_nif rfl (by decide) ?_
    (repeat (first | refine E_st rfl ?_ | refine E_go rfl ?_))
    simp +decide only [nI_clamp, pn_at, pu_n, pu_l]
    rw [show sh2 F (144 * F 63 2) 144 63 2 = F 63 2 from rfl, nI_add]
    simp +decide only [nI_clamp, pn_at, pu_n, pu_l]
    exact E_rt rfl ⟨rfl, rfl⟩
  | succ m ih =>
    intro k hk
    (repeat (first | refine E_st rfl ?_ | refine E_go rfl ?_))
    refine E_if rfl (nI_lt (by omega) (by decide)) ?_
    (iterate 8 (first | refine E_st rfl ?_ | refine E_go rfl ?_))
    simp +decide only [nI_clamp, pn_at, pu_n, pu_l]
    rw [show sh2 F (144 * F 63 2) k 63 2 = F 63 2 from rfl, zi_mul, nI_add]
    (iterate 3 (first | refine E_st rfl ?_ | refine E_go rfl ?_))
    refine E_ial rfl rfl (n := 144) (by omega) (by decide) ?_
    rw [show sh2 F (144 * F 63 2) k 64 k = F 64 k from rfl]
    refine E_ias rfl rfl (n := 720) (by omega) (by decide) (by decide) ?_
    (iterate 2 (first | refine E_st rfl ?_ | refine E_go rfl ?_))
    rw [sh2_s, nI_add]
    exact ih (k + 1) (by omega)
theorem l_rec1 (hs : F 63 2 = 5) : ∀ m k, k + m = 576 → pq_Ev d 105 10 [some (.ref 63), some (.int (nI k))] [] (pq_Sh L, pn (sh1 F k), pl G, pq_rt h) (fun r M' => r = none ∧ M' = (pq_Sh L, pn (rcM F), pl (G), pq_rt h)) := by
  intro m
  induction m with
  | zero =>
    intro k hk
    have hk : k = 576 := by omega
    subst hk
    (repeat (first | refine E_st rfl ?_ | refine E_go rfl ?_))
    refine E_nif rfl (by decide) ?_
    (iterate 8 (first | refine E_st rfl ?_ | refine E_go rfl ?_))
    simp +decide only [nI_clamp, pn_at, pu_n, pu_l]
    rw [show sh1 F 576 63 2 = F 63 2 from rfl, hs, show nI 5 - nI 1 = nI 4 by decide]
    simp +decide only [nI_clamp, pn_at, pu_n, pu_l]
    have := l_rec2 (d := d) (L := L) (G := G) (h := h) (F := pq_u (sh1 F 576) 63 2 4) (show 4 ≤ 4 from Nat.le_refl _) 144 0 rfl
    rw [sh2_0] at this
    have e : rcM F = pq_u (sh2 (pq_u (sh1 F 576) 63 2 4) (144 * 4) 144) 63 2 (4 + 1) := by unfold rcM rcK; rw [if_pos hs, if_pos hs]
    rw [e]
    exact this
  | succ m ih =>
    intro k hk
    (repeat (first | refine E_st rfl ?_ | refine E_go rfl ?_))
    refine E_if rfl (nI_lt (by omega) (by decide)) ?_
    (iterate 8 (first | refine E_st rfl ?_ | refine E_go rfl ?_))
    rw [nI_add]
    refine E_ial rfl rfl (n := 720) (by omega) (by decide) ?_
    rw [show sh1 F k 65 (k + 144) = F 65 (k + 144) by simp only [sh1]; rw [if_neg (by omega)]]
    refine E_ias rfl rfl (n := 720) (by omega) (by decide) (by decide) ?_
    (iterate 2 (first | refine E_st rfl ?_ | refine E_go rfl ?_))
    rw [sh1_s, nI_add]
    exact ih (k + 1) (by omega)
theorem g_records (hs : F 63 2 ≤ 5) : pq_Ca (d + 1) 105 [.ref 63] (pq_Sh L, pn F, pl G, pq_rt h) (fun r M' => r = none ∧ M' = (pq_Sh L, pn (rcM F), pl (G), pq_rt h)) := by
  refine Ca_mk rfl rfl ?_
  (repeat (first | refine E_st rfl ?_ | refine E_go rfl ?_))
  by_cases c : F 63 2 = 5
  · refine E_if rfl (by rw [pn_at, c]) ?_
    (iterate 2 (first | refine E_st rfl ?_ | refine E_go rfl ?_))
    have := l_rec1 (d := d) (L := L) (G := G) (h := h) c 576 0 rfl
    rw [sh1_0] at this
    exact this
  · refine E_nif rfl (fun z => c ((zi_eq (by omega) (by decide)).mp z)) ?_
    (iterate 2 (first | refine E_st rfl ?_ | refine E_go rfl ?_))
    have := l_rec2 (d := d) (L := L) (G := G) (h := h) (F := F) (by omega) 144 0 rfl
    rw [sh2_0] at this
    have e : rcM F = pq_u (sh2 F (144 * F 63 2) 144) 63 2 (F 63 2 + 1) := by unfold rcM rcK; rw [if_neg c, if_neg c]
    rw [e]
    exact this
end MOB
end
section
/-! the model: reset, put, leave, order, release, beliefAfter, undo -/
def la (F : Nat → Nat → Nat) : Nat := 24 + 15 * (F 64 23 - 1)
def ptM1 (F : Nat → Nat → Nat) (v : Nat) : Nat → Nat → Nat := pq_u (pq_u (pq_u F 64 (11 + F 64 1) v) 64 (14 + F 64 1) v) 64 1 (F 64 1 + 1)
def ptM2 (F : Nat → Nat → Nat) (v : Nat) : Nat → Nat → Nat := pq_u (ptM1 F v) 64 (la F) (an (F 64 (la F)) (1 <<< v))
def ptM (F : Nat → Nat → Nat) (v : Nat) : Nat → Nat → Nat := if F 64 17 = 1 ∧ F 64 20 = 0 ∧ F 64 18 = v then pq_u (pq_u (pq_u (ptM2 F v) 64 20 1) 64 21 (F 64 2)) 64 19 v else ptM2 F v
def nrM (F : Nat → Nat → Nat) (k : Nat) : Nat → Nat → Nat := fun p j => if p = 64 ∧ 5 ≤ j ∧ j < 5 + k then 0 else F p j
def rsM (F : Nat → Nat → Nat) (n : Nat) : Nat → Nat → Nat := pq_u (pq_u (pq_u (pq_u F 64 0 n) 64 1 0) 64 2 0) 64 17 0
section MOC
variable {d L : Nat} {F G : Nat → Nat → Nat} {h : Nat → Nat}
theorem rc_off {p j : Nat} (h1 : ¬ p = 65) (h2 : ¬ (p = 63 ∧ j = 2)) : rcM F p j = F p j := by
  unfold rcM
  rw [pu_at, if_neg h2]
  simp only [sh2]
  rw [if_neg (fun z => h1 z.1)]
  split
  · rw [pu_at, if_neg h2]
    simp only [sh1]
    rw [if_neg (fun z => h1 z.1)]
  · rfl
theorem rc64 (j : Nat) : rcM F 64 j = F 64 j := rc_off (by decide) (by omega)
theorem rc_2 (hs : F 63 2 ≤ 5) : rcM F 63 2 ≤ 5 := by
  unfold rcM
  rw [pu_at, if_pos ⟨rfl, rfl⟩]
  unfold rcK
  split <;> omega
theorem gOk_of {F' : FF} (hg : gOk F) (h1 : ∀ j, F' 64 j = F 64 j) (h2 : F' 63 2 ≤ 5) : gOk F' := by
  unfold gOk at hg ⊢
  simp only [h1]
  obtain ⟨g0, g1, g2, g3, g4, g5, g6, g7, g8, g9, g10, g11, g12, g13, g14, g15, g16, g17, g18, g19⟩ := hg
  exact ⟨g0, g1, g2, g3, g4, g5, g6, g7, g8, g9, g10, g11, g12, g13, g14, g15, g16, g17, g18, h2⟩
theorem rc_gOk (hg : gOk F) : gOk (rcM F) := gOk_of hg rc64 (rc_2 hg.2.2.2.2.2.2.2.2.2.2.2.2.2.2.2.2.2.2.2)
theorem g_leave0 (h0 : F 64 1 = 0) : pq_Ca (d + 2) 112 [.ref 63] (pq_Sh L, pn F, pl G, pq_rt h) (fun r M' => r = some (.int (-2)) ∧ M' = (pq_Sh L, pn (F), pl (G), pq_rt h)) := by
  refine Ca_mk rfl rfl ?_
  (repeat (first | refine E_st rfl ?_ | refine E_go rfl ?_))
  simp +decide only [nI_clamp, pn_at, pu_n, pu_l]
  refine E_if rfl (by rw [h0]; rfl) ?_
  (repeat (first | refine E_st rfl ?_ | refine E_go rfl ?_))
  exact E_rt rfl ⟨rfl, rfl⟩
theorem g_leave (hg : gOk F) (h0 : 0 < F 64 1) : pq_Ca (d + 2) 112 [.ref 63] (pq_Sh L, pn F, pl G, pq_rt h) (fun r M' => r = some (.int (nI (F 64 1 - 1))) ∧ M' = (pq_Sh L, pn (pq_u (rcM F) 64 1 (F 64 1 - 1)), pl (G), pq_rt h)) := by
  obtain ⟨g0, g1, g2, g3, g4, g5, g6, g7, g8, g9, g10, g11, g12, g13, g14, g15, g16, g17, g18, g19⟩ := hg
  refine Ca_mk rfl rfl ?_
  (repeat (first | refine E_st rfl ?_ | refine E_go rfl ?_))
  simp +decide only [nI_clamp, pn_at, pu_n, pu_l]
  refine E_nif rfl (nI_ne0 (by omega) (by omega)) ?_
  (repeat (first | refine E_st rfl ?_ | refine E_go rfl ?_))
  refine E_cx rfl (by omega) (g_records (d := 0) g19) ?_
  (iterate 7 (first | refine E_st rfl ?_ | refine E_go rfl ?_))
  simp +decide only [nI_clamp, pn_at, pu_n, pu_l]
  rw [rc64, zi_sub (by omega)]
  (repeat (first | refine E_st rfl ?_ | refine E_go rfl ?_))
  simp +decide only [nI_clamp, pn_at, pu_n, pu_l]
  exact E_rt rfl ⟨rfl, rfl⟩
theorem g_release (hg : gOk F) : pq_Ca (d + 3) 115 [.ref 63] (pq_Sh L, pn F, pl G, pq_rt h) (fun r M' => r = some (.int (nI (bgM (rcM F) 64 24))) ∧ M' = (pq_Sh L, pn (bgM (rcM F)), pl (G), pq_rt h)) := by
  have hg2 := rc_gOk hg
  obtain ⟨g0, g1, g2, g3, g4, g5, g6, g7, g8, g9, g10, g11, g12, g13, g14, g15, g16, g17, g18, g19⟩ := hg
  obtain ⟨r0, r1, r2, r3, r4, r5, r6, r7, r8, r9, r10, r11, r12, r13, r14, r15, r16, r17, r18, r19⟩ := hg2
  refine Ca_mk rfl rfl ?_
  (repeat (first | refine E_st rfl ?_ | refine E_go rfl ?_))
  refine E_cx rfl (by omega) (g_records (d := 0) g19) ?_
  (repeat (first | refine E_st rfl ?_ | refine E_go rfl ?_))
  refine E_cx rfl (by omega) (g_begins (d := 0) r1 r2 r7 r9) ?_
  (repeat (first | refine E_st rfl ?_ | refine E_go rfl ?_))
  simp +decide only [nI_clamp, pn_at, pu_n, pu_l]
  exact E_rt rfl ⟨rfl, rfl⟩
theorem g_order0 {x y : Int32} (hg : gOk F) (hx : x < 0 ∨ nI (F 64 1) ≤ x) : pq_Ca (d + 3) 113 [.ref 63, .int x, .int y] (pq_Sh L, pn F, pl G, pq_rt h) (fun r M' => r = some (.int (-1)) ∧ M' = (pq_Sh L, pn (F), pl (G), pq_rt h)) := by
  refine Ca_mk rfl rfl ?_
  (repeat (first | refine E_st rfl ?_ | refine E_go rfl ?_))
  refine E_cx rfl (by omega) (g_isSearcher0 (d := 0) hx hg.2.2.1) ?_
  refine E_if rfl rfl ?_
  (repeat (first | refine E_st rfl ?_ | refine E_go rfl ?_))
  exact E_rt rfl ⟨rfl, rfl⟩
theorem g_order1 {k : Nat} {y : Int32} (hg : gOk F) (hk : k < F 64 1) (hy : y < 0 ∨ nI (F 64 0) ≤ y) : pq_Ca (d + 3) 113 [.ref 63, .int (nI k), .int y] (pq_Sh L, pn F, pl G, pq_rt h) (fun r M' => r = some (.int (-1)) ∧ M' = (pq_Sh L, pn (F), pl (G), pq_rt h)) := by
  have := hg.1
  refine Ca_mk rfl rfl ?_
  (repeat (first | refine E_st rfl ?_ | refine E_go rfl ?_))
  refine E_cx rfl (by omega) (g_isSearcher (d := 0) hk hg.2.2.1) ?_
  refine E_nif rfl (by decide) ?_
  (repeat (first | refine E_st rfl ?_ | refine E_go rfl ?_))
  refine E_cx rfl (by omega) (g_isNode0 (d := 0) hy (by omega) hg.2.1) ?_
  refine E_if rfl rfl ?_
  (repeat (first | refine E_st rfl ?_ | refine E_go rfl ?_))
  exact E_rt rfl ⟨rfl, rfl⟩
/-- whether a way leads from a to b -/
def wayM (F : Nat → Nat → Nat) (a b : Nat) : Prop := a = b ∨ (F 64 (5 + a)).testBit b = true
theorem g_way1 {a b : Nat} (ha : a < 6) (hb : b < 8) (hn : F 64 (5 + a) < 64) (hw : wayM F a b) : pq_Ca (d + 1) 109 [.ref 63, .int (nI a), .int (nI b)] (pq_Sh L, pn F, pl G, pq_rt h) (fun r M' => r = some (.int (nI 1)) ∧ M' = (pq_Sh L, pn (F), pl (G), pq_rt h)) := by
  have := g_isWay (d := d) (L := L) (G := G) (h := h) ha hb (Nat.lt_trans hn (by decide))
  unfold wayM at hw
  rw [if_pos hw] at this
  exact this
theorem g_way0 {a b : Nat} (ha : a < 6) (hb : b < 8) (hn : F 64 (5 + a) < 64) (hw : ¬ wayM F a b) : pq_Ca (d + 1) 109 [.ref 63, .int (nI a), .int (nI b)] (pq_Sh L, pn F, pl G, pq_rt h) (fun r M' => r = some (.int (nI 0)) ∧ M' = (pq_Sh L, pn (F), pl (G), pq_rt h)) := by
  have := g_isWay (d := d) (L := L) (G := G) (h := h) ha hb (Nat.lt_trans hn (by decide))
  unfold wayM at hw
  rw [if_neg hw] at this
  exact this
theorem g_order2 {k v : Nat} (hg : gOk F) (hk : k < F 64 1) (hv : v < F 64 0) (hw : ¬ wayM F (F 64 (11 + k)) v) : pq_Ca (d + 3) 113 [.ref 63, .int (nI k), .int (nI v)] (pq_Sh L, pn F, pl G, pq_rt h) (fun r M' => r = some (.int (-2)) ∧ M' = (pq_Sh L, pn (F), pl (G), pq_rt h)) := by
  obtain ⟨g0, g1, g2, g3, g4, g5, g6, g7, g8, g9, g10, g11, g12, g13, g14, g15, g16, g17, g18, g19⟩ := hg
  have h7 := g7 k (by omega)
  refine Ca_mk rfl rfl ?_
  (repeat (first | refine E_st rfl ?_ | refine E_go rfl ?_))
  refine E_cx rfl (by omega) (g_isSearcher (d := 0) hk g2) ?_
  refine E_nif rfl (by decide) ?_
  (repeat (first | refine E_st rfl ?_ | refine E_go rfl ?_))
  refine E_cx rfl (by omega) (g_isNode (d := 0) hv g1) ?_
  refine E_nif rfl (by decide) ?_
  (iterate 6 (first | refine E_st rfl ?_ | refine E_go rfl ?_))
  rw [nI_add]
  refine E_ial rfl rfl (n := 144) (by omega) (by decide) ?_
  (repeat (first | refine E_st rfl ?_ | refine E_go rfl ?_))
  refine E_cx rfl (by omega) (g_way0 (d := 0) h7 (by omega) (g6 _ h7) hw) ?_
  refine E_if rfl rfl ?_
  (repeat (first | refine E_st rfl ?_ | refine E_go rfl ?_))
  exact E_rt rfl ⟨rfl, rfl⟩
theorem g_order {k v : Nat} (hg : gOk F) (hk : k < F 64 1) (hv : v < F 64 0) (hw : wayM F (F 64 (11 + k)) v) : pq_Ca (d + 3) 113 [.ref 63, .int (nI k), .int (nI v)] (pq_Sh L, pn F, pl G, pq_rt h) (fun r M' => r = some (.int (nI (F 64 (14 + k)))) ∧ M' = (pq_Sh L, pn (pq_u (rcM F) 64 (14 + k) v), pl (G), pq_rt h)) := by
  obtain ⟨g0, g1, g2, g3, g4, g5, g6, g7, g8, g9, g10, g11, g12, g13, g14, g15, g16, g17, g18, g19⟩ := hg
  have h7 := g7 k (by omega)
  refine Ca_mk rfl rfl ?_
  (repeat (first | refine E_st rfl ?_ | refine E_go rfl ?_))
  refine E_cx rfl (by omega) (g_isSearcher (d := 0) hk g2) ?_
  refine E_nif rfl (by decide) ?_
  (repeat (first | refine E_st rfl ?_ | refine E_go rfl ?_))
  refine E_cx rfl (by omega) (g_isNode (d := 0) hv g1) ?_
  refine E_nif rfl (by decide) ?_
  (iterate 6 (first | refine E_st rfl ?_ | refine E_go rfl ?_))
  rw [nI_add]
  refine E_ial rfl rfl (n := 144) (by omega) (by decide) ?_
  (repeat (first | refine E_st rfl ?_ | refine E_go rfl ?_))
  refine E_cx rfl (by omega) (g_way1 (d := 0) h7 (by omega) (g6 _ h7) hw) ?_
  refine E_nif rfl (by decide) ?_
  (repeat (first | refine E_st rfl ?_ | refine E_go rfl ?_))
  refine E_cx rfl (by omega) (g_records (d := 0) g19) ?_
  (iterate 5 (first | refine E_st rfl ?_ | refine E_go rfl ?_))
  rw [nI_add]
  refine E_ial rfl rfl (n := 144) (by omega) (by decide) ?_
  (iterate 7 (first | refine E_st rfl ?_ | refine E_go rfl ?_))
  rw [nI_add]
  refine E_ias rfl rfl (n := 144) (by omega) (by decide) (by decide) ?_
  (repeat (first | refine E_st rfl ?_ | refine E_go rfl ?_))
  rw [rc64]
  exact E_rt rfl ⟨rfl, rfl⟩
end MOC
end
section
section MOD
variable {d L : Nat} {F G : Nat → Nat → Nat} {h : Nat → Nat}
theorem g_put0 {x : Int32} (hg : gOk F) (hx : x < 0 ∨ nI (F 64 0) ≤ x) : pq_Ca (d + 3) 110 [.ref 63, .int x] (pq_Sh L, pn F, pl G, pq_rt h) (fun r M' => r = some (.int (-1)) ∧ M' = (pq_Sh L, pn (F), pl (G), pq_rt h)) := by
  have := hg.1
  refine Ca_mk rfl rfl ?_
  (repeat (first | refine E_st rfl ?_ | refine E_go rfl ?_))
  refine E_cx rfl (by omega) (g_isNode0 (d := 0) hx (by omega) hg.2.1) ?_
  refine E_if rfl rfl ?_
  (repeat (first | refine E_st rfl ?_ | refine E_go rfl ?_))
  exact E_rt rfl ⟨rfl, rfl⟩
theorem g_put3 {v : Nat} (hg : gOk F) (hv : v < F 64 0) (h3 : F 64 1 = 3) : pq_Ca (d + 3) 110 [.ref 63, .int (nI v)] (pq_Sh L, pn F, pl G, pq_rt h) (fun r M' => r = some (.int (-3)) ∧ M' = (pq_Sh L, pn (F), pl (G), pq_rt h)) := by
  refine Ca_mk rfl rfl ?_
  (repeat (first | refine E_st rfl ?_ | refine E_go rfl ?_))
  refine E_cx rfl (by omega) (g_isNode (d := 0) hv hg.2.1) ?_
  refine E_nif rfl (by decide) ?_
  (repeat (first | refine E_st rfl ?_ | refine E_go rfl ?_))
  simp +decide only [nI_clamp, pn_at, pu_n, pu_l]
  refine E_if rfl (by rw [h3]) ?_
  (repeat (first | refine E_st rfl ?_ | refine E_go rfl ?_))
  exact E_rt rfl ⟨rfl, rfl⟩
theorem g_putA {v : Nat} (hg : gOk F) (hv : v < F 64 0) (h3 : F 64 1 < 3) {z : Option Value} : pq_Ev (d + 1) 110 27 [some (.ref 63), some (.int (nI v)), z] [] (pq_Sh L, pn F, pl G, pq_rt h) (fun r M' => r = some (.int (nI (F 64 1))) ∧ M' = (pq_Sh L, pn (ptM F v), pl (G), pq_rt h)) := by
  obtain ⟨g0, g1, g2, g3, g4, g5, g6, g7, g8, g9, g10, g11, g12, g13, g14, g15, g16, g17, g18, g19⟩ := hg
  have e23 : ptM1 F v 64 23 = F 64 23 := by
    unfold ptM1
    rw [pu_at, if_neg (by omega), pu_at, if_neg (by omega), pu_at, if_neg (by omega)]
  have ela : ptM1 F v 64 (24 + 15 * (F 64 23 - 1)) = F 64 (la F) := by
    unfold ptM1 la
    rw [pu_at, if_neg (by omega), pu_at, if_neg (by omega), pu_at, if_neg (by omega)]
  have eo : ∀ j, 17 ≤ j → j < 24 → ptM2 F v 64 j = F 64 j := by
    intro j h1 h2
    unfold ptM2 ptM1 la
    rw [pu_at, if_neg (by omega), pu_at, if_neg (by omega), pu_at, if_neg (by omega), pu_at, if_neg (by omega)]
  have e2 : ptM2 F v 64 2 = F 64 2 := by
    unfold ptM2 ptM1 la
    rw [pu_at, if_neg (by omega), pu_at, if_neg (by omega), pu_at, if_neg (by omega), pu_at, if_neg (by omega)]
  have hla := g_last (d := 0) (L := L) (F := ptM1 F v) (G := G) (h := h) (by omega) (by omega)
  rw [e23] at hla
  (iterate 5 (first | refine E_st rfl ?_ | refine E_go rfl ?_))
  simp +decide only [nI_clamp, pn_at, pu_n, pu_l]
  (iterate 5 (first | refine E_st rfl ?_ | refine E_go rfl ?_))
  rw [nI_add]
  (iterate 1 (first | refine E_st rfl ?_ | refine E_go rfl ?_))
  refine E_ias rfl rfl (n := 144) (by omega) (by decide) (by decide) ?_
  (iterate 5 (first | refine E_st rfl ?_ | refine E_go rfl ?_))
  rw [nI_add]
  (iterate 1 (first | refine E_st rfl ?_ | refine E_go rfl ?_))
  refine E_ias rfl rfl (n := 144) (by omega) (by decide) (by decide) ?_
  (iterate 7 (first | refine E_st rfl ?_ | refine E_go rfl ?_))
  simp +decide only [nI_clamp, pn_at, pu_n, pu_l]
  have e1 : pq_u (pq_u F 64 (11 + F 64 1) v) 64 (14 + F 64 1) v 64 1 = F 64 1 := by
    rw [pu_at, if_neg (by omega), pu_at, if_neg (by omega)]
  rw [e1, nI_add]
  (iterate 1 (first | refine E_st rfl ?_ | refine E_go rfl ?_))
  simp +decide only [nI_clamp, pn_at, pu_n, pu_l]
  rw [show pq_u (pq_u (pq_u F 64 (11 + F 64 1) v) 64 (14 + F 64 1) v) 64 1 (F 64 1 + 1) = ptM1 F v from rfl]
  (repeat (first | refine E_st rfl ?_ | refine E_go rfl ?_))
  refine E_cx rfl (by omega) hla ?_
  (iterate 1 (first | refine E_st rfl ?_ | refine E_go rfl ?_))
  refine E_ial rfl rfl (n := 144) (by omega) (by decide) ?_
  rw [ela]
  (iterate 6 (first | refine E_st rfl ?_ | refine E_go rfl ?_))
  rw [zi_shl 1 (by omega), zi_not]
  refine E_ias rfl rfl (n := 144) (by omega) (by decide) (by decide) ?_
  rw [show pq_u (ptM1 F v) 64 (24 + 15 * (F 64 23 - 1)) (an (F 64 (la F)) (1 <<< v)) = ptM2 F v from rfl]
  (repeat (first | refine E_st rfl ?_ | refine E_go rfl ?_))
  simp +decide only [nI_clamp, pn_at, pu_n, pu_l]
  rw [eo 17 (by decide) (by decide)]
  by_cases c1 : F 64 17 = 1
  case neg =>
    refine E_nif rfl (fun z => c1 ((zi_eq (by omega) (by decide)).mp z)) ?_
    (repeat (first | refine E_st rfl ?_ | refine E_go rfl ?_))
    refine E_rt rfl ⟨rfl, ?_⟩
    unfold ptM
    rw [if_neg (fun z => c1 z.1)]
  refine E_if rfl (by rw [c1]) ?_
  (repeat (first | refine E_st rfl ?_ | refine E_go rfl ?_))
  simp +decide only [nI_clamp, pn_at, pu_n, pu_l]
  rw [eo 20 (by decide) (by decide)]
  by_cases c2 : F 64 20 = 0
  case neg =>
    refine E_nif rfl (nI_ne0 (by omega) (by omega)) ?_
    (repeat (first | refine E_st rfl ?_ | refine E_go rfl ?_))
    refine E_rt rfl ⟨rfl, ?_⟩
    unfold ptM
    rw [if_neg (fun z => c2 z.2.1)]
  refine E_if rfl (by rw [c2]; rfl) ?_
  (repeat (first | refine E_st rfl ?_ | refine E_go rfl ?_))
  simp +decide only [nI_clamp, pn_at, pu_n, pu_l]
  rw [eo 18 (by decide) (by decide)]
  by_cases c3 : F 64 18 = v
  case neg =>
    refine E_nif rfl (fun z => c3 ((zi_eq (by omega) (by omega)).mp z)) ?_
    (repeat (first | refine E_st rfl ?_ | refine E_go rfl ?_))
    refine E_rt rfl ⟨rfl, ?_⟩
    unfold ptM
    rw [if_neg (fun z => c3 z.2.2)]
  refine E_if rfl (by rw [c3]) ?_
  (repeat (first | refine E_st rfl ?_ | refine E_go rfl ?_))
  simp +decide only [nI_clamp, pn_at, pu_n, pu_l]
  refine E_rt rfl ⟨rfl, ?_⟩
  unfold ptM
  rw [if_pos ⟨c1, c2, c3⟩, show pq_u (ptM2 F v) 64 20 1 64 2 = ptM2 F v 64 2 from rfl, e2]
theorem g_put {v : Nat} (hg : gOk F) (hv : v < F 64 0) (h3 : F 64 1 < 3) : pq_Ca (d + 3) 110 [.ref 63, .int (nI v)] (pq_Sh L, pn F, pl G, pq_rt h) (fun r M' => r = some (.int (nI (F 64 1))) ∧ M' = (pq_Sh L, pn (ptM (rcM F) v), pl (G), pq_rt h)) := by
  have hg2 := rc_gOk hg
  have := g_putA (d := d + 1) (L := L) (G := G) (h := h) (F := rcM F) (z := none) hg2 (by rw [rc64]; exact hv) (by rw [rc64]; exact h3)
  rw [rc64] at this
  refine Ca_mk rfl rfl ?_
  (repeat (first | refine E_st rfl ?_ | refine E_go rfl ?_))
  refine E_cx rfl (by omega) (g_isNode (d := 0) hv hg.2.1) ?_
  refine E_nif rfl (by decide) ?_
  (repeat (first | refine E_st rfl ?_ | refine E_go rfl ?_))
  simp +decide only [nI_clamp, pn_at, pu_n, pu_l]
  refine E_nif rfl (fun z => (by omega : ¬ F 64 1 = 3) ((zi_eq (by omega) (by decide)).mp z)) ?_
  (repeat (first | refine E_st rfl ?_ | refine E_go rfl ?_))
  refine E_cx rfl (by omega) (g_records (d := 0) hg.2.2.2.2.2.2.2.2.2.2.2.2.2.2.2.2.2.2.2) ?_
  exact this
end MOD
end
section
section MOE
variable {d L : Nat} {F G : Nat → Nat → Nat} {h : Nat → Nat}
theorem nI_neg {m : Nat} (h1 : 2 ^ 31 ≤ m) (h2 : m < 2 ^ 32) : nI m < 0 := by
  rw [Int32.lt_iff_toInt_lt]
  have e : (nI m).toInt = (m : Int).bmod (2 ^ 32) := by
    simp [nI, Int32.toInt_ofNat']
  rw [e]
  show (m : Int).bmod (2 ^ 32) < 0
  rw [Int.bmod_def]
  omega
theorem zi_subneg {a b : Nat} (hab : a < b) (hb : b < 2 ^ 31) : nI a - nI b < 0 := by
  have e1 : nI (2 ^ 32 - (b - a)) + nI b = nI a := by
    rw [nI_add]
    rw [show 2 ^ 32 - (b - a) + b = 2 ^ 32 + a by omega]
    apply Int32.toBitVec_inj.1
    simp [nI]
  have e2 : nI a - nI b = nI (2 ^ 32 - (b - a)) := by
    rw [← e1]
    simp
  rw [e2]
  exact nI_neg (by omega) (by omega)
theorem g_keptAt {t : Nat} (hg : gOk F) (ht : t ≤ F 64 2) (hk : F 64 2 - t < F 64 23) : pq_Ca (d + 1) 118 [.ref 63, .int (nI t)] (pq_Sh L, pn F, pl G, pq_rt h) (fun r M' => r = some (.int (nI (24 + 15 * (F 64 23 - 1 - (F 64 2 - t))))) ∧ M' = (pq_Sh L, pn (F), pl (G), pq_rt h)) := by
  obtain ⟨g0, g1, g2, g3, g4, g5, g6, g7, g8, g9, g10, g11, g12, g13, g14, g15, g16, g17, g18, g19⟩ := hg
  refine Ca_mk rfl rfl ?_
  (repeat (first | refine E_st rfl ?_ | refine E_go rfl ?_))
  simp +decide only [nI_clamp, pn_at, pu_n, pu_l]
  rw [zi_sub (by omega), zi_sub ht, zi_sub (by omega)]
  refine E_nif rfl (by exact nI_nlt (Nat.zero_le _) (by omega)) ?_
  (repeat (first | refine E_st rfl ?_ | refine E_go rfl ?_))
  refine E_rt rfl ⟨?_, rfl⟩
  rw [zi_mul, nI_add]
theorem g_keptAt0 {t : Nat} (hg : gOk F) (ht : t ≤ F 64 2) (hk : ¬ F 64 2 - t < F 64 23) : pq_Ca (d + 1) 118 [.ref 63, .int (nI t)] (pq_Sh L, pn F, pl G, pq_rt h) (fun r M' => r = some (.int (-1)) ∧ M' = (pq_Sh L, pn (F), pl (G), pq_rt h)) := by
  obtain ⟨g0, g1, g2, g3, g4, g5, g6, g7, g8, g9, g10, g11, g12, g13, g14, g15, g16, g17, g18, g19⟩ := hg
  refine Ca_mk rfl rfl ?_
  (repeat (first | refine E_st rfl ?_ | refine E_go rfl ?_))
  simp +decide only [nI_clamp, pn_at, pu_n, pu_l]
  rw [zi_sub (by omega), zi_sub ht]
  refine E_if rfl (by exact zi_subneg (by omega) (by omega)) ?_
  (repeat (first | refine E_st rfl ?_ | refine E_go rfl ?_))
  exact E_rt rfl ⟨rfl, rfl⟩
theorem g_bafter0 {x : Int32} (hx : x < 0 ∨ nI (F 64 2) < x) : pq_Ca (d + 2) 117 [.ref 63, .int x] (pq_Sh L, pn F, pl G, pq_rt h) (fun r M' => r = some (.int (-1)) ∧ M' = (pq_Sh L, pn (F), pl (G), pq_rt h)) := by
  refine Ca_mk rfl rfl ?_
  (repeat (first | refine E_st rfl ?_ | refine E_go rfl ?_))
  simp +decide only [nI_clamp, pn_at, pu_n, pu_l]
  refine E_cx rfl (by omega) (g_in0 (d := 0) hx) ?_
  refine E_if rfl rfl ?_
  (repeat (first | refine E_st rfl ?_ | refine E_go rfl ?_))
  exact E_rt rfl ⟨rfl, rfl⟩
theorem g_bafter4 {t : Nat} (hg : gOk F) (ht : t ≤ F 64 2) (hk : ¬ F 64 2 - t < F 64 23) : pq_Ca (d + 2) 117 [.ref 63, .int (nI t)] (pq_Sh L, pn F, pl G, pq_rt h) (fun r M' => r = some (.int (-4)) ∧ M' = (pq_Sh L, pn (F), pl (G), pq_rt h)) := by
  have := hg.2.2.2.1
  refine Ca_mk rfl rfl ?_
  (repeat (first | refine E_st rfl ?_ | refine E_go rfl ?_))
  simp +decide only [nI_clamp, pn_at, pu_n, pu_l]
  refine E_cx rfl (by omega) (g_in1 (d := 0) (nI_le (Nat.zero_le t) (by omega)) (nI_le ht (by omega))) ?_
  refine E_nif rfl (by decide) ?_
  (repeat (first | refine E_st rfl ?_ | refine E_go rfl ?_))
  refine E_cx rfl (by omega) (g_keptAt0 (d := 0) hg ht hk) ?_
  (repeat (first | refine E_st rfl ?_ | refine E_go rfl ?_))
  exact E_rt rfl ⟨rfl, rfl⟩
theorem g_bafter {t : Nat} (hg : gOk F) (ht : t ≤ F 64 2) (hk : F 64 2 - t < F 64 23) : pq_Ca (d + 2) 117 [.ref 63, .int (nI t)] (pq_Sh L, pn F, pl G, pq_rt h) (fun r M' => r = some (.int (nI (F 64 (24 + 15 * (F 64 23 - 1 - (F 64 2 - t)))))) ∧ M' = (pq_Sh L, pn (F), pl (G), pq_rt h)) := by
  have h16 := hg.2.2.2.2.2.2.2.2.2.2.2.2.2.2.2.2.1
  have := hg.2.2.2.1
  refine Ca_mk rfl rfl ?_
  (repeat (first | refine E_st rfl ?_ | refine E_go rfl ?_))
  simp +decide only [nI_clamp, pn_at, pu_n, pu_l]
  refine E_cx rfl (by omega) (g_in1 (d := 0) (nI_le (Nat.zero_le t) (by omega)) (nI_le ht (by omega))) ?_
  refine E_nif rfl (by decide) ?_
  (repeat (first | refine E_st rfl ?_ | refine E_go rfl ?_))
  refine E_cx rfl (by omega) (g_keptAt (d := 0) hg ht hk) ?_
  (repeat (first | refine E_st rfl ?_ | refine E_go rfl ?_))
  refine E_nif rfl (by exact nI_nlt (Nat.zero_le _) (by omega)) ?_
  (repeat (first | refine E_st rfl ?_ | refine E_go rfl ?_))
  refine E_ial rfl rfl (n := 144) (by omega) (by decide) ?_
  exact E_rt rfl ⟨rfl, rfl⟩
theorem l_undo (hs : F 63 2 ≤ 4) : ∀ m k, k + m = 144 → pq_Ev d 126 22 [some (.ref 63), some (.int (nI k))] [] (pq_Sh L, pn (sh3 F (144 * F 63 2) k), pl G, pq_rt h) (fun r M' => r = some (.int (nI (F 63 2))) ∧ M' = (pq_Sh L, pn (sh3 F (144 * F 63 2) 144), pl (G), pq_rt h)) := by
  intro m
  induction m with
  | zero =>
    intro k hk
    have hk : k = 144 := by omega
    subst hk
    (repeat (first | refine E_st rfl ?_ | refine E_go rfl ?_))
    refine E_nif rfl (by decide) ?_
    (repeat (first | refine E_st rfl ?_ | refine E_go rfl ?_))
    simp +decide only [nI_clamp, pn_at, pu_n, pu_l]
    exact E_rt rfl ⟨rfl, rfl⟩
  | succ m ih =>
    intro k hk
    (repeat (first | refine E_st rfl ?_ | refine E_go rfl ?_))
    refine E_if rfl (nI_lt (by omega) (by decide)) ?_
    (iterate 9 (first | refine E_st rfl ?_ | refine E_go rfl ?_))
    simp +decide only [nI_clamp, pn_at, pu_n, pu_l]
    rw [show sh3 F (144 * F 63 2) k 63 2 = F 63 2 from rfl, zi_mul]
    (iterate 2 (first | refine E_st rfl ?_ | refine E_go rfl ?_))
    rw [nI_add]
    refine E_ial rfl rfl (n := 720) (by omega) (by decide) ?_
    rw [show sh3 F (144 * F 63 2) k 65 (144 * F 63 2 + k) = F 65 (144 * F 63 2 + k) from rfl]
    refine E_ias rfl rfl (n := 144) (by omega) (by decide) (by decide) ?_
    (iterate 2 (first | refine E_st rfl ?_ | refine E_go rfl ?_))
    rw [sh3_s, nI_add]
    exact ih (k + 1) (by omega)
def unM (F : Nat → Nat → Nat) : Nat → Nat → Nat := sh3 (pq_u F 63 2 (F 63 2 - 1)) (144 * (F 63 2 - 1)) 144
theorem g_undo (hs : F 63 2 ≤ 5) (h0 : 0 < F 63 2) : pq_Ca (d + 1) 126 [.ref 63] (pq_Sh L, pn F, pl G, pq_rt h) (fun r M' => r = some (.int (nI (F 63 2 - 1))) ∧ M' = (pq_Sh L, pn (unM F), pl (G), pq_rt h)) := by
  have := l_undo (d := d) (L := L) (F := pq_u F 63 2 (F 63 2 - 1)) (G := G) (h := h) (show F 63 2 - 1 ≤ 4 by omega) 144 0 rfl
  rw [sh3_0] at this
  refine Ca_mk rfl rfl ?_
  (repeat (first | refine E_st rfl ?_ | refine E_go rfl ?_))
  refine E_nif rfl (by rw [pn_at]; exact nI_ne0 (by omega) (by omega)) ?_
  (iterate 5 (first | refine E_st rfl ?_ | refine E_go rfl ?_))
  simp +decide only [nI_clamp, pn_at, pu_n, pu_l]
  rw [zi_sub (by omega)]
  (iterate 1 (first | refine E_st rfl ?_ | refine E_go rfl ?_))
  simp +decide only [nI_clamp, pn_at, pu_n, pu_l]
  (iterate 2 (first | refine E_st rfl ?_ | refine E_go rfl ?_))
  exact this
theorem g_undo0 (h0 : F 63 2 = 0) : pq_Ca (d + 1) 126 [.ref 63] (pq_Sh L, pn F, pl G, pq_rt h) (fun r M' => r = some (.int (-2)) ∧ M' = (pq_Sh L, pn (F), pl (G), pq_rt h)) := by
  refine Ca_mk rfl rfl ?_
  (repeat (first | refine E_st rfl ?_ | refine E_go rfl ?_))
  refine E_if rfl (by rw [pn_at, h0]; rfl) ?_
  (repeat (first | refine E_st rfl ?_ | refine E_go rfl ?_))
  exact E_rt rfl ⟨rfl, rfl⟩
end MOE
end
