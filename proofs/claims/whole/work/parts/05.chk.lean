/-! what the tables must say of an entry, for the real machine to do as the small one does -/
/-- a private method of a class above, called on an object of a class below: chosen by itself -/
theorem lw_selP {C : String} {y z : MethodName} {s : State} {args : Array Value} (hy : y.cls ≠ "java/lang/invoke/MethodHandle" ∧ y.cls ≠ "java/lang/invoke/VarHandle") (hz : y.cls = z.cls)
    (hsel : (Cond.selects C z z).before args s = true) (hpriv : (Cond.privateMethod y).before args s = true) (hinst : (Cond.instanceMethod y).before args s = true) :
    (Cond.selects C y y).before args s = true := by
  obtain ⟨c, r, m, hc, -, hnz, -, k, hk, hni⟩ := Cond.selects_spec hsel
  obtain ⟨mk, methM, hnamed, hmethM, -, -⟩ := Cond.instanceMethod_spec hinst
  have hfound : s.methodFound? y.cls y.name y.desc = some mk := State.methodFound?_of_named hnamed hy
  have hcls : mk.cls = m.cls := Option.some.inj ((findClass_of_methodNamed hnamed).symm.trans (by rw [hz]; exact findClass_of_methodNamed hnz))
  have hsl : selectMethod {} s.vm c mk = .method mk := selectMethod_private hmethM (Cond.privateMethod_at hpriv mk methM hnamed hmethM)
  simp only [Cond.before, Cond.holds, Cond.value, hc, hfound, hnamed, hsl, hcls, hk]
  simp; exact hni
def lw_x : List Cond := [Cond.selects "PursuitDesk$MoveSearch" (⟨"PursuitDesk$Search", "giveOrders", "(IJII)V"⟩ : MethodName) (⟨"PursuitDesk$Search", "giveOrders", "(IJII)V"⟩ : MethodName), Cond.selects "PursuitDesk$TurnSearch" (⟨"PursuitDesk$Search", "giveOrders", "(IJII)V"⟩ : MethodName) (⟨"PursuitDesk$Search", "giveOrders", "(IJII)V"⟩ : MethodName)]
def lw_t2 : List Cond := lw_x ++ lw_tbl
theorem lw_t2_ok {s : State} {args : Array Value} (h : ∀ w ∈ lw_tbl, w.before args s = true) : ∀ w ∈ lw_t2, w.before args s = true := by
  intro w hw
  rcases List.mem_append.mp hw with hw | hw
  · rcases List.mem_cons.mp hw with rfl | hw
    · exact lw_selP (z := (⟨"PursuitDesk$Search", "bound", "()I"⟩ : MethodName)) (by decide +kernel) rfl (h _ (List.mem_of_getElem? (i := 558) (by decide +kernel))) (h _ (List.mem_of_getElem? (i := 589) (by decide +kernel))) (h _ (List.mem_of_getElem? (i := 590) (by decide +kernel)))
    · rcases List.mem_cons.mp hw with rfl | hw
      · exact lw_selP (z := (⟨"PursuitDesk$Search", "bound", "()I"⟩ : MethodName)) (by decide +kernel) rfl (h _ (List.mem_of_getElem? (i := 559) (by decide +kernel))) (h _ (List.mem_of_getElem? (i := 589) (by decide +kernel))) (h _ (List.mem_of_getElem? (i := 590) (by decide +kernel)))
      · exact absurd hw List.not_mem_nil
  · exact h w hw
def lw_g : List Cond := lw_t2.filter goodWord
theorem lw_in {w : Cond} (i : Nat) (h : lw_t2[i]? = some w) (g : goodWord w = true) : w ∈ lw_g := List.mem_filter.mpr ⟨List.mem_of_getElem? h, g⟩
abbrev pq_Q : Type := Nat × MethodName × ByteArray × Nat × Option FieldType
def pq_dm (d : String) (na : Nat) : Prop := (parseMethodDescriptor d).map (fun d => d.parameters.length) = some na
def pq_nc (c : String) : Prop := c ≠ "java/lang/invoke/MethodHandle" ∧ c ≠ "java/lang/invoke/VarHandle"
def pq_okM (q : pq_Q) : Prop := Cond.code q.2.1 q.2.2.1 q.2.2.2.1 q.2.2.2.2 ∈ lw_g ∧ plainName q.2.1.cls = true ∧ q.2.2.2.1 ≤ 100 ∧ pq_nc q.2.1.cls
def pq_okF (own : String) (idx ci k : Nat) : Prop := ∃ r : vw_C, pq_cl[ci]? = some r ∧ k < r.2.2 ∧ ∃ ref : String, Cond.fieldLink own idx ref (r.2.1 k).2.1 (r.2.1 k).2.2.1 ∈ lw_g ∧ ((r.2.1 k).1 = ref ∨ Cond.sameField ref (r.2.1 k).1 (r.2.1 k).2.1 (r.2.1 k).2.2.1 ∈ lw_g)
def pq_okQ (own : String) (ini : Bool) (idx ci k : Nat) : Prop := pq_okF own idx ci k ∧ ∃ r : vw_C, pq_cl[ci]? = some r ∧ ((r.2.1 k).2.2.2 = false ∨ ((r.2.1 k).2.2.2 = true ∧ ini = true ∧ (r.2.1 k).1 = own))
def pq_okV (own : String) (idx na ci j : Nat) : Prop := ∃ (q : pq_Q) (C : String), pq_mtab[j]? = some q ∧ pq_cn[ci]? = some C ∧ pq_okM q ∧
  ((q.2.1.cls = C ∧ pq_dm q.2.1.desc na ∧ Cond.methodLink own idx q.2.1 ∈ lw_g ∧ Cond.instanceMethod q.2.1 ∈ lw_g ∧ Cond.selects C q.2.1 q.2.1 ∈ lw_g ∧ Cond.initialized C ∈ lw_g) ∨
   ∃ (owner : String) (x : MethodName), pq_nc owner ∧ pq_dm x.desc na ∧ Cond.methodLink own idx x ∈ lw_g ∧ Cond.sameMethod x.cls owner x.name x.desc ∈ lw_g ∧ Cond.selects C x q.2.1 ∈ lw_g ∧ Cond.instanceMethod q.2.1 ∈ lw_g ∧ Cond.initialized q.2.1.cls ∈ lw_g ∧ (q.2.1 = ⟨owner, x.name, x.desc⟩ ∨ Cond.declares ⟨owner, x.name, x.desc⟩ ∈ pq_nest))
def pq_okS (own : String) (idx na j : Nat) : Prop := ∃ q : pq_Q, pq_mtab[j]? = some q ∧ pq_okM q ∧ pq_dm q.2.1.desc na ∧ Cond.methodLink own idx q.2.1 ∈ lw_g ∧ Cond.static q.2.1 ∈ lw_g ∧ Cond.initialized q.2.1.cls ∈ lw_g
def pq_okI (own : String) (idx na j : Nat) : Prop := ∃ q : pq_Q, pq_mtab[j]? = some q ∧ pq_okM q ∧ q.2.2.2.2 = none ∧ q.2.1.name = "<init>" ∧ pq_dm q.2.1.desc na ∧ Cond.instanceMethod q.2.1 ∈ lw_g ∧ Cond.initialized q.2.1.cls ∈ lw_g ∧ (Cond.methodLink own idx q.2.1 ∈ lw_g ∨ ∃ host : String, Cond.methodLinkNest own idx q.2.1 host ∈ pq_nest)
def pq_okN (own : String) (idx ci : Nat) : Prop := ∃ r : vw_C, pq_cl[ci]? = some r ∧ Cond.classLink own idx r.1 ∈ lw_g ∧ Cond.instantiable r.1 r.2.2 ∈ lw_g ∧ Cond.initialized r.1 ∈ lw_g
def pq_okW (own : String) (idx ci : Nat) : Prop := pq_cn[ci]? = some "PursuitDesk$State" ∧ Cond.classLink own idx "PursuitDesk$State" ∈ lw_g
def pq_okO (own : String) (idx : Nat) : Prop := Cond.methodLink own idx Lib.objectInit ∈ lw_g ∧ Cond.instanceMethod Lib.objectInit ∈ lw_g ∧ Cond.code Lib.objectInit ⟨#[0xb1]⟩ 1 none ∈ lw_g
def pq_okA (own : String) (idx : Nat) : Prop := Cond.methodLink own idx arraycopyName ∈ lw_g ∧ Cond.native arraycopyName ∈ lw_g ∧ Cond.static arraycopyName ∈ lw_g ∧ Cond.initialized "java/lang/System" ∈ lw_g
def pq_okX (own : String) (idx : Nat) : Prop := Cond.methodLink own idx Lib.Math.max.name ∈ lw_g ∧ Cond.static Lib.Math.max.name ∈ lw_g ∧ Cond.initialized "java/lang/Math" ∈ lw_g ∧ Cond.code Lib.Math.max.name Lib.Math.max.code 2 (some .int) ∈ lw_g
def pq_okY (own : String) (idx : Nat) : Prop := Cond.methodLink own idx Lib.Math.min.name ∈ lw_g ∧ Cond.static Lib.Math.min.name ∈ lw_g ∧ Cond.initialized "java/lang/Math" ∈ lw_g ∧ Cond.code Lib.Math.min.name Lib.Math.min.code 2 (some .int) ∈ lw_g
def pq_okC (own : String) (idx : Nat) (v : Value) : Prop := ∃ x : Int32, v = .int x ∧ Cond.constant own idx x ∈ lw_g
def pq_okD (own : String) (idx : Nat) (v : Value) : Prop := ∃ x : Int64, v = .long x ∧ Cond.constantLong own idx x ∈ lw_g
def pq_ok (own : String) (ini : Bool) (e : pq_E) : Prop := match e.2.1 with
  | .ldc idx => pq_okC own idx e.2.2.2.2.2
  | .ldc2_w idx => pq_okD own idx e.2.2.2.2.2
  | .getfield idx => ∀ q ∈ e.2.2.2.2.1, pq_okF own idx q.1 q.2
  | .putfield idx => ∀ q ∈ e.2.2.2.2.1, pq_okQ own ini idx q.1 q.2
  | .invokevirtual idx => ∀ q ∈ e.2.2.2.2.1, pq_okV own idx e.2.2.2.1 q.1 q.2
  | .invokestatic idx => match e.2.2.2.2.1 with
    | [] => pq_okA own idx
    | q :: _ => match q.1 with
      | 0 => pq_okS own idx e.2.2.2.1 q.2
      | 1 => pq_okX own idx
      | _ => pq_okY own idx
  | .invokespecial idx => match e.2.2.2.2.1 with
    | [] => pq_okO own idx
    | lk => ∀ q ∈ lk, pq_okI own idx e.2.2.2.1 q.2
  | .new idx => ∀ q ∈ e.2.2.2.2.1, pq_okN own idx q.1
  | .anewarray idx => ∀ q ∈ e.2.2.2.2.1, pq_okW own idx q.1
  | _ => True
def pq_len (i : Instr) : Nat := match i with
  | .bipush _ => 2
  | .sipush _ => 3
  | .ldc _ => 2
  | .ldc2_w _ => 3
  | .iload _ => 2
  | .lload _ => 2
  | .aload _ => 2
  | .istore _ => 2
  | .lstore _ => 2
  | .astore _ => 2
  | .iinc _ _ => 3
  | .goto _ => 3
  | .ifCond _ _ => 3
  | .if_icmp _ _ => 3
  | .getfield _ => 3
  | .putfield _ => 3
  | .invokevirtual _ => 3
  | .invokestatic _ => 3
  | .invokespecial _ => 3
  | .new _ => 3
  | .newarray _ => 2
  | .anewarray _ => 3
  | .tableswitch _ _ _ _ => 0
  | _ => 1
def pq_cb (ret : Option FieldType) (e : pq_E) : Bool := match e.2.1 with
  | .iconst n => decide (e.2.2.2.2.2 = .int (Int32.ofInt n))
  | .bipush n => decide (e.2.2.2.2.2 = .int (Int8.ofInt n).toInt32)
  | .sipush n => decide (e.2.2.2.2.2 = .int (Int16.ofInt n).toInt32)
  | .lconst n => decide (e.2.2.2.2.2 = .long (Int64.ofNat (n : Nat)))
  | .iinc _ n => decide (e.2.2.2.2.2 = .int (Int32.ofInt n))
  | .goto off => decide (∀ t ∈ e.2.2.2.2.1, (e.1 : Int) + off = (t.1 : Int))
  | .ifCond _ off => decide (∀ t ∈ e.2.2.2.2.1, (e.1 : Int) + off = (t.1 : Int))
  | .if_icmp _ off => decide (∀ t ∈ e.2.2.2.2.1, (e.1 : Int) + off = (t.1 : Int))
  | .tableswitch d _ _ offs => decide (e.2.2.2.2.1.map (fun t => (t.1 : Int)) = (d :: offs.toList).map (fun o => (e.1 : Int) + o))
  | .ireturn => decide (ret = if e.2.2.2.1 = 0 then some .int else some .boolean)
  | .lreturn => decide (ret = some .long)
  | .return_ => decide (ret = none)
  | _ => true
def pq_dc (b : ByteArray) (ret : Option FieldType) (e : pq_E) : Bool := match decode b e.1 with
  | .ok (i, n) => decide (i = e.2.1) && decide (e.2.2.1 = e.1 + n) && (decide (n = pq_len i) || decide (pq_len i = 0)) && pq_cb ret e
  | .error _ => false
theorem pq_ac {α : Type} {P : α → Prop} {a : α} {l : List α} (h : P a) (t : ∀ x ∈ l, P x) : ∀ x ∈ a :: l, P x := List.forall_mem_cons.mpr ⟨h, t⟩
theorem pq_an {α : Type} {P : α → Prop} : ∀ x ∈ ([] : List α), P x := fun _ h => absurd h List.not_mem_nil
