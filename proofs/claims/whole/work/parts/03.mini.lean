/-! A small machine of my own: places instead of addresses, the contents of all cells in three functions. -/
abbrev pq_S : Type := (FieldType × Nat) ⊕ Nat
abbrev pq_M : Type := List pq_S × (Nat → Nat → Int32) × (Nat → Nat → Int64) × (Nat → Nat → Option Nat)
/-- pc, instruction, the pc behind it, a number (arguments of a call, kind of a return), links, a constant -/
abbrev pq_E : Type := Nat × Instr × Nat × Nat × List (Nat × Nat) × Value
abbrev pq_L : Type := List (Option Value)
/-- next: pc, locals, stack, memory; or the end with its answer; or a call: method, arguments, the stack below -/
abbrev pq_O : Type := (Nat × pq_L × List Value × pq_M) ⊕ (Option Value ⊕ (Nat × List Value × List Value))
def pq_u {α : Type} (f : Nat → Nat → α) (p k : Nat) (x : α) : Nat → Nat → α := fun q j => if q = p ∧ j = k then x else f q j
def pq_blank {α : Type} (f : Nat → Nat → α) (p : Nat) (x : α) : Nat → Nat → α := fun q j => if q = p then x else f q j
def pq_cpy {α : Type} (f : Nat → Nat → α) (a sp b dp n : Nat) : Nat → Nat → α := fun q j => if q = b ∧ dp ≤ j ∧ j < dp + n then f a (sp + (j - dp)) else f q j
def pq_ld (l : pq_L) (i : Nat) : Option Value := match l[i]? with
  | some (some v) => some v
  | _ => none
/-- a long that ends at i is lost when i is stored -/
def pq_cut (l : pq_L) (i : Nat) : pq_L := match i with
  | 0 => l
  | k + 1 => match l[k]? with
    | some (some (.long _)) => l.set k none
    | some (some (.double _)) => l.set k none
    | _ => l
def pq_st1 (l : pq_L) (i : Nat) (v : Value) : Option pq_L := if i < l.length then some ((pq_cut l i).set i (some v)) else none
def pq_st2 (l : pq_L) (i : Nat) (v : Value) : Option pq_L := if i + 1 < l.length then some (((pq_cut l i).set i (some v)).set (i + 1) none) else none
/-! the stack's top -/
def pq_i1 (st : List Value) : Option (Int32 × List Value) := match st with
  | .int x :: r => some (x, r)
  | _ => none
def pq_i2 (st : List Value) : Option (Int32 × Int32 × List Value) := match st with
  | .int y :: .int x :: r => some (x, y, r)
  | _ => none
def pq_l1 (st : List Value) : Option (Int64 × List Value) := match st with
  | .long x :: r => some (x, r)
  | _ => none
def pq_l2 (st : List Value) : Option (Int64 × Int64 × List Value) := match st with
  | .long y :: .long x :: r => some (x, y, r)
  | _ => none
def pq_li (st : List Value) : Option (Int64 × Int32 × List Value) := match st with
  | .int y :: .long x :: r => some (x, y, r)
  | _ => none
def pq_a1 (st : List Value) : Option (Nat × List Value) := match st with
  | .ref x :: r => some (x, r)
  | _ => none
def pq_ai (st : List Value) : Option (Nat × Int32 × List Value) := match st with
  | .int i :: .ref x :: r => some (x, i, r)
  | _ => none
/-! loads and stores of locals -/
def pq_il (l : pq_L) (i : Nat) (st : List Value) : Option (pq_L × List Value) := match pq_ld l i with
  | some (.int x) => some (l, .int x :: st)
  | _ => none
def pq_ll (l : pq_L) (i : Nat) (st : List Value) : Option (pq_L × List Value) := match pq_ld l i with
  | some (.long x) => some (l, .long x :: st)
  | _ => none
def pq_al (l : pq_L) (i : Nat) (st : List Value) : Option (pq_L × List Value) := match pq_ld l i with
  | some (.ref x) => some (l, .ref x :: st)
  | _ => none
def pq_is (l : pq_L) (i : Nat) (st : List Value) : Option (pq_L × List Value) := match st with
  | .int x :: r => (pq_st1 l i (.int x)).map (fun l' => (l', r))
  | _ => none
def pq_as (l : pq_L) (i : Nat) (st : List Value) : Option (pq_L × List Value) := match st with
  | .ref x :: r => (pq_st1 l i (.ref x)).map (fun l' => (l', r))
  | _ => none
def pq_ls (l : pq_L) (i : Nat) (st : List Value) : Option (pq_L × List Value) := match st with
  | .long x :: r => (pq_st2 l i (.long x)).map (fun l' => (l', r))
  | _ => none
def pq_inc (l : pq_L) (i : Nat) (v : Value) (st : List Value) : Option (pq_L × List Value) := match pq_ld l i, v with
  | some (.int x), .int n => (pq_st1 l i (.int (x + n))).map (fun l' => (l', st))
  | _, _ => none
def pq_dup (st : List Value) : Option (List Value) := match st with
  | v :: r => if v.category = 1 then some (v :: v :: r) else none
  | _ => none
def pq_dup2 (st : List Value) : Option (List Value) := match st with
  | v :: w :: r => if v.category = 1 ∧ w.category = 1 then some (v :: w :: v :: w :: r) else none
  | _ => none
/-- what needs neither the memory nor another pc -/
def pq_x1 (ins : Instr) (v : Value) (l : pq_L) (st : List Value) : Option (pq_L × List Value) := match ins with
  | .iconst _ => some (l, v :: st)
  | .bipush _ => some (l, v :: st)
  | .sipush _ => some (l, v :: st)
  | .lconst _ => some (l, v :: st)
  | .ldc _ => some (l, v :: st)
  | .ldc2_w _ => some (l, v :: st)
  | .iload_n k => pq_il l k st
  | .iload i => pq_il l i st
  | .lload_n k => pq_ll l k st
  | .lload i => pq_ll l i st
  | .aload_n k => pq_al l k st
  | .aload i => pq_al l i st
  | .istore_n k => pq_is l k st
  | .istore i => pq_is l i st
  | .lstore_n k => pq_ls l k st
  | .lstore i => pq_ls l i st
  | .astore_n k => pq_as l k st
  | .astore i => pq_as l i st
  | .iinc i _ => pq_inc l i v st
  | .iadd => (pq_i2 st).map (fun (q : Int32 × Int32 × List Value) => (l, .int (q.1 + q.2.1) :: q.2.2))
  | .isub => (pq_i2 st).map (fun (q : Int32 × Int32 × List Value) => (l, .int (q.1 - q.2.1) :: q.2.2))
  | .imul => (pq_i2 st).map (fun (q : Int32 × Int32 × List Value) => (l, .int (q.1 * q.2.1) :: q.2.2))
  | .iand => (pq_i2 st).map (fun (q : Int32 × Int32 × List Value) => (l, .int (q.1 &&& q.2.1) :: q.2.2))
  | .ior => (pq_i2 st).map (fun (q : Int32 × Int32 × List Value) => (l, .int (q.1 ||| q.2.1) :: q.2.2))
  | .ixor => (pq_i2 st).map (fun (q : Int32 × Int32 × List Value) => (l, .int (q.1 ^^^ q.2.1) :: q.2.2))
  | .ishl => (pq_i2 st).map (fun (q : Int32 × Int32 × List Value) => (l, .int (q.1 <<< (q.2.1 &&& 31)) :: q.2.2))
  | .ishr => (pq_i2 st).map (fun (q : Int32 × Int32 × List Value) => (l, .int (q.1 >>> (q.2.1 &&& 31)) :: q.2.2))
  | .ladd => (pq_l2 st).map (fun (q : Int64 × Int64 × List Value) => (l, .long (q.1 + q.2.1) :: q.2.2))
  | .lsub => (pq_l2 st).map (fun (q : Int64 × Int64 × List Value) => (l, .long (q.1 - q.2.1) :: q.2.2))
  | .land => (pq_l2 st).map (fun (q : Int64 × Int64 × List Value) => (l, .long (q.1 &&& q.2.1) :: q.2.2))
  | .lor => (pq_l2 st).map (fun (q : Int64 × Int64 × List Value) => (l, .long (q.1 ||| q.2.1) :: q.2.2))
  | .lxor => (pq_l2 st).map (fun (q : Int64 × Int64 × List Value) => (l, .long (q.1 ^^^ q.2.1) :: q.2.2))
  | .lshl => (pq_li st).map (fun (q : Int64 × Int32 × List Value) => (l, .long (q.1 <<< (q.2.1.toInt64 &&& 63)) :: q.2.2))
  | .lushr => (pq_li st).map (fun (q : Int64 × Int32 × List Value) => (l, .long (q.1.toUInt64 >>> (q.2.1.toInt64.toUInt64 &&& Int64.toUInt64 63)).toInt64 :: q.2.2))
  | .lcmp => (pq_l2 st).map (fun (q : Int64 × Int64 × List Value) => (l, .int (lg_cmp q.1 q.2.1) :: q.2.2))
  | .l2i => (pq_l1 st).map (fun q => (l, .int q.1.toInt32 :: q.2))
  | .i2c => (pq_i1 st).map (fun q => (l, .int (q.1.toUInt32 % 65536).toInt32 :: q.2))
  | .idiv => match pq_i2 st with
    | some q => if q.2.1 = 0 then none else some (l, .int (q.1 / q.2.1) :: q.2.2)
    | none => none
  | .irem => match pq_i2 st with
    | some q => if q.2.1 = 0 then none else some (l, .int (q.1 - q.1 / q.2.1 * q.2.1) :: q.2.2)
    | none => none
  | .dup => (pq_dup st).map (fun r => (l, r))
  | .dup2 => (pq_dup2 st).map (fun r => (l, r))
  | _ => none
/-- branches: the next pc and the stack -/
def pq_x2 (ins : Instr) (nxt : Nat) (lk : List (Nat × Nat)) (st : List Value) : Option (Nat × List Value) := match ins with
  | .goto _ => (lk.head?).map (fun t => (t.1, st))
  | .ifCond cd _ => match lk.head?, pq_i1 st with
    | some t, some (x, r) => match cd with
      | .eq => some (if x = 0 then t.1 else nxt, r)
      | .ne => some (if x = 0 then nxt else t.1, r)
      | .lt => some (if x < 0 then t.1 else nxt, r)
      | .ge => some (if x < 0 then nxt else t.1, r)
      | .gt => some (if 0 < x then t.1 else nxt, r)
      | .le => some (if 0 < x then nxt else t.1, r)
    | _, _ => none
  | .if_icmp cd _ => match lk.head?, pq_i2 st with
    | some t, some (x, y, r) => match cd with
      | .eq => some (if x = y then t.1 else nxt, r)
      | .ne => some (if x = y then nxt else t.1, r)
      | .lt => some (if x < y then t.1 else nxt, r)
      | .ge => some (if x < y then nxt else t.1, r)
      | .gt => some (if y < x then t.1 else nxt, r)
      | .le => some (if y < x then nxt else t.1, r)
    | _, _ => none
  | .tableswitch _ lo hi _ => match lk, pq_i1 st with
    | t :: ts, some (x, r) => if x.toInt < lo ∨ hi < x.toInt then some (t.1, r) else (ts[(x.toInt - lo).toNat]?).map (fun u => (u.1, r))
    | _, _ => none
  | _ => none
/-- a field's type, a class's number of fields, its name: by the class's number (tables behind) -/
def pq_rf (M : pq_M) (ci p k : Nat) : Value := match (pq_ft.getD ci []).getD k .int with
  | .int => .int (M.2.1 p k)
  | .boolean => .int (M.2.1 p k)
  | .long => .long (M.2.2.1 p k)
  | _ => va_rf (M.2.2.2 p k)
def pq_wf (M : pq_M) (ci p k : Nat) (v : Value) : Option pq_M := match (pq_ft.getD ci [])[k]?, v with
  | some .int, .int x => some (M.1, pq_u M.2.1 p k x, M.2.2.1, M.2.2.2)
  | some .boolean, .int x => if x = 0 ∨ x = 1 then some (M.1, pq_u M.2.1 p k x, M.2.2.1, M.2.2.2) else none
  | some .long, .long x => some (M.1, M.2.1, pq_u M.2.2.1 p k x, M.2.2.2)
  | some (.array _), .ref q => some (M.1, M.2.1, M.2.2.1, pq_u M.2.2.2 p k (some q))
  | some (.object _), .ref q => some (M.1, M.2.1, M.2.2.1, pq_u M.2.2.2 p k (some q))
  | _, _ => none
def pq_arr (M : pq_M) (p : Nat) (i : Int32) : Option FieldType := match M.1[p]? with
  | some (.inl (ty, n)) => if i < 0 ∨ n ≤ i.toNatClampNeg then none else some ty
  | _ => none
def pq_add (M : pq_M) (s : pq_S) : pq_M := (M.1 ++ [s], pq_blank M.2.1 M.1.length 0, pq_blank M.2.2.1 M.1.length 0, pq_blank M.2.2.2 M.1.length none)
def pq_cat (st : List Value) : Nat := (st.map fun v => v.category).sum
def pq_aty (a : ArrayType) : Option FieldType := match a with
  | .int => some .int
  | .long => some .long
  | .char => some .char
  | _ => none
/-- the static methods that have rows of their own: System.arraycopy, Math.max, Math.min -/
def pq_sc (lk : List (Nat × Nat)) (st : List Value) (M : pq_M) : Option (List Value × pq_M) := match lk with
  | [] => match st with
    | .int n :: .int dp :: .ref b :: .int sp :: .ref a :: r => match M.1[a]?, M.1[b]? with
      | some (.inl (ta, na)), some (.inl (tb, nb)) =>
        if n < 0 ∨ dp < 0 ∨ sp < 0 ∨ na < sp.toNatClampNeg + n.toNatClampNeg ∨ nb < dp.toNatClampNeg + n.toNatClampNeg ∨ a = 0 ∨ b = 0 ∨ 8 < pq_cat r then none
        else match ta, tb with
          | .int, .int => some (r, M.1, pq_cpy M.2.1 a sp.toNatClampNeg b dp.toNatClampNeg n.toNatClampNeg, M.2.2.1, M.2.2.2)
          | .long, .long => some (r, M.1, M.2.1, pq_cpy M.2.2.1 a sp.toNatClampNeg b dp.toNatClampNeg n.toNatClampNeg, M.2.2.2)
          | _, _ => none
      | _, _ => none
    | _ => none
  | q :: _ => match q.1 with
    | 1 => match pq_i2 st with
      | some (x, y, r) => if 8 < pq_cat r then none else some (.int (if x < y then y else x) :: r, M)
      | none => none
    | 2 => match pq_i2 st with
      | some (x, y, r) => if 8 < pq_cat r then none else some (.int (if y < x then y else x) :: r, M)
      | none => none
    | _ => none
/-- the memory: reads, writes, what is made -/
def pq_x3 (ins : Instr) (lk : List (Nat × Nat)) (st : List Value) (M : pq_M) : Option (List Value × pq_M) := match ins with
  | .getfield _ => match st with
    | .ref p :: r => match M.1[p]? with
      | some (.inr ci) => (lk.lookup ci).map (fun k => (pq_rf M ci p k :: r, M))
      | _ => none
    | _ => none
  | .putfield _ => match st with
    | v :: .ref p :: r => match M.1[p]? with
      | some (.inr ci) => match lk.lookup ci with
        | some k => (pq_wf M ci p k v).map (fun M' => (r, M'))
        | none => none
      | _ => none
    | _ => none
  | .iaload => match st with
    | .int i :: .ref p :: r => match pq_arr M p i with
      | some .int => some (.int (M.2.1 p i.toNatClampNeg) :: r, M)
      | _ => none
    | _ => none
  | .caload => match st with
    | .int i :: .ref p :: r => match pq_arr M p i with
      | some .char => some (.int (M.2.1 p i.toNatClampNeg) :: r, M)
      | _ => none
    | _ => none
  | .laload => match st with
    | .int i :: .ref p :: r => match pq_arr M p i with
      | some .long => some (.long (M.2.2.1 p i.toNatClampNeg) :: r, M)
      | _ => none
    | _ => none
  | .aaload => match st with
    | .int i :: .ref p :: r => match pq_arr M p i with
      | some (.object _) => some (va_rf (M.2.2.2 p i.toNatClampNeg) :: r, M)
      | _ => none
    | _ => none
  | .iastore => match st with
    | .int x :: .int i :: .ref p :: r => match pq_arr M p i with
      | some .int => if p = 0 then none else some (r, M.1, pq_u M.2.1 p i.toNatClampNeg x, M.2.2.1, M.2.2.2)
      | _ => none
    | _ => none
  | .castore => match st with
    | .int x :: .int i :: .ref p :: r => match pq_arr M p i with
      | some .char => if p = 0 then none else some (r, M.1, pq_u M.2.1 p i.toNatClampNeg (vp_nar .char x), M.2.2.1, M.2.2.2)
      | _ => none
    | _ => none
  | .lastore => match st with
    | .long x :: .int i :: .ref p :: r => match pq_arr M p i with
      | some .long => if p = 0 then none else some (r, M.1, M.2.1, pq_u M.2.2.1 p i.toNatClampNeg x, M.2.2.2)
      | _ => none
    | _ => none
  | .aastore => match st with
    | .ref v :: .int i :: .ref p :: r => match pq_arr M p i, M.1[v]? with
      | some (.object _), some (.inr ci) => if p = 0 ∨ ¬ ci = 3 then none else some (r, M.1, M.2.1, M.2.2.1, pq_u M.2.2.2 p i.toNatClampNeg (some v))
      | _, _ => none
    | _ => none
  | .arraylength => match st with
    | .ref p :: r => match M.1[p]? with
      | some (.inl (_, n)) => some (.int (Int32.ofNat n) :: r, M)
      | _ => none
    | _ => none
  | .new _ => (lk.head?).map (fun q => (.ref M.1.length :: st, pq_add M (.inr q.1)))
  | .newarray a => match st, pq_aty a with
    | .int n :: r, some ty => if n < 0 ∨ 65536 < n.toNatClampNeg then none else some (.ref M.1.length :: r, pq_add M (.inl (ty, n.toNatClampNeg)))
    | _, _ => none
  | .anewarray _ => match st, lk.head? with
    | .int n :: r, some q => match pq_cn[q.1]? with
      | some C => if n < 0 ∨ 65536 < n.toNatClampNeg then none else some (.ref M.1.length :: r, pq_add M (.inl (.object C, n.toNatClampNeg)))
      | none => none
    | _, _ => none
  | .invokespecial _ => match lk, st with
    | [], .ref _ :: r => if pq_cat r ≤ 8 then some (r, M) else none
    | _, _ => none
  | .invokestatic _ => pq_sc lk st M
  | _ => none
/-- the ends -/
def pq_x4 (ins : Instr) (na : Nat) (st : List Value) : Option (Option Value) := match ins with
  | .return_ => match st with
    | [] => some none
    | _ => none
  | .ireturn => match st with
    | [.int x] => if na = 0 then some (some (.int x)) else if x = 0 ∨ x = 1 then some (some (.int x)) else none
    | _ => none
  | .lreturn => match st with
    | [.long x] => some (some (.long x))
    | _ => none
  | _ => none
/-- calls: the method's number, its arguments, the stack below -/
def pq_x5 (ins : Instr) (na : Nat) (lk : List (Nat × Nat)) (st : List Value) (M : pq_M) : Option (Nat × List Value × List Value) := match ins with
  | .invokestatic _ => match lk with
    | q :: _ => if q.1 = 0 ∧ na ≤ st.length ∧ pq_cat (st.drop na) ≤ 8 then some (q.2, (st.take na).reverse, st.drop na) else none
    | [] => none
  | .invokevirtual _ => match st.drop na with
    | .ref p :: r => match M.1[p]? with
      | some (.inr ci) => match lk.lookup ci with
        | some j => if pq_cat r ≤ 8 then some (j, .ref p :: (st.take na).reverse, r) else none
        | none => none
      | _ => none
    | _ => none
  | .invokespecial _ => match st.drop na with
    | .ref p :: r => match M.1[p]? with
      | some (.inr ci) => match lk.lookup ci with
        | some j => if pq_cat r ≤ 8 then some (j, .ref p :: (st.take na).reverse, r) else none
        | none => none
      | _ => none
    | _ => none
  | _ => none
def pq_exec (e : pq_E) (l : pq_L) (st : List Value) (M : pq_M) : Option pq_O := match pq_x1 e.2.1 e.2.2.2.2.2 l st with
  | some q => some (.inl (e.2.2.1, q.1, q.2, M))
  | none => match pq_x2 e.2.1 e.2.2.1 e.2.2.2.2.1 st with
    | some q => some (.inl (q.1, l, q.2, M))
    | none => match pq_x3 e.2.1 e.2.2.2.2.1 st M with
      | some q => some (.inl (e.2.2.1, l, q.1, q.2))
      | none => match pq_x4 e.2.1 e.2.2.2.1 st with
        | some r => some (.inr (.inl r))
        | none => (pq_x5 e.2.1 e.2.2.2.1 e.2.2.2.2.1 st M).map (fun q => .inr (.inr q))
def pq_psh (r : Option Value) (st : List Value) : List Value := match r with
  | some v => v :: st
  | none => st
def pq_flat : List Value → pq_L
  | [] => []
  | .long x :: r => some (.long x) :: none :: pq_flat r
  | .double x :: r => some (.double x) :: none :: pq_flat r
  | v :: r => some v :: pq_flat r
def pq_loc (as : List Value) (n : Nat) : pq_L := pq_flat as ++ List.replicate (n - (pq_flat as).length) none
