def pT0 : u_T := fun k => match k with
  | 0 => ("PursuitDesk$Beliefs", "sets", "[I", true)
  | 1 => ("PursuitDesk$Beliefs", "waysInto", "[J", true)
  | 2 => ("PursuitDesk$Beliefs", "last", "I", false)
  | _ => ("PursuitDesk$Beliefs", "kept", "I", false)
def pt0 : Nat → FieldType := fun k => match k with
  | 0 => .array .int
  | 1 => .array .long
  | 2 => .int
  | _ => .int
theorem pn0 : ∀ a, a < 4 → ∀ b, b < 4 → a ≠ b → (pT0 a).2.1 ≠ (pT0 b).2.1 := by decide +kernel
theorem po0 : ∀ k, k < 4 → parseFieldDescriptor (pT0 k).2.2.1 = some (pt0 k) := by decide +kernel
def pT1 : u_T := fun k => match k with
  | 0 => ("PursuitDesk$Evader", "there", "Z", false)
  | 1 => ("PursuitDesk$Evader", "node", "I", false)
  | 2 => ("PursuitDesk$Evader", "aim", "I", false)
  | 3 => ("PursuitDesk$Evader", "caught", "Z", false)
  | 4 => ("PursuitDesk$Evader", "caughtAt", "I", false)
  | 5 => ("PursuitDesk$Evader", "hiddenAt", "I", false)
  | _ => ("PursuitDesk$Evader", "trail", "[I", true)
def pt1 : Nat → FieldType := fun k => match k with
  | 0 => .boolean
  | 1 => .int
  | 2 => .int
  | 3 => .boolean
  | 4 => .int
  | 5 => .int
  | _ => .array .int
theorem pn1 : ∀ a, a < 7 → ∀ b, b < 7 → a ≠ b → (pT1 a).2.1 ≠ (pT1 b).2.1 := by decide +kernel
theorem po1 : ∀ k, k < 7 → parseFieldDescriptor (pT1 k).2.2.1 = some (pt1 k) := by decide +kernel
def pT2 : u_T := fun k => match k with
  | 0 => ("PursuitDesk$Search", "nodes", "I", false)
  | 1 => ("PursuitDesk$Search", "paths", "J", false)
  | 2 => ("PursuitDesk$Search", "searchers", "I", false)
  | 3 => ("PursuitDesk$Search", "at", "[I", true)
  | 4 => ("PursuitDesk$MoveSearch", "prices", "[I", true)
  | 5 => ("PursuitDesk$MoveSearch", "price", "I", false)
  | _ => ("PursuitDesk$MoveSearch", "highest", "I", false)
def pt2 : Nat → FieldType := fun k => match k with
  | 0 => .int
  | 1 => .long
  | 2 => .int
  | 3 => .array .int
  | 4 => .array .int
  | 5 => .int
  | _ => .int
theorem pn2 : ∀ a, a < 7 → ∀ b, b < 7 → a ≠ b → (pT2 a).2.1 ≠ (pT2 b).2.1 := by decide +kernel
theorem po2 : ∀ k, k < 7 → parseFieldDescriptor (pT2 k).2.2.1 = some (pt2 k) := by decide +kernel
def pT3 : u_T := fun k => match k with
  | 0 => ("PursuitDesk$State", "nodes", "I", false)
  | 1 => ("PursuitDesk$State", "paths", "J", false)
  | 2 => ("PursuitDesk$State", "searchers", "I", false)
  | 3 => ("PursuitDesk$State", "at", "[I", true)
  | 4 => ("PursuitDesk$State", "aim", "[I", true)
  | 5 => ("PursuitDesk$State", "turn", "I", false)
  | 6 => ("PursuitDesk$State", "period", "I", false)
  | 7 => ("PursuitDesk$State", "delay", "I", false)
  | 8 => ("PursuitDesk$State", "beliefs", "LPursuitDesk$Beliefs;", true)
  | _ => ("PursuitDesk$State", "evader", "LPursuitDesk$Evader;", true)
def pt3 : Nat → FieldType := fun k => match k with
  | 0 => .int
  | 1 => .long
  | 2 => .int
  | 3 => .array .int
  | 4 => .array .int
  | 5 => .int
  | 6 => .int
  | 7 => .int
  | 8 => .object "PursuitDesk$Beliefs"
  | _ => .object "PursuitDesk$Evader"
theorem pn3 : ∀ a, a < 10 → ∀ b, b < 10 → a ≠ b → (pT3 a).2.1 ≠ (pT3 b).2.1 := by decide +kernel
theorem po3 : ∀ k, k < 10 → parseFieldDescriptor (pT3 k).2.2.1 = some (pt3 k) := by decide +kernel
def pT4 : u_T := fun k => match k with
  | 0 => ("PursuitDesk$Search", "nodes", "I", false)
  | 1 => ("PursuitDesk$Search", "paths", "J", false)
  | 2 => ("PursuitDesk$Search", "searchers", "I", false)
  | 3 => ("PursuitDesk$Search", "at", "[I", true)
  | 4 => ("PursuitDesk$TurnSearch", "cameFrom", "[I", true)
  | 5 => ("PursuitDesk$TurnSearch", "queue", "[I", true)
  | 6 => ("PursuitDesk$TurnSearch", "entered", "I", false)
  | 7 => ("PursuitDesk$TurnSearch", "here", "I", false)
  | _ => ("PursuitDesk$TurnSearch", "end", "I", false)
def pt4 : Nat → FieldType := fun k => match k with
  | 0 => .int
  | 1 => .long
  | 2 => .int
  | 3 => .array .int
  | 4 => .array .int
  | 5 => .array .int
  | 6 => .int
  | 7 => .int
  | _ => .int
theorem pn4 : ∀ a, a < 9 → ∀ b, b < 9 → a ≠ b → (pT4 a).2.1 ≠ (pT4 b).2.1 := by decide +kernel
theorem po4 : ∀ k, k < 9 → parseFieldDescriptor (pT4 k).2.2.1 = some (pt4 k) := by decide +kernel
def pT5 : u_T := fun k => match k with
  | 0 => ("PursuitDesk", "now", "LPursuitDesk$State;", true)
  | 1 => ("PursuitDesk", "history", "[LPursuitDesk$State;", true)
  | 2 => ("PursuitDesk", "recorded", "I", false)
  | 3 => ("PursuitDesk", "text", "[C", true)
  | 4 => ("PursuitDesk", "textLength", "I", false)
  | 5 => ("PursuitDesk", "plan", "LPursuitDesk$TurnSearch;", true)
  | 6 => ("PursuitDesk", "planIsKnown", "Z", false)
  | 7 => ("PursuitDesk", "bestStart", "LPursuitDesk$TurnSearch;", true)
  | _ => ("PursuitDesk", "cheapest", "LPursuitDesk$MoveSearch;", true)
def pt5 : Nat → FieldType := fun k => match k with
  | 0 => .object "PursuitDesk$State"
  | 1 => .array (.object "PursuitDesk$State")
  | 2 => .int
  | 3 => .array .char
  | 4 => .int
  | 5 => .object "PursuitDesk$TurnSearch"
  | 6 => .boolean
  | 7 => .object "PursuitDesk$TurnSearch"
  | _ => .object "PursuitDesk$MoveSearch"
theorem pn5 : ∀ a, a < 9 → ∀ b, b < 9 → a ≠ b → (pT5 a).2.1 ≠ (pT5 b).2.1 := by decide +kernel
theorem po5 : ∀ k, k < 9 → parseFieldDescriptor (pT5 k).2.2.1 = some (pt5 k) := by decide +kernel
def pT6 : u_T := fun k => match k with
  | 0 => ("PursuitDeskModel", "d", "[I", true)
  | 1 => ("PursuitDeskModel", "was", "[I", true)
  | 2 => ("PursuitDeskModel", "states", "I", false)
  | 3 => ("PursuitDeskModel", "text", "[C", true)
  | 4 => ("PursuitDeskModel", "typed", "I", false)
  | 5 => ("PursuitDeskModel", "from", "[I", true)
  | 6 => ("PursuitDeskModel", "to", "[I", true)
  | 7 => ("PursuitDeskModel", "near", "[I", true)
  | 8 => ("PursuitDeskModel", "best", "[I", true)
  | 9 => ("PursuitDeskModel", "parent", "[I", true)
  | 10 => ("PursuitDeskModel", "queue", "[I", true)
  | _ => ("PursuitDeskModel", "seen", "[I", true)
def pt6 : Nat → FieldType := fun k => match k with
  | 0 => .array .int
  | 1 => .array .int
  | 2 => .int
  | 3 => .array .char
  | 4 => .int
  | 5 => .array .int
  | 6 => .array .int
  | 7 => .array .int
  | 8 => .array .int
  | 9 => .array .int
  | 10 => .array .int
  | _ => .array .int
theorem pn6 : ∀ a, a < 12 → ∀ b, b < 12 → a ≠ b → (pT6 a).2.1 ≠ (pT6 b).2.1 := by decide +kernel
theorem po6 : ∀ k, k < 12 → parseFieldDescriptor (pT6 k).2.2.1 = some (pt6 k) := by decide +kernel
def pq_cl : List vw_C := [("PursuitDesk$Beliefs", pT0, 4), ("PursuitDesk$Evader", pT1, 7), ("PursuitDesk$MoveSearch", pT2, 7), ("PursuitDesk$State", pT3, 10), ("PursuitDesk$TurnSearch", pT4, 9), ("PursuitDesk", pT5, 9), ("PursuitDeskModel", pT6, 12)]
def pq_cn : List String := ["PursuitDesk$Beliefs", "PursuitDesk$Evader", "PursuitDesk$MoveSearch", "PursuitDesk$State", "PursuitDesk$TurnSearch", "PursuitDesk", "PursuitDeskModel"]
def pq_ft : List (List FieldType) := [[.array .int, .array .long, .int, .int], [.boolean, .int, .int, .boolean, .int, .int, .array .int], [.int, .long, .int, .array .int, .array .int, .int, .int], [.int, .long, .int, .array .int, .array .int, .int, .int, .int, .object "PursuitDesk$Beliefs", .object "PursuitDesk$Evader"], [.int, .long, .int, .array .int, .array .int, .array .int, .int, .int, .int], [.object "PursuitDesk$State", .array (.object "PursuitDesk$State"), .int, .array .char, .int, .object "PursuitDesk$TurnSearch", .boolean, .object "PursuitDesk$TurnSearch", .object "PursuitDesk$MoveSearch"], [.array .int, .array .int, .int, .array .char, .int, .array .int, .array .int, .array .int, .array .int, .array .int, .array .int, .array .int]]
def pq_nest : List Cond := [(Jvm.Cond.methodLinkNest "PursuitDesk" (9 : Nat) ({ cls := "PursuitDesk$State", name := "<init>", desc := "()V" } : MethodName) "PursuitDesk"), (Jvm.Cond.methodLinkNest "PursuitDesk$State" (20 : Nat) ({ cls := "PursuitDesk$Beliefs", name := "<init>", desc := "()V" } : MethodName) "PursuitDesk"), (Jvm.Cond.methodLinkNest "PursuitDesk$State" (27 : Nat) ({ cls := "PursuitDesk$Evader", name := "<init>", desc := "()V" } : MethodName) "PursuitDesk"), (Jvm.Cond.methodLinkNest "PursuitDesk" (26 : Nat) ({ cls := "PursuitDesk$TurnSearch", name := "<init>", desc := "()V" } : MethodName) "PursuitDesk"), (Jvm.Cond.methodLinkNest "PursuitDesk$TurnSearch" (3 : Nat) ({ cls := "PursuitDesk$Search", name := "<init>", desc := "()V" } : MethodName) "PursuitDesk"), (Jvm.Cond.methodLinkNest "PursuitDesk" (36 : Nat) ({ cls := "PursuitDesk$MoveSearch", name := "<init>", desc := "()V" } : MethodName) "PursuitDesk"), (Jvm.Cond.methodLinkNest "PursuitDesk$MoveSearch" (5 : Nat) ({ cls := "PursuitDesk$Search", name := "<init>", desc := "()V" } : MethodName) "PursuitDesk"), (Jvm.Cond.declares ({ cls := "PursuitDesk$Search", name := "prepare", desc := "(IJI)V" } : MethodName)), (Jvm.Cond.declares ({ cls := "PursuitDesk$Search", name := "clear", desc := "([I)V" } : MethodName)), (Jvm.Cond.declares ({ cls := "PursuitDesk$Search", name := "numberOf", desc := "([II)I" } : MethodName)), (Jvm.Cond.declares ({ cls := "PursuitDesk$Search", name := "expand", desc := "(I)V" } : MethodName)), (Jvm.Cond.declares ({ cls := "PursuitDesk$Search", name := "arrive", desc := "(II)V" } : MethodName)), (Jvm.Cond.declares ({ cls := "PursuitDesk$Search", name := "placeSearchers", desc := "(I)V" } : MethodName)), (Jvm.Cond.declares ({ cls := "PursuitDesk$Search", name := "bound", desc := "()I" } : MethodName))]
