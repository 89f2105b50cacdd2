abbrev cs_Mem : Type := Nat → Nat → Int32
def cs_up (M : cs_Mem) (j : Nat) (g : Nat → Int32) : cs_Mem := fun i => if i = j then g else M i
def cs_bd {α : Type} {β : Sort _} (v : α) (k : α → β) : β := k v
def cs_n : Nat := 87
def cs_kdL : List Nat := [0, 1, 21, 21, 20, 20, 20, 22, 2, 20, 20, 20, 2, 20, 20, 20, 2, 20, 20, 20, 2, 20, 20, 20, 2, 20, 20, 20, 2, 20, 20, 20, 2, 20, 20, 20, 2, 20, 20, 20, 2, 20, 20, 20, 2, 20, 20, 20, 2, 20, 20, 20, 3, 20, 20, 4, 3, 20, 20, 20, 20, 20, 5, 20, 20, 20, 20, 20, 21, 21, 20, 21, 20, 20, 20, 20, 20, 20, 20, 20, 20, 20, 20, 20, 20, 20, 20]
def cs_kd (j : Nat) : Nat := cs_kdL.getD j 99
def cs_lnL : List Nat := [0, 0, 8, 8, 8, 16, 8, 11, 0, 8, 8, 8, 0, 8, 8, 8, 0, 8, 8, 8, 0, 8, 8, 8, 0, 8, 8, 8, 0, 8, 8, 8, 0, 8, 8, 8, 0, 8, 8, 8, 0, 3, 3, 3, 0, 3, 3, 3, 0, 3, 3, 3, 0, 43, 49, 0, 0, 43, 49, 3827, 90, 0, 0, 8, 8, 8, 8, 8, 8, 8, 16, 16, 55, 55, 55, 3, 513, 400, 8, 16, 27, 27, 3, 3, 3, 600, 3001]
def cs_ln (M : cs_Mem) (j : Nat) : Nat := if j = 61 then (M 1000 0).toNatClampNeg else cs_lnL.getD j 0
theorem cs_ln_up {M : cs_Mem} {j i : Nat} {g : Nat → Int32} (h : j < cs_n) : cs_ln (cs_up M j g) i = cs_ln M i := by
  have h1 : 1000 ≠ j := by
    unfold cs_n at h
    omega
  simp [cs_ln, cs_up, h1]
def cs_cell (k : Nat) (cA : Nat → ClassId) (ad : Nat → Nat) (n : Nat) (row : Nat → Int32) (j : Nat) : va_E := match k with
  | 0 => .inr (0, [.ref (ad 1), .ref (ad 52), .ref (ad 55)])
  | 1 => .inr (1, [.ref (ad 2), .ref (ad 3), .ref (ad 4), .ref (ad 5), .ref (ad 6), .ref (ad 7), .int (row 6)])
  | 2 => .inr (2, [.int (row 0), .ref (ad (j + 1)), .ref (ad (j + 2)), .ref (ad (j + 3)), .int (row 4), .int (row 5)])
  | 3 => .inr (3, [.ref (ad 1), .ref (ad (j + 1)), .ref (ad (j + 2))])
  | 4 => .inr (4, [.ref (ad 56), .ref (ad 59), .ref (ad 60), .ref (ad 61), .int (row 4), .int (row 5), .int (row 6), .int (row 7), .int (row 8), .int (row 9)])
  | 5 => .inr (5, [.int (row 0), .ref (ad 63), .ref (ad 64), .ref (ad 65), .ref (ad 66), .ref (ad 67), .ref (ad 68), .ref (ad 69), .ref (ad 70), .ref (ad 71), .ref (ad 72), .ref (ad 73), .ref (ad 74), .ref (ad 75), .ref (ad 76), .int (row 15), .int (row 16), .ref (ad 77), .ref (ad 78), .ref (ad 79), .ref (ad 80), .ref (ad 81), .ref (ad 82), .ref (ad 83), .ref (ad 84), .ref (ad 85), .int (row 26), .ref (ad 86), .int (row 28), .int (row 29), .int (row 30), .int (row 31)])
  | 20 => .inl (cA 0, n, .inl row)
  | 21 => .inl (cA 1, n, .inl row)
  | 22 => .inl (cA 2, 11, .inr (.inr (.inr (.inr (fun i => some (ad (8 + 4 * i)))))))
  | _ => .inl (cA 0, 0, .inl row)
def cs_tys (cA : Nat → ClassId) : List (ClassId × FieldType) := [(cA 0, .int), (cA 1, .boolean), (cA 2, .object "ClassStarter$Script")]
def cs_T0 : u_T := fun k => match k with
  | 0 => ("ClassStarter", "program", "LClassStarter$Program;", true)
  | 1 => ("ClassStarter", "machine", "LClassStarter$Machine;", true)
  | _ => ("ClassStarter", "explorer", "LClassStarter$Explorer;", true)
def cs_t0 : Nat → FieldType := fun k => match k with
  | 0 => .object "ClassStarter$Program"
  | 1 => .object "ClassStarter$Machine"
  | _ => .object "ClassStarter$Explorer"
def cs_T1 : u_T := fun k => match k with
  | 0 => ("ClassStarter$Program", "interfaces", "[Z", true)
  | 1 => ("ClassStarter$Program", "constants", "[Z", true)
  | 2 => ("ClassStarter$Program", "constantValues", "[I", true)
  | 3 => ("ClassStarter$Program", "inherited", "[I", true)
  | 4 => ("ClassStarter$Program", "inheritedCounts", "[I", true)
  | 5 => ("ClassStarter$Program", "scripts", "[LClassStarter$Script;", true)
  | _ => ("ClassStarter$Program", "classCount", "I", false)
def cs_t1 : Nat → FieldType := fun k => match k with
  | 0 => .array .boolean
  | 1 => .array .boolean
  | 2 => .array .int
  | 3 => .array .int
  | 4 => .array .int
  | 5 => .array (.object "ClassStarter$Script")
  | _ => .int
def cs_T2 : u_T := fun k => match k with
  | 0 => ("ClassStarter$Script", "mostActions", "I", true)
  | 1 => ("ClassStarter$Script", "actions", "[I", true)
  | 2 => ("ClassStarter$Script", "firstOperands", "[I", true)
  | 3 => ("ClassStarter$Script", "secondOperands", "[I", true)
  | 4 => ("ClassStarter$Script", "usesAhead", "I", false)
  | _ => ("ClassStarter$Script", "length", "I", false)
def cs_t2 : Nat → FieldType := fun k => match k with
  | 0 => .int
  | 1 => .array .int
  | 2 => .array .int
  | 3 => .array .int
  | 4 => .int
  | _ => .int
def cs_T3 : u_T := fun k => match k with
  | 0 => ("ClassStarter$Machine", "program", "LClassStarter$Program;", true)
  | 1 => ("ClassStarter$Machine", "cells", "[I", true)
  | _ => ("ClassStarter$Machine", "log", "[I", true)
def cs_t3 : Nat → FieldType := fun k => match k with
  | 0 => .object "ClassStarter$Program"
  | 1 => .array .int
  | _ => .array .int
def cs_T4 : u_T := fun k => match k with
  | 0 => ("ClassStarter$Explorer", "machine", "LClassStarter$Machine;", true)
  | 1 => ("ClassStarter$Explorer", "kept", "[I", true)
  | 2 => ("ClassStarter$Explorer", "untried", "[I", true)
  | 3 => ("ClassStarter$Explorer", "found", "[I", false)
  | 4 => ("ClassStarter$Explorer", "foundCount", "I", false)
  | 5 => ("ClassStarter$Explorer", "orders", "I", false)
  | 6 => ("ClassStarter$Explorer", "stuckOrders", "I", false)
  | 7 => ("ClassStarter$Explorer", "depth", "I", false)
  | 8 => ("ClassStarter$Explorer", "isKnown", "Z", false)
  | _ => ("ClassStarter$Explorer", "answer", "I", false)
def cs_t4 : Nat → FieldType := fun k => match k with
  | 0 => .object "ClassStarter$Machine"
  | 1 => .array .int
  | 2 => .array .int
  | 3 => .array .int
  | 4 => .int
  | 5 => .int
  | 6 => .int
  | 7 => .int
  | 8 => .boolean
  | _ => .int
def cs_T5 : u_T := fun k => match k with
  | 0 => ("ClassStarterModel", "classes", "I", false)
  | 1 => ("ClassStarterModel", "parent", "[I", true)
  | 2 => ("ClassStarterModel", "constants", "[I", true)
  | 3 => ("ClassStarterModel", "interfaces", "[I", true)
  | 4 => ("ClassStarterModel", "actions", "[I", true)
  | 5 => ("ClassStarterModel", "actionCount", "[I", true)
  | 6 => ("ClassStarterModel", "isInterface", "[Z", true)
  | 7 => ("ClassStarterModel", "constant", "[Z", true)
  | 8 => ("ClassStarterModel", "iface", "[I", true)
  | 9 => ("ClassStarterModel", "defaulted", "[Z", true)
  | 10 => ("ClassStarterModel", "act", "[I", true)
  | 11 => ("ClassStarterModel", "actA", "[I", true)
  | 12 => ("ClassStarterModel", "actB", "[I", true)
  | 13 => ("ClassStarterModel", "planCount", "[I", true)
  | 14 => ("ClassStarterModel", "made", "[I", true)
  | 15 => ("ClassStarterModel", "steps", "I", false)
  | 16 => ("ClassStarterModel", "begun", "Z", false)
  | 17 => ("ClassStarterModel", "tried", "[I", true)
  | 18 => ("ClassStarterModel", "state", "[I", true)
  | 19 => ("ClassStarterModel", "statics", "[I", true)
  | 20 => ("ClassStarterModel", "frame", "[I", true)
  | 21 => ("ClassStarterModel", "part", "[I", true)
  | 22 => ("ClassStarterModel", "frames", "[I", true)
  | 23 => ("ClassStarterModel", "pending", "[I", true)
  | 24 => ("ClassStarterModel", "ended", "[I", true)
  | 25 => ("ClassStarterModel", "log", "[I", true)
  | 26 => ("ClassStarterModel", "logs", "I", false)
  | 27 => ("ClassStarterModel", "outcomes", "[I", true)
  | 28 => ("ClassStarterModel", "found", "I", false)
  | 29 => ("ClassStarterModel", "orders", "I", false)
  | 30 => ("ClassStarterModel", "stuckOrders", "I", false)
  | _ => ("ClassStarterModel", "explored", "Z", false)
def cs_t5 : Nat → FieldType := fun k => match k with
  | 0 => .int
  | 1 => .array .int
  | 2 => .array .int
  | 3 => .array .int
  | 4 => .array .int
  | 5 => .array .int
  | 6 => .array .boolean
  | 7 => .array .boolean
  | 8 => .array .int
  | 9 => .array .boolean
  | 10 => .array .int
  | 11 => .array .int
  | 12 => .array .int
  | 13 => .array .int
  | 14 => .array .int
  | 15 => .int
  | 16 => .boolean
  | 17 => .array .int
  | 18 => .array .int
  | 19 => .array .int
  | 20 => .array .int
  | 21 => .array .int
  | 22 => .array .int
  | 23 => .array .int
  | 24 => .array .int
  | 25 => .array .int
  | 26 => .int
  | 27 => .array .int
  | 28 => .int
  | 29 => .int
  | 30 => .int
  | _ => .boolean
def cs_cl : List vw_C := [("ClassStarter", cs_T0, 3), ("ClassStarter$Program", cs_T1, 7), ("ClassStarter$Script", cs_T2, 6), ("ClassStarter$Machine", cs_T3, 3), ("ClassStarter$Explorer", cs_T4, 10), ("ClassStarterModel", cs_T5, 32)]
def cs_all : List Cond := lw_tbl.filter (fun w => goodWord w || k2_isCode w)
