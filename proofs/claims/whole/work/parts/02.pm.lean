/-! THE PURE MACHINE: the claim's own instructions over a heap of numbered cells, as a function (nothing of a class here) -/
/-- an instruction: as decoded, three numbers by its kind, the value that it pushes, the places it may go to -/
abbrev pm_I : Type := Jvm.ClassFile.Instr × Nat × Nat × Nat × Value × List Nat
/-- how many cells, how many slots they have, of which kind each is; ints, longs, references by cell and slot -/
abbrev pm_H : Type := (Nat × Nat × (Nat → Nat × Nat × Nat)) × (Nat → Nat → Int32) × (Nat → Nat → Int64) × (Nat → Nat → Option Nat)
abbrev pm_R : Type := Option (Option Value × pm_H)
abbrev pm_K : Type := Nat → List Value → List Value → pm_H → pm_R
/-- the place i of a list -/
noncomputable def pm_at {α : Type} (d : α) (l : List α) : Nat → α := List.rec (fun _ => d) (fun a _ ih i => Nat.rec a (fun j _ => ih j) i) l
noncomputable def pm_lk (l : List Value) (i : Nat) : Value := pm_at .null l i
def pm_cl : Value → Value
  | .long _ => .null
  | .double _ => .null
  | v => v
noncomputable def pm_st (l : List Value) : Nat → Value → List Value :=
  List.rec (fun _ _ => []) (fun a t ih i v => Nat.rec (v :: t) (fun j _ => Nat.rec (pm_cl a :: ih 0 v) (fun n _ => a :: ih (n + 1) v) j) i) l
def pm_up {α : Type} (f : Nat → α) (i : Nat) (g : α) : Nat → α := fun c => if c = i then g else f c
def pm_cat : List Value → Nat
  | [] => 0
  | .long _ :: t => 2 + pm_cat t
  | .double _ :: t => 2 + pm_cat t
  | _ :: t => 1 + pm_cat t
/-- an index within -/
def pm_inb (x : Int32) (n : Nat) : Bool := decide (0 ≤ x) && decide (x.toNatClampNeg < n)
/-- what a method of such a return type may answer -/
def pm_okz (c : Nat) (x : Int32) : Bool := match c with
  | 0 => true
  | 1 => x == 0 || x == 1
  | 2 => decide (0 ≤ x) && decide (x ≤ 65535)
  | _ => decide (-128 ≤ x) && decide (x ≤ 127)
def pm_ret (r : Option Value) (st : List Value) : List Value := match r with
  | some v => v :: st
  | none => st
/-- the locals that a call begins with -/
def pm_args : List Value → List Value
  | [] => []
  | .long x :: t => .long x :: .null :: pm_args t
  | .double x :: t => .double x :: .null :: pm_args t
  | v :: t => v :: pm_args t
def pm_pad : Nat → List Value → List Value
  | 0, _ => []
  | n + 1, [] => .null :: pm_pad n []
  | n + 1, v :: t => v :: pm_pad n t
def pm_go (b : Bool) (x y : pm_R) : pm_R := match b with
  | true => x
  | false => y
/-- the cell's new row -/
def pm_setI (h : pm_H) (r : Nat) (k : Nat) (x : Int32) : pm_H := (h.1, pm_up h.2.1 r (upd (h.2.1 r) k x), h.2.2.1, h.2.2.2)
def pm_setL (h : pm_H) (r : Nat) (k : Nat) (x : Int64) : pm_H := (h.1, h.2.1, pm_up h.2.2.1 r (vp_updL (h.2.2.1 r) k x), h.2.2.2)
def pm_setR (h : pm_H) (r : Nat) (k : Nat) (x : Option Nat) : pm_H := (h.1, h.2.1, h.2.2.1, pm_up h.2.2.2 r (va_up (h.2.2.2 r) k x))
def pm_kd (h : pm_H) (r : Nat) : Nat × Nat × Nat := h.1.2.2 r
/-- a new cell, all of it 0 -/
def pm_new (h : pm_H) (q : Nat × Nat × Nat) (w : Nat) : pm_H := ((h.1.1 + 1, h.1.2.1 + w, pm_up h.1.2.2 h.1.1 q), pm_up h.2.1 h.1.1 (fun _ => 0), pm_up h.2.2.1 h.1.1 (fun _ => 0), pm_up h.2.2.2 h.1.1 (fun _ => none))
def pm_NR : Nat := 48
/-- is it a cell of that kind -/
def pm_is (q : Nat × Nat × Nat) (t c : Nat) : Bool := Nat.beq q.1 t && Nat.beq q.2.1 c
/-- the receiver is of that class (1000: a text) -/
def pm_rc (h : pm_H) (a : Nat) : Value → Bool
  | .ref r => if a = 1000 then Nat.beq (pm_kd h r).1 3 else pm_is (pm_kd h r) 1 a
  | _ => false
def pm_ldr (r : Option Nat) (k : Value → pm_R) : pm_R := match r with
  | some q => pm_go (!(Nat.beq q 40)) (k (.ref q)) none
  | none => k .null
/-- the program: each method's instructions, how many locals -/
abbrev pm_P : Type := (Nat → Nat → pm_I) × (Nat → Nat)
