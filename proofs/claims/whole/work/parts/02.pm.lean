/-! THE PURE MACHINE: the claim's own instructions over a heap of numbered cells, as a function (nothing of a class here) -/
/-- an instruction: as decoded, three numbers by its kind, the value that it pushes, the places it may go to -/
abbrev pm_I : Type := Jvm.ClassFile.Instr × Nat × Nat × Nat × Value × List Nat
/-- how many cells, how many slots they have, of which kind each is; ints, longs, references by cell and slot -/
abbrev pm_H : Type := (Nat × Nat × (Nat → Nat × Nat × Nat)) × (Nat → Nat → Int32) × (Nat → Nat → Int64) × (Nat → Nat → Option Nat)
abbrev pm_R : Type := Option (Option Value × pm_H)
abbrev pm_K : Type := Nat → List Value → List Value → pm_H → pm_R
/-- the place i of a list -/
noncomputable def pm_at {α : Type} (d : α) (l : List α) : Nat → α := List.rec (fun _ => d) (fun a _ ih i => Nat.rec a (fun j _ => ih j) i) l
noncomputable def pm_lk (l : List Value) (i : Nat) : Value := pm_at .null l i
def pm_cl : Value → Value
  | .long _ => .null
  | v => v
noncomputable def pm_st (l : List Value) : Nat → Value → List Value :=
  List.rec (fun _ _ => []) (fun a t ih i v => Nat.rec (v :: t) (fun j _ => Nat.rec (pm_cl a :: ih 0 v) (fun n _ => a :: ih (n + 1) v) j) i) l
def pm_up {α : Type} (f : Nat → α) (i : Nat) (g : α) : Nat → α := fun c => if c = i then g else f c
def pm_cat : List Value → Nat
  | [] => 0
  | .long _ :: t => 2 + pm_cat t
  | .double _ :: t => 2 + pm_cat t
  | _ :: t => 1 + pm_cat t
/-- an index within -/
def pm_inb (x : Int32) (n : Nat) : Bool := decide (0 ≤ x) && decide (x.toNatClampNeg < n)
/-- what a method of such a return type may answer -/
def pm_okz (c : Nat) (x : Int32) : Bool := match c with
  | 0 => true
  | 1 => x == 0 || x == 1
  | 2 => decide (0 ≤ x) && decide (x ≤ 65535)
  | _ => decide (-128 ≤ x) && decide (x ≤ 127)
def pm_ret (r : Option Value) (st : List Value) : List Value := match r with
  | some v => v :: st
  | none => st
/-- the locals that a call begins with -/
def pm_args : List Value → List Value
  | [] => []
  | .long x :: t => .long x :: .null :: pm_args t
  | v :: t => v :: pm_args t
def pm_pad : Nat → List Value → List Value
  | 0, _ => []
  | n + 1, [] => .null :: pm_pad n []
  | n + 1, v :: t => v :: pm_pad n t
def pm_go (b : Bool) (x y : pm_R) : pm_R := match b with
  | true => x
  | false => y
/-- the cell's new row -/
def pm_setI (h : pm_H) (r : Nat) (k : Nat) (x : Int32) : pm_H := (h.1, pm_up h.2.1 r (upd (h.2.1 r) k x), h.2.2.1, h.2.2.2)
def pm_setL (h : pm_H) (r : Nat) (k : Nat) (x : Int64) : pm_H := (h.1, h.2.1, pm_up h.2.2.1 r (vp_updL (h.2.2.1 r) k x), h.2.2.2)
def pm_setR (h : pm_H) (r : Nat) (k : Nat) (x : Option Nat) : pm_H := (h.1, h.2.1, h.2.2.1, pm_up h.2.2.2 r (va_up (h.2.2.2 r) k x))
def pm_kd (h : pm_H) (r : Nat) : Nat × Nat × Nat := h.1.2.2 r
/-- a new cell, all of it 0 -/
def pm_new (h : pm_H) (q : Nat × Nat × Nat) (w : Nat) : pm_H := ((h.1.1 + 1, h.1.2.1 + w, pm_up h.1.2.2 h.1.1 q), pm_up h.2.1 h.1.1 (fun _ => 0), pm_up h.2.2.1 h.1.1 (fun _ => 0), pm_up h.2.2.2 h.1.1 (fun _ => none))
def pm_NR : Nat := 48
/-- is it a cell of that kind -/
def pm_is (q : Nat × Nat × Nat) (t c : Nat) : Bool := Nat.beq q.1 t && Nat.beq q.2.1 c
/-- the receiver is of that class (1000: a text) -/
def pm_rc (h : pm_H) (a : Nat) : Value → Bool
  | .ref r => if a = 1000 then Nat.beq (pm_kd h r).1 3 else pm_is (pm_kd h r) 1 a
  | _ => false
def pm_refd (r : Option Nat) : Value := match r with
  | some q => .ref q
  | none => .null
def pm_lks (k : Nat → pm_R) (d : Nat) (x : Int32) : List (Int × Int) → List Nat → pm_R
  | q :: ps, t :: tg => if x.toInt = q.1 then k t else pm_lks k d x ps tg
  | _, _ => k d
/-- one instruction: what goes on behind it is k, a call is 'call' -/
noncomputable def pm_sem (ins : Jvm.ClassFile.Instr) (a b c : Nat) (v : Value) (tg : List Nat) (i : Nat) (k : pm_K) (call : Nat → List Value → pm_H → pm_R) (ls st : List Value) (h : pm_H) : pm_R :=
  match ins with
  | .iconst _ | .bipush _ | .sipush _ | .ldc _ | .ldc_w _ | .ldc2_w _ | .lconst _ | .getstatic _ => k (i + 1) ls (v :: st) h
  | .iload_n _ | .iload _ => match pm_lk ls a with
    | .int x => k (i + 1) ls (.int x :: st) h
    | _ => none
  | .lload_n _ | .lload _ => match pm_lk ls a with
    | .long x => k (i + 1) ls (.long x :: st) h
    | _ => none
  | .aload_n _ | .aload _ => match pm_lk ls a with
    | .ref x => k (i + 1) ls (.ref x :: st) h
    | _ => none
  | .istore_n _ | .istore _ => match st with
    | .int x :: t => k (i + 1) (pm_st ls a (.int x)) t h
    | _ => none
  | .lstore_n _ | .lstore _ => match st with
    | .long x :: t => k (i + 1) (pm_st (pm_st ls (a + 1) .null) a (.long x)) t h
    | _ => none
  | .astore_n _ | .astore _ => match st with
    | .ref x :: t => k (i + 1) (pm_st ls a (.ref x)) t h
    | _ => none
  | .iinc _ _ => match pm_lk ls a, v with
    | .int x, .int y => k (i + 1) (pm_st ls a (.int (x + y))) st h
    | _, _ => none
  | .iadd => match st with
    | .int y :: .int x :: t => k (i + 1) ls (.int (x + y) :: t) h
    | _ => none
  | .isub => match st with
    | .int y :: .int x :: t => k (i + 1) ls (.int (x - y) :: t) h
    | _ => none
  | .imul => match st with
    | .int y :: .int x :: t => k (i + 1) ls (.int (x * y) :: t) h
    | _ => none
  | .iand => match st with
    | .int y :: .int x :: t => k (i + 1) ls (.int (x &&& y) :: t) h
    | _ => none
  | .ior => match st with
    | .int y :: .int x :: t => k (i + 1) ls (.int (x ||| y) :: t) h
    | _ => none
  | .ixor => match st with
    | .int y :: .int x :: t => k (i + 1) ls (.int (x ^^^ y) :: t) h
    | _ => none
  | .ishl => match st with
    | .int y :: .int x :: t => k (i + 1) ls (.int (x <<< (y &&& 31)) :: t) h
    | _ => none
  | .ishr => match st with
    | .int y :: .int x :: t => k (i + 1) ls (.int (x >>> (y &&& 31)) :: t) h
    | _ => none
  | .idiv => match st with
    | .int y :: .int x :: t => pm_go (!(y == 0)) (k (i + 1) ls (.int (x / y) :: t) h) none
    | _ => none
  | .irem => match st with
    | .int y :: .int x :: t => pm_go (!(y == 0)) (k (i + 1) ls (.int (x - x / y * y) :: t) h) none
    | _ => none
  | .ineg => match st with
    | .int x :: t => k (i + 1) ls (.int (-x) :: t) h
    | _ => none
  | .ladd => match st with
    | .long y :: .long x :: t => k (i + 1) ls (.long (x + y) :: t) h
    | _ => none
  | .lsub => match st with
    | .long y :: .long x :: t => k (i + 1) ls (.long (x - y) :: t) h
    | _ => none
  | .lmul => match st with
    | .long y :: .long x :: t => k (i + 1) ls (.long (x * y) :: t) h
    | _ => none
  | .land => match st with
    | .long y :: .long x :: t => k (i + 1) ls (.long (x &&& y) :: t) h
    | _ => none
  | .lor => match st with
    | .long y :: .long x :: t => k (i + 1) ls (.long (x ||| y) :: t) h
    | _ => none
  | .ldiv => match st with
    | .long y :: .long x :: t => pm_go (!(y == 0)) (k (i + 1) ls (.long (x / y) :: t) h) none
    | _ => none
  | .lrem => match st with
    | .long y :: .long x :: t => pm_go (!(y == 0)) (k (i + 1) ls (.long (x - x / y * y) :: t) h) none
    | _ => none
  | .lneg => match st with
    | .long x :: t => k (i + 1) ls (.long (-x) :: t) h
    | _ => none
  | .lshl => match st with
    | .int y :: .long x :: t => k (i + 1) ls (.long (x <<< (y.toInt64 &&& 63)) :: t) h
    | _ => none
  | .lshr => match st with
    | .int y :: .long x :: t => k (i + 1) ls (.long (x >>> (y.toInt64 &&& 63)) :: t) h
    | _ => none
  | .lcmp => match st with
    | .long y :: .long x :: t => k (i + 1) ls (.int (lg_cmp x y) :: t) h
    | _ => none
  | .i2l => match st with
    | .int x :: t => k (i + 1) ls (.long x.toInt64 :: t) h
    | _ => none
  | .l2i => match st with
    | .long x :: t => k (i + 1) ls (.int x.toInt32 :: t) h
    | _ => none
  | .i2c => match st with
    | .int x :: t => k (i + 1) ls (.int (x.toUInt32 % 65536).toInt32 :: t) h
    | _ => none
  | .dup => match st with
    | .int x :: t => k (i + 1) ls (.int x :: .int x :: t) h
    | .ref x :: t => k (i + 1) ls (.ref x :: .ref x :: t) h
    | _ => none
  | .dup2 => match st with
    | .long x :: t => k (i + 1) ls (.long x :: .long x :: t) h
    | .int y :: .ref x :: t => k (i + 1) ls (.int y :: .ref x :: .int y :: .ref x :: t) h
    | _ => none
  | .pop => match st with
    | .int _ :: t => k (i + 1) ls t h
    | _ => none
  | .goto _ => k a ls st h
  | .ifCond .eq _ => match st with
    | .int x :: t => if x = 0 then k a ls t h else k (i + 1) ls t h
    | _ => none
  | .ifCond .ne _ => match st with
    | .int x :: t => if x = 0 then k (i + 1) ls t h else k a ls t h
    | _ => none
  | .ifCond .lt _ => match st with
    | .int x :: t => if x < 0 then k a ls t h else k (i + 1) ls t h
    | _ => none
  | .ifCond .ge _ => match st with
    | .int x :: t => if x < 0 then k (i + 1) ls t h else k a ls t h
    | _ => none
  | .ifCond .gt _ => match st with
    | .int x :: t => if 0 < x then k a ls t h else k (i + 1) ls t h
    | _ => none
  | .ifCond .le _ => match st with
    | .int x :: t => if 0 < x then k (i + 1) ls t h else k a ls t h
    | _ => none
  | .if_icmp .eq _ => match st with
    | .int y :: .int x :: t => if x = y then k a ls t h else k (i + 1) ls t h
    | _ => none
  | .if_icmp .ne _ => match st with
    | .int y :: .int x :: t => if x = y then k (i + 1) ls t h else k a ls t h
    | _ => none
  | .if_icmp .lt _ => match st with
    | .int y :: .int x :: t => if x < y then k a ls t h else k (i + 1) ls t h
    | _ => none
  | .if_icmp .ge _ => match st with
    | .int y :: .int x :: t => if x < y then k (i + 1) ls t h else k a ls t h
    | _ => none
  | .if_icmp .gt _ => match st with
    | .int y :: .int x :: t => if y < x then k a ls t h else k (i + 1) ls t h
    | _ => none
  | .if_icmp .le _ => match st with
    | .int y :: .int x :: t => if y < x then k (i + 1) ls t h else k a ls t h
    | _ => none
  | .ifnull _ => match st with
    | .ref _ :: t => k (i + 1) ls t h
    | .null :: t => k a ls t h
    | _ => none
  | .ifnonnull _ => match st with
    | .ref _ :: t => k a ls t h
    | .null :: t => k (i + 1) ls t h
    | _ => none
  | .tableswitch _ lo hi _ => match st with
    | .int x :: t => if x.toInt < lo ∨ hi < x.toInt then k a ls t h else k (pm_at 0 tg (x.toInt - lo).toNat) ls t h
    | _ => none
  | .lookupswitch _ ps => match st with
    | .int x :: t => pm_lks (fun j => k j ls t h) a x ps.toList tg
    | _ => none
  | .iaload => match st with
    | .int j :: .ref r :: t => pm_go (pm_is (pm_kd h r) 2 0 && pm_inb j (pm_kd h r).2.2) (k (i + 1) ls (.int (h.2.1 r j.toNatClampNeg) :: t) h) none
    | _ => none
  | .baload => match st with
    | .int j :: .ref r :: t => pm_go ((pm_is (pm_kd h r) 2 1 || pm_is (pm_kd h r) 2 3) && pm_inb j (pm_kd h r).2.2) (k (i + 1) ls (.int (h.2.1 r j.toNatClampNeg) :: t) h) none
    | _ => none
  | .laload => match st with
    | .int j :: .ref r :: t => pm_go (pm_is (pm_kd h r) 2 2 && pm_inb j (pm_kd h r).2.2) (k (i + 1) ls (.long (h.2.2.1 r j.toNatClampNeg) :: t) h) none
    | _ => none
  | .aaload => match st with
    | .int j :: .ref r :: t => pm_go (Nat.beq (pm_kd h r).1 2 && Nat.ble 4 (pm_kd h r).2.1 && pm_inb j (pm_kd h r).2.2) (k (i + 1) ls (pm_refd (h.2.2.2 r j.toNatClampNeg) :: t) h) none
    | _ => none
  | .iastore => match st with
    | .int x :: .int j :: .ref r :: t => pm_go (Nat.ble pm_NR r && (pm_is (pm_kd h r) 2 0 && pm_inb j (pm_kd h r).2.2)) (k (i + 1) ls t (pm_setI h r j.toNatClampNeg x)) none
    | _ => none
  | .bastore => match st with
    | .int x :: .int j :: .ref r :: t => pm_go (Nat.ble pm_NR r && (pm_is (pm_kd h r) 2 1 && (pm_inb j (pm_kd h r).2.2 && pm_okz 1 x))) (k (i + 1) ls t (pm_setI h r j.toNatClampNeg x)) none
    | _ => none
  | .lastore => match st with
    | .long x :: .int j :: .ref r :: t => pm_go (Nat.ble pm_NR r && (pm_is (pm_kd h r) 2 2 && pm_inb j (pm_kd h r).2.2)) (k (i + 1) ls t (pm_setL h r j.toNatClampNeg x)) none
    | _ => none
  | .aastore => match st with
    | .ref x :: .int j :: .ref r :: t => pm_go (Nat.ble pm_NR r && (Nat.ble pm_NR x && (Nat.beq (pm_kd h r).1 2 && (pm_inb j (pm_kd h r).2.2 && (Nat.beq (pm_kd h x).1 1 && Nat.beq (pm_kd h r).2.1 ((pm_kd h x).2.1 + 4)))))) (k (i + 1) ls t (pm_setR h r j.toNatClampNeg (some x))) none
    | _ => none
  | .arraylength => match st with
    | .ref r :: t => pm_go (Nat.beq (pm_kd h r).1 2) (k (i + 1) ls (.int (Int32.ofNat (pm_kd h r).2.2) :: t) h) none
    | _ => none
  | .getfield _ => match st with
    | .ref r :: t => pm_go (pm_rc h a (.ref r)) (match c with
      | 0 => k (i + 1) ls (.int (h.2.1 r b) :: t) h
      | 1 => k (i + 1) ls (.int (h.2.1 r b) :: t) h
      | 2 => k (i + 1) ls (.long (h.2.2.1 r b) :: t) h
      | _ => k (i + 1) ls (pm_refd (h.2.2.2 r b) :: t) h) none
    | _ => none
  | .putfield _ => match st with
    | .int x :: .ref r :: t => pm_go (Nat.ble pm_NR r && (pm_is (pm_kd h r) 1 a && (Nat.ble c 1 && pm_okz c x))) (k (i + 1) ls t (pm_setI h r b x)) none
    | .long x :: .ref r :: t => pm_go (Nat.ble pm_NR r && (pm_is (pm_kd h r) 1 a && Nat.beq c 2)) (k (i + 1) ls t (pm_setL h r b x)) none
    | .ref x :: .ref r :: t => pm_go (Nat.ble pm_NR r && (pm_is (pm_kd h r) 1 a && Nat.beq c 3)) (k (i + 1) ls t (pm_setR h r b (some x))) none
    | _ => none
  | .new _ => k (i + 1) ls (.ref h.1.1 :: st) (pm_new h (1, a, 0) b)
  | .newarray _ => match st with
    | .int x :: t => pm_go (pm_inb x 65536) (k (i + 1) ls (.ref h.1.1 :: t) (pm_new h (2, a, x.toNatClampNeg) x.toNatClampNeg)) none
    | _ => none
  | .anewarray _ => match st with
    | .int x :: t => pm_go (pm_inb x 65536) (k (i + 1) ls (.ref h.1.1 :: t) (pm_new h (2, a, x.toNatClampNeg) x.toNatClampNeg)) none
    | _ => none
  | .checkcast _ => match st with
    | .ref r :: t => pm_go (pm_is (pm_kd h r) 2 0 && Nat.ble pm_NR r) (k (i + 1) ls (.ref r :: t) h) none
    | _ => none
  | .invokestatic _ => match c with
    | 8 => match st with
      | .int n :: .int dp :: .ref r :: .int sp :: .ref q :: t => pm_go (pm_inb n 65536 && (pm_inb sp 65536 && (pm_inb dp 65536 && (Nat.ble pm_NR r && (Nat.ble (sp.toNatClampNeg + n.toNatClampNeg) (pm_kd h q).2.2 && (Nat.ble (dp.toNatClampNeg + n.toNatClampNeg) (pm_kd h r).2.2 && Nat.ble (pm_cat t) 8)))))) (
          pm_go (pm_is (pm_kd h r) 2 0 && pm_is (pm_kd h q) 2 0) (k (i + 1) ls t (h.1, pm_up h.2.1 r (va_cpy (h.2.1 q) (h.2.1 r) sp.toNatClampNeg dp.toNatClampNeg n.toNatClampNeg), h.2.2.1, h.2.2.2)) (
          pm_go (pm_is (pm_kd h r) 2 2 && (pm_is (pm_kd h q) 2 2 && Nat.ble pm_NR q)) (k (i + 1) ls t (h.1, h.2.1, pm_up h.2.2.1 r (va_cpy (h.2.2.1 q) (h.2.2.1 r) sp.toNatClampNeg dp.toNatClampNeg n.toNatClampNeg), h.2.2.2)) none)) none
      | _ => none
    | _ => pm_go (Nat.ble (pm_cat (st.drop b)) 8 && Nat.beq (st.take b).length b) (match call a (st.take b).reverse h with
      | some (r, h') => k (i + 1) ls (pm_ret r (st.drop b)) h'
      | none => none) none
  | .invokespecial _ => match c with
    | 7 => match st with
      | .ref _ :: t => pm_go (Nat.ble (pm_cat t) 8) (k (i + 1) ls t h) none
      | _ => none
    | _ => pm_go (Nat.ble (pm_cat (st.drop b)) 8 && (Nat.beq (st.take b).length b && pm_rc h (pm_at 0 tg 0) (pm_lk st (b - 1)))) (match call a (st.take b).reverse h with
      | some (r, h') => k (i + 1) ls (pm_ret r (st.drop b)) h'
      | none => none) none
  | .invokevirtual _ => match c with
    | 9 => match st with
      | .ref r :: t => pm_go (pm_is (pm_kd h r) 2 0 && Nat.ble (pm_cat t) 8) (k (i + 1) ls (.ref h.1.1 :: t) ((h.1.1 + 1, h.1.2.1 + (pm_kd h r).2.2, pm_up h.1.2.2 h.1.1 (pm_kd h r)), pm_up h.2.1 h.1.1 (h.2.1 r), pm_up h.2.2.1 h.1.1 (fun _ => 0), pm_up h.2.2.2 h.1.1 (fun _ => none))) none
      | _ => none
    | _ => pm_go (Nat.ble (pm_cat (st.drop b)) 8 && (Nat.beq (st.take b).length b && pm_rc h (pm_at 0 tg 0) (pm_lk st (b - 1)))) (match call a (st.take b).reverse h with
      | some (r, h') => k (i + 1) ls (pm_ret r (st.drop b)) h'
      | none => none) none
  | .ireturn => match st with
    | [.int x] => pm_go (pm_okz c x) (some (some (.int x), h)) none
    | _ => none
  | .lreturn => match st with
    | [.long x] => some (some (.long x), h)
    | _ => none
  | .areturn => match st with
    | [.ref x] => some (some (.ref x), h)
    | _ => none
  | .return_ => match st with
    | [] => some (none, h)
    | _ => none
  | _ => none
/-- a method's run: f steps at most, calls by 'call' -/
noncomputable def pm_run (code : Nat → pm_I) (call : Nat → Nat → List Value → pm_H → pm_R) (f : Nat) : pm_K :=
  Nat.rec (fun _ _ _ _ => none) (fun n ih i ls st h => pm_sem (code i).1 (code i).2.1 (code i).2.2.1 (code i).2.2.2.1 (code i).2.2.2.2.1 (code i).2.2.2.2.2 i ih (call n) ls st h) f
/-- the program: each method's instructions, how many locals -/
abbrev pm_P : Type := (Nat → Nat → pm_I) × (Nat → Nat)
/-- calls d deep -/
noncomputable def pm_ev (P : pm_P) (d : Nat) : Nat → Nat → pm_K :=
  Nat.rec (fun f m => pm_run (P.1 m) (fun _ _ _ _ => none) f) (fun _ ih f m => pm_run (P.1 m) (fun n y as h => ih n y 0 (pm_pad (P.2 y) (pm_args as)) [] h) f) d
