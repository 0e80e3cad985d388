/-! EACH INSTRUCTION OF THE DATA IS THAT OF THE CODE: a program that says so, run by the kernel, a method a row -/
def pd_nop : pm_I := (.nop, 0, 0, 0, .null, [])
noncomputable def pd_i (k i : Nat) : pm_I := pm_at pd_nop (pm_at [] (pm_at [] (pm_at [] pd_k (k / 16)) (k % 16)) (i / 16)) (i % 16)
noncomputable def pd_pcs (k : Nat) : List Nat := pm_at [] (pm_at [] pd_q (k / 16)) (k % 16)
noncomputable def pd_pc (k i : Nat) : Nat := pm_at 0 (pd_pcs k) i
noncomputable def pd_mm (k : Nat) : pd_M := pm_at (⟨"", "", ""⟩, ⟨#[]⟩, 0, none, false) (pm_at [] pd_ms (k / 40)) (k % 40)
noncomputable def pd_pw (i : Nat) : Cond := pm_at .tt (pm_at [] pd_pools (i / 40)) (i % 40)
noncomputable def pd_P : pm_P := (pd_i, fun k => (pd_mm k).2.2.1)
def pf_len (b : Nat) : Jvm.ClassFile.Instr → Nat
  | .tableswitch _ _ _ _ => b
  | .lookupswitch _ _ => b
  | .bipush _ | .ldc _ | .iload _ | .lload _ | .aload _ | .istore _ | .lstore _ | .astore _ | .newarray _ => 2
  | .sipush _ | .ldc_w _ | .ldc2_w _ | .getstatic _ | .iinc _ _ | .ifCond _ _ | .if_icmp _ _ | .goto _ | .ifnull _ | .ifnonnull _ | .anewarray _ | .checkcast _ | .new _ | .getfield _ | .putfield _ | .invokevirtual _ | .invokestatic _ | .invokespecial _ => 3
  | _ => 1
/-- a value that is an int, a long, a reference -/
def pf_vi (v : Value) (x : Int32) : Bool := match v with
  | .int y => y == x
  | _ => false
def pf_vl (v : Value) (x : Int64) : Bool := match v with
  | .long y => y == x
  | _ => false
def pf_vr (v : Value) (x : Nat) : Bool := match v with
  | .ref y => Nat.beq y x
  | _ => false
def pf_tc : FieldType → Nat
  | .int => 0
  | .boolean => 1
  | .long => 2
  | _ => 3
def pf_rc (c : Nat) : Option FieldType → Bool
  | some .int => Nat.beq c 0
  | some .boolean => Nat.beq c 1
  | some .char => Nat.beq c 2
  | some .byte => Nat.beq c 3
  | _ => false
def pf_at' : Jvm.ClassFile.ArrayType → Nat
  | .int => 0
  | .boolean => 1
  | .long => 2
  | _ => 9
def pf_eqf (w : Cond) (own : String) (idx : Nat) (ref n d : String) (nest : Nat) : Bool := match nest with
  | 0 => decide (w = .fieldLink own idx ref n d)
  | _ => decide (w = .fieldLinkNest own idx ref n d "SkinTent")
def pf_eqm (w : Cond) (own : String) (idx : Nat) (y : MethodName) (nest : Nat) : Bool := match nest with
  | 0 => decide (w = .methodLink own idx y)
  | _ => decide (w = .methodLinkNest own idx y "SkinTent")
def pf_narg (d : String) : Option Nat := (parseMethodDescriptor d).map fun q => q.parameters.length
def pf_same (v w : Value) : Bool := match v, w with
  | .int x, .int y => x == y
  | .ref x, .ref y => Nat.beq x y
  | _, _ => false
noncomputable def pf_chk (M : pd_M) (pcs : List Nat) (pc : Nat) (q : pm_I) : Bool := match q with
  | (ins, a, b, c, v, tg) => match ins with
    | .iconst n => pf_vi v (Int32.ofInt n)
    | .bipush n => pf_vi v (Int8.ofInt n).toInt32
    | .sipush n => pf_vi v (Int16.ofInt n).toInt32
    | .lconst n => pf_vl v (Int64.ofNat (n : Nat))
    | .ldc idx => match c with
      | 0 => match v with
        | .int x => decide (pd_pw (pm_at 0 tg 0) = .constant M.1.cls idx x)
        | _ => false
      | _ => pf_vr v (8 + a) && (Nat.ble (a + 1) pd_nJ && (decide ((pd_str a).1 = M.1.cls) && Nat.beq (pd_str a).2.1 idx))
    | .ldc_w idx => match v with
      | .int x => decide (pd_pw (pm_at 0 tg 0) = .constant M.1.cls idx x)
      | _ => false
    | .ldc2_w idx => match v with
      | .long x => decide (pd_pw (pm_at 0 tg 0) = .constantLong M.1.cls idx x)
      | _ => false
    | .getstatic idx => Nat.ble (a + 1) pd_nS && (pf_same v (pd_vv a) && decide (pd_pw (pm_at 0 tg 0) = .fieldLink M.1.cls idx (pd_sv a).1 (pd_sv a).2.1 (pd_sv a).2.2))
    | .iload_n n | .lload_n n | .aload_n n => Nat.beq n a
    | .istore_n n | .astore_n n => Nat.beq n a && Nat.ble (a + 1) M.2.2.1
    | .lstore_n n => Nat.beq n a && Nat.ble (a + 2) M.2.2.1
    | .iload n | .lload n | .aload n => Nat.beq n a
    | .istore n | .astore n => Nat.beq n a && Nat.ble (a + 1) M.2.2.1
    | .lstore n => Nat.beq n a && Nat.ble (a + 2) M.2.2.1
    | .iinc n d => Nat.beq n a && (pf_vi v (Int32.ofInt d) && Nat.ble (a + 1) M.2.2.1)
    | .ifCond _ off => decide ((pc : Int) + off = (pm_at 0 pcs a : Nat))
    | .if_icmp _ off => decide ((pc : Int) + off = (pm_at 0 pcs a : Nat))
    | .goto off => decide ((pc : Int) + off = (pm_at 0 pcs a : Nat))
    | .ifnull off => decide ((pc : Int) + off = (pm_at 0 pcs a : Nat))
    | .ifnonnull off => decide ((pc : Int) + off = (pm_at 0 pcs a : Nat))
    | .tableswitch d lo hi offs => decide ((pc : Int) + d = (pm_at 0 pcs a : Nat)) && (decide (offs.toList.length = tg.length) && (decide ((tg.length : Int) = hi - lo + 1) && (offs.toList.zip tg).all (fun z => decide ((pc : Int) + z.1 = (pm_at 0 pcs z.2 : Nat)))))
    | .lookupswitch d ps => decide ((pc : Int) + d = (pm_at 0 pcs a : Nat)) && (decide (ps.toList.length = tg.length) && ((ps.toList.zip (ps.toList.drop 1)).all (fun (a, next) => a.1 < next.1) && (ps.toList.zip tg).all (fun z => decide ((pc : Int) + z.1.2 = (pm_at 0 pcs z.2 : Nat)))))
    | .getfield idx => match a with
      | 1000 => match b with
        | 0 => Nat.beq c 3 && decide (pd_pw (pm_at 0 tg 0) = .fieldLink M.1.cls idx "java/lang/String" "value" "[B")
        | _ => Nat.beq b 1 && (Nat.beq c 0 && decide (pd_pw (pm_at 0 tg 0) = .fieldLink M.1.cls idx "java/lang/String" "coder" "B"))
      | a => Nat.ble (a + 1) pd_nC && (Nat.ble (b + 1) (pd_N a) && (Nat.beq c (pf_tc (pd_Y a b)) && (decide ((pd_T a b).1 = pd_R a) && pf_eqf (pd_pw (pm_at 0 tg 0)) M.1.cls idx (pd_R a) (pd_T a b).2.1 (pd_T a b).2.2.1 (pm_at 0 tg 1))))
    | .putfield idx => Nat.ble (a + 1) pd_nC && (Nat.ble (b + 1) (pd_N a) && (Nat.beq c (pf_tc (pd_Y a b)) && (decide ((pd_T a b).1 = pd_R a) && (pf_eqf (pd_pw (pm_at 0 tg 0)) M.1.cls idx (pd_R a) (pd_T a b).2.1 (pd_T a b).2.2.1 (pm_at 0 tg 1) && (!(pd_T a b).2.2.2 || (Nat.beq (pm_at 0 tg 1) 0 && (decide (M.1.name = "<init>") && decide (M.1.cls = pd_R a))))))))
    | .new idx => Nat.ble (a + 1) pd_nC && (Nat.beq b (pd_N a) && decide (pd_pw (pm_at 0 tg 0) = .classLink M.1.cls idx (pd_R a)))
    | .newarray t => Nat.beq (pf_at' t) a && Nat.ble a 2
    | .anewarray idx => Nat.ble 4 a && (Nat.ble (a - 3) pd_nC && decide (pd_pw (pm_at 0 tg 0) = .classLink M.1.cls idx (pd_R (a - 4))))
    | .checkcast idx => decide (pd_pw (pm_at 0 tg 0) = .classLink M.1.cls idx "[I")
    | .invokestatic idx => match c with
      | 8 => decide (pd_pw (pm_at 0 tg 1) = .methodLink M.1.cls idx arraycopyName)
      | c => Nat.ble (a + 1) pd_nM && (Nat.ble 1 a && ((pd_mm a).2.2.2.2 && (pf_eqm (pd_pw (pm_at 0 tg 1)) M.1.cls idx (pd_mm a).1 c && decide (pf_narg (pd_mm a).1.desc = some b))))
    | .invokespecial idx => match c with
      | 7 => decide (pd_pw (pm_at 0 tg 1) = .methodLink M.1.cls idx objectInit)
      | c => Nat.ble (a + 1) pd_nM && (Nat.ble 1 a && (!(pd_mm a).2.2.2.2 && (pf_eqm (pd_pw (pm_at 0 tg 1)) M.1.cls idx (pd_mm a).1 c && (decide ((pf_narg (pd_mm a).1.desc).map (· + 1) = some b) && (decide ((pd_mm a).1.name = "<init>") && decide ((pd_mm a).2.2.2.1 = none))))))
    | .invokevirtual idx => match c with
      | 9 => decide (pd_pw (pm_at 0 tg 1) = .methodLink M.1.cls idx ⟨"[I", "clone", "()Ljava/lang/Object;"⟩)
      | c => Nat.ble (a + 1) pd_nM && (Nat.ble 1 a && (!(pd_mm a).2.2.2.2 && (pf_eqm (pd_pw (pm_at 0 tg 1)) M.1.cls idx (pd_mm a).1 c && (decide ((pf_narg (pd_mm a).1.desc).map (· + 1) = some b) && (decide (¬ (pd_mm a).1.name = "<init>") && (Nat.ble (pm_at 0 tg 0 + 1) pd_nC && decide (pd_R (pm_at 0 tg 0) = (pd_mm a).1.cls) || Nat.beq (pm_at 0 tg 0) 1000 && decide ((pd_mm a).1.cls = "java/lang/String")))))))
    | .ireturn => pf_rc c M.2.2.2.1
    | .lreturn => decide (M.2.2.2.1 = some .long)
    | .areturn => decide (M.2.2.2.1 = some (.object "java/lang/String"))
    | .return_ => decide (M.2.2.2.1 = none)
    | _ => true
noncomputable def pf_ok (M : pd_M) (pcs : List Nat) (pc pn : Nat) (q : pm_I) : Bool := match q.1 with
  | .nop => true
  | _ => decide (decode M.2.1 pc = .ok (q.1, pf_len q.2.2.1 q.1)) && (Nat.beq pn (pc + pf_len q.2.2.1 q.1) && pf_chk M pcs pc q)
noncomputable def pf_all (M : pd_M) (pcs : List Nat) : List Nat → List pm_I → Bool
  | _, [] => true
  | pc :: pn :: t, q :: l => pf_ok M pcs pc pn q && pf_all M pcs (pn :: t) l
  | _, _ => false
noncomputable def pf_cks (k : Nat) : List (List pm_I) := pm_at [] (pm_at [] pd_k (k / 16)) (k % 16)
noncomputable def pf_part (k j : Nat) : Bool := pf_all (pd_mm k) (pd_pcs k) ((pd_pcs k).drop (16 * j)) (pm_at [] (pf_cks k) j)
noncomputable def pf_run (k : Nat) : Bool := Nat.ble (pf_cks k).length 60 && (List.range (pf_cks k).length).all (pf_part k)
theorem pf_run_of {k n : Nat} (h : Nat.beq (pf_cks k).length n = true) (hn : Nat.ble n 60 = true) (hp : ∀ j, j < n → pf_part k j = true) : pf_run k = true := by
  have e := Nat.eq_of_beq_eq_true h
  unfold pf_run
  rw [e, hn, Bool.true_and, List.all_eq_true]
  exact fun j hj => hp j (List.mem_range.mp hj)
