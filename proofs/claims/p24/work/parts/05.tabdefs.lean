/-! what the tables of instructions are, and what they want of the Statement's tables -/
abbrev MD := MethodName × ByteArray × Nat × Option FieldType
abbrev Ent := Instr × Nat × Nat × Nat × Int
def exN : Nat → String
  | 0 => "java/lang/IndexOutOfBoundsException"
  | 1 => "java/lang/IllegalArgumentException"
  | _ => "java/lang/IllegalStateException"
/-- what a callee's name and code want of the tables -/
def mOK (q : MD) (n : Nat) : Prop := Cond.code q.1 q.2.1 q.2.2.1 q.2.2.2 ∈ lw_tbl ∧ Cond.initialized q.1.cls ∈ lw_tbl ∧ (q.1.cls ≠ "java/lang/invoke/MethodHandle" ∧ q.1.cls ≠ "java/lang/invoke/VarHandle") ∧ (parseMethodDescriptor q.1.desc).map (fun d => d.parameters.length) = some n ∧ q.2.2.1 ≤ 40
def icN : Nat → Nat
  | 0 => 48 | 1 => 59 | _ => 68
/-- the five instructions of a throw -/
def thrOK (cc : ByteArray) (pc ee : Nat) : Prop := ∃ ik is tx, (decode cc pc = .ok (.new ik, 3) ∧ decode cc (pc + 3) = .ok (.dup, 1) ∧ Cond.classLink RX6 ik (exN ee) ∈ lw_tbl ∧ (is, tx) ∈ strs) ∧
  ((decode cc (pc + 4) = .ok (.ldc is, 2) ∧ decode cc (pc + 6) = .ok (.invokespecial (icN ee), 3) ∧ decode cc (pc + 9) = .ok (.athrow, 1)) ∨ (decode cc (pc + 4) = .ok (.ldc_w is, 3) ∧ decode cc (pc + 7) = .ok (.invokespecial (icN ee), 3) ∧ decode cc (pc + 10) = .ok (.athrow, 1)))
def lk (own : String) (ini : Bool) (nL : Nat) (cc : ByteArray) (ret : Option FieldType) (md : Nat → MD) (pc : Nat) (x : Ent) : Prop := match x.1 with
  | .bipush n => (Int8.ofInt n).toInt32 = Int32.ofInt n
  | .sipush n => (Int16.ofInt n).toInt32 = Int32.ofInt n
  | .ldc i => Cond.constant own i (Int32.ofInt x.2.2.2.2) ∈ lw_tbl
  | .ldc_w i => Cond.constant own i (Int32.ofInt x.2.2.2.2) ∈ lw_tbl
  | .istore i => i < nL
  | .istore_n i => i.val < nL
  | .astore i => i < nL
  | .astore_n i => i.val < nL
  | .iinc i _ => i < nL
  | .goto o => (pc : Int) + o = x.2.2.1
  | .ifCond _ o => (pc : Int) + o = x.2.2.1
  | .if_icmp _ o => (pc : Int) + o = x.2.2.1
  | .ifnull o => (pc : Int) + o = x.2.2.1
  | .ifnonnull o => (pc : Int) + o = x.2.2.1
  | .tableswitch d lo hi os => 0 ≤ (pc : Int) + d ∧ (∀ o ∈ os.toList, 0 ≤ (pc : Int) + o) ∧ hi - lo + 1 = os.size
  | .getfield i => x.2.2.1 < 8 ∧ x.2.2.2.1 < clN x.2.2.1 ∧ Cond.fieldLink own i (TC x.2.2.1 x.2.2.2.1).1 (TC x.2.2.1 x.2.2.2.1).2.1 (TC x.2.2.1 x.2.2.2.1).2.2.1 ∈ lw_tbl
  | .putfield i => x.2.2.1 < 8 ∧ x.2.2.2.1 < clN x.2.2.1 ∧ Cond.fieldLink own i (TC x.2.2.1 x.2.2.2.1).1 (TC x.2.2.1 x.2.2.2.1).2.1 (TC x.2.2.1 x.2.2.2.1).2.2.1 ∈ lw_tbl ∧ ((TC x.2.2.1 x.2.2.2.1).2.2.2 = false ∨ ini = true ∧ (TC x.2.2.1 x.2.2.2.1).2.2.2 = true ∧ (TC x.2.2.1 x.2.2.2.1).1 = own)
  | .newarray ty => (ty = .int ∧ x.2.2.1 = 100 ∨ ty = .long ∧ x.2.2.1 = 101) ∧ Cond.arrayClass (newarray.typeOf ty) ∈ lw_tbl
  | .anewarray i => isRA (110 + x.2.2.1) = true ∧ Cond.classLink own i (RC x.2.2.1) ∈ lw_tbl ∧ Cond.arrayOver (.object (RC x.2.2.1)) ∈ lw_tbl
  | .new i => (x.2.2.2.1 ≠ 0 ∧ own = RX6 ∧ thrOK cc pc x.2.2.1) ∨ x.2.2.2.1 = 0 ∧ x.2.2.1 < 8 ∧ Cond.classLink own i (RC x.2.2.1) ∈ lw_tbl ∧ Cond.instantiable (RC x.2.2.1) (clN x.2.2.1) ∈ lw_tbl ∧ Cond.initialized (RC x.2.2.1) ∈ lw_tbl
  | .invokevirtual i => Cond.methodLink own i (md x.2.2.1).1 ∈ lw_tbl ∧ Cond.instanceMethod (md x.2.2.1).1 ∈ lw_tbl ∧ Cond.selects (md x.2.2.1).1.cls (md x.2.2.1).1 (md x.2.2.1).1 ∈ lw_tbl ∧ (md x.2.2.1).1.cls = RC x.2.2.2.2.toNat ∧ x.2.2.2.2.toNat < 8 ∧ ∃ n, x.2.2.2.1 = n + 1 ∧ mOK (md x.2.2.1) n
  | .invokestatic i => (Cond.methodLink own i (md x.2.2.1).1 ∈ lw_tbl ∨ ∃ host, Cond.methodLinkNest own i (md x.2.2.1).1 host ∈ lw_tbl) ∧ Cond.static (md x.2.2.1).1 ∈ lw_tbl ∧ mOK (md x.2.2.1) x.2.2.2.1
  | .invokespecial i => (x.2.2.1 = 0 ∧ Cond.methodLink own i Lib.objectInit ∈ lw_tbl) ∨ (x.2.2.1 ≠ 0 ∧ (Cond.methodLink own i (md x.2.2.1).1 ∈ lw_tbl ∨ ∃ host, Cond.methodLinkNest own i (md x.2.2.1).1 host ∈ lw_tbl) ∧ Cond.instanceMethod (md x.2.2.1).1 ∈ lw_tbl ∧ (md x.2.2.1).1.name = "<init>" ∧ (md x.2.2.1).2.2.2 = none ∧ ∃ n, x.2.2.2.1 = n + 1 ∧ mOK (md x.2.2.1) n)
  | .ireturn => (x.2.2.1 = 0 ∧ ret = some .int) ∨ (x.2.2.1 ≠ 0 ∧ ret = some .boolean)
  | .areturn => (ret.map isObjT) = some true
  | .return_ => ret = none
  | _ => True
def ilen : Instr → Nat
  | .bipush _ | .ldc _ | .iload _ | .aload _ | .istore _ | .astore _ | .newarray _ => 2
  | .sipush _ | .ldc_w _ | .iinc _ _ | .goto _ | .ifCond _ _ | .if_icmp _ _ | .ifnull _ | .ifnonnull _ | .getfield _ | .putfield _ | .invokevirtual _ | .invokestatic _ | .invokespecial _ | .new _ | .anewarray _ => 3
  | .tableswitch _ _ _ _ => 0
  | _ => 1
def entOK (own : String) (ini : Bool) (nL : Nat) (cc : ByteArray) (ret : Option FieldType) (md : Nat → MD) (pc : Nat) (x : Ent) : Prop := x.1 = .nop ∨ ∃ len, (decode cc pc = .ok (x.1, len) ∧ x.2.1 = pc + len ∧ (ilen x.1 = len ∨ ilen x.1 = 0) ∧ lk own ini nL cc ret md pc x)
