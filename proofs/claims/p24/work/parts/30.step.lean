/-! ONE STEP of the abstract machine, as a predicate transformer -/
abbrev CD := MD × Spec × Nat × Nat × Nat
abbrev KF := Nat → List AV → List AV → Sto → Nat × Nat → Prop
def popI : List AV → (Int → List AV → Prop) → Prop
  | .inl z :: r, f => f z r
  | _, _ => False
def popL : List AV → (Int → List AV → Prop) → Prop
  | .inr (.inl z) :: r, f => f z r
  | _, _ => False
def popR : List AV → (Option Nat → List AV → Prop) → Prop
  | .inr (.inr z) :: r, f => f z r
  | _, _ => False
def popA : List AV → (AV → List AV → Prop) → Prop
  | a :: r, f => (match isLong a with | true => False | false => f a r)
  | _, _ => False
def onR (a : Option Nat) (f : Nat → Prop) : Prop := ∃ t, a = some t ∧ f t
def asI : AV → (Int → Prop) → Prop
  | .inl z, f => f z
  | _, _ => False
def asR : AV → (Option Nat → Prop) → Prop
  | .inr (.inr z), f => f z
  | _, _ => False
def getF (S : Sto) (ci t k : Nat) : AV := match isR ci k with
  | true => vR (S.2.2 t k)
  | false => vI (S.2.1 t k)
def cmpB : ClassFile.Cond → Int → Int → Prop
  | .eq, a, b => a = b
  | .ne, a, b => a ≠ b
  | .lt, a, b => a < b
  | .ge, a, b => b ≤ a
  | .gt, a, b => b < a
  | .le, a, b => a ≤ b
def swK (pc : Nat) (z : Int) (k : Nat → Prop) : Int → List Int → Prop
  | _, [] => True
  | lo, o :: os => (z = lo → k ((pc : Int) + o).toNat) ∧ swK pc z k (lo + 1) os
def argsK : Nat → List AV → List AV → (List AV → List AV → Prop) → Prop
  | 0, acc, st, f => f acc st
  | n + 1, acc, st, f => popA st fun a r => argsK n (a :: acc) r f
def small : List AV → Bool
  | [] => true
  | [_] => true
  | [_, _] => true
  | [_, _, _] => true
  | [_, _, _, _] => true
  | _ => false
def shortK (st : List AV) (P : Prop) : Prop := match small st with
  | true => P
  | false => False
def resK (r : Option AV) (rest : List AV) : List AV := match r with
  | some v => v :: rest
  | none => rest
def putK (b : Bool) (st : List AV) (f1 : Option Nat → List AV → Prop) (f2 : Int → List AV → Prop) : Prop := match b with
  | true => popR st f1
  | false => popI st f2
def callK (k : KF) (kx : Nat → Nat → List AV → Sto → Nat × Nat → Prop) (pc nx : Nat) (L r : List AV) (c : Nat × Nat) : Res → Sto → Prop := fun o S' => match o with
  | .inl v => k nx L (resK v r) S' c
  | .inr e => kx e pc L S' c
def condK : ClassFile.Cond → Int → Int → Prop → Prop → Prop
  | .eq, a, b, P, Q => (a = b → P) ∧ (a ≠ b → Q)
  | .ne, a, b, P, Q => (a ≠ b → P) ∧ (a = b → Q)
  | .lt, a, b, P, Q => (a < b → P) ∧ (b ≤ a → Q)
  | .ge, a, b, P, Q => (b ≤ a → P) ∧ (a < b → Q)
  | .gt, a, b, P, Q => (b < a → P) ∧ (a ≤ b → Q)
  | .le, a, b, P, Q => (a ≤ b → P) ∧ (b < a → Q)
theorem condK_e {cd : ClassFile.Cond} {a b : Int} {P Q : Prop} (h : condK cd a b P Q) : (cmpB cd a b → P) ∧ (¬ cmpB cd a b → Q) := by
  cases cd
  · exact h
  · exact ⟨h.1, fun q => h.2 (Decidable.not_not.mp q)⟩
  · exact ⟨h.1, fun q => h.2 (Int.not_lt.mp q)⟩
  · exact ⟨h.1, fun q => h.2 (Int.not_le.mp q)⟩
  · exact ⟨h.1, fun q => h.2 (Int.not_lt.mp q)⟩
  · exact ⟨h.1, fun q => h.2 (Int.not_le.mp q)⟩
def st1 (sp : Nat → CD) (lim : Nat × Nat) (kr : Option AV → Sto → Nat × Nat → Prop) (kt : Nat → Sto → Nat × Nat → Prop) (kx : Nat → Nat → List AV → Sto → Nat × Nat → Prop) (k : KF)
    (pc : Nat) (x : Ent) (L st : List AV) (S : Sto) (c : Nat × Nat) : Prop :=
  match x with
  | (xi, xn, x1, x2, xz) => match xi with
  | .iconst n => k xn L (vI n :: st) S c
  | .bipush n => k xn L (vI n :: st) S c
  | .sipush n => k xn L (vI n :: st) S c
  | .ldc _ => k xn L (vI xz :: st) S c
  | .ldc_w _ => k xn L (vI xz :: st) S c
  | .aconst_null => k xn L (vR none :: st) S c
  | .iload i => asI (nth L i) fun z => k xn L (vI z :: st) S c
  | .iload_n i => asI (nth L i) fun z => k xn L (vI z :: st) S c
  | .aload i => asR (nth L i) fun z => k xn L (vR z :: st) S c
  | .aload_n i => asR (nth L i) fun z => k xn L (vR z :: st) S c
  | .istore i => popI st fun z r => k xn (setn L i (vI z)) r S c
  | .istore_n i => popI st fun z r => k xn (setn L i (vI z)) r S c
  | .astore i => popR st fun z r => k xn (setn L i (vR z)) r S c
  | .astore_n i => popR st fun z r => k xn (setn L i (vR z)) r S c
  | .iinc i n => asI (nth L i) fun z => k xn (setn L i (vI (z + n))) st S c
  | .iadd => popI st fun b r => popI r fun a r => k xn L (vI (a + b) :: r) S c
  | .isub => popI st fun b r => popI r fun a r => k xn L (vI (a - b) :: r) S c
  | .imul => popI st fun b r => popI r fun a r => k xn L (vI (a * b) :: r) S c
  | .idiv => popI st fun b r => popI r fun a r => (0 ≤ a ∧ a ≤ 2147483647 ∧ 0 < b ∧ b ≤ 2147483647) ∧ k xn L (vI (a / b) :: r) S c
  | .irem => popI st fun b r => popI r fun a r => (0 ≤ a ∧ a ≤ 2147483647 ∧ 0 < b ∧ b ≤ 2147483647) ∧ k xn L (vI (a % b) :: r) S c
  | .ineg => popI st fun a r => k xn L (vI (-a) :: r) S c
  | .iand => popI st fun b r => popI r fun a r => k xn L (vI (bAnd a b) :: r) S c
  | .ior => popI st fun b r => popI r fun a r => k xn L (vI (bOr a b) :: r) S c
  | .ixor => popI st fun b r => popI r fun a r => k xn L (vI (bXor a b) :: r) S c
  | .ishl => popI st fun b r => popI r fun a r => k xn L (vI (bShl a b) :: r) S c
  | .ishr => popI st fun b r => popI r fun a r => k xn L (vI (bShr a b) :: r) S c
  | .iushr => popI st fun b r => popI r fun a r => k xn L (vI (bUshr a b) :: r) S c
  | .i2l => popI st fun a r => InR a ∧ k xn L (vL a :: r) S c
  | .lcmp => popL st fun b r => popL r fun a r => InR a ∧ InR b ∧ ∀ z : Int, (z = 0 ↔ a = b) → InR z → k xn L (vI z :: r) S c
  | .dup => popA st fun a r => k xn L (a :: a :: r) S c
  | .dup_x1 => popA st fun a r => popA r fun b r => k xn L (a :: b :: a :: r) S c
  | .dup2 => popA st fun a r => popA r fun b r => k xn L (a :: b :: a :: b :: r) S c
  | .pop => popA st fun _ r => k xn L r S c
  | .goto _ => k x1 L st S c
  | .ifCond cd _ => popI st fun a r => InR a ∧ condK cd a 0 (k x1 L r S c) (k xn L r S c)
  | .if_icmp cd _ => popI st fun b r => popI r fun a r => InR a ∧ InR b ∧ condK cd a b (k x1 L r S c) (k xn L r S c)
  | .ifnull _ => popR st fun a r => (a = none → k x1 L r S c) ∧ (∀ t, a = some t → k xn L r S c)
  | .ifnonnull _ => popR st fun a r => (a = none → k xn L r S c) ∧ (∀ t, a = some t → k x1 L r S c)
  | .tableswitch d lo hi os => popI st fun a r => InR a ∧ swK pc a (fun p => k p L r S c) lo os.toList ∧ (a < lo ∨ hi < a → k ((pc : Int) + d).toNat L r S c)
  | .getfield _ => popR st fun a r => onR a fun t => (∃ n, S.1 t = some (x1, n)) ∧ k xn L (getF S x1 t x2 :: r) S c
  | .putfield _ => putK (isR x1 x2) st
      (fun v r => popR r fun a r => onR a fun t => (∃ n, S.1 t = some (x1, n)) ∧ k xn L r (updR S t x2 v) c)
      (fun v r => popR r fun a r => onR a fun t => (∃ n, S.1 t = some (x1, n)) ∧ k xn L r (updI S t x2 v) c)
  | .iaload => popI st fun i r => popR r fun a r => onR a fun t => (∃ cd n, S.1 t = some (cd, n) ∧ (cd = 100 ∨ cd = 102) ∧ 0 ≤ i ∧ i < n) ∧ k xn L (vI (S.2.1 t i.toNat) :: r) S c
  | .aaload => popI st fun i r => popR r fun a r => onR a fun t => (∃ cd n, S.1 t = some (cd, n) ∧ isRA cd = true ∧ 0 ≤ i ∧ i < n) ∧ k xn L (vR (S.2.2 t i.toNat) :: r) S c
  | .iastore => popI st fun v r => popI r fun i r => popR r fun a r => onR a fun t => (∃ n, S.1 t = some (100, n) ∧ 0 ≤ i ∧ i < n) ∧ k xn L r (updI S t i.toNat v) c
  | .aastore => popR st fun v r => onR v fun u => popI r fun i r => popR r fun a r => onR a fun t => (∃ ci n n', S.1 t = some (110 + ci, n) ∧ isRA (110 + ci) = true ∧ S.1 u = some (ci, n') ∧ 0 ≤ i ∧ i < n) ∧ k xn L r (updR S t i.toNat (some u)) c
  | .arraylength => popR st fun a r => onR a fun t => ∃ cd n, S.1 t = some (cd, n) ∧ 100 ≤ cd ∧ k xn L (vI n :: r) S c
  | .newarray _ => popI st fun n r => (0 ≤ n ∧ n ≤ 100000 ∧ c.1 + 1 ≤ lim.1 ∧ c.2 + n.toNat ≤ lim.2) ∧ ∃ t, S.1 t = none ∧ k xn L (vT t :: r) (newS S t (x1, n.toNat)) (c.1 + 1, c.2 + n.toNat)
  | .anewarray _ => popI st fun n r => (0 ≤ n ∧ n ≤ 100000 ∧ c.1 + 1 ≤ lim.1 ∧ c.2 + n.toNat ≤ lim.2) ∧ ∃ t, S.1 t = none ∧ k xn L (vT t :: r) (newS S t (110 + x1, n.toNat)) (c.1 + 1, c.2 + n.toNat)
  | .new _ => (match x2 with
    | 0 => (c.1 + 1 ≤ lim.1 ∧ c.2 + clN x1 ≤ lim.2) ∧ ∃ t, S.1 t = none ∧ k xn L (vT t :: st) (newS S t (x1, clN x1)) (c.1 + 1, c.2 + clN x1)
    | _ => shortK st ((c.1 + 1 ≤ lim.1 ∧ c.2 + 6 ≤ lim.2) ∧ kt x1 S (c.1 + 1, c.2 + 6)))
  | .invokevirtual _ => argsK x2 [] st fun as r => popR as fun a _ => onR a fun t => (∃ n, S.1 t = some (xz.toNat, n)) ∧ shortK r ((c.1 + (sp x1).2.2.1 ≤ lim.1 ∧ c.2 + (sp x1).2.2.2.1 ≤ lim.2) ∧ (sp x1).2.1 as S (callK k kx pc xn L r (c.1 + (sp x1).2.2.1, c.2 + (sp x1).2.2.2.1)))
  | .invokestatic _ => argsK x2 [] st fun as r => shortK r ((c.1 + (sp x1).2.2.1 ≤ lim.1 ∧ c.2 + (sp x1).2.2.2.1 ≤ lim.2) ∧ (sp x1).2.1 as S (callK k kx pc xn L r (c.1 + (sp x1).2.2.1, c.2 + (sp x1).2.2.2.1)))
  | .invokespecial _ => (match x1 with
    | 0 => popR st fun a r => shortK r (onR a fun _ => k xn L r S c)
    | _ => argsK x2 [] st fun as r => popR as fun a _ => onR a fun _ => shortK r ((c.1 + (sp x1).2.2.1 ≤ lim.1 ∧ c.2 + (sp x1).2.2.2.1 ≤ lim.2) ∧ (sp x1).2.1 as S (callK k kx pc xn L r (c.1 + (sp x1).2.2.1, c.2 + (sp x1).2.2.2.1))))
  | .ireturn => (match st with
    | [.inl z] => (match x1 with
      | 0 => kr (some (vI z)) S c
      | _ => (z = 0 ∨ z = 1) ∧ kr (some (vI z)) S c)
    | _ => False)
  | .areturn => (match st with
    | [.inr (.inr z)] => kr (some (vR z)) S c
    | _ => False)
  | .return_ => (match st with
    | [] => kr none S c
    | _ => False)
  | _ => False
theorem popI_e {st : List AV} {f : Int → List AV → Prop} (h : popI st f) : ∃ z r, st = vI z :: r ∧ f z r := by
  unfold popI at h
  split at h
  · exact ⟨_, _, rfl, h⟩
  · exact h.elim
theorem popL_e {st : List AV} {f : Int → List AV → Prop} (h : popL st f) : ∃ z r, st = vL z :: r ∧ f z r := by
  unfold popL at h
  split at h
  · exact ⟨_, _, rfl, h⟩
  · exact h.elim
theorem popR_e {st : List AV} {f : Option Nat → List AV → Prop} (h : popR st f) : ∃ z r, st = vR z :: r ∧ f z r := by
  unfold popR at h
  split at h
  · exact ⟨_, _, rfl, h⟩
  · exact h.elim
theorem popA_e {st : List AV} {f : AV → List AV → Prop} (h : popA st f) : ∃ a r, st = a :: r ∧ isLong a = false ∧ f a r := by
  unfold popA at h
  split at h
  · split at h
    · exact h.elim
    · exact ⟨_, _, rfl, by assumption, h⟩
  · exact h.elim
theorem onR_e {a : Option Nat} {f : Nat → Prop} (h : onR a f) : ∃ t, a = some t ∧ f t := h
theorem asI_e {a : AV} {f : Int → Prop} (h : asI a f) : ∃ z, a = vI z ∧ f z := by
  unfold asI at h
  split at h
  · exact ⟨_, rfl, h⟩
  · exact h.elim
theorem asR_e {a : AV} {f : Option Nat → Prop} (h : asR a f) : ∃ z, a = vR z ∧ f z := by
  unfold asR at h
  split at h
  · exact ⟨_, rfl, h⟩
  · exact h.elim
theorem putK_e {b : Bool} {st : List AV} {f1 : Option Nat → List AV → Prop} {f2 : Int → List AV → Prop} (h : putK b st f1 f2) : (b = true ∧ popR st f1) ∨ (b = false ∧ popI st f2) := by
  cases b
  · exact Or.inr ⟨rfl, h⟩
  · exact Or.inl ⟨rfl, h⟩
theorem shortK_e {st : List AV} {P : Prop} (h : shortK st P) : small st = true ∧ P := by
  unfold shortK at h
  split at h
  · exact ⟨by assumption, h⟩
  · exact h.elim
theorem argsK_e {n : Nat} {acc st : List AV} {f : List AV → List AV → Prop} (h : argsK n acc st f) : ∃ as r, as.length = n ∧ st = as.reverse ++ r ∧ f (as ++ acc) r ∧ ∀ a ∈ as, isLong a = false := by
  induction n generalizing acc st with
  | zero => exact ⟨[], st, rfl, rfl, h, fun a ha => by cases ha⟩
  | succ n ih =>
    obtain ⟨a, r, rfl, ha, h⟩ := popA_e h
    obtain ⟨as, r, h1, rfl, h3, h4⟩ := ih h
    refine ⟨as ++ [a], r, by simp [h1], by simp, by simpa using h3, fun b hb => ?_⟩
    rcases List.mem_append.mp hb with q | q
    · exact h4 b q
    · rw [List.mem_singleton.mp q]; exact ha
