/-! THE SMALL MACHINE: the real instructions over plain numbers. A reference is (role, number): the role says which object or which row of which object it is. I: whole numbers by role, number, place; L: longs. -/
abbrev MV : Type := Int32 ⊕ Int64 ⊕ (Nat × Nat) ⊕ Bool
abbrev vI (x : Int32) : MV := Sum.inl x
abbrev vL (x : Int64) : MV := Sum.inr (Sum.inl x)
abbrev vR (r i : Nat) : MV := Sum.inr (Sum.inr (Sum.inl (r, i)))
abbrev vN : MV := Sum.inr (Sum.inr (Sum.inr false))
abbrev vD : MV := Sum.inr (Sum.inr (Sum.inr true))
abbrev MI : Type := Nat → Nat → Nat → Int32
abbrev ML : Type := Nat → Nat → Nat → Int64
def ui (I : MI) (r i k : Nat) (x : Int32) : MI := fun a b j => if a = r ∧ b = i ∧ j = k then x else I a b j
def ul (L : ML) (r i k : Nat) (x : Int64) : ML := fun a b j => if a = r ∧ b = i ∧ j = k then x else L a b j
def ua (I : MI) (r i : Nat) (f : Nat → Int32) : MI := fun a b j => if a = r ∧ b = i then f j else I a b j
/-- an instruction, its length, and what the tables say of it: kind t, numbers a b c e, constants z, w -/
abbrev RI : Type := Instr × Nat × Nat × Nat × Nat × Nat × Nat × Int32 × Int64
abbrev XR : Type := Option (List MV × List MV × MI × ML × Prop)
def sLo (j : Nat) : Nat := sLen.getD j 0
def sBy (j k : Nat) : Int32 := (sByt.getD j []).getD k 0
/-- the second half of a long is gone when its first half's neighbour is written -/
def kP (ls : List MV) : Nat → List MV
  | 0 => ls
  | k + 1 => match ls[k]? with
    | some (Sum.inr (Sum.inl _)) => ls.set k vD
    | _ => ls
def s1L (ls : List MV) (k : Nat) (v : MV) : List MV := (kP ls k).set k v
def s2L (ls : List MV) (k : Nat) (v : MV) : List MV := ((kP ls k).set k v).set (k + 1) vD
section Ops
def xP (v : MV) (ls st : List MV) (I : MI) (L : ML) : XR := some (ls, v :: st, I, L, True)
def xII (f : Int32 → Int32 → Int32) (ls st : List MV) (I : MI) (L : ML) : XR := match st with
  | Sum.inl y :: Sum.inl x :: r => some (ls, vI (f x y) :: r, I, L, True)
  | _ => none
def xIId (f : Int32 → Int32 → Int32) (ls st : List MV) (I : MI) (L : ML) : XR := match st with
  | Sum.inl y :: Sum.inl x :: r => some (ls, vI (f x y) :: r, I, L, ¬ y = 0)
  | _ => none
def xLL (f : Int64 → Int64 → Int64) (ls st : List MV) (I : MI) (L : ML) : XR := match st with
  | Sum.inr (Sum.inl y) :: Sum.inr (Sum.inl x) :: r => some (ls, vL (f x y) :: r, I, L, True)
  | _ => none
def xLLd (f : Int64 → Int64 → Int64) (ls st : List MV) (I : MI) (L : ML) : XR := match st with
  | Sum.inr (Sum.inl y) :: Sum.inr (Sum.inl x) :: r => some (ls, vL (f x y) :: r, I, L, ¬ y = 0)
  | _ => none
def xLI (f : Int64 → Int32 → Int64) (ls st : List MV) (I : MI) (L : ML) : XR := match st with
  | Sum.inl y :: Sum.inr (Sum.inl x) :: r => some (ls, vL (f x y) :: r, I, L, True)
  | _ => none
def xI (f : Int32 → MV) (ls st : List MV) (I : MI) (L : ML) : XR := match st with
  | Sum.inl x :: r => some (ls, f x :: r, I, L, True)
  | _ => none
def xL2i (ls st : List MV) (I : MI) (L : ML) : XR := match st with
  | Sum.inr (Sum.inl x) :: r => some (ls, vI x.toInt32 :: r, I, L, True)
  | _ => none
def xLcmp (ls st : List MV) (I : MI) (L : ML) : XR := match st with
  | Sum.inr (Sum.inl y) :: Sum.inr (Sum.inl x) :: r => some (ls, vI (lg_cmp x y) :: r, I, L, True)
  | _ => none
def xIld (k : Nat) (ls st : List MV) (I : MI) (L : ML) : XR := match ls[k]? with
  | some (Sum.inl x) => some (ls, vI x :: st, I, L, True)
  | _ => none
def xLld (k : Nat) (ls st : List MV) (I : MI) (L : ML) : XR := match ls[k]? with
  | some (Sum.inr (Sum.inl x)) => some (ls, vL x :: st, I, L, True)
  | _ => none
def xAld (k : Nat) (ls st : List MV) (I : MI) (L : ML) : XR := match ls[k]? with
  | some (Sum.inr (Sum.inr (Sum.inl q))) => some (ls, Sum.inr (Sum.inr (Sum.inl q)) :: st, I, L, True)
  | some (Sum.inr (Sum.inr (Sum.inr false))) => some (ls, vN :: st, I, L, True)
  | _ => none
def xIst (k : Nat) (ls st : List MV) (I : MI) (L : ML) : XR := match st with
  | Sum.inl x :: r => if k < ls.length then some (s1L ls k (vI x), r, I, L, True) else none
  | _ => none
def xLst (k : Nat) (ls st : List MV) (I : MI) (L : ML) : XR := match st with
  | Sum.inr (Sum.inl x) :: r => if k + 1 < ls.length then some (s2L ls k (vL x), r, I, L, True) else none
  | _ => none
def xAst (k : Nat) (ls st : List MV) (I : MI) (L : ML) : XR := match st with
  | Sum.inr (Sum.inr (Sum.inl q)) :: r => if k < ls.length then some (s1L ls k (Sum.inr (Sum.inr (Sum.inl q))), r, I, L, True) else none
  | Sum.inr (Sum.inr (Sum.inr false)) :: r => if k < ls.length then some (s1L ls k vN, r, I, L, True) else none
  | _ => none
def xInc (k : Nat) (z : Int32) (ls st : List MV) (I : MI) (L : ML) : XR := match ls[k]? with
  | some (Sum.inl x) => some (s1L ls k (vI (x + z)), st, I, L, True)
  | _ => none
def xDup (ls st : List MV) (I : MI) (L : ML) : XR := match st with
  | Sum.inr (Sum.inl _) :: _ => none
  | v :: r => some (ls, v :: v :: r, I, L, True)
  | _ => none
def xDup2 (ls st : List MV) (I : MI) (L : ML) : XR := match st with
  | Sum.inl x :: Sum.inr (Sum.inr (Sum.inl q)) :: r => some (ls, Sum.inl x :: Sum.inr (Sum.inr (Sum.inl q)) :: Sum.inl x :: Sum.inr (Sum.inr (Sum.inl q)) :: r, I, L, True)
  | _ => none
def xPop (ls st : List MV) (I : MI) (L : ML) : XR := match st with
  | Sum.inl _ :: r => some (ls, r, I, L, True)
  | _ => none
def xGet (t a b c e : Nat) (ls st : List MV) (I : MI) (L : ML) : XR := match st with
  | Sum.inr (Sum.inr (Sum.inl (r, i))) :: s => if r = a then match t with
      | 0 => some (ls, vI (I a i b) :: s, I, L, True)
      | 1 => some (ls, vL (L a i b) :: s, I, L, True)
      | 2 => some (ls, vR c e :: s, I, L, True)
      | 3 => some (ls, vR c i :: s, I, L, True)
      | 4 => some (ls, vR 4001 i :: s, I, L, True)
      | 5 => some (ls, vI 0 :: s, I, L, True)
      | _ => none
    else none
  | _ => none
def xPut (t a b : Nat) (ls st : List MV) (I : MI) (L : ML) : XR := match st with
  | Sum.inl x :: Sum.inr (Sum.inr (Sum.inl (r, i))) :: s => if r = a then match t with
      | 0 => some (ls, s, ui I a i b x, L, True)
      | 2 => some (ls, s, ui I a i b x, L, x = 0 ∨ x = 1)
      | _ => none
    else none
  | Sum.inr (Sum.inl x) :: Sum.inr (Sum.inr (Sum.inl (r, i))) :: s => if r = a then match t with
      | 1 => some (ls, s, I, ul L a i b x, True)
      | _ => none
    else none
  | _ => none
def xArd (t a b c e : Nat) (ls st : List MV) (I : MI) (L : ML) : XR := match st with
  | Sum.inl k :: Sum.inr (Sum.inr (Sum.inl (r, i))) :: s => if r = a then match t with
      | 0 => some (ls, vI (I a i k.toNatClampNeg) :: s, I, L, vp_in k b)
      | 1 => some (ls, vL (L a i k.toNatClampNeg) :: s, I, L, vp_in k b)
      | 2 => some (ls, vR c (e + k.toNatClampNeg) :: s, I, L, vp_in k b)
      | 3 => some (ls, vI (sBy i k.toNatClampNeg) :: s, I, L, vp_in k (sLo i))
      | 4 => some (ls, vI (I 4002 0 k.toNatClampNeg) :: s, I, L, vp_in k (I 4003 0 0).toNatClampNeg)
      | _ => none
    else none
  | _ => none
def xAwr (t a b : Nat) (ls st : List MV) (I : MI) (L : ML) : XR := match st with
  | Sum.inl x :: Sum.inl k :: Sum.inr (Sum.inr (Sum.inl (r, i))) :: s => if r = a then match t with
      | 0 => some (ls, s, ui I a i k.toNatClampNeg x, L, vp_in k b)
      | 2 => some (ls, s, ui I a i k.toNatClampNeg x.toInt8.toInt32, L, vp_in k b)
      | 3 => some (ls, s, ui I a i k.toNatClampNeg (x &&& 1), L, vp_in k b)
      | _ => none
    else none
  | Sum.inr (Sum.inl x) :: Sum.inl k :: Sum.inr (Sum.inr (Sum.inl (r, i))) :: s => if r = a then match t with
      | 1 => some (ls, s, I, ul L a i k.toNatClampNeg x, vp_in k b)
      | _ => none
    else none
  | _ => none
def xLen (t a : Nat) (z : Int32) (ls st : List MV) (I : MI) (L : ML) : XR := match st with
  | Sum.inr (Sum.inr (Sum.inl (r, i))) :: s => if r = a then match t with
      | 0 => some (ls, vI z :: s, I, L, True)
      | 1 => some (ls, vI (Int32.ofNat (sLo i)) :: s, I, L, True)
      | 2 => some (ls, vI (I 4003 0 0) :: s, I, L, True)
      | _ => none
    else none
  | _ => none
def xCpy (a b c e : Nat) (ls st : List MV) (I : MI) (L : ML) : XR := match st with
  | Sum.inl n :: Sum.inl dp :: Sum.inr (Sum.inr (Sum.inl (r1, i1))) :: Sum.inl sp :: Sum.inr (Sum.inr (Sum.inl (r0, i0))) :: s => if r0 = a ∧ r1 = c then
      some (ls, s, ua I c i1 (va_cpy (I a i0) (I c i1) sp.toNatClampNeg dp.toNatClampNeg n.toNatClampNeg), L, (¬ sp < 0) ∧ (¬ dp < 0) ∧ (¬ n < 0) ∧ sp.toNatClampNeg + n.toNatClampNeg ≤ b ∧ dp.toNatClampNeg + n.toNatClampNeg ≤ e ∧ s = [])
    else none
  | _ => none
end Ops
/-- one instruction that neither branches nor calls -/
def ex1 (q : RI) (ls st : List MV) (I : MI) (L : ML) : XR := match q with
  | (i, _, t, a, b, c, e, z, w) => match i with
    | .iconst _ => xP (vI z) ls st I L
    | .bipush _ => xP (vI z) ls st I L
    | .sipush _ => xP (vI z) ls st I L
    | .lconst _ => xP (vL w) ls st I L
    | .ldc _ => if t = 0 then xP (vI z) ls st I L else xP (vR 4000 a) ls st I L
    | .ldc_w _ => xP (vI z) ls st I L
    | .ldc2_w _ => xP (vL w) ls st I L
    | .aconst_null => xP vN ls st I L
    | .getstatic _ => xP (vI 1) ls st I L
    | .iload k => xIld k ls st I L
    | .iload_n k => xIld k.val ls st I L
    | .lload k => xLld k ls st I L
    | .lload_n k => xLld k.val ls st I L
    | .aload k => xAld k ls st I L
    | .aload_n k => xAld k.val ls st I L
    | .istore k => xIst k ls st I L
    | .istore_n k => xIst k.val ls st I L
    | .lstore k => xLst k ls st I L
    | .lstore_n k => xLst k.val ls st I L
    | .astore k => xAst k ls st I L
    | .astore_n k => xAst k.val ls st I L
    | .iinc k _ => xInc k z ls st I L
    | .iadd => xII (fun x y => x + y) ls st I L
    | .isub => xII (fun x y => x - y) ls st I L
    | .imul => xII (fun x y => x * y) ls st I L
    | .iand => xII (fun x y => x &&& y) ls st I L
    | .ior => xII (fun x y => x ||| y) ls st I L
    | .ixor => xII (fun x y => x ^^^ y) ls st I L
    | .ishl => xII (fun x y => x <<< (y &&& 31)) ls st I L
    | .ishr => xII (fun x y => x >>> (y &&& 31)) ls st I L
    | .iushr => xII (fun x y => (x.toUInt32 >>> (y.toUInt32 &&& Int32.toUInt32 31)).toInt32) ls st I L
    | .idiv => xIId (fun x y => x / y) ls st I L
    | .irem => xIId (fun x y => x % y) ls st I L
    | .ladd => xLL (fun x y => x + y) ls st I L
    | .lsub => xLL (fun x y => x - y) ls st I L
    | .lmul => xLL (fun x y => x * y) ls st I L
    | .land => xLL (fun x y => x &&& y) ls st I L
    | .lor => xLL (fun x y => x ||| y) ls st I L
    | .ldiv => xLLd (fun x y => x / y) ls st I L
    | .lrem => xLLd (fun x y => x - x / y * y) ls st I L
    | .lshl => xLI (fun x y => x <<< (y.toInt64 &&& 63)) ls st I L
    | .lshr => xLI (fun x y => x >>> (y.toInt64 &&& 63)) ls st I L
    | .lcmp => xLcmp ls st I L
    | .i2l => xI (fun x => vL x.toInt64) ls st I L
    | .i2b => xI (fun x => vI x.toInt8.toInt32) ls st I L
    | .i2s => xI (fun x => vI x.toInt16.toInt32) ls st I L
    | .i2c => xI (fun x => vI (x.toUInt32 % 65536).toInt32) ls st I L
    | .l2i => xL2i ls st I L
    | .dup => xDup ls st I L
    | .dup2 => xDup2 ls st I L
    | .pop => xPop ls st I L
    | .getfield _ => xGet t a b c e ls st I L
    | .putfield _ => xPut t a b ls st I L
    | .iaload => if t = 0 ∨ t = 4 then xArd t a b c e ls st I L else none
    | .baload => if t = 0 ∨ t = 3 then xArd t a b c e ls st I L else none
    | .laload => if t = 1 then xArd t a b c e ls st I L else none
    | .aaload => if t = 2 then xArd t a b c e ls st I L else none
    | .iastore => if t = 0 then xAwr t a b ls st I L else none
    | .bastore => if t = 2 ∨ t = 3 then xAwr t a b ls st I L else none
    | .lastore => if t = 1 then xAwr t a b ls st I L else none
    | .arraylength => xLen t a z ls st I L
    | .invokestatic _ => if t = 9 then xCpy a b c e ls st I L else none
    | _ => none
/-- several, one behind the other -/
def exs : List RI → List MV → List MV → MI → ML → XR
  | [], ls, st, I, L => some (ls, st, I, L, True)
  | q :: r, ls, st, I, L => match ex1 q ls st I L with
    | some (ls1, st1, I1, L1, P1) => match exs r ls1 st1 I1 L1 with
      | some (ls2, st2, I2, L2, P2) => some (ls2, st2, I2, L2, P1 ∧ P2)
      | none => none
    | none => none
/-- what the tables say of an instruction of the own kind -/
def tck (own : Nat) (q : RI) : Bool := match q with
  | (i, _, t, a, b, c, e, z, w) => match i with
    | .iconst n => decide (Int32.ofInt n = z)
    | .bipush n => decide ((Int8.ofInt n).toInt32 = z)
    | .sipush n => decide ((Int16.ofInt n).toInt32 = z)
    | .lconst n => decide (Int64.ofNat n.val = w)
    | .ldc k => if t = 0 then IKl.contains (own, k, z) else SKl.contains (own, k, a)
    | .ldc_w k => IKl.contains (own, k, z)
    | .ldc2_w k => LKl.contains (own, k, w)
    | .getstatic k => GSl.contains (own, k)
    | .iinc _ n => decide (Int32.ofInt n = z)
    | .getfield k => if t = 4 ∨ t = 5 then decide (a = 4000) && SFl.contains (own, k, t) else decide (a < 768) && decide (a % 64 = 0) && decide (b < nF a) && FLl.contains (own, k, a, b) && (match t with
        | 0 => fK a b = 0 || fK a b = 1
        | 1 => fK a b = 2
        | 2 => fK a b = 3 && oR a b = (c, e)
        | 3 => fK a b = 4 && a + 1 + b = c
        | _ => false)
    | .putfield k => decide (a < 768) && decide (a % 64 = 0) && decide (b < nF a) && !(Tf (a / 64) b).2.2.2 && FLl.contains (own, k, a, b) && (match t with
        | 0 => fK a b = 0
        | 1 => fK a b = 2
        | 2 => fK a b = 1
        | _ => false)
    | .iaload => (t = 0 && decide (a < 768) && decide (a % 64 ≠ 0) && aK a = (0, b)) || (t = 4 && a = 4002)
    | .baload => (t = 0 && decide (a < 768) && decide (a % 64 ≠ 0) && (aK a = (1, b) || aK a = (2, b))) || (t = 3 && a = 4001)
    | .laload => decide (a < 768) && decide (a % 64 ≠ 0) && aK a = (3, b)
    | .aaload => decide (a < 768) && decide (a % 64 ≠ 0) && decide (4 ≤ (aK a).1) && decide ((aK a).1 < 7) && decide ((aK a).2 = b) && eR a = (c, e)
    | .iastore => decide (a < 768) && decide (a % 64 ≠ 0) && aK a = (0, b)
    | .bastore => decide (a < 768) && decide (a % 64 ≠ 0) && ((t = 2 && aK a = (1, b)) || (t = 3 && aK a = (2, b)))
    | .lastore => decide (a < 768) && decide (a % 64 ≠ 0) && aK a = (3, b)
    | .arraylength => (t = 0 && decide (a < 768) && decide (a % 64 ≠ 0) && decide ((aK a).1 < 7) && decide ((aK a).2 = b) && decide (Int32.ofNat b = z)) || (t = 1 && a = 4001) || (t = 2 && a = 4002)
    | .invokestatic k => decide (t = 9) && ACl.contains (own, k) && decide (a < 768) && decide (a % 64 ≠ 0) && decide (c < 768) && decide (c % 64 ≠ 0) && aK a = (0, b) && aK c = (0, e)
    | _ => true
def ilen (i : Instr) : Nat := match i with
  | .bipush _ | .ldc _ | .iload _ | .lload _ | .aload _ | .istore _ | .lstore _ | .astore _ => 2
  | .sipush _ | .ldc_w _ | .ldc2_w _ | .iinc _ _ | .getfield _ | .putfield _ | .getstatic _ | .invokestatic _ => 3
  | _ => 1
def ck1 (own : Nat) (cc : ByteArray) (pc : Nat) (q : RI) : Bool := decide (decode cc pc = .ok (q.1, q.2.1)) && decide (q.2.1 = ilen q.1) && tck own q
def cks (own : Nat) (cc : ByteArray) : Nat → List RI → Nat → Bool
  | pc, [], pc' => pc == pc'
  | pc, q :: r, pc' => ck1 own cc pc q && cks own cc (pc + q.2.1) r pc'
/-- a method: kind, bytes, places, type, name -/
abbrev MTy : Type := Nat × ByteArray × Nat × Option FieldType × MethodName
/-- what a call needs of the tables -/
def okCY (stc : Bool) (n : Nat) (y : MTy) : Prop :=
  Cond.code y.2.2.2.2 y.2.1 y.2.2.1 y.2.2.2.1 ∈ TW ∧ Cond.initialized y.2.2.2.2.cls ∈ TW ∧
  ((stc = true → Cond.static y.2.2.2.2 ∈ TW) ∧ (stc = false → Cond.instanceMethod y.2.2.2.2 ∈ TW ∧ Cond.selects y.2.2.2.2.cls y.2.2.2.2 y.2.2.2.2 ∈ TW)) ∧
  (y.2.2.2.2.cls = cn y.1 ∧ y.2.2.2.2.cls ≠ "java/lang/invoke/MethodHandle" ∧ y.2.2.2.2.cls ≠ "java/lang/invoke/VarHandle" ∧ plainFor y.2.2.2.2 = true ∧ (parseMethodDescriptor y.2.2.2.2.desc).map (fun d => d.parameters.length) = some n ∧ y.2.2.1 ≤ 20)
def okCT (own idx : Nat) (stc : Bool) (n : Nat) (y : MTy) : Prop := Cond.methodLink (cn own) idx y.2.2.2.2 ∈ TW ∧ okCY stc n y
/-- the places with which a method begins -/
def enL : List MV → List MV
  | [] => []
  | Sum.inr (Sum.inl x) :: r => vL x :: vD :: enL r
  | v :: r => v :: enL r
def ent (n : Nat) (a : List MV) : List MV := enL a ++ List.replicate (n - (enL a).length) vD
def cz (k : Jvm.ClassFile.Cond) (x : Int32) : Prop := match k with
  | .eq => x = 0
  | .ne => ¬ x = 0
  | .lt => x < 0
  | .ge => 0 ≤ x
  | .gt => 0 < x
  | .le => x ≤ 0
def cy (k : Jvm.ClassFile.Cond) (x y : Int32) : Prop := match k with
  | .eq => x = y
  | .ne => ¬ x = y
  | .lt => x < y
  | .ge => y ≤ x
  | .gt => y < x
  | .le => x ≤ y
def wk : List MV → List MV → Prop
  | [], [] => True
  | a :: x, b :: y => (a = vD ∨ a = b) ∧ wk x y
  | _, _ => False
def mcat (v : MV) : Nat := match v with
  | Sum.inr (Sum.inl _) => 2
  | _ => 1
def wsum (st : List MV) : Nat := (st.map mcat).sum
/-- the targets of a switch: number, place; and the place else -/
def swK (i : Instr) (pc : Nat) : Option (List (Int × Int) × Int) := match i with
  | .tableswitch d lo hi offs => if offs.size = (hi - lo + 1).toNat ∧ lo ≤ hi then some ((List.range offs.size).map (fun k : Nat => (lo + (k : Int), (pc : Int) + offs.getD k 0)), (pc : Int) + d) else none
  | .lookupswitch d ps => if (ps.toList.zip (ps.toList.drop 1)).all (fun (a, next) => a.1 < next.1) = true then some (ps.toList.map (fun q => (q.1, (pc : Int) + q.2)), (pc : Int) + d) else none
  | _ => none
def rtO (ret : Option FieldType) (x : Int32) : Prop := match ret with
  | some .int => True
  | some .boolean => x = 0 ∨ x = 1
  | some ty => (ty = .char ∨ ty = .byte) ∧ narrow ty (.int x) = .int x
  | none => False
abbrev QT : Type := Option MV → MI → ML → Prop
abbrev RT : Type := Nat → List MV → List MV → MI → ML → Prop
abbrev CJT : Type := MTy → List MV → MI → ML → QT → Prop
def rcvOk (y : MTy) (v : MV) : Prop := match v with
  | Sum.inr (Sum.inr (Sum.inl (r, _))) => cn (r / 64) = y.2.2.2.2.cls ∧ r < 768 ∧ r % 64 = 0 ∨ r = 4000 ∧ y.2.2.2.2.cls = "java/lang/String"
  | _ => False
/-- what is closed under the instructions of a method -/
def Clo (CJ : CJT) (m : MTy) (Q : QT) (R : RT) : Prop :=
  (∀ (pc : Nat) (q : RI) (ls st : List MV) (I : MI) (L : ML) (ls' st' : List MV) (I' : MI) (L' : ML) (P : Prop), ck1 m.1 m.2.1 pc q = true → ex1 q ls st I L = some (ls', st', I', L', P) → P → R (pc + q.2.1) ls' st' I' L' → R pc ls st I L) ∧
  (∀ (pc tgt : Nat) (off : Int) (ls st : List MV) (I : MI) (L : ML), decode m.2.1 pc = .ok (.goto off, 3) → (pc : Int) + off = (tgt : Int) → R tgt ls st I L → R pc ls st I L) ∧
  (∀ (pc tgt : Nat) (k : Jvm.ClassFile.Cond) (off : Int) (x : Int32) (ls st : List MV) (I : MI) (L : ML), decode m.2.1 pc = .ok (.ifCond k off, 3) → (pc : Int) + off = (tgt : Int) → (cz k x → R tgt ls st I L) → (¬ cz k x → R (pc + 3) ls st I L) → R pc ls (vI x :: st) I L) ∧
  (∀ (pc tgt : Nat) (k : Jvm.ClassFile.Cond) (off : Int) (x y : Int32) (ls st : List MV) (I : MI) (L : ML), decode m.2.1 pc = .ok (.if_icmp k off, 3) → (pc : Int) + off = (tgt : Int) → (cy k x y → R tgt ls st I L) → (¬ cy k x y → R (pc + 3) ls st I L) → R pc ls (vI y :: vI x :: st) I L) ∧
  (∀ (pc tgt : Nat) (off : Int) (v : MV) (ls st : List MV) (I : MI) (L : ML), decode m.2.1 pc = .ok (.ifnull off, 3) → (pc : Int) + off = (tgt : Int) → (v = vN ∨ ∃ r i, v = vR r i) → (v = vN → R tgt ls st I L) → (v ≠ vN → R (pc + 3) ls st I L) → R pc ls (v :: st) I L) ∧
  (∀ (pc tgt : Nat) (off : Int) (v : MV) (ls st : List MV) (I : MI) (L : ML), decode m.2.1 pc = .ok (.ifnonnull off, 3) → (pc : Int) + off = (tgt : Int) → (v = vN ∨ ∃ r i, v = vR r i) → (v ≠ vN → R tgt ls st I L) → (v = vN → R (pc + 3) ls st I L) → R pc ls (v :: st) I L) ∧
  (∀ (pc len : Nat) (i : Instr) (ks : List (Int × Int)) (dd : Int) (x : Int32) (ls st : List MV) (I : MI) (L : ML), decode m.2.1 pc = .ok (i, len) → swK i pc = some (ks, dd) → (∀ k t : Int, (k, t) ∈ ks → x.toInt = k → 0 ≤ t ∧ R t.toNat ls st I L) → ((∀ k t : Int, (k, t) ∈ ks → x.toInt ≠ k) → 0 ≤ dd ∧ R dd.toNat ls st I L) → R pc ls (vI x :: st) I L) ∧
  (∀ (pc : Nat) (x : Int32) (ls : List MV) (I : MI) (L : ML), decode m.2.1 pc = .ok (.ireturn, 1) → rtO m.2.2.2.1 x → Q (some (vI x)) I L → R pc ls [vI x] I L) ∧
  (∀ (pc : Nat) (x : Int64) (ls : List MV) (I : MI) (L : ML), decode m.2.1 pc = .ok (.lreturn, 1) → m.2.2.2.1 = some .long → Q (some (vL x)) I L → R pc ls [vL x] I L) ∧
  (∀ (pc : Nat) (v : MV) (ls : List MV) (I : MI) (L : ML), decode m.2.1 pc = .ok (.areturn, 1) → (∃ n, m.2.2.2.1 = some (.object n)) → (v = vN ∨ ∃ r i, v = vR r i) → Q (some v) I L → R pc ls [v] I L) ∧
  (∀ (pc : Nat) (ls : List MV) (I : MI) (L : ML), decode m.2.1 pc = .ok (.return_, 1) → m.2.2.2.1 = none → Q none I L → R pc ls [] I L) ∧
  (∀ (pc idx n : Nat) (y : MTy) (v : MV) (a rest ls : List MV) (I : MI) (L : ML) (Q' : QT), okCT m.1 idx false n y → decode m.2.1 pc = .ok (.invokevirtual idx, 3) → a.length = n → rcvOk y v → wsum rest ≤ 8 → (enL (v :: a)).length ≤ y.2.2.1 → CJ y (v :: a) I L Q' → (∀ r I' L', Q' r I' L' → R (pc + 3) ls (r.toList ++ rest) I' L') → R pc ls (a.reverse ++ v :: rest) I L) ∧
  (∀ (pc idx n : Nat) (y : MTy) (a rest ls : List MV) (I : MI) (L : ML) (Q' : QT), okCT m.1 idx true n y → decode m.2.1 pc = .ok (.invokestatic idx, 3) → a.length = n → wsum rest ≤ 8 → (enL a).length ≤ y.2.2.1 → CJ y a I L Q' → (∀ r I' L', Q' r I' L' → R (pc + 3) ls (r.toList ++ rest) I' L') → R pc ls (a.reverse ++ rest) I L) ∧
  (∀ (pc : Nat) (ls ls' st : List MV) (I : MI) (L : ML), wk ls' ls → R pc ls' st I L → R pc ls st I L) ∧
  (∀ (pc k : Nat) (ls st : List MV) (I : MI) (L : ML), decode m.2.1 pc = .ok (.getstatic k, 3) → GZl.contains (m.1, k) = true → (∀ v : MV, v = vN ∨ v = vR 4004 0 → R (pc + 3) ls (v :: st) I L) → R pc ls st I L)
/-- from here the method ends as Q says, with calls at most d deep -/
def XX : Nat → MTy → QT → RT
  | 0, _, _, _, _, _, _, _ => False
  | d + 1, m, Q, pc, ls, st, I, L => ∀ R : RT, Clo (fun y a I L Q' => XX d y Q' 0 (ent y.2.2.1 a) [] I L) m Q R → R pc ls st I L
/-- a call of a method -/
def CC (d : Nat) (y : MTy) (a : List MV) (I : MI) (L : ML) (Q : QT) : Prop := XX d y Q 0 (ent y.2.2.1 a) [] I L
