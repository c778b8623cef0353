/-! the checker: a block's abstract instructions are what the bytes decode to -/
def ckC (c : Nat) (d : Nat) (v : Int) : Bool := CL.any (fun e => decide (e.1 = c) && decide (e.2.1 = d) && decide (e.2.2.1 = v))
def ckF (c d ci k : Nat) : Bool := FL.any (fun e => decide (e.1 = c) && decide (e.2.1 = d) && decide (e.2.2.1 = ci) && decide (e.2.2.2.1 = k))
def ckR (c d ci off : Nat) : Bool := FL.any (fun e => decide (e.1 = c) && decide (e.2.1 = d) && decide (e.2.2.1 = ci) && decide (fk ci e.2.2.2.1 = off))
def ckM (c d k : Nat) : Bool := ML.any (fun e => decide (e.1 = c) && decide (e.2.1 = d) && decide (e.2.2.1 = k))
def isI (v : Int) (c d : Nat) (i : Instr × Nat) : Bool := (decide (i = (.iconst v, 1)) && decide (-128 ≤ v) && decide (v ≤ 127)) || (decide (i = (.bipush v, 2)) && decide (-128 ≤ v) && decide (v ≤ 127)) || (decide (i = (.sipush v, 3)) && decide (-32768 ≤ v) && decide (v ≤ 32767)) || ((decide (i = (.ldc d, 2)) || decide (i = (.ldc_w d, 3))) && ckC c d v && decide (-2147483648 ≤ v) && decide (v ≤ 2147483647))
def f4 (a : Nat) : Fin 4 := Fin.ofNat 4 a
def ckI (c nL : Nat) (i : Instr × Nat) (t a b d : Nat) : Bool := match t with
  | 0 => isI (a : Int) c d i
  | 1 => isI (-(a : Int)) c d i
  | 2 => decide (i = (.iload a, 2)) || (decide (i = (.iload_n (f4 a), 1)) && decide (a < 4))
  | 37 => decide (i = (.aload a, 2)) || (decide (i = (.aload_n (f4 a), 1)) && decide (a < 4))
  | 3 => (decide (i = (.istore a, 2)) || (decide (i = (.istore_n (f4 a), 1)) && decide (a < 4))) && decide (a < nL)
  | 38 => (decide (i = (.astore a, 2)) || (decide (i = (.astore_n (f4 a), 1)) && decide (a < 4))) && decide (a < nL)
  | 4 => decide (i = (.iinc a (b : Int), 3)) && decide (a < nL) && decide (b < 128)
  | 5 => decide (i = (.iinc a (-(b : Int)), 3)) && decide (a < nL) && decide (b < 128)
  | 6 => decide (i = (.getfield d, 3)) && ckF c d a b && decide (fk a b = 0)
  | 7 => decide (i = (.getfield d, 3)) && ckR c d a b && decide (0 < b)
  | 8 => decide (i = (.putfield d, 3)) && ckF c d a b && decide (fk a b = 0) && decide ((cTy a) b = .int) && decide (((cT a) b).2.2.2 = false)
  | 9 => decide (i = (.putfield d, 3)) && ckF c d a b && decide (fk a b = 0) && decide ((cTy a) b = .boolean) && decide (((cT a) b).2.2.2 = false)
  | 10 => decide (i = (.iaload, 1))
  | 11 => decide (i = (.baload, 1))
  | 15 => decide (i = (.baload, 1))
  | 12 => decide (i = (.iastore, 1))
  | 13 => decide (i = (.bastore, 1))
  | 14 => decide (i = (.bastore, 1))
  | 16 => decide (i = (.arraylength, 1))
  | 17 => decide (i = (.iadd, 1))
  | 18 => decide (i = (.isub, 1))
  | 19 => decide (i = (.imul, 1))
  | 20 => decide (i = (.idiv, 1))
  | 21 => decide (i = (.irem, 1))
  | 22 => decide (i = (.iand, 1))
  | 23 => decide (i = (.ior, 1))
  | 24 => decide (i = (.ishl, 1))
  | 25 => decide (i = (.ishr, 1))
  | 26 => decide (i = (.i2b, 1))
  | 27 => decide (i = (.dup, 1))
  | 28 => decide (i = (.pop, 1))
  | 29 => decide (i = (.dup2, 1))
  | 30 => (if mS a then decide (i = (.invokestatic d, 3)) else decide (i = (.invokevirtual d, 3))) && ckM c d a && decide (a < NM) && decide ((parseMethodDescriptor (yN a).desc).map (fun s => s.parameters.length + (if mS a then 0 else 1)) = some b) && decide (mR a = none)
  | 31 => (if mS a then decide (i = (.invokestatic d, 3)) else decide (i = (.invokevirtual d, 3))) && ckM c d a && decide (a < NM) && decide ((parseMethodDescriptor (yN a).desc).map (fun s => s.parameters.length + (if mS a then 0 else 1)) = some b)
  | 32 => decide (i = (.invokestatic d, 3)) && ckM c d 1000
  | 33 => decide (i = (.invokestatic d, 3)) && ckM c d 1001
  | 34 => decide (i = (.invokestatic d, 3)) && ckM c d 1002
  | 35 => decide (i = (.iaload, 1))
  | 36 => decide (i = (.arraylength, 1))
  | _ => false
def cOp (t : Nat) : ClassFile.Cond := match t with
  | 0 => .eq
  | 1 => .ne
  | 2 => .lt
  | 3 => .ge
  | 4 => .gt
  | _ => .le
def ckJ (q : Nat → Nat) (pc : Nat) (off : Int) (a : Nat) : Bool := decide ((pc : Int) + off = (q a : Int))
def ckSw (q : Nat → Nat) (pc : Nat) : Int → List Int → List Ai → Bool
  | _, [], [] => true
  | lo, o :: os, (key, tgt, _, _) :: r => decide ((key : Int) = lo) && ckJ q pc o tgt && ckSw q pc (lo + 1) os r
  | _, _, _ => false
def ckLk (q : Nat → Nat) (pc : Nat) : List (Int × Int) → List Ai → Bool
  | [], [] => true
  | (v, o) :: os, (key, tgt, _, _) :: r => decide ((key : Int) = v) && ckJ q pc o tgt && ckLk q pc os r
  | _, _ => false
def ckT (rt : Option FieldType) (q : Nat → Nat) (pc : Nat) (i : Instr × Nat) (t a b : Nat) (r : List Ai) : Bool := match t with
  | 51 => match i with | (.goto off, 3) => ckJ q pc off a | _ => false
  | 64 => decide (i = (.ireturn, 1)) && decide (rt = some .int)
  | 65 => decide (i = (.ireturn, 1)) && decide (rt = some .boolean)
  | 66 => decide (i = (.areturn, 1)) && (match rt with | some (.object _) => true | _ => false)
  | 67 => decide (i = (.return_, 1)) && decide (rt = none)
  | 68 => match i with
    | (.tableswitch df lo hi offs, _) => ckJ q pc df a && ckSw q pc lo offs.toList r && decide (hi = lo + (r.length : Int) - 1)
    | (.lookupswitch df ps, _) => ckJ q pc df a && ckLk q pc ps.toList r && (ps.toList.zip (ps.toList.drop 1)).all (fun (a, next) => a.1 < next.1)
    | _ => false
  | _ => if 52 ≤ t ∧ t < 58 then (match i with | (.if_icmp op off, 3) => decide (op = cOp (t - 52)) && ckJ q pc off a && decide (q b = pc + 3) | _ => false)
    else if 58 ≤ t ∧ t < 64 then (match i with | (.ifCond op off, 3) => decide (op = cOp (t - 58)) && ckJ q pc off a && decide (q b = pc + 3) | _ => false) else false
def ck (cc : ByteArray) (c nL : Nat) (rt : Option FieldType) (q : Nat → Nat) : Nat → List Ai → Bool
  | _, [] => false
  | pc, (t, a, b, d) :: r => if t = 50 then decide (q a = pc) else match decode cc pc with
    | .ok i => if t < 50 then ckI c nL i t a b d && ck cc c nL rt q (pc + i.2) r else ckT rt q pc i t a b r
    | .error _ => false
def ckBs (k : Nat) : Bool := (List.range (nblk k)).all (fun b => ck (mC k) (mK k) (mL k) (mR k) (pcs k) (pcs k b) (P k b) || (P k b).isEmpty)
