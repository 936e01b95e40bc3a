-- WHAT THE TABLES MUST SAY OF EACH INSTRUCTION, decided by the kernel
def ob_by (f : Nat) : ByteArray := (ob_inf f).2.1
def ob_mx (f : Nat) : Nat := (ob_inf f).2.2.1
def ob_rt (f : Nat) : Option FieldType := (ob_inf f).2.2.2.1
def ob_ow (f : Nat) : Nat := (ob_inf f).2.2.2.2.1
def ob_rk (f : Nat) : Nat := (ob_inf f).2.2.2.2.2.1
def ob_sc (f : Nat) : Nat := (ob_inf f).2.2.2.2.2.2
def ob_y (f : Nat) : MethodName := (ob_inf f).1
def ob_TT (c s : Nat) : String × String × String × Bool := (ob_cl.getD c ("", fun _ => ("", "", "", false), 0)).2.1 s
def ob_ftq (c s : Nat) : Nat × Nat × Nat := ob_nth (ob_nth ob_ft c []) s (0, 0, 9)
def ob_inFL (o i c s : Nat) : Bool := ob_FL.any fun q => Nat.beq q.2.1 i && Nat.beq q.1 o && Nat.beq q.2.2.1 c && Nat.beq q.2.2.2.1 s
def ob_in4 (L : List (Nat × Nat × Nat × Nat)) (o i g : Nat) : Bool := L.any fun q => Nat.beq q.2.1 i && Nat.beq q.1 o && Nat.beq q.2.2.1 g
def ob_inCO (o i v t : Nat) : Bool := ob_CO.any fun q => Nat.beq q.2.1 i && Nat.beq q.1 o && Nat.beq q.2.2.1 v && Nat.beq q.2.2.2.2 t
def ob_okC (f i : Nat) (aux : List Nat) (st vt : Nat) : Bool := Nat.beq (ob_nth aux 0 0) 9 && (cond (Nat.beq (ob_nth aux 6 0) 0) (ob_in4 ob_ML (ob_ow f) i (ob_nth aux 1 0)) (ob_in4 ob_MN (ob_ow f) i (ob_nth aux 1 0))) && Nat.ble (ob_rk (ob_nth aux 1 0) + 1) (ob_rk f) && Nat.beq (ob_ow (ob_nth aux 1 0)) (ob_nth aux 4 0) && Nat.beq (ob_mx (ob_nth aux 1 0)) (ob_nth aux 5 0) && Nat.ble (ob_mx (ob_nth aux 1 0)) 19 && Nat.beq (ob_sc (ob_nth aux 1 0)) st
  && decide ((parseMethodDescriptor (ob_y (ob_nth aux 1 0)).desc).map (fun d => d.parameters.length) = some (ob_nth aux 2 0 - vt)) && Nat.ble vt (ob_nth aux 2 0)
  && (match ob_rt (ob_nth aux 1 0), ob_nth aux 3 0 with
    | none, 0 => true
    | some .int, 1 => true
    | some .boolean, 1 => true
    | some .long, 2 => true
    | _, _ => false)
def ob_okF (f i : Nat) (aux : List Nat) (z : Int) : Bool := ob_inFL (ob_ow f) i (ob_nth aux 0 0) (ob_nth aux 1 0) && decide (z = Int.ofNat (ob_nth aux 1 0)) && Nat.beq (ob_ftq (ob_nth aux 0 0) (ob_nth aux 1 0)).1 (ob_nth aux 2 0) && Nat.beq (ob_ftq (ob_nth aux 0 0) (ob_nth aux 1 0)).2.1 (ob_nth aux 3 0) && Nat.ble (ob_nth aux 0 0) 8 && Nat.blt (ob_nth aux 1 0) (ob_nth ob_ft (ob_nth aux 0 0) []).length
def ob_okI (f pc : Nat) (ins : Instr) (nx : Nat) (aux : List Nat) (z : Int) : Bool := match ins with
  | .aload _ | .iload _ | .lload _ => Nat.beq nx (pc + 2)
  | .aload_n _ | .iload_n _ | .lload_n _ => Nat.beq nx (pc + 1)
  | .astore k | .istore k => Nat.beq nx (pc + 2) && Nat.blt k (ob_mx f)
  | .astore_n k => Nat.beq nx (pc + 1) && Nat.blt k.val (ob_mx f)
  | .istore_n k => Nat.beq nx (pc + 1) && Nat.blt k.val (ob_mx f)
  | .lstore k => Nat.beq nx (pc + 2) && Nat.blt (k + 1) (ob_mx f)
  | .lstore_n k => Nat.beq nx (pc + 1) && Nat.blt (k.val + 1) (ob_mx f)
  | .iinc k n => Nat.beq nx (pc + 3) && Nat.blt k (ob_mx f) && decide (-128 ≤ n ∧ n < 128)
  | .iconst n => Nat.beq nx (pc + 1) && decide (-128 ≤ n ∧ n < 128)
  | .bipush n => Nat.beq nx (pc + 2) && decide (-128 ≤ n ∧ n < 128)
  | .sipush n => Nat.beq nx (pc + 3) && decide (-32768 ≤ n ∧ n < 32768)
  | .lconst _ => Nat.beq nx (pc + 1)
  | .ldc i => Nat.beq nx (pc + 2) && ob_inCO (ob_ow f) i z.toNat 0 && decide (0 ≤ z ∧ z < 2147483648)
  | .ldc2_w i => Nat.beq nx (pc + 3) && ob_inCO (ob_ow f) i z.toNat 1 && decide (0 ≤ z ∧ z < 2147483648)
  | .if_icmp _ o | .ifCond _ o => Nat.beq nx (pc + 3) && decide ((pc : Int) + o = Int.ofNat (ob_nth aux 0 0))
  | .goto o => Nat.beq nx (pc + 3) && decide ((pc : Int) + o = Int.ofNat (ob_nth aux 0 0))
  | .tableswitch d lo hi os => decide ((pc : Int) + d = Int.ofNat (ob_nth aux 0 0)) && decide (os.toList.map (fun o => (pc : Int) + o) = aux.tail.map Int.ofNat) && decide (hi + 1 = lo + Int.ofNat aux.tail.length)
  | .lookupswitch d ps => decide ((pc : Int) + d = Int.ofNat (ob_nth aux 0 0)) && decide (ps.toList.map (fun o => (pc : Int) + o.2) = aux.tail.map Int.ofNat) && (ps.toList.zip (ps.toList.drop 1)).all (fun (a, next) => a.1 < next.1)
  | .getfield i => Nat.beq nx (pc + 3) && ob_okF f i aux z
  | .putfield i => Nat.beq nx (pc + 3) && ob_okF f i aux z && Nat.beq (ob_nth aux 4 0) (cond (decide ((ob_TT (ob_nth aux 0 0) (ob_nth aux 1 0)).2.2.1 = "Z")) 1 0) && (cond (Nat.beq (ob_nth aux 3 0) 0) (Nat.beq (ob_ftq (ob_nth aux 0 0) (ob_nth aux 1 0)).2.2 0) (Nat.beq (ob_ftq (ob_nth aux 0 0) (ob_nth aux 1 0)).2.2 1 && Nat.beq (ob_ow f) (ob_nth aux 0 0) && decide ((ob_y f).name = "<init>"))) && (cond (Nat.beq (ob_nth aux 2 0) 0) (Nat.beq (ob_nth aux 3 0) 0) true)
  | .new i => Nat.beq nx (pc + 3) && ob_in4 ob_CK (ob_ow f) i (ob_nth aux 0 0) && Nat.ble (ob_nth aux 0 0) 8
  | .newarray a => Nat.beq nx (pc + 2) && Nat.ble 16 (ob_nth aux 0 0) && Nat.beq (ob_kq (ob_nth aux 0 0)).2.1 (match a with
    | .int => 0
    | .boolean => 1
    | .byte => 2
    | _ => 99)
  | .anewarray i => Nat.beq nx (pc + 3) && Nat.ble 16 (ob_nth aux 0 0) && ob_in4 ob_CK (ob_ow f) i (ob_nth aux 1 0) && Nat.beq (ob_kq (ob_nth aux 0 0)).2.1 3 && Nat.beq (ob_kq (ob_nth aux 0 0)).2.2.1 (ob_nth aux 1 0 + 1)
  | .invokevirtual i => Nat.beq nx (pc + 3) && ob_okC f i aux 0 1 && Nat.ble (ob_nth aux 4 0) 8
  | .invokespecial i => Nat.beq nx (pc + 3) && (match aux with
    | [0] => ob_in4 ob_SP (ob_ow f) i 0 && Nat.ble 1 (ob_rk f)
    | _ => ob_okC f i aux 0 1 && decide ((ob_y (ob_nth aux 1 0)).name = "<init>") && Nat.ble (ob_nth aux 4 0) 8)
  | .invokestatic i => Nat.beq nx (pc + 3) && (match aux with
    | [1] => ob_in4 ob_SP (ob_ow f) i 1 && Nat.ble 1 (ob_rk f)
    | [2] => ob_in4 ob_SP (ob_ow f) i 2 && Nat.ble 1 (ob_rk f)
    | [3] => ob_in4 ob_SP (ob_ow f) i 3 && Nat.ble 1 (ob_rk f)
    | [4] => ob_in4 ob_SP (ob_ow f) i 4 && Nat.ble 1 (ob_rk f)
    | _ => ob_okC f i aux 1 0)
  | .ireturn => Nat.beq nx (pc + 1) && (match ob_rt f, ob_nth aux 0 0 with
    | some .int, 0 => true
    | some .boolean, 1 => true
    | _, _ => false)
  | .lreturn => Nat.beq nx (pc + 1) && decide (ob_rt f = some .long)
  | .return_ => Nat.beq nx (pc + 1) && decide (ob_rt f = none)
  | .iadd | .isub | .imul | .idiv | .irem | .iand | .ior | .ishl | .ishr | .i2l | .i2b | .ladd | .lmul | .lcmp | .dup | .dup2 | .pop | .arraylength | .iaload | .baload | .aaload | .iastore | .bastore | .aastore => Nat.beq nx (pc + 1)
  | _ => false
def ob_ok (f pc : Nat) (e : ob_Ent) : Bool := match e with
  | (ins, nx, aux, z) => decide (decode (ob_by f) pc = .ok (ins, nx - pc)) && Nat.blt pc nx && ob_okI f pc ins nx aux z
def ob_ckR (f : Nat) : Nat → List (Option ob_Ent) → Bool
  | _, [] => true
  | pc, none :: l => ob_ckR f (pc + 1) l
  | pc, some e :: l => ob_ok f pc e && ob_ckR f (pc + 1) l
def ob_ckC (f : Nat) : Nat → List (List (Option ob_Ent)) → Bool
  | _, [] => true
  | pc, r :: l => (Nat.beq r.length 16 || l.isEmpty) && ob_ckR f pc r && ob_ckC f (pc + 16) l
def ob_ckF (f : Nat) : Bool := ob_ckC f 0 (ob_nth (ob_nth ob_codes (f / 16) []) (f % 16) [])
