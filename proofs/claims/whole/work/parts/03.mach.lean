-- THE ABSTRACT MACHINE: the same bytecode over numbers (Int) and a memory by kind, cell, slot
abbrev ob_AV : Type := Nat × Int
abbrev ob_Mem : Type := Nat → Int → Int → Int
abbrev ob_CI : Type := Nat × Nat × List (Nat × Int × Int)
abbrev ob_MM : Type := ob_Mem × Option ob_CI
abbrev ob_St : Type := Nat × Nat × List ob_AV × List ob_AV × ob_MM
abbrev ob_Res : Type := Option (Int × ob_MM)
abbrev ob_Dc : Type := PSigma (fun c : Prop => Decidable c)
abbrev ob_Ac : Type := ob_Res ⊕ ob_St ⊕ (ob_Dc × ob_St × ob_St) ⊕ (ob_Dc × ob_St) ⊕ (ob_St × (Int → ob_MM → ob_St)) ⊕ (Int × List (Int × ob_St) × ob_St)
abbrev ob_stop (r : ob_Res) : ob_Ac := .inl r
abbrev ob_go (s : ob_St) : ob_Ac := .inr (.inl s)
abbrev ob_br (d : ob_Dc) (s1 s2 : ob_St) : ob_Ac := .inr (.inr (.inl (d, s1, s2)))
abbrev ob_gd (d : ob_Dc) (s : ob_St) : ob_Ac := .inr (.inr (.inr (.inl (d, s))))
abbrev ob_ca (s : ob_St) (k : Int → ob_MM → ob_St) : ob_Ac := .inr (.inr (.inr (.inr (.inl (s, k)))))
abbrev ob_sw (v : Int) (cs : List (Int × ob_St)) (d : ob_St) : ob_Ac := .inr (.inr (.inr (.inr (.inr (v, cs, d)))))
def ob_nth {α : Type} : List α → Nat → α → α
  | [], _, d => d
  | a :: _, 0, _ => a
  | _ :: l, n + 1, d => ob_nth l n d
def ob_upd {α : Type} : List α → Nat → α → List α
  | [], _, _ => []
  | _ :: l, 0, v => v :: l
  | a :: l, n + 1, v => a :: ob_upd l n v
def ob_mem (n : Nat) : List Nat → Bool
  | [] => false
  | a :: l => cond (Nat.beq n a) true (ob_mem n l)
def ob_code (f pc : Nat) : Option ob_Ent := ob_nth (ob_nth (ob_nth (ob_nth ob_codes (f / 16) []) (f % 16) []) (pc / 16) []) (pc % 16) none
def ob_inf (f : Nat) : MethodName × ByteArray × Nat × Option FieldType × Nat × Nat × Nat := ob_nth (ob_nth ob_infs (f / 16) []) (f % 16) (⟨"", "", ""⟩, ByteArray.empty, 0, none, 99, 99, 0)
def ob_wr (x : Int) : Int := Int.bmod x 4294967296
def ob_wl (x : Int) : Int := Int.bmod x 18446744073709551616
def ob_and (a b : Int) : Int := (Int32.ofInt a &&& Int32.ofInt b).toInt
def ob_or (a b : Int) : Int := (Int32.ofInt a ||| Int32.ofInt b).toInt
def ob_shl (a b : Int) : Int := (Int32.ofInt a <<< (Int32.ofInt b &&& 31)).toInt
def ob_shr (a b : Int) : Int := (Int32.ofInt a >>> (Int32.ofInt b &&& 31)).toInt
def ob_cmp (a b : Int) : Int := if a < b then -1 else if a = b then 0 else 1
def ob_abs (a : Int) : Int := if a < 0 then ob_wr (-a) else a
def ob_set (m : ob_Mem) (k : Nat) (i s x : Int) : ob_Mem := fun k' i' s' => if k' = k ∧ i' = i ∧ s' = s then x else m k' i' s'
def ob_cpy (m : ob_Mem) (k : Nat) (i : Int) (p : Int) (k2 : Nat) (i2 : Int) (p2 n : Int) : ob_Mem := fun k' i' s' => if k' = k2 ∧ i' = i2 ∧ p2 ≤ s' ∧ s' < p2 + n then m k i (p + (s' - p2)) else m k' i' s'
def ob_kq (k : Nat) : Int × Nat × Nat × Nat := ob_nth ob_kt k (0, 9, 0, 0)
def ob_ln (m : ob_Mem) (k : Nat) : Int := cond (Nat.beq k 15) (m 14 0 0) (ob_kq k).1
def ob_tg (m : ob_Mem) (mode k : Nat) (i s : Int) : Int := match mode with
  | 0 => m k i s
  | 1 => i
  | 2 => 2 * i + 1
  | 3 => 0
  | 4 => 2 * (3 * i + s)
  | 5 => 3 * i + s
  | _ => 21 + s
def ob_ini (c : Option ob_CI) (k : Nat) (i s : Int) : Bool := match c with
  | none => true
  | some C => C.2.2.contains (k, i, s)
def ob_add (c : Option ob_CI) (k : Nat) (i s : Int) : Option ob_CI := match c with
  | none => none
  | some C => some (C.1, C.2.1, (k, i, s) :: C.2.2)
def ob_i1 (st : List ob_AV) (K : Int → List ob_AV → ob_Ac) : ob_Ac := match st with
  | (1, a) :: r => K a r
  | _ => ob_stop none
def ob_l1 (st : List ob_AV) (K : Int → List ob_AV → ob_Ac) : ob_Ac := match st with
  | (2, a) :: r => K a r
  | _ => ob_stop none
def ob_r1 (st : List ob_AV) (K : Nat → Int → List ob_AV → ob_Ac) : ob_Ac := match st with
  | (t + 3, i) :: r => K t i r
  | _ => ob_stop none
def ob_v1 (st : List ob_AV) (K : ob_AV → List ob_AV → ob_Ac) : ob_Ac := match st with
  | [] => ob_stop none
  | (n, a) :: r => cond (Nat.beq n 2) (ob_stop none) (K (n, a) r)
def ob_ldi (ls : List ob_AV) (k : Nat) (K : Int → ob_Ac) : ob_Ac := match ob_nth ls k (0, 0) with
  | (1, a) => K a
  | _ => ob_stop none
def ob_ldl (ls : List ob_AV) (k : Nat) (K : Int → ob_Ac) : ob_Ac := match ob_nth ls k (0, 0) with
  | (2, a) => K a
  | _ => ob_stop none
def ob_ldr (ls : List ob_AV) (k : Nat) (K : Nat → Int → ob_Ac) : ob_Ac := match ob_nth ls k (0, 0) with
  | (t + 3, i) => K t i
  | _ => ob_stop none
def ob_sto (ls : List ob_AV) (k : Nat) (v : ob_AV) (K : List ob_AV → ob_Ac) : ob_Ac := match k with
  | 0 => K (ob_upd ls 0 v)
  | k' + 1 => match ob_nth ls k' (0, 0) with
    | (n, _) => cond (Nat.beq n 2) (ob_stop none) (K (ob_upd ls (k' + 1) v))
def ob_cnd (c : ClassFile.Cond) (a b : Int) (s1 s2 : ob_St) : ob_Ac := match c with
  | .eq => ob_br ⟨a = b, inferInstance⟩ s1 s2
  | .ne => ob_br ⟨a = b, inferInstance⟩ s2 s1
  | .lt => ob_br ⟨a < b, inferInstance⟩ s1 s2
  | .ge => ob_br ⟨a < b, inferInstance⟩ s2 s1
  | .gt => ob_br ⟨b < a, inferInstance⟩ s1 s2
  | .le => ob_br ⟨b < a, inferInstance⟩ s2 s1
def ob_pop : Nat → List ob_AV → List ob_AV → Option (List ob_AV × List ob_AV)
  | 0, acc, st => some (acc, st)
  | _ + 1, _, [] => none
  | n + 1, acc, v :: st => ob_pop n (v :: acc) st
/-- the stack r weighs at most n words -/
def ob_wk : Nat → List ob_AV → Bool
  | _, [] => true
  | 0, _ :: _ => false
  | n + 1, (t, _) :: r => cond (Nat.beq t 2) (cond (Nat.beq n 0) false (ob_wk (n - 1) r)) (ob_wk n r)
/-- the first value is a reference of that kind -/
def ob_hd (k : Nat) : List ob_AV → Bool
  | [] => false
  | (t, _) :: _ => Nat.beq t (k + 3)
def ob_rep : Nat → List ob_AV
  | 0 => []
  | n + 1 => (0, 0) :: ob_rep n
def ob_mkL : List ob_AV → Nat → List ob_AV
  | [], n => ob_rep n
  | (2, a) :: vs, n + 2 => (2, a) :: (0, 0) :: ob_mkL vs n
  | _ :: _, 0 => []
  | v :: vs, n + 1 => v :: ob_mkL vs n
def ob_psh (r : Nat) (v : Int) (st : List ob_AV) : List ob_AV := match r with
  | 0 => st
  | 1 => (1, v) :: st
  | _ => (2, v) :: st
/-- a call: aux = [9, method, how many values, what comes back, class of the receiver, locals, nest] -/
def ob_inv (vt : Bool) (aux : List Nat) (f nx : Nat) (ls st : List ob_AV) (mm : ob_MM) : ob_Ac := match ob_pop (ob_nth aux 2 0) [] st with
  | none => ob_stop none
  | some (as, r) => cond (ob_wk 8 r && ob_wk (ob_nth aux 5 0) as && (!vt || ob_hd (ob_nth aux 4 0) as)) (ob_ca (ob_nth aux 1 0, 0, ob_mkL as (ob_nth aux 5 0), [], mm) (fun v mm' => (f, nx, ls, ob_psh (ob_nth aux 3 0) v r, mm'))) (ob_stop none)
def ob_new (k f nx : Nat) (ls st : List ob_AV) (n : Nat) (mm : ob_MM) : ob_Ac := match mm.2 with
  | none => ob_stop none
  | some C => match ob_nth ob_lay C.1 (99, 0) with
    | q => cond (Nat.beq q.1 k) (ob_go (f, nx, ls, (k + 3, q.2) :: st, (mm.1, some (C.1 + 1, C.2.1 + n, C.2.2)))) (ob_stop none)
def ob_refs : List (Nat × Int × Int) := ob_lay.flatMap fun q => cond (Nat.ble 9 q.1) (match ob_kq q.1 with
  | (n, 3, _, _) => (List.range n.toNat).map fun (s : Nat) => (q.1, q.2, Int.ofNat s)
  | _ => []) (((ob_nth ob_ft q.1 []).zipIdx.filter fun z => !Nat.beq z.1.1 0).map fun z => (q.1, q.2, Int.ofNat z.2))
def ob_full (C : ob_CI) : Bool := Nat.beq C.1 ob_layN && Nat.beq C.2.1 ob_sltN && ob_refs.all fun q => C.2.2.contains q
def ob_seal (mm : ob_MM) (K : ob_MM → ob_Ac) : ob_Ac := match mm.2 with
  | none => ob_stop none
  | some C => cond (ob_full C) (K (mm.1, none)) (ob_stop none)
def ob_stat (c : Option ob_CI) (K : Unit → ob_Ac) : ob_Ac := match c with
  | none => ob_stop none
  | some _ => K ()
def ob_ins (ins : Instr) (nx : Nat) (aux : List Nat) (z : Int) (f : Nat) (ls st : List ob_AV) (mm : ob_MM) : ob_Ac := match ins with
  | .aload k => ob_ldr ls k fun t i => ob_go (f, nx, ls, (t + 3, i) :: st, mm)
  | .aload_n k => ob_ldr ls k.val fun t i => ob_go (f, nx, ls, (t + 3, i) :: st, mm)
  | .iload k => ob_ldi ls k fun a => ob_go (f, nx, ls, (1, a) :: st, mm)
  | .iload_n k => ob_ldi ls k.val fun a => ob_go (f, nx, ls, (1, a) :: st, mm)
  | .lload k => ob_ldl ls k fun a => ob_go (f, nx, ls, (2, a) :: st, mm)
  | .lload_n k => ob_ldl ls k.val fun a => ob_go (f, nx, ls, (2, a) :: st, mm)
  | .astore k => ob_r1 st fun t i st => ob_sto ls k (t + 3, i) fun ls => ob_go (f, nx, ls, st, mm)
  | .astore_n k => ob_r1 st fun t i st => ob_sto ls k.val (t + 3, i) fun ls => ob_go (f, nx, ls, st, mm)
  | .istore k => ob_i1 st fun a st => ob_sto ls k (1, a) fun ls => ob_go (f, nx, ls, st, mm)
  | .istore_n k => ob_i1 st fun a st => ob_sto ls k.val (1, a) fun ls => match aux with
    | [] => ob_go (f, nx, ls, st, mm)
    | _ => ob_seal mm fun mm => ob_go (f, nx, ls, st, mm)
  | .lstore k => ob_l1 st fun a st => ob_sto ls k (2, a) fun ls => ob_go (f, nx, ob_upd ls (k + 1) (0, 0), st, mm)
  | .lstore_n k => ob_l1 st fun a st => ob_sto ls k.val (2, a) fun ls => ob_go (f, nx, ob_upd ls (k.val + 1) (0, 0), st, mm)
  | .iinc k n => ob_ldi ls k fun a => ob_go (f, nx, ob_upd ls k (1, ob_wr (a + n)), st, mm)
  | .iconst n => ob_go (f, nx, ls, (1, n) :: st, mm)
  | .bipush n => ob_go (f, nx, ls, (1, n) :: st, mm)
  | .sipush n => ob_go (f, nx, ls, (1, n) :: st, mm)
  | .lconst n => ob_go (f, nx, ls, (2, (n.val : Int)) :: st, mm)
  | .ldc _ => ob_go (f, nx, ls, (1, z) :: st, mm)
  | .ldc2_w _ => ob_go (f, nx, ls, (2, z) :: st, mm)
  | .iadd => ob_i1 st fun b st => ob_i1 st fun a st => ob_go (f, nx, ls, (1, ob_wr (a + b)) :: st, mm)
  | .isub => ob_i1 st fun b st => ob_i1 st fun a st => ob_go (f, nx, ls, (1, ob_wr (a - b)) :: st, mm)
  | .imul => ob_i1 st fun b st => ob_i1 st fun a st => ob_go (f, nx, ls, (1, ob_wr (a * b)) :: st, mm)
  | .idiv => ob_i1 st fun b st => ob_i1 st fun a st => ob_gd ⟨b ≠ 0, inferInstance⟩ (f, nx, ls, (1, ob_wr (Int.tdiv a b)) :: st, mm)
  | .irem => ob_i1 st fun b st => ob_i1 st fun a st => ob_gd ⟨b ≠ 0, inferInstance⟩ (f, nx, ls, (1, Int.tmod a b) :: st, mm)
  | .iand => ob_i1 st fun b st => ob_i1 st fun a st => ob_go (f, nx, ls, (1, ob_and a b) :: st, mm)
  | .ior => ob_i1 st fun b st => ob_i1 st fun a st => ob_go (f, nx, ls, (1, ob_or a b) :: st, mm)
  | .ishl => ob_i1 st fun b st => ob_i1 st fun a st => ob_go (f, nx, ls, (1, ob_shl a b) :: st, mm)
  | .ishr => ob_i1 st fun b st => ob_i1 st fun a st => ob_go (f, nx, ls, (1, ob_shr a b) :: st, mm)
  | .i2l => ob_i1 st fun a st => ob_go (f, nx, ls, (2, a) :: st, mm)
  | .i2b => ob_i1 st fun a st => ob_go (f, nx, ls, (1, Int.bmod a 256) :: st, mm)
  | .ladd => ob_l1 st fun b st => ob_l1 st fun a st => ob_go (f, nx, ls, (2, ob_wl (a + b)) :: st, mm)
  | .lmul => ob_l1 st fun b st => ob_l1 st fun a st => ob_go (f, nx, ls, (2, ob_wl (a * b)) :: st, mm)
  | .lcmp => ob_l1 st fun b st => ob_l1 st fun a st => ob_go (f, nx, ls, (1, ob_cmp a b) :: st, mm)
  | .dup => ob_v1 st fun v st => ob_go (f, nx, ls, v :: v :: st, mm)
  | .dup2 => ob_v1 st fun v st => ob_v1 st fun w st => ob_go (f, nx, ls, v :: w :: v :: w :: st, mm)
  | .pop => ob_v1 st fun _ st => ob_go (f, nx, ls, st, mm)
  | .if_icmp c _ => ob_i1 st fun b st => ob_i1 st fun a st => ob_cnd c a b (f, ob_nth aux 0 0, ls, st, mm) (f, nx, ls, st, mm)
  | .ifCond c _ => ob_i1 st fun a st => ob_cnd c a 0 (f, ob_nth aux 0 0, ls, st, mm) (f, nx, ls, st, mm)
  | .goto _ => ob_go (f, ob_nth aux 0 0, ls, st, mm)
  | .tableswitch _ lo _ _ => ob_i1 st fun v st => ob_sw v ((aux.tail.zipIdx).map fun q => (lo + (q.2 : Int), (f, q.1, ls, st, mm))) (f, ob_nth aux 0 0, ls, st, mm)
  | .lookupswitch _ ps => ob_i1 st fun v st => ob_sw v ((ps.toList.zip aux.tail).map fun q => (q.1.1, (f, q.2, ls, st, mm))) (f, ob_nth aux 0 0, ls, st, mm)
  | .arraylength => ob_r1 st fun t _ st => cond (Nat.ble (ob_kq t).2.1 3) (ob_go (f, nx, ls, (1, ob_ln mm.1 t) :: st, mm)) (ob_stop none)
  | .iaload => ob_i1 st fun j st => ob_r1 st fun t i st => cond (Nat.beq (ob_kq t).2.1 0) (ob_gd ⟨0 ≤ j ∧ j < ob_ln mm.1 t, inferInstance⟩ (f, nx, ls, (1, mm.1 t i j) :: st, mm)) (ob_stop none)
  | .baload => ob_i1 st fun j st => ob_r1 st fun t i st => cond (Nat.beq (ob_kq t).2.1 1 || Nat.beq (ob_kq t).2.1 2) (ob_gd ⟨0 ≤ j ∧ j < ob_ln mm.1 t, inferInstance⟩ (f, nx, ls, (1, mm.1 t i j) :: st, mm)) (ob_stop none)
  | .aaload => ob_i1 st fun j st => ob_r1 st fun t i st => cond (Nat.beq (ob_kq t).2.1 3 && ob_ini mm.2 t i j) (ob_gd ⟨0 ≤ j ∧ j < ob_ln mm.1 t, inferInstance⟩ (f, nx, ls, ((ob_kq t).2.2.1 + 2, ob_tg mm.1 (ob_kq t).2.2.2 t i j) :: st, mm)) (ob_stop none)
  | .iastore => ob_i1 st fun x st => ob_i1 st fun j st => ob_r1 st fun t i st => cond (Nat.beq (ob_kq t).2.1 0 && !Nat.beq t 15) (ob_gd ⟨0 ≤ j ∧ j < ob_ln mm.1 t, inferInstance⟩ (f, nx, ls, st, (ob_set mm.1 t i j x, mm.2))) (ob_stop none)
  | .bastore => ob_i1 st fun x st => ob_i1 st fun j st => ob_r1 st fun t i st => match (ob_kq t).2.1 with
    | 1 => ob_gd ⟨(0 ≤ j ∧ j < ob_ln mm.1 t) ∧ (x = 0 ∨ x = 1), inferInstance⟩ (f, nx, ls, st, (ob_set mm.1 t i j x, mm.2))
    | 2 => ob_gd ⟨(0 ≤ j ∧ j < ob_ln mm.1 t) ∧ (-128 ≤ x ∧ x < 128), inferInstance⟩ (f, nx, ls, st, (ob_set mm.1 t i j x, mm.2))
    | _ => ob_stop none
  | .aastore => ob_r1 st fun t2 i2 st => ob_i1 st fun j st => ob_r1 st fun t i st => cond (Nat.beq (ob_kq t).2.1 3 && Nat.beq (t2 + 1) (ob_kq t).2.2.1) (match (ob_kq t).2.2.2 with
    | 0 => ob_gd ⟨0 ≤ j ∧ j < ob_ln mm.1 t, inferInstance⟩ (f, nx, ls, st, (ob_set mm.1 t i j i2, ob_add mm.2 t i j))
    | md => ob_stat mm.2 fun _ => ob_gd ⟨(0 ≤ j ∧ j < ob_ln mm.1 t) ∧ i2 = ob_tg mm.1 md t i j, inferInstance⟩ (f, nx, ls, st, (mm.1, ob_add mm.2 t i j))) (ob_stop none)
  | .getfield _ => ob_r1 st fun t i st => cond (Nat.beq t (ob_nth aux 0 0)) (match ob_nth aux 2 0 with
    | 0 => ob_go (f, nx, ls, (1, mm.1 t i z) :: st, mm)
    | tk + 1 => cond (ob_ini mm.2 t i z) (ob_go (f, nx, ls, (tk + 3, ob_tg mm.1 (ob_nth aux 3 0) t i z) :: st, mm)) (ob_stop none)) (ob_stop none)
  | .putfield _ => match ob_nth aux 2 0 with
    | 0 => ob_i1 st fun x st => ob_r1 st fun t i st => cond (Nat.beq t (ob_nth aux 0 0)) (match ob_nth aux 4 0 with
      | 0 => ob_go (f, nx, ls, st, (ob_set mm.1 t i z x, mm.2))
      | _ => ob_gd ⟨x = 0 ∨ x = 1, inferInstance⟩ (f, nx, ls, st, (ob_set mm.1 t i z x, mm.2))) (ob_stop none)
    | tk + 1 => ob_r1 st fun t2 i2 st => ob_r1 st fun t i st => cond (Nat.beq t (ob_nth aux 0 0) && Nat.beq t2 tk) (match ob_nth aux 3 0 with
      | 0 => ob_go (f, nx, ls, st, (ob_set mm.1 t i z i2, ob_add mm.2 t i z))
      | md => ob_stat mm.2 fun _ => ob_gd ⟨i2 = ob_tg mm.1 md t i z, inferInstance⟩ (f, nx, ls, st, (mm.1, ob_add mm.2 t i z))) (ob_stop none)
  | .new _ => ob_new (ob_nth aux 0 0) f nx ls st (ob_nth ob_ft (ob_nth aux 0 0) []).length mm
  | .newarray _ => ob_i1 st fun n st => cond (decide (n = (ob_kq (ob_nth aux 0 0)).1)) (ob_new (ob_nth aux 0 0) f nx ls st n.toNat mm) (ob_stop none)
  | .anewarray _ => ob_i1 st fun n st => cond (decide (n = (ob_kq (ob_nth aux 0 0)).1)) (ob_new (ob_nth aux 0 0) f nx ls st n.toNat mm) (ob_stop none)
  | .invokevirtual _ => ob_inv true aux f nx ls st mm
  | .invokespecial _ => match aux with
    | [0] => ob_r1 st fun _ _ st => cond (ob_wk 8 st) (ob_go (f, nx, ls, st, mm)) (ob_stop none)
    | _ => ob_inv true aux f nx ls st mm
  | .invokestatic _ => match aux with
    | [1] => ob_i1 st fun n st => ob_i1 st fun p2 st => ob_r1 st fun t2 i2 st => ob_i1 st fun p st => ob_r1 st fun t i st => cond (Nat.beq (ob_kq t).2.1 0 && Nat.beq (ob_kq t2).2.1 0 && !Nat.beq t 15 && !Nat.beq t2 15 && ob_wk 8 st) (ob_gd ⟨(0 ≤ n ∧ 0 ≤ p ∧ 0 ≤ p2) ∧ p + n ≤ ob_ln mm.1 t ∧ p2 + n ≤ ob_ln mm.1 t2, inferInstance⟩ (f, nx, ls, st, (ob_cpy mm.1 t i p t2 i2 p2 n, mm.2))) (ob_stop none)
    | [2] => ob_i1 st fun b st => ob_i1 st fun a st => cond (ob_wk 8 st) (ob_go (f, nx, ls, (1, min a b) :: st, mm)) (ob_stop none)
    | [3] => ob_i1 st fun b st => ob_i1 st fun a st => cond (ob_wk 8 st) (ob_go (f, nx, ls, (1, max a b) :: st, mm)) (ob_stop none)
    | [4] => ob_i1 st fun a st => cond (ob_wk 8 st) (ob_go (f, nx, ls, (1, ob_abs a) :: st, mm)) (ob_stop none)
    | _ => ob_inv false aux f nx ls st mm
  | .ireturn => match st with
    | [(1, a)] => match ob_nth aux 0 0 with
      | 0 => ob_stop (some (a, mm))
      | _ => ob_stop (if a = 0 ∨ a = 1 then some (a, mm) else none)
    | _ => ob_stop none
  | .lreturn => match st with
    | [(2, a)] => ob_stop (some (a, mm))
    | _ => ob_stop none
  | .return_ => match st with
    | [] => ob_stop (some (0, mm))
    | _ => ob_stop none
  | _ => ob_stop none
def ob_act : ob_St → ob_Ac
  | (f, pc, ls, st, mm) => match ob_code f pc with
    | none => ob_stop none
    | some (ins, nx, aux, z) => ob_ins ins nx aux z f ls st mm
def ob_swi (X : ob_St → ob_Res) (v : Int) : List (Int × ob_St) → ob_St → ob_Res
  | [], d => X d
  | q :: cs, d => if v = q.1 then X q.2 else ob_swi X v cs d
def ob_int (C X : ob_St → ob_Res) (a : ob_Ac) : ob_Res := match a with
  | .inl r => r
  | .inr (.inl s) => X s
  | .inr (.inr (.inl q)) => @ite _ q.1.1 q.1.2 (X q.2.1) (X q.2.2)
  | .inr (.inr (.inr (.inl q))) => @ite _ q.1.1 q.1.2 (X q.2) none
  | .inr (.inr (.inr (.inr (.inl q)))) => (C q.1).bind fun r => X (q.2 r.1 r.2)
  | .inr (.inr (.inr (.inr (.inr q)))) => ob_swi X q.1 q.2.1 q.2.2
def ob_ex : Nat → ob_St → ob_Res
  | 0, _ => none
  | n + 1, s => ob_int (ob_ex n) (ob_ex n) (ob_act s)
/-- run to the cut points cs (or n steps), then K -/
def ob_rs (cs : List Nat) (K : ob_St → ob_Res) : Nat → ob_St → ob_Res
  | 0, s => K s
  | n + 1, s => ob_int K (fun s' => match s' with
    | (f, pc, r) => cond (ob_mem pc cs) (K (f, pc, r)) (ob_rs cs K n (f, pc, r))) (ob_act s)
theorem ob_swi_mono {X Y : ob_St → ob_Res} (h : ∀ s r, X s = some r → Y s = some r) {v : Int} {d : ob_St} {r : Int × ob_MM} : ∀ cs : List (Int × ob_St), ob_swi X v cs d = some r → ob_swi Y v cs d = some r
  | [], hx => h _ _ hx
  | q :: cs, hx => by
    unfold ob_swi at hx ⊢
    by_cases c : v = q.1
    · rw [if_pos c] at hx ⊢
      exact h _ _ hx
    · rw [if_neg c] at hx ⊢
      exact ob_swi_mono h cs hx
theorem ob_int_mono {C D X Y : ob_St → ob_Res} (hC : ∀ s r, C s = some r → D s = some r) (h : ∀ s r, X s = some r → Y s = some r) (a : ob_Ac) (r : Int × ob_MM) (hx : ob_int C X a = some r) : ob_int D Y a = some r := by
  match a, hx with
  | .inl r', hx => exact hx
  | .inr (.inl s), hx => exact h _ _ hx
  | .inr (.inr (.inl (⟨c, i⟩, s1, s2))), hx =>
    show @ite _ c i (Y s1) (Y s2) = some r
    have hx : @ite _ c i (X s1) (X s2) = some r := hx
    by_cases q : c
    · rw [if_pos q] at hx ⊢
      exact h _ _ hx
    · rw [if_neg q] at hx ⊢
      exact h _ _ hx
  | .inr (.inr (.inr (.inl (⟨c, i⟩, s)))), hx =>
    show @ite _ c i (Y s) none = some r
    have hx : @ite _ c i (X s) none = some r := hx
    by_cases q : c
    · rw [if_pos q] at hx ⊢
      exact h _ _ hx
    · rw [if_neg q] at hx
      cases hx
  | .inr (.inr (.inr (.inr (.inl (s, k))))), hx =>
    show (D s).bind (fun r => Y (k r.1 r.2)) = some r
    have hx : (C s).bind (fun r => X (k r.1 r.2)) = some r := hx
    obtain ⟨q, h1, h2⟩ := Option.bind_eq_some_iff.mp hx
    exact Option.bind_eq_some_iff.mpr ⟨q, hC _ _ h1, h _ _ h2⟩
  | .inr (.inr (.inr (.inr (.inr (v, cs, d))))), hx => exact ob_swi_mono h cs hx
theorem ob_ex_succ : ∀ (n : Nat) (s : ob_St) (r : Int × ob_MM), ob_ex n s = some r → ob_ex (n + 1) s = some r
  | 0, _, _, h => by cases h
  | n + 1, s, r, h => ob_int_mono (ob_ex_succ n) (ob_ex_succ n) _ _ h
theorem ob_ex_le {n k : Nat} (hk : n ≤ k) {s : ob_St} {r : Int × ob_MM} (h : ob_ex n s = some r) : ob_ex k s = some r := by
  induction hk with
  | refl => exact h
  | step _ ih => exact ob_ex_succ _ _ _ ih
theorem ob_ex_det {n k : Nat} {s : ob_St} {r q : Int × ob_MM} (h : ob_ex n s = some r) (h2 : ob_ex k s = some q) : r = q := by
  have a := ob_ex_le (Nat.le_max_left n k) h
  have b := ob_ex_le (Nat.le_max_right n k) h2
  exact Option.some.inj (a.symm.trans b)
noncomputable def ob_E (s : ob_St) : ob_Res := @dite _ (∃ (r : Int × ob_MM) (n : Nat), ob_ex n s = some r) (Classical.propDecidable _) (fun h => some h.choose) (fun _ => none)
theorem ob_E_of {s : ob_St} {r : Int × ob_MM} {n : Nat} (h : ob_ex n s = some r) : ob_E s = some r := by
  have hh : ∃ (r : Int × ob_MM) (n : Nat), ob_ex n s = some r := ⟨r, n, h⟩
  unfold ob_E
  rw [dif_pos hh]
  obtain ⟨k, hk⟩ := hh.choose_spec
  exact congrArg some (ob_ex_det hk h)
theorem ob_E_to {s : ob_St} {r : Int × ob_MM} (h : ob_E s = some r) : ∃ n, ob_ex n s = some r := by
  unfold ob_E at h
  by_cases hh : ∃ (r : Int × ob_MM) (n : Nat), ob_ex n s = some r
  · rw [dif_pos hh] at h
    obtain ⟨k, hk⟩ := hh.choose_spec
    exact ⟨k, by rw [← h]; exact hk⟩
  · rw [dif_neg hh] at h
    cases h
theorem ob_swi_lim {v : Int} {d : ob_St} {r : Int × ob_MM} : ∀ cs : List (Int × ob_St), ob_swi ob_E v cs d = some r → ∃ n, ob_swi (ob_ex n) v cs d = some r
  | [], hx => ob_E_to hx
  | q :: cs, hx => by
    unfold ob_swi at hx
    by_cases c : v = q.1
    · rw [if_pos c] at hx
      obtain ⟨n, hn⟩ := ob_E_to hx
      exact ⟨n, by unfold ob_swi; rw [if_pos c]; exact hn⟩
    · rw [if_neg c] at hx
      obtain ⟨n, hn⟩ := ob_swi_lim cs hx
      exact ⟨n, by unfold ob_swi; rw [if_neg c]; exact hn⟩
theorem ob_int_lim (a : ob_Ac) (r : Int × ob_MM) (hx : ob_int ob_E ob_E a = some r) : ∃ n, ob_int (ob_ex n) (ob_ex n) a = some r := by
  match a, hx with
  | .inl r', hx => exact ⟨0, hx⟩
  | .inr (.inl s), hx => exact ob_E_to hx
  | .inr (.inr (.inl (⟨c, i⟩, s1, s2))), hx =>
    have hx : @ite _ c i (ob_E s1) (ob_E s2) = some r := hx
    by_cases q : c
    · rw [if_pos q] at hx
      obtain ⟨n, hn⟩ := ob_E_to hx
      exact ⟨n, by show @ite _ c i (ob_ex n s1) (ob_ex n s2) = some r; rw [if_pos q]; exact hn⟩
    · rw [if_neg q] at hx
      obtain ⟨n, hn⟩ := ob_E_to hx
      exact ⟨n, by show @ite _ c i (ob_ex n s1) (ob_ex n s2) = some r; rw [if_neg q]; exact hn⟩
  | .inr (.inr (.inr (.inl (⟨c, i⟩, s)))), hx =>
    have hx : @ite _ c i (ob_E s) none = some r := hx
    by_cases q : c
    · rw [if_pos q] at hx
      obtain ⟨n, hn⟩ := ob_E_to hx
      exact ⟨n, by show @ite _ c i (ob_ex n s) none = some r; rw [if_pos q]; exact hn⟩
    · rw [if_neg q] at hx
      cases hx
  | .inr (.inr (.inr (.inr (.inl (s, k))))), hx =>
    have hx : (ob_E s).bind (fun r => ob_E (k r.1 r.2)) = some r := hx
    obtain ⟨q, h1, h2⟩ := Option.bind_eq_some_iff.mp hx
    obtain ⟨n1, hn1⟩ := ob_E_to h1
    obtain ⟨n2, hn2⟩ := ob_E_to h2
    exact ⟨max n1 n2, Option.bind_eq_some_iff.mpr ⟨q, ob_ex_le (Nat.le_max_left _ _) hn1, ob_ex_le (Nat.le_max_right _ _) hn2⟩⟩
  | .inr (.inr (.inr (.inr (.inr (v, cs, d))))), hx => exact ob_swi_lim cs hx
theorem ob_opt {α : Type} {a b : Option α} (h1 : ∀ r, a = some r → b = some r) (h2 : ∀ r, b = some r → a = some r) : a = b := by
  cases a with
  | some x => exact (h1 x rfl).symm
  | none => cases b with
    | some y => exact h2 y rfl
    | none => rfl
theorem ob_E_fix (s : ob_St) : ob_E s = ob_int ob_E ob_E (ob_act s) := by
  apply ob_opt
  · intro r h
    obtain ⟨n, hn⟩ := ob_E_to h
    cases n with
    | zero => cases hn
    | succ n => exact ob_int_mono (fun _ _ => ob_E_of) (fun _ _ => ob_E_of) _ _ hn
  · intro r h
    obtain ⟨n, hn⟩ := ob_int_lim _ _ h
    exact ob_E_of (n := n + 1) hn
theorem ob_E_rs (cs : List Nat) : ∀ (n : Nat) (s : ob_St), ob_E s = ob_rs cs ob_E n s
  | 0, _ => rfl
  | n + 1, s => by
    have h : (fun s' : ob_St => match s' with
      | (f, pc, r) => cond (ob_mem pc cs) (ob_E (f, pc, r)) (ob_rs cs ob_E n (f, pc, r))) = ob_E := by
      funext s'
      obtain ⟨f, pc, r⟩ := s'
      show cond (ob_mem pc cs) (ob_E (f, pc, r)) (ob_rs cs ob_E n (f, pc, r)) = ob_E (f, pc, r)
      cases ob_mem pc cs with
      | true => rfl
      | false => exact (ob_E_rs cs n (f, pc, r)).symm
    show _ = ob_int ob_E (fun s' : ob_St => match s' with
      | (f, pc, r) => cond (ob_mem pc cs) (ob_E (f, pc, r)) (ob_rs cs ob_E n (f, pc, r))) (ob_act s)
    rw [h]
    exact ob_E_fix s
