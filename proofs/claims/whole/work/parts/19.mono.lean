-- THE CHECKS PUT TOGETHER; WHAT AN INSTRUCTION DOES TO THE COUNTS; ONE STEP
theorem ob_ckR_e {f : Nat} : ∀ (r : List (Option ob_Ent)) (pc k : Nat) (e : ob_Ent), ob_ckR f pc r = true → ob_nth r k none = some e → ob_ok f (pc + k) e = true
  | [], _, _, _, _, h => by cases h
  | none :: _, _, 0, _, _, h => by cases h
  | some x :: _, pc, 0, e, hc, h => by
    cases h
    have hc : (ob_ok f pc x && ob_ckR f (pc + 1) _) = true := hc
    rw [Bool.and_eq_true] at hc
    exact hc.1
  | none :: l, pc, k + 1, e, hc, h => by
    have q := ob_ckR_e l (pc + 1) k e hc h
    rw [show pc + 1 + k = pc + (k + 1) by omega] at q
    exact q
  | some x :: l, pc, k + 1, e, hc, h => by
    have hc : (ob_ok f pc x && ob_ckR f (pc + 1) l) = true := hc
    rw [Bool.and_eq_true] at hc
    have q := ob_ckR_e l (pc + 1) k e hc.2 h
    rw [show pc + 1 + k = pc + (k + 1) by omega] at q
    exact q
theorem ob_ckC_e {f : Nat} : ∀ (c : List (List (Option ob_Ent))) (pc a : Nat), ob_ckC f pc c = true → ob_ckR f (pc + 16 * a) (ob_nth c a []) = true
  | [], _, _, _ => rfl
  | r :: l, pc, 0, h => by
    have h : ((Nat.beq r.length 16 || l.isEmpty) && ob_ckR f pc r && ob_ckC f (pc + 16) l) = true := h
    rw [Bool.and_eq_true, Bool.and_eq_true] at h
    exact h.1.2
  | r :: l, pc, a + 1, h => by
    have h : ((Nat.beq r.length 16 || l.isEmpty) && ob_ckR f pc r && ob_ckC f (pc + 16) l) = true := h
    rw [Bool.and_eq_true, Bool.and_eq_true] at h
    have q := ob_ckC_e l (pc + 16) a h.2
    rw [show pc + 16 + 16 * a = pc + 16 * (a + 1) by omega] at q
    exact q
theorem ob_ckAll {f : Nat} (h : f < 240) (h2 : f ≠ 238) : ob_ckF f = true := by
  by_cases c0 : f < 16
  · exact List.all_eq_true.mp ob_ck0 f (List.mem_range'_1.mpr ⟨by omega, by omega⟩)
  by_cases c1 : f < 32
  · exact List.all_eq_true.mp ob_ck1 f (List.mem_range'_1.mpr ⟨by omega, by omega⟩)
  by_cases c2 : f < 48
  · exact List.all_eq_true.mp ob_ck2 f (List.mem_range'_1.mpr ⟨by omega, by omega⟩)
  by_cases c3 : f < 64
  · exact List.all_eq_true.mp ob_ck3 f (List.mem_range'_1.mpr ⟨by omega, by omega⟩)
  by_cases c4 : f < 80
  · exact List.all_eq_true.mp ob_ck4 f (List.mem_range'_1.mpr ⟨by omega, by omega⟩)
  by_cases c5 : f < 96
  · exact List.all_eq_true.mp ob_ck5 f (List.mem_range'_1.mpr ⟨by omega, by omega⟩)
  by_cases c6 : f < 112
  · exact List.all_eq_true.mp ob_ck6 f (List.mem_range'_1.mpr ⟨by omega, by omega⟩)
  by_cases c7 : f < 128
  · exact List.all_eq_true.mp ob_ck7 f (List.mem_range'_1.mpr ⟨by omega, by omega⟩)
  by_cases c8 : f < 144
  · exact List.all_eq_true.mp ob_ck8 f (List.mem_range'_1.mpr ⟨by omega, by omega⟩)
  by_cases c9 : f < 160
  · exact List.all_eq_true.mp ob_ck9 f (List.mem_range'_1.mpr ⟨by omega, by omega⟩)
  by_cases c10 : f < 176
  · exact List.all_eq_true.mp ob_ck10 f (List.mem_range'_1.mpr ⟨by omega, by omega⟩)
  by_cases c11 : f < 192
  · exact List.all_eq_true.mp ob_ck11 f (List.mem_range'_1.mpr ⟨by omega, by omega⟩)
  by_cases c12 : f < 208
  · exact List.all_eq_true.mp ob_ck12 f (List.mem_range'_1.mpr ⟨by omega, by omega⟩)
  by_cases c13 : f < 224
  · exact List.all_eq_true.mp ob_ck13 f (List.mem_range'_1.mpr ⟨by omega, by omega⟩)
  by_cases c14 : f < 238
  · exact List.all_eq_true.mp ob_ck14 f (List.mem_range'_1.mpr ⟨by omega, by omega⟩)
  obtain rfl : f = 239 := by omega
  exact ob_ck15
theorem ob_clAll {a : Nat} : ob_ckR 238 (16 * a) (ob_nth ob_c_L_law a []) = true := by
  by_cases c0 : a < 8
  · exact List.all_eq_true.mp ob_cl0 a (List.mem_range'_1.mpr ⟨by omega, by omega⟩)
  by_cases c1 : a < 16
  · exact List.all_eq_true.mp ob_cl1 a (List.mem_range'_1.mpr ⟨by omega, by omega⟩)
  by_cases c2 : a < 24
  · exact List.all_eq_true.mp ob_cl2 a (List.mem_range'_1.mpr ⟨by omega, by omega⟩)
  by_cases c3 : a < 32
  · exact List.all_eq_true.mp ob_cl3 a (List.mem_range'_1.mpr ⟨by omega, by omega⟩)
  by_cases c4 : a < 40
  · exact List.all_eq_true.mp ob_cl4 a (List.mem_range'_1.mpr ⟨by omega, by omega⟩)
  by_cases c5 : a < 48
  · exact List.all_eq_true.mp ob_cl5 a (List.mem_range'_1.mpr ⟨by omega, by omega⟩)
  by_cases c6 : a < 56
  · exact List.all_eq_true.mp ob_cl6 a (List.mem_range'_1.mpr ⟨by omega, by omega⟩)
  by_cases c7 : a < 63
  · exact List.all_eq_true.mp ob_cl7 a (List.mem_range'_1.mpr ⟨by omega, by omega⟩)
  have hl : ob_c_L_law.length = 63 := by decide +kernel
  rw [ob_nth_ge _ _ _ (by rw [hl]; omega)]
  rfl
theorem ob_allok {f pc : Nat} {x : ob_Ent} (h : ob_code f pc = some x) : ob_ok f pc x = true ∧ f < 240 := by
  have hf : f < 240 := by
    refine Nat.not_le.mp fun q => ?_
    have hl : ob_codes.length = 15 := by decide +kernel
    unfold ob_code at h
    rw [ob_nth_ge _ ob_codes (f / 16) (by rw [hl]; omega)] at h
    cases h
  refine ⟨?_, hf⟩
  unfold ob_code at h
  have e : 16 * (pc / 16) + pc % 16 = pc := by omega
  by_cases q : f = 238
  · subst q
    have z := ob_ckR_e _ (16 * (pc / 16)) (pc % 16) x (ob_clAll (a := pc / 16)) h
    rw [e] at z
    exact z
  · have z := ob_ckC_e _ 0 (pc / 16) (ob_ckAll hf q)
    rw [Nat.zero_add] at z
    have z := ob_ckR_e _ _ (pc % 16) x z h
    rw [e] at z
    exact z
def ob_mle (a b : ob_MM) : Prop := ob_nA a ≤ ob_nA b ∧ ob_nS a ≤ ob_nS b
theorem ob_mle_r (a : ob_MM) : ob_mle a a := ⟨Nat.le_refl _, Nat.le_refl _⟩
theorem ob_mle_t {a b c : ob_MM} (h : ob_mle a b) (h2 : ob_mle b c) : ob_mle a c := ⟨Nat.le_trans h.1 h2.1, Nat.le_trans h.2 h2.2⟩
theorem ob_mle_s (m m' : ob_Mem) (c : Option ob_CI) : ob_mle (m, c) (m', c) := ⟨Nat.le_refl _, Nat.le_refl _⟩
theorem ob_mle_a (m m' : ob_Mem) (c : Option ob_CI) (k : Nat) (i s : Int) : ob_mle (m, c) (m', ob_add c k i s) := ⟨Nat.le_of_eq (ob_add_nA m m' c k i s).1.symm, Nat.le_of_eq (ob_add_nA m m' c k i s).2.symm⟩
def ob_mo (mm : ob_MM) (a : ob_Ac) : Prop := match a with
  | .inl none => True
  | .inl (some r) => ob_mle mm r.2
  | .inr (.inl S) => ob_mle mm S.2.2.2.2
  | .inr (.inr (.inl q)) => ob_mle mm q.2.1.2.2.2.2 ∧ ob_mle mm q.2.2.2.2.2.2
  | .inr (.inr (.inr (.inl q))) => ob_mle mm q.2.2.2.2.2
  | .inr (.inr (.inr (.inr (.inl q)))) => ob_mle mm q.1.2.2.2.2 ∧ ∀ v mm', ob_mle mm' (q.2 v mm').2.2.2.2
  | .inr (.inr (.inr (.inr (.inr q)))) => (∀ x ∈ q.2.1, ob_mle mm x.2.2.2.2.2) ∧ ob_mle mm q.2.2.2.2.2.2
section ob_Mo
variable {mm : ob_MM} {st ls : List ob_AV}
theorem ob_mo_i1 {K : Int → List ob_AV → ob_Ac} (h : ∀ a r, ob_mo mm (K a r)) : ob_mo mm (ob_i1 st K) := by
  unfold ob_i1
  split
  · exact h _ _
  · trivial
theorem ob_mo_l1 {K : Int → List ob_AV → ob_Ac} (h : ∀ a r, ob_mo mm (K a r)) : ob_mo mm (ob_l1 st K) := by
  unfold ob_l1
  split
  · exact h _ _
  · trivial
theorem ob_mo_r1 {K : Nat → Int → List ob_AV → ob_Ac} (h : ∀ t a r, ob_mo mm (K t a r)) : ob_mo mm (ob_r1 st K) := by
  unfold ob_r1
  split
  · exact h _ _ _
  · trivial
theorem ob_mo_v1 {K : ob_AV → List ob_AV → ob_Ac} (h : ∀ a r, ob_mo mm (K a r)) : ob_mo mm (ob_v1 st K) := by
  unfold ob_v1
  split
  · trivial
  · cases Nat.beq _ 2
    · exact h _ _
    · trivial
theorem ob_mo_ldi {k : Nat} {K : Int → ob_Ac} (h : ∀ a, ob_mo mm (K a)) : ob_mo mm (ob_ldi ls k K) := by
  unfold ob_ldi
  split
  · exact h _
  · trivial
theorem ob_mo_ldl {k : Nat} {K : Int → ob_Ac} (h : ∀ a, ob_mo mm (K a)) : ob_mo mm (ob_ldl ls k K) := by
  unfold ob_ldl
  split
  · exact h _
  · trivial
theorem ob_mo_ldr {k : Nat} {K : Nat → Int → ob_Ac} (h : ∀ t a, ob_mo mm (K t a)) : ob_mo mm (ob_ldr ls k K) := by
  unfold ob_ldr
  split
  · exact h _ _
  · trivial
theorem ob_mo_sto {k : Nat} {v : ob_AV} {K : List ob_AV → ob_Ac} (h : ∀ a, ob_mo mm (K a)) : ob_mo mm (ob_sto ls k v K) := by
  unfold ob_sto
  split
  · exact h _
  · split
    cases Nat.beq _ 2
    · exact h _
    · trivial
theorem ob_mo_cond {b : Bool} {a a' : ob_Ac} (h : ob_mo mm a) (h' : ob_mo mm a') : ob_mo mm (cond b a a') := by
  cases b
  · exact h'
  · exact h
theorem ob_mo_cnd {cd : ClassFile.Cond} {a b : Int} {S S' : ob_St} (h : ob_mle mm S.2.2.2.2) (h' : ob_mle mm S'.2.2.2.2) : ob_mo mm (ob_cnd cd a b S S') := by
  cases cd <;> first | exact ⟨h, h'⟩ | exact ⟨h', h⟩
theorem ob_mo_seal {K : ob_MM → ob_Ac} (h : ∀ mm', ob_mle mm mm' → ob_mo mm (K mm')) : ob_mo mm (ob_seal mm K) := by
  unfold ob_seal
  split
  · trivial
  · rename_i C e
    cases q : ob_full C with
    | false => trivial
    | true =>
      obtain ⟨f1, f2, -⟩ := ob_full_in q
      refine h _ ⟨?_, ?_⟩
      · unfold ob_nA
        rw [e]
        exact Nat.le_of_eq f1
      · unfold ob_nS
        rw [e]
        exact Nat.le_of_eq f2
theorem ob_mo_stat {c : Option ob_CI} {K : Unit → ob_Ac} (h : ob_mo mm (K ())) : ob_mo mm (ob_stat c K) := by
  unfold ob_stat
  split
  · trivial
  · exact h
theorem ob_mo_new {k f nx n : Nat} : ob_mo mm (ob_new k f nx ls st n mm) := by
  obtain ⟨m0, cc⟩ := mm
  cases cc with
  | none => trivial
  | some C =>
    refine ob_mo_cond ?_ trivial
    exact ⟨Nat.le_succ _, Nat.le_add_right _ _⟩
theorem ob_mo_inv {vt : Bool} {aux : List Nat} {f nx : Nat} : ob_mo mm (ob_inv vt aux f nx ls st mm) := by
  unfold ob_inv
  split
  · trivial
  · exact ob_mo_cond ⟨ob_mle_r _, fun v mm' => ob_mle_r _⟩ trivial
set_option maxRecDepth 100000 in
set_option maxHeartbeats 4000000 in
theorem ob_mo_ins {nx f : Nat} {aux : List Nat} {z : Int} (ins : Instr) : ob_mo mm (ob_ins ins nx aux z f ls st mm) := by
  cases ins
  case aaload =>
    exact ob_mo_i1 fun _ _ => ob_mo_r1 fun _ _ _ => ob_mo_cond (ob_mle_r _) trivial
  case aastore =>
    exact ob_mo_r1 fun _ _ _ => ob_mo_i1 fun _ _ => ob_mo_r1 fun _ _ _ => ob_mo_cond (by
        split
        · exact ob_mle_a _ _ _ _ _ _
        · exact ob_mo_stat (ob_mle_a _ _ _ _ _ _)) trivial
  case aconst_null => trivial
  case aload =>
    exact ob_mo_ldr fun _ _ => ob_mle_r _
  case aload_n =>
    exact ob_mo_ldr fun _ _ => ob_mle_r _
  case anewarray =>
    exact ob_mo_i1 fun _ _ => ob_mo_cond ob_mo_new trivial
  case areturn => trivial
  case arraylength =>
    exact ob_mo_r1 fun _ _ _ => ob_mo_cond (ob_mle_r _) trivial
  case astore =>
    exact ob_mo_r1 fun _ _ _ => ob_mo_sto fun _ => ob_mle_r _
  case astore_n =>
    exact ob_mo_r1 fun _ _ _ => ob_mo_sto fun _ => ob_mle_r _
  case athrow => trivial
  case baload =>
    exact ob_mo_i1 fun _ _ => ob_mo_r1 fun _ _ _ => ob_mo_cond (ob_mle_r _) trivial
  case bastore =>
    exact ob_mo_i1 fun _ _ => ob_mo_i1 fun _ _ => ob_mo_r1 fun _ _ _ => by
        split
        · exact ob_mle_s _ _ _
        · exact ob_mle_s _ _ _
        · trivial
  case bipush =>
    exact ob_mle_r _
  case caload => trivial
  case castore => trivial
  case checkcast => trivial
  case d2f => trivial
  case d2i => trivial
  case d2l => trivial
  case dadd => trivial
  case daload => trivial
  case dastore => trivial
  case dcmp => trivial
  case dconst => trivial
  case ddiv => trivial
  case dload => trivial
  case dload_n => trivial
  case dmul => trivial
  case dneg => trivial
  case drem => trivial
  case dreturn => trivial
  case dstore => trivial
  case dstore_n => trivial
  case dsub => trivial
  case dup =>
    exact ob_mo_v1 (K := fun v st => ob_go (f, nx, ls, v :: v :: st, mm)) fun _ _ => ob_mle_r _
  case dup_x1 => trivial
  case dup_x2 => trivial
  case dup2 =>
    exact ob_mo_v1 (K := fun v st => ob_v1 st (fun w st => ob_go (f, nx, ls, v :: w :: v :: w :: st, mm))) fun v st => ob_mo_v1 (K := fun w st => ob_go (f, nx, ls, v :: w :: v :: w :: st, mm)) fun _ _ => ob_mle_r _
  case dup2_x1 => trivial
  case dup2_x2 => trivial
  case f2d => trivial
  case f2i => trivial
  case f2l => trivial
  case fadd => trivial
  case faload => trivial
  case fastore => trivial
  case fcmp => trivial
  case fconst => trivial
  case fdiv => trivial
  case fload => trivial
  case fload_n => trivial
  case fmul => trivial
  case fneg => trivial
  case frem => trivial
  case freturn => trivial
  case fstore => trivial
  case fstore_n => trivial
  case fsub => trivial
  case getfield =>
    exact ob_mo_r1 fun _ _ _ => ob_mo_cond (by
        split
        · exact ob_mle_r _
        · exact ob_mo_cond (ob_mle_r _) trivial) trivial
  case getstatic => trivial
  case goto =>
    exact ob_mle_r _
  case goto_w => trivial
  case i2b =>
    exact ob_mo_i1 fun _ _ => ob_mle_r _
  case i2c => trivial
  case i2d => trivial
  case i2f => trivial
  case i2l =>
    exact ob_mo_i1 fun _ _ => ob_mle_r _
  case i2s => trivial
  case iadd =>
    exact ob_mo_i1 fun _ _ => ob_mo_i1 fun _ _ => ob_mle_r _
  case iaload =>
    exact ob_mo_i1 fun _ _ => ob_mo_r1 fun _ _ _ => ob_mo_cond (ob_mle_r _) trivial
  case iand =>
    exact ob_mo_i1 fun _ _ => ob_mo_i1 fun _ _ => ob_mle_r _
  case iastore =>
    exact ob_mo_i1 fun _ _ => ob_mo_i1 fun _ _ => ob_mo_r1 fun _ _ _ => ob_mo_cond (ob_mle_s _ _ _) trivial
  case iconst =>
    exact ob_mle_r _
  case idiv =>
    exact ob_mo_i1 fun _ _ => ob_mo_i1 fun _ _ => ob_mle_r _
  case if_acmp => trivial
  case if_icmp =>
    exact ob_mo_i1 fun _ _ => ob_mo_i1 fun _ _ => ob_mo_cnd (ob_mle_r _) (ob_mle_r _)
  case ifCond =>
    exact ob_mo_i1 fun _ _ => ob_mo_cnd (ob_mle_r _) (ob_mle_r _)
  case ifnonnull => trivial
  case ifnull => trivial
  case iinc =>
    exact ob_mo_ldi fun _ => ob_mle_r _
  case iload =>
    exact ob_mo_ldi fun _ => ob_mle_r _
  case iload_n =>
    exact ob_mo_ldi fun _ => ob_mle_r _
  case imul =>
    exact ob_mo_i1 fun _ _ => ob_mo_i1 fun _ _ => ob_mle_r _
  case ineg => trivial
  case instanceof => trivial
  case invokedynamic => trivial
  case invokeinterface => trivial
  case invokespecial idx =>
    show ob_mo mm (match aux with
      | [0] => ob_r1 st _
      | _ => ob_inv true aux f nx ls st mm)
    split
    · exact ob_mo_r1 fun _ _ _ => ob_mo_cond (ob_mle_r _) trivial
    · exact ob_mo_inv
  case invokestatic idx =>
    show ob_mo mm (match aux with
      | [1] => ob_i1 st _
      | [2] => ob_i1 st _
      | [3] => ob_i1 st _
      | [4] => ob_i1 st _
      | _ => ob_inv false aux f nx ls st mm)
    split
    · exact ob_mo_i1 fun _ _ => ob_mo_i1 fun _ _ => ob_mo_r1 fun _ _ _ => ob_mo_i1 fun _ _ => ob_mo_r1 fun _ _ _ => ob_mo_cond (ob_mle_s _ _ _) trivial
    · exact ob_mo_i1 fun _ _ => ob_mo_i1 fun _ _ => ob_mo_cond (ob_mle_r _) trivial
    · exact ob_mo_i1 fun _ _ => ob_mo_i1 fun _ _ => ob_mo_cond (ob_mle_r _) trivial
    · exact ob_mo_i1 fun _ _ => ob_mo_cond (ob_mle_r _) trivial
    · exact ob_mo_inv
  case invokevirtual =>
    exact ob_mo_inv
  case ior =>
    exact ob_mo_i1 fun _ _ => ob_mo_i1 fun _ _ => ob_mle_r _
  case irem =>
    exact ob_mo_i1 fun _ _ => ob_mo_i1 fun _ _ => ob_mle_r _
  case ireturn =>
    show ob_mo mm (match st with
      | [(1, a)] => match ob_nth aux 0 0 with
        | 0 => ob_stop (some (a, mm))
        | _ => ob_stop (if a = 0 ∨ a = 1 then some (a, mm) else none)
      | _ => ob_stop none)
    split
    · split
      · exact ob_mle_r _
      · rename_i a _ _
        by_cases q : a = 0 ∨ a = 1
        · rw [if_pos q]
          exact ob_mle_r _
        · rw [if_neg q]
          trivial
    · trivial
  case ishl =>
    exact ob_mo_i1 fun _ _ => ob_mo_i1 fun _ _ => ob_mle_r _
  case ishr =>
    exact ob_mo_i1 fun _ _ => ob_mo_i1 fun _ _ => ob_mle_r _
  case istore =>
    exact ob_mo_i1 fun _ _ => ob_mo_sto fun _ => ob_mle_r _
  case istore_n =>
    exact ob_mo_i1 fun _ _ => ob_mo_sto fun _ => by cases aux with
        | nil => exact ob_mle_r _
        | cons _ _ => exact ob_mo_seal fun _ h => h
  case isub =>
    exact ob_mo_i1 fun _ _ => ob_mo_i1 fun _ _ => ob_mle_r _
  case iushr => trivial
  case ixor => trivial
  case jsr => trivial
  case jsr_w => trivial
  case l2d => trivial
  case l2f => trivial
  case l2i => trivial
  case ladd =>
    exact ob_mo_l1 fun _ _ => ob_mo_l1 fun _ _ => ob_mle_r _
  case laload => trivial
  case land => trivial
  case lastore => trivial
  case lcmp =>
    exact ob_mo_l1 fun _ _ => ob_mo_l1 fun _ _ => ob_mle_r _
  case lconst =>
    exact ob_mle_r _
  case ldc =>
    exact ob_mle_r _
  case ldc_w => trivial
  case ldc2_w =>
    exact ob_mle_r _
  case ldiv => trivial
  case lload =>
    exact ob_mo_ldl fun _ => ob_mle_r _
  case lload_n =>
    exact ob_mo_ldl fun _ => ob_mle_r _
  case lmul =>
    exact ob_mo_l1 fun _ _ => ob_mo_l1 fun _ _ => ob_mle_r _
  case lneg => trivial
  case lookupswitch =>
    exact ob_mo_i1 fun _ _ => ⟨fun x hx => by
        obtain ⟨q, -, hq⟩ := List.mem_map.mp hx
        rw [← hq]
        exact ob_mle_r _, ob_mle_r _⟩
  case lor => trivial
  case lrem => trivial
  case lreturn =>
    show ob_mo mm (match st with
      | [(2, a)] => ob_stop (some (a, mm))
      | _ => ob_stop none)
    split
    · exact ob_mle_r _
    · trivial
  case lshl => trivial
  case lshr => trivial
  case lstore =>
    exact ob_mo_l1 fun _ _ => ob_mo_sto fun _ => ob_mle_r _
  case lstore_n =>
    exact ob_mo_l1 fun _ _ => ob_mo_sto fun _ => ob_mle_r _
  case lsub => trivial
  case lushr => trivial
  case lxor => trivial
  case monitorenter => trivial
  case monitorexit => trivial
  case multianewarray => trivial
  case new =>
    exact ob_mo_new
  case newarray =>
    exact ob_mo_i1 fun _ _ => ob_mo_cond ob_mo_new trivial
  case nop => trivial
  case pop =>
    exact ob_mo_v1 (K := fun _ st => ob_go (f, nx, ls, st, mm)) fun _ _ => ob_mle_r _
  case pop2 => trivial
  case putfield =>
    show ob_mo mm (match ob_nth aux 2 0 with
      | 0 => ob_i1 st _
      | tk + 1 => ob_r1 st _)
    split
    · exact ob_mo_i1 fun _ _ => ob_mo_r1 fun _ _ _ => ob_mo_cond (by
        split
        · exact ob_mle_s _ _ _
        · exact ob_mle_s _ _ _) trivial
    · exact ob_mo_r1 fun _ _ _ => ob_mo_r1 fun _ _ _ => ob_mo_cond (by
        split
        · exact ob_mle_a _ _ _ _ _ _
        · exact ob_mo_stat (ob_mle_a _ _ _ _ _ _)) trivial
  case putstatic => trivial
  case ret => trivial
  case return_ =>
    show ob_mo mm (match st with
      | [] => ob_stop (some (0, mm))
      | _ => ob_stop none)
    split
    · exact ob_mle_r _
    · trivial
  case saload => trivial
  case sastore => trivial
  case sipush =>
    exact ob_mle_r _
  case swap => trivial
  case tableswitch =>
    exact ob_mo_i1 fun _ _ => ⟨fun x hx => by
        obtain ⟨q, -, hq⟩ := List.mem_map.mp hx
        rw [← hq]
        exact ob_mle_r _, ob_mle_r _⟩
end ob_Mo
theorem ob_swi_mo {X : ob_St → ob_Res} (hX : ∀ S r, X S = some r → ob_mle S.2.2.2.2 r.2) {mm : ob_MM} {v : Int} {d : ob_St} {r : Int × ob_MM} : ∀ cs : List (Int × ob_St), ob_swi X v cs d = some r → (∀ x ∈ cs, ob_mle mm x.2.2.2.2.2) → ob_mle mm d.2.2.2.2 → ob_mle mm r.2
  | [], h, _, h2 => ob_mle_t h2 (hX _ _ h)
  | q :: cs, h, h1, h2 => by
    unfold ob_swi at h
    by_cases c : v = q.1
    · rw [if_pos c] at h
      exact ob_mle_t (h1 q List.mem_cons_self) (hX _ _ h)
    · rw [if_neg c] at h
      exact ob_swi_mo hX cs h (fun x hx => h1 x (List.mem_cons_of_mem _ hx)) h2
theorem ob_int_mo {X : ob_St → ob_Res} (hX : ∀ S r, X S = some r → ob_mle S.2.2.2.2 r.2) {mm : ob_MM} (a : ob_Ac) {r : Int × ob_MM} (h : ob_int X X a = some r) (hm : ob_mo mm a) : ob_mle mm r.2 := by
  match a, h, hm with
  | .inl none, h, _ => cases h
  | .inl (some q), h, hm =>
    cases h
    exact hm
  | .inr (.inl S), h, hm => exact ob_mle_t hm (hX _ _ h)
  | .inr (.inr (.inl (⟨d, i⟩, S1, S2))), h, hm =>
    have h : @ite _ d i (X S1) (X S2) = some r := h
    by_cases q : d
    · rw [if_pos q] at h
      exact ob_mle_t hm.1 (hX _ _ h)
    · rw [if_neg q] at h
      exact ob_mle_t hm.2 (hX _ _ h)
  | .inr (.inr (.inr (.inl (⟨d, i⟩, S)))), h, hm =>
    have h : @ite _ d i (X S) none = some r := h
    by_cases q : d
    · rw [if_pos q] at h
      exact ob_mle_t hm (hX _ _ h)
    · rw [if_neg q] at h
      cases h
  | .inr (.inr (.inr (.inr (.inl (S, k))))), h, hm =>
    obtain ⟨q, h1, h2⟩ := Option.bind_eq_some_iff.mp h
    exact ob_mle_t hm.1 (ob_mle_t (hX _ _ h1) (ob_mle_t (hm.2 q.1 q.2) (hX _ _ h2)))
  | .inr (.inr (.inr (.inr (.inr (v, cs, d))))), h, hm => exact ob_swi_mo hX cs h hm.1 hm.2
theorem ob_mono : ∀ (n : Nat) (S : ob_St) (r : Int × ob_MM), ob_ex n S = some r → ob_mle S.2.2.2.2 r.2
  | 0, _, _, h => by cases h
  | n + 1, (f, pc, ls, st, mm), r, h => by
    refine ob_int_mo (ob_mono n) (ob_act (f, pc, ls, st, mm)) h ?_
    show ob_mo mm (match ob_code f pc with
      | none => ob_stop none
      | some (ins, nx, aux, z) => ob_ins ins nx aux z f ls st mm)
    split
    · trivial
    · exact ob_mo_ins _
