-- CONSTANTS, ALLOCATION, REFERENCES IN ARRAYS, LIBRARY CALLS
set_option maxRecDepth 100000 in
theorem ob_ac_i : Cond.arrayClass .int ∈ ob_gt := ob_w_in (i := 183) rfl rfl
set_option maxRecDepth 100000 in
theorem ob_ac_z : Cond.arrayClass .boolean ∈ ob_gt := ob_w_in (i := 298) rfl rfl
set_option maxRecDepth 100000 in
theorem ob_ac_b : Cond.arrayClass .byte ∈ ob_gt := ob_w_in (i := 392) rfl rfl
set_option maxRecDepth 100000 in
theorem ob_sp_a1 : Cond.native arraycopyName ∈ ob_gt := ob_w_in (i := 441) rfl rfl
set_option maxRecDepth 100000 in
theorem ob_sp_a2 : Cond.static arraycopyName ∈ ob_gt := ob_w_in (i := 440) rfl rfl
set_option maxRecDepth 100000 in
theorem ob_sp_a3 : Cond.initialized "java/lang/System" ∈ ob_gt := ob_w_in (i := 120) rfl rfl
set_option maxRecDepth 100000 in
theorem ob_sp_m0 : Cond.initialized "java/lang/Math" ∈ ob_gt := ob_w_in (i := 121) rfl rfl
set_option maxRecDepth 100000 in
theorem ob_sp_o1 : Cond.instanceMethod objectInit ∈ ob_gt := ob_w_in (i := 128) rfl rfl
set_option maxRecDepth 100000 in
theorem ob_sp_o2 : Cond.code objectInit ⟨#[0xb1]⟩ 1 none ∈ ob_gt := ob_w_in (i := 129) rfl rfl
set_option maxRecDepth 100000 in
theorem ob_sp_min1 : Cond.static Lib.Math.min.name ∈ ob_gt := ob_w_in (i := 608) rfl rfl
set_option maxRecDepth 100000 in
theorem ob_sp_min2 : Cond.code Lib.Math.min.name Lib.Math.min.code 2 (some .int) ∈ ob_gt := ob_w_in (i := 609) rfl rfl
set_option maxRecDepth 100000 in
theorem ob_sp_max1 : Cond.static Lib.Math.max.name ∈ ob_gt := ob_w_in (i := 790) rfl rfl
set_option maxRecDepth 100000 in
theorem ob_sp_max2 : Cond.code Lib.Math.max.name Lib.Math.max.code 2 (some .int) ∈ ob_gt := ob_w_in (i := 791) rfl rfl
set_option maxRecDepth 100000 in
theorem ob_sp_abs1 : Cond.static Lib.Math.abs.name ∈ ob_gt := ob_w_in (i := 628) rfl rfl
set_option maxRecDepth 100000 in
theorem ob_sp_abs2 : Cond.code Lib.Math.abs.name Lib.Math.abs.code 1 (some .int) ∈ ob_gt := ob_w_in (i := 629) rfl rfl
theorem ob_in4s {L : List (Nat × Nat × Nat × Nat)} {a i g : Nat} (h : ob_in4 L a i g = true) : ∃ p, (a, i, g, p) ∈ L := by
  obtain ⟨⟨a1, a2, a3, a4⟩, hq, h2⟩ := List.any_eq_true.mp h
  simp only [Bool.and_eq_true] at h2
  obtain ⟨⟨e1, e2⟩, e3⟩ := h2
  obtain rfl : a2 = i := ob_beq e1
  obtain rfl : a1 = a := ob_beq e2
  obtain rfl : a3 = g := ob_beq e3
  exact ⟨a4, hq⟩
theorem ob_spl {a i g : Nat} (h : ob_in4 ob_SP a i g = true) : Cond.methodLink (ob_cn a) i (ob_spn g) ∈ ob_gt := by
  obtain ⟨p, hp⟩ := ob_in4s h
  exact ob_w_in (ob_SPk _ hp) rfl
theorem ob_ckl {a i g : Nat} (h : ob_in4 ob_CK a i g = true) : Cond.classLink (ob_cn a) i (ob_cn g) ∈ ob_gt := by
  obtain ⟨p, hp⟩ := ob_in4s h
  exact ob_w_in (ob_CKk _ hp) rfl
theorem ob_isl {t : Nat} (h : t < 9) : Cond.instantiable (ob_cn t) (ob_nth ob_ft t []).length ∈ ob_gt := by
  obtain ⟨⟨a1, a2, a3⟩, hq, h2⟩ := List.any_eq_true.mp (ob_ISa t h)
  obtain rfl : a1 = t := ob_beq h2
  have q := ob_ISk _ hq
  have q2 : a2 = (ob_nth ob_ft a1 []).length := q.2
  rw [← q2]
  exact ob_w_in q.1 rfl
theorem ob_inl {t : Nat} (h : t < 11) : Cond.initialized (ob_cn t) ∈ ob_gt := by
  obtain ⟨⟨a1, a2⟩, hq, h2⟩ := List.any_eq_true.mp (ob_INa t h)
  obtain rfl : a1 = t := ob_beq h2
  exact ob_w_in (ob_INk _ hq) rfl
theorem ob_col {a i v t : Nat} (h : ob_inCO a i v t = true) : cond (Nat.beq t 0) (Cond.constant (ob_cn a) i (Int32.ofInt (Int.ofNat v))) (Cond.constantLong (ob_cn a) i (Int64.ofInt (Int.ofNat v))) ∈ ob_gt := by
  obtain ⟨⟨a1, a2, a3, a4, a5⟩, hq, h2⟩ := List.any_eq_true.mp h
  simp only [Bool.and_eq_true] at h2
  obtain ⟨⟨⟨e1, e2⟩, e3⟩, e4⟩ := h2
  obtain rfl : a2 = i := ob_beq e1
  obtain rfl : a1 = a := ob_beq e2
  obtain rfl : a3 = v := ob_beq e3
  obtain rfl : a5 = t := ob_beq e4
  refine ob_w_in (ob_COk _ hq) ?_
  show goodWord (cond (Nat.beq a5 0) _ _) = true
  cases Nat.beq a5 0 <;> rfl
theorem ob_new_x {k n f nx : Nat} {ls st : List ob_AV} {mm : ob_MM} {S : ob_St} (h : ob_nx (ob_new k f nx ls st n mm) S) : ∃ (m0 : ob_Mem) (C : ob_CI) (i : Int), mm = (m0, some C) ∧ ob_nth ob_lay C.1 (99, 0) = (k, i) ∧ S = (f, nx, ls, (k + 3, i) :: st, (m0, some (C.1 + 1, C.2.1 + n, C.2.2))) := by
  obtain ⟨m0, cc⟩ := mm
  unfold ob_new at h
  cases cc with
  | none => exact (ob_stop_x h).elim
  | some C =>
    obtain ⟨h1, h2⟩ := ob_cond_x h
    refine ⟨m0, C, (ob_nth ob_lay C.1 (99, 0)).2, rfl, ?_, ob_go_x h2⟩
    rw [← ob_beq h1]
theorem ob_new_o {a k : Nat} {i : Int} (h : ob_nth ob_lay a (99, 0) = (k, i)) (hk : k < 99) : a < ob_layN ∧ ob_off k i = a := by
  have ha : a < ob_layN := by
    rw [← ob_lay_len]
    refine Nat.not_le.mp fun q => ?_
    rw [ob_nth_ge _ _ _ q] at h
    cases h
    exact absurd hk (by decide)
  have q := ob_off_nth ha
  rw [h] at q
  exact ⟨ha, q⟩
theorem ob_Iv_new {w : ob_Wd} {s : State} {c0 s0 nL k n : Nat} {ls st st' : List ob_AV} {m0 : ob_Mem} {C : ob_CI} {i : Int} {LS : Array Slot} {H H' : Heap} {locs : List Loc} (h : ob_Iv w s c0 s0 nL ls st (m0, some C) LS H locs) (hk : k ≠ 15) (ho : ob_off k i = C.1) (hR : ob_Rep w (m0, some (C.1 + 1, C.2.1 + n, C.2.2)) H') (hs : ∀ v ∈ st', ob_okv C.1 v) (hH : ∀ q : Nat, q < H.size → H'[q]? = H[q]?) : ob_Iv w s c0 s0 nL ls ((k + 3, i) :: st') (m0, some (C.1 + 1, C.2.1 + n, C.2.2)) LS H' locs := by
  obtain ⟨h1, ⟨a1, a2, a3, a4⟩, h3, h4, h5, h6, h7⟩ := h
  have hz : H.size = ob_sz w + C.1 := h1.1
  refine ⟨hR, ⟨a1, a2, a3, fun j hj => ⟨(a4 j hj).1, ob_okv_le (Nat.le_succ _) (a4 j hj).2⟩⟩, ob_al1 (v := (k + 3, i)) (Or.inr ⟨hk, by rw [ho]; exact Nat.lt_succ_self _⟩) (fun v hv => ob_okv_le (Nat.le_succ _) (hs v hv)), fun q hq => by rw [hH q (by omega)]; exact h4 q hq, h5, Nat.le_trans h6 (Nat.le_succ _), Nat.le_trans h7 (Nat.le_add_right _ _)⟩
theorem ob_repV {cA : ClassId} {N : Nat} {v : Value} : ({ cls := cA, slots := Array.replicate N v, vm := .none } : Cell) = arrV cA N (fun _ => v) := by
  unfold arrV
  congr 1
  apply Array.ext
  · simp
  · intro i h1 h2
    simp
theorem ob_kq99 (t : Nat) : (ob_kq t).2.1 ≤ 9 := by
  have : ∀ q ∈ ob_kt, q.2.1 ≤ 9 := by decide +kernel
  by_cases q : t < ob_kt.length
  · exact this _ (List.mem_of_getElem? (ob_nth_get _ _ _ q))
  · unfold ob_kq
    rw [ob_nth_ge _ _ _ (Nat.not_lt.mp q)]
    decide
def ob_atc (a : ArrayType) : Nat := match a with
  | .int => 0
  | .boolean => 1
  | .byte => 2
  | _ => 99
theorem ob_atc_e {f pc nx : Nat} {aux : List Nat} {z : Int} {a : ArrayType} : ob_okI f pc (.newarray a) nx aux z = (Nat.beq nx (pc + 2) && Nat.ble 16 (ob_nth aux 0 0) && Nat.beq (ob_kq (ob_nth aux 0 0)).2.1 (ob_atc a)) := by
  cases a <;> rfl
section ob_Sim4
variable {w : ob_Wd} {p : Program} {l : Launch} {e : Env} {R : Room} {s : State} {m : MethodId} {args : Array Value} {below : List Frame} {meth : Method} {c : Code} {Q : State → Prop} {c0 s0 f pc nx nL : Nat} {aux : List Nat} {z : Int} {ls st : List ob_AV} {mm : ob_MM} {S : ob_St}
variable {H : Heap} {locs : List Loc} {cells slots : Nat} {LS : Array Slot} {rest : List Value}
set_option maxRecDepth 100000 in
theorem ob_s_ldc {idx : Nat} (X : ob_Cx w p R s m args meth c f) (hok : ob_ok f pc (.ldc idx, nx, aux, z) = true) (h : ob_nx (ob_ins (.ldc idx) nx aux z f ls st mm) S) (kk : ob_At w p l e R s m args below meth c Q c0 s0 (ob_mx f) S) : ob_At w p l e R s m args below meth c Q c0 s0 (ob_mx f) (f, pc, ls, st, mm) := by
  obtain rfl := ob_go_x h
  have g : (Nat.beq nx (pc + 2) && ob_inCO (ob_ow f) idx z.toNat 0 && decide (0 ≤ z ∧ z < 2147483648)) = true := ob_okI_of hok
  rw [Bool.and_eq_true, Bool.and_eq_true] at g
  obtain ⟨hd, rfl⟩ := ob_okd hok g.1.1
  have hz := of_decide_eq_true g.2
  have hw : Cond.constant (ob_cn (ob_ow f)) idx (Int32.ofInt (Int.ofNat z.toNat)) ∈ ob_gt := ob_col g.1.2
  rw [show Int.ofNat z.toNat = z by have : ((z.toNat : Nat) : Int) = z := by omega
                                    exact this] at hw
  intro LS H locs I
  refine lv_ldc X.1 X.2.1 X.2.2.2.1 (X.2.2.2.2.1 _ hw) hd ?_
  exact kk LS H locs (ob_Iv_st I (ob_al1 (v := (1, z)) ⟨by omega, by omega⟩ I.2.2.1))
set_option maxRecDepth 100000 in
theorem ob_s_ldc2_w {idx : Nat} (X : ob_Cx w p R s m args meth c f) (hok : ob_ok f pc (.ldc2_w idx, nx, aux, z) = true) (h : ob_nx (ob_ins (.ldc2_w idx) nx aux z f ls st mm) S) (kk : ob_At w p l e R s m args below meth c Q c0 s0 (ob_mx f) S) : ob_At w p l e R s m args below meth c Q c0 s0 (ob_mx f) (f, pc, ls, st, mm) := by
  obtain rfl := ob_go_x h
  have g : (Nat.beq nx (pc + 3) && ob_inCO (ob_ow f) idx z.toNat 1 && decide (0 ≤ z ∧ z < 2147483648)) = true := ob_okI_of hok
  rw [Bool.and_eq_true, Bool.and_eq_true] at g
  obtain ⟨hd, rfl⟩ := ob_okd hok g.1.1
  have hz := of_decide_eq_true g.2
  have hw : Cond.constantLong (ob_cn (ob_ow f)) idx (Int64.ofInt (Int.ofNat z.toNat)) ∈ ob_gt := ob_col g.1.2
  rw [show Int.ofNat z.toNat = z by have : ((z.toNat : Nat) : Int) = z := by omega
                                    exact this] at hw
  intro LS H locs I
  refine lv_ldc2 X.1 X.2.1 X.2.2.2.1 (X.2.2.2.2.1 _ hw) hd ?_
  exact kk LS H locs (ob_Iv_st I (ob_al1 (v := (2, z)) ⟨by omega, by omega⟩ I.2.2.1))
set_option maxRecDepth 100000 in
theorem ob_s_new {idx : Nat} (X : ob_Cx w p R s m args meth c f) (hok : ob_ok f pc (.new idx, nx, aux, z) = true) (h : ob_nx (ob_ins (.new idx) nx aux z f ls st mm) S) (kk : ob_At w p l e R s m args below meth c Q c0 s0 (ob_mx f) S) (hb1 : ob_nA S.2.2.2.2 ≤ R.cells + c0) (hb2 : ob_nS S.2.2.2.2 ≤ R.slots + s0) : ob_At w p l e R s m args below meth c Q c0 s0 (ob_mx f) (f, pc, ls, st, mm) := by
  obtain ⟨m0, C, i, rfl, hl, rfl⟩ := ob_new_x h
  have g : (Nat.beq nx (pc + 3) && ob_in4 ob_CK (ob_ow f) idx (ob_nth aux 0 0) && Nat.ble (ob_nth aux 0 0) 8) = true := ob_okI_of hok
  rw [Bool.and_eq_true, Bool.and_eq_true] at g
  obtain ⟨hd, rfl⟩ := ob_okd hok g.1.1
  have h8 : ob_nth aux 0 0 ≤ 8 := Nat.ble_eq.mp g.2
  have hck := ob_ckl g.1.2
  generalize ob_nth aux 0 0 = k at *
  obtain ⟨hlt, ho⟩ := ob_new_o hl (by omega)
  intro LS H locs I
  have hc0 : c0 ≤ C.1 := I.2.2.2.2.2.1
  have hs0 : s0 ≤ C.2.1 := I.2.2.2.2.2.2
  have hb1 : C.1 + 1 ≤ R.cells + c0 := hb1
  have hb2 : C.2.1 + (ob_nth ob_ft k []).length ≤ R.slots + s0 := hb2
  have hz : H.size = ob_sz w + C.1 := I.1.1
  have hKn := X.2.2.2.2.2.2.2.2.1.1.1 k _ (ob_clk k h8)
  show W p l e R s m args below meth c H locs (C.1 - c0) (C.2.1 - s0) Q (F0 m pc LS (List.map (ob_cv w) st))
  refine W.newcK X.1 X.2.1 X.2.2.2.1 (X.2.2.2.2.1 _ hck) (X.2.2.2.2.1 _ (ob_isl (by omega))) (X.2.2.2.2.1 _ (ob_inl (by omega))) rfl hd (by omega) (by omega) hKn.2.1 rfl fun H1 kC hkC e1 z1 o1 => ?_
  refine W.cs (cells' := C.1 + 1 - c0) (slots' := C.2.1 + (ob_nth ob_ft k []).length - s0) (by omega) (by omega) ?_
  have K := kk LS H1 locs (ob_Iv_new I (by omega) ho ?_ I.2.2.1 o1)
  · have e9 : List.map (ob_cv w) ((k + 3, i) :: st) = Value.ref (ob_ad w k i) :: List.map (ob_cv w) st := rfl
    rw [e9, ob_ad_n (by omega), ho, ← hz] at K
    exact K
  refine ob_Rep_new I.1 hlt ho z1 o1 ⟨fun _ => ?_, fun q => absurd h8 q⟩
  rw [ho, ← hz]
  have hN := ob_nsk h8
  refine (u_born (ob_tyq k) X.2.2.2.2.1 (ob_lays9 h8) hKn hkC e1 (by rw [hN]; exact ob_tyk k (by omega))).to fun j hj => ?_
  rw [ob_vl_new I.1 ho hlt]
  exact ob_tyd k (by omega) j (by rw [← hN]; exact hj)
set_option maxRecDepth 100000 in
theorem ob_s_newarray {a : ArrayType} (X : ob_Cx w p R s m args meth c f) (hok : ob_ok f pc (.newarray a, nx, aux, z) = true) (h : ob_nx (ob_ins (.newarray a) nx aux z f ls st mm) S) (kk : ob_At w p l e R s m args below meth c Q c0 s0 (ob_mx f) S) (hb1 : ob_nA S.2.2.2.2 ≤ R.cells + c0) (hb2 : ob_nS S.2.2.2.2 ≤ R.slots + s0) : ob_At w p l e R s m args below meth c Q c0 s0 (ob_mx f) (f, pc, ls, st, mm) := by
  obtain ⟨n, st, rfl, h91⟩ := ob_i1_x h
  obtain ⟨hn, h92⟩ := ob_cond_x h91
  obtain ⟨m0, C, i, rfl, hl, rfl⟩ := ob_new_x h92
  have g := ob_okI_of hok
  rw [ob_atc_e] at g
  rw [Bool.and_eq_true, Bool.and_eq_true] at g
  obtain ⟨hd, rfl⟩ := ob_okd hok g.1.1
  have h16 : 16 ≤ ob_nth aux 0 0 := Nat.ble_eq.mp g.1.2
  have hn := of_decide_eq_true hn
  generalize ob_nth aux 0 0 = k at *
  have hk57 : k < 99 := by
    refine Nat.not_le.mp fun q => ?_
    have e1 := ob_beq g.2
    unfold ob_kq at e1
    rw [ob_nth_ge _ _ _ (Nat.le_trans (by decide) q)] at e1
    cases a <;> cases e1
  obtain ⟨hlt, ho⟩ := ob_new_o hl hk57
  have hk57 : 16 ≤ k ∧ k < 57 := by
    have := (ob_lay_k _ (ob_off_mem (k := k) (i := i) (by rw [ho]; exact hlt))).2.2
    exact this.elim (fun q => absurd q (by omega)) id
  intro LS H locs I
  have hc0 : c0 ≤ C.1 := I.2.2.2.2.2.1
  have hs0 : s0 ≤ C.2.1 := I.2.2.2.2.2.2
  have hb1 : C.1 + 1 ≤ R.cells + c0 := hb1
  have hb2 : C.2.1 + n.toNat ≤ R.slots + s0 := hb2
  have hz : H.size = ob_sz w + C.1 := I.1.1
  have hkb := ob_kq_b k
  have hn32 : ob_r32 n := I.2.2.1 (1, n) List.mem_cons_self
  have hK := X.2.2.2.2.2.2.2.2.1.2.1 k hk57.1 hk57.2
  have hns : ob_ns k = n.toNat := by rw [ob_nsa (by omega), hn]
  have key : ∀ ty : FieldType, newarray.typeOf a = ty → ob_aty k = ty → (ob_kq k).2.1 ≠ 3 → defaultValue ty = .int (Int32.ofInt 0) → componentBytes ty ≤ 8 → Cond.arrayClass ty ∈ ob_gt → (∀ cA : ClassId, va_RA s cA ty → s.vm.findClass ("[" ++ ty.toString) = some cA) → W p l e R s m args below meth c H locs (C.1 - c0) (C.2.1 - s0) Q (F0 m pc LS (Value.int (Int32.ofInt n) :: List.map (ob_cv w) st)) := by
    intro ty hty haty h3 hdef hcb hac hra
    have hn0 : ¬ Int32.ofInt n < 0 := fun q => by have := (ob_i_lt hn32 ob_r0).mp q; omega
    have hnn : (Int32.ofInt n).toNatClampNeg = n.toNat := ob_i_nat (by omega) hn32
    refine W.newa X.1 X.2.1 (atype := a) (by rw [hty]; exact X.2.2.2.2.1 _ hac) rfl hd rfl hn0 (by rw [hnn, hty]; exact Nat.le_trans (Nat.mul_le_mul (show n.toNat ≤ 2000 by omega) hcb) (by decide)) (by omega) (by rw [hnn]; omega) fun cA kA comp f1 f2 f3 => ?_
    have hcA : cA = ob_dA w (ob_ai k) := by
      rw [hty] at f1
      have q := hra _ (by rw [← haty]; exact hK.2)
      exact Option.some.inj (f1.symm.trans q)
    subst hcA
    rw [hnn, hty, hdef]
    rw [ob_repV]
    refine W.cs (cells' := C.1 + 1 - c0) (slots' := C.2.1 + n.toNat - s0) (by omega) (by omega) ?_
    have o1 : ∀ q : Nat, q < H.size → (H.push (arrV (ob_dA w (ob_ai k)) n.toNat fun _ => Value.int (Int32.ofInt 0)))[q]? = H[q]? := fun q hq => by rw [Array.getElem?_push_lt hq, Array.getElem?_eq_getElem hq]
    have K := kk LS (H.push (arrV (ob_dA w (ob_ai k)) n.toNat fun _ => Value.int (Int32.ofInt 0))) locs (ob_Iv_new I (by omega) ho ?_ (fun v hv => I.2.2.1 v (List.mem_cons_of_mem _ hv)) o1)
    · have e9 : List.map (ob_cv w) ((k + 3, i) :: st) = Value.ref (ob_ad w k i) :: List.map (ob_cv w) st := rfl
      rw [e9, ob_ad_n (by omega), ho, ← hz] at K
      exact K
    refine ob_Rep_new I.1 hlt ho (by rw [Array.size_push]) o1 ⟨fun q => absurd q (by omega), fun _ => ?_⟩
    rw [ho, ← hz, Array.getElem?_push_size, hns]
    congr 1
    refine ob_arrV_c fun j hj => ?_
    rw [ob_vl_new I.1 ho hlt, ob_ska (by omega), ob_kq0 h3]
    rfl
  show W p l e R s m args below meth c H locs (C.1 - c0) (C.2.1 - s0) Q (F0 m pc LS (Value.int (Int32.ofInt n) :: List.map (ob_cv w) st))
  have g2 := ob_beq g.2
  cases a with
  | int => exact key .int rfl (ob_aty_of g2) (by rw [g2]; decide) rfl (by decide) ob_ac_i (fun _ q => q)
  | boolean => exact key .boolean rfl (ob_aty_z g2) (by rw [g2]; decide) rfl (by decide) ob_ac_z (fun _ q => q)
  | byte => exact key .byte rfl (ob_aty_b g2) (by rw [g2]; decide) rfl (by decide) ob_ac_b (fun _ q => q)
  | _ =>
    have g2 : (ob_kq k).2.1 = 99 := g2
    exact absurd g2 (by have := ob_kq99 k; omega)
set_option maxRecDepth 100000 in
theorem ob_s_anewarray {idx : Nat} (X : ob_Cx w p R s m args meth c f) (hok : ob_ok f pc (.anewarray idx, nx, aux, z) = true) (h : ob_nx (ob_ins (.anewarray idx) nx aux z f ls st mm) S) (kk : ob_At w p l e R s m args below meth c Q c0 s0 (ob_mx f) S) (hb1 : ob_nA S.2.2.2.2 ≤ R.cells + c0) (hb2 : ob_nS S.2.2.2.2 ≤ R.slots + s0) : ob_At w p l e R s m args below meth c Q c0 s0 (ob_mx f) (f, pc, ls, st, mm) := by
  obtain ⟨n, st, rfl, h91⟩ := ob_i1_x h
  obtain ⟨hn, h92⟩ := ob_cond_x h91
  obtain ⟨m0, C, i, rfl, hl, rfl⟩ := ob_new_x h92
  have g : (Nat.beq nx (pc + 3) && Nat.ble 16 (ob_nth aux 0 0) && ob_in4 ob_CK (ob_ow f) idx (ob_nth aux 1 0) && Nat.beq (ob_kq (ob_nth aux 0 0)).2.1 3 && Nat.beq (ob_kq (ob_nth aux 0 0)).2.2.1 (ob_nth aux 1 0 + 1)) = true := ob_okI_of hok
  rw [Bool.and_eq_true, Bool.and_eq_true, Bool.and_eq_true, Bool.and_eq_true] at g
  obtain ⟨⟨⟨⟨g1, g2⟩, g3⟩, g4⟩, g5⟩ := g
  obtain ⟨hd, rfl⟩ := ob_okd hok g1
  have h16 : 16 ≤ ob_nth aux 0 0 := Nat.ble_eq.mp g2
  have hck := ob_ckl g3
  have hn := of_decide_eq_true hn
  have g4 := ob_beq g4
  have g5 := ob_beq g5
  generalize ob_nth aux 0 0 = k at *
  generalize ob_nth aux 1 0 = t2 at *
  have hk57 : k < 99 := by
    refine Nat.not_le.mp fun q => ?_
    unfold ob_kq at g4
    rw [ob_nth_ge _ _ _ (Nat.le_trans (by decide) q)] at g4
    cases g4
  obtain ⟨hlt, ho⟩ := ob_new_o hl hk57
  have hk57 : 16 ≤ k ∧ k < 57 := by
    have := (ob_lay_k _ (ob_off_mem (k := k) (i := i) (by rw [ho]; exact hlt))).2.2
    exact this.elim (fun q => absurd q (by omega)) id
  intro LS H locs I
  have hc0 : c0 ≤ C.1 := I.2.2.2.2.2.1
  have hs0 : s0 ≤ C.2.1 := I.2.2.2.2.2.2
  have hb1 : C.1 + 1 ≤ R.cells + c0 := hb1
  have hb2 : C.2.1 + n.toNat ≤ R.slots + s0 := hb2
  have hz : H.size = ob_sz w + C.1 := I.1.1
  have hkb := ob_kq_b k
  have hn32 : ob_r32 n := I.2.2.1 (1, n) List.mem_cons_self
  have hK := X.2.2.2.2.2.2.2.2.1.2.1 k hk57.1 hk57.2
  have hAO := X.2.2.2.2.2.2.2.2.1.2.2.2 k hk57.1 hk57.2 g4
  rw [ob_aty_r g4, g5] at hK
  rw [g5] at hAO
  have hns : ob_ns k = n.toNat := by rw [ob_nsa (by omega), hn]
  have hn0 : ¬ Int32.ofInt n < 0 := fun q => by have := (ob_i_lt hn32 ob_r0).mp q; omega
  have hnn : (Int32.ofInt n).toNatClampNeg = n.toNat := ob_i_nat (by omega) hn32
  show W p l e R s m args below meth c H locs (C.1 - c0) (C.2.1 - s0) Q (F0 m pc LS (Value.int (Int32.ofInt n) :: List.map (ob_cv w) st))
  refine W.anew X.1 X.2.1 X.2.2.2.1 (C := ob_cn t2) (X.2.2.2.2.1 _ hck) (va_AO.use hAO) rfl hd rfl hn0 (by rw [hnn]; omega) (by omega) (by rw [hnn]; omega) fun cA kA comp f1 f2 f3 f4 => ?_
  have hcA : cA = ob_dA w (ob_ai k) := by
    obtain ⟨kA', comp', r1, r2, r3, r4⟩ := hK.2
    exact Option.some.inj (f1.symm.trans r4)
  subst hcA
  rw [hnn, ob_repV]
  refine W.cs (cells' := C.1 + 1 - c0) (slots' := C.2.1 + n.toNat - s0) (by omega) (by omega) ?_
  have o1 : ∀ q : Nat, q < H.size → (H.push (arrV (ob_dA w (ob_ai k)) n.toNat fun _ => Value.null))[q]? = H[q]? := fun q hq => by rw [Array.getElem?_push_lt hq, Array.getElem?_eq_getElem hq]
  have K := kk LS (H.push (arrV (ob_dA w (ob_ai k)) n.toNat fun _ => Value.null)) locs (ob_Iv_new I (by omega) ho ?_ (fun v hv => I.2.2.1 v (List.mem_cons_of_mem _ hv)) o1)
  · have e9 : List.map (ob_cv w) ((k + 3, i) :: st) = Value.ref (ob_ad w k i) :: List.map (ob_cv w) st := rfl
    rw [e9, ob_ad_n (by omega), ho, ← hz] at K
    exact K
  refine ob_Rep_new I.1 hlt ho (by rw [Array.size_push]) o1 ⟨fun q => absurd q (by omega), fun _ => ?_⟩
  rw [ho, ← hz, Array.getElem?_push_size, hns]
  congr 1
  refine ob_arrV_c fun j hj => ?_
  rw [ob_vl_new I.1 ho hlt, ob_ska (by omega), g5]
  rfl
end ob_Sim4
