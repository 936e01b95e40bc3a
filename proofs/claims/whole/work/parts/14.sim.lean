section ob_Sim
variable {w : ob_Wd} {p : Program} {l : Launch} {e : Env} {R : Room} {s : State} {m : MethodId} {args : Array Value} {below : List Frame} {meth : Method} {c : Code} {Q : State → Prop} {c0 s0 f pc nx : Nat} {aux : List Nat} {z : Int} {ls st : List ob_AV} {mm : ob_MM} {S : ob_St}
set_option maxRecDepth 100000 in
theorem ob_s_aload {k : Nat} (X : ob_Cx w p R s m args meth c f) (hok : ob_ok f pc (.aload k, nx, aux, z) = true) (h : ob_nx (ob_ins (.aload k) nx aux z f ls st mm) S) (kk : ob_At w p l e R s m args below meth c Q c0 s0 (ob_mx f) S) : ob_At w p l e R s m args below meth c Q c0 s0 (ob_mx f) (f, pc, ls, st, mm) := by
  obtain ⟨t, i, hl, h91⟩ := ob_ldr_x h
  obtain rfl := ob_go_x h91
  obtain ⟨hd, rfl⟩ := ob_okd hok (n := 2) (ob_okI_of hok)
  intro LS H locs I
  have q := I.2.1.2.2.2 k (by rw [hl]; exact Nat.succ_ne_zero _)
  rw [hl] at q
  refine lv_aload X.1 X.2.1 hd q.1 ?_
  exact kk LS H locs (ob_Iv_st I (ob_al1 q.2 I.2.2.1))
set_option maxRecDepth 100000 in
theorem ob_s_aload_n {k : Fin 4} (X : ob_Cx w p R s m args meth c f) (hok : ob_ok f pc (.aload_n k, nx, aux, z) = true) (h : ob_nx (ob_ins (.aload_n k) nx aux z f ls st mm) S) (kk : ob_At w p l e R s m args below meth c Q c0 s0 (ob_mx f) S) : ob_At w p l e R s m args below meth c Q c0 s0 (ob_mx f) (f, pc, ls, st, mm) := by
  obtain ⟨t, i, hl, h91⟩ := ob_ldr_x h
  obtain rfl := ob_go_x h91
  obtain ⟨hd, rfl⟩ := ob_okd hok (n := 1) (ob_okI_of hok)
  intro LS H locs I
  have q := I.2.1.2.2.2 k.val (by rw [hl]; exact Nat.succ_ne_zero _)
  rw [hl] at q
  refine lv_aload_n X.1 X.2.1 hd rfl q.1 ?_
  exact kk LS H locs (ob_Iv_st I (ob_al1 q.2 I.2.2.1))
set_option maxRecDepth 100000 in
theorem ob_s_iload {k : Nat} (X : ob_Cx w p R s m args meth c f) (hok : ob_ok f pc (.iload k, nx, aux, z) = true) (h : ob_nx (ob_ins (.iload k) nx aux z f ls st mm) S) (kk : ob_At w p l e R s m args below meth c Q c0 s0 (ob_mx f) S) : ob_At w p l e R s m args below meth c Q c0 s0 (ob_mx f) (f, pc, ls, st, mm) := by
  obtain ⟨a, hl, h91⟩ := ob_ldi_x h
  obtain rfl := ob_go_x h91
  obtain ⟨hd, rfl⟩ := ob_okd hok (n := 2) (ob_okI_of hok)
  intro LS H locs I
  have q := I.2.1.2.2.2 k (by rw [hl]; exact Nat.succ_ne_zero _)
  rw [hl] at q
  refine lv_iload X.1 X.2.1 hd q.1 ?_
  exact kk LS H locs (ob_Iv_st I (ob_al1 q.2 I.2.2.1))
set_option maxRecDepth 100000 in
theorem ob_s_iload_n {k : Fin 4} (X : ob_Cx w p R s m args meth c f) (hok : ob_ok f pc (.iload_n k, nx, aux, z) = true) (h : ob_nx (ob_ins (.iload_n k) nx aux z f ls st mm) S) (kk : ob_At w p l e R s m args below meth c Q c0 s0 (ob_mx f) S) : ob_At w p l e R s m args below meth c Q c0 s0 (ob_mx f) (f, pc, ls, st, mm) := by
  obtain ⟨a, hl, h91⟩ := ob_ldi_x h
  obtain rfl := ob_go_x h91
  obtain ⟨hd, rfl⟩ := ob_okd hok (n := 1) (ob_okI_of hok)
  intro LS H locs I
  have q := I.2.1.2.2.2 k.val (by rw [hl]; exact Nat.succ_ne_zero _)
  rw [hl] at q
  refine lv_iload_n X.1 X.2.1 hd rfl q.1 ?_
  exact kk LS H locs (ob_Iv_st I (ob_al1 q.2 I.2.2.1))
set_option maxRecDepth 100000 in
theorem ob_s_lload {k : Nat} (X : ob_Cx w p R s m args meth c f) (hok : ob_ok f pc (.lload k, nx, aux, z) = true) (h : ob_nx (ob_ins (.lload k) nx aux z f ls st mm) S) (kk : ob_At w p l e R s m args below meth c Q c0 s0 (ob_mx f) S) : ob_At w p l e R s m args below meth c Q c0 s0 (ob_mx f) (f, pc, ls, st, mm) := by
  obtain ⟨a, hl, h91⟩ := ob_ldl_x h
  obtain rfl := ob_go_x h91
  obtain ⟨hd, rfl⟩ := ob_okd hok (n := 2) (ob_okI_of hok)
  intro LS H locs I
  have q := I.2.1.2.2.2 k (by rw [hl]; exact Nat.succ_ne_zero _)
  rw [hl] at q
  refine lv_lload X.1 X.2.1 hd q.1 ?_
  exact kk LS H locs (ob_Iv_st I (ob_al1 q.2 I.2.2.1))
set_option maxRecDepth 100000 in
theorem ob_s_lload_n {k : Fin 4} (X : ob_Cx w p R s m args meth c f) (hok : ob_ok f pc (.lload_n k, nx, aux, z) = true) (h : ob_nx (ob_ins (.lload_n k) nx aux z f ls st mm) S) (kk : ob_At w p l e R s m args below meth c Q c0 s0 (ob_mx f) S) : ob_At w p l e R s m args below meth c Q c0 s0 (ob_mx f) (f, pc, ls, st, mm) := by
  obtain ⟨a, hl, h91⟩ := ob_ldl_x h
  obtain rfl := ob_go_x h91
  obtain ⟨hd, rfl⟩ := ob_okd hok (n := 1) (ob_okI_of hok)
  intro LS H locs I
  have q := I.2.1.2.2.2 k.val (by rw [hl]; exact Nat.succ_ne_zero _)
  rw [hl] at q
  refine lv_lload_n X.1 X.2.1 hd rfl q.1 ?_
  exact kk LS H locs (ob_Iv_st I (ob_al1 q.2 I.2.2.1))
set_option maxRecDepth 100000 in
theorem ob_s_astore {k : Nat} (X : ob_Cx w p R s m args meth c f) (hok : ob_ok f pc (.astore k, nx, aux, z) = true) (h : ob_nx (ob_ins (.astore k) nx aux z f ls st mm) S) (kk : ob_At w p l e R s m args below meth c Q c0 s0 (ob_mx f) S) : ob_At w p l e R s m args below meth c Q c0 s0 (ob_mx f) (f, pc, ls, st, mm) := by
  obtain ⟨t, i, st, rfl, h91⟩ := ob_r1_x h
  obtain ⟨hj, h92⟩ := ob_sto_x h91
  obtain rfl := ob_go_x h92
  have g : (Nat.beq nx (pc + 2) && Nat.blt k (ob_mx f)) = true := ob_okI_of hok
  rw [Bool.and_eq_true] at g
  obtain ⟨hd, rfl⟩ := ob_okd hok g.1
  have hk : k < ob_mx f := Nat.le_of_ble_eq_true g.2
  intro LS H locs I
  refine lv_astore X.1 X.2.1 hd (ob_lv_has I.2.1) hk rfl (fun LS' hl => ?_)
  exact kk LS' H locs (ob_st1 I hk (I.2.2.1 _ List.mem_cons_self) hj (fun x hx => I.2.2.1 x (List.mem_cons_of_mem _ hx)) hl)
set_option maxRecDepth 100000 in
theorem ob_s_astore_n {k : Fin 4} (X : ob_Cx w p R s m args meth c f) (hok : ob_ok f pc (.astore_n k, nx, aux, z) = true) (h : ob_nx (ob_ins (.astore_n k) nx aux z f ls st mm) S) (kk : ob_At w p l e R s m args below meth c Q c0 s0 (ob_mx f) S) : ob_At w p l e R s m args below meth c Q c0 s0 (ob_mx f) (f, pc, ls, st, mm) := by
  obtain ⟨t, i, st, rfl, h91⟩ := ob_r1_x h
  obtain ⟨hj, h92⟩ := ob_sto_x h91
  obtain rfl := ob_go_x h92
  have g : (Nat.beq nx (pc + 1) && Nat.blt k.val (ob_mx f)) = true := ob_okI_of hok
  rw [Bool.and_eq_true] at g
  obtain ⟨hd, rfl⟩ := ob_okd hok g.1
  have hk : k.val < ob_mx f := Nat.le_of_ble_eq_true g.2
  intro LS H locs I
  refine lv_astore_n X.1 X.2.1 hd rfl (ob_lv_has I.2.1) hk rfl (fun LS' hl => ?_)
  exact kk LS' H locs (ob_st1 I hk (I.2.2.1 _ List.mem_cons_self) hj (fun x hx => I.2.2.1 x (List.mem_cons_of_mem _ hx)) hl)
set_option maxRecDepth 100000 in
theorem ob_s_istore {k : Nat} (X : ob_Cx w p R s m args meth c f) (hok : ob_ok f pc (.istore k, nx, aux, z) = true) (h : ob_nx (ob_ins (.istore k) nx aux z f ls st mm) S) (kk : ob_At w p l e R s m args below meth c Q c0 s0 (ob_mx f) S) : ob_At w p l e R s m args below meth c Q c0 s0 (ob_mx f) (f, pc, ls, st, mm) := by
  obtain ⟨a, st, rfl, h91⟩ := ob_i1_x h
  obtain ⟨hj, h92⟩ := ob_sto_x h91
  obtain rfl := ob_go_x h92
  have g : (Nat.beq nx (pc + 2) && Nat.blt k (ob_mx f)) = true := ob_okI_of hok
  rw [Bool.and_eq_true] at g
  obtain ⟨hd, rfl⟩ := ob_okd hok g.1
  have hk : k < ob_mx f := Nat.le_of_ble_eq_true g.2
  intro LS H locs I
  refine lv_istore X.1 X.2.1 hd (ob_lv_has I.2.1) hk rfl (fun LS' hl => ?_)
  exact kk LS' H locs (ob_st1 I hk (I.2.2.1 _ List.mem_cons_self) hj (fun x hx => I.2.2.1 x (List.mem_cons_of_mem _ hx)) hl)
theorem ob_seal_x {mm : ob_MM} {K : ob_MM → ob_Ac} {S : ob_St} (h : ob_nx (ob_seal mm K) S) : ∃ C, mm.2 = some C ∧ ob_full C = true ∧ ob_nx (K (mm.1, none)) S := by
  unfold ob_seal at h
  split at h
  · exact (ob_stop_x h).elim
  · obtain ⟨h1, h2⟩ := ob_cond_x h
    exact ⟨_, by assumption, h1, h2⟩
set_option maxRecDepth 100000 in
theorem ob_s_istore_n {k : Fin 4} (X : ob_Cx w p R s m args meth c f) (hok : ob_ok f pc (.istore_n k, nx, aux, z) = true) (h : ob_nx (ob_ins (.istore_n k) nx aux z f ls st mm) S) (kk : ob_At w p l e R s m args below meth c Q c0 s0 (ob_mx f) S) : ob_At w p l e R s m args below meth c Q c0 s0 (ob_mx f) (f, pc, ls, st, mm) := by
  obtain ⟨a, st, rfl, h91⟩ := ob_i1_x h
  obtain ⟨hj, h92⟩ := ob_sto_x h91
  have g : (Nat.beq nx (pc + 1) && Nat.blt k.val (ob_mx f)) = true := ob_okI_of hok
  rw [Bool.and_eq_true] at g
  obtain ⟨hd, rfl⟩ := ob_okd hok g.1
  have hk : k.val < ob_mx f := Nat.le_of_ble_eq_true g.2
  intro LS H locs I
  refine lv_istore_n X.1 X.2.1 hd rfl (ob_lv_has I.2.1) hk rfl (fun LS' hl => ?_)
  have I2 := ob_st1 I hk (I.2.2.1 _ List.mem_cons_self) hj (fun x hx => I.2.2.1 x (List.mem_cons_of_mem _ hx)) hl
  cases aux with
  | nil =>
    obtain rfl := ob_go_x h92
    exact kk LS' H locs I2
  | cons a0 as =>
    obtain ⟨C, hC, hf, h93⟩ := ob_seal_x h92
    obtain rfl := ob_go_x h93
    obtain ⟨m0, cc⟩ := mm
    have hC : cc = some C := hC
    subst hC
    obtain ⟨f1, f2, -⟩ := ob_full_in hf
    have e1 : ob_nA (m0, some C) = ob_nA (m0, none) := f1
    have e2 : ob_nS (m0, some C) = ob_nS (m0, none) := f2
    obtain ⟨i1, i2, i3, i4, i5, i6, i7⟩ := I2
    rw [e1] at i2 i3 i6
    rw [e2] at i7
    have K := kk LS' H locs ⟨ob_Rep_seal i1 hf, i2, i3, i4, i5, i6, i7⟩
    rw [e1, e2]
    exact K
set_option maxRecDepth 100000 in
theorem ob_s_lstore {k : Nat} (X : ob_Cx w p R s m args meth c f) (hok : ob_ok f pc (.lstore k, nx, aux, z) = true) (h : ob_nx (ob_ins (.lstore k) nx aux z f ls st mm) S) (kk : ob_At w p l e R s m args below meth c Q c0 s0 (ob_mx f) S) : ob_At w p l e R s m args below meth c Q c0 s0 (ob_mx f) (f, pc, ls, st, mm) := by
  obtain ⟨a, st, rfl, h91⟩ := ob_l1_x h
  obtain ⟨hj, h92⟩ := ob_sto_x h91
  obtain rfl := ob_go_x h92
  have g : (Nat.beq nx (pc + 2) && Nat.blt (k + 1) (ob_mx f)) = true := ob_okI_of hok
  rw [Bool.and_eq_true] at g
  obtain ⟨hd, rfl⟩ := ob_okd hok g.1
  have hk : k + 1 < ob_mx f := Nat.le_of_ble_eq_true g.2
  intro LS H locs I
  refine lv_lstore X.1 X.2.1 hd (ob_lv_has I.2.1) hk rfl (fun LS' hl => ?_)
  exact kk LS' H locs (ob_st2 I hk (I.2.2.1 _ List.mem_cons_self) hj (fun x hx => I.2.2.1 x (List.mem_cons_of_mem _ hx)) hl)
set_option maxRecDepth 100000 in
theorem ob_s_lstore_n {k : Fin 4} (X : ob_Cx w p R s m args meth c f) (hok : ob_ok f pc (.lstore_n k, nx, aux, z) = true) (h : ob_nx (ob_ins (.lstore_n k) nx aux z f ls st mm) S) (kk : ob_At w p l e R s m args below meth c Q c0 s0 (ob_mx f) S) : ob_At w p l e R s m args below meth c Q c0 s0 (ob_mx f) (f, pc, ls, st, mm) := by
  obtain ⟨a, st, rfl, h91⟩ := ob_l1_x h
  obtain ⟨hj, h92⟩ := ob_sto_x h91
  obtain rfl := ob_go_x h92
  have g : (Nat.beq nx (pc + 1) && Nat.blt (k.val + 1) (ob_mx f)) = true := ob_okI_of hok
  rw [Bool.and_eq_true] at g
  obtain ⟨hd, rfl⟩ := ob_okd hok g.1
  have hk : k.val + 1 < ob_mx f := Nat.le_of_ble_eq_true g.2
  intro LS H locs I
  refine lv_lstore_n X.1 X.2.1 hd rfl (ob_lv_has I.2.1) hk rfl (fun LS' hl => ?_)
  exact kk LS' H locs (ob_st2 I hk (I.2.2.1 _ List.mem_cons_self) hj (fun x hx => I.2.2.1 x (List.mem_cons_of_mem _ hx)) hl)
set_option maxRecDepth 100000 in
theorem ob_s_iinc {k : Nat} {n : Int} (X : ob_Cx w p R s m args meth c f) (hok : ob_ok f pc (.iinc k n, nx, aux, z) = true) (h : ob_nx (ob_ins (.iinc k n) nx aux z f ls st mm) S) (kk : ob_At w p l e R s m args below meth c Q c0 s0 (ob_mx f) S) : ob_At w p l e R s m args below meth c Q c0 s0 (ob_mx f) (f, pc, ls, st, mm) := by
  obtain ⟨a, hl, h91⟩ := ob_ldi_x h
  obtain rfl := ob_go_x h91
  have g : (Nat.beq nx (pc + 3) && Nat.blt k (ob_mx f) && decide (-128 ≤ n ∧ n < 128)) = true := ob_okI_of hok
  rw [Bool.and_eq_true, Bool.and_eq_true] at g
  obtain ⟨hd, rfl⟩ := ob_okd hok g.1.1
  have hk : k < ob_mx f := Nat.le_of_ble_eq_true g.1.2
  intro LS H locs I
  have hin := ob_lv_in (w := w) (ls := ls) (k := k) (by rw [hl]; exact Nat.succ_ne_zero _)
  rw [hl] at hin
  obtain ⟨j, hj⟩ := List.getElem?_of_mem hin
  have hprev : ∀ j, j + 1 = k → (ob_nth ls j (0, 0)).1 ≠ 2 := by
    intro j hj e2
    subst hj
    have q := (I.2.1.2.2.2 j (by rw [e2]; decide)).1
    have q2 := (I.2.1.2.2.2 (j + 1) (by rw [hl]; exact Nat.succ_ne_zero _)).1
    rw [hl] at q2
    obtain ⟨v, hv⟩ : ∃ v, ob_nth ls j (0, 0) = (2, v) := ⟨(ob_nth ls j (0, 0)).2, by rw [← e2]⟩
    rw [hv] at q
    have q3 := I.2.1.2.1.1 j _ q rfl
    rw [q2] at q3
    cases q3
  refine lv_iinc X.1 X.2.1 hd (ob_lv_has I.2.1) hj (ob_i_add a n).symm hk rfl (fun LS' hl' => ?_)
  exact kk LS' H locs (ob_st1 (v := (1, ob_wr (a + n))) I hk (ob_wr_r _) hprev I.2.2.1 hl')
set_option maxRecDepth 100000 in
theorem ob_s_iconst {n : Int} (X : ob_Cx w p R s m args meth c f) (hok : ob_ok f pc (.iconst n, nx, aux, z) = true) (h : ob_nx (ob_ins (.iconst n) nx aux z f ls st mm) S) (kk : ob_At w p l e R s m args below meth c Q c0 s0 (ob_mx f) S) : ob_At w p l e R s m args below meth c Q c0 s0 (ob_mx f) (f, pc, ls, st, mm) := by
  obtain rfl := ob_go_x h
  have g : (Nat.beq nx (pc + 1) && decide (-128 ≤ n ∧ n < 128)) = true := ob_okI_of hok
  rw [Bool.and_eq_true] at g
  obtain ⟨hd, rfl⟩ := ob_okd hok g.1
  have hn := of_decide_eq_true g.2
  intro LS H locs I
  refine lv_iconst X.1 X.2.1 hd rfl ?_
  exact kk LS H locs (ob_Iv_st I (ob_al1 (v := (1, n)) ⟨by omega, by omega⟩ I.2.2.1))
set_option maxRecDepth 100000 in
theorem ob_s_bipush {n : Int} (X : ob_Cx w p R s m args meth c f) (hok : ob_ok f pc (.bipush n, nx, aux, z) = true) (h : ob_nx (ob_ins (.bipush n) nx aux z f ls st mm) S) (kk : ob_At w p l e R s m args below meth c Q c0 s0 (ob_mx f) S) : ob_At w p l e R s m args below meth c Q c0 s0 (ob_mx f) (f, pc, ls, st, mm) := by
  obtain rfl := ob_go_x h
  have g : (Nat.beq nx (pc + 2) && decide (-128 ≤ n ∧ n < 128)) = true := ob_okI_of hok
  rw [Bool.and_eq_true] at g
  obtain ⟨hd, rfl⟩ := ob_okd hok g.1
  have hn := of_decide_eq_true g.2
  intro LS H locs I
  refine lv_bipush X.1 X.2.1 hd (ob_bip hn.1 hn.2) ?_
  exact kk LS H locs (ob_Iv_st I (ob_al1 (v := (1, n)) ⟨by omega, by omega⟩ I.2.2.1))
set_option maxRecDepth 100000 in
theorem ob_s_sipush {n : Int} (X : ob_Cx w p R s m args meth c f) (hok : ob_ok f pc (.sipush n, nx, aux, z) = true) (h : ob_nx (ob_ins (.sipush n) nx aux z f ls st mm) S) (kk : ob_At w p l e R s m args below meth c Q c0 s0 (ob_mx f) S) : ob_At w p l e R s m args below meth c Q c0 s0 (ob_mx f) (f, pc, ls, st, mm) := by
  obtain rfl := ob_go_x h
  have g : (Nat.beq nx (pc + 3) && decide (-32768 ≤ n ∧ n < 32768)) = true := ob_okI_of hok
  rw [Bool.and_eq_true] at g
  obtain ⟨hd, rfl⟩ := ob_okd hok g.1
  have hn := of_decide_eq_true g.2
  intro LS H locs I
  refine lv_sipush X.1 X.2.1 hd (ob_sip hn.1 hn.2) ?_
  exact kk LS H locs (ob_Iv_st I (ob_al1 (v := (1, n)) ⟨by omega, by omega⟩ I.2.2.1))
set_option maxRecDepth 100000 in
theorem ob_s_lconst {n : Fin 2} (X : ob_Cx w p R s m args meth c f) (hok : ob_ok f pc (.lconst n, nx, aux, z) = true) (h : ob_nx (ob_ins (.lconst n) nx aux z f ls st mm) S) (kk : ob_At w p l e R s m args below meth c Q c0 s0 (ob_mx f) S) : ob_At w p l e R s m args below meth c Q c0 s0 (ob_mx f) (f, pc, ls, st, mm) := by
  obtain rfl := ob_go_x h
  obtain ⟨hd, rfl⟩ := ob_okd hok (n := 1) (ob_okI_of hok)
  intro LS H locs I
  refine lv_lconst X.1 X.2.1 hd Int64.ofInt_eq_ofNat.symm ?_
  exact kk LS H locs (ob_Iv_st I (ob_al1 (v := (2, (n.val : Int))) (by have := n.isLt; exact ⟨by omega, by omega⟩) I.2.2.1))
set_option maxRecDepth 100000 in
theorem ob_s_iadd  (X : ob_Cx w p R s m args meth c f) (hok : ob_ok f pc (.iadd, nx, aux, z) = true) (h : ob_nx (ob_ins (.iadd) nx aux z f ls st mm) S) (kk : ob_At w p l e R s m args below meth c Q c0 s0 (ob_mx f) S) : ob_At w p l e R s m args below meth c Q c0 s0 (ob_mx f) (f, pc, ls, st, mm) := by
  obtain ⟨b, st, rfl, h91⟩ := ob_i1_x h
  obtain ⟨a, st, rfl, h92⟩ := ob_i1_x h91
  obtain rfl := ob_go_x h92
  obtain ⟨hd, rfl⟩ := ob_okd hok (n := 1) (ob_okI_of hok)
  intro LS H locs I
  refine lv_iadd X.1 X.2.1 hd ?_
  rw [← ob_i_add]
  exact kk LS H locs (ob_Iv_st I (ob_al1 (v := (1, ob_wr _)) (ob_wr_r _) (fun x hx => I.2.2.1 x (List.mem_cons_of_mem _ (List.mem_cons_of_mem _ hx)))))
set_option maxRecDepth 100000 in
theorem ob_s_isub  (X : ob_Cx w p R s m args meth c f) (hok : ob_ok f pc (.isub, nx, aux, z) = true) (h : ob_nx (ob_ins (.isub) nx aux z f ls st mm) S) (kk : ob_At w p l e R s m args below meth c Q c0 s0 (ob_mx f) S) : ob_At w p l e R s m args below meth c Q c0 s0 (ob_mx f) (f, pc, ls, st, mm) := by
  obtain ⟨b, st, rfl, h91⟩ := ob_i1_x h
  obtain ⟨a, st, rfl, h92⟩ := ob_i1_x h91
  obtain rfl := ob_go_x h92
  obtain ⟨hd, rfl⟩ := ob_okd hok (n := 1) (ob_okI_of hok)
  intro LS H locs I
  refine lv_isub X.1 X.2.1 hd ?_
  rw [← ob_i_sub]
  exact kk LS H locs (ob_Iv_st I (ob_al1 (v := (1, ob_wr _)) (ob_wr_r _) (fun x hx => I.2.2.1 x (List.mem_cons_of_mem _ (List.mem_cons_of_mem _ hx)))))
set_option maxRecDepth 100000 in
theorem ob_s_imul  (X : ob_Cx w p R s m args meth c f) (hok : ob_ok f pc (.imul, nx, aux, z) = true) (h : ob_nx (ob_ins (.imul) nx aux z f ls st mm) S) (kk : ob_At w p l e R s m args below meth c Q c0 s0 (ob_mx f) S) : ob_At w p l e R s m args below meth c Q c0 s0 (ob_mx f) (f, pc, ls, st, mm) := by
  obtain ⟨b, st, rfl, h91⟩ := ob_i1_x h
  obtain ⟨a, st, rfl, h92⟩ := ob_i1_x h91
  obtain rfl := ob_go_x h92
  obtain ⟨hd, rfl⟩ := ob_okd hok (n := 1) (ob_okI_of hok)
  intro LS H locs I
  refine lv_imul X.1 X.2.1 hd ?_
  rw [← ob_i_mul]
  exact kk LS H locs (ob_Iv_st I (ob_al1 (v := (1, ob_wr _)) (ob_wr_r _) (fun x hx => I.2.2.1 x (List.mem_cons_of_mem _ (List.mem_cons_of_mem _ hx)))))
set_option maxRecDepth 100000 in
theorem ob_s_iand  (X : ob_Cx w p R s m args meth c f) (hok : ob_ok f pc (.iand, nx, aux, z) = true) (h : ob_nx (ob_ins (.iand) nx aux z f ls st mm) S) (kk : ob_At w p l e R s m args below meth c Q c0 s0 (ob_mx f) S) : ob_At w p l e R s m args below meth c Q c0 s0 (ob_mx f) (f, pc, ls, st, mm) := by
  obtain ⟨b, st, rfl, h91⟩ := ob_i1_x h
  obtain ⟨a, st, rfl, h92⟩ := ob_i1_x h91
  obtain rfl := ob_go_x h92
  obtain ⟨hd, rfl⟩ := ob_okd hok (n := 1) (ob_okI_of hok)
  intro LS H locs I
  refine lv_iand X.1 X.2.1 hd ?_
  have K := kk LS H locs (ob_Iv_st I (ob_al1 (v := (1, ob_and a b)) (ob_i_r _) (fun x hx => I.2.2.1 x (List.mem_cons_of_mem _ (List.mem_cons_of_mem _ hx)))))
  have e9 : List.map (ob_cv w) ((1, ob_and a b) :: st) = Value.int (Int32.ofInt (ob_and a b)) :: List.map (ob_cv w) st := rfl
  rw [e9] at K
  unfold ob_and at K
  rw [Int32.ofInt_toInt] at K
  exact K
set_option maxRecDepth 100000 in
theorem ob_s_ior  (X : ob_Cx w p R s m args meth c f) (hok : ob_ok f pc (.ior, nx, aux, z) = true) (h : ob_nx (ob_ins (.ior) nx aux z f ls st mm) S) (kk : ob_At w p l e R s m args below meth c Q c0 s0 (ob_mx f) S) : ob_At w p l e R s m args below meth c Q c0 s0 (ob_mx f) (f, pc, ls, st, mm) := by
  obtain ⟨b, st, rfl, h91⟩ := ob_i1_x h
  obtain ⟨a, st, rfl, h92⟩ := ob_i1_x h91
  obtain rfl := ob_go_x h92
  obtain ⟨hd, rfl⟩ := ob_okd hok (n := 1) (ob_okI_of hok)
  intro LS H locs I
  refine lv_ior X.1 X.2.1 hd ?_
  have K := kk LS H locs (ob_Iv_st I (ob_al1 (v := (1, ob_or a b)) (ob_i_r _) (fun x hx => I.2.2.1 x (List.mem_cons_of_mem _ (List.mem_cons_of_mem _ hx)))))
  have e9 : List.map (ob_cv w) ((1, ob_or a b) :: st) = Value.int (Int32.ofInt (ob_or a b)) :: List.map (ob_cv w) st := rfl
  rw [e9] at K
  unfold ob_or at K
  rw [Int32.ofInt_toInt] at K
  exact K
set_option maxRecDepth 100000 in
theorem ob_s_ishl  (X : ob_Cx w p R s m args meth c f) (hok : ob_ok f pc (.ishl, nx, aux, z) = true) (h : ob_nx (ob_ins (.ishl) nx aux z f ls st mm) S) (kk : ob_At w p l e R s m args below meth c Q c0 s0 (ob_mx f) S) : ob_At w p l e R s m args below meth c Q c0 s0 (ob_mx f) (f, pc, ls, st, mm) := by
  obtain ⟨b, st, rfl, h91⟩ := ob_i1_x h
  obtain ⟨a, st, rfl, h92⟩ := ob_i1_x h91
  obtain rfl := ob_go_x h92
  obtain ⟨hd, rfl⟩ := ob_okd hok (n := 1) (ob_okI_of hok)
  intro LS H locs I
  refine lv_ishl X.1 X.2.1 hd ?_
  have K := kk LS H locs (ob_Iv_st I (ob_al1 (v := (1, ob_shl a b)) (ob_i_r _) (fun x hx => I.2.2.1 x (List.mem_cons_of_mem _ (List.mem_cons_of_mem _ hx)))))
  have e9 : List.map (ob_cv w) ((1, ob_shl a b) :: st) = Value.int (Int32.ofInt (ob_shl a b)) :: List.map (ob_cv w) st := rfl
  rw [e9] at K
  unfold ob_shl at K
  rw [Int32.ofInt_toInt] at K
  exact K
set_option maxRecDepth 100000 in
theorem ob_s_ishr  (X : ob_Cx w p R s m args meth c f) (hok : ob_ok f pc (.ishr, nx, aux, z) = true) (h : ob_nx (ob_ins (.ishr) nx aux z f ls st mm) S) (kk : ob_At w p l e R s m args below meth c Q c0 s0 (ob_mx f) S) : ob_At w p l e R s m args below meth c Q c0 s0 (ob_mx f) (f, pc, ls, st, mm) := by
  obtain ⟨b, st, rfl, h91⟩ := ob_i1_x h
  obtain ⟨a, st, rfl, h92⟩ := ob_i1_x h91
  obtain rfl := ob_go_x h92
  obtain ⟨hd, rfl⟩ := ob_okd hok (n := 1) (ob_okI_of hok)
  intro LS H locs I
  refine lv_ishr X.1 X.2.1 hd ?_
  have K := kk LS H locs (ob_Iv_st I (ob_al1 (v := (1, ob_shr a b)) (ob_i_r _) (fun x hx => I.2.2.1 x (List.mem_cons_of_mem _ (List.mem_cons_of_mem _ hx)))))
  have e9 : List.map (ob_cv w) ((1, ob_shr a b) :: st) = Value.int (Int32.ofInt (ob_shr a b)) :: List.map (ob_cv w) st := rfl
  rw [e9] at K
  unfold ob_shr at K
  rw [Int32.ofInt_toInt] at K
  exact K
set_option maxRecDepth 100000 in
theorem ob_s_idiv  (X : ob_Cx w p R s m args meth c f) (hok : ob_ok f pc (.idiv, nx, aux, z) = true) (h : ob_nx (ob_ins (.idiv) nx aux z f ls st mm) S) (kk : ob_At w p l e R s m args below meth c Q c0 s0 (ob_mx f) S) : ob_At w p l e R s m args below meth c Q c0 s0 (ob_mx f) (f, pc, ls, st, mm) := by
  obtain ⟨b, st, rfl, h91⟩ := ob_i1_x h
  obtain ⟨a, st, rfl, h92⟩ := ob_i1_x h91
  obtain ⟨hb0, rfl⟩ := ob_gd_x h92
  obtain ⟨hd, rfl⟩ := ob_okd hok (n := 1) (ob_okI_of hok)
  intro LS H locs I
  have hb : ob_r32 b := I.2.2.1 (1, b) List.mem_cons_self
  have ha : ob_r32 a := I.2.2.1 (1, a) (List.mem_cons_of_mem _ List.mem_cons_self)
  refine lv_idiv X.1 X.2.1 hd (fun q => hb0 ((ob_i_eq hb ob_r0).mp q)) ?_
  rw [← ob_i_div ha hb]
  exact kk LS H locs (ob_Iv_st I (ob_al1 (v := (1, ob_wr (Int.tdiv a b))) (ob_wr_r _) (fun x hx => I.2.2.1 x (List.mem_cons_of_mem _ (List.mem_cons_of_mem _ hx)))))
set_option maxRecDepth 100000 in
theorem ob_s_irem  (X : ob_Cx w p R s m args meth c f) (hok : ob_ok f pc (.irem, nx, aux, z) = true) (h : ob_nx (ob_ins (.irem) nx aux z f ls st mm) S) (kk : ob_At w p l e R s m args below meth c Q c0 s0 (ob_mx f) S) : ob_At w p l e R s m args below meth c Q c0 s0 (ob_mx f) (f, pc, ls, st, mm) := by
  obtain ⟨b, st, rfl, h91⟩ := ob_i1_x h
  obtain ⟨a, st, rfl, h92⟩ := ob_i1_x h91
  obtain ⟨hb0, rfl⟩ := ob_gd_x h92
  obtain ⟨hd, rfl⟩ := ob_okd hok (n := 1) (ob_okI_of hok)
  intro LS H locs I
  have hb : ob_r32 b := I.2.2.1 (1, b) List.mem_cons_self
  have ha : ob_r32 a := I.2.2.1 (1, a) (List.mem_cons_of_mem _ List.mem_cons_self)
  refine lv_irem X.1 X.2.1 hd (fun q => hb0 ((ob_i_eq hb ob_r0).mp q)) ?_
  rw [← ob_i_rem ha hb]
  exact kk LS H locs (ob_Iv_st I (ob_al1 (v := (1, Int.tmod a b)) (ob_tmod_r ha) (fun x hx => I.2.2.1 x (List.mem_cons_of_mem _ (List.mem_cons_of_mem _ hx)))))
set_option maxRecDepth 100000 in
theorem ob_s_i2l  (X : ob_Cx w p R s m args meth c f) (hok : ob_ok f pc (.i2l, nx, aux, z) = true) (h : ob_nx (ob_ins (.i2l) nx aux z f ls st mm) S) (kk : ob_At w p l e R s m args below meth c Q c0 s0 (ob_mx f) S) : ob_At w p l e R s m args below meth c Q c0 s0 (ob_mx f) (f, pc, ls, st, mm) := by
  obtain ⟨a, st, rfl, h91⟩ := ob_i1_x h
  obtain rfl := ob_go_x h91
  obtain ⟨hd, rfl⟩ := ob_okd hok (n := 1) (ob_okI_of hok)
  intro LS H locs I
  have ha : ob_r32 a := I.2.2.1 (1, a) List.mem_cons_self
  refine lv_i2l X.1 X.2.1 hd (ob_i_i2l ha) ?_
  exact kk LS H locs (ob_Iv_st I (ob_al1 (v := (2, a)) (by have h1 := ha.1; have h2 := ha.2; exact ⟨by omega, by omega⟩) (fun x hx => I.2.2.1 x (List.mem_cons_of_mem _ hx))))
set_option maxRecDepth 100000 in
theorem ob_s_i2b  (X : ob_Cx w p R s m args meth c f) (hok : ob_ok f pc (.i2b, nx, aux, z) = true) (h : ob_nx (ob_ins (.i2b) nx aux z f ls st mm) S) (kk : ob_At w p l e R s m args below meth c Q c0 s0 (ob_mx f) S) : ob_At w p l e R s m args below meth c Q c0 s0 (ob_mx f) (f, pc, ls, st, mm) := by
  obtain ⟨a, st, rfl, h91⟩ := ob_i1_x h
  obtain rfl := ob_go_x h91
  obtain ⟨hd, rfl⟩ := ob_okd hok (n := 1) (ob_okI_of hok)
  intro LS H locs I
  refine lv_i2b X.1 X.2.1 hd (ob_i_i2b a) ?_
  have h1 := Int.le_bmod (x := a) (m := 256) (by decide)
  have h2 := Int.bmod_lt (x := a) (m := 256) (by decide)
  exact kk LS H locs (ob_Iv_st I (ob_al1 (v := (1, Int.bmod a 256)) ⟨by omega, by omega⟩ (fun x hx => I.2.2.1 x (List.mem_cons_of_mem _ hx))))
set_option maxRecDepth 100000 in
theorem ob_s_ladd  (X : ob_Cx w p R s m args meth c f) (hok : ob_ok f pc (.ladd, nx, aux, z) = true) (h : ob_nx (ob_ins (.ladd) nx aux z f ls st mm) S) (kk : ob_At w p l e R s m args below meth c Q c0 s0 (ob_mx f) S) : ob_At w p l e R s m args below meth c Q c0 s0 (ob_mx f) (f, pc, ls, st, mm) := by
  obtain ⟨b, st, rfl, h91⟩ := ob_l1_x h
  obtain ⟨a, st, rfl, h92⟩ := ob_l1_x h91
  obtain rfl := ob_go_x h92
  obtain ⟨hd, rfl⟩ := ob_okd hok (n := 1) (ob_okI_of hok)
  intro LS H locs I
  refine lv_ladd X.1 X.2.1 hd ?_
  rw [← ob_l_add]
  exact kk LS H locs (ob_Iv_st I (ob_al1 (v := (2, ob_wl _)) (ob_wl_r _) (fun x hx => I.2.2.1 x (List.mem_cons_of_mem _ (List.mem_cons_of_mem _ hx)))))
set_option maxRecDepth 100000 in
theorem ob_s_lmul  (X : ob_Cx w p R s m args meth c f) (hok : ob_ok f pc (.lmul, nx, aux, z) = true) (h : ob_nx (ob_ins (.lmul) nx aux z f ls st mm) S) (kk : ob_At w p l e R s m args below meth c Q c0 s0 (ob_mx f) S) : ob_At w p l e R s m args below meth c Q c0 s0 (ob_mx f) (f, pc, ls, st, mm) := by
  obtain ⟨b, st, rfl, h91⟩ := ob_l1_x h
  obtain ⟨a, st, rfl, h92⟩ := ob_l1_x h91
  obtain rfl := ob_go_x h92
  obtain ⟨hd, rfl⟩ := ob_okd hok (n := 1) (ob_okI_of hok)
  intro LS H locs I
  refine lv_lmul X.1 X.2.1 hd ?_
  rw [← ob_l_mul]
  exact kk LS H locs (ob_Iv_st I (ob_al1 (v := (2, ob_wl _)) (ob_wl_r _) (fun x hx => I.2.2.1 x (List.mem_cons_of_mem _ (List.mem_cons_of_mem _ hx)))))
set_option maxRecDepth 100000 in
theorem ob_s_lcmp  (X : ob_Cx w p R s m args meth c f) (hok : ob_ok f pc (.lcmp, nx, aux, z) = true) (h : ob_nx (ob_ins (.lcmp) nx aux z f ls st mm) S) (kk : ob_At w p l e R s m args below meth c Q c0 s0 (ob_mx f) S) : ob_At w p l e R s m args below meth c Q c0 s0 (ob_mx f) (f, pc, ls, st, mm) := by
  obtain ⟨b, st, rfl, h91⟩ := ob_l1_x h
  obtain ⟨a, st, rfl, h92⟩ := ob_l1_x h91
  obtain rfl := ob_go_x h92
  obtain ⟨hd, rfl⟩ := ob_okd hok (n := 1) (ob_okI_of hok)
  intro LS H locs I
  have hb : ob_r64 b := I.2.2.1 (2, b) List.mem_cons_self
  have ha : ob_r64 a := I.2.2.1 (2, a) (List.mem_cons_of_mem _ List.mem_cons_self)
  refine W.lcmp X.1 X.2.1 hd ?_
  rw [ob_i_cmp ha hb]
  exact kk LS H locs (ob_Iv_st I (ob_al1 (v := (1, ob_cmp a b)) (ob_cmp_r _ _) (fun x hx => I.2.2.1 x (List.mem_cons_of_mem _ (List.mem_cons_of_mem _ hx)))))
set_option maxRecDepth 100000 in
theorem ob_s_dup  (X : ob_Cx w p R s m args meth c f) (hok : ob_ok f pc (.dup, nx, aux, z) = true) (h : ob_nx (ob_ins (.dup) nx aux z f ls st mm) S) (kk : ob_At w p l e R s m args below meth c Q c0 s0 (ob_mx f) S) : ob_At w p l e R s m args below meth c Q c0 s0 (ob_mx f) (f, pc, ls, st, mm) := by
  have h : ob_nx (ob_v1 st (fun v st => ob_go (f, nx, ls, v :: v :: st, mm))) S := h
  obtain ⟨v, st, rfl, hv, h91⟩ := ob_v1_x h
  obtain rfl := ob_go_x h91
  obtain ⟨hd, rfl⟩ := ob_okd hok (n := 1) (ob_okI_of hok)
  intro LS H locs I
  refine lv_dup X.1 X.2.1 hd (ob_cat hv) ?_
  exact kk LS H locs (ob_Iv_st I (ob_al1 (I.2.2.1 _ List.mem_cons_self) I.2.2.1))
set_option maxRecDepth 100000 in
theorem ob_s_dup2  (X : ob_Cx w p R s m args meth c f) (hok : ob_ok f pc (.dup2, nx, aux, z) = true) (h : ob_nx (ob_ins (.dup2) nx aux z f ls st mm) S) (kk : ob_At w p l e R s m args below meth c Q c0 s0 (ob_mx f) S) : ob_At w p l e R s m args below meth c Q c0 s0 (ob_mx f) (f, pc, ls, st, mm) := by
  have h : ob_nx (ob_v1 st (fun v st => ob_v1 st (fun w st => ob_go (f, nx, ls, v :: w :: v :: w :: st, mm)))) S := h
  obtain ⟨v, st, rfl, hv, h91⟩ := ob_v1_x h
  obtain ⟨v2, st, rfl, hv2, h92⟩ := ob_v1_x h91
  obtain rfl := ob_go_x h92
  obtain ⟨hd, rfl⟩ := ob_okd hok (n := 1) (ob_okI_of hok)
  intro LS H locs I
  refine lv_dup2_11 X.1 X.2.1 hd (ob_cat hv) (ob_cat hv2) ?_
  exact kk LS H locs (ob_Iv_st I (ob_al1 (I.2.2.1 _ List.mem_cons_self) (ob_al1 (I.2.2.1 _ (List.mem_cons_of_mem _ List.mem_cons_self)) I.2.2.1)))
set_option maxRecDepth 100000 in
theorem ob_s_pop  (X : ob_Cx w p R s m args meth c f) (hok : ob_ok f pc (.pop, nx, aux, z) = true) (h : ob_nx (ob_ins (.pop) nx aux z f ls st mm) S) (kk : ob_At w p l e R s m args below meth c Q c0 s0 (ob_mx f) S) : ob_At w p l e R s m args below meth c Q c0 s0 (ob_mx f) (f, pc, ls, st, mm) := by
  have h : ob_nx (ob_v1 st (fun _ st => ob_go (f, nx, ls, st, mm))) S := h
  obtain ⟨v, st, rfl, hv, h91⟩ := ob_v1_x h
  obtain rfl := ob_go_x h91
  obtain ⟨hd, rfl⟩ := ob_okd hok (n := 1) (ob_okI_of hok)
  intro LS H locs I
  refine lv_pop X.1 X.2.1 hd (ob_cat hv) ?_
  exact kk LS H locs (ob_Iv_st I (fun x hx => I.2.2.1 x (List.mem_cons_of_mem _ hx)))
set_option maxRecDepth 100000 in
theorem ob_s_goto {off : Int} (X : ob_Cx w p R s m args meth c f) (hok : ob_ok f pc (.goto off, nx, aux, z) = true) (h : ob_nx (ob_ins (.goto off) nx aux z f ls st mm) S) (kk : ob_At w p l e R s m args below meth c Q c0 s0 (ob_mx f) S) : ob_At w p l e R s m args below meth c Q c0 s0 (ob_mx f) (f, pc, ls, st, mm) := by
  obtain rfl := ob_go_x h
  have g : (Nat.beq nx (pc + 3) && decide ((pc : Int) + off = Int.ofNat (ob_nth aux 0 0))) = true := ob_okI_of hok
  rw [Bool.and_eq_true] at g
  obtain ⟨hd, rfl⟩ := ob_okd hok g.1
  intro LS H locs I
  refine lv_goto X.1 X.2.1 hd (of_decide_eq_true g.2) ?_
  exact kk LS H locs I
end ob_Sim
