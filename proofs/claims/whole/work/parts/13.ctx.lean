-- ALLOCATION, SEALING, AND WHERE THE MACHINE STANDS
theorem ob_arrV_c {cA : ClassId} {N : Nat} {f g : Nat → Value} (h : ∀ j, j < N → f j = g j) : arrV cA N f = arrV cA N g := by
  unfold arrV
  congr 1
  congr 1
  funext j
  exact h j.val j.isLt
theorem ob_Cel_d {w : ob_Wd} {mm mm' : ob_MM} {k : Nat} {i : Int} {H H' : Heap} (h : ob_Cel w mm k i H) (hv : ∀ s : Nat, s < ob_ns k → ob_vl w mm' k i s = ob_vl w mm k i s) (hH : H'[ob_sz w + ob_off k i]? = H[ob_sz w + ob_off k i]?) : ob_Cel w mm' k i H' := by
  refine ⟨fun q => ((h.1 q).kept hH).to (fun j hj => (hv j hj).symm), fun q => ?_⟩
  rw [hH, h.2 q]
  congr 1
  exact (ob_arrV_c hv).symm
theorem ob_ini_new {w : ob_Wd} {m : ob_Mem} {C : ob_CI} {H : Heap} (h : ob_Rep w (m, some C) H) {k : Nat} {i : Int} (ho : ob_off k i = C.1) (s : Int) : C.2.2.contains (k, i, s) = false := by
  cases e : C.2.2.contains (k, i, s) with
  | false => rfl
  | true =>
    have h1 := (h.2.2.2.2.2.2 C rfl).1 _ (by simpa using e)
    have h1 : ob_off k i < C.1 := h1
    omega
theorem ob_vl_new {w : ob_Wd} {m : ob_Mem} {C : ob_CI} {H : Heap} (h : ob_Rep w (m, some C) H) {k : Nat} {i : Int} (ho : ob_off k i = C.1) (hl : C.1 < ob_layN) (n1 n2 : Nat) (s : Nat) : ob_vl w (m, some (n1, n2, C.2.2)) k i s = cond (Nat.beq (ob_sk k s).1 0) (.int (Int32.ofInt 0)) .null := by
  have hk := ob_lay_k _ (ob_off_mem (k := k) (i := i) (by rw [ho]; exact hl))
  have hz : m k i (s : Int) = 0 := (h.2.2.2.2.2.2 C rfl).2 k i s hk.1 hk.2.1 (by rw [ho]; exact Nat.le_refl _)
  unfold ob_vl
  split
  · rename_i e
    rw [e]
    show Value.int (Int32.ofInt (m k i s)) = _
    rw [hz]
    rfl
  · rename_i e
    rw [e]
    show cond (C.2.2.contains (k, i, (s : Int))) _ _ = _
    rw [ob_ini_new h ho]
    rfl
theorem ob_Rep_new {w : ob_Wd} {m : ob_Mem} {C : ob_CI} {H H' : Heap} {k n : Nat} {i : Int} (h : ob_Rep w (m, some C) H) (hl : C.1 < ob_layN) (ho : ob_off k i = C.1) (hsz : H'.size = H.size + 1) (hs : ∀ q : Nat, q < H.size → H'[q]? = H[q]?) (hc : ob_Cel w (m, some (C.1 + 1, C.2.1 + n, C.2.2)) k i H') : ob_Rep w (m, some (C.1 + 1, C.2.1 + n, C.2.2)) H' := by
  obtain ⟨r1, r2, r3, r4, r5, r6, r7⟩ := id h
  have r1 : H.size = ob_sz w + C.1 := r1
  refine ⟨?_, hl, ?_, r4, r5, ?_, ?_⟩
  · show H'.size = ob_sz w + (C.1 + 1)
    omega
  · intro k' i' h'
    have h' : ob_off k' i' < C.1 + 1 := h'
    by_cases q : ob_off k' i' = C.1
    · obtain ⟨rfl, rfl⟩ := ob_off_inj (k := k) (i := i) (by rw [ho]; exact hl) (q.trans ho.symm)
      exact hc
    · exact ob_Cel_c (r3 k' i' (show ob_off k' i' < C.1 by omega)) (fun s => rfl) (hs _ (by omega))
  · intro k' i' s' h' hs' tk md hsk hini
    have h' : ob_off k' i' < C.1 + 1 := h'
    have hini : C.2.2.contains (k', i', (s' : Int)) = true := hini
    by_cases q : ob_off k' i' = C.1
    · rw [ob_ini_new h q] at hini
      cases hini
    · have z := r6 k' i' s' (show ob_off k' i' < C.1 by omega) hs' tk md hsk hini
      exact ⟨z.1, Nat.lt_succ_of_lt z.2⟩
  · intro C' hC'
    cases hC'
    obtain ⟨g1, g2⟩ := r7 C rfl
    exact ⟨fun q hq => Nat.lt_succ_of_lt (g1 q hq), fun k' i' s' n1 n2 hle => g2 k' i' s' n1 n2 (Nat.le_of_succ_le hle)⟩
theorem ob_kt3 : ∀ q ∈ ob_kt, q.2.2.1 ≠ 0 → q.2.1 = 3 := by decide +kernel
theorem ob_kq3 (k : Nat) (h : (ob_kq k).2.2.1 ≠ 0) : (ob_kq k).2.1 = 3 := by
  by_cases q : k < ob_kt.length
  · exact ob_kt3 _ (List.mem_of_getElem? (ob_nth_get _ _ _ q)) h
  · exact absurd (by unfold ob_kq; rw [ob_nth_ge _ _ _ (Nat.not_lt.mp q)]) h
theorem ob_refs_in {k s tk md : Nat} {i : Int} (h : ob_off k i < ob_layN) (hs : s < ob_ns k) (hk : ob_sk k s = (tk + 1, md)) : (k, i, (s : Int)) ∈ ob_refs := by
  refine List.mem_flatMap.mpr ⟨(k, i), ob_off_mem h, ?_⟩
  by_cases q : k ≤ 8
  · have e1 : Nat.ble k 8 = true := Nat.ble_eq.mpr q
    have e2 : Nat.ble 9 k = false := by
      cases e : Nat.ble 9 k with
      | false => rfl
      | true => exact absurd (Nat.ble_eq.mp e) (by omega)
    unfold ob_sk at hk
    unfold ob_ns at hs
    rw [e1] at hk hs
    show (k, i, (s : Int)) ∈ cond (Nat.ble 9 k) _ _
    rw [e2]
    have hs : s < (ob_nth ob_ft k []).length := hs
    have hk : ((ob_ftq k s).1, (ob_ftq k s).2.1) = (tk + 1, md) := hk
    refine List.mem_map.mpr ⟨(ob_ftq k s, s), List.mem_filter.mpr ⟨?_, ?_⟩, rfl⟩
    · exact List.mem_zipIdx_iff_getElem?.mpr (ob_nth_get _ _ _ hs)
    · have e3 : (ob_ftq k s).1 = tk + 1 := congrArg Prod.fst hk
      show (!Nat.beq (ob_ftq k s).1 0) = true
      rw [e3]
      rfl
  · have e1 : Nat.ble k 8 = false := by
      cases e : Nat.ble k 8 with
      | false => rfl
      | true => exact absurd (Nat.ble_eq.mp e) q
    have e2 : Nat.ble 9 k = true := Nat.ble_eq.mpr (by omega)
    unfold ob_sk at hk
    unfold ob_ns at hs
    rw [e1] at hk hs
    show (k, i, (s : Int)) ∈ cond (Nat.ble 9 k) _ _
    rw [e2]
    have hk : ((ob_kq k).2.2.1, (ob_kq k).2.2.2) = (tk + 1, md) := hk
    have e3 : (ob_kq k).2.2.1 = tk + 1 := congrArg Prod.fst hk
    have e4 := ob_kq3 k (by rw [e3]; exact Nat.succ_ne_zero _)
    have hs : s < (ob_kq k).1.toNat := hs
    show (k, i, (s : Int)) ∈ (match ob_kq k with
      | (n, 3, _, _) => (List.range n.toNat).map fun (s : Nat) => (k, i, Int.ofNat s)
      | _ => [])
    generalize ob_kq k = Z at e4 hs
    obtain ⟨n, a, b, c⟩ := Z
    have e4 : a = 3 := e4
    subst e4
    exact List.mem_map.mpr ⟨s, List.mem_range.mpr hs, rfl⟩
theorem ob_full_in {C : ob_CI} (hf : ob_full C = true) : C.1 = ob_layN ∧ C.2.1 = ob_sltN ∧ ∀ q ∈ ob_refs, C.2.2.contains q = true := by
  unfold ob_full at hf
  rw [Bool.and_eq_true, Bool.and_eq_true] at hf
  exact ⟨Nat.eq_of_beq_eq_true hf.1.1, Nat.eq_of_beq_eq_true hf.1.2, List.all_eq_true.mp hf.2⟩
theorem ob_Rep_seal {w : ob_Wd} {m : ob_Mem} {C : ob_CI} {H : Heap} (h : ob_Rep w (m, some C) H) (hf : ob_full C = true) : ob_Rep w (m, none) H := by
  obtain ⟨f1, f2, f3⟩ := ob_full_in hf
  obtain ⟨r1, r2, r3, r4, r5, r6, r7⟩ := h
  have e : ob_nA (m, some C) = ob_layN := f1
  rw [e] at r1 r3 r6
  refine ⟨r1, Nat.le_refl _, ?_, r4, r5, ?_, ?_⟩
  · intro k i h'
    refine ob_Cel_d (r3 k i h') (fun s hs => ?_) rfl
    unfold ob_vl
    split
    · rfl
    · rename_i e
      have z : C.2.2.contains (k, i, (s : Int)) = true := f3 _ (ob_refs_in h' hs e)
      show cond true _ _ = cond (C.2.2.contains (k, i, (s : Int))) _ _
      rw [z]
  · intro k i s h' hs tk md hsk _
    exact r6 k i s h' hs tk md hsk (f3 _ (ob_refs_in h' hs hsk))
  · intro C' hC'
    cases hC'
def ob_KK (w : ob_Wd) (U : State) : Prop := va_K (ob_dC w, ob_dI w) ob_cl [] U ∧ (∀ k, 16 ≤ k → k < 57 → ArrOfT U (ob_dA w (ob_ai k)) (ob_aty k) ∧ va_RA U (ob_dA w (ob_ai k)) (ob_aty k)) ∧ (∀ q ∈ ob_MN, va_Nw (.methodLinkNest (ob_cn q.1) q.2.1 (ob_y q.2.2.1) "OrganBarrel") U) ∧ (∀ k, 16 ≤ k → k < 57 → (ob_kq k).2.1 = 3 → va_AO (ob_cn ((ob_kq k).2.2.1 - 1)) U)
theorem ob_KK_warm {w : ob_Wd} {s U : State} (hW : s.WarmedH U.vm) (h : ob_KK w s) : ob_KK w U :=
  ⟨va_K.moved hW.alike h.1, fun k h1 h2 => ⟨arrOfT_moved hW.alike (h.2.1 k h1 h2).1, (h.2.1 k h1 h2).2.moved hW.alike⟩, fun q hq => (h.2.2.1 q hq).warmM hW, fun k h1 h2 h3 => (h.2.2.2 k h1 h2 h3).moved hW.alike⟩
def ob_Cx (w : ob_Wd) (p : Program) (R : Room) (s : State) (m : MethodId) (args : Array Value) (meth : Method) (c : Code) (f : Nat) : Prop :=
  p.tables.exec = Jvm.exec ∧ c.code = ob_by f ∧ c.maxLocals = ob_mx f ∧ s.vm.findClass (ob_cn (ob_ow f)) = some m.cls ∧ (∀ x ∈ ob_gt, x.before args s = true) ∧ meth.locks = false ∧ meth.sig.returnType = ob_rt f ∧ (f ≠ 238 → meth.name = (ob_y f).name) ∧ ob_KK w s ∧ va_X (ob_b w) (ob_L w) (ob_xs w) s s.heap ∧ (ob_b w < ob_sz w ∧ ob_sz w ≤ s.heap.size) ∧ (ob_rk f ≤ R.frames ∧ 38 * ob_rk f ≤ R.locals)
def ob_Iv (w : ob_Wd) (s : State) (c0 s0 nL : Nat) (ls st : List ob_AV) (mm : ob_MM) (LS : Array Slot) (H : Heap) (locs : List Loc) : Prop :=
  ob_Rep w mm H ∧ (LS.size = nL ∧ lv_wf LS ∧ ls.length = nL ∧ ∀ k : Nat, (ob_nth ls k (0, 0)).1 ≠ 0 → LS[k]? = some (.val (ob_cv w (ob_nth ls k (0, 0)))) ∧ ob_okv (ob_nA mm) (ob_nth ls k (0, 0))) ∧ (∀ v ∈ st, ob_okv (ob_nA mm) v) ∧ (∀ q : Nat, q < ob_sz w → H[q]? = s.heap[q]?) ∧ (∀ q ∈ locs, ob_sz w ≤ q.base) ∧ c0 ≤ ob_nA mm ∧ s0 ≤ ob_nS mm
def ob_At (w : ob_Wd) (p : Program) (l : Launch) (e : Env) (R : Room) (s : State) (m : MethodId) (args : Array Value) (below : List Frame) (meth : Method) (c : Code) (Q : State → Prop) (c0 s0 nL : Nat) : ob_St → Prop
  | (_, pc, ls, st, mm) => ∀ (LS : Array Slot) (H : Heap) (locs : List Loc), ob_Iv w s c0 s0 nL ls st mm LS H locs → W p l e R s m args below meth c H locs (ob_nA mm - c0) (ob_nS mm - s0) Q (F0 m pc LS (st.map (ob_cv w)))
/-- the next state, where there is just one -/
def ob_nx (a : ob_Ac) (S : ob_St) : Prop := a = ob_go S ∨ ∃ d : ob_Dc, a = ob_gd d S ∧ d.1
theorem ob_stop_x {r : ob_Res} {S : ob_St} (h : ob_nx (ob_stop r) S) : False := by
  rcases h with h | ⟨d, h, -⟩ <;> cases h
theorem ob_go_x {T S : ob_St} (h : ob_nx (ob_go T) S) : S = T := by
  rcases h with h | ⟨d, h, -⟩
  · cases h
    rfl
  · cases h
theorem ob_gd_x {d : ob_Dc} {T S : ob_St} (h : ob_nx (ob_gd d T) S) : d.1 ∧ S = T := by
  rcases h with h | ⟨d', h, hd⟩
  · cases h
  · cases h
    exact ⟨hd, rfl⟩
theorem ob_br_x {d : ob_Dc} {T T' S : ob_St} (h : ob_nx (ob_br d T T') S) : False := by
  rcases h with h | ⟨d', h, hd⟩ <;> cases h
theorem ob_ca_x {T S : ob_St} {k : Int → ob_MM → ob_St} (h : ob_nx (ob_ca T k) S) : False := by
  rcases h with h | ⟨d', h, hd⟩ <;> cases h
theorem ob_sw_x {v : Int} {cs : List (Int × ob_St)} {T S : ob_St} (h : ob_nx (ob_sw v cs T) S) : False := by
  rcases h with h | ⟨d', h, hd⟩ <;> cases h
theorem ob_cnd_x {cd : ClassFile.Cond} {a b : Int} {T T' S : ob_St} (h : ob_nx (ob_cnd cd a b T T') S) : False := by
  cases cd <;> exact ob_br_x h
theorem ob_cond_x {b : Bool} {a : ob_Ac} {r : ob_Res} {S : ob_St} (h : ob_nx (cond b a (ob_stop r)) S) : b = true ∧ ob_nx a S := by
  cases b with
  | false => exact (ob_stop_x h).elim
  | true => exact ⟨rfl, h⟩
theorem ob_cond_y {b : Bool} {a : ob_Ac} {r : ob_Res} {S : ob_St} (h : ob_nx (cond b (ob_stop r) a) S) : b = false ∧ ob_nx a S := by
  cases b with
  | true => exact (ob_stop_x h).elim
  | false => exact ⟨rfl, h⟩
theorem ob_i1_x {st : List ob_AV} {K : Int → List ob_AV → ob_Ac} {S : ob_St} (h : ob_nx (ob_i1 st K) S) : ∃ a r, st = (1, a) :: r ∧ ob_nx (K a r) S := by
  unfold ob_i1 at h
  split at h
  · exact ⟨_, _, rfl, h⟩
  · exact (ob_stop_x h).elim
theorem ob_l1_x {st : List ob_AV} {K : Int → List ob_AV → ob_Ac} {S : ob_St} (h : ob_nx (ob_l1 st K) S) : ∃ a r, st = (2, a) :: r ∧ ob_nx (K a r) S := by
  unfold ob_l1 at h
  split at h
  · exact ⟨_, _, rfl, h⟩
  · exact (ob_stop_x h).elim
theorem ob_r1_x {st : List ob_AV} {K : Nat → Int → List ob_AV → ob_Ac} {S : ob_St} (h : ob_nx (ob_r1 st K) S) : ∃ t i r, st = (t + 3, i) :: r ∧ ob_nx (K t i r) S := by
  unfold ob_r1 at h
  split at h
  · exact ⟨_, _, _, rfl, h⟩
  · exact (ob_stop_x h).elim
theorem ob_v1_x {st : List ob_AV} {K : ob_AV → List ob_AV → ob_Ac} {S : ob_St} (h : ob_nx (ob_v1 st K) S) : ∃ v r, st = v :: r ∧ v.1 ≠ 2 ∧ ob_nx (K v r) S := by
  unfold ob_v1 at h
  split at h
  · exact (ob_stop_x h).elim
  · obtain ⟨h1, h2⟩ := ob_cond_y h
    refine ⟨_, _, rfl, fun q => ?_, h2⟩
    dsimp only at q
    rw [q] at h1
    cases h1
theorem ob_ldi_x {ls : List ob_AV} {k : Nat} {K : Int → ob_Ac} {S : ob_St} (h : ob_nx (ob_ldi ls k K) S) : ∃ a, ob_nth ls k (0, 0) = (1, a) ∧ ob_nx (K a) S := by
  unfold ob_ldi at h
  split at h
  · exact ⟨_, by assumption, h⟩
  · exact (ob_stop_x h).elim
theorem ob_ldl_x {ls : List ob_AV} {k : Nat} {K : Int → ob_Ac} {S : ob_St} (h : ob_nx (ob_ldl ls k K) S) : ∃ a, ob_nth ls k (0, 0) = (2, a) ∧ ob_nx (K a) S := by
  unfold ob_ldl at h
  split at h
  · exact ⟨_, by assumption, h⟩
  · exact (ob_stop_x h).elim
theorem ob_ldr_x {ls : List ob_AV} {k : Nat} {K : Nat → Int → ob_Ac} {S : ob_St} (h : ob_nx (ob_ldr ls k K) S) : ∃ t i, ob_nth ls k (0, 0) = (t + 3, i) ∧ ob_nx (K t i) S := by
  unfold ob_ldr at h
  split at h
  · exact ⟨_, _, by assumption, h⟩
  · exact (ob_stop_x h).elim
theorem ob_sto_x {ls : List ob_AV} {k : Nat} {v : ob_AV} {K : List ob_AV → ob_Ac} {S : ob_St} (h : ob_nx (ob_sto ls k v K) S) : (∀ j, j + 1 = k → (ob_nth ls j (0, 0)).1 ≠ 2) ∧ ob_nx (K (ob_upd ls k v)) S := by
  unfold ob_sto at h
  split at h
  · exact ⟨fun j hj => absurd hj (Nat.succ_ne_zero _), h⟩
  · split at h
    rename_i n x e
    obtain ⟨h1, h2⟩ := ob_cond_y h
    refine ⟨fun j hj => ?_, h2⟩
    have hj := Nat.succ.inj hj
    rw [hj, e]
    intro q
    have q : n = 2 := q
    rw [q] at h1
    cases h1
theorem ob_okd {f pc nx n : Nat} {aux : List Nat} {z : Int} {ins : Instr} (hok : ob_ok f pc (ins, nx, aux, z) = true) (hn : Nat.beq nx (pc + n) = true) : decode (ob_by f) pc = .ok (ins, n) ∧ nx = pc + n := by
  have e := Nat.eq_of_beq_eq_true hn
  have h : (decide (decode (ob_by f) pc = .ok (ins, nx - pc)) && Nat.blt pc nx && ob_okI f pc ins nx aux z) = true := hok
  rw [Bool.and_eq_true, Bool.and_eq_true] at h
  have h1 := of_decide_eq_true h.1.1
  rw [show nx - pc = n by omega] at h1
  exact ⟨h1, e⟩
theorem ob_okI_of {f pc nx : Nat} {aux : List Nat} {z : Int} {ins : Instr} (hok : ob_ok f pc (ins, nx, aux, z) = true) : ob_okI f pc ins nx aux z = true := by
  have h : (decide (decode (ob_by f) pc = .ok (ins, nx - pc)) && Nat.blt pc nx && ob_okI f pc ins nx aux z) = true := hok
  rw [Bool.and_eq_true, Bool.and_eq_true] at h
  exact h.2
theorem ob_okdl {f pc nx : Nat} {aux : List Nat} {z : Int} {ins : Instr} (hok : ob_ok f pc (ins, nx, aux, z) = true) : decode (ob_by f) pc = .ok (ins, nx - pc) := by
  have h : (decide (decode (ob_by f) pc = .ok (ins, nx - pc)) && Nat.blt pc nx && ob_okI f pc ins nx aux z) = true := hok
  rw [Bool.and_eq_true, Bool.and_eq_true] at h
  exact of_decide_eq_true h.1.1
theorem ob_Iv_st {w : ob_Wd} {s : State} {c0 s0 nL : Nat} {ls st st' : List ob_AV} {mm : ob_MM} {LS : Array Slot} {H : Heap} {locs : List Loc} (h : ob_Iv w s c0 s0 nL ls st mm LS H locs) (hs : ∀ v ∈ st', ob_okv (ob_nA mm) v) : ob_Iv w s c0 s0 nL ls st' mm LS H locs := ⟨h.1, h.2.1, hs, h.2.2.2⟩
theorem ob_al1 {n : Nat} {v : ob_AV} {r : List ob_AV} (h : ob_okv n v) (hr : ∀ x ∈ r, ob_okv n x) : ∀ x ∈ v :: r, ob_okv n x := List.forall_mem_cons.mpr ⟨h, hr⟩
theorem ob_cat {w : ob_Wd} : ∀ {v : ob_AV}, v.1 ≠ 2 → (ob_cv w v).category = 1
  | (0, _), _ => rfl
  | (1, _), _ => rfl
  | (2, _), h => absurd rfl h
  | (_ + 3, _), _ => rfl
theorem ob_cat2 {w : ob_Wd} : ∀ {v : ob_AV}, (ob_cv w v).category = 2 → v.1 = 2
  | (0, _), h => by cases h
  | (1, _), h => by cases h
  | (2, _), _ => rfl
  | (_ + 3, _), h => by cases h
/-- the locals that are known, as the kit's list -/
def ob_lv (w : ob_Wd) (ls : List ob_AV) : List (Nat × Value) := (List.range ls.length).filterMap fun k => cond (Nat.beq (ob_nth ls k (0, 0)).1 0) none (some (k, ob_cv w (ob_nth ls k (0, 0))))
theorem ob_lv_in {w : ob_Wd} {ls : List ob_AV} {k : Nat} (h : (ob_nth ls k (0, 0)).1 ≠ 0) : (k, ob_cv w (ob_nth ls k (0, 0))) ∈ ob_lv w ls := by
  have hk : k < ls.length := Nat.not_le.mp fun q => h (by rw [ob_nth_ge _ _ _ q])
  refine List.mem_filterMap.mpr ⟨k, List.mem_range.mpr hk, ?_⟩
  rw [show Nat.beq (ob_nth ls k (0, 0)).1 0 = false from by
    cases e : Nat.beq (ob_nth ls k (0, 0)).1 0 with
    | false => rfl
    | true => exact absurd (Nat.eq_of_beq_eq_true e) h]
  rfl
theorem ob_lv_has {w : ob_Wd} {ls : List ob_AV} {LS : Array Slot} {nL n : Nat} (h : LS.size = nL ∧ lv_wf LS ∧ ls.length = nL ∧ ∀ k : Nat, (ob_nth ls k (0, 0)).1 ≠ 0 → LS[k]? = some (.val (ob_cv w (ob_nth ls k (0, 0)))) ∧ ob_okv n (ob_nth ls k (0, 0))) : lv_has LS nL (ob_lv w ls) := by
  refine ⟨h.1, h.2.1, fun q hq => ?_⟩
  obtain ⟨k, -, hk⟩ := List.mem_filterMap.mp hq
  cases e : Nat.beq (ob_nth ls k (0, 0)).1 0 with
  | true => rw [e] at hk; cases hk
  | false =>
    rw [e] at hk
    cases hk
    exact (h.2.2.2 k (fun z => by rw [z] at e; cases e)).1
theorem ob_st1 {w : ob_Wd} {s : State} {c0 s0 nL : Nat} {ls st st' : List ob_AV} {mm : ob_MM} {LS LS' : Array Slot} {H : Heap} {locs : List Loc} {k : Nat} {v : ob_AV} (h : ob_Iv w s c0 s0 nL ls st mm LS H locs) (hk : k < nL) (hv : ob_okv (ob_nA mm) v) (hj : ∀ j, j + 1 = k → (ob_nth ls j (0, 0)).1 ≠ 2) (hs : ∀ x ∈ st', ob_okv (ob_nA mm) x)
    (hl : lv_has LS' nL ((k, ob_cv w v) :: (ob_lv w ls).filter (fun q => !(q.1 == k) && !(q.1 + 1 == k && q.2.category == 2)))) : ob_Iv w s c0 s0 nL (ob_upd ls k v) st' mm LS' H locs := by
  obtain ⟨h1, ⟨h2, h3, h4, h5⟩, h6, h7⟩ := h
  refine ⟨h1, ⟨hl.1, hl.2.1, by rw [ob_upd_len]; exact h4, fun j hne => ?_⟩, hs, h7⟩
  rw [ob_nth_upd _ _ _ _ _ (by rw [h4]; exact hk)] at hne ⊢
  by_cases c : j = k
  · rw [if_pos c]
    subst c
    exact ⟨hl.2.2 _ List.mem_cons_self, hv⟩
  · rw [if_neg c] at hne ⊢
    refine ⟨hl.2.2 (j, ob_cv w (ob_nth ls j (0, 0))) (List.mem_cons_of_mem _ (List.mem_filter.mpr ⟨ob_lv_in hne, ?_⟩)), (h5 j hne).2⟩
    have e1 : (j == k) = false := by simpa using c
    rw [e1]
    by_cases d : j + 1 = k
    · have e2 : ((ob_cv w (ob_nth ls j (0, 0))).category == 2) = false := by
        have := hj j d
        rw [ob_cat this]
        rfl
      rw [e2]
      simp
    · have e2 : (j + 1 == k) = false := by simpa using d
      rw [e2]
      rfl
theorem ob_st2 {w : ob_Wd} {s : State} {c0 s0 nL : Nat} {ls st st' : List ob_AV} {mm : ob_MM} {LS LS' : Array Slot} {H : Heap} {locs : List Loc} {k : Nat} {v : ob_AV} (h : ob_Iv w s c0 s0 nL ls st mm LS H locs) (hk : k + 1 < nL) (hv : ob_okv (ob_nA mm) v) (hj : ∀ j, j + 1 = k → (ob_nth ls j (0, 0)).1 ≠ 2) (hs : ∀ x ∈ st', ob_okv (ob_nA mm) x)
    (hl : lv_has LS' nL ((k, ob_cv w v) :: (ob_lv w ls).filter (fun q => !(q.1 == k) && (!(q.1 == k + 1) && !(q.1 + 1 == k && q.2.category == 2))))) : ob_Iv w s c0 s0 nL (ob_upd (ob_upd ls k v) (k + 1) (0, 0)) st' mm LS' H locs := by
  obtain ⟨h1, ⟨h2, h3, h4, h5⟩, h6, h7⟩ := h
  refine ⟨h1, ⟨hl.1, hl.2.1, by rw [ob_upd_len, ob_upd_len]; exact h4, fun j hne => ?_⟩, hs, h7⟩
  rw [ob_nth_upd _ _ _ _ _ (by rw [ob_upd_len, h4]; exact hk), ob_nth_upd _ _ _ _ _ (by rw [h4]; omega)] at hne ⊢
  by_cases c0 : j = k + 1
  · rw [if_pos c0] at hne
    exact absurd rfl hne
  · rw [if_neg c0] at hne ⊢
    by_cases c : j = k
    · rw [if_pos c]
      subst c
      exact ⟨hl.2.2 _ List.mem_cons_self, hv⟩
    · rw [if_neg c] at hne ⊢
      refine ⟨hl.2.2 (j, ob_cv w (ob_nth ls j (0, 0))) (List.mem_cons_of_mem _ (List.mem_filter.mpr ⟨ob_lv_in hne, ?_⟩)), (h5 j hne).2⟩
      have e1 : (j == k) = false := by simpa using c
      have e0 : (j == k + 1) = false := by simpa using c0
      rw [e1, e0]
      by_cases d : j + 1 = k
      · have e2 : ((ob_cv w (ob_nth ls j (0, 0))).category == 2) = false := by
          have := hj j d
          rw [ob_cat this]
          rfl
        rw [e2]
        simp
      · have e2 : (j + 1 == k) = false := by simpa using d
        rw [e2]
        rfl
