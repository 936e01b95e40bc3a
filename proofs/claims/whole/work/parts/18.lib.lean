-- REFERENCES INTO ARRAYS, LIBRARY CALLS
theorem ob_wk_sum {w : ob_Wd} : ∀ (n : Nat) (r : List ob_AV), ob_wk n r = true → ((r.map (ob_cv w)).map fun v => v.category).sum ≤ n
  | n, [], _ => Nat.zero_le n
  | 0, _ :: _, h => by cases h
  | n + 1, (t, x) :: r, h => by
    have h : cond (Nat.beq t 2) (cond (Nat.beq n 0) false (ob_wk (n - 1) r)) (ob_wk n r) = true := h
    show (ob_cv w (t, x)).category + ((r.map (ob_cv w)).map fun v => v.category).sum ≤ n + 1
    cases e : Nat.beq t 2 with
    | true =>
      rw [e] at h
      cases e2 : Nat.beq n 0 with
      | true =>
        rw [e2] at h
        cases h
      | false =>
        rw [e2] at h
        have q := ob_wk_sum (w := w) (n - 1) r h
        have c2 := lv_cat (ob_cv w (t, x))
        have hn : n ≠ 0 := fun z => by rw [z] at e2; cases e2
        omega
    | false =>
      rw [e] at h
      have q := ob_wk_sum (w := w) n r h
      have c1 : (ob_cv w (t, x)).category = 1 := ob_cat (fun z => by
        have z : t = 2 := z
        rw [z] at e
        cases e)
      omega
theorem ob_i_max {a b : Int} (ha : ob_r32 a) (hb : ob_r32 b) : (if Int32.ofInt a < Int32.ofInt b then Int32.ofInt b else Int32.ofInt a) = Int32.ofInt (max a b) := by
  by_cases h : a < b
  · rw [if_pos ((ob_i_lt ha hb).mpr h), show max a b = b by omega]
  · rw [if_neg (fun q => h ((ob_i_lt ha hb).mp q)), show max a b = a by omega]
theorem ob_i_abs {a : Int} (ha : ob_r32 a) : (if 0 ≤ Int32.ofInt a then Int32.ofInt a else 0 - Int32.ofInt a) = Int32.ofInt (ob_abs a) := by
  unfold ob_abs
  by_cases h : a < 0
  · rw [if_pos h, if_neg (fun q => by have := (ob_i_le ob_r0 ha).mp q; omega), ob_i_wr, ← ob_i_0, ← Int32.ofInt_sub, Int.zero_sub]
  · rw [if_neg h, if_pos (show 0 ≤ Int32.ofInt a from (ob_i_le ob_r0 ha).mpr (by omega))]
section ob_Sim5
variable {w : ob_Wd} {p : Program} {l : Launch} {e : Env} {R : Room} {s : State} {m : MethodId} {args : Array Value} {below : List Frame} {meth : Method} {c : Code} {Q : State → Prop} {c0 s0 f pc nx nL : Nat} {aux : List Nat} {z : Int} {ls st : List ob_AV} {mm : ob_MM} {S : ob_St}
variable {H : Heap} {locs : List Loc} {cells slots : Nat} {LS : Array Slot} {rest : List Value}
set_option maxRecDepth 100000 in
theorem ob_s_aastore  (X : ob_Cx w p R s m args meth c f) (hok : ob_ok f pc (.aastore, nx, aux, z) = true) (h : ob_nx (ob_ins (.aastore) nx aux z f ls st mm) S) (kk : ob_At w p l e R s m args below meth c Q c0 s0 (ob_mx f) S) : ob_At w p l e R s m args below meth c Q c0 s0 (ob_mx f) (f, pc, ls, st, mm) := by
  obtain ⟨t2, i2, st, rfl, h91⟩ := ob_r1_x h
  obtain ⟨j, st, rfl, h92⟩ := ob_i1_x h91
  obtain ⟨t, i, st, rfl, h93⟩ := ob_r1_x h92
  obtain ⟨hq0, h94⟩ := ob_cond_x h93
  rw [Bool.and_eq_true] at hq0
  have hq : (ob_kq t).2.1 = 3 := ob_beq hq0.1
  have hq2 : t2 + 1 = (ob_kq t).2.2.1 := ob_beq hq0.2
  have h15 : t ≠ 15 := by
    intro q
    subst q
    exact absurd hq (by decide)
  obtain ⟨hd, rfl⟩ := ob_okd hok (n := 1) (ob_okI_of hok)
  have key : ∀ mm' : ob_MM, S = (f, pc + 1, ls, st, mm') → (0 ≤ j ∧ j < ob_ln mm.1 t) → mm'.2 = ob_add mm.2 t i j → (∀ (k' : Nat) (i' s' : Int), ¬ (k' = t ∧ i' = i ∧ s' = j) → mm'.1 k' i' s' = mm.1 k' i' s') → (∀ n : Nat, ob_pr n t2 i2 → t2 ≠ 15 → n ≤ ob_layN → ob_r32 (mm.1 t i j) → ob_r32 (mm'.1 t i j)) → i2 = ob_tg mm'.1 (ob_kq t).2.2.2 t i j → ob_At w p l e R s m args below meth c Q c0 s0 (ob_mx f) (f, pc, ls, (t2 + 3, i2) :: (1, j) :: (t + 3, i) :: st, mm) := by
    intro mm' hS hin hm2 hm1 hr hi2
    subst hS
    intro LS H locs I
    have hj : ob_r32 j := I.2.2.1 (1, j) (List.mem_cons_of_mem _ List.mem_cons_self)
    obtain ⟨hoff, h8, hcel, hA, hRA, hr16⟩ := ob_arr X I.1 (I.2.2.1 (t + 3, i) (List.mem_cons_of_mem _ (List.mem_cons_of_mem _ List.mem_cons_self))) h15 (by rw [hq]; decide)
    obtain ⟨x1, x2, x3⟩ := ob_ix h8 h15 hin.1 hin.2
    have h28 : t2 ≤ 8 := by have := (ob_kq3b hr16.2 hq).2; omega
    have hp2 := I.2.2.1 (t2 + 3, i2) List.mem_cons_self
    have hoff2 := ob_pr_off hp2 (by omega)
    rw [ob_aty_r hq, ← hq2] at hRA
    obtain ⟨kA, comp, k1, k2, k3, -⟩ := hRA
    have hcls := (X.2.2.2.2.2.2.2.2.1.1.1 t2 _ (ob_clk t2 h28)).2
    have hcomp : comp = ob_dC w t2 := Option.some.inj (k3.symm.trans hcls.1)
    subst hcomp
    obtain ⟨kC, hkC, -⟩ := id hcls.2
    obtain ⟨cellV, g1, g2, g3, -⟩ := (I.1.2.2.1 t2 i2 hoff2).1 h28
    show W p l e R s m args below meth c H locs _ _ Q (F0 m pc LS (Value.ref (ob_ad w t2 i2) :: Value.int (Int32.ofInt j) :: Value.ref (ob_ad w t i) :: List.map (ob_cv w) st))
    rw [ob_ad_n h15, ob_ad_n (show t2 ≠ 15 by omega)]
    refine W.aast X.1 X.2.1 hcel (fun q h => by cases h) (fun h => by cases h) k1 k2 rfl hkC ⟨fun q => by have := (ob_i_lt hj ob_r0).mp q; omega, by rw [arrV_size, ob_i_nat hin.1 hj]; exact x1⟩ g1 (fun q h => by rw [g3] at h; cases h) (by rw [g2]; exact hkC) (by rw [g2]; exact va_assign hcls) rfl rfl hd fun H1 e1 e2 e3 => ?_
    rw [ob_i_nat hin.1 hj, arrV_store] at e1
    rw [ob_i_nat hin.1 hj]
    have hnA : ob_nA mm' = ob_nA mm ∧ ob_nS mm' = ob_nS mm := by
      have := ob_add_nA mm.1 mm'.1 mm.2 t i j
      rw [← hm2] at this
      exact this
    have hini : ob_ini mm'.2 t i j = true := by rw [hm2]; exact ob_add_i
    have hsk : ob_sk t j.toNat = (t2 + 1, (ob_kq t).2.2.2) := by rw [ob_ska h8, ← hq2]
    have hvl : ob_vl w mm' t i j.toNat = .ref (ob_sz w + ob_off t2 i2) := by
      rw [ob_vl_r hsk (by rw [x3]; exact hini), x3, ← hi2, ob_ad_n (show t2 ≠ 15 by omega)]
    have K := kk LS H1 _ (ob_Iv_m (j := j.toNat) (mm' := mm') I ?_ hnA (fun v hv => I.2.2.1 v (List.mem_cons_of_mem _ (List.mem_cons_of_mem _ (List.mem_cons_of_mem _ hv)))) e3)
    · rw [hnA.1, hnA.2] at K
      exact K
    refine ob_Rep_sto (s := j.toNat) I.1 hoff e2 e3 ⟨fun q => absurd q h8, fun _ => by rw [hvl]; exact e1⟩ (fun k' i' s' q => hm1 k' i' s' (by rw [x3] at q; exact q)) (fun k' i' s' q => by rw [hm2]; exact ob_add_n (by rw [x3] at q; exact q)) (by rw [x3]; exact hr _ hp2 (by omega) I.1.2.1 (I.1.2.2.2.1 _ _ _)) hnA.1 (fun tk' md' q _ => by
      rw [hsk] at q
      cases q
      rw [x3, ← hi2]
      exact ⟨by omega, hoff2⟩) (by rw [hm2]; exact ob_add_C)
  split at h94
  · rename_i e3
    obtain ⟨hin, hS⟩ := ob_gd_x h94
    refine key _ hS hin rfl (fun k' i' s' q => ob_set_n q) (fun n hp ht2 hn _ => ?_) ?_
    · show ob_r32 (ob_set mm.1 t i j i2 t i j)
      rw [ob_set_e]
      exact ob_idx_r (Nat.lt_of_lt_of_le (ob_pr_off hp ht2) hn)
    · rw [e3]
      show i2 = ob_set mm.1 t i j i2 t i j
      rw [ob_set_e]
  · rename_i e3
    obtain ⟨C, hC, h4⟩ := ob_stat_x h94
    obtain ⟨⟨hin, hi2⟩, hS⟩ := ob_gd_x h4
    exact key _ hS hin rfl (fun k' i' s' q => rfl) (fun n hp ht2 hn h5 => h5) hi2
set_option maxRecDepth 100000 in
theorem ob_s_objInit {idx : Nat} (X : ob_Cx w p R s m args meth c f) (hok : ob_ok f pc (.invokespecial idx, nx, [0], z) = true) (h : ob_nx (ob_ins (.invokespecial idx) nx [0] z f ls st mm) S) (kk : ob_At w p l e R s m args below meth c Q c0 s0 (ob_mx f) S) : ob_At w p l e R s m args below meth c Q c0 s0 (ob_mx f) (f, pc, ls, st, mm) := by
  obtain ⟨t, i, st, rfl, h91⟩ := ob_r1_x h
  obtain ⟨hw, h92⟩ := ob_cond_x h91
  obtain rfl := ob_go_x h92
  have g : (Nat.beq nx (pc + 3) && (ob_in4 ob_SP (ob_ow f) idx 0 && Nat.ble 1 (ob_rk f))) = true := ob_okI_of hok
  rw [Bool.and_eq_true, Bool.and_eq_true] at g
  obtain ⟨hd, rfl⟩ := ob_okd hok g.1
  have hrk : 1 ≤ ob_rk f := Nat.ble_eq.mp g.2.2
  intro LS H locs I
  have hws := ob_wk_sum (w := w) 8 st hw
  have hR := X.2.2.2.2.2.2.2.2.2.2.2
  refine W.objInit X.1 X.2.1 X.2.2.2.1 (X.2.2.2.2.1 _ (ob_spl g.2.1)) (X.2.2.2.2.1 _ ob_sp_o1) (X.2.2.2.2.1 _ ob_sp_o2) rfl (by rw [X.2.2.1]; exact I.2.1.1) rfl hd (by omega) (by show 2 * 0 + _ + 12 ≤ _; omega) ?_
  exact kk LS H locs (ob_Iv_st I (fun v hv => I.2.2.1 v (List.mem_cons_of_mem _ hv)))
set_option maxRecDepth 100000 in
theorem ob_s_min {idx : Nat} (X : ob_Cx w p R s m args meth c f) (hok : ob_ok f pc (.invokestatic idx, nx, [2], z) = true) (h : ob_nx (ob_ins (.invokestatic idx) nx [2] z f ls st mm) S) (kk : ob_At w p l e R s m args below meth c Q c0 s0 (ob_mx f) S) (hb1 : ob_nA S.2.2.2.2 ≤ R.cells + c0) (hb2 : ob_nS S.2.2.2.2 ≤ R.slots + s0) : ob_At w p l e R s m args below meth c Q c0 s0 (ob_mx f) (f, pc, ls, st, mm) := by
  obtain ⟨b, st, rfl, h91⟩ := ob_i1_x h
  obtain ⟨a, st, rfl, h92⟩ := ob_i1_x h91
  obtain ⟨hw, h93⟩ := ob_cond_x h92
  obtain rfl := ob_go_x h93
  have g : (Nat.beq nx (pc + 3) && (ob_in4 ob_SP (ob_ow f) idx 2 && Nat.ble 1 (ob_rk f))) = true := ob_okI_of hok
  rw [Bool.and_eq_true, Bool.and_eq_true] at g
  obtain ⟨hd, rfl⟩ := ob_okd hok g.1
  have hrk : 1 ≤ ob_rk f := Nat.ble_eq.mp g.2.2
  intro LS H locs I
  have hws := ob_wk_sum (w := w) 8 st hw
  have hR := X.2.2.2.2.2.2.2.2.2.2.2
  have hb : ob_r32 b := I.2.2.1 (1, b) List.mem_cons_self
  have ha : ob_r32 a := I.2.2.1 (1, a) (List.mem_cons_of_mem _ List.mem_cons_self)
  have hb1 : ob_nA mm ≤ R.cells + c0 := hb1
  have hb2 : ob_nS mm ≤ R.slots + s0 := hb2
  refine va_mmin X.1 X.2.1 (by rw [X.2.2.1]; exact I.2.1.1.symm) X.2.2.2.1 (X.2.2.2.2.1 _ (ob_spl g.2.1)) (X.2.2.2.2.1 _ ob_sp_min1) (X.2.2.2.2.1 _ ob_sp_m0) (X.2.2.2.2.1 _ ob_sp_min2) (by omega) (by omega) (by omega) (by omega) hd ?_
  rw [ob_i_min ha hb]
  exact kk LS H locs (ob_Iv_st I (ob_al1 (v := (1, min a b)) (ob_min_r ha hb) (fun x hx => I.2.2.1 x (List.mem_cons_of_mem _ (List.mem_cons_of_mem _ hx)))))
set_option maxRecDepth 100000 in
theorem ob_s_max {idx : Nat} (X : ob_Cx w p R s m args meth c f) (hok : ob_ok f pc (.invokestatic idx, nx, [3], z) = true) (h : ob_nx (ob_ins (.invokestatic idx) nx [3] z f ls st mm) S) (kk : ob_At w p l e R s m args below meth c Q c0 s0 (ob_mx f) S) (hb1 : ob_nA S.2.2.2.2 ≤ R.cells + c0) (hb2 : ob_nS S.2.2.2.2 ≤ R.slots + s0) : ob_At w p l e R s m args below meth c Q c0 s0 (ob_mx f) (f, pc, ls, st, mm) := by
  obtain ⟨b, st, rfl, h91⟩ := ob_i1_x h
  obtain ⟨a, st, rfl, h92⟩ := ob_i1_x h91
  obtain ⟨hw, h93⟩ := ob_cond_x h92
  obtain rfl := ob_go_x h93
  have g : (Nat.beq nx (pc + 3) && (ob_in4 ob_SP (ob_ow f) idx 3 && Nat.ble 1 (ob_rk f))) = true := ob_okI_of hok
  rw [Bool.and_eq_true, Bool.and_eq_true] at g
  obtain ⟨hd, rfl⟩ := ob_okd hok g.1
  have hrk : 1 ≤ ob_rk f := Nat.ble_eq.mp g.2.2
  intro LS H locs I
  have hws := ob_wk_sum (w := w) 8 st hw
  have hR := X.2.2.2.2.2.2.2.2.2.2.2
  have hb : ob_r32 b := I.2.2.1 (1, b) List.mem_cons_self
  have ha : ob_r32 a := I.2.2.1 (1, a) (List.mem_cons_of_mem _ List.mem_cons_self)
  have hb1 : ob_nA mm ≤ R.cells + c0 := hb1
  have hb2 : ob_nS mm ≤ R.slots + s0 := hb2
  refine va_mmax X.1 X.2.1 (by rw [X.2.2.1]; exact I.2.1.1.symm) X.2.2.2.1 (X.2.2.2.2.1 _ (ob_spl g.2.1)) (X.2.2.2.2.1 _ ob_sp_max1) (X.2.2.2.2.1 _ ob_sp_m0) (X.2.2.2.2.1 _ ob_sp_max2) (by omega) (by omega) (by omega) (by omega) hd ?_
  rw [ob_i_max ha hb]
  exact kk LS H locs (ob_Iv_st I (ob_al1 (v := (1, max a b)) (ob_max_r ha hb) (fun x hx => I.2.2.1 x (List.mem_cons_of_mem _ (List.mem_cons_of_mem _ hx)))))
set_option maxRecDepth 100000 in
theorem ob_s_abs {idx : Nat} (X : ob_Cx w p R s m args meth c f) (hok : ob_ok f pc (.invokestatic idx, nx, [4], z) = true) (h : ob_nx (ob_ins (.invokestatic idx) nx [4] z f ls st mm) S) (kk : ob_At w p l e R s m args below meth c Q c0 s0 (ob_mx f) S) (hb1 : ob_nA S.2.2.2.2 ≤ R.cells + c0) (hb2 : ob_nS S.2.2.2.2 ≤ R.slots + s0) : ob_At w p l e R s m args below meth c Q c0 s0 (ob_mx f) (f, pc, ls, st, mm) := by
  obtain ⟨a, st, rfl, h92⟩ := ob_i1_x h
  obtain ⟨hw, h93⟩ := ob_cond_x h92
  obtain rfl := ob_go_x h93
  have g : (Nat.beq nx (pc + 3) && (ob_in4 ob_SP (ob_ow f) idx 4 && Nat.ble 1 (ob_rk f))) = true := ob_okI_of hok
  rw [Bool.and_eq_true, Bool.and_eq_true] at g
  obtain ⟨hd, rfl⟩ := ob_okd hok g.1
  have hrk : 1 ≤ ob_rk f := Nat.ble_eq.mp g.2.2
  intro LS H locs I
  have hws := ob_wk_sum (w := w) 8 st hw
  have hR := X.2.2.2.2.2.2.2.2.2.2.2
  have ha : ob_r32 a := I.2.2.1 (1, a) List.mem_cons_self
  have hb1 : ob_nA mm ≤ R.cells + c0 := hb1
  have hb2 : ob_nS mm ≤ R.slots + s0 := hb2
  refine va_mabs X.1 X.2.1 (by rw [X.2.2.1]; exact I.2.1.1.symm) X.2.2.2.1 (X.2.2.2.2.1 _ (ob_spl g.2.1)) (X.2.2.2.2.1 _ ob_sp_abs1) (X.2.2.2.2.1 _ ob_sp_m0) (X.2.2.2.2.1 _ ob_sp_abs2) (by omega) (by omega) (by omega) (by omega) hd ?_
  rw [ob_i_abs ha]
  exact kk LS H locs (ob_Iv_st I (ob_al1 (v := (1, ob_abs a)) (ob_abs_r ha) (fun x hx => I.2.2.1 x (List.mem_cons_of_mem _ hx))))
/-- System.arraycopy of numbers -/
theorem ob_Wcopy {idx a0 a : Nat} {d0 d1 : ClassId} {n0 n1 : Nat} {g0 g1 : Nat → Int32} {sp dp n : Int32} (X : ob_Cx w p R s m args meth c f) (hml : LS.size = ob_mx f) (hl : ob_in4 ob_SP (ob_ow f) idx 1 = true) (hc0 : H[a0]? = some (arrV d0 n0 (fun j => .int (g0 j)))) (hc1 : H[a]? = some (arrV d1 n1 (fun j => .int (g1 j)))) (hA0 : ArrOfT s d0 .int) (hA1 : ArrOfT s d1 .int)
    (h1 : ¬ sp < 0) (h2 : ¬ dp < 0) (h3 : ¬ n < 0) (h4 : sp.toNatClampNeg + n.toNatClampNeg ≤ n0) (h5 : dp.toNatClampNeg + n.toNatClampNeg ≤ n1)
    (hframes : 1 ≤ R.frames) (hlocals : (rest.map fun v => v.category).sum + (nativeFrameWords "java/lang/System" "arraycopy" 5 + 11) ≤ R.locals) (hdg : decode (ob_by f) pc = .ok (.invokestatic idx, 3))
    (kk : ∀ (H1 : Heap) (L : List Loc), H1[a]? = some (arrV d1 n1 (fun j => .int (va_cpy g0 g1 sp.toNatClampNeg dp.toNatClampNeg n.toNatClampNeg j))) → H1.size = H.size → (∀ q : Nat, q ≠ a → H1[q]? = H[q]?) → (∀ q ∈ L, q.base = a) → W p l e R s m args below meth c H1 (locs ++ L) cells slots Q (F0 m (pc + 3) LS rest)) : W p l e R s m args below meth c H locs cells slots Q (F0 m pc LS (.int n :: .int dp :: .ref a :: .int sp :: .ref a0 :: rest)) := by
  obtain ⟨hx, hb, hmx, hown, hts, -⟩ := X
  have nn : ∀ z : Int32, ¬ z < 0 → z.toInt = (z.toNatClampNeg : Int) := by
    intro z hz
    have hz0 : (0 : Int) ≤ z.toInt := by
      have := Int32.not_lt.mp hz
      simpa using Int32.le_iff_toInt_le.mp this
    show z.toInt = ((z.toInt.toNat : Nat) : Int)
    omega
  intro T hT X
  obtain ⟨-, k0, hk0, cm0, hkk0⟩ := hA0 n0 (fun j => .int (g0 j))
  obtain ⟨-, k1, hk1, cm1, hkk1⟩ := hA1 n1 (fun j => .int (g1 j))
  obtain ⟨vm', X', step⟩ := X.arraycopy hx hown (hts _ (ob_spl hl)) (hts _ ob_sp_a1) (hts _ ob_sp_a2) (hts _ ob_sp_a3) (src := a0) (dst := a) (cs := arrV d0 n0 (fun j => .int (g0 j))) (cd := arrV d1 n1 (fun j => .int (g1 j))) (srcPos := sp) (destPos := dp) (n := n) (by rw [hT]; exact hc0) (by rw [hT]; exact hc1)
    (fun _ h => by cases h) (fun _ h => by cases h) (fun h => by cases h) (fun h => by cases h) hk0 hk1 hkk0 hkk1 (by rfl) h1 h2 h3
    (by rw [nn sp h1, nn n h3]; show ¬ _ > ((arrV d0 n0 (fun j => .int (g0 j))).slots.size : Int); rw [arrV_size]; omega)
    (by rw [nn dp h2, nn n h3]; show ¬ _ > ((arrV d1 n1 (fun j => .int (g1 j))).slots.size : Int); rw [arrV_size]; omega)
    (fun vm₁ _ i hi => by
      have e : (arrV d0 n0 (fun j => Value.int (g0 j))).slots.getD (sp.toNatClampNeg + i) .null = .int (g0 (sp.toNatClampNeg + i)) := by
        rw [Array.getD_eq_getD_getElem?, arrV_read _ _ (by omega)]
        rfl
      refine ⟨?_, ?_⟩
      · rw [e]
        rfl
      · rw [e]
        exact trivial)
    (g := F0 m pc LS (.int n :: .int dp :: .ref a :: .int sp :: .ref a0 :: rest)) rfl (by rw [hmx]; exact hml) (rest := rest) rfl (by rw [hb]; exact hdg) hframes (by show 2 * 0 + _ + _ ≤ _; omega)
  have e1 : copied (arrV d0 n0 (fun j => Value.int (g0 j))) (arrV d1 n1 (fun j => Value.int (g1 j))) sp dp n = arrV d1 n1 (fun j => .int (va_cpy g0 g1 sp.toNatClampNeg dp.toNatClampNeg n.toNatClampNeg j)) := va_copied (fun z => .int z) d0 d1 g0 g1 h4
  rw [e1] at X' step
  have hlt : a < H.size := (Array.getElem?_eq_some_iff.mp hc1).1
  have hheap : ((T.setVm vm').setCell a (arrV d1 n1 (fun j => .int (va_cpy g0 g1 sp.toNatClampNeg dp.toNatClampNeg n.toNatClampNeg j)))).heap = H.setIfInBounds a (arrV d1 n1 (fun j => .int (va_cpy g0 g1 sp.toNatClampNeg dp.toNatClampNeg n.toNatClampNeg j))) := by rw [← hT]; rfl
  obtain ⟨t, a1, b1⟩ := kk _ _ (by simp [Array.getElem?_setIfInBounds, hlt]) (by simp) (fun q hq => by simp [Array.getElem?_setIfInBounds, Ne.symm hq]) (fun q hq => by
      obtain ⟨z, -, hz⟩ := List.mem_map.mp hq
      rw [← hz]) _ hheap X'
  exact ⟨t, step t a1, b1⟩
set_option maxRecDepth 100000 in
theorem ob_s_copy {idx : Nat} (X : ob_Cx w p R s m args meth c f) (hok : ob_ok f pc (.invokestatic idx, nx, [1], z) = true) (h : ob_nx (ob_ins (.invokestatic idx) nx [1] z f ls st mm) S) (kk : ob_At w p l e R s m args below meth c Q c0 s0 (ob_mx f) S) : ob_At w p l e R s m args below meth c Q c0 s0 (ob_mx f) (f, pc, ls, st, mm) := by
  obtain ⟨n, st, rfl, h91⟩ := ob_i1_x h
  obtain ⟨p2, st, rfl, h92⟩ := ob_i1_x h91
  obtain ⟨t2, i2, st, rfl, h93⟩ := ob_r1_x h92
  obtain ⟨pp, st, rfl, h94⟩ := ob_i1_x h93
  obtain ⟨t, i, st, rfl, h95⟩ := ob_r1_x h94
  obtain ⟨hq, h96⟩ := ob_cond_x h95
  obtain ⟨⟨⟨n0, n1, n2⟩, n3, n4⟩, rfl⟩ := ob_gd_x h96
  simp only [Bool.and_eq_true] at hq
  obtain ⟨⟨⟨⟨q1, q2⟩, q3⟩, q4⟩, hw⟩ := hq
  have q1 := ob_beq q1
  have q2 := ob_beq q2
  have h15 : t ≠ 15 := fun q => by rw [q] at q3; cases q3
  have h215 : t2 ≠ 15 := fun q => by rw [q] at q4; cases q4
  have g : (Nat.beq nx (pc + 3) && (ob_in4 ob_SP (ob_ow f) idx 1 && Nat.ble 1 (ob_rk f))) = true := ob_okI_of hok
  rw [Bool.and_eq_true, Bool.and_eq_true] at g
  obtain ⟨hd, rfl⟩ := ob_okd hok g.1
  have hrk : 1 ≤ ob_rk f := Nat.ble_eq.mp g.2.2
  intro LS H locs I
  have hws := ob_wk_sum (w := w) 8 st hw
  have hR := X.2.2.2.2.2.2.2.2.2.2.2
  have hn : ob_r32 n := I.2.2.1 (1, n) List.mem_cons_self
  have hp2 : ob_r32 p2 := I.2.2.1 (1, p2) (List.mem_cons_of_mem _ List.mem_cons_self)
  have hpp : ob_r32 pp := I.2.2.1 (1, pp) (List.mem_cons_of_mem _ (List.mem_cons_of_mem _ (List.mem_cons_of_mem _ List.mem_cons_self)))
  obtain ⟨hoff, h8, hcel, hA, -, -⟩ := ob_arr X I.1 (I.2.2.1 (t + 3, i) (List.mem_cons_of_mem _ (List.mem_cons_of_mem _ (List.mem_cons_of_mem _ (List.mem_cons_of_mem _ List.mem_cons_self))))) h15 (by rw [q1]; decide)
  obtain ⟨hoff2, h82, hcel2, hA2, -, -⟩ := ob_arr X I.1 (I.2.2.1 (t2 + 3, i2) (List.mem_cons_of_mem _ (List.mem_cons_of_mem _ List.mem_cons_self))) h215 (by rw [q2]; decide)
  have n3 : pp + n ≤ ob_ln mm.1 t := n3
  have n4 : p2 + n ≤ ob_ln mm.1 t2 := n4
  rw [ob_ln_n h15] at n3
  rw [ob_ln_n h215] at n4
  have hvv : ∀ (mm : ob_MM) (t : Nat) (i : Int), ¬ t ≤ 8 → (ob_kq t).2.1 = 0 → ob_vl w mm t i = fun (j : Nat) => Value.int (Int32.ofInt (mm.1 t i (j : Int))) := by
    intro mm t i h8 q
    funext j
    exact ob_vl_i (md := (ob_kq t).2.2.2) (by rw [ob_ska h8, ob_kq0 (by rw [q]; decide)])
  rw [hvv mm t i h8 q1] at hcel
  rw [hvv mm t2 i2 h82 q2] at hcel2
  rw [ob_aty_of q1] at hA
  rw [ob_aty_of q2] at hA2
  have hnf : nativeFrameWords "java/lang/System" "arraycopy" 5 ≤ 10 := by decide
  have e1 := ob_i_nat n1 hpp
  have e2 := ob_i_nat n2 hp2
  have e3 := ob_i_nat n0 hn
  have neg : ∀ x : Int, ob_r32 x → 0 ≤ x → ¬ Int32.ofInt x < 0 := fun x hx h0 q => by have := (ob_i_lt hx ob_r0).mp q; omega
  show W p l e R s m args below meth c H locs _ _ Q (F0 m pc LS (Value.int (Int32.ofInt n) :: Value.int (Int32.ofInt p2) :: Value.ref (ob_ad w t2 i2) :: Value.int (Int32.ofInt pp) :: Value.ref (ob_ad w t i) :: List.map (ob_cv w) st))
  rw [ob_ad_n h15, ob_ad_n h215]
  refine ob_Wcopy (g0 := fun j => Int32.ofInt (mm.1 t i (j : Int))) (g1 := fun j => Int32.ofInt (mm.1 t2 i2 (j : Int))) X I.2.1.1 g.2.1 hcel hcel2 hA hA2 (neg _ hpp n1) (neg _ hp2 n2) (neg _ hn n0) (by rw [e1, e3, ob_nsa h8]; omega) (by rw [e2, e3, ob_nsa h82]; omega) (by omega) (by omega) hd fun H1 L c1 c2 c3 c4 => ?_
  refine kk LS H1 _ (ob_Iv_w (mm' := (ob_cpy mm.1 t i pp t2 i2 p2 n, mm.2)) I ?_ ⟨rfl, rfl⟩ (fun v hv => I.2.2.1 v (List.mem_cons_of_mem _ (List.mem_cons_of_mem _ (List.mem_cons_of_mem _ (List.mem_cons_of_mem _ (List.mem_cons_of_mem _ hv)))))) c3 (fun q hq => by rw [c4 q hq]; exact Nat.le_add_right _ _))
  refine ob_Rep_upd I.1 hoff2 c2 c3 ⟨fun q => absurd q h82, fun _ => ?_⟩ (fun k' i' s' q => ?_) (fun _ _ _ _ => rfl) (fun s' => ?_) rfl (fun s' hs' tk md q => ?_) (fun C' hC' => ⟨C', hC', rfl, fun q hq => Or.inl hq⟩)
  · rw [c1, hvv _ t2 i2 h82 q2]
    congr 1
    congr 1
    funext j
    show Value.int (va_cpy _ _ _ _ _ j) = Value.int (Int32.ofInt (ob_cpy mm.1 t i pp t2 i2 p2 n t2 i2 (j : Int)))
    unfold va_cpy ob_cpy
    rw [e1, e2, e3]
    by_cases c : p2 ≤ (j : Int) ∧ (j : Int) < p2 + n
    · rw [if_pos (by omega), if_pos ⟨rfl, rfl, c.1, c.2⟩]
      show Value.int (Int32.ofInt (mm.1 t i ((pp.toNat + (j - p2.toNat) : Nat) : Int))) = _
      rw [show ((pp.toNat + (j - p2.toNat) : Nat) : Int) = pp + ((j : Int) - p2) by omega]
    · rw [if_neg (by omega), if_neg (fun q => c ⟨q.2.2.1, q.2.2.2⟩)]
  · show ob_cpy mm.1 t i pp t2 i2 p2 n k' i' s' = mm.1 k' i' s'
    unfold ob_cpy
    rw [if_neg (fun z => q ⟨z.1, z.2.1⟩)]
  · show ob_r32 (ob_cpy mm.1 t i pp t2 i2 p2 n t2 i2 s')
    unfold ob_cpy
    split
    · exact I.1.2.2.2.1 _ _ _
    · exact I.1.2.2.2.1 _ _ _
  · rw [ob_ska h82, ob_kq0 (by rw [q2]; decide)] at q
    cases q
end ob_Sim5
