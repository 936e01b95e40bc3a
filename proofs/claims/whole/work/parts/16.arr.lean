-- ARRAYS, ALLOCATION, LIBRARY CALLS
theorem ob_kt_r : ∀ q ∈ ob_kt, 0 ≤ q.1 ∧ q.1 < 2000 := by decide +kernel
theorem ob_kq_b (t : Nat) : 0 ≤ (ob_kq t).1 ∧ (ob_kq t).1 < 2000 := by
  by_cases q : t < ob_kt.length
  · exact ob_kt_r _ (List.mem_of_getElem? (ob_nth_get _ _ _ q))
  · unfold ob_kq
    rw [ob_nth_ge _ _ _ (Nat.not_lt.mp q)]
    decide
theorem ob_kq_r (t : Nat) : ob_r32 (ob_kq t).1 := by
  have := ob_kq_b t
  exact ⟨by omega, by omega⟩
theorem ob_kq_n (t : Nat) : (((ob_kq t).1.toNat : Nat) : Int) = (ob_kq t).1 := by
  have := ob_kq_b t
  omega
theorem ob_kq3r : ∀ t, 16 ≤ t → t < 57 → (ob_kq t).2.1 = 3 → ∃ tk, (ob_kq t).2.2.1 = tk + 1 := by
  intro t h1 h2 h3
  have : ∀ t, t < 57 → (ob_kq t).2.1 = 3 → (ob_kq t).2.2.1 ≠ 0 ∧ (ob_kq t).2.2.1 ≤ 9 := by decide +kernel
  exact ⟨(ob_kq t).2.2.1 - 1, by have := (this t h2 h3).1; omega⟩
theorem ob_kq3b {t : Nat} (h2 : t < 57) (h3 : (ob_kq t).2.1 = 3) : (ob_kq t).2.2.1 ≠ 0 ∧ (ob_kq t).2.2.1 ≤ 9 := by
  have : ∀ t, t < 57 → (ob_kq t).2.1 = 3 → (ob_kq t).2.2.1 ≠ 0 ∧ (ob_kq t).2.2.1 ≤ 9 := by decide +kernel
  exact this t h2 h3
theorem ob_narb {x : Int} (h1 : -128 ≤ x) (h2 : x < 128) : narrow .byte (.int (Int32.ofInt x)) = .int (Int32.ofInt x) := by
  have e : (Int32.ofInt x).toInt8.toInt32 = Int32.ofInt x := by
    rw [ob_i_i2b]
    congr 1
    exact Int.bmod_eq_of_le (by omega) (by omega)
  rw [← e]
  exact pk_nb _
section ob_Sim3
variable {w : ob_Wd} {p : Program} {l : Launch} {e : Env} {R : Room} {s : State} {m : MethodId} {args : Array Value} {below : List Frame} {meth : Method} {c : Code} {Q : State → Prop} {c0 s0 f pc nx nL : Nat} {aux : List Nat} {z : Int} {ls st : List ob_AV} {mm : ob_MM} {S : ob_St}
variable {H : Heap} {locs : List Loc} {cells slots : Nat} {LS : Array Slot} {rest : List Value}
theorem ob_arr {t : Nat} {i : Int} (X : ob_Cx w p R s m args meth c f) (hR : ob_Rep w mm H) (hp : ob_pr (ob_nA mm) t i) (h15 : t ≠ 15) (h9 : (ob_kq t).2.1 ≠ 9) : ob_off t i < ob_nA mm ∧ ¬ t ≤ 8 ∧ H[ob_sz w + ob_off t i]? = some (arrV (ob_dA w (ob_ai t)) (ob_ns t) (ob_vl w mm t i)) ∧ ArrOfT s (ob_dA w (ob_ai t)) (ob_aty t) ∧ va_RA s (ob_dA w (ob_ai t)) (ob_aty t) ∧ 16 ≤ t ∧ t < 57 := by
  have hoff := ob_pr_off hp h15
  have h8 : ¬ t ≤ 8 := fun q => h9 (ob_kq9 t q)
  have hk := (ob_lay_k _ (ob_off_mem (Nat.lt_of_lt_of_le hoff hR.2.1))).2.2
  have hk : 16 ≤ t ∧ t < 57 := hk.elim (fun q => absurd q h8) id
  have hK := X.2.2.2.2.2.2.2.2.1.2.1 t hk.1 hk.2
  exact ⟨hoff, h8, (hR.2.2.1 t i hoff).2 h8, hK.1, hK.2, hk⟩
theorem ob_ln_n {m : ob_Mem} {t : Nat} (h : t ≠ 15) : ob_ln m t = (ob_kq t).1 := by
  unfold ob_ln
  rw [show Nat.beq t 15 = false from by
    cases e : Nat.beq t 15 with
    | false => rfl
    | true => exact absurd (ob_beq e) h]
  rfl
theorem ob_aty_of {t : Nat} (h : (ob_kq t).2.1 = 0) : ob_aty t = .int := by
  unfold ob_aty
  rw [h]
  rfl
theorem ob_aty_z {t : Nat} (h : (ob_kq t).2.1 = 1) : ob_aty t = .boolean := by
  unfold ob_aty
  rw [h]
  rfl
theorem ob_aty_b {t : Nat} (h : (ob_kq t).2.1 = 2) : ob_aty t = .byte := by
  unfold ob_aty
  rw [h]
  rfl
theorem ob_aty_r {t : Nat} (h : (ob_kq t).2.1 = 3) : ob_aty t = .object (ob_cn ((ob_kq t).2.2.1 - 1)) := by
  unfold ob_aty
  rw [h]
  rfl
theorem ob_ix {t : Nat} {j : Int} (h8 : ¬ t ≤ 8) (h15 : t ≠ 15) {mem : ob_Mem} (h0 : 0 ≤ j) (h1 : j < ob_ln mem t) : j.toNat < ob_ns t ∧ j < (ob_ns t : Int) ∧ ((j.toNat : Nat) : Int) = j := by
  rw [ob_ln_n h15] at h1
  rw [ob_nsa h8]
  omega
set_option maxRecDepth 100000 in
theorem ob_s_iaload  (X : ob_Cx w p R s m args meth c f) (hok : ob_ok f pc (.iaload, nx, aux, z) = true) (h : ob_nx (ob_ins (.iaload) nx aux z f ls st mm) S) (kk : ob_At w p l e R s m args below meth c Q c0 s0 (ob_mx f) S) : ob_At w p l e R s m args below meth c Q c0 s0 (ob_mx f) (f, pc, ls, st, mm) := by
  obtain ⟨j, st, rfl, h91⟩ := ob_i1_x h
  obtain ⟨t, i, st, rfl, h92⟩ := ob_r1_x h91
  obtain ⟨hq0, h93⟩ := ob_cond_x h92
  obtain ⟨hin, rfl⟩ := ob_gd_x h93
  obtain ⟨hd, rfl⟩ := ob_okd hok (n := 1) (ob_okI_of hok)
  intro LS H locs I
  have hj : ob_r32 j := I.2.2.1 (1, j) List.mem_cons_self
  show W p l e R s m args below meth c H locs _ _ Q (F0 m pc LS (Value.int (Int32.ofInt j) :: Value.ref (ob_ad w t i) :: List.map (ob_cv w) st))
  by_cases h15 : t = 15
  · subst h15
    have hi : i = 0 := (I.2.2.1 (15 + 3, i) (List.mem_cons_of_mem _ List.mem_cons_self)).elim (fun q => q.2) (fun q => absurd rfl q.1)
    subst hi
    obtain ⟨scr, g1, g2, g3, g4, g5⟩ := X.2.2.2.2.2.2.2.2.2.1
    have hL : ob_ln mm.1 15 = (ob_L w : Int) := I.1.2.2.2.2.1.1
    have hin : 0 ≤ j ∧ j < ob_ln mm.1 15 := hin
    rw [hL] at hin
    have hjn : j.toNat < ob_L w := by omega
    have hval : mm.1 15 0 j = (ob_xs w j.toNat).toInt := by
      have q := I.1.2.2.2.2.1.2 j.toNat hjn
      rw [show ((j.toNat : Nat) : Int) = j by omega] at q
      exact q
    refine W.iald (v := .int (ob_xs w j.toNat)) X.1 X.2.1 (show H[ob_b w]? = some scr by rw [I.2.2.2.1 _ X.2.2.2.2.2.2.2.2.2.2.1.1]; exact g1) g2 g3 (by rw [g4]; exact ob_i_in hj hin.1 hin.2) (by rw [ob_i_nat hin.1 hj]; exact g5 _ hjn) rfl rfl hd ?_
    have K := kk LS H locs (ob_Iv_st I (ob_al1 (v := (1, _)) (I.1.2.2.2.1 15 0 j) (fun x hx => I.2.2.1 x (List.mem_cons_of_mem _ (List.mem_cons_of_mem _ hx)))))
    have e9 : List.map (ob_cv w) ((1, mm.1 15 0 j) :: st) = Value.int (Int32.ofInt (mm.1 15 0 j)) :: List.map (ob_cv w) st := rfl
    rw [e9, hval, Int32.ofInt_toInt] at K
    exact K
  · have hq : (ob_kq t).2.1 = 0 := ob_beq hq0
    obtain ⟨hoff, h8, hcel, hA, -, -⟩ := ob_arr X I.1 (I.2.2.1 (t + 3, i) (List.mem_cons_of_mem _ List.mem_cons_self)) h15 (by rw [hq]; decide)
    obtain ⟨x1, x2, x3⟩ := ob_ix h8 h15 hin.1 hin.2
    rw [ob_ad_n h15]
    have hv : ob_vl w mm t i j.toNat = .int (Int32.ofInt (mm.1 t i j)) := by
      have q := ob_vl_i (w := w) (mm := mm) (i := i) (k := t) (s := j.toNat) (md := (ob_kq t).2.2.2) (by rw [ob_ska h8, ob_kq0 (by rw [hq]; decide)])
      rw [x3] at q
      exact q
    have hA := hA (ob_ns t) (ob_vl w mm t i)
    rw [ob_aty_of hq] at hA
    refine W.iald (v := .int (Int32.ofInt (mm.1 t i j))) X.1 X.2.1 hcel hA (fun q => by cases q) (by rw [arrV_size]; exact ob_i_in hj hin.1 x2) (by rw [ob_i_nat hin.1 hj, arrV_read _ _ x1, hv]) rfl rfl hd ?_
    exact kk LS H locs (ob_Iv_st I (ob_al1 (v := (1, _)) (I.1.2.2.2.1 _ _ _) (fun x hx => I.2.2.1 x (List.mem_cons_of_mem _ (List.mem_cons_of_mem _ hx)))))
set_option maxRecDepth 100000 in
theorem ob_s_baload  (X : ob_Cx w p R s m args meth c f) (hok : ob_ok f pc (.baload, nx, aux, z) = true) (h : ob_nx (ob_ins (.baload) nx aux z f ls st mm) S) (kk : ob_At w p l e R s m args below meth c Q c0 s0 (ob_mx f) S) : ob_At w p l e R s m args below meth c Q c0 s0 (ob_mx f) (f, pc, ls, st, mm) := by
  obtain ⟨j, st, rfl, h91⟩ := ob_i1_x h
  obtain ⟨t, i, st, rfl, h92⟩ := ob_r1_x h91
  obtain ⟨hq0, h93⟩ := ob_cond_x h92
  obtain ⟨hin, rfl⟩ := ob_gd_x h93
  obtain ⟨hd, rfl⟩ := ob_okd hok (n := 1) (ob_okI_of hok)
  intro LS H locs I
  have hj : ob_r32 j := I.2.2.1 (1, j) List.mem_cons_self
  show W p l e R s m args below meth c H locs _ _ Q (F0 m pc LS (Value.int (Int32.ofInt j) :: Value.ref (ob_ad w t i) :: List.map (ob_cv w) st))
  rw [Bool.or_eq_true] at hq0
  have h15 : t ≠ 15 := by
    intro q
    subst q
    rcases hq0 with q | q <;> exact absurd q (by decide)
  rcases hq0 with hq0 | hq0
  · have hq : (ob_kq t).2.1 = 1 := ob_beq hq0
    obtain ⟨hoff, h8, hcel, hA, -, -⟩ := ob_arr X I.1 (I.2.2.1 (t + 3, i) (List.mem_cons_of_mem _ List.mem_cons_self)) h15 (by rw [hq]; decide)
    obtain ⟨x1, x2, x3⟩ := ob_ix h8 h15 hin.1 hin.2
    rw [ob_ad_n h15]
    have hv : ob_vl w mm t i j.toNat = .int (Int32.ofInt (mm.1 t i j)) := by
      have q := ob_vl_i (w := w) (mm := mm) (i := i) (k := t) (s := j.toNat) (md := (ob_kq t).2.2.2) (by rw [ob_ska h8, ob_kq0 (by rw [hq]; decide)])
      rw [x3] at q
      exact q
    have hA := hA (ob_ns t) (ob_vl w mm t i)
    rw [ob_aty_z hq] at hA
    refine W.zald (v := .int (Int32.ofInt (mm.1 t i j))) X.1 X.2.1 hcel hA (fun q => by cases q) (by rw [arrV_size]; exact ob_i_in hj hin.1 x2) (by rw [ob_i_nat hin.1 hj, arrV_read _ _ x1, hv]) rfl rfl hd ?_
    exact kk LS H locs (ob_Iv_st I (ob_al1 (v := (1, _)) (I.1.2.2.2.1 _ _ _) (fun x hx => I.2.2.1 x (List.mem_cons_of_mem _ (List.mem_cons_of_mem _ hx)))))
  · have hq : (ob_kq t).2.1 = 2 := ob_beq hq0
    obtain ⟨hoff, h8, hcel, hA, -, -⟩ := ob_arr X I.1 (I.2.2.1 (t + 3, i) (List.mem_cons_of_mem _ List.mem_cons_self)) h15 (by rw [hq]; decide)
    obtain ⟨x1, x2, x3⟩ := ob_ix h8 h15 hin.1 hin.2
    rw [ob_ad_n h15]
    have hv : ob_vl w mm t i j.toNat = .int (Int32.ofInt (mm.1 t i j)) := by
      have q := ob_vl_i (w := w) (mm := mm) (i := i) (k := t) (s := j.toNat) (md := (ob_kq t).2.2.2) (by rw [ob_ska h8, ob_kq0 (by rw [hq]; decide)])
      rw [x3] at q
      exact q
    have hA := hA (ob_ns t) (ob_vl w mm t i)
    rw [ob_aty_b hq] at hA
    refine W.bald (v := .int (Int32.ofInt (mm.1 t i j))) X.1 X.2.1 hcel hA (fun q => by cases q) (by rw [arrV_size]; exact ob_i_in hj hin.1 x2) (by rw [ob_i_nat hin.1 hj, arrV_read _ _ x1, hv]) rfl rfl hd ?_
    exact kk LS H locs (ob_Iv_st I (ob_al1 (v := (1, _)) (I.1.2.2.2.1 _ _ _) (fun x hx => I.2.2.1 x (List.mem_cons_of_mem _ (List.mem_cons_of_mem _ hx)))))
set_option maxRecDepth 100000 in
theorem ob_s_aaload  (X : ob_Cx w p R s m args meth c f) (hok : ob_ok f pc (.aaload, nx, aux, z) = true) (h : ob_nx (ob_ins (.aaload) nx aux z f ls st mm) S) (kk : ob_At w p l e R s m args below meth c Q c0 s0 (ob_mx f) S) : ob_At w p l e R s m args below meth c Q c0 s0 (ob_mx f) (f, pc, ls, st, mm) := by
  obtain ⟨j, st, rfl, h91⟩ := ob_i1_x h
  obtain ⟨t, i, st, rfl, h92⟩ := ob_r1_x h91
  obtain ⟨hq0, h93⟩ := ob_cond_x h92
  obtain ⟨hin, rfl⟩ := ob_gd_x h93
  obtain ⟨hd, rfl⟩ := ob_okd hok (n := 1) (ob_okI_of hok)
  intro LS H locs I
  have hj : ob_r32 j := I.2.2.1 (1, j) List.mem_cons_self
  show W p l e R s m args below meth c H locs _ _ Q (F0 m pc LS (Value.int (Int32.ofInt j) :: Value.ref (ob_ad w t i) :: List.map (ob_cv w) st))
  rw [Bool.and_eq_true] at hq0
  have hq : (ob_kq t).2.1 = 3 := ob_beq hq0.1
  have h15 : t ≠ 15 := by
    intro q
    subst q
    exact absurd hq (by decide)
  obtain ⟨hoff, h8, hcel, hA, -, hr16⟩ := ob_arr X I.1 (I.2.2.1 (t + 3, i) (List.mem_cons_of_mem _ List.mem_cons_self)) h15 (by rw [hq]; decide)
  obtain ⟨x1, x2, x3⟩ := ob_ix h8 h15 hin.1 hin.2
  rw [ob_ad_n h15]
  obtain ⟨tk, htk⟩ : ∃ tk, (ob_kq t).2.2.1 = tk + 1 := ob_kq3r t hr16.1 hr16.2 hq
  have hsk : ob_sk t j.toNat = (tk + 1, (ob_kq t).2.2.2) := by rw [ob_ska h8, htk]
  have hv : ob_vl w mm t i j.toNat = .ref (ob_ad w tk (ob_tg mm.1 (ob_kq t).2.2.2 t i j)) := by
    have q := ob_vl_r (w := w) (mm := mm) (i := i) hsk (by rw [x3]; exact hq0.2)
    rw [x3] at q
    exact q
  have hA := hA (ob_ns t) (ob_vl w mm t i)
  rw [ob_aty_r hq] at hA
  refine W.aald (v := .ref (ob_ad w tk (ob_tg mm.1 (ob_kq t).2.2.2 t i j))) X.1 X.2.1 hcel hA rfl (fun q => by cases q) (by rw [arrV_size]; exact ob_i_in hj hin.1 x2) (by rw [ob_i_nat hin.1 hj, arrV_read _ _ x1, hv]) rfl rfl hd ?_
  have hr := I.1.2.2.2.2.2.1 t i j.toNat hoff x1 tk _ hsk (by rw [x3]; exact hq0.2)
  rw [x3] at hr
  have K := kk LS H locs
  rw [show (ob_kq t).2.2.1 + 2 = tk + 3 by omega] at K
  exact K (ob_Iv_st I (ob_al1 (v := (tk + 3, _)) (Or.inr hr) (fun x hx => I.2.2.1 x (List.mem_cons_of_mem _ (List.mem_cons_of_mem _ hx)))))
set_option maxRecDepth 100000 in
theorem ob_s_arraylength  (X : ob_Cx w p R s m args meth c f) (hok : ob_ok f pc (.arraylength, nx, aux, z) = true) (h : ob_nx (ob_ins (.arraylength) nx aux z f ls st mm) S) (kk : ob_At w p l e R s m args below meth c Q c0 s0 (ob_mx f) S) : ob_At w p l e R s m args below meth c Q c0 s0 (ob_mx f) (f, pc, ls, st, mm) := by
  obtain ⟨t, i, st, rfl, h91⟩ := ob_r1_x h
  obtain ⟨hq0, h92⟩ := ob_cond_x h91
  obtain rfl := ob_go_x h92
  obtain ⟨hd, rfl⟩ := ob_okd hok (n := 1) (ob_okI_of hok)
  intro LS H locs I
  show W p l e R s m args below meth c H locs _ _ Q (F0 m pc LS (Value.ref (ob_ad w t i) :: List.map (ob_cv w) st))
  have hr32 : ob_r32 (ob_ln mm.1 t) := by
    by_cases h15 : t = 15
    · subst h15
      exact I.1.2.2.2.1 14 0 0
    · rw [ob_ln_n h15]
      exact ob_kq_r t
  by_cases h15 : t = 15
  · subst h15
    have hi : i = 0 := (I.2.2.1 (15 + 3, i) List.mem_cons_self).elim (fun q => q.2) (fun q => absurd rfl q.1)
    subst hi
    obtain ⟨scr, g1, g2, g3, g4, g5⟩ := X.2.2.2.2.2.2.2.2.2.1
    have hL : ob_ln mm.1 15 = (ob_L w : Int) := I.1.2.2.2.2.1.1
    refine W.alen (n := Int32.ofInt (ob_ln mm.1 15)) X.1 X.2.1 (show H[ob_b w]? = some scr by rw [I.2.2.2.1 _ X.2.2.2.2.2.2.2.2.2.2.1.1]; exact g1) g2 (by rw [g4, hL, Int32.ofInt_eq_ofNat]) rfl rfl hd ?_
    exact kk LS H locs (ob_Iv_st I (ob_al1 (v := (1, _)) hr32 (fun x hx => I.2.2.1 x (List.mem_cons_of_mem _ hx))))
  · obtain ⟨hoff, h8, hcel, hA, -, hr16⟩ := ob_arr X I.1 (I.2.2.1 (t + 3, i) List.mem_cons_self) h15 (fun q => by rw [q] at hq0; cases hq0)
    rw [ob_ad_n h15]
    refine W.alen (n := Int32.ofInt (ob_ln mm.1 t)) X.1 X.2.1 hcel (hA (ob_ns t) (ob_vl w mm t i)) (by rw [arrV_size, ob_ln_n h15, ob_nsa h8, ← ob_kq_n t, Int32.ofInt_eq_ofNat, ← ob_kq_n t]; rfl) rfl rfl hd ?_
    exact kk LS H locs (ob_Iv_st I (ob_al1 (v := (1, _)) hr32 (fun x hx => I.2.2.1 x (List.mem_cons_of_mem _ hx))))
set_option maxRecDepth 100000 in
theorem ob_s_iastore  (X : ob_Cx w p R s m args meth c f) (hok : ob_ok f pc (.iastore, nx, aux, z) = true) (h : ob_nx (ob_ins (.iastore) nx aux z f ls st mm) S) (kk : ob_At w p l e R s m args below meth c Q c0 s0 (ob_mx f) S) : ob_At w p l e R s m args below meth c Q c0 s0 (ob_mx f) (f, pc, ls, st, mm) := by
  obtain ⟨x, st, rfl, h91⟩ := ob_i1_x h
  obtain ⟨j, st, rfl, h92⟩ := ob_i1_x h91
  obtain ⟨t, i, st, rfl, h93⟩ := ob_r1_x h92
  obtain ⟨hq0, h94⟩ := ob_cond_x h93
  obtain ⟨hin, rfl⟩ := ob_gd_x h94
  rw [Bool.and_eq_true] at hq0
  have hq : (ob_kq t).2.1 = 0 := ob_beq hq0.1
  have h15 : t ≠ 15 := fun q => by rw [q] at hq0; exact absurd hq0.2 (by decide)
  obtain ⟨hd, rfl⟩ := ob_okd hok (n := 1) (ob_okI_of hok)
  intro LS H locs I
  have hx : ob_r32 x := I.2.2.1 (1, x) List.mem_cons_self
  have hj : ob_r32 j := I.2.2.1 (1, j) (List.mem_cons_of_mem _ List.mem_cons_self)
  show W p l e R s m args below meth c H locs _ _ Q (F0 m pc LS (Value.int (Int32.ofInt x) :: Value.int (Int32.ofInt j) :: Value.ref (ob_ad w t i) :: List.map (ob_cv w) st))
  obtain ⟨hoff, h8, hcel, hA, -, -⟩ := ob_arr X I.1 (I.2.2.1 (t + 3, i) (List.mem_cons_of_mem _ (List.mem_cons_of_mem _ List.mem_cons_self))) h15 (by rw [hq]; decide)
  obtain ⟨x1, x2, x3⟩ := ob_ix h8 h15 hin.1 hin.2
  rw [ob_ad_n h15]
  have hA := hA (ob_ns t) (ob_vl w mm t i)
  rw [ob_aty_of hq] at hA
  refine W.iast X.1 X.2.1 hcel hA (fun q => by cases q) (by rw [arrV_size]; exact ob_i_in hj hin.1 x2) rfl rfl hd fun H1 e1 e2 e3 => ?_
  rw [ob_i_nat hin.1 hj, arrV_store] at e1
  rw [ob_i_nat hin.1 hj]
  have hsk : ob_sk t j.toNat = (0, (ob_kq t).2.2.2) := by rw [ob_ska h8, ob_kq0 (by rw [hq]; decide)]
  have hvl : ob_vl w (ob_set mm.1 t i j x, mm.2) t i j.toNat = .int (Int32.ofInt x) := by
    rw [ob_vl_i hsk, x3]
    show Value.int (Int32.ofInt (ob_set mm.1 t i j x t i j)) = _
    rw [ob_set_e]
  
  refine kk LS H1 _ (ob_Iv_m (mm' := (ob_set mm.1 t i j x, mm.2)) I ?_ ⟨rfl, rfl⟩ (fun v hv => I.2.2.1 v (List.mem_cons_of_mem _ (List.mem_cons_of_mem _ (List.mem_cons_of_mem _ hv)))) e3)
  refine ob_Rep_sto (s := j.toNat) I.1 hoff e2 e3 ⟨fun q => absurd q h8, fun _ => by rw [hvl]; exact e1⟩ (fun k' i' s' q => ob_set_n (by rw [x3] at q; exact q)) (fun _ _ _ _ => rfl) ?_ rfl (fun tk md q => by rw [hsk] at q; cases q) (fun C' hC' => ⟨C', hC', rfl, fun q hq => Or.inl hq⟩)
  rw [x3]
  show ob_r32 (ob_set mm.1 t i j x t i j)
  rw [ob_set_e]
  exact hx
set_option maxRecDepth 100000 in
theorem ob_s_bastore  (X : ob_Cx w p R s m args meth c f) (hok : ob_ok f pc (.bastore, nx, aux, z) = true) (h : ob_nx (ob_ins (.bastore) nx aux z f ls st mm) S) (kk : ob_At w p l e R s m args below meth c Q c0 s0 (ob_mx f) S) : ob_At w p l e R s m args below meth c Q c0 s0 (ob_mx f) (f, pc, ls, st, mm) := by
  obtain ⟨x, st, rfl, h91⟩ := ob_i1_x h
  obtain ⟨j, st, rfl, h92⟩ := ob_i1_x h91
  obtain ⟨t, i, st, rfl, h93⟩ := ob_r1_x h92
  split at h93
  · rename_i hq
    obtain ⟨⟨hin, hin2⟩, rfl⟩ := ob_gd_x h93
    have h15 : t ≠ 15 := fun q => by rw [q] at hq; exact absurd hq (by decide)
    obtain ⟨hd, rfl⟩ := ob_okd hok (n := 1) (ob_okI_of hok)
    intro LS H locs I
    have hx : ob_r32 x := I.2.2.1 (1, x) List.mem_cons_self
    have hj : ob_r32 j := I.2.2.1 (1, j) (List.mem_cons_of_mem _ List.mem_cons_self)
    show W p l e R s m args below meth c H locs _ _ Q (F0 m pc LS (Value.int (Int32.ofInt x) :: Value.int (Int32.ofInt j) :: Value.ref (ob_ad w t i) :: List.map (ob_cv w) st))
    obtain ⟨hoff, h8, hcel, hA, -, -⟩ := ob_arr X I.1 (I.2.2.1 (t + 3, i) (List.mem_cons_of_mem _ (List.mem_cons_of_mem _ List.mem_cons_self))) h15 (by rw [hq]; decide)
    obtain ⟨x1, x2, x3⟩ := ob_ix h8 h15 hin.1 hin.2
    rw [ob_ad_n h15]
    have hA := hA (ob_ns t) (ob_vl w mm t i)
    rw [ob_aty_z hq] at hA
    refine W.zast X.1 X.2.1 hcel hA (fun q => by cases q) (by rw [arrV_size]; exact ob_i_in hj hin.1 x2) rfl rfl hd fun H1 e1 e2 e3 => ?_
    rw [ob_i_nat hin.1 hj, arrV_store] at e1
    rw [ob_i_nat hin.1 hj]
    have hsk : ob_sk t j.toNat = (0, (ob_kq t).2.2.2) := by rw [ob_ska h8, ob_kq0 (by rw [hq]; decide)]
    have hvl : ob_vl w (ob_set mm.1 t i j x, mm.2) t i j.toNat = .int (Int32.ofInt x) := by
      rw [ob_vl_i hsk, x3]
      show Value.int (Int32.ofInt (ob_set mm.1 t i j x t i j)) = _
      rw [ob_set_e]
    have hnar : narrow .boolean (.int (Int32.ofInt x)) = .int (Int32.ofInt x) := by rcases hin2 with rfl | rfl <;> decide
    rw [hnar] at e1
    refine kk LS H1 _ (ob_Iv_m (mm' := (ob_set mm.1 t i j x, mm.2)) I ?_ ⟨rfl, rfl⟩ (fun v hv => I.2.2.1 v (List.mem_cons_of_mem _ (List.mem_cons_of_mem _ (List.mem_cons_of_mem _ hv)))) e3)
    refine ob_Rep_sto (s := j.toNat) I.1 hoff e2 e3 ⟨fun q => absurd q h8, fun _ => by rw [hvl]; exact e1⟩ (fun k' i' s' q => ob_set_n (by rw [x3] at q; exact q)) (fun _ _ _ _ => rfl) ?_ rfl (fun tk md q => by rw [hsk] at q; cases q) (fun C' hC' => ⟨C', hC', rfl, fun q hq => Or.inl hq⟩)
    rw [x3]
    show ob_r32 (ob_set mm.1 t i j x t i j)
    rw [ob_set_e]
    exact hx
  · rename_i hq
    obtain ⟨⟨hin, hin2⟩, rfl⟩ := ob_gd_x h93
    have h15 : t ≠ 15 := fun q => by rw [q] at hq; exact absurd hq (by decide)
    obtain ⟨hd, rfl⟩ := ob_okd hok (n := 1) (ob_okI_of hok)
    intro LS H locs I
    have hx : ob_r32 x := I.2.2.1 (1, x) List.mem_cons_self
    have hj : ob_r32 j := I.2.2.1 (1, j) (List.mem_cons_of_mem _ List.mem_cons_self)
    show W p l e R s m args below meth c H locs _ _ Q (F0 m pc LS (Value.int (Int32.ofInt x) :: Value.int (Int32.ofInt j) :: Value.ref (ob_ad w t i) :: List.map (ob_cv w) st))
    obtain ⟨hoff, h8, hcel, hA, -, -⟩ := ob_arr X I.1 (I.2.2.1 (t + 3, i) (List.mem_cons_of_mem _ (List.mem_cons_of_mem _ List.mem_cons_self))) h15 (by rw [hq]; decide)
    obtain ⟨x1, x2, x3⟩ := ob_ix h8 h15 hin.1 hin.2
    rw [ob_ad_n h15]
    have hA := hA (ob_ns t) (ob_vl w mm t i)
    rw [ob_aty_b hq] at hA
    refine W.bast X.1 X.2.1 hcel hA (fun q => by cases q) (by rw [arrV_size]; exact ob_i_in hj hin.1 x2) rfl rfl hd fun H1 e1 e2 e3 => ?_
    rw [ob_i_nat hin.1 hj, arrV_store] at e1
    rw [ob_i_nat hin.1 hj]
    have hsk : ob_sk t j.toNat = (0, (ob_kq t).2.2.2) := by rw [ob_ska h8, ob_kq0 (by rw [hq]; decide)]
    have hvl : ob_vl w (ob_set mm.1 t i j x, mm.2) t i j.toNat = .int (Int32.ofInt x) := by
      rw [ob_vl_i hsk, x3]
      show Value.int (Int32.ofInt (ob_set mm.1 t i j x t i j)) = _
      rw [ob_set_e]
    have hnar : narrow .byte (.int (Int32.ofInt x)) = .int (Int32.ofInt x) := ob_narb hin2.1 hin2.2
    rw [hnar] at e1
    refine kk LS H1 _ (ob_Iv_m (mm' := (ob_set mm.1 t i j x, mm.2)) I ?_ ⟨rfl, rfl⟩ (fun v hv => I.2.2.1 v (List.mem_cons_of_mem _ (List.mem_cons_of_mem _ (List.mem_cons_of_mem _ hv)))) e3)
    refine ob_Rep_sto (s := j.toNat) I.1 hoff e2 e3 ⟨fun q => absurd q h8, fun _ => by rw [hvl]; exact e1⟩ (fun k' i' s' q => ob_set_n (by rw [x3] at q; exact q)) (fun _ _ _ _ => rfl) ?_ rfl (fun tk md q => by rw [hsk] at q; cases q) (fun C' hC' => ⟨C', hC', rfl, fun q hq => Or.inl hq⟩)
    rw [x3]
    show ob_r32 (ob_set mm.1 t i j x t i j)
    rw [ob_set_e]
    exact hx
  · exact (ob_stop_x h93).elim
end ob_Sim3
