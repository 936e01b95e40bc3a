-- MEMORY: fields, arrays, allocation
theorem ob_w_in {i : Nat} {x : Cond} (h : lw_tbl[i]? = some x) (g : goodWord x = true) : x ∈ ob_gt := List.mem_filter.mpr ⟨List.mem_of_getElem? h, g⟩
theorem ob_beq {a b : Nat} (h : Nat.beq a b = true) : a = b := Nat.eq_of_beq_eq_true h
theorem ob_fl {o i c s : Nat} (h : ob_inFL o i c s = true) : Cond.fieldLink (ob_cn o) i (ob_TT c s).1 (ob_TT c s).2.1 (ob_TT c s).2.2.1 ∈ ob_gt := by
  obtain ⟨⟨a1, a2, a3, a4, a5⟩, hq, h2⟩ := List.any_eq_true.mp h
  simp only [Bool.and_eq_true] at h2
  obtain ⟨⟨⟨e1, e2⟩, e3⟩, e4⟩ := h2
  have hw := ob_FLk _ hq
  obtain rfl : a2 = i := ob_beq e1
  obtain rfl : a1 = o := ob_beq e2
  obtain rfl : a3 = c := ob_beq e3
  obtain rfl : a4 = s := ob_beq e4
  exact ob_w_in hw rfl
theorem ob_clk : ∀ t, t ≤ 8 → ob_cl[t]? = some (ob_cn t, ob_TT t, ob_ns t)
  | 0, _ => rfl
  | 1, _ => rfl
  | 2, _ => rfl
  | 3, _ => rfl
  | 4, _ => rfl
  | 5, _ => rfl
  | 6, _ => rfl
  | 7, _ => rfl
  | 8, _ => rfl
  | n + 9, h => absurd h (by omega)
theorem ob_nsk {t : Nat} (h : t ≤ 8) : ob_ns t = (ob_nth ob_ft t []).length := by
  unfold ob_ns
  rw [Nat.ble_eq.mpr h]
  rfl
theorem ob_nsa {t : Nat} (h : ¬ t ≤ 8) : ob_ns t = (ob_kq t).1.toNat := by
  unfold ob_ns
  rw [show Nat.ble t 8 = false from by
    cases e : Nat.ble t 8 with
    | false => rfl
    | true => exact absurd (Nat.ble_eq.mp e) h]
  rfl
theorem ob_ska {t : Nat} (h : ¬ t ≤ 8) (s : Nat) : ob_sk t s = ((ob_kq t).2.2.1, (ob_kq t).2.2.2) := by
  unfold ob_sk
  rw [show Nat.ble t 8 = false from by
    cases e : Nat.ble t 8 with
    | false => rfl
    | true => exact absurd (Nat.ble_eq.mp e) h]
  rfl
theorem ob_sko {t : Nat} (h : t ≤ 8) (s : Nat) : ob_sk t s = ((ob_ftq t s).1, (ob_ftq t s).2.1) := by
  unfold ob_sk
  rw [Nat.ble_eq.mpr h]
  rfl
theorem ob_kq9 : ∀ t, t ≤ 8 → (ob_kq t).2.1 = 9
  | 0, _ => rfl
  | 1, _ => rfl
  | 2, _ => rfl
  | 3, _ => rfl
  | 4, _ => rfl
  | 5, _ => rfl
  | 6, _ => rfl
  | 7, _ => rfl
  | 8, _ => rfl
  | n + 9, h => absurd h (by omega)
theorem ob_kq0 {t : Nat} (h : (ob_kq t).2.1 ≠ 3) : (ob_kq t).2.2.1 = 0 := Classical.byContradiction fun q => h (ob_kq3 t q)
theorem ob_lays9 {t : Nat} (h : t ≤ 8) : ∀ x ∈ u_ws (ob_cn t) (ob_TT t) (ob_ns t), x ∈ ob_gt := by
  rw [ob_nsk h]
  exact ob_laysk t (by omega)
theorem ob_nmk : ∀ t, t < 9 → ∀ a, a < (ob_nth ob_ft t []).length → ∀ b, b < (ob_nth ob_ft t []).length → a ≠ b → (ob_TT t a).2.1 ≠ (ob_TT t b).2.1 := by decide +kernel
def ob_tyq (t s : Nat) : FieldType := (parseFieldDescriptor (ob_TT t s).2.2.1).getD .int
theorem ob_tyk : ∀ t, t < 9 → ∀ a, a < (ob_nth ob_ft t []).length → parseFieldDescriptor (ob_TT t a).2.2.1 = some (ob_tyq t a) := by decide +kernel
theorem ob_tyd : ∀ t, t < 9 → ∀ a, a < (ob_nth ob_ft t []).length → defaultValue (ob_tyq t a) = cond (Nat.beq (ob_sk t a).1 0) (.int (Int32.ofInt 0)) .null := by decide +kernel
theorem ob_tyz : ∀ t, t < 9 → ∀ a, a < (ob_nth ob_ft t []).length → (Nat.beq (ob_sk t a).1 0 = true → ob_tyq t a = cond (decide ((ob_TT t a).2.2.1 = "Z")) .boolean .int) ∧ (Nat.beq (ob_sk t a).1 0 = false → narrow (ob_tyq t a) (.ref 0) = .ref 0 ∧ fits (ob_tyq t a) (.ref 0) = true) := by decide +kernel
theorem ob_finq : ∀ t, t < 9 → ∀ a, a < (ob_nth ob_ft t []).length → (ob_TT t a).1 = ob_cn t ∧ (ob_ftq t a).2.2 = cond (ob_TT t a).2.2.2 1 0 := by decide +kernel
theorem ob_no15 : ∀ t, t < 9 → ∀ a, a < (ob_nth ob_ft t []).length → (ob_sk t a).1 ≠ 16 := by decide +kernel
theorem ob_idx_all : ∀ q ∈ ob_lay, 0 ≤ q.2 ∧ q.2 < 1000 := by decide +kernel
theorem ob_idx_r {k : Nat} {i : Int} (h : ob_off k i < ob_layN) : ob_r32 i := by
  have q : 0 ≤ i ∧ i < 1000 := ob_idx_all _ (ob_off_mem h)
  exact ⟨by omega, by omega⟩
theorem ob_wP {w : ob_Wd} {t a : Nat} {H : Heap} {V : Nat → Value} (ht : t ≤ 8) (h : t_OB a (ob_dC w t) (ob_ns t) (ob_dI w t) H V) : va_P (ob_dC w, ob_dI w) ob_cl [(a, .inr (t, (List.range (ob_ns t)).map V))] H := by
  intro k q hq
  have hk : k < 1 := (List.getElem?_eq_some_iff.mp hq).1
  rw [show k = 0 by omega] at hq
  cases hq
  refine ⟨_, ob_clk t ht, h.to fun j hj => ?_⟩
  unfold vp_V
  rw [List.getD_eq_getElem?_getD, List.getElem?_map, List.getElem?_range hj]
  rfl
theorem ob_okFs {f i : Nat} {aux : List Nat} {z : Int} (h : ob_okF f i aux z = true) : ob_inFL (ob_ow f) i (ob_nth aux 0 0) (ob_nth aux 1 0) = true ∧ z = Int.ofNat (ob_nth aux 1 0) ∧ (ob_ftq (ob_nth aux 0 0) (ob_nth aux 1 0)).1 = ob_nth aux 2 0 ∧ (ob_ftq (ob_nth aux 0 0) (ob_nth aux 1 0)).2.1 = ob_nth aux 3 0 ∧ ob_nth aux 0 0 ≤ 8 ∧ ob_nth aux 1 0 < (ob_nth ob_ft (ob_nth aux 0 0) []).length := by
  unfold ob_okF at h
  simp only [Bool.and_eq_true] at h
  obtain ⟨⟨⟨⟨⟨h1, h2⟩, h3⟩, h4⟩, h5⟩, h6⟩ := h
  exact ⟨h1, of_decide_eq_true h2, ob_beq h3, ob_beq h4, Nat.ble_eq.mp h5, Nat.le_of_ble_eq_true h6⟩
theorem ob_pr_off {n t : Nat} {i : Int} (h : ob_pr n t i) (ht : t ≠ 15) : ob_off t i < n := h.elim (fun q => absurd q.1 ht) (fun q => q.2)
/-- a store into one slot of a cell -/
theorem ob_Rep_sto {w : ob_Wd} {mm mm' : ob_MM} {H H' : Heap} {t s : Nat} {i : Int} (h : ob_Rep w mm H) (hk : ob_off t i < ob_nA mm) (hsz : H'.size = H.size) (ho : ∀ q : Nat, q ≠ ob_sz w + ob_off t i → H'[q]? = H[q]?)
    (hc : (t ≤ 8 → t_OB (ob_sz w + ob_off t i) (ob_dC w t) (ob_ns t) (ob_dI w t) H' (updV (ob_vl w mm t i) s (ob_vl w mm' t i s))) ∧ (¬ t ≤ 8 → H'[ob_sz w + ob_off t i]? = some (arrV (ob_dA w (ob_ai t)) (ob_ns t) (updV (ob_vl w mm t i) s (ob_vl w mm' t i s)))))
    (hm : ∀ (k' : Nat) (i' s' : Int), ¬ (k' = t ∧ i' = i ∧ s' = (s : Int)) → mm'.1 k' i' s' = mm.1 k' i' s') (hi : ∀ (k' : Nat) (i' s' : Int), ¬ (k' = t ∧ i' = i ∧ s' = (s : Int)) → ob_ini mm'.2 k' i' s' = ob_ini mm.2 k' i' s') (hr : ob_r32 (mm'.1 t i s)) (hn : ob_nA mm' = ob_nA mm)
    (href : ∀ tk md, ob_sk t s = (tk + 1, md) → ob_ini mm'.2 t i (s : Int) = true → tk ≠ 15 ∧ ob_off tk (ob_tg mm'.1 md t i (s : Int)) < ob_nA mm)
    (hC : ∀ C', mm'.2 = some C' → ∃ C, mm.2 = some C ∧ C'.1 = C.1 ∧ ∀ q ∈ C'.2.2, q ∈ C.2.2 ∨ (q.1 = t ∧ q.2.1 = i)) : ob_Rep w mm' H' := by
  have hne : ∀ j : Nat, j ≠ s → ¬ (t = t ∧ i = i ∧ (j : Int) = (s : Int)) := fun j hj q => hj (by have := q.2.2; omega)
  have hv : ∀ j : Nat, updV (ob_vl w mm t i) s (ob_vl w mm' t i s) j = ob_vl w mm' t i j := by
    intro j
    unfold updV
    by_cases e : j = s
    · rw [if_pos e, e]
    · rw [if_neg e]
      exact (ob_vl_c (hm t i j (hne j e)) (hi t i j (hne j e))).symm
  refine ob_Rep_upd h hk hsz ho ⟨fun q => (hc.1 q).to (fun j _ => hv j), fun q => by rw [hc.2 q]; congr 2; exact funext hv⟩ (fun k' i' s' q => hm k' i' s' (fun z => q ⟨z.1, z.2.1⟩)) (fun k' i' s' q => hi k' i' s' (fun z => q ⟨z.1, z.2.1⟩)) (fun s' => ?_) hn (fun j hj tk md hsk hini => ?_) hC
  · by_cases e : s' = (s : Int)
    · rw [e]
      exact hr
    · rw [hm t i s' (fun q => e q.2.2)]
      exact h.2.2.2.1 t i s'
  · by_cases e : j = s
    · subst e
      exact href tk md hsk hini
    · rw [hi t i j (hne j e)] at hini
      rw [ob_tg_c (hm t i j (hne j e))]
      exact h.2.2.2.2.2.1 t i j hk hj tk md hsk hini
theorem ob_set_e (m : ob_Mem) (k : Nat) (i s x : Int) : ob_set m k i s x k i s = x := by
  unfold ob_set
  rw [if_pos ⟨rfl, rfl, rfl⟩]
theorem ob_set_n {m : ob_Mem} {k k' : Nat} {i s x i' s' : Int} (h : ¬ (k' = k ∧ i' = i ∧ s' = s)) : ob_set m k i s x k' i' s' = m k' i' s' := by
  unfold ob_set
  rw [if_neg h]
theorem ob_add_n {c : Option ob_CI} {k k' : Nat} {i s i' s' : Int} (h : ¬ (k' = k ∧ i' = i ∧ s' = s)) : ob_ini (ob_add c k i s) k' i' s' = ob_ini c k' i' s' := by
  cases c with
  | none => rfl
  | some C =>
    show List.contains ((k, i, s) :: C.2.2) (k', i', s') = C.2.2.contains (k', i', s')
    rw [List.contains_cons]
    rw [show ((k', i', s') == (k, i, s)) = false from by
      rw [beq_eq_false_iff_ne]
      intro q
      cases q
      exact h ⟨rfl, rfl, rfl⟩]
    rfl
theorem ob_add_nA (m m' : ob_Mem) (c : Option ob_CI) (k : Nat) (i s : Int) : ob_nA (m', ob_add c k i s) = ob_nA (m, c) ∧ ob_nS (m', ob_add c k i s) = ob_nS (m, c) := by
  cases c <;> exact ⟨rfl, rfl⟩
theorem ob_add_C {c : Option ob_CI} {k : Nat} {i s : Int} : ∀ C', ob_add c k i s = some C' → ∃ C, c = some C ∧ C'.1 = C.1 ∧ ∀ q ∈ C'.2.2, q ∈ C.2.2 ∨ (q.1 = k ∧ q.2.1 = i) := by
  intro C' h
  cases c with
  | none => cases h
  | some C =>
    cases h
    refine ⟨C, rfl, rfl, fun q hq => ?_⟩
    rcases List.mem_cons.mp hq with e | e
    · subst e
      exact Or.inr ⟨rfl, rfl⟩
    · exact Or.inl e
/-- Iv behind a store -/
theorem ob_Iv_m {w : ob_Wd} {s : State} {c0 s0 nL : Nat} {ls st st' : List ob_AV} {mm mm' : ob_MM} {LS : Array Slot} {H H' : Heap} {locs : List Loc} {k j : Nat} {i : Int} (h : ob_Iv w s c0 s0 nL ls st mm LS H locs) (hR : ob_Rep w mm' H') (hn : ob_nA mm' = ob_nA mm ∧ ob_nS mm' = ob_nS mm) (hs : ∀ v ∈ st', ob_okv (ob_nA mm) v) (ho : ∀ q : Nat, q ≠ ob_sz w + ob_off k i → H'[q]? = H[q]?) : ob_Iv w s c0 s0 nL ls st' mm' LS H' (locs ++ [⟨ob_sz w + ob_off k i, j⟩]) := by
  obtain ⟨h1, h2, h3, h4, h5, h6, h7⟩ := h
  refine ⟨hR, by rw [hn.1]; exact h2, by rw [hn.1]; exact hs, fun q hq => by rw [ho q (by omega)]; exact h4 q hq, fun q hq => ?_, by rw [hn.1]; exact h6, by rw [hn.2]; exact h7⟩
  rcases List.mem_append.mp hq with e | e
  · exact h5 q e
  · rw [List.mem_singleton.mp e]
    exact Nat.le_add_right _ _
theorem ob_Iv_w {w : ob_Wd} {s : State} {c0 s0 nL : Nat} {ls st st' : List ob_AV} {mm mm' : ob_MM} {LS : Array Slot} {H H' : Heap} {locs locs' : List Loc} {k : Nat} {i : Int} (h : ob_Iv w s c0 s0 nL ls st mm LS H locs) (hR : ob_Rep w mm' H') (hn : ob_nA mm' = ob_nA mm ∧ ob_nS mm' = ob_nS mm) (hs : ∀ v ∈ st', ob_okv (ob_nA mm) v) (ho : ∀ q : Nat, q ≠ ob_sz w + ob_off k i → H'[q]? = H[q]?) (hl : ∀ q ∈ locs', ob_sz w ≤ q.base) : ob_Iv w s c0 s0 nL ls st' mm' LS H' (locs ++ locs') := by
  obtain ⟨h1, h2, h3, h4, h5, h6, h7⟩ := h
  refine ⟨hR, by rw [hn.1]; exact h2, by rw [hn.1]; exact hs, fun q hq => by rw [ho q (by omega)]; exact h4 q hq, fun q hq => ?_, by rw [hn.1]; exact h6, by rw [hn.2]; exact h7⟩
  rcases List.mem_append.mp hq with e | e
  · exact h5 q e
  · exact hl q e
theorem ob_vl_i {w : ob_Wd} {mm : ob_MM} {k s md : Nat} {i : Int} (h : ob_sk k s = (0, md)) : ob_vl w mm k i s = .int (Int32.ofInt (mm.1 k i (s : Int))) := by
  unfold ob_vl
  rw [h]
theorem ob_vl_r {w : ob_Wd} {mm : ob_MM} {k s tk md : Nat} {i : Int} (h : ob_sk k s = (tk + 1, md)) (hi : ob_ini mm.2 k i (s : Int) = true) : ob_vl w mm k i s = .ref (ob_ad w tk (ob_tg mm.1 md k i (s : Int))) := by
  unfold ob_vl
  rw [h]
  show cond (ob_ini mm.2 k i (s : Int)) _ _ = _
  rw [hi]
  rfl
section ob_Sim2
variable {w : ob_Wd} {p : Program} {l : Launch} {e : Env} {R : Room} {s : State} {m : MethodId} {args : Array Value} {below : List Frame} {meth : Method} {c : Code} {Q : State → Prop} {c0 s0 f pc nx : Nat} {aux : List Nat} {z : Int} {ls st : List ob_AV} {mm : ob_MM} {S : ob_St}
variable {H : Heap} {locs : List Loc} {cells slots : Nat} {LS : Array Slot} {rest : List Value}
theorem ob_Wput {t k a idx : Nat} {V : Nat → Value} {v : Value} (X : ob_Cx w p R s m args meth c f) (ht : t ≤ 8) (hk : k < ob_ns t) (hP : t_OB a (ob_dC w t) (ob_ns t) (ob_dI w t) H V) (hl : ob_inFL (ob_ow f) idx t k = true) (hfin : (ob_TT t k).2.2.2 = false ∨ ((ob_TT t k).2.2.2 = true ∧ ob_ow f = t ∧ (ob_y f).name = "<init>")) (hn : narrow (ob_tyq t k) v = v) (hfit : fits (ob_tyq t k) v = true) (hdg : decode (ob_by f) pc = .ok (.putfield idx, 3))
    (kk : ∀ H1 : Heap, t_OB a (ob_dC w t) (ob_ns t) (ob_dI w t) H1 (updV V k v) → H1.size = H.size → (∀ q : Nat, q ≠ a → H1[q]? = H[q]?) → W p l e R s m args below meth c H1 (locs ++ [⟨a, ob_dI w t k⟩]) cells slots Q (F0 m (pc + 3) LS rest)) : W p l e R s m args below meth c H locs cells slots Q (F0 m pc LS (v :: .ref a :: rest)) := by
  obtain ⟨hx, hb, hml, hown, hts, hlocks, hret, hname, hKK, hX, hsz, hrm⟩ := X
  have hK := hKK.1
  have hc := ob_clk t ht
  have h9 : t < 9 := by omega
  have hN := ob_nsk ht
  have hty : ∀ k, k < ob_ns t → parseFieldDescriptor (ob_TT t k).2.2.1 = some (ob_tyq t k) := by rw [hN]; exact ob_tyk t h9
  have hap := va_apart (own := ob_cn (ob_ow f)) (D := (ob_dC w, ob_dI w)) hts (ob_lays9 ht) (ob_tyq t) hty (by rw [hN]; exact ob_nmk t h9) hK hc
  have hlink := hts _ (ob_fl hl)
  obtain ⟨cell, q1, q2, q3, q4⟩ := hP
  obtain ⟨hS, hfc, kC, hkC, hkind⟩ := hK.1 t _ hc
  obtain ⟨cf, kf, fi, fd, hi, hsl⟩ := hS k hk
  have hst := (u_facts hfc hkC (u_lays hts (ob_lays9 ht) hk) hi).1
  have hlay := hts _ (ob_lays9 ht _ (u_in_lay hk))
  rcases hfin with hfin | ⟨hfin, how, hin⟩
  · unfold u_lay at hlay
    rw [if_neg (by rw [hfin]; decide)] at hlay
    have h6 := u_store hfc hkC hkind hlay hi (hty k hk) hn hfit
    refine W.putK hx hb (f := fd) ⟨hown, hlink, ⟨_, _, _, hi⟩, hst⟩ (by rw [q2]; exact h6) q1 q3 (by rw [hsl]; exact k2_hasslot (q4 k hk)) rfl rfl hdg fun H' e1 e2 e3 => ?_
    rw [hsl] at e1 ⊢
    exact kk H' ⟨_, e1, q2, q3, t_set q4 hap hk v⟩ e2 e3
  · unfold u_lay at hlay
    rw [if_pos hfin] at hlay
    have hcf : m.cls = cf := by
      obtain ⟨_, _, c', _, _, _, -, -, hf', -, -, -, hown2, -⟩ := Cond.laysFinal_spec hlay
      have e1 : c' = cf := by have := hi.symm.trans hf'; simp at this; exact this.1.symm
      rw [(ob_finq t h9 k (by rw [← hN]; exact hk)).1, ← how] at hown2
      rw [← e1]; exact Option.some.inj (hown.symm.trans hown2)
    have h6 := u_fits hfc hkC hkind (Or.inr hlay) hi (hty k hk) hn hfit
    refine W.putFinK hx hb hown hlink hi hst hcf ((hname (fun q => by rw [q] at hin; exact absurd hin (by decide))).trans hin) (by rw [q2]; exact h6) q1 q3 (by rw [hsl]; exact k2_hasslot (q4 k hk)) rfl rfl hdg fun H' e1 e2 e3 => ?_
    rw [hsl] at e1 ⊢
    exact kk H' ⟨_, e1, q2, q3, t_set q4 hap hk v⟩ e2 e3
set_option maxRecDepth 100000 in
theorem ob_s_getfield {idx : Nat} (X : ob_Cx w p R s m args meth c f) (hok : ob_ok f pc (.getfield idx, nx, aux, z) = true) (h : ob_nx (ob_ins (.getfield idx) nx aux z f ls st mm) S) (kk : ob_At w p l e R s m args below meth c Q c0 s0 (ob_mx f) S) : ob_At w p l e R s m args below meth c Q c0 s0 (ob_mx f) (f, pc, ls, st, mm) := by
  obtain ⟨t, i, st, rfl, h91⟩ := ob_r1_x h
  obtain ⟨ht, h92⟩ := ob_cond_x h91
  have g : (Nat.beq nx (pc + 3) && ob_okF f idx aux z) = true := ob_okI_of hok
  rw [Bool.and_eq_true] at g
  obtain ⟨hd, rfl⟩ := ob_okd hok g.1
  obtain ⟨g1, g2, g3, g4, g5, g6⟩ := ob_okFs g.2
  rw [← ob_beq ht] at g1 g3 g4 g5 g6
  subst g2
  intro LS H locs I
  have hoff := ob_pr_off (I.2.2.1 (t + 3, i) List.mem_cons_self) (by omega)
  have hcel := (I.1.2.2.1 t i hoff).1 g5
  have hk : ob_nth aux 1 0 < ob_ns t := by rw [ob_nsk g5]; exact g6
  have hv : ((List.range (ob_ns t)).map (ob_vl w mm t i))[ob_nth aux 1 0]? = some (ob_vl w mm t i (ob_nth aux 1 0)) := by
    rw [List.getElem?_map, List.getElem?_range hk]
    rfl
  have had : ob_ad w t i = ob_sz w + ob_off t i := ob_ad_n (by omega)
  have hrest : ∀ v ∈ st, ob_okv (ob_nA mm) v := fun x hx => I.2.2.1 x (List.mem_cons_of_mem _ hx)
  show W p l e R s m args below meth c H locs _ _ Q (F0 m pc LS (Value.ref (ob_ad w t i) :: List.map (ob_cv w) st))
  rw [had]
  refine va_get (D := (ob_dC w, ob_dI w)) (ci := t) (C := ob_cn t) (T := ob_TT t) (N := ob_ns t) X.1 X.2.1 X.2.2.2.2.1 (ob_lays9 g5) X.2.2.2.1 X.2.2.2.2.2.2.2.2.1.1 (ob_wP g5 hcel) 0 rfl (ob_clk t g5) (ob_nth aux 1 0) hk (X.2.2.2.2.1 _ (ob_fl g1)) (fun _ h9 => h9) hv hd ?_
  have hsk := ob_sko g5 (ob_nth aux 1 0)
  rw [g3, g4] at hsk
  split at h92
  · rename_i e0
    rw [e0] at hsk
    rw [ob_vl_i hsk]
    obtain rfl := ob_go_x h92
    exact kk LS H locs (ob_Iv_st I (ob_al1 (v := (1, _)) (I.1.2.2.2.1 _ _ _) hrest))
  · rename_i tk e0
    obtain ⟨hini, h99⟩ := ob_cond_x h92
    obtain rfl := ob_go_x h99
    rw [e0] at hsk
    have hr := I.1.2.2.2.2.2.1 t i (ob_nth aux 1 0) hoff hk tk _ hsk hini
    rw [ob_vl_r hsk hini]
    exact kk LS H locs (ob_Iv_st I (ob_al1 (v := (tk + 3, _)) (Or.inr hr) hrest))
theorem ob_stat_x {c : Option ob_CI} {K : Unit → ob_Ac} {S : ob_St} (h : ob_nx (ob_stat c K) S) : ∃ C, c = some C ∧ ob_nx (K ()) S := by
  unfold ob_stat at h
  split at h
  · exact (ob_stop_x h).elim
  · exact ⟨_, rfl, h⟩
theorem ob_add_i {c : Option ob_CI} {k : Nat} {i s : Int} : ob_ini (ob_add c k i s) k i s = true := by
  cases c with
  | none => rfl
  | some C =>
    show List.contains ((k, i, s) :: C.2.2) (k, i, s) = true
    rw [List.contains_cons]
    simp
set_option maxRecDepth 100000 in
theorem ob_s_putfield {idx : Nat} (X : ob_Cx w p R s m args meth c f) (hok : ob_ok f pc (.putfield idx, nx, aux, z) = true) (h : ob_nx (ob_ins (.putfield idx) nx aux z f ls st mm) S) (kk : ob_At w p l e R s m args below meth c Q c0 s0 (ob_mx f) S) : ob_At w p l e R s m args below meth c Q c0 s0 (ob_mx f) (f, pc, ls, st, mm) := by
  have g0 := ob_okI_of hok
  have g0 : (Nat.beq nx (pc + 3) && ob_okF f idx aux z && Nat.beq (ob_nth aux 4 0) (cond (decide ((ob_TT (ob_nth aux 0 0) (ob_nth aux 1 0)).2.2.1 = "Z")) 1 0) && (cond (Nat.beq (ob_nth aux 3 0) 0) (Nat.beq (ob_ftq (ob_nth aux 0 0) (ob_nth aux 1 0)).2.2 0) (Nat.beq (ob_ftq (ob_nth aux 0 0) (ob_nth aux 1 0)).2.2 1 && Nat.beq (ob_ow f) (ob_nth aux 0 0) && decide ((ob_y f).name = "<init>"))) && (cond (Nat.beq (ob_nth aux 2 0) 0) (Nat.beq (ob_nth aux 3 0) 0) true)) = true := g0
  rw [Bool.and_eq_true, Bool.and_eq_true, Bool.and_eq_true, Bool.and_eq_true] at g0
  obtain ⟨⟨⟨⟨gn, gF⟩, gZ⟩, gf⟩, gm⟩ := g0
  obtain ⟨hd, rfl⟩ := ob_okd hok gn
  obtain ⟨g1, g2, g3, g4, g5, g6⟩ := ob_okFs gF
  subst g2
  have hsk := ob_sko g5 (ob_nth aux 1 0)
  rw [g3, g4] at hsk
  have hk : ob_nth aux 1 0 < ob_ns (ob_nth aux 0 0) := by rw [ob_nsk g5]; exact g6
  have h9 : ob_nth aux 0 0 < 9 := by omega
  have hfinq := (ob_finq _ h9 _ g6).2
  have h : ob_nx (match ob_nth aux 2 0 with
      | 0 => ob_i1 st fun x st => ob_r1 st fun t i st => cond (Nat.beq t (ob_nth aux 0 0)) (match ob_nth aux 4 0 with
        | 0 => ob_go (f, pc + 3, ls, st, (ob_set mm.1 t i (Int.ofNat (ob_nth aux 1 0)) x, mm.2))
        | _ => ob_gd ⟨x = 0 ∨ x = 1, inferInstance⟩ (f, pc + 3, ls, st, (ob_set mm.1 t i (Int.ofNat (ob_nth aux 1 0)) x, mm.2))) (ob_stop none)
      | tk + 1 => ob_r1 st fun t2 i2 st => ob_r1 st fun t i st => cond (Nat.beq t (ob_nth aux 0 0) && Nat.beq t2 tk) (match ob_nth aux 3 0 with
        | 0 => ob_go (f, pc + 3, ls, st, (ob_set mm.1 t i (Int.ofNat (ob_nth aux 1 0)) i2, ob_add mm.2 t i (Int.ofNat (ob_nth aux 1 0))))
        | md => ob_stat mm.2 fun _ => ob_gd ⟨i2 = ob_tg mm.1 md t i (Int.ofNat (ob_nth aux 1 0)), inferInstance⟩ (f, pc + 3, ls, st, (mm.1, ob_add mm.2 t i (Int.ofNat (ob_nth aux 1 0))))) (ob_stop none)) S := h
  generalize hk0 : ob_nth aux 0 0 = t0 at g1 g3 g4 g5 g6 hsk hk h9 hfinq gZ gf h
  generalize hk1 : ob_nth aux 1 0 = sl at g1 g3 g4 g6 hsk hk hfinq gZ gf h
  split at h
  · rename_i e0
    rw [e0] at hsk gm
    obtain ⟨x, st, rfl, h1⟩ := ob_i1_x h
    obtain ⟨t, i, st, rfl, h2⟩ := ob_r1_x h1
    obtain ⟨ht, h3⟩ := ob_cond_x h2
    obtain rfl := ob_beq ht
    have gm : Nat.beq (ob_nth aux 3 0) 0 = true := gm
    rw [gm] at gf
    have gf : Nat.beq (ob_ftq t sl).2.2 0 = true := gf
    have hfin : (ob_TT t sl).2.2.2 = false := by
      rw [hfinq] at gf
      cases e : (ob_TT t sl).2.2.2 with
      | false => rfl
      | true => rw [e] at gf; cases gf
    have htz := (ob_tyz t h9 sl g6).1 (by rw [hsk]; rfl)
    have hfit : S = (f, pc + 3, ls, st, (ob_set mm.1 t i (Int.ofNat sl) x, mm.2)) ∧ ((ob_TT t sl).2.2.1 = "Z" → x = 0 ∨ x = 1) := by
      split at h3
      · rename_i e4
        refine ⟨ob_go_x h3, fun q => ?_⟩
        rw [e4] at gZ
        rw [show decide ((ob_TT t sl).2.2.1 = "Z") = true from decide_eq_true q] at gZ
        cases gZ
      · obtain ⟨q1, q2⟩ := ob_gd_x h3
        exact ⟨q2, fun _ => q1⟩
    obtain ⟨rfl, hz⟩ := hfit
    intro LS H locs I
    have hx : ob_r32 x := I.2.2.1 (1, x) List.mem_cons_self
    have hoff := ob_pr_off (I.2.2.1 (t + 3, i) (List.mem_cons_of_mem _ List.mem_cons_self)) (by omega)
    have hcel := (I.1.2.2.1 t i hoff).1 g5
    have had : ob_ad w t i = ob_sz w + ob_off t i := ob_ad_n (by omega)
    have hnf : narrow (ob_tyq t sl) (.int (Int32.ofInt x)) = .int (Int32.ofInt x) ∧ fits (ob_tyq t sl) (.int (Int32.ofInt x)) = true := by
      rw [htz]
      by_cases q : (ob_TT t sl).2.2.1 = "Z"
      · rw [decide_eq_true q]
        rcases hz q with rfl | rfl <;> decide
      · rw [decide_eq_false q]
        exact ⟨rfl, rfl⟩
    show W p l e R s m args below meth c H locs _ _ Q (F0 m pc LS (Value.int (Int32.ofInt x) :: Value.ref (ob_ad w t i) :: List.map (ob_cv w) st))
    rw [had]
    refine ob_Wput X g5 hk hcel g1 (Or.inl hfin) hnf.1 hnf.2 hd fun H1 hc1 hs1 ho1 => ?_
    refine kk LS H1 _ (ob_Iv_m (mm' := (ob_set mm.1 t i (Int.ofNat sl) x, mm.2)) I ?_ ⟨rfl, rfl⟩ (fun v hv => I.2.2.1 v (List.mem_cons_of_mem _ (List.mem_cons_of_mem _ hv))) ho1)
    have hvl : ob_vl w (ob_set mm.1 t i (Int.ofNat sl) x, mm.2) t i sl = .int (Int32.ofInt x) := by
      rw [ob_vl_i hsk]
      show Value.int (Int32.ofInt (ob_set mm.1 t i (Int.ofNat sl) x t i (sl : Int))) = _
      rw [show ((sl : Nat) : Int) = Int.ofNat sl from rfl, ob_set_e]
    refine ob_Rep_sto (s := sl) I.1 hoff hs1 ho1 ⟨fun _ => by rw [hvl]; exact hc1, fun q => absurd g5 q⟩ (fun k' i' s' q => ob_set_n q) (fun _ _ _ _ => rfl) ?_ rfl (fun tk md q => by rw [hsk] at q; cases q) (fun C' hC' => ⟨C', hC', rfl, fun q hq => Or.inl hq⟩)
    show ob_r32 (ob_set mm.1 t i (Int.ofNat sl) x t i (sl : Int))
    rw [show ((sl : Nat) : Int) = Int.ofNat sl from rfl, ob_set_e]
    exact hx
  · rename_i tk e0
    rw [e0] at hsk
    obtain ⟨t2, i2, st, rfl, h1⟩ := ob_r1_x h
    obtain ⟨t, i, st, rfl, h2⟩ := ob_r1_x h1
    obtain ⟨ht, h3⟩ := ob_cond_x h2
    rw [Bool.and_eq_true] at ht
    obtain rfl := ob_beq ht.1
    obtain rfl := ob_beq ht.2
    have htz := (ob_tyz t h9 sl g6).2 (by rw [hsk]; rfl)
    have hnf : ∀ a : Nat, narrow (ob_tyq t sl) (.ref a) = .ref a ∧ fits (ob_tyq t sl) (.ref a) = true := by
      intro a
      revert htz
      cases ob_tyq t sl <;> simp [narrow, fits]
    have key : ∀ mm' : ob_MM, S = (f, pc + 3, ls, st, mm') → mm'.2 = ob_add mm.2 t i (Int.ofNat sl) → (∀ (k' : Nat) (i' s' : Int), ¬ (k' = t ∧ i' = i ∧ s' = (sl : Int)) → mm'.1 k' i' s' = mm.1 k' i' s') → (∀ n : Nat, ob_pr n t2 i2 → t2 ≠ 15 → n ≤ ob_layN → ob_r32 (mm.1 t i (sl : Int)) → ob_r32 (mm'.1 t i (sl : Int))) → i2 = ob_tg mm'.1 (ob_nth aux 3 0) t i (sl : Int) → ((ob_TT t sl).2.2.2 = false ∨ ((ob_TT t sl).2.2.2 = true ∧ ob_ow f = t ∧ (ob_y f).name = "<init>")) → ob_At w p l e R s m args below meth c Q c0 s0 (ob_mx f) (f, pc, ls, (t2 + 3, i2) :: (t + 3, i) :: st, mm) := by
      intro mm' hS hm2 hm1 hr hi2 hfin
      subst hS
      intro LS H locs I
      have hp2 := I.2.2.1 (t2 + 3, i2) List.mem_cons_self
      have ht2 : t2 ≠ 15 := by
        intro q
        subst q
        have := ob_no15 t h9 sl g6
        rw [hsk] at this
        exact this rfl
      have hoff2 := ob_pr_off hp2 ht2
      have hoff := ob_pr_off (I.2.2.1 (t + 3, i) (List.mem_cons_of_mem _ List.mem_cons_self)) (by omega)
      have hcel := (I.1.2.2.1 t i hoff).1 g5
      have had : ob_ad w t i = ob_sz w + ob_off t i := ob_ad_n (by omega)
      have hnA : ob_nA mm' = ob_nA mm ∧ ob_nS mm' = ob_nS mm := by
        have := ob_add_nA mm.1 mm'.1 mm.2 t i (Int.ofNat sl)
        rw [← hm2] at this
        exact this
      have hini : ob_ini mm'.2 t i (sl : Int) = true := by rw [hm2]; exact ob_add_i
      show W p l e R s m args below meth c H locs _ _ Q (F0 m pc LS (Value.ref (ob_ad w t2 i2) :: Value.ref (ob_ad w t i) :: List.map (ob_cv w) st))
      rw [had]
      refine ob_Wput X g5 hk hcel g1 hfin (hnf _).1 (hnf _).2 hd fun H1 hc1 hs1 ho1 => ?_
      have K := kk LS H1 _ (ob_Iv_m (j := ob_dI w t sl) (mm' := mm') I ?_ hnA (fun v hv => I.2.2.1 v (List.mem_cons_of_mem _ (List.mem_cons_of_mem _ hv))) ho1)
      · rw [hnA.1, hnA.2] at K
        exact K
      have hvl : ob_vl w mm' t i sl = .ref (ob_ad w t2 i2) := by
        rw [ob_vl_r hsk hini, ← hi2]
      refine ob_Rep_sto (s := sl) I.1 hoff hs1 ho1 ⟨fun _ => by rw [hvl]; exact hc1, fun q => absurd g5 q⟩ hm1 (fun k' i' s' q => by rw [hm2]; exact ob_add_n q) (hr _ hp2 ht2 I.1.2.1 (I.1.2.2.2.1 _ _ _)) hnA.1 (fun tk' md' q _ => by
        rw [hsk] at q
        cases q
        rw [← hi2]
        exact ⟨ht2, hoff2⟩) (by rw [hm2]; exact ob_add_C)
    split at h3
    · rename_i e3
      obtain hS := ob_go_x h3
      rw [e3] at gf
      have gf : Nat.beq (ob_ftq t sl).2.2 0 = true := gf
      have hfin : (ob_TT t sl).2.2.2 = false := by
        rw [hfinq] at gf
        cases e : (ob_TT t sl).2.2.2 with
        | false => rfl
        | true => rw [e] at gf; cases gf
      refine key _ hS rfl (fun k' i' s' q => ob_set_n q) (fun n hp ht2 hn _ => ?_) ?_ (Or.inl hfin)
      · show ob_r32 (ob_set mm.1 t i (Int.ofNat sl) i2 t i (sl : Int))
        rw [show ((sl : Nat) : Int) = Int.ofNat sl from rfl, ob_set_e]
        exact ob_idx_r (Nat.lt_of_lt_of_le (ob_pr_off hp ht2) hn)
      · rw [e3]
        show i2 = ob_set mm.1 t i (Int.ofNat sl) i2 t i (sl : Int)
        rw [show ((sl : Nat) : Int) = Int.ofNat sl from rfl, ob_set_e]
    · rename_i e3
      obtain ⟨C, hC, h4⟩ := ob_stat_x h3
      obtain ⟨hi2, hS⟩ := ob_gd_x h4
      rw [show Nat.beq (ob_nth aux 3 0) 0 = false from by
        cases e : Nat.beq (ob_nth aux 3 0) 0 with
        | false => rfl
        | true => exact absurd (ob_beq e) e3] at gf
      have gf : (Nat.beq (ob_ftq t sl).2.2 1 && Nat.beq (ob_ow f) t && decide ((ob_y f).name = "<init>")) = true := gf
      rw [Bool.and_eq_true, Bool.and_eq_true] at gf
      have hfin : (ob_TT t sl).2.2.2 = true := by
        have q := gf.1.1
        rw [hfinq] at q
        cases e : (ob_TT t sl).2.2.2 with
        | true => rfl
        | false => rw [e] at q; cases q
      exact key _ hS rfl (fun k' i' s' q => rfl) (fun n hp ht2 hn h5 => h5) hi2 (Or.inr ⟨hfin, ob_beq gf.1.2, of_decide_eq_true gf.2⟩)
end ob_Sim2
