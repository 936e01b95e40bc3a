-- SOUNDNESS: a run of the abstract machine is a run of the machine
/-- one next state at most, in the same method -/
def ob_sm (f : Nat) (a : ob_Ac) : Prop := a = ob_stop none ∨ (∃ S, a = ob_go S ∧ S.1 = f) ∨ ∃ d S, a = ob_gd d S ∧ S.1 = f
section ob_Sm
variable {f : Nat} {st ls : List ob_AV}
theorem ob_sm_n : ob_sm f (ob_stop none) := Or.inl rfl
theorem ob_sm_g {S : ob_St} (h : S.1 = f) : ob_sm f (ob_go S) := Or.inr (Or.inl ⟨S, rfl, h⟩)
theorem ob_sm_d {d : ob_Dc} {S : ob_St} (h : S.1 = f) : ob_sm f (ob_gd d S) := Or.inr (Or.inr ⟨d, S, rfl, h⟩)
theorem ob_sm_i1 {K : Int → List ob_AV → ob_Ac} (h : ∀ a r, ob_sm f (K a r)) : ob_sm f (ob_i1 st K) := by
  unfold ob_i1
  split
  · exact h _ _
  · exact ob_sm_n
theorem ob_sm_l1 {K : Int → List ob_AV → ob_Ac} (h : ∀ a r, ob_sm f (K a r)) : ob_sm f (ob_l1 st K) := by
  unfold ob_l1
  split
  · exact h _ _
  · exact ob_sm_n
theorem ob_sm_r1 {K : Nat → Int → List ob_AV → ob_Ac} (h : ∀ t a r, ob_sm f (K t a r)) : ob_sm f (ob_r1 st K) := by
  unfold ob_r1
  split
  · exact h _ _ _
  · exact ob_sm_n
theorem ob_sm_v1 {K : ob_AV → List ob_AV → ob_Ac} (h : ∀ a r, ob_sm f (K a r)) : ob_sm f (ob_v1 st K) := by
  unfold ob_v1
  split
  · exact ob_sm_n
  · cases Nat.beq _ 2
    · exact h _ _
    · exact ob_sm_n
theorem ob_sm_ldi {k : Nat} {K : Int → ob_Ac} (h : ∀ a, ob_sm f (K a)) : ob_sm f (ob_ldi ls k K) := by
  unfold ob_ldi
  split
  · exact h _
  · exact ob_sm_n
theorem ob_sm_ldl {k : Nat} {K : Int → ob_Ac} (h : ∀ a, ob_sm f (K a)) : ob_sm f (ob_ldl ls k K) := by
  unfold ob_ldl
  split
  · exact h _
  · exact ob_sm_n
theorem ob_sm_ldr {k : Nat} {K : Nat → Int → ob_Ac} (h : ∀ t a, ob_sm f (K t a)) : ob_sm f (ob_ldr ls k K) := by
  unfold ob_ldr
  split
  · exact h _ _
  · exact ob_sm_n
theorem ob_sm_sto {k : Nat} {v : ob_AV} {K : List ob_AV → ob_Ac} (h : ∀ a, ob_sm f (K a)) : ob_sm f (ob_sto ls k v K) := by
  unfold ob_sto
  split
  · exact h _
  · split
    cases Nat.beq _ 2
    · exact h _
    · exact ob_sm_n
theorem ob_sm_c {b : Bool} {a a' : ob_Ac} (h : ob_sm f a) (h' : ob_sm f a') : ob_sm f (cond b a a') := by
  cases b
  · exact h'
  · exact h
theorem ob_sm_seal {mm : ob_MM} {K : ob_MM → ob_Ac} (h : ∀ mm', ob_sm f (K mm')) : ob_sm f (ob_seal mm K) := by
  unfold ob_seal
  split
  · exact ob_sm_n
  · exact ob_sm_c (h _) ob_sm_n
theorem ob_sm_stat {c : Option ob_CI} {K : Unit → ob_Ac} (h : ob_sm f (K ())) : ob_sm f (ob_stat c K) := by
  unfold ob_stat
  split
  · exact ob_sm_n
  · exact h
theorem ob_sm_new {k nx n : Nat} {mm : ob_MM} : ob_sm f (ob_new k f nx ls st n mm) := by
  unfold ob_new
  split
  · exact ob_sm_n
  · exact ob_sm_c (ob_sm_g rfl) ob_sm_n
end ob_Sm
theorem ob_sm_x {f : Nat} {X : ob_St → ob_Res} {a : ob_Ac} {r : Int × ob_MM} (hs : ob_sm f a) (h : ob_int X X a = some r) : ∃ S, ob_nx a S ∧ S.1 = f ∧ X S = some r := by
  rcases hs with rfl | ⟨S, rfl, hS⟩ | ⟨⟨d, i⟩, S, rfl, hS⟩
  · cases h
  · exact ⟨S, Or.inl rfl, hS, h⟩
  · have h : @ite _ d i (X S) none = some r := h
    by_cases q : d
    · rw [if_pos q] at h
      exact ⟨S, Or.inr ⟨⟨d, i⟩, rfl, q⟩, hS, h⟩
    · rw [if_neg q] at h
      cases h
theorem ob_i1_i {X : ob_St → ob_Res} {st : List ob_AV} {K : Int → List ob_AV → ob_Ac} {r : Int × ob_MM} (h : ob_int X X (ob_i1 st K) = some r) : ∃ a rs, st = (1, a) :: rs ∧ ob_int X X (K a rs) = some r := by
  unfold ob_i1 at h
  split at h
  · exact ⟨_, _, rfl, h⟩
  · cases h
def ob_P (cd : ClassFile.Cond) (a b : Int) : Prop := match cd with
  | .eq => a = b
  | .ne => ¬ a = b
  | .lt => a < b
  | .ge => ¬ a < b
  | .gt => b < a
  | .le => ¬ b < a
theorem ob_cnd_i {X : ob_St → ob_Res} {cd : ClassFile.Cond} {a b : Int} {S S' : ob_St} {r : Int × ob_MM} (h : ob_int X X (ob_cnd cd a b S S') = some r) : (ob_P cd a b → X S = some r) ∧ (¬ ob_P cd a b → X S' = some r) := by
  cases cd with
  | eq =>
    have h : (if a = b then X S else X S') = some r := h
    exact ⟨fun q => by rw [if_pos (show a = b from q)] at h; exact h, fun q => by rw [if_neg (show ¬ a = b from q)] at h; exact h⟩
  | ne =>
    have h : (if a = b then X S' else X S) = some r := h
    exact ⟨fun q => by rw [if_neg (show ¬ a = b from q)] at h; exact h, fun q => by rw [if_pos (show a = b from Classical.byContradiction q)] at h; exact h⟩
  | lt =>
    have h : (if a < b then X S else X S') = some r := h
    exact ⟨fun q => by rw [if_pos (show a < b from q)] at h; exact h, fun q => by rw [if_neg (show ¬ a < b from q)] at h; exact h⟩
  | ge =>
    have h : (if a < b then X S' else X S) = some r := h
    exact ⟨fun q => by rw [if_neg (show ¬ a < b from q)] at h; exact h, fun q => by rw [if_pos (show a < b from Classical.byContradiction q)] at h; exact h⟩
  | gt =>
    have h : (if b < a then X S else X S') = some r := h
    exact ⟨fun q => by rw [if_pos (show b < a from q)] at h; exact h, fun q => by rw [if_neg (show ¬ b < a from q)] at h; exact h⟩
  | le =>
    have h : (if b < a then X S' else X S) = some r := h
    exact ⟨fun q => by rw [if_neg (show ¬ b < a from q)] at h; exact h, fun q => by rw [if_pos (show b < a from Classical.byContradiction q)] at h; exact h⟩
section ob_Br
variable {w : ob_Wd} {p : Program} {l : Launch} {e : Env} {R : Room} {s : State} {m : MethodId} {args : Array Value} {below : List Frame} {meth : Method} {c : Code} {Q : State → Prop} {c0 s0 f pc nx nL : Nat} {aux : List Nat} {z : Int} {ls st : List ob_AV} {mm : ob_MM} {S : ob_St}
variable {H : Heap} {locs : List Loc} {cells slots : Nat} {LS : Array Slot} {rest : List Value} {cc : ByteArray} {off : Int} {tgt : Nat} {a b : Int}
theorem ob_Wicmp {cd : ClassFile.Cond} (hx : p.tables.exec = Jvm.exec) (hb : c.code = cc) (hd : decode cc pc = .ok (.if_icmp cd off, 3)) (ht : (pc : Int) + off = (tgt : Int)) (ra : ob_r32 a) (rb : ob_r32 b) (k1 : ob_P cd a b → W p l e R s m args below meth c H locs cells slots Q (F0 m tgt LS rest)) (k2 : ¬ ob_P cd a b → W p l e R s m args below meth c H locs cells slots Q (F0 m (pc + 3) LS rest)) :
    W p l e R s m args below meth c H locs cells slots Q (F0 m pc LS (.int (Int32.ofInt b) :: .int (Int32.ofInt a) :: rest)) := by
  have eq := ob_i_eq ra rb
  have lt := ob_i_lt ra rb
  have gt := ob_i_lt rb ra
  have le := ob_i_le ra rb
  have ge := ob_i_le rb ra
  cases cd with
  | eq => exact lv_icmp_eq hx hb hd ht (fun q => k1 (eq.mp q)) (fun q => k2 (fun z => q (eq.mpr z)))
  | ne => exact lv_icmp_ne hx hb hd ht (fun q => k1 (fun z => q (eq.mpr z))) (fun q => k2 (fun z => z (eq.mp q)))
  | lt => exact lv_icmp_lt hx hb hd ht (fun q => k1 (lt.mp q)) (fun q => k2 (fun z => q (lt.mpr z)))
  | ge => exact lv_icmp_ge hx hb hd ht (fun q => k1 (fun z => by have z : a < b := z; have := ge.mp q; omega)) (fun q => k2 (fun z => q (ge.mpr (by have z : ¬ a < b := z; omega))))
  | gt => exact lv_icmp_gt hx hb hd ht (fun q => k1 (gt.mp q)) (fun q => k2 (fun z => q (gt.mpr z)))
  | le => exact lv_icmp_le hx hb hd ht (fun q => k1 (fun z => by have z : b < a := z; have := le.mp q; omega)) (fun q => k2 (fun z => q (le.mpr (by have z : ¬ b < a := z; omega))))
theorem ob_Wif {cd : ClassFile.Cond} (hx : p.tables.exec = Jvm.exec) (hb : c.code = cc) (hd : decode cc pc = .ok (.ifCond cd off, 3)) (ht : (pc : Int) + off = (tgt : Int)) (ra : ob_r32 a) (k1 : ob_P cd a 0 → W p l e R s m args below meth c H locs cells slots Q (F0 m tgt LS rest)) (k2 : ¬ ob_P cd a 0 → W p l e R s m args below meth c H locs cells slots Q (F0 m (pc + 3) LS rest)) :
    W p l e R s m args below meth c H locs cells slots Q (F0 m pc LS (.int (Int32.ofInt a) :: rest)) := by
  have eq : Int32.ofInt a = 0 ↔ a = 0 := ob_i_eq ra ob_r0
  have lt : Int32.ofInt a < 0 ↔ a < 0 := ob_i_lt ra ob_r0
  have gt : 0 < Int32.ofInt a ↔ 0 < a := ob_i_lt ob_r0 ra
  have le : Int32.ofInt a ≤ 0 ↔ a ≤ 0 := ob_i_le ra ob_r0
  have ge : 0 ≤ Int32.ofInt a ↔ 0 ≤ a := ob_i_le ob_r0 ra
  cases cd with
  | eq => exact lv_if_eq hx hb hd ht (fun q => k1 (eq.mp q)) (fun q => k2 (fun z => q (eq.mpr z)))
  | ne => exact lv_if_ne hx hb hd ht (fun q => k1 (fun z => q (eq.mpr z))) (fun q => k2 (fun z => z (eq.mp q)))
  | lt => exact lv_if_lt hx hb hd ht (fun q => k1 (lt.mp q)) (fun q => k2 (fun z => q (lt.mpr z)))
  | ge => exact lv_if_ge hx hb hd ht (fun q => k1 (fun z => by have z : a < 0 := z; have := ge.mp q; omega)) (fun q => k2 (fun z => q (ge.mpr (by have z : ¬ a < 0 := z; omega))))
  | gt => exact lv_if_gt hx hb hd ht (fun q => k1 (gt.mp q)) (fun q => k2 (fun z => q (gt.mpr z)))
  | le => exact lv_if_le hx hb hd ht (fun q => k1 (fun z => by have z : 0 < a := z; have := le.mp q; omega)) (fun q => k2 (fun z => q (le.mpr (by have z : ¬ 0 < a := z; omega))))
end ob_Br
/-- which state a switch goes to -/
theorem ob_swi_i {X : ob_St → ob_Res} {v : Int} {d : ob_St} {r : Int × ob_MM} : ∀ cs : List (Int × ob_St), ob_swi X v cs d = some r → (∃ S, (v, S) ∈ cs ∧ X S = some r ∧ (∃ i : Nat, cs[i]? = some (v, S) ∧ ∀ (j : Nat) (q : Int × ob_St), j < i → cs[j]? = some q → q.1 ≠ v)) ∨ ((∀ q ∈ cs, q.1 ≠ v) ∧ X d = some r)
  | [], h => Or.inr ⟨(fun _ hq => by cases hq), h⟩
  | q :: cs, h => by
    unfold ob_swi at h
    by_cases c : v = q.1
    · rw [if_pos c] at h
      exact Or.inl ⟨q.2, by rw [c]; exact List.mem_cons_self, h, 0, by rw [c]; simp, fun j _ hj => absurd hj (Nat.not_lt_zero _)⟩
    · rw [if_neg c] at h
      rcases ob_swi_i cs h with ⟨S, h1, h2, i, h3, h4⟩ | ⟨h1, h2⟩
      · refine Or.inl ⟨S, List.mem_cons_of_mem _ h1, h2, i + 1, h3, fun j x hj hx => ?_⟩
        cases j with
        | zero =>
          cases hx
          exact fun z => c z.symm
        | succ j => exact h4 j x (by omega) hx
      · exact Or.inr ⟨fun x hx => (List.mem_cons.mp hx).elim (fun z => by rw [z]; exact fun z => c z.symm) (h1 x), h2⟩
theorem ob_inv_i {X : ob_St → ob_Res} {vt : Bool} {aux : List Nat} {f nx : Nat} {ls st : List ob_AV} {mm : ob_MM} {r : Int × ob_MM} (h : ob_int X X (ob_inv vt aux f nx ls st mm) = some r) : ∃ as rs r1 mm1, ob_pop (ob_nth aux 2 0) [] st = some (as, rs) ∧ ob_wk 8 rs = true ∧ ob_wk (ob_nth aux 5 0) as = true ∧ (vt = true → ob_hd (ob_nth aux 4 0) as = true) ∧ X (ob_nth aux 1 0, 0, ob_mkL as (ob_nth aux 5 0), [], mm) = some (r1, mm1) ∧ X (f, nx, ls, ob_psh (ob_nth aux 3 0) r1 rs, mm1) = some r := by
  unfold ob_inv at h
  cases e : ob_pop (ob_nth aux 2 0) [] st with
  | none => rw [e] at h; cases h
  | some q =>
    obtain ⟨as, rs⟩ := q
    rw [e] at h
    have h : ob_int X X (cond (ob_wk 8 rs && ob_wk (ob_nth aux 5 0) as && (!vt || ob_hd (ob_nth aux 4 0) as)) (ob_ca (ob_nth aux 1 0, 0, ob_mkL as (ob_nth aux 5 0), [], mm) (fun v mm' => (f, nx, ls, ob_psh (ob_nth aux 3 0) v rs, mm'))) (ob_stop none)) = some r := h
    cases e2 : (ob_wk 8 rs && ob_wk (ob_nth aux 5 0) as && (!vt || ob_hd (ob_nth aux 4 0) as)) with
    | false => rw [e2] at h; cases h
    | true =>
      rw [e2] at h
      rw [Bool.and_eq_true, Bool.and_eq_true] at e2
      have h : (X (ob_nth aux 1 0, 0, ob_mkL as (ob_nth aux 5 0), [], mm)).bind (fun q => X (f, nx, ls, ob_psh (ob_nth aux 3 0) q.1 rs, q.2)) = some r := h
      obtain ⟨⟨r1, mm1⟩, h1, h2⟩ := Option.bind_eq_some_iff.mp h
      exact ⟨as, rs, r1, mm1, rfl, e2.1.1, e2.1.2, fun hv => by have := e2.2; rw [hv] at this; exact this, h1, h2⟩
theorem ob_vnin_a : ∀ q ∈ ob_ML, True := fun _ _ => trivial
/-- no invokevirtual of the tables calls a constructor -/
def ob_nvR : List (Option ob_Ent) → Bool
  | [] => true
  | none :: l => ob_nvR l
  | some (.invokevirtual _, _, aux, _) :: l => !decide ((ob_y (ob_nth aux 1 0)).name = "<init>") && ob_nvR l
  | some _ :: l => ob_nvR l
theorem ob_nvR_e : ∀ (r : List (Option ob_Ent)) (k : Nat) {i nx : Nat} {aux : List Nat} {z : Int}, ob_nvR r = true → ob_nth r k none = some (.invokevirtual i, nx, aux, z) → (ob_y (ob_nth aux 1 0)).name ≠ "<init>"
  | [], _, _, _, _, _, _, h => by cases h
  | none :: _, 0, _, _, _, _, _, h => by cases h
  | some x :: l, 0, i, nx, aux, z, hc, h => by
    cases h
    have hc : (!decide ((ob_y (ob_nth aux 1 0)).name = "<init>") && ob_nvR l) = true := hc
    rw [Bool.and_eq_true] at hc
    intro q
    rw [decide_eq_true q] at hc
    cases hc.1
  | none :: l, k + 1, i, nx, aux, z, hc, h => ob_nvR_e l k hc h
  | some x :: l, k + 1, i, nx, aux, z, hc, h => by
    refine ob_nvR_e l k ?_ h
    obtain ⟨ins, a, b, d⟩ := x
    cases ins <;> first | exact hc | (have hc : (!decide ((ob_y (ob_nth b 1 0)).name = "<init>") && ob_nvR l) = true := hc; rw [Bool.and_eq_true] at hc; exact hc.2)
set_option maxRecDepth 1000000 in
theorem ob_nvA : ob_codes.all (fun g => g.all (fun c => c.all ob_nvR)) = true := by decide +kernel
theorem ob_nth_in {α : Type} (d : α) : ∀ (l : List α) (n : Nat), ob_nth l n d = d ∨ ob_nth l n d ∈ l
  | [], _ => Or.inl rfl
  | _ :: _, 0 => Or.inr List.mem_cons_self
  | _ :: l, n + 1 => (ob_nth_in d l n).elim Or.inl (fun h => Or.inr (List.mem_cons_of_mem _ h))
theorem ob_vnin {f pc i nx : Nat} {aux : List Nat} {z : Int} (h : ob_code f pc = some (.invokevirtual i, nx, aux, z)) : (ob_y (ob_nth aux 1 0)).name ≠ "<init>" := by
  unfold ob_code at h
  refine ob_nvR_e _ (pc % 16) ?_ h
  rcases ob_nth_in [] (ob_nth (ob_nth ob_codes (f / 16) []) (f % 16) []) (pc / 16) with q | q
  · rw [q]
    rfl
  rcases ob_nth_in [] (ob_nth ob_codes (f / 16) []) (f % 16) with q2 | q2
  · rw [q2] at q
    cases q
  rcases ob_nth_in [] ob_codes (f / 16) with q3 | q3
  · rw [q3] at q2
    cases q2
  exact List.all_eq_true.mp (List.all_eq_true.mp (List.all_eq_true.mp ob_nvA _ q3) _ q2) _ q
theorem ob_iret_i {X : ob_St → ob_Res} {nx f : Nat} {aux : List Nat} {z : Int} {ls st : List ob_AV} {mm mm' : ob_MM} {r : Int} (h : ob_int X X (ob_ins .ireturn nx aux z f ls st mm) = some (r, mm')) : ∃ a, st = [(1, a)] ∧ (ob_nth aux 0 0 = 0 → r = a ∧ mm' = mm) ∧ (ob_nth aux 0 0 ≠ 0 → r = a ∧ mm' = mm ∧ (a = 0 ∨ a = 1)) := by
  have h9 : ob_int X X (match (generalizing := false) st with
    | [(1, a)] => match (generalizing := false) ob_nth aux 0 0 with
      | 0 => ob_stop (some (a, mm))
      | _ => ob_stop (if a = 0 ∨ a = 1 then some (a, mm) else none)
    | _ => ob_stop none) = some (r, mm') := h
  clear h
  split at h9
  · rename_i a
    refine ⟨a, rfl, ?_⟩
    split at h9
    · rename_i e0
      cases h9
      exact ⟨fun _ => ⟨rfl, rfl⟩, fun q => absurd e0 q⟩
    · rename_i e0
      have h : (if a = 0 ∨ a = 1 then some (a, mm) else none) = some (r, mm') := h9
      refine ⟨fun q => absurd q e0, fun _ => ?_⟩
      by_cases q : a = 0 ∨ a = 1
      · rw [if_pos q] at h
        cases h
        exact ⟨rfl, rfl, q⟩
      · rw [if_neg q] at h
        cases h
  · cases h9
theorem ob_lret_i {X : ob_St → ob_Res} {nx f : Nat} {aux : List Nat} {z : Int} {ls st : List ob_AV} {mm mm' : ob_MM} {r : Int} (h : ob_int X X (ob_ins .lreturn nx aux z f ls st mm) = some (r, mm')) : st = [(2, r)] ∧ mm' = mm := by
  have h : ob_int X X (match (generalizing := false) st with
    | [(2, a)] => ob_stop (some (a, mm))
    | _ => ob_stop none) = some (r, mm') := h
  split at h
  · cases h
    exact ⟨rfl, rfl⟩
  · cases h
theorem ob_vret_i {X : ob_St → ob_Res} {nx f : Nat} {aux : List Nat} {z : Int} {ls st : List ob_AV} {mm mm' : ob_MM} {r : Int} (h : ob_int X X (ob_ins .return_ nx aux z f ls st mm) = some (r, mm')) : st = [] ∧ mm' = mm := by
  have h : ob_int X X (match (generalizing := false) st with
    | [] => ob_stop (some (0, mm))
    | _ => ob_stop none) = some (r, mm') := h
  split at h
  · cases h
    exact ⟨rfl, rfl⟩
  · cases h
theorem ob_lsw {X : ob_St → ob_Res} {pc f : Nat} {ls st : List ob_AV} {mm : ob_MM} {d : Int} {dt : Nat} {v : Int} {r : Int × ob_MM} : ∀ (ps : List (Int × Int)) (ts : List Nat), ps.map (fun o => (pc : Int) + o.2) = ts.map Int.ofNat → (pc : Int) + d = Int.ofNat dt → ob_swi X v ((ps.zip ts).map fun q => (q.1.1, ((f, q.2, ls, st, mm) : ob_St))) (f, dt, ls, st, mm) = some r → ∃ (off : Int) (t : Nat), Op.lookupswitch.offset ps d v = off ∧ (pc : Int) + off = (t : Int) ∧ X (f, t, ls, st, mm) = some r
  | [], ts, _, h2, h => ⟨d, dt, rfl, h2, h⟩
  | q :: ps, [], h1, _, _ => by cases h1
  | q :: ps, t :: ts, h1, h2, h => by
    have h1a : (pc : Int) + q.2 = Int.ofNat t := (List.cons.inj h1).1
    have h1b := (List.cons.inj h1).2
    have h : (if v = q.1 then X (f, t, ls, st, mm) else ob_swi X v ((ps.zip ts).map fun q => (q.1.1, ((f, q.2, ls, st, mm) : ob_St))) (f, dt, ls, st, mm)) = some r := h
    by_cases c : v = q.1
    · rw [if_pos c] at h
      refine ⟨q.2, t, ?_, h1a, h⟩
      simp [Op.lookupswitch.offset, c]
    · rw [if_neg c] at h
      obtain ⟨off, t', k1, k2, k3⟩ := ob_lsw ps ts h1b h2 h
      refine ⟨off, t', ?_, k2, k3⟩
      rw [← k1]
      have c2 : ¬ q.1 = v := fun z => c z.symm
      simp [Op.lookupswitch.offset, c, c2]
theorem ob_st_i {X : ob_St → ob_Res} {idx nx f : Nat} {aux : List Nat} {z : Int} {ls st : List ob_AV} {mm : ob_MM} {r : Int × ob_MM} (h1 : aux ≠ [1]) (h2 : aux ≠ [2]) (h3 : aux ≠ [3]) (h4 : aux ≠ [4]) (h : ob_int X X (ob_ins (.invokestatic idx) nx aux z f ls st mm) = some r) : ob_int X X (ob_inv false aux f nx ls st mm) = some r := by
  have h : ob_int X X (match (generalizing := false) aux with
    | [1] => ob_i1 st _
    | [2] => ob_i1 st _
    | [3] => ob_i1 st _
    | [4] => ob_i1 st _
    | _ => ob_inv false aux f nx ls st mm) = some r := h
  split at h
  · exact absurd rfl h1
  · exact absurd rfl h2
  · exact absurd rfl h3
  · exact absurd rfl h4
  · exact h
theorem ob_st_o {f pc idx nx : Nat} {aux : List Nat} {z : Int} (h1 : aux ≠ [1]) (h2 : aux ≠ [2]) (h3 : aux ≠ [3]) (h4 : aux ≠ [4]) (h : ob_okI f pc (.invokestatic idx) nx aux z = true) : (Nat.beq nx (pc + 3) && ob_okC f idx aux 1 0) = true := by
  have h : (Nat.beq nx (pc + 3) && (match (generalizing := false) aux with
    | [1] => ob_in4 ob_SP (ob_ow f) idx 1 && Nat.ble 1 (ob_rk f)
    | [2] => ob_in4 ob_SP (ob_ow f) idx 2 && Nat.ble 1 (ob_rk f)
    | [3] => ob_in4 ob_SP (ob_ow f) idx 3 && Nat.ble 1 (ob_rk f)
    | [4] => ob_in4 ob_SP (ob_ow f) idx 4 && Nat.ble 1 (ob_rk f)
    | _ => ob_okC f idx aux 1 0)) = true := h
  split at h
  · exact absurd rfl h1
  · exact absurd rfl h2
  · exact absurd rfl h3
  · exact absurd rfl h4
  · exact h
theorem ob_tsw {lo : Int} {f : Nat} {ls st : List ob_AV} {mm : ob_MM} {ts : List Nat} {v : Int} {S : ob_St} {i : Nat} (h : ((ts.zipIdx).map fun q => (lo + (q.2 : Int), ((f, q.1, ls, st, mm) : ob_St)))[i]? = some (v, S)) : ∃ t, ts[i]? = some t ∧ v = lo + (i : Int) ∧ S = (f, t, ls, st, mm) := by
  rw [List.getElem?_map, List.getElem?_zipIdx] at h
  cases e : ts[i]? with
  | none => rw [e] at h; cases h
  | some t =>
    rw [e] at h
    have h := Option.some.inj h
    refine ⟨t, rfl, ?_, (congrArg Prod.snd h).symm⟩
    have := congrArg Prod.fst h
    have this : lo + ((0 + i : Nat) : Int) = v := this
    omega
set_option maxRecDepth 100000 in
set_option maxHeartbeats 4000000 in
theorem ob_snd_succ {w : ob_Wd} {n : Nat} (ih : ob_Snd w n) : ob_Snd w (n + 1) := by
  intro f pc ls st mm r mm' hx p l e R s m args below meth c Q c0 s0 X hb1 hb2 hRe
  have hx : ob_int (ob_ex n) (ob_ex n) (match (generalizing := false) ob_code f pc with
    | none => ob_stop none
    | some (ins, nx, aux, z) => ob_ins ins nx aux z f ls st mm) = some (r, mm') := hx
  cases hcd : ob_code f pc with
  | none => rw [hcd] at hx; cases hx
  | some x =>
  obtain ⟨ins, nx, aux, z⟩ := x
  rw [hcd] at hx
  have hx : ob_int (ob_ex n) (ob_ex n) (ob_ins ins nx aux z f ls st mm) = some (r, mm') := hx
  have hok := (ob_allok hcd).1
  have go : ∀ S : ob_St, S.1 = f → ob_ex n S = some (r, mm') → ob_At w p l e R s m args below meth c Q c0 s0 (ob_mx f) S := by
    rintro ⟨f', pc', ls', st', mm''⟩ hf hS
    have hf : f' = f := hf
    subst hf
    exact ih f' pc' ls' st' mm'' r mm' hS p l e R s m args below meth c Q c0 s0 X hb1 hb2 hRe
  have bd : ∀ S : ob_St, ob_ex n S = some (r, mm') → ob_nA S.2.2.2.2 ≤ R.cells + c0 ∧ ob_nS S.2.2.2.2 ≤ R.slots + s0 := fun S hS => ⟨Nat.le_trans (ob_mono n _ _ hS).1 hb1, Nat.le_trans (ob_mono n _ _ hS).2 hb2⟩
  cases ins with
  | aaload =>
    have sm : ob_sm f (ob_ins (.aaload) nx aux z f ls st mm) := ob_sm_i1 fun _ _ => ob_sm_r1 fun _ _ _ => ob_sm_c (ob_sm_d rfl) ob_sm_n
    obtain ⟨S, h1, h2, h3⟩ := ob_sm_x sm hx
    exact ob_s_aaload X hok h1 (go S h2 h3)
  | aastore =>
    have sm : ob_sm f (ob_ins (.aastore) nx aux z f ls st mm) := ob_sm_r1 fun _ _ _ => ob_sm_i1 fun _ _ => ob_sm_r1 fun _ _ _ => ob_sm_c (by
      split
      · exact ob_sm_d rfl
      · exact ob_sm_stat (ob_sm_d rfl)) ob_sm_n
    obtain ⟨S, h1, h2, h3⟩ := ob_sm_x sm hx
    exact ob_s_aastore X hok h1 (go S h2 h3)
  | aconst_null => cases hx
  | aload k =>
    have sm : ob_sm f (ob_ins (.aload k) nx aux z f ls st mm) := ob_sm_ldr fun _ _ => ob_sm_g rfl
    obtain ⟨S, h1, h2, h3⟩ := ob_sm_x sm hx
    exact ob_s_aload X hok h1 (go S h2 h3)
  | aload_n k =>
    have sm : ob_sm f (ob_ins (.aload_n k) nx aux z f ls st mm) := ob_sm_ldr fun _ _ => ob_sm_g rfl
    obtain ⟨S, h1, h2, h3⟩ := ob_sm_x sm hx
    exact ob_s_aload_n X hok h1 (go S h2 h3)
  | anewarray ki =>
    have sm : ob_sm f (ob_ins (.anewarray ki) nx aux z f ls st mm) := ob_sm_i1 fun _ _ => ob_sm_c ob_sm_new ob_sm_n
    obtain ⟨S, h1, h2, h3⟩ := ob_sm_x sm hx
    exact ob_s_anewarray X hok h1 (go S h2 h3) (bd S h3).1 (bd S h3).2
  | areturn => cases hx
  | arraylength =>
    have sm : ob_sm f (ob_ins (.arraylength) nx aux z f ls st mm) := ob_sm_r1 fun _ _ _ => ob_sm_c (ob_sm_g rfl) ob_sm_n
    obtain ⟨S, h1, h2, h3⟩ := ob_sm_x sm hx
    exact ob_s_arraylength X hok h1 (go S h2 h3)
  | astore k =>
    have sm : ob_sm f (ob_ins (.astore k) nx aux z f ls st mm) := ob_sm_r1 fun _ _ _ => ob_sm_sto fun _ => ob_sm_g rfl
    obtain ⟨S, h1, h2, h3⟩ := ob_sm_x sm hx
    exact ob_s_astore X hok h1 (go S h2 h3)
  | astore_n k =>
    have sm : ob_sm f (ob_ins (.astore_n k) nx aux z f ls st mm) := ob_sm_r1 fun _ _ _ => ob_sm_sto fun _ => ob_sm_g rfl
    obtain ⟨S, h1, h2, h3⟩ := ob_sm_x sm hx
    exact ob_s_astore_n X hok h1 (go S h2 h3)
  | athrow => cases hx
  | baload =>
    have sm : ob_sm f (ob_ins (.baload) nx aux z f ls st mm) := ob_sm_i1 fun _ _ => ob_sm_r1 fun _ _ _ => ob_sm_c (ob_sm_d rfl) ob_sm_n
    obtain ⟨S, h1, h2, h3⟩ := ob_sm_x sm hx
    exact ob_s_baload X hok h1 (go S h2 h3)
  | bastore =>
    have sm : ob_sm f (ob_ins (.bastore) nx aux z f ls st mm) := ob_sm_i1 fun _ _ => ob_sm_i1 fun _ _ => ob_sm_r1 fun _ _ _ => by
      split
      · exact ob_sm_d rfl
      · exact ob_sm_d rfl
      · exact ob_sm_n
    obtain ⟨S, h1, h2, h3⟩ := ob_sm_x sm hx
    exact ob_s_bastore X hok h1 (go S h2 h3)
  | bipush kn =>
    have sm : ob_sm f (ob_ins (.bipush kn) nx aux z f ls st mm) := ob_sm_g rfl
    obtain ⟨S, h1, h2, h3⟩ := ob_sm_x sm hx
    exact ob_s_bipush X hok h1 (go S h2 h3)
  | caload => cases hx
  | castore => cases hx
  | checkcast => cases hx
  | d2f => cases hx
  | d2i => cases hx
  | d2l => cases hx
  | dadd => cases hx
  | daload => cases hx
  | dastore => cases hx
  | dcmp => cases hx
  | dconst => cases hx
  | ddiv => cases hx
  | dload => cases hx
  | dload_n => cases hx
  | dmul => cases hx
  | dneg => cases hx
  | drem => cases hx
  | dreturn => cases hx
  | dstore => cases hx
  | dstore_n => cases hx
  | dsub => cases hx
  | dup =>
    have sm : ob_sm f (ob_ins (.dup) nx aux z f ls st mm) := ob_sm_v1 (K := fun v st => ob_go (f, nx, ls, v :: v :: st, mm)) fun _ _ => ob_sm_g rfl
    obtain ⟨S, h1, h2, h3⟩ := ob_sm_x sm hx
    exact ob_s_dup X hok h1 (go S h2 h3)
  | dup_x1 => cases hx
  | dup_x2 => cases hx
  | dup2 =>
    have sm : ob_sm f (ob_ins (.dup2) nx aux z f ls st mm) := ob_sm_v1 (K := fun v st => ob_v1 st (fun w st => ob_go (f, nx, ls, v :: w :: v :: w :: st, mm))) fun v st => ob_sm_v1 (K := fun w st => ob_go (f, nx, ls, v :: w :: v :: w :: st, mm)) fun _ _ => ob_sm_g rfl
    obtain ⟨S, h1, h2, h3⟩ := ob_sm_x sm hx
    exact ob_s_dup2 X hok h1 (go S h2 h3)
  | dup2_x1 => cases hx
  | dup2_x2 => cases hx
  | f2d => cases hx
  | f2i => cases hx
  | f2l => cases hx
  | fadd => cases hx
  | faload => cases hx
  | fastore => cases hx
  | fcmp => cases hx
  | fconst => cases hx
  | fdiv => cases hx
  | fload => cases hx
  | fload_n => cases hx
  | fmul => cases hx
  | fneg => cases hx
  | frem => cases hx
  | freturn => cases hx
  | fstore => cases hx
  | fstore_n => cases hx
  | fsub => cases hx
  | getfield ki =>
    have sm : ob_sm f (ob_ins (.getfield ki) nx aux z f ls st mm) := ob_sm_r1 fun _ _ _ => ob_sm_c (by
      split
      · exact ob_sm_g rfl
      · exact ob_sm_c (ob_sm_g rfl) ob_sm_n) ob_sm_n
    obtain ⟨S, h1, h2, h3⟩ := ob_sm_x sm hx
    exact ob_s_getfield X hok h1 (go S h2 h3)
  | getstatic => cases hx
  | goto ko =>
    have sm : ob_sm f (ob_ins (.goto ko) nx aux z f ls st mm) := ob_sm_g rfl
    obtain ⟨S, h1, h2, h3⟩ := ob_sm_x sm hx
    exact ob_s_goto X hok h1 (go S h2 h3)
  | goto_w => cases hx
  | i2b =>
    have sm : ob_sm f (ob_ins (.i2b) nx aux z f ls st mm) := ob_sm_i1 fun _ _ => ob_sm_g rfl
    obtain ⟨S, h1, h2, h3⟩ := ob_sm_x sm hx
    exact ob_s_i2b X hok h1 (go S h2 h3)
  | i2c => cases hx
  | i2d => cases hx
  | i2f => cases hx
  | i2l =>
    have sm : ob_sm f (ob_ins (.i2l) nx aux z f ls st mm) := ob_sm_i1 fun _ _ => ob_sm_g rfl
    obtain ⟨S, h1, h2, h3⟩ := ob_sm_x sm hx
    exact ob_s_i2l X hok h1 (go S h2 h3)
  | i2s => cases hx
  | iadd =>
    have sm : ob_sm f (ob_ins (.iadd) nx aux z f ls st mm) := ob_sm_i1 fun _ _ => ob_sm_i1 fun _ _ => ob_sm_g rfl
    obtain ⟨S, h1, h2, h3⟩ := ob_sm_x sm hx
    exact ob_s_iadd X hok h1 (go S h2 h3)
  | iaload =>
    have sm : ob_sm f (ob_ins (.iaload) nx aux z f ls st mm) := ob_sm_i1 fun _ _ => ob_sm_r1 fun _ _ _ => ob_sm_c (ob_sm_d rfl) ob_sm_n
    obtain ⟨S, h1, h2, h3⟩ := ob_sm_x sm hx
    exact ob_s_iaload X hok h1 (go S h2 h3)
  | iand =>
    have sm : ob_sm f (ob_ins (.iand) nx aux z f ls st mm) := ob_sm_i1 fun _ _ => ob_sm_i1 fun _ _ => ob_sm_g rfl
    obtain ⟨S, h1, h2, h3⟩ := ob_sm_x sm hx
    exact ob_s_iand X hok h1 (go S h2 h3)
  | iastore =>
    have sm : ob_sm f (ob_ins (.iastore) nx aux z f ls st mm) := ob_sm_i1 fun _ _ => ob_sm_i1 fun _ _ => ob_sm_r1 fun _ _ _ => ob_sm_c (ob_sm_d rfl) ob_sm_n
    obtain ⟨S, h1, h2, h3⟩ := ob_sm_x sm hx
    exact ob_s_iastore X hok h1 (go S h2 h3)
  | iconst kn =>
    have sm : ob_sm f (ob_ins (.iconst kn) nx aux z f ls st mm) := ob_sm_g rfl
    obtain ⟨S, h1, h2, h3⟩ := ob_sm_x sm hx
    exact ob_s_iconst X hok h1 (go S h2 h3)
  | idiv =>
    have sm : ob_sm f (ob_ins (.idiv) nx aux z f ls st mm) := ob_sm_i1 fun _ _ => ob_sm_i1 fun _ _ => ob_sm_d rfl
    obtain ⟨S, h1, h2, h3⟩ := ob_sm_x sm hx
    exact ob_s_idiv X hok h1 (go S h2 h3)
  | if_acmp => cases hx
  | if_icmp cd off =>
    obtain ⟨b, st, rfl, hx⟩ := ob_i1_i hx
    obtain ⟨a, st, rfl, hx2⟩ := ob_i1_i hx
    obtain ⟨q1, q2⟩ := ob_cnd_i hx2
    have g : (Nat.beq nx (pc + 3) && decide ((pc : Int) + off = Int.ofNat (ob_nth aux 0 0))) = true := ob_okI_of hok
    rw [Bool.and_eq_true] at g
    obtain ⟨hd, rfl⟩ := ob_okd hok g.1
    intro LS H locs I
    exact ob_Wicmp X.1 X.2.1 hd (of_decide_eq_true g.2) (I.2.2.1 (1, a) (List.mem_cons_of_mem _ List.mem_cons_self)) (I.2.2.1 (1, b) List.mem_cons_self) (fun q => go _ rfl (q1 q) LS H locs (ob_Iv_st I (fun v hv => I.2.2.1 v (List.mem_cons_of_mem _ (List.mem_cons_of_mem _ hv))))) (fun q => go _ rfl (q2 q) LS H locs (ob_Iv_st I (fun v hv => I.2.2.1 v (List.mem_cons_of_mem _ (List.mem_cons_of_mem _ hv)))))
  | ifCond cd off =>
    obtain ⟨b, st, rfl, hx⟩ := ob_i1_i hx
    obtain ⟨q1, q2⟩ := ob_cnd_i hx
    have g : (Nat.beq nx (pc + 3) && decide ((pc : Int) + off = Int.ofNat (ob_nth aux 0 0))) = true := ob_okI_of hok
    rw [Bool.and_eq_true] at g
    obtain ⟨hd, rfl⟩ := ob_okd hok g.1
    intro LS H locs I
    exact ob_Wif X.1 X.2.1 hd (of_decide_eq_true g.2) (I.2.2.1 (1, b) List.mem_cons_self) (fun q => go _ rfl (q1 q) LS H locs (ob_Iv_st I (fun v hv => I.2.2.1 v (List.mem_cons_of_mem _ hv)))) (fun q => go _ rfl (q2 q) LS H locs (ob_Iv_st I (fun v hv => I.2.2.1 v (List.mem_cons_of_mem _ hv))))
  | ifnonnull => cases hx
  | ifnull => cases hx
  | iinc k kn =>
    have sm : ob_sm f (ob_ins (.iinc k kn) nx aux z f ls st mm) := ob_sm_ldi fun _ => ob_sm_g rfl
    obtain ⟨S, h1, h2, h3⟩ := ob_sm_x sm hx
    exact ob_s_iinc X hok h1 (go S h2 h3)
  | iload k =>
    have sm : ob_sm f (ob_ins (.iload k) nx aux z f ls st mm) := ob_sm_ldi fun _ => ob_sm_g rfl
    obtain ⟨S, h1, h2, h3⟩ := ob_sm_x sm hx
    exact ob_s_iload X hok h1 (go S h2 h3)
  | iload_n k =>
    have sm : ob_sm f (ob_ins (.iload_n k) nx aux z f ls st mm) := ob_sm_ldi fun _ => ob_sm_g rfl
    obtain ⟨S, h1, h2, h3⟩ := ob_sm_x sm hx
    exact ob_s_iload_n X hok h1 (go S h2 h3)
  | imul =>
    have sm : ob_sm f (ob_ins (.imul) nx aux z f ls st mm) := ob_sm_i1 fun _ _ => ob_sm_i1 fun _ _ => ob_sm_g rfl
    obtain ⟨S, h1, h2, h3⟩ := ob_sm_x sm hx
    exact ob_s_imul X hok h1 (go S h2 h3)
  | ineg => cases hx
  | instanceof => cases hx
  | invokedynamic => cases hx
  | invokeinterface => cases hx
  | invokespecial idx =>
    by_cases ha : aux = [0]
    · subst ha
      have sm : ob_sm f (ob_ins (.invokespecial idx) nx [0] z f ls st mm) := ob_sm_r1 fun _ _ _ => ob_sm_c (ob_sm_g rfl) ob_sm_n
      obtain ⟨S, h1, h2, h3⟩ := ob_sm_x sm hx
      exact ob_s_objInit X hok h1 (go S h2 h3)
    · have hx : ob_int (ob_ex n) (ob_ex n) (match (generalizing := false) aux with
        | [0] => ob_r1 st fun _ _ st => cond (ob_wk 8 st) (ob_go (f, nx, ls, st, mm)) (ob_stop none)
        | _ => ob_inv true aux f nx ls st mm) = some (r, mm') := hx
      have g0 : (Nat.beq nx (pc + 3) && (match (generalizing := false) aux with
        | [0] => ob_in4 ob_SP (ob_ow f) idx 0 && Nat.ble 1 (ob_rk f)
        | _ => ob_okC f idx aux 0 1 && decide ((ob_y (ob_nth aux 1 0)).name = "<init>") && Nat.ble (ob_nth aux 4 0) 8)) = true := ob_okI_of hok
      split at hx
      · exact absurd rfl ha
      split at g0
      · exact absurd rfl ha
      rw [Bool.and_eq_true, Bool.and_eq_true, Bool.and_eq_true] at g0
      obtain ⟨g1, ⟨g2, g3⟩, g4⟩ := g0
      obtain ⟨hd, rfl⟩ := ob_okd hok g1
      obtain ⟨as, rs, r1, mm1, hp, hw8, hwa, hhd, hx1, hx2⟩ := ob_inv_i hx
      exact ob_call_i X ih hd g2 (Nat.ble_eq.mp g4) (of_decide_eq_true g3) hp hw8 hwa (hhd rfl) hx1 (bd _ hx2).1 (bd _ hx2).2 (go _ rfl hx2) rfl
  | invokestatic idx =>
    by_cases ha1 : aux = [1]
    · subst ha1
      have sm : ob_sm f (ob_ins (.invokestatic idx) nx [1] z f ls st mm) := ob_sm_i1 fun _ _ => ob_sm_i1 fun _ _ => ob_sm_r1 fun _ _ _ => ob_sm_i1 fun _ _ => ob_sm_r1 fun _ _ _ => ob_sm_c (ob_sm_d rfl) ob_sm_n
      obtain ⟨S, h1, h2, h3⟩ := ob_sm_x sm hx
      exact ob_s_copy X hok h1 (go S h2 h3)
    by_cases ha2 : aux = [2]
    · subst ha2
      have sm : ob_sm f (ob_ins (.invokestatic idx) nx [2] z f ls st mm) := ob_sm_i1 fun _ _ => ob_sm_i1 fun _ _ => ob_sm_c (ob_sm_g rfl) ob_sm_n
      obtain ⟨S, h1, h2, h3⟩ := ob_sm_x sm hx
      exact ob_s_min X hok h1 (go S h2 h3) (bd S h3).1 (bd S h3).2
    by_cases ha3 : aux = [3]
    · subst ha3
      have sm : ob_sm f (ob_ins (.invokestatic idx) nx [3] z f ls st mm) := ob_sm_i1 fun _ _ => ob_sm_i1 fun _ _ => ob_sm_c (ob_sm_g rfl) ob_sm_n
      obtain ⟨S, h1, h2, h3⟩ := ob_sm_x sm hx
      exact ob_s_max X hok h1 (go S h2 h3) (bd S h3).1 (bd S h3).2
    by_cases ha4 : aux = [4]
    · subst ha4
      have sm : ob_sm f (ob_ins (.invokestatic idx) nx [4] z f ls st mm) := ob_sm_i1 fun _ _ => ob_sm_c (ob_sm_g rfl) ob_sm_n
      obtain ⟨S, h1, h2, h3⟩ := ob_sm_x sm hx
      exact ob_s_abs X hok h1 (go S h2 h3) (bd S h3).1 (bd S h3).2
    have hx : ob_int (ob_ex n) (ob_ex n) (ob_inv false aux f nx ls st mm) = some (r, mm') := ob_st_i ha1 ha2 ha3 ha4 hx
    have g0 : (Nat.beq nx (pc + 3) && ob_okC f idx aux 1 0) = true := ob_st_o ha1 ha2 ha3 ha4 (ob_okI_of hok)
    rw [Bool.and_eq_true] at g0
    obtain ⟨hd, rfl⟩ := ob_okd hok g0.1
    obtain ⟨as, rs, r1, mm1, hp, hw8, hwa, hhd, hx1, hx2⟩ := ob_inv_i hx
    exact ob_call_s X ih hd g0.2 hp hw8 hwa hx1 (bd _ hx2).1 (bd _ hx2).2 (go _ rfl hx2) rfl
  | invokevirtual idx =>
    obtain ⟨as, rs, r1, mm1, hp, hw8, hwa, hhd, hx1, hx2⟩ := ob_inv_i hx
    have g : (Nat.beq nx (pc + 3) && ob_okC f idx aux 0 1 && Nat.ble (ob_nth aux 4 0) 8) = true := ob_okI_of hok
    rw [Bool.and_eq_true, Bool.and_eq_true] at g
    obtain ⟨hd, rfl⟩ := ob_okd hok g.1.1
    have hnin : (ob_y (ob_nth aux 1 0)).name ≠ "<init>" := ob_vnin hcd
    exact ob_call_v X ih hd g.1.2 (Nat.ble_eq.mp g.2) hnin hp hw8 hwa (hhd rfl) hx1 (bd _ hx2).1 (bd _ hx2).2 (go _ rfl hx2) rfl
  | ior =>
    have sm : ob_sm f (ob_ins (.ior) nx aux z f ls st mm) := ob_sm_i1 fun _ _ => ob_sm_i1 fun _ _ => ob_sm_g rfl
    obtain ⟨S, h1, h2, h3⟩ := ob_sm_x sm hx
    exact ob_s_ior X hok h1 (go S h2 h3)
  | irem =>
    have sm : ob_sm f (ob_ins (.irem) nx aux z f ls st mm) := ob_sm_i1 fun _ _ => ob_sm_i1 fun _ _ => ob_sm_d rfl
    obtain ⟨S, h1, h2, h3⟩ := ob_sm_x sm hx
    exact ob_s_irem X hok h1 (go S h2 h3)
  | ireturn =>
    have g : (Nat.beq nx (pc + 1) && (match (generalizing := false) ob_rt f, ob_nth aux 0 0 with
      | some .int, 0 => true
      | some .boolean, 1 => true
      | _, _ => false)) = true := ob_okI_of hok
    rw [Bool.and_eq_true] at g
    obtain ⟨hd, rfl⟩ := ob_okd hok g.1
    obtain ⟨a, rfl, hz⟩ := ob_iret_i hx
    intro LS H locs I
    have ha : ob_r32 a := I.2.2.1 (1, a) List.mem_cons_self
    have g2 := g.2
    split at g2
    · rename_i e1 e2
      obtain ⟨rfl, rfl⟩ := hz.1 e2
      have e3 : ob_rsv f r = some (.int (Int32.ofInt r)) := by unfold ob_rsv; rw [e1]
      have q := hRe pc LS H locs (by unfold ob_rok; rw [e1]; exact ⟨hd, ha⟩) I.1 I.2.2.2.1 I.2.2.2.2.1
      rw [e3] at q
      exact q
    · rename_i e1 e2
      obtain ⟨rfl, rfl, h01⟩ := hz.2 (by rw [e2]; decide)
      have e3 : ob_rsv f r = some (.int (Int32.ofInt r)) := by unfold ob_rsv; rw [e1]
      have q := hRe pc LS H locs (by unfold ob_rok; rw [e1]; exact ⟨hd, h01⟩) I.1 I.2.2.2.1 I.2.2.2.2.1
      rw [e3] at q
      exact q
    · cases g2
  | ishl =>
    have sm : ob_sm f (ob_ins (.ishl) nx aux z f ls st mm) := ob_sm_i1 fun _ _ => ob_sm_i1 fun _ _ => ob_sm_g rfl
    obtain ⟨S, h1, h2, h3⟩ := ob_sm_x sm hx
    exact ob_s_ishl X hok h1 (go S h2 h3)
  | ishr =>
    have sm : ob_sm f (ob_ins (.ishr) nx aux z f ls st mm) := ob_sm_i1 fun _ _ => ob_sm_i1 fun _ _ => ob_sm_g rfl
    obtain ⟨S, h1, h2, h3⟩ := ob_sm_x sm hx
    exact ob_s_ishr X hok h1 (go S h2 h3)
  | istore k =>
    have sm : ob_sm f (ob_ins (.istore k) nx aux z f ls st mm) := ob_sm_i1 fun _ _ => ob_sm_sto fun _ => ob_sm_g rfl
    obtain ⟨S, h1, h2, h3⟩ := ob_sm_x sm hx
    exact ob_s_istore X hok h1 (go S h2 h3)
  | istore_n k =>
    have sm : ob_sm f (ob_ins (.istore_n k) nx aux z f ls st mm) := ob_sm_i1 fun _ _ => ob_sm_sto fun _ => by
      cases aux with
      | nil => exact ob_sm_g rfl
      | cons _ _ => exact ob_sm_seal fun _ => ob_sm_g rfl
    obtain ⟨S, h1, h2, h3⟩ := ob_sm_x sm hx
    exact ob_s_istore_n X hok h1 (go S h2 h3)
  | isub =>
    have sm : ob_sm f (ob_ins (.isub) nx aux z f ls st mm) := ob_sm_i1 fun _ _ => ob_sm_i1 fun _ _ => ob_sm_g rfl
    obtain ⟨S, h1, h2, h3⟩ := ob_sm_x sm hx
    exact ob_s_isub X hok h1 (go S h2 h3)
  | iushr => cases hx
  | ixor => cases hx
  | jsr => cases hx
  | jsr_w => cases hx
  | l2d => cases hx
  | l2f => cases hx
  | l2i => cases hx
  | ladd =>
    have sm : ob_sm f (ob_ins (.ladd) nx aux z f ls st mm) := ob_sm_l1 fun _ _ => ob_sm_l1 fun _ _ => ob_sm_g rfl
    obtain ⟨S, h1, h2, h3⟩ := ob_sm_x sm hx
    exact ob_s_ladd X hok h1 (go S h2 h3)
  | laload => cases hx
  | land => cases hx
  | lastore => cases hx
  | lcmp =>
    have sm : ob_sm f (ob_ins (.lcmp) nx aux z f ls st mm) := ob_sm_l1 fun _ _ => ob_sm_l1 fun _ _ => ob_sm_g rfl
    obtain ⟨S, h1, h2, h3⟩ := ob_sm_x sm hx
    exact ob_s_lcmp X hok h1 (go S h2 h3)
  | lconst kn =>
    have sm : ob_sm f (ob_ins (.lconst kn) nx aux z f ls st mm) := ob_sm_g rfl
    obtain ⟨S, h1, h2, h3⟩ := ob_sm_x sm hx
    exact ob_s_lconst X hok h1 (go S h2 h3)
  | ldc ki =>
    have sm : ob_sm f (ob_ins (.ldc ki) nx aux z f ls st mm) := ob_sm_g rfl
    obtain ⟨S, h1, h2, h3⟩ := ob_sm_x sm hx
    exact ob_s_ldc X hok h1 (go S h2 h3)
  | ldc_w => cases hx
  | ldc2_w ki =>
    have sm : ob_sm f (ob_ins (.ldc2_w ki) nx aux z f ls st mm) := ob_sm_g rfl
    obtain ⟨S, h1, h2, h3⟩ := ob_sm_x sm hx
    exact ob_s_ldc2_w X hok h1 (go S h2 h3)
  | ldiv => cases hx
  | lload k =>
    have sm : ob_sm f (ob_ins (.lload k) nx aux z f ls st mm) := ob_sm_ldl fun _ => ob_sm_g rfl
    obtain ⟨S, h1, h2, h3⟩ := ob_sm_x sm hx
    exact ob_s_lload X hok h1 (go S h2 h3)
  | lload_n k =>
    have sm : ob_sm f (ob_ins (.lload_n k) nx aux z f ls st mm) := ob_sm_ldl fun _ => ob_sm_g rfl
    obtain ⟨S, h1, h2, h3⟩ := ob_sm_x sm hx
    exact ob_s_lload_n X hok h1 (go S h2 h3)
  | lmul =>
    have sm : ob_sm f (ob_ins (.lmul) nx aux z f ls st mm) := ob_sm_l1 fun _ _ => ob_sm_l1 fun _ _ => ob_sm_g rfl
    obtain ⟨S, h1, h2, h3⟩ := ob_sm_x sm hx
    exact ob_s_lmul X hok h1 (go S h2 h3)
  | lneg => cases hx
  | lookupswitch d ps =>
    obtain ⟨v, st, rfl, hx⟩ := ob_i1_i hx
    have hx : ob_swi (ob_ex n) v ((ps.toList.zip aux.tail).map fun q => (q.1.1, (f, q.2, ls, st, mm))) (f, ob_nth aux 0 0, ls, st, mm) = some (r, mm') := hx
    have hd := ob_okdl hok
    have g : (decide ((pc : Int) + d = Int.ofNat (ob_nth aux 0 0)) && decide (ps.toList.map (fun o => (pc : Int) + o.2) = aux.tail.map Int.ofNat) && (ps.toList.zip (ps.toList.drop 1)).all (fun (a, next) => a.1 < next.1)) = true := ob_okI_of hok
    rw [Bool.and_eq_true, Bool.and_eq_true] at g
    have g1 := of_decide_eq_true g.1.1
    have g2 := of_decide_eq_true g.1.2
    intro LS H locs I
    have hv : ob_r32 v := I.2.2.1 (1, v) List.mem_cons_self
    have hvt := ob_i_to hv
    have I2 := ob_Iv_st (st' := st) I (fun v hv => I.2.2.1 v (List.mem_cons_of_mem _ hv))
    have key := ob_lsw (X := ob_ex n) (pc := pc) (f := f) (ls := ls) (st := st) (mm := mm) (d := d) (dt := ob_nth aux 0 0) (v := v) ps.toList aux.tail g2 g1 hx
    obtain ⟨off, t, k1, k2, k3⟩ := key
    refine lv_lookup (off := off) (tgt := t) X.1 X.2.1 hd g.2 (by rw [hvt]; exact k1) k2 ?_
    exact go _ rfl k3 LS H locs I2
  | lor => cases hx
  | lrem => cases hx
  | lreturn =>
    have g : (Nat.beq nx (pc + 1) && decide (ob_rt f = some .long)) = true := ob_okI_of hok
    rw [Bool.and_eq_true] at g
    obtain ⟨hd, rfl⟩ := ob_okd hok g.1
    have e1 := of_decide_eq_true g.2
    obtain ⟨rfl, rfl⟩ := ob_lret_i hx
    intro LS H locs I
    have ha : ob_r64 r := I.2.2.1 (2, r) List.mem_cons_self
    have e3 : ob_rsv f r = some (.long (Int64.ofInt r)) := by unfold ob_rsv; rw [e1]
    have q := hRe pc LS H locs (by unfold ob_rok; rw [e1]; exact ⟨hd, ha⟩) I.1 I.2.2.2.1 I.2.2.2.2.1
    rw [e3] at q
    exact q
  | lshl => cases hx
  | lshr => cases hx
  | lstore k =>
    have sm : ob_sm f (ob_ins (.lstore k) nx aux z f ls st mm) := ob_sm_l1 fun _ _ => ob_sm_sto fun _ => ob_sm_g rfl
    obtain ⟨S, h1, h2, h3⟩ := ob_sm_x sm hx
    exact ob_s_lstore X hok h1 (go S h2 h3)
  | lstore_n k =>
    have sm : ob_sm f (ob_ins (.lstore_n k) nx aux z f ls st mm) := ob_sm_l1 fun _ _ => ob_sm_sto fun _ => ob_sm_g rfl
    obtain ⟨S, h1, h2, h3⟩ := ob_sm_x sm hx
    exact ob_s_lstore_n X hok h1 (go S h2 h3)
  | lsub => cases hx
  | lushr => cases hx
  | lxor => cases hx
  | monitorenter => cases hx
  | monitorexit => cases hx
  | multianewarray => cases hx
  | new ki =>
    have sm : ob_sm f (ob_ins (.new ki) nx aux z f ls st mm) := ob_sm_new
    obtain ⟨S, h1, h2, h3⟩ := ob_sm_x sm hx
    exact ob_s_new X hok h1 (go S h2 h3) (bd S h3).1 (bd S h3).2
  | newarray ka =>
    have sm : ob_sm f (ob_ins (.newarray ka) nx aux z f ls st mm) := ob_sm_i1 fun _ _ => ob_sm_c ob_sm_new ob_sm_n
    obtain ⟨S, h1, h2, h3⟩ := ob_sm_x sm hx
    exact ob_s_newarray X hok h1 (go S h2 h3) (bd S h3).1 (bd S h3).2
  | nop => cases hx
  | pop =>
    have sm : ob_sm f (ob_ins (.pop) nx aux z f ls st mm) := ob_sm_v1 (K := fun _ st => ob_go (f, nx, ls, st, mm)) fun _ _ => ob_sm_g rfl
    obtain ⟨S, h1, h2, h3⟩ := ob_sm_x sm hx
    exact ob_s_pop X hok h1 (go S h2 h3)
  | pop2 => cases hx
  | putfield idx =>
    have sm : ob_sm f (ob_ins (.putfield idx) nx aux z f ls st mm) := by
      show ob_sm f (match (generalizing := false) ob_nth aux 2 0 with
        | 0 => ob_i1 st _
        | tk + 1 => ob_r1 st _)
      split
      · exact ob_sm_i1 fun _ _ => ob_sm_r1 fun _ _ _ => ob_sm_c (by
          split
          · exact ob_sm_g rfl
          · exact ob_sm_d rfl) ob_sm_n
      · exact ob_sm_r1 fun _ _ _ => ob_sm_r1 fun _ _ _ => ob_sm_c (by
          split
          · exact ob_sm_g rfl
          · exact ob_sm_stat (ob_sm_d rfl)) ob_sm_n
    obtain ⟨S, h1, h2, h3⟩ := ob_sm_x sm hx
    exact ob_s_putfield X hok h1 (go S h2 h3)
  | putstatic => cases hx
  | ret => cases hx
  | return_ =>
    have g : (Nat.beq nx (pc + 1) && decide (ob_rt f = none)) = true := ob_okI_of hok
    rw [Bool.and_eq_true] at g
    obtain ⟨hd, rfl⟩ := ob_okd hok g.1
    have e1 := of_decide_eq_true g.2
    obtain ⟨rfl, rfl⟩ := ob_vret_i hx
    intro LS H locs I
    have e3 : ob_rsv f r = none := by unfold ob_rsv; rw [e1]
    have q := hRe pc LS H locs (by unfold ob_rok; rw [e1]; exact hd) I.1 I.2.2.2.1 I.2.2.2.2.1
    rw [e3] at q
    exact q
  | saload => cases hx
  | sastore => cases hx
  | sipush kn =>
    have sm : ob_sm f (ob_ins (.sipush kn) nx aux z f ls st mm) := ob_sm_g rfl
    obtain ⟨S, h1, h2, h3⟩ := ob_sm_x sm hx
    exact ob_s_sipush X hok h1 (go S h2 h3)
  | swap => cases hx
  | tableswitch d lo hi os =>
    obtain ⟨v, st, rfl, hx⟩ := ob_i1_i hx
    have hx : ob_swi (ob_ex n) v ((aux.tail.zipIdx).map fun q => (lo + (q.2 : Int), (f, q.1, ls, st, mm))) (f, ob_nth aux 0 0, ls, st, mm) = some (r, mm') := hx
    have hd := ob_okdl hok
    have g : (decide ((pc : Int) + d = Int.ofNat (ob_nth aux 0 0)) && decide (os.toList.map (fun o => (pc : Int) + o) = aux.tail.map Int.ofNat) && decide (hi + 1 = lo + Int.ofNat aux.tail.length)) = true := ob_okI_of hok
    rw [Bool.and_eq_true, Bool.and_eq_true] at g
    have g1 := of_decide_eq_true g.1.1
    have g2 := of_decide_eq_true g.1.2
    have g3 := of_decide_eq_true g.2
    have g3 : hi + 1 = lo + ((aux.tail.length : Nat) : Int) := g3
    intro LS H locs I
    have hv : ob_r32 v := I.2.2.1 (1, v) List.mem_cons_self
    have hvt := ob_i_to hv
    have I2 := ob_Iv_st (st' := st) I (fun v hv => I.2.2.1 v (List.mem_cons_of_mem _ hv))
    rcases ob_swi_i _ hx with ⟨S, -, hS, i, hi1, -⟩ | ⟨hn, hS⟩
    · obtain ⟨t, ht, hvi, rfl⟩ := ob_tsw hi1
      have hil : i < aux.tail.length := (List.getElem?_eq_some_iff.mp ht).1
      have ho : ∃ off, os[i]? = some off ∧ (pc : Int) + off = (t : Int) := by
        have q : (os.toList.map (fun o => (pc : Int) + o))[i]? = (aux.tail.map Int.ofNat)[i]? := by rw [g2]
        rw [List.getElem?_map, List.getElem?_map, ht, Array.getElem?_toList] at q
        cases e1 : os[i]? with
        | none => rw [e1] at q; cases q
        | some off =>
          rw [e1] at q
          exact ⟨off, rfl, Option.some.inj q⟩
      obtain ⟨off, ho1, ho2⟩ := ho
      refine lv_tableIn (off := off) (tgt := t) X.1 X.2.1 hd (by rw [hvt]; omega) (by rw [hvt]; omega) (by rw [hvt, show (v - lo).toNat = i by omega]; exact ho1) ho2 ?_
      exact go _ rfl hS LS H locs I2
    · have hout : v < lo ∨ hi < v := by
        refine Classical.byContradiction fun q => ?_
        have hq1 : lo ≤ v := by omega
        have hq2 : v ≤ hi := by omega
        have hil : (v - lo).toNat < aux.tail.length := by omega
        obtain ⟨t, ht⟩ : ∃ t, aux.tail[(v - lo).toNat]? = some t := ⟨_, List.getElem?_eq_getElem hil⟩
        have hm : (lo + (((v - lo).toNat : Nat) : Int), ((f, t, ls, st, mm) : ob_St)) ∈ ((aux.tail.zipIdx).map fun q => (lo + (q.2 : Int), ((f, q.1, ls, st, mm) : ob_St))) := by
          refine List.mem_map.mpr ⟨(t, (v - lo).toNat), ?_, rfl⟩
          exact List.mem_zipIdx_iff_getElem?.mpr ht
        exact hn _ hm (by show lo + (((v - lo).toNat : Nat) : Int) = v; omega)
      refine lv_tableOut (tgt := ob_nth aux 0 0) X.1 X.2.1 hd (by rw [hvt]; exact hout) g1 ?_
      exact go _ rfl hS LS H locs I2
theorem ob_snd (w : ob_Wd) : ∀ n : Nat, ob_Snd w n
  | 0 => fun _ _ _ _ _ _ _ h => by cases h
  | n + 1 => ob_snd_succ (ob_snd w n)
