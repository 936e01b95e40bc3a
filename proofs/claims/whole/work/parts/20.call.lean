-- CALLS: a run of a method is its contract
theorem ob_rep_nth : ∀ (n k : Nat), ob_nth (ob_rep n) k (0, 0) = (0, 0)
  | 0, _ => rfl
  | _ + 1, 0 => rfl
  | n + 1, k + 1 => ob_rep_nth n k
theorem ob_rep_len : ∀ n : Nat, (ob_rep n).length = n
  | 0 => rfl
  | n + 1 => congrArg (· + 1) (ob_rep_len n)
theorem ob_wk_2 {n : Nat} {x : Int} {r : List ob_AV} (h : ob_wk n ((2, x) :: r) = true) : ∃ k, n = k + 2 ∧ ob_wk k r = true := by
  match n, h with
  | 0, h => cases h
  | 1, h => cases h
  | k + 2, h => exact ⟨k, rfl, h⟩
theorem ob_wk_1 {n t : Nat} {x : Int} {r : List ob_AV} (ht : t ≠ 2) (h : ob_wk n ((t, x) :: r) = true) : ∃ k, n = k + 1 ∧ ob_wk k r = true := by
  match n, h with
  | 0, h => cases h
  | k + 1, h =>
    have h : cond (Nat.beq t 2) _ (ob_wk k r) = true := h
    rw [show Nat.beq t 2 = false from by
      cases e : Nat.beq t 2 with
      | false => rfl
      | true => exact absurd (ob_beq e) ht] at h
    exact ⟨k, rfl, h⟩
theorem ob_mkL_1 {t n : Nat} {x : Int} {vs : List ob_AV} (ht : t ≠ 2) : ob_mkL ((t, x) :: vs) (n + 1) = (t, x) :: ob_mkL vs n := by
  match t, ht with
  | 0, _ => cases n <;> rfl
  | 1, _ => cases n <;> rfl
  | 2, h => exact absurd rfl h
  | _ + 3, _ => cases n <;> rfl
theorem ob_mkL_len : ∀ (as : List ob_AV) (n : Nat), ob_wk n as = true → (ob_mkL as n).length = n
  | [], n, _ => ob_rep_len n
  | (t, x) :: vs, n, h => by
    by_cases ht : t = 2
    · subst ht
      obtain ⟨k, rfl, hk⟩ := ob_wk_2 h
      show (ob_mkL vs k).length + 1 + 1 = k + 2
      rw [ob_mkL_len vs k hk]
    · obtain ⟨k, rfl, hk⟩ := ob_wk_1 ht h
      rw [ob_mkL_1 ht]
      show (ob_mkL vs k).length + 1 = k + 1
      rw [ob_mkL_len vs k hk]
theorem ob_lg_len {w : ob_Wd} : ∀ (as : List ob_AV) (n : Nat), ob_wk n as = true → (lg_sl (as.map (ob_cv w))).length ≤ n
  | [], n, _ => Nat.zero_le n
  | (t, x) :: vs, n, h => by
    by_cases ht : t = 2
    · subst ht
      obtain ⟨k, rfl, hk⟩ := ob_wk_2 h
      have q := ob_lg_len (w := w) vs k hk
      show (([.val (ob_cv w (2, x)), .second] : List Slot) ++ lg_sl (vs.map (ob_cv w))).length ≤ k + 2
      simp only [List.length_append, List.length_cons, List.length_nil]
      omega
    · obtain ⟨k, rfl, hk⟩ := ob_wk_1 ht h
      have q := ob_lg_len (w := w) vs k hk
      have c1 : (ob_cv w (t, x)).category = 1 := ob_cat ht
      show ((if (ob_cv w (t, x)).category = 2 then [.val (ob_cv w (t, x)), .second] else [.val (ob_cv w (t, x))] : List Slot) ++ lg_sl (vs.map (ob_cv w))).length ≤ k + 1
      rw [if_neg (by rw [c1]; decide)]
      simp only [List.length_append, List.length_cons, List.length_nil]
      omega
theorem ob_mkL_args {w : ob_Wd} : ∀ (as : List ob_AV) (n k i0 : Nat), ob_wk n as = true → (ob_nth (ob_mkL as n) k (0, 0)).1 ≠ 0 → (i0 + k, ob_cv w (ob_nth (ob_mkL as n) k (0, 0))) ∈ lv_args i0 (as.map (ob_cv w)) ∧ ob_nth (ob_mkL as n) k (0, 0) ∈ as
  | [], n, k, i0, _, h => by
    rw [show ob_mkL [] n = ob_rep n from rfl, ob_rep_nth] at h
    exact absurd rfl h
  | (t, x) :: vs, n, k, i0, hw, h => by
    by_cases ht : t = 2
    · subst ht
      obtain ⟨j, rfl, hj⟩ := ob_wk_2 hw
      have e : ob_mkL ((2, x) :: vs) (j + 2) = (2, x) :: (0, 0) :: ob_mkL vs j := rfl
      rw [e] at h ⊢
      match k, h with
      | 0, h => exact ⟨List.mem_cons_self, List.mem_cons_self⟩
      | 1, h => exact absurd rfl h
      | k + 2, h =>
        have q := ob_mkL_args (w := w) vs j k (i0 + 2) hj h
        refine ⟨List.mem_cons_of_mem _ ?_, List.mem_cons_of_mem _ q.2⟩
        have q1 := q.1
        rw [show i0 + 2 + k = i0 + (k + 2) by omega] at q1
        exact q1
    · obtain ⟨j, rfl, hj⟩ := ob_wk_1 ht hw
      rw [ob_mkL_1 ht] at h ⊢
      match k, h with
      | 0, h => exact ⟨List.mem_cons_self, List.mem_cons_self⟩
      | k + 1, h =>
        have q := ob_mkL_args (w := w) vs j k (i0 + 1) hj h
        refine ⟨List.mem_cons_of_mem _ ?_, List.mem_cons_of_mem _ q.2⟩
        have q1 := q.1
        rw [show i0 + 1 + k = i0 + (k + 1) by omega] at q1
        rw [if_neg (by rw [ob_cat ht]; decide)]
        exact q1
theorem ob_pop_e : ∀ (n : Nat) (acc st as r : List ob_AV), ob_pop n acc st = some (as, r) → ∃ fr, st = fr ++ r ∧ as = fr.reverse ++ acc ∧ fr.length = n
  | 0, acc, st, as, r, h => by
    cases h
    exact ⟨[], rfl, rfl, rfl⟩
  | n + 1, acc, [], as, r, h => by cases h
  | n + 1, acc, v :: st, as, r, h => by
    obtain ⟨fr, h1, h2, h3⟩ := ob_pop_e n (v :: acc) st as r h
    refine ⟨v :: fr, by rw [h1]; rfl, ?_, congrArg (· + 1) h3⟩
    rw [h2, List.reverse_cons, List.append_assoc]
    rfl
def ob_rsv (f : Nat) (r : Int) : Option Value := match ob_rt f with
  | none => none
  | some .long => some (.long (Int64.ofInt r))
  | _ => some (.int (Int32.ofInt r))
def ob_rok (f pc : Nat) (r : Int) : Prop := match ob_rt f with
  | none => decode (ob_by f) pc = .ok (.return_, 1)
  | some .long => decode (ob_by f) pc = .ok (.lreturn, 1) ∧ ob_r64 r
  | some .int => decode (ob_by f) pc = .ok (.ireturn, 1) ∧ ob_r32 r
  | some .boolean => decode (ob_by f) pc = .ok (.ireturn, 1) ∧ (r = 0 ∨ r = 1)
  | _ => False
def ob_rr (f : Nat) (r : Int) : Prop := match ob_rt f with
  | none => True
  | some .long => ob_r64 r
  | _ => ob_r32 r
/-- what a method's end owes -/
def ob_Re (w : ob_Wd) (p : Program) (l : Launch) (e : Env) (R : Room) (s : State) (m : MethodId) (args : Array Value) (below : List Frame) (meth : Method) (c : Code) (Q : State → Prop) (c0 s0 f : Nat) (r : Int) (mm : ob_MM) : Prop :=
  ∀ (pc : Nat) (LS : Array Slot) (H : Heap) (locs : List Loc), ob_rok f pc r → ob_Rep w mm H → (∀ q : Nat, q < ob_sz w → H[q]? = s.heap[q]?) → (∀ q ∈ locs, ob_sz w ≤ q.base) → W p l e R s m args below meth c H locs (ob_nA mm - c0) (ob_nS mm - s0) Q (F0 m pc LS (ob_rsv f r).toList)
/-- a run of n steps is sound -/
def ob_Snd (w : ob_Wd) (n : Nat) : Prop := ∀ (f pc : Nat) (ls st : List ob_AV) (mm : ob_MM) (r : Int) (mm' : ob_MM), ob_ex n (f, pc, ls, st, mm) = some (r, mm') → ∀ (p : Program) (l : Launch) (e : Env) (R : Room) (s : State) (m : MethodId) (args : Array Value) (below : List Frame) (meth : Method) (c : Code) (Q : State → Prop) (c0 s0 : Nat), ob_Cx w p R s m args meth c f → ob_nA mm' ≤ R.cells + c0 → ob_nS mm' ≤ R.slots + s0 → ob_Re w p l e R s m args below meth c Q c0 s0 f r mm' → ob_At w p l e R s m args below meth c Q c0 s0 (ob_mx f) (f, pc, ls, st, mm)
def ob_rm (f : Nat) (a b : ob_MM) : Room := { frames := ob_rk f, cells := ob_nA b - ob_nA a, slots := ob_nS b - ob_nS a, locals := 38 * ob_rk f }
def ob_ws (f : Nat) : List Cond := Cond.code (ob_y f) (ob_by f) (ob_mx f) (ob_rt f) :: ob_gt
def ob_Pc (w : ob_Wd) (as : List ob_AV) (mm : ob_MM) : Array Value → State → Prop := fun v U => v = (as.map (ob_cv w)).toArray ∧ ob_Rep w mm U.heap ∧ ob_KK w U ∧ va_X (ob_b w) (ob_L w) (ob_xs w) U U.heap
def ob_Qc (w : ob_Wd) (f : Nat) (r : Int) (mm : ob_MM) : Array Value → State → Outcome → State → Prop := fun _ st oc t => oc = .returned (ob_rsv f r) ∧ ob_Rep w mm t.heap ∧ ob_rr f r ∧ ∀ q : Nat, q < ob_sz w → t.heap[q]? = st.heap[q]?
theorem ob_plain : ∀ f, f < 240 → f ≠ 238 → plainName (ob_y f).cls = true ∧ (ob_y f).cls ≠ "java/lang/invoke/MethodHandle" ∧ (ob_y f).cls ≠ "java/lang/invoke/VarHandle" := by decide +kernel
theorem ob_met {w : ob_Wd} {n f : Nat} {as : List ob_AV} {mm mm' : ob_MM} {r : Int} (l : Launch) (hS : ob_Snd w n) (hx : ob_ex n (f, 0, ob_mkL as (ob_mx f), [], mm) = some (r, mm')) (hf : f < 240) (hf2 : f ≠ 238) (hb : ob_b w < ob_sz w) (hw : ob_wk (ob_mx f) as = true) (has : ∀ v ∈ as, ob_okv (ob_nA mm) v) :
    Met l (ob_y f) (ob_ws f) (ob_rm f mm mm') (ob_Pc w as mm) (ob_Qc w f r mm') (ob_nA mm' - ob_nA mm) (ob_nS mm' - ob_nS mm) (fun q => ob_sz w ≤ q) := by
  have hmono := ob_mono n _ _ hx
  have hmono : ob_mle mm mm' := hmono
  refine Met.ofW (cc := ob_by f) (maxL := ob_mx f) (ret := ob_rt f) (ob_plain f hf hf2).1 rfl ?_
  intro p e s m args below meth c s₁ B hml hv
  obtain ⟨rfl, hR, hK, hX⟩ := hv
  have hts := atoms_spec (ws := ob_ws f) B.pre
  have hown : s.vm.findClass (ob_y f).cls = some m.cls := findClass_of_methodNamed B.named
  rw [(ob_MPa f hf hf2).2.1] at hown
  have hcx : ob_Cx w p (headSpec (ob_ws f) (ob_rm f mm mm')).room s m (as.map (ob_cv w)).toArray meth c f := ⟨B.exec, B.bytes, hml, hown, fun x hx => hts x (List.mem_cons_of_mem _ hx), B.notSynchronized, B.returns, fun _ => (name_of_methodNamed B.named B.method).1, hK, hX, ⟨hb, by rw [hR.1]; exact Nat.le_add_right _ _⟩, Nat.le_refl _, Nat.le_refl _⟩
  have hlocks := B.notSynchronized
  have hret := B.returns
  have K := hS f 0 (ob_mkL as (ob_mx f)) [] mm r mm' hx p l e (headSpec (ob_ws f) (ob_rm f mm mm')).room s m (as.map (ob_cv w)).toArray below meth c (MQ below (ob_Qc w f r mm') (as.map (ob_cv w)).toArray s (ob_nA mm' - ob_nA mm) (ob_nS mm' - ob_nS mm) (fun q => ob_sz w ≤ q)) (ob_nA mm) (ob_nS mm) hcx (by show _ ≤ (ob_nA mm' - ob_nA mm) + _; omega) (by show _ ≤ (ob_nS mm' - ob_nS mm) + _; omega) ?_
  · have hl := lv_entry (as.map (ob_cv w)) (n := ob_mx f) (ob_lg_len as _ hw)
    rw [lg_entry_eq]
    generalize (lg_sl (as.map (ob_cv w)) ++ List.replicate (ob_mx f - (lg_sl (as.map (ob_cv w))).length) Slot.unset).toArray = LS at hl ⊢
    have K := K LS s.heap [] ⟨hR, ⟨hl.1, hl.2.1, ob_mkL_len _ _ hw, fun k hk => ?_⟩, (fun v hv => by cases hv), fun _ _ => rfl, (fun q hq => by cases hq), Nat.le_refl _, Nat.le_refl _⟩
    · rw [Nat.sub_self, Nat.sub_self] at K
      exact K
    · have q := ob_mkL_args (w := w) as (ob_mx f) k 0 hw hk
      rw [Nat.zero_add] at q
      exact ⟨hl.2.2 _ q.1, has _ q.2⟩
  · intro pc LS H locs hro hRp hfr hlo
    have hro2 := hro
    unfold ob_rok at hro2
    have hq : ∀ t : State, t.heap = H → s.WarmedH t.vm → ob_rr f r → ob_Qc w f r mm' (as.map (ob_cv w)).toArray s (.returned (ob_rsv f r)) t := fun t ht _ hrr => ⟨rfl, by rw [ht]; exact hRp, hrr, fun q hq => by rw [ht]; exact hfr q hq⟩
    split at hro2
    · rename_i e0
      have hrr : ob_rr f r := by unfold ob_rr; rw [e0]; trivial
      have e1 : ob_rsv f r = none := by unfold ob_rsv; rw [e0]
      rw [e1] at hq ⊢
      exact W.vret B.exec B.bytes (hret.trans e0) (fun t h1 h2 => hq t h1 h2 hrr) hlo hro2 hlocks
    · rename_i e0
      have hrr : ob_rr f r := by unfold ob_rr; rw [e0]; exact hro2.2
      have e1 : ob_rsv f r = some (.long (Int64.ofInt r)) := by unfold ob_rsv; rw [e0]
      rw [e1] at hq ⊢
      exact W.lret B.exec B.bytes (hret.trans e0) (fun t h1 h2 => hq t h1 h2 hrr) hlo hro2.1 hlocks
    · rename_i e0
      have hrr : ob_rr f r := by unfold ob_rr; rw [e0]; exact hro2.2
      have e1 : ob_rsv f r = some (.int (Int32.ofInt r)) := by unfold ob_rsv; rw [e0]
      rw [e1] at hq ⊢
      exact W.iret B.exec B.bytes (hret.trans e0) (fun t h1 h2 => hq t h1 h2 hrr) hlo hro2.1 hlocks
    · rename_i e0
      have hrr : ob_rr f r := by
        unfold ob_rr
        rw [e0]
        rcases hro2.2 with rfl | rfl <;> exact ⟨by decide, by decide⟩
      have e1 : ob_rsv f r = some (.int (Int32.ofInt r)) := by unfold ob_rsv; rw [e0]
      rw [e1] at hq ⊢
      refine W.zret B.exec B.bytes (hret.trans e0) ?_ (fun t h1 h2 => hq t h1 h2 hrr) hlo hro2.1 hlocks
      rcases hro2.2 with rfl | rfl <;> decide
    · exact hro2.elim
theorem ob_Pc_blind {w : ob_Wd} {as : List ob_AV} {mm : ob_MM} : FrameBlind (ob_Pc w as mm) := by
  intro a U g mk h
  obtain ⟨h1, h2, h3, h4⟩ := h
  exact ⟨h1, h2, ob_KK_warm (s := U) (U := U.calling g mk a) (State.WarmedH.refl U) h3, va_X.moved (u := U) (U := U.calling g mk a) (Vm.Alike.refl U.vm) h4⟩
theorem ob_ML_b : (∀ q ∈ ob_ML, q.2.2.1 < 240 ∧ q.2.2.1 ≠ 238) ∧ (∀ q ∈ ob_MN, q.2.2.1 < 240 ∧ q.2.2.1 ≠ 238) := by decide +kernel
theorem ob_okCs {f i : Nat} {aux : List Nat} {st vt : Nat} (h : ob_okC f i aux st vt = true) : ((ob_nth aux 6 0 = 0 ∧ ob_in4 ob_ML (ob_ow f) i (ob_nth aux 1 0) = true) ∨ (ob_nth aux 6 0 ≠ 0 ∧ ob_in4 ob_MN (ob_ow f) i (ob_nth aux 1 0) = true)) ∧ ob_rk (ob_nth aux 1 0) + 1 ≤ ob_rk f ∧ ob_ow (ob_nth aux 1 0) = ob_nth aux 4 0 ∧ ob_mx (ob_nth aux 1 0) = ob_nth aux 5 0 ∧ ob_mx (ob_nth aux 1 0) ≤ 19 ∧ ob_sc (ob_nth aux 1 0) = st ∧ (parseMethodDescriptor (ob_y (ob_nth aux 1 0)).desc).map (fun d => d.parameters.length) = some (ob_nth aux 2 0 - vt) ∧ vt ≤ ob_nth aux 2 0 ∧ (∀ (w : ob_Wd) (r : Int) (rs : List ob_AV), (ob_rsv (ob_nth aux 1 0) r).toList ++ rs.map (ob_cv w) = (ob_psh (ob_nth aux 3 0) r rs).map (ob_cv w)) ∧ (∀ (n : Nat) (r : Int) (rs : List ob_AV), ob_rr (ob_nth aux 1 0) r → (∀ v ∈ rs, ob_okv n v) → ∀ v ∈ ob_psh (ob_nth aux 3 0) r rs, ob_okv n v) := by
  unfold ob_okC at h
  simp only [Bool.and_eq_true] at h
  obtain ⟨⟨⟨⟨⟨⟨⟨⟨⟨h0, h1⟩, h2⟩, h3⟩, h4⟩, h5⟩, h6⟩, h7⟩, h8⟩, h9⟩ := h
  refine ⟨?_, Nat.ble_eq.mp h2, ob_beq h3, ob_beq h4, Nat.ble_eq.mp h5, ob_beq h6, of_decide_eq_true h7, Nat.ble_eq.mp h8, ?_⟩
  · cases e : Nat.beq (ob_nth aux 6 0) 0 with
    | true =>
      rw [e] at h1
      exact Or.inl ⟨ob_beq e, h1⟩
    | false =>
      rw [e] at h1
      exact Or.inr ⟨(fun q => by rw [q] at e; cases e), h1⟩
  · split at h9
    · rename_i e1 e2
      rw [e2]
      unfold ob_rsv ob_rr
      rw [e1]
      exact ⟨fun w r rs => rfl, fun n r rs _ hs => hs⟩
    · rename_i e1 e2
      rw [e2]
      unfold ob_rsv ob_rr
      rw [e1]
      exact ⟨fun w r rs => rfl, fun n r rs hr hs => ob_al1 (v := (1, r)) hr hs⟩
    · rename_i e1 e2
      rw [e2]
      unfold ob_rsv ob_rr
      rw [e1]
      exact ⟨fun w r rs => rfl, fun n r rs hr hs => ob_al1 (v := (1, r)) hr hs⟩
    · rename_i e1 e2
      rw [e2]
      unfold ob_rsv ob_rr
      rw [e1]
      exact ⟨fun w r rs => rfl, fun n r rs hr hs => ob_al1 (v := (2, r)) hr hs⟩
    · cases h9
theorem ob_inrt : ∀ f, f < 240 → (ob_y f).name = "<init>" → ob_rt f = none := by decide +kernel
section ob_Call
variable {w : ob_Wd} {p : Program} {l : Launch} {e : Env} {R : Room} {s : State} {m : MethodId} {args : Array Value} {below : List Frame} {meth : Method} {c : Code} {Q : State → Prop} {c0 s0 f pc nx nL : Nat} {aux : List Nat} {z : Int} {ls st : List ob_AV} {mm : ob_MM} {S : ob_St}
variable {H : Heap} {locs : List Loc} {cells slots : Nat} {LS : Array Slot} {rest : List Value}
theorem ob_Wrun {mc ms : Nat} {st0 : List Value} {Qa : State → Outcome → State → Prop} {free : Addr → Prop} (hr : va_Run p l e R s m args below meth c H locs cells slots mc ms (F0 m pc LS st0) rest Qa free)
    (kk : ∀ (v : Option Value) (st₀ t : State) (L : List Loc), st₀.heap = H → Qa st₀ (.returned v) t → (∀ q ∈ L, free q.base) → W p l e R s m args below meth c t.heap (locs ++ L) (cells + mc) (slots + ms) Q (F0 m (pc + 3) LS (v.toList ++ rest))) : W p l e R s m args below meth c H locs cells slots Q (F0 m pc LS st0) := by
  intro T hT X
  obtain ⟨v, st₀, t, T', L, h0, X', hL, e1, e2, hq, st⟩ := hr T hT X
  obtain ⟨t2, a1, b1⟩ := kk v st₀ t L h0 hq hL T' e1 X'
  exact ⟨t2, st t2 a1, b1⟩
/-- behind a call -/
theorem ob_after {g : Nat} {r1 : Int} {mm1 : ob_MM} {rs : List ob_AV} {rc : Nat} {f2 : Nat} (hmo : ob_mle mm mm1) (hps : ∀ (r : Int) (rs : List ob_AV), (ob_rsv g r).toList ++ rs.map (ob_cv w) = (ob_psh rc r rs).map (ob_cv w)) (hpo : ∀ (n : Nat) (r : Int) (rs : List ob_AV), ob_rr g r → (∀ v ∈ rs, ob_okv n v) → ∀ v ∈ ob_psh rc r rs, ob_okv n v)
    (I : ob_Iv w s c0 s0 nL ls st mm LS H locs) (hrs : ∀ v ∈ rs, ob_okv (ob_nA mm) v) (kk : ob_At w p l e R s m args below meth c Q c0 s0 nL (f2, pc + 3, ls, ob_psh rc r1 rs, mm1))
    (v : Option Value) (st₀ t : State) (L : List Loc) (h0 : st₀.heap = H) {av : Array Value} (hQ : ob_Qc w g r1 mm1 av st₀ (.returned v) t) (hL : ∀ q ∈ L, ob_sz w ≤ q.base) : W p l e R s m args below meth c t.heap (locs ++ L) (ob_nA mm - c0 + (ob_nA mm1 - ob_nA mm)) (ob_nS mm - s0 + (ob_nS mm1 - ob_nS mm)) Q (F0 m (pc + 3) LS (v.toList ++ rs.map (ob_cv w))) := by
  obtain ⟨hv, hRp, hrr, hfr⟩ := hQ
  cases hv
  rw [hps]
  obtain ⟨i1, ⟨a1, a2, a3, a4⟩, i3, i4, i5, i6, i7⟩ := I
  have h1 := hmo.1
  have h2 := hmo.2
  refine W.cs (cells' := ob_nA mm1 - c0) (slots' := ob_nS mm1 - s0) (by omega) (by omega) ?_
  refine kk LS t.heap (locs ++ L) ⟨hRp, ⟨a1, a2, a3, fun k hk => ⟨(a4 k hk).1, ob_okv_le h1 (a4 k hk).2⟩⟩, hpo _ _ _ hrr (fun v hv => ob_okv_le h1 (hrs v hv)), fun q hq => by rw [hfr q hq, h0]; exact i4 q hq, fun q hq => ?_, Nat.le_trans i6 h1, Nat.le_trans i7 h2⟩
  rcases List.mem_append.mp hq with e1 | e1
  · exact i5 q e1
  · exact hL q e1
theorem ob_Pc_at {as : List ob_AV} (X : ob_Cx w p R s m args meth c f) (I : ob_Iv w s c0 s0 nL ls st mm LS H locs) : ∀ U : State, U.heap = H → s.WarmedH U.vm → ob_Pc w as mm (as.map (ob_cv w)).toArray U := by
  intro U hU hW
  refine ⟨rfl, by rw [hU]; exact I.1, ob_KK_warm hW X.2.2.2.2.2.2.2.2.1, ?_⟩
  rw [hU]
  exact va_X.moved hW.alike (va_X.kept X.2.2.2.2.2.2.2.2.2.1 (I.2.2.2.1 _ X.2.2.2.2.2.2.2.2.2.2.1.1))
set_option maxRecDepth 100000 in
set_option maxHeartbeats 2000000 in
theorem ob_call_v {n idx : Nat} {as rs : List ob_AV} {r1 : Int} {mm1 : ob_MM} (X : ob_Cx w p R s m args meth c f) (hS : ob_Snd w n) (hd : decode (ob_by f) pc = .ok (.invokevirtual idx, 3)) (hC : ob_okC f idx aux 0 1 = true) (h8 : ob_nth aux 4 0 ≤ 8) (hnin : (ob_y (ob_nth aux 1 0)).name ≠ "<init>")
    (hp : ob_pop (ob_nth aux 2 0) [] st = some (as, rs)) (hw8 : ob_wk 8 rs = true) (hwa : ob_wk (ob_nth aux 5 0) as = true) (hhd : ob_hd (ob_nth aux 4 0) as = true)
    (hx : ob_ex n (ob_nth aux 1 0, 0, ob_mkL as (ob_nth aux 5 0), [], mm) = some (r1, mm1)) (hb1 : ob_nA mm1 ≤ R.cells + c0) (hb2 : ob_nS mm1 ≤ R.slots + s0) (kk : ob_At w p l e R s m args below meth c Q c0 s0 nL (f, pc + 3, ls, ob_psh (ob_nth aux 3 0) r1 rs, mm1)) (hnL : nL = ob_mx f) : ob_At w p l e R s m args below meth c Q c0 s0 nL (f, pc, ls, st, mm) := by
  obtain ⟨hlk, hrk, how, hmx, hm19, hsc, hpar, hvt, hps, hpo⟩ := ob_okCs hC
  obtain ⟨fr, hst, has, hlen⟩ := ob_pop_e _ _ _ _ _ hp
  rw [List.append_nil] at has
  rw [← hmx] at hx hwa
  generalize ob_nth aux 1 0 = g at *
  generalize ob_nth aux 2 0 = nn at *
  generalize ob_nth aux 3 0 = rc at *
  generalize ob_nth aux 4 0 = C at *
  have hgb : g < 240 ∧ g ≠ 238 := by
    rcases hlk with ⟨-, hlk⟩ | ⟨-, hlk⟩
    · obtain ⟨q, hq⟩ := ob_in4s hlk
      exact ob_ML_b.1 _ hq
    · obtain ⟨q, hq⟩ := ob_in4s hlk
      exact ob_ML_b.2 _ hq
  intro LS H locs I
  have hok : ∀ v ∈ fr ++ rs, ob_okv (ob_nA mm) v := by rw [← hst]; exact I.2.2.1
  have hrs : ∀ v ∈ rs, ob_okv (ob_nA mm) v := fun v hv => hok v (List.mem_append_right _ hv)
  have hasok : ∀ v ∈ as, ob_okv (ob_nA mm) v := fun v hv => hok v (List.mem_append_left _ (by rw [has] at hv; exact List.mem_reverse.mp hv))
  have hmo : ob_mle mm mm1 := ob_mono n _ _ hx
  have hM := ob_met l hS hx hgb.1 hgb.2 X.2.2.2.2.2.2.2.2.2.2.1.1 hwa hasok
  have hR := X.2.2.2.2.2.2.2.2.2.2.2
  have hcode : Cond.code (ob_y g) (ob_by g) (ob_mx g) (ob_rt g) ∈ ob_gt := List.mem_filter.mpr ⟨ob_MCk g hgb.1 hgb.2, rfl⟩
  have hcls := (ob_MPa g hgb.1 hgb.2).2
  have hG : GoodIn ob_gt (ob_ws g) := fun x hx => ob_gin x ((List.mem_cons.mp hx).elim (fun q => by rw [q]; exact hcode) id)
  have hini0 : (Cond.initialized (ob_y g).cls).before args s = true := by rw [hcls.1]; exact X.2.2.2.2.1 _ (ob_inl hcls.2)
  have hdd := (ob_plain g hgb.1 hgb.2).2
  have hroom : (ob_rm g mm mm1).frames + 1 ≤ R.frames ∧ 8 + (ob_mx g + 11) + (ob_rm g mm mm1).locals ≤ R.locals := ⟨by show ob_rk g + 1 ≤ R.frames; omega, by show 8 + (ob_mx g + 11) + 38 * ob_rk g ≤ R.locals; omega⟩
  have hi6 := I.2.2.2.2.2.1
  have hi7 := I.2.2.2.2.2.2
  have hm1 := hmo.1
  have hm2 := hmo.2
  have hf : ob_nA mm - c0 + (ob_nA mm1 - ob_nA mm) ≤ R.cells ∧ ob_nS mm - s0 + (ob_nS mm1 - ob_nS mm) ≤ R.slots := ⟨by omega, by omega⟩
  have hfix : CallFix p m c (ob_by f) (ob_mx f) s args ob_gt (ob_cn (ob_ow f)) := ⟨X.1, X.2.1, X.2.2.1, X.2.2.2.1, X.2.2.2.2.1⟩
  have hws := ob_wk_sum (w := w) 8 rs hw8
  have hsize : LS.size = ob_mx f := by rw [I.2.1.1, hnL]
  obtain ⟨mp, hmp, hmp2⟩ := List.any_eq_true.mp (ob_MPa g hgb.1 hgb.2).1
  obtain ⟨mp0, mp1, mp2, mp3⟩ := mp
  obtain rfl : mp0 = g := ob_beq hmp2
  have hinst := ob_MPi _ hmp
  have hinst : lw_tbl[mp2]? = some (cond (Nat.beq (ob_sc mp0) 0) (Cond.instanceMethod (ob_y mp0)) (Cond.static (ob_y mp0))) := hinst
  rw [hsc] at hinst
  have hinst : lw_tbl[mp2]? = some (Cond.instanceMethod (ob_y mp0)) := hinst
  have hin := X.2.2.2.2.1 _ (ob_w_in hinst rfl)
  obtain ⟨i0, as', rfl⟩ : ∃ i0 as', as = (C + 3, i0) :: as' := by
    match as, hhd with
    | [], h => cases h
    | (t, i0) :: as', h => exact ⟨i0, as', by rw [ob_beq h]⟩
  have hpC := hasok (C + 3, i0) List.mem_cons_self
  have hC15 : C ≠ 15 := by omega
  have hoff := ob_pr_off hpC hC15
  have hlen' : (as'.map (ob_cv w)).length = nn - 1 := by
    have : fr.length = as'.length + 1 := by rw [← List.length_reverse, ← has]; rfl
    rw [List.length_map]
    omega
  have hstk : st.map (ob_cv w) = (as'.map (ob_cv w)).reverse ++ Value.ref (ob_sz w + ob_off C i0) :: rs.map (ob_cv w) := by
    have hfr : fr = as'.reverse ++ [(C + 3, i0)] := by
      rw [← List.reverse_reverse fr, ← has, List.reverse_cons]
    rw [hst, hfr, List.map_append, List.map_append, List.map_reverse, List.append_assoc]
    show _ ++ (Value.ref (ob_ad w C i0) :: _) = _
    rw [ob_ad_n hC15]
    rfl
  have hPc : ∀ U : State, U.heap = H → s.WarmedH U.vm → ob_Pc w ((C + 3, i0) :: as') mm (Value.ref (ob_sz w + ob_off C i0) :: as'.map (ob_cv w)).toArray U := by
    have q := ob_Pc_at (as := (C + 3, i0) :: as') X I
    rw [show List.map (ob_cv w) ((C + 3, i0) :: as') = Value.ref (ob_ad w C i0) :: as'.map (ob_cv w) from rfl, ob_ad_n hC15] at q
    exact q
  have hsel : (Cond.selects (ob_cn C) (ob_y mp0) (ob_y mp0)).before args s = true := by
    have q := ob_MPs _ hmp (by rw [Bool.and_eq_true]; exact ⟨by show Nat.beq (ob_sc mp0) 0 = true; rw [hsc]; rfl, by show (!decide ((ob_y mp0).name = "<init>")) = true; rw [decide_eq_false hnin]; rfl⟩)
    have q : lw_tbl[mp3]? = some (Cond.selects (ob_y mp0).cls (ob_y mp0) (ob_y mp0)) := q
    rw [hcls.1, how] at q
    exact X.2.2.2.2.1 _ (ob_w_in q rfl)
  have hrecv : ∃ cellB : Cell, H[ob_sz w + ob_off C i0]? = some cellB ∧ cellB.vm.isStatics = false ∧ s.vm.findClass (ob_cn C) = some cellB.cls := by
    obtain ⟨cellV, g1, g2, g3, -⟩ := (I.1.2.2.1 C i0 hoff).1 h8
    exact ⟨cellV, g1, by rw [g3]; rfl, by rw [g2]; exact (X.2.2.2.2.2.2.2.2.1.1.1 C _ (ob_clk C h8)).2.1⟩
  show W p l e R s m args below meth c H locs _ _ Q (F0 m pc LS (st.map (ob_cv w)))
  rw [hstk]
  rcases hlk with ⟨-, hlk⟩ | ⟨-, hlk⟩
  · obtain ⟨pl, hpl⟩ := ob_in4s hlk
    have hl : (Cond.methodLink (ob_cn (ob_ow f)) idx (ob_y mp0)).before args s = true := X.2.2.2.2.1 _ (ob_w_in (ob_MLk _ hpl) rfl)
    have hcw := callB_of (R := R) (s := s) (args := args) (own := ob_cn (ob_ow f)) (index := idx) (rm := ob_rm mp0 mm mm1) (mc := ob_nA mm1 - ob_nA mm) (ms := ob_nS mm1 - ob_nS mm) (nn - 1) X.2.2.2.2.1 hG rfl rfl rfl hini0 hl ⟨hdd.1, hdd.2, hpar⟩ hroom
    refine ob_Wrun (va_runV (As := as'.map (ob_cv w)) (rest := rs.map (ob_cv w)) hfix hM ⟨hcw, hin, hsel⟩ ⟨ob_Pc_blind, hrecv, hPc⟩ rfl hlen' hsize rfl (by show 2 * 0 + _ ≤ 8; omega) hd hf) fun v st₀ t L h0 hQ hL => ?_
    exact ob_after hmo (hps w) hpo I hrs kk v st₀ t L h0 hQ hL
  · obtain ⟨pl, hpl⟩ := ob_in4s hlk
    have hl0 := X.2.2.2.2.2.2.2.2.1.2.2.1 (ob_ow f, idx, mp0, pl) hpl
    have hl : va_Nw (.methodLinkNest (ob_cn (ob_ow f)) idx (ob_y mp0) "OrganBarrel") s := hl0
    have hcw := va_cnB (R := R) (s := s) (args := args) (own := ob_cn (ob_ow f)) (index := idx) (rm := ob_rm mp0 mm mm1) (mc := ob_nA mm1 - ob_nA mm) (ms := ob_nS mm1 - ob_nS mm) (nn - 1) X.2.2.2.2.1 hG rfl rfl rfl hl hini0 ⟨hdd.1, hdd.2, hpar⟩ hroom
    refine ob_Wrun (va_runVN (As := as'.map (ob_cv w)) (rest := rs.map (ob_cv w)) hfix hM ⟨hcw, hin, hsel⟩ ⟨ob_Pc_blind, hrecv, hPc⟩ rfl hlen' hsize rfl (by show 2 * 0 + _ ≤ 8; omega) hd hf) fun v st₀ t L h0 hQ hL => ?_
    exact ob_after hmo (hps w) hpo I hrs kk v st₀ t L h0 hQ hL
set_option maxRecDepth 100000 in
set_option maxHeartbeats 2000000 in
theorem ob_call_s {n idx : Nat} {as rs : List ob_AV} {r1 : Int} {mm1 : ob_MM} (X : ob_Cx w p R s m args meth c f) (hS : ob_Snd w n) (hd : decode (ob_by f) pc = .ok (.invokestatic idx, 3)) (hC : ob_okC f idx aux 1 0 = true)
    (hp : ob_pop (ob_nth aux 2 0) [] st = some (as, rs)) (hw8 : ob_wk 8 rs = true) (hwa : ob_wk (ob_nth aux 5 0) as = true)
    (hx : ob_ex n (ob_nth aux 1 0, 0, ob_mkL as (ob_nth aux 5 0), [], mm) = some (r1, mm1)) (hb1 : ob_nA mm1 ≤ R.cells + c0) (hb2 : ob_nS mm1 ≤ R.slots + s0) (kk : ob_At w p l e R s m args below meth c Q c0 s0 nL (f, pc + 3, ls, ob_psh (ob_nth aux 3 0) r1 rs, mm1)) (hnL : nL = ob_mx f) : ob_At w p l e R s m args below meth c Q c0 s0 nL (f, pc, ls, st, mm) := by
  obtain ⟨hlk, hrk, how, hmx, hm19, hsc, hpar, hvt, hps, hpo⟩ := ob_okCs hC
  obtain ⟨fr, hst, has, hlen⟩ := ob_pop_e _ _ _ _ _ hp
  rw [List.append_nil] at has
  rw [← hmx] at hx hwa
  generalize ob_nth aux 1 0 = g at *
  generalize ob_nth aux 2 0 = nn at *
  generalize ob_nth aux 3 0 = rc at *
  generalize ob_nth aux 4 0 = C at *
  have hgb : g < 240 ∧ g ≠ 238 := by
    rcases hlk with ⟨-, hlk⟩ | ⟨-, hlk⟩
    · obtain ⟨q, hq⟩ := ob_in4s hlk
      exact ob_ML_b.1 _ hq
    · obtain ⟨q, hq⟩ := ob_in4s hlk
      exact ob_ML_b.2 _ hq
  intro LS H locs I
  have hok : ∀ v ∈ fr ++ rs, ob_okv (ob_nA mm) v := by rw [← hst]; exact I.2.2.1
  have hrs : ∀ v ∈ rs, ob_okv (ob_nA mm) v := fun v hv => hok v (List.mem_append_right _ hv)
  have hasok : ∀ v ∈ as, ob_okv (ob_nA mm) v := fun v hv => hok v (List.mem_append_left _ (by rw [has] at hv; exact List.mem_reverse.mp hv))
  have hmo : ob_mle mm mm1 := ob_mono n _ _ hx
  have hM := ob_met l hS hx hgb.1 hgb.2 X.2.2.2.2.2.2.2.2.2.2.1.1 hwa hasok
  have hR := X.2.2.2.2.2.2.2.2.2.2.2
  have hcode : Cond.code (ob_y g) (ob_by g) (ob_mx g) (ob_rt g) ∈ ob_gt := List.mem_filter.mpr ⟨ob_MCk g hgb.1 hgb.2, rfl⟩
  have hcls := (ob_MPa g hgb.1 hgb.2).2
  have hG : GoodIn ob_gt (ob_ws g) := fun x hx => ob_gin x ((List.mem_cons.mp hx).elim (fun q => by rw [q]; exact hcode) id)
  have hini0 : (Cond.initialized (ob_y g).cls).before args s = true := by rw [hcls.1]; exact X.2.2.2.2.1 _ (ob_inl hcls.2)
  have hdd := (ob_plain g hgb.1 hgb.2).2
  have hroom : (ob_rm g mm mm1).frames + 1 ≤ R.frames ∧ 8 + (ob_mx g + 11) + (ob_rm g mm mm1).locals ≤ R.locals := ⟨by show ob_rk g + 1 ≤ R.frames; omega, by show 8 + (ob_mx g + 11) + 38 * ob_rk g ≤ R.locals; omega⟩
  have hi6 := I.2.2.2.2.2.1
  have hi7 := I.2.2.2.2.2.2
  have hm1 := hmo.1
  have hm2 := hmo.2
  have hf : ob_nA mm - c0 + (ob_nA mm1 - ob_nA mm) ≤ R.cells ∧ ob_nS mm - s0 + (ob_nS mm1 - ob_nS mm) ≤ R.slots := ⟨by omega, by omega⟩
  have hfix : CallFix p m c (ob_by f) (ob_mx f) s args ob_gt (ob_cn (ob_ow f)) := ⟨X.1, X.2.1, X.2.2.1, X.2.2.2.1, X.2.2.2.2.1⟩
  have hws := ob_wk_sum (w := w) 8 rs hw8
  have hsize : LS.size = ob_mx f := by rw [I.2.1.1, hnL]
  obtain ⟨mp, hmp, hmp2⟩ := List.any_eq_true.mp (ob_MPa g hgb.1 hgb.2).1
  obtain ⟨mp0, mp1, mp2, mp3⟩ := mp
  obtain rfl : mp0 = g := ob_beq hmp2
  have hinst := ob_MPi _ hmp
  have hinst : lw_tbl[mp2]? = some (cond (Nat.beq (ob_sc mp0) 0) (Cond.instanceMethod (ob_y mp0)) (Cond.static (ob_y mp0))) := hinst
  rw [hsc] at hinst
  have hinst : lw_tbl[mp2]? = some (Cond.static (ob_y mp0)) := hinst
  have hin := X.2.2.2.2.1 _ (ob_w_in hinst rfl)
  have hlen' : (as.map (ob_cv w)).length = nn := by
    rw [List.length_map, has, List.length_reverse]
    exact hlen
  have hstk : st.map (ob_cv w) = (as.map (ob_cv w)).reverse ++ rs.map (ob_cv w) := by
    rw [hst, has, List.map_append, ← List.map_reverse, List.reverse_reverse]
  have hPc := ob_Pc_at (as := as) X I
  show W p l e R s m args below meth c H locs _ _ Q (F0 m pc LS (st.map (ob_cv w)))
  rw [hstk]
  rcases hlk with ⟨-, hlk⟩ | ⟨-, hlk⟩
  · obtain ⟨pl, hpl⟩ := ob_in4s hlk
    have hl : (Cond.methodLink (ob_cn (ob_ow f)) idx (ob_y mp0)).before args s = true := X.2.2.2.2.1 _ (ob_w_in (ob_MLk _ hpl) rfl)
    have hcw := callB_of (R := R) (s := s) (args := args) (own := ob_cn (ob_ow f)) (index := idx) (rm := ob_rm mp0 mm mm1) (mc := ob_nA mm1 - ob_nA mm) (ms := ob_nS mm1 - ob_nS mm) (nn) X.2.2.2.2.1 hG rfl rfl rfl hini0 hl ⟨hdd.1, hdd.2, hpar⟩ hroom
    refine ob_Wrun (va_runS (As := as.map (ob_cv w)) (rest := rs.map (ob_cv w)) hfix hM ⟨hcw, hin⟩ ⟨ob_Pc_blind, hPc⟩ rfl hlen' hsize rfl (by show 2 * 0 + _ ≤ 8; omega) hd hf) fun v st₀ t L h0 hQ hL => ?_
    exact ob_after hmo (hps w) hpo I hrs kk v st₀ t L h0 hQ hL
  · obtain ⟨pl, hpl⟩ := ob_in4s hlk
    have hl0 := X.2.2.2.2.2.2.2.2.1.2.2.1 (ob_ow f, idx, mp0, pl) hpl
    have hl : va_Nw (.methodLinkNest (ob_cn (ob_ow f)) idx (ob_y mp0) "OrganBarrel") s := hl0
    have hcw := va_cnB (R := R) (s := s) (args := args) (own := ob_cn (ob_ow f)) (index := idx) (rm := ob_rm mp0 mm mm1) (mc := ob_nA mm1 - ob_nA mm) (ms := ob_nS mm1 - ob_nS mm) (nn) X.2.2.2.2.1 hG rfl rfl rfl hl hini0 ⟨hdd.1, hdd.2, hpar⟩ hroom
    refine ob_Wrun (va_runSN (As := as.map (ob_cv w)) (rest := rs.map (ob_cv w)) hfix hM ⟨hcw, hin, trivial⟩ ⟨ob_Pc_blind, hPc⟩ rfl hlen' hsize rfl (by show 2 * 0 + _ ≤ 8; omega) hd hf) fun v st₀ t L h0 hQ hL => ?_
    exact ob_after hmo (hps w) hpo I hrs kk v st₀ t L h0 hQ hL
set_option maxRecDepth 100000 in
set_option maxHeartbeats 2000000 in
theorem ob_call_i {n idx : Nat} {as rs : List ob_AV} {r1 : Int} {mm1 : ob_MM} (X : ob_Cx w p R s m args meth c f) (hS : ob_Snd w n) (hd : decode (ob_by f) pc = .ok (.invokespecial idx, 3)) (hC : ob_okC f idx aux 0 1 = true) (h8 : ob_nth aux 4 0 ≤ 8) (hini : (ob_y (ob_nth aux 1 0)).name = "<init>")
    (hp : ob_pop (ob_nth aux 2 0) [] st = some (as, rs)) (hw8 : ob_wk 8 rs = true) (hwa : ob_wk (ob_nth aux 5 0) as = true) (hhd : ob_hd (ob_nth aux 4 0) as = true)
    (hx : ob_ex n (ob_nth aux 1 0, 0, ob_mkL as (ob_nth aux 5 0), [], mm) = some (r1, mm1)) (hb1 : ob_nA mm1 ≤ R.cells + c0) (hb2 : ob_nS mm1 ≤ R.slots + s0) (kk : ob_At w p l e R s m args below meth c Q c0 s0 nL (f, pc + 3, ls, ob_psh (ob_nth aux 3 0) r1 rs, mm1)) (hnL : nL = ob_mx f) : ob_At w p l e R s m args below meth c Q c0 s0 nL (f, pc, ls, st, mm) := by
  obtain ⟨hlk, hrk, how, hmx, hm19, hsc, hpar, hvt, hps, hpo⟩ := ob_okCs hC
  obtain ⟨fr, hst, has, hlen⟩ := ob_pop_e _ _ _ _ _ hp
  rw [List.append_nil] at has
  rw [← hmx] at hx hwa
  generalize ob_nth aux 1 0 = g at *
  generalize ob_nth aux 2 0 = nn at *
  generalize ob_nth aux 3 0 = rc at *
  generalize ob_nth aux 4 0 = C at *
  have hgb : g < 240 ∧ g ≠ 238 := by
    rcases hlk with ⟨-, hlk⟩ | ⟨-, hlk⟩
    · obtain ⟨q, hq⟩ := ob_in4s hlk
      exact ob_ML_b.1 _ hq
    · obtain ⟨q, hq⟩ := ob_in4s hlk
      exact ob_ML_b.2 _ hq
  intro LS H locs I
  have hok : ∀ v ∈ fr ++ rs, ob_okv (ob_nA mm) v := by rw [← hst]; exact I.2.2.1
  have hrs : ∀ v ∈ rs, ob_okv (ob_nA mm) v := fun v hv => hok v (List.mem_append_right _ hv)
  have hasok : ∀ v ∈ as, ob_okv (ob_nA mm) v := fun v hv => hok v (List.mem_append_left _ (by rw [has] at hv; exact List.mem_reverse.mp hv))
  have hmo : ob_mle mm mm1 := ob_mono n _ _ hx
  have hM := ob_met l hS hx hgb.1 hgb.2 X.2.2.2.2.2.2.2.2.2.2.1.1 hwa hasok
  have hR := X.2.2.2.2.2.2.2.2.2.2.2
  have hcode : Cond.code (ob_y g) (ob_by g) (ob_mx g) (ob_rt g) ∈ ob_gt := List.mem_filter.mpr ⟨ob_MCk g hgb.1 hgb.2, rfl⟩
  have hcls := (ob_MPa g hgb.1 hgb.2).2
  have hG : GoodIn ob_gt (ob_ws g) := fun x hx => ob_gin x ((List.mem_cons.mp hx).elim (fun q => by rw [q]; exact hcode) id)
  have hini0 : (Cond.initialized (ob_y g).cls).before args s = true := by rw [hcls.1]; exact X.2.2.2.2.1 _ (ob_inl hcls.2)
  have hdd := (ob_plain g hgb.1 hgb.2).2
  have hroom : (ob_rm g mm mm1).frames + 1 ≤ R.frames ∧ 8 + (ob_mx g + 11) + (ob_rm g mm mm1).locals ≤ R.locals := ⟨by show ob_rk g + 1 ≤ R.frames; omega, by show 8 + (ob_mx g + 11) + 38 * ob_rk g ≤ R.locals; omega⟩
  have hi6 := I.2.2.2.2.2.1
  have hi7 := I.2.2.2.2.2.2
  have hm1 := hmo.1
  have hm2 := hmo.2
  have hf : ob_nA mm - c0 + (ob_nA mm1 - ob_nA mm) ≤ R.cells ∧ ob_nS mm - s0 + (ob_nS mm1 - ob_nS mm) ≤ R.slots := ⟨by omega, by omega⟩
  have hfix : CallFix p m c (ob_by f) (ob_mx f) s args ob_gt (ob_cn (ob_ow f)) := ⟨X.1, X.2.1, X.2.2.1, X.2.2.2.1, X.2.2.2.2.1⟩
  have hws := ob_wk_sum (w := w) 8 rs hw8
  have hsize : LS.size = ob_mx f := by rw [I.2.1.1, hnL]
  obtain ⟨mp, hmp, hmp2⟩ := List.any_eq_true.mp (ob_MPa g hgb.1 hgb.2).1
  obtain ⟨mp0, mp1, mp2, mp3⟩ := mp
  obtain rfl : mp0 = g := ob_beq hmp2
  have hinst := ob_MPi _ hmp
  have hinst : lw_tbl[mp2]? = some (cond (Nat.beq (ob_sc mp0) 0) (Cond.instanceMethod (ob_y mp0)) (Cond.static (ob_y mp0))) := hinst
  rw [hsc] at hinst
  have hinst : lw_tbl[mp2]? = some (Cond.instanceMethod (ob_y mp0)) := hinst
  have hin := X.2.2.2.2.1 _ (ob_w_in hinst rfl)
  obtain ⟨i0, as', rfl⟩ : ∃ i0 as', as = (C + 3, i0) :: as' := by
    match as, hhd with
    | [], h => cases h
    | (t, i0) :: as', h => exact ⟨i0, as', by rw [ob_beq h]⟩
  have hpC := hasok (C + 3, i0) List.mem_cons_self
  have hC15 : C ≠ 15 := by omega
  have hoff := ob_pr_off hpC hC15
  have hlen' : (as'.map (ob_cv w)).length = nn - 1 := by
    have : fr.length = as'.length + 1 := by rw [← List.length_reverse, ← has]; rfl
    rw [List.length_map]
    omega
  have hstk : st.map (ob_cv w) = (as'.map (ob_cv w)).reverse ++ Value.ref (ob_sz w + ob_off C i0) :: rs.map (ob_cv w) := by
    have hfr : fr = as'.reverse ++ [(C + 3, i0)] := by
      rw [← List.reverse_reverse fr, ← has, List.reverse_cons]
    rw [hst, hfr, List.map_append, List.map_append, List.map_reverse, List.append_assoc]
    show _ ++ (Value.ref (ob_ad w C i0) :: _) = _
    rw [ob_ad_n hC15]
    rfl
  have hPc : ∀ U : State, U.heap = H → s.WarmedH U.vm → ob_Pc w ((C + 3, i0) :: as') mm (Value.ref (ob_sz w + ob_off C i0) :: as'.map (ob_cv w)).toArray U := by
    have q := ob_Pc_at (as := (C + 3, i0) :: as') X I
    rw [show List.map (ob_cv w) ((C + 3, i0) :: as') = Value.ref (ob_ad w C i0) :: as'.map (ob_cv w) from rfl, ob_ad_n hC15] at q
    exact q
  have hrt : ob_rt mp0 = none := ob_inrt mp0 hgb.1 hini
  show W p l e R s m args below meth c H locs _ _ Q (F0 m pc LS (st.map (ob_cv w)))
  rw [hstk]
  rcases hlk with ⟨-, hlk⟩ | ⟨-, hlk⟩
  · obtain ⟨pl, hpl⟩ := ob_in4s hlk
    have hl : (Cond.methodLink (ob_cn (ob_ow f)) idx (ob_y mp0)).before args s = true := X.2.2.2.2.1 _ (ob_w_in (ob_MLk _ hpl) rfl)
    have hcw := callB_of (R := R) (s := s) (args := args) (own := ob_cn (ob_ow f)) (index := idx) (rm := ob_rm mp0 mm mm1) (mc := ob_nA mm1 - ob_nA mm) (ms := ob_nS mm1 - ob_nS mm) (nn - 1) X.2.2.2.2.1 hG rfl rfl rfl hini0 hl ⟨hdd.1, hdd.2, hpar⟩ hroom
    rw [hrt] at hcw
    refine ob_Wrun (va_runI (As := as'.map (ob_cv w)) (rest := rs.map (ob_cv w)) hfix hM ⟨hcw, hini, hin⟩ ⟨ob_Pc_blind, hPc⟩ rfl hlen' hsize rfl (by show 2 * 0 + _ ≤ 8; omega) hd hf) fun v st₀ t L h0 hQ hL => ?_
    exact ob_after hmo (hps w) hpo I hrs kk v st₀ t L h0 hQ hL
  · obtain ⟨pl, hpl⟩ := ob_in4s hlk
    have hl0 := X.2.2.2.2.2.2.2.2.1.2.2.1 (ob_ow f, idx, mp0, pl) hpl
    have hl : va_Nw (.methodLinkNest (ob_cn (ob_ow f)) idx (ob_y mp0) "OrganBarrel") s := hl0
    have hcw := va_cnB (R := R) (s := s) (args := args) (own := ob_cn (ob_ow f)) (index := idx) (rm := ob_rm mp0 mm mm1) (mc := ob_nA mm1 - ob_nA mm) (ms := ob_nS mm1 - ob_nS mm) (nn - 1) X.2.2.2.2.1 hG rfl rfl rfl hl hini0 ⟨hdd.1, hdd.2, hpar⟩ hroom
    rw [hrt] at hcw
    refine ob_Wrun (va_runIN (As := as'.map (ob_cv w)) (rest := rs.map (ob_cv w)) hfix hM ⟨hcw, hini, hin⟩ ⟨ob_Pc_blind, hPc⟩ rfl hlen' hsize rfl (by show 2 * 0 + _ ≤ 8; omega) hd hf) fun v st₀ t L h0 hQ hL => ?_
    exact ob_after hmo (hps w) hpo I hrs kk v st₀ t L h0 hQ hL
end ob_Call
