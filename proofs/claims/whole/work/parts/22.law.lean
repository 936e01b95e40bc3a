-- ===== end of PART A; then your names; then what follows =====
/-! THE CLAIM OUT OF ONE WALK OF THE LAW'S BODY. Your part is whole_start (and what it stands on); all else here is the same for every law, but numbers. -/
def R_law : String := "OrganBarrelLaw"
def lw_P (b : Addr) (xs : List Int32) (args : Array Value) (s : State) : Prop := args = #[.ref b] ∧ s.IntsAt b xs ∧ xs.length ≤ 2560 ∧ (Jvm.Cond.and given_1 narrow_1).before args s = true
def lw_Q (_ : Array Value) (s : State) (o : Outcome) (t : State) : Prop := o = .returned (some (.int 1)) ∧ Framed s o t [] 600000 7302250
def lw_Z (below : List Frame) (a : Array Value) (s : State) : State → Prop := fun t => ∃ o, t.status = .running ∧ Ended t below o ∧ lw_Q a s o t
/-- the law's own end, with 1 on the stack, nothing written that was there before, its room as the claim has it -/
theorem lw_ret {p : Program} {l : Launch} {e : Env} {s : State} {m : MethodId} {below : List Frame} {meth : Method} {c : Code} {b : Nat} (hx : p.tables.exec = Jvm.exec) (hb : c.code = code) (hr : meth.sig.returnType = ret) (hlocks : meth.locks = false) {pc : Nat} {H : Heap} {ls : Array Slot} (hdg : decode code pc = .ok (.ireturn, 1)) : W p l e room_1 s m #[Value.ref b] below meth c H [] 600000 7302250 (lw_Z below #[Value.ref b] s) (F0 m pc ls [.int 1]) := by
  intro T hT X
  obtain ⟨fs, hret, hrun, hended, hW, hframe⟩ := X.leave (v := some (.int 1)) (hlocks := hlocks) (fun h => by rw [hr] at h; cases h)
  have hmeth' : T.vm.method? m = some meth := X.method'
  refine ⟨T.setFrames fs, ?_, .returned (some (.int 1)), hrun, hended, rfl, ⟨_, rfl⟩, hW, hframe⟩
  jvm_step X.here [X.here.top, hx, hb, hdg, hmeth', hr, ret, narrow_b1]
  (try refine ⟨rfl, ?_⟩); (try refine ⟨rfl, ?_⟩)
  first | (intro acts; rw [hret _ acts rfl rfl rfl]) | rw [hret _ _ rfl rfl rfl]
  exact Steps.refl _
/-- what holds at the law's entry: the machine, the code, the tables' words (any of lw_tbl by 'hts w (by decide +kernel)'), the script of L ints xs at the cell b, what the Statement gives of the start (any of its parts by flat_of_before) -/
def lw_At (p : Program) (s : State) (m : MethodId) (meth : Method) (c : Code) (b L : Nat) (xs : Nat → Int32) : Prop :=
  p.tables.exec = Jvm.exec ∧ c.code = code ∧ meth.sig.returnType = ret ∧ c.maxLocals = 4 ∧ s.vm.findClass R_law = some m.cls ∧ (∀ w ∈ lw_tbl, w.before #[Value.ref b] s = true) ∧ va_X b L xs s s.heap ∧ b < s.heap.size ∧ meth.locks = false ∧ (Jvm.Cond.and given_1 narrow_1).before #[Value.ref b] s = true
def ob_m0 (L : Nat) (xs : Nat → Int32) : ob_Mem := fun k i s => if k = 15 ∧ i = 0 ∧ 0 ≤ s ∧ s < (L : Int) then (xs s.toNat).toInt else if k = 14 ∧ i = 0 ∧ s = 0 then (L : Int) else 0
/-- what is owed of the abstract machine -/
def ob_Owed : Prop := ∀ (L : Nat) (xs : Nat → Int32), L ≤ 2560 → ∃ mF : ob_Mem, ob_E (238, 0, [(18, 0), (0, 0), (0, 0), (0, 0)], [], (ob_m0 L xs, some (0, 0, []))) = some (1, (mF, none))
def ob_atya (a : Nat) : FieldType := match a with
  | 0 => .int
  | 1 => .boolean
  | 2 => .byte
  | a => .object (ob_cn (a - 4))
theorem ob_aty_a : ∀ k, k < 57 → 16 ≤ k → ob_aty k = ob_atya (ob_ai k) ∧ (ob_ai k = 0 ∨ ob_ai k = 1 ∨ ob_ai k = 2 ∨ ob_ai k = 4 ∨ ob_ai k = 7 ∨ ob_ai k = 9) := by decide +kernel
theorem ob_AO_k : ∀ k, k < 57 → 16 ≤ k → (ob_kq k).2.1 = 3 → (ob_kq k).2.2.1 = 1 ∨ (ob_kq k).2.2.1 = 4 ∨ (ob_kq k).2.2.1 = 6 := by decide +kernel
theorem ob_arrof {s : State} {cA : ClassId} {kA : Class} {comp : ClassId} {ty : FieldType} (h1 : s.vm.classes[cA]? = some kA) (h2 : kA.kind = .array comp ty) : ArrOfT s cA ty := by
  intro n z
  exact ⟨(fun q => by intro h; cases h), kA, h1, comp, h2⟩
set_option maxRecDepth 100000 in
theorem ob_AOw0 : Cond.arrayOver (.object "OrganBarrel$Barrel") ∈ lw_tbl := List.mem_of_getElem? (i := 279) rfl
set_option maxRecDepth 100000 in
theorem ob_AOw3 : Cond.arrayOver (.object "OrganBarrel$Notes") ∈ lw_tbl := List.mem_of_getElem? (i := 137) rfl
set_option maxRecDepth 100000 in
theorem ob_AOw5 : Cond.arrayOver (.object "OrganBarrel$Pins") ∈ lw_tbl := List.mem_of_getElem? (i := 139) rfl
theorem ob_m0_r {L : Nat} {xs : Nat → Int32} (hL : L ≤ 2560) (k : Nat) (i s : Int) : ob_r32 (ob_m0 L xs k i s) := by
  unfold ob_m0
  split
  · exact ob_i_r _
  · split
    · exact ⟨by omega, by omega⟩
    · exact ob_r0
set_option maxHeartbeats 4000000 in
set_option maxRecDepth 100000 in
theorem ob_whole (hO : ob_Owed) {p : Program} {e : Env} {s : State} {m : MethodId} {below : List Frame} {meth : Method} {c : Code} (l : Launch) {b L : Nat} {xs : Nat → Int32} (hL : L ≤ 2560) (C0 : lw_At p s m meth c b L xs) : W p l e room_1 s m #[Value.ref b] below meth c s.heap [] 0 0 (lw_Z below #[Value.ref b] s) (entryFrame m ([Value.ref b] : List Value).toArray 4) := by
  obtain ⟨hx, hb, hr, hml, hown, hts, hX, hbl, hlocks, hgv⟩ := id C0
  have hg : ∀ x ∈ ob_gt, x.before #[Value.ref b] s = true := fun x h => hts x (List.mem_filter.mp h).1
  have hcls : ∀ t : Nat, ∃ q : ClassId × (Nat → Nat), t ≤ 8 → u_Kn s (ob_cn t) (ob_TT t) (ob_ns t) q.1 q.2 := by
    intro t
    by_cases h8 : t ≤ 8
    · obtain ⟨cC, iS, hK⟩ := u_known (C := ob_cn t) (T := ob_TT t) (N := ob_ns t) hg (ob_lays9 h8) (hg _ (ob_isl (by omega)))
      exact ⟨(cC, iS), fun _ => hK⟩
    · exact ⟨(0, fun _ => 0), fun h => absurd h h8⟩
  obtain ⟨F, hF⟩ := Classical.skolem.mp hcls
  have hprim : ∀ ty : FieldType, Cond.arrayClass ty ∈ ob_gt → (∀ cA : ClassId, s.vm.findClass ("[" ++ ty.toString) = some cA → va_RA s cA ty) → ∃ cA : ClassId, ArrOfT s cA ty ∧ va_RA s cA ty := by
    intro ty hw hra
    obtain ⟨cA, kA, comp, f1, f2, f3⟩ := Cond.arrayClass_spec (hg _ hw)
    exact ⟨cA, ob_arrof f2 f3, hra _ f1⟩
  have hobj : ∀ C : String, Cond.arrayOver (.object C) ∈ lw_tbl → ∃ cA : ClassId, ArrOfT s cA (.object C) ∧ va_RA s cA (.object C) := by
    intro C hw
    obtain ⟨comp, cA, kA, f1, f2, f3, f4, f5⟩ := Cond.arrayOver_spec (hts _ hw)
    exact ⟨cA, ob_arrof f3 f4, kA, comp, f3, f4, f1, f5⟩
  have harr : ∀ a : Nat, ∃ cA : ClassId, (a = 0 ∨ a = 1 ∨ a = 2 ∨ a = 4 ∨ a = 7 ∨ a = 9) → ArrOfT s cA (ob_atya a) ∧ va_RA s cA (ob_atya a) := by
    intro a
    by_cases h : a = 0 ∨ a = 1 ∨ a = 2 ∨ a = 4 ∨ a = 7 ∨ a = 9
    · rcases h with rfl | rfl | rfl | rfl | rfl | rfl
      · obtain ⟨cA, h⟩ := hprim .int ob_ac_i (fun _ q => q)
        exact ⟨cA, fun _ => h⟩
      · obtain ⟨cA, h⟩ := hprim .boolean ob_ac_z (fun _ q => q)
        exact ⟨cA, fun _ => h⟩
      · obtain ⟨cA, h⟩ := hprim .byte ob_ac_b (fun _ q => q)
        exact ⟨cA, fun _ => h⟩
      · obtain ⟨cA, h⟩ := hobj _ ob_AOw0
        exact ⟨cA, fun _ => h⟩
      · obtain ⟨cA, h⟩ := hobj _ ob_AOw3
        exact ⟨cA, fun _ => h⟩
      · obtain ⟨cA, h⟩ := hobj _ ob_AOw5
        exact ⟨cA, fun _ => h⟩
    · exact ⟨0, fun q => absurd q h⟩
  obtain ⟨A, hA⟩ := Classical.skolem.mp harr
  have hKK : ob_KK (b, L, s.heap.size, xs, (fun t => (F t).1), (fun t => (F t).2), A) s := by
    refine ⟨⟨fun t q hq => ?_, fun k q h => by simp at h⟩, fun k h1 h2 => ?_, fun q hq => ?_, fun k h1 h2 h3 => ?_⟩
    · have ht : t ≤ 8 := by
        have : t < 9 := (List.getElem?_eq_some_iff.mp hq).1
        omega
      rw [ob_clk t ht] at hq
      cases hq
      exact hF t ht
    · have q := ob_aty_a k h2 h1
      rw [q.1]
      exact hA _ q.2
    · exact va_Nw.of rfl (hts _ (List.mem_of_getElem? (ob_MNk q hq)))
    · rcases ob_AO_k k h2 h1 h3 with e | e | e
      · rw [e]
        exact va_AO.of (hts _ ob_AOw0)
      · rw [e]
        exact va_AO.of (hts _ ob_AOw3)
      · rw [e]
        exact va_AO.of (hts _ ob_AOw5)
  generalize hw : ((b, L, s.heap.size, xs, (fun t => (F t).1), (fun t => (F t).2), A) : ob_Wd) = w at hKK
  have wb : ob_b w = b := by rw [← hw]
  have wL : ob_L w = L := by rw [← hw]
  have wz : ob_sz w = s.heap.size := by rw [← hw]
  have wx : ob_xs w = xs := by rw [← hw]
  obtain ⟨mF, hE⟩ := hO L xs hL
  obtain ⟨n, hn⟩ := ob_E_to hE
  have hcx : ob_Cx w p room_1 s m #[Value.ref b] meth c 238 := by
    refine ⟨hx, hb, hml, hown, hg, hlocks, hr, fun q => absurd rfl q, hKK, by rw [wb, wL, wx]; exact hX, ⟨by rw [wb, wz]; exact hbl, by rw [wz]; exact Nat.le_refl _⟩, by decide, by decide⟩
  have K := ob_snd w n 238 0 _ [] _ 1 (mF, none) hn p l e room_1 s m #[Value.ref b] below meth c (lw_Z below #[Value.ref b] s) 0 0 hcx (show ob_layN ≤ 600000 + 0 from Nat.le_of_ble_eq_true rfl) (show ob_sltN ≤ 7302250 + 0 from Nat.le_of_ble_eq_true rfl) ?_
  · have hl := lv_entry ([.ref b]) (n := 4) (Nat.le_of_ble_eq_true rfl)
    rw [lg_entry_eq]
    generalize (lg_sl ([.ref b]) ++ List.replicate (4 - (lg_sl ([.ref b])).length) Slot.unset).toArray = LS at hl ⊢
    refine K LS s.heap [] ⟨⟨by rw [wz]; rfl, Nat.zero_le _, fun k i h => absurd h (Nat.not_lt_zero _), ob_m0_r hL, ⟨?_, fun j hj => ?_⟩, fun k i s h => absurd h (Nat.not_lt_zero _), fun C hC => ?_⟩, ⟨hl.1, hl.2.1, rfl, fun k hk => ?_⟩, (fun v hv => by cases hv), fun _ _ => rfl, (fun q hq => by cases hq), Nat.le_refl _, Nat.le_refl _⟩
    · rw [wL]
      show ob_m0 L xs 14 0 0 = _
      unfold ob_m0
      rw [if_neg (fun q => absurd q.1 (by decide)), if_pos ⟨rfl, rfl, rfl⟩]
    · rw [wL] at hj
      rw [wx]
      show ob_m0 L xs 15 0 (j : Int) = _
      unfold ob_m0
      rw [if_pos ⟨rfl, rfl, by omega, by omega⟩]
      rfl
    · cases hC
      refine ⟨(fun q hq => by cases hq), fun k i s h1 h2 _ => ?_⟩
      show ob_m0 L xs k i s = 0
      unfold ob_m0
      rw [if_neg (fun q => h2 q.1), if_neg (fun q => h1 q.1)]
    · match k, hk with
      | 0, _ =>
        refine ⟨?_, Or.inl ⟨rfl, rfl⟩⟩
        rw [show ob_cv w (ob_nth [(18, 0), (0, 0), (0, 0), (0, 0)] 0 (0, 0)) = Value.ref b from by rw [← wb]; rfl]
        exact lv_at hl 0 rfl
      | 1, h => exact absurd rfl h
      | 2, h => exact absurd rfl h
      | 3, h => exact absurd rfl h
      | k + 4, h => exact absurd (by rw [ob_nth_ge _ _ _ (by show 4 ≤ k + 4; omega)]) h
  · intro pc LS H locs hro hRp hfr hlo
    have hro : decode (ob_by 238) pc = .ok (.ireturn, 1) ∧ ((1 : Int) = 0 ∨ (1 : Int) = 1) := hro
    refine va_forget (fun q hq => by rw [← wz]; exact hlo q hq) ?_
    refine W.widen (k := 600000) (n := 7302250) (show ob_layN ≤ 600000 from Nat.le_of_ble_eq_true rfl) (show ob_sltN ≤ 7302250 from Nat.le_of_ble_eq_true rfl) ?_
    exact lw_ret hx hb hr hlocks hro.1
