-- WHAT HEAP THE ABSTRACT MEMORY STANDS FOR
abbrev ob_Wd : Type := Nat × Nat × Nat × (Nat → Int32) × (Nat → ClassId) × (Nat → Nat → Nat) × (Nat → ClassId)
abbrev ob_b (w : ob_Wd) : Nat := w.1
abbrev ob_L (w : ob_Wd) : Nat := w.2.1
abbrev ob_sz (w : ob_Wd) : Nat := w.2.2.1
abbrev ob_xs (w : ob_Wd) : Nat → Int32 := w.2.2.2.1
abbrev ob_dC (w : ob_Wd) : Nat → ClassId := w.2.2.2.2.1
abbrev ob_dI (w : ob_Wd) : Nat → Nat → Nat := w.2.2.2.2.2.1
abbrev ob_dA (w : ob_Wd) : Nat → ClassId := w.2.2.2.2.2.2
def ob_off (k : Nat) (i : Int) : Nat := ob_lay.findIdx (fun q => Nat.beq q.1 k && decide (q.2 = i))
theorem ob_lay_len : ob_lay.length = ob_layN := by decide +kernel
set_option maxRecDepth 1000000 in
theorem ob_lay_all : (List.range ob_layN).all (fun a => Nat.beq (ob_off (ob_nth ob_lay a (99, 0)).1 (ob_nth ob_lay a (99, 0)).2) a) = true := by decide +kernel
theorem ob_lay_k : ∀ q ∈ ob_lay, q.1 ≠ 14 ∧ q.1 ≠ 15 ∧ (q.1 ≤ 8 ∨ (16 ≤ q.1 ∧ q.1 < 57)) := by decide +kernel
theorem ob_nth_get {α : Type} (d : α) : ∀ (l : List α) (n : Nat), n < l.length → l[n]? = some (ob_nth l n d)
  | [], _, h => absurd h (Nat.not_lt_zero _)
  | a :: _, 0, _ => rfl
  | _ :: l, n + 1, h => by
    rw [List.getElem?_cons_succ]
    exact ob_nth_get d l n (Nat.lt_of_succ_lt_succ h)
theorem ob_nth_ge {α : Type} (d : α) : ∀ (l : List α) (n : Nat), l.length ≤ n → ob_nth l n d = d
  | [], _, _ => rfl
  | _ :: _, 0, h => absurd h (Nat.not_succ_le_zero _)
  | _ :: l, n + 1, h => ob_nth_ge d l n (Nat.le_of_succ_le_succ h)
theorem ob_nth_upd {α : Type} (d v : α) : ∀ (l : List α) (k n : Nat), k < l.length → ob_nth (ob_upd l k v) n d = if n = k then v else ob_nth l n d
  | [], _, _, h => absurd h (Nat.not_lt_zero _)
  | _ :: _, 0, 0, _ => rfl
  | _ :: _, 0, n + 1, _ => rfl
  | _ :: _, k + 1, 0, _ => rfl
  | _ :: l, k + 1, n + 1, h => by
    show ob_nth (ob_upd l k v) n d = _
    rw [ob_nth_upd d v l k n (Nat.lt_of_succ_lt_succ h)]
    by_cases e : n = k
    · rw [if_pos e, if_pos (by omega)]
    · rw [if_neg e, if_neg (by omega)]
      rfl
theorem ob_upd_len {α : Type} (v : α) : ∀ (l : List α) (k : Nat), (ob_upd l k v).length = l.length
  | [], _ => rfl
  | _ :: _, 0 => rfl
  | _ :: l, k + 1 => congrArg (· + 1) (ob_upd_len v l k)
theorem ob_off_get {k : Nat} {i : Int} (h : ob_off k i < ob_layN) : ob_lay[ob_off k i]? = some (k, i) := by
  rw [← ob_lay_len] at h
  have h1 := List.findIdx_getElem (w := h)
  simp only [Bool.and_eq_true, decide_eq_true_eq] at h1
  rw [List.getElem?_eq_getElem h]
  congr 1
  exact Prod.ext (Nat.eq_of_beq_eq_true h1.1) h1.2
theorem ob_off_mem {k : Nat} {i : Int} (h : ob_off k i < ob_layN) : (k, i) ∈ ob_lay := List.mem_of_getElem? (ob_off_get h)
theorem ob_off_inj {k k' : Nat} {i i' : Int} (h : ob_off k i < ob_layN) (e : ob_off k' i' = ob_off k i) : k' = k ∧ i' = i := by
  have h1 := ob_off_get h
  have h2 := ob_off_get (k := k') (i := i') (by rw [e]; exact h)
  rw [e] at h2
  have h3 := Option.some.inj (h2.symm.trans h1)
  exact ⟨congrArg Prod.fst h3, congrArg Prod.snd h3⟩
theorem ob_off_nth {a : Nat} (h : a < ob_layN) : ob_off (ob_nth ob_lay a (99, 0)).1 (ob_nth ob_lay a (99, 0)).2 = a := Nat.eq_of_beq_eq_true (List.all_eq_true.mp ob_lay_all a (List.mem_range.mpr h))
def ob_ad (w : ob_Wd) (k : Nat) (i : Int) : Nat := cond (Nat.beq k 15) (ob_b w) (ob_sz w + ob_off k i)
theorem ob_ad_n {w : ob_Wd} {k : Nat} {i : Int} (h : k ≠ 15) : ob_ad w k i = ob_sz w + ob_off k i := by
  unfold ob_ad
  rw [show Nat.beq k 15 = false from by
    cases e : Nat.beq k 15
    · rfl
    · exact absurd (Nat.eq_of_beq_eq_true e) h]
  rfl
def ob_cv (w : ob_Wd) : ob_AV → Value
  | (0, _) => .null
  | (1, a) => .int (Int32.ofInt a)
  | (2, a) => .long (Int64.ofInt a)
  | (t + 3, i) => .ref (ob_ad w t i)
def ob_nA (mm : ob_MM) : Nat := match mm.2 with
  | none => ob_layN
  | some C => C.1
def ob_nS (mm : ob_MM) : Nat := match mm.2 with
  | none => ob_sltN
  | some C => C.2.1
def ob_pr (n k : Nat) (i : Int) : Prop := (k = 15 ∧ i = 0) ∨ (k ≠ 15 ∧ ob_off k i < n)
def ob_okv (n : Nat) : ob_AV → Prop
  | (0, _) => False
  | (1, a) => ob_r32 a
  | (2, a) => ob_r64 a
  | (t + 3, i) => ob_pr n t i
theorem ob_okv_le {n n' : Nat} (h : n ≤ n') : ∀ {v : ob_AV}, ob_okv n v → ob_okv n' v
  | (0, _), q => q
  | (1, _), q => q
  | (2, _), q => q
  | (_ + 3, _), q => q.elim Or.inl (fun q => Or.inr ⟨q.1, Nat.lt_of_lt_of_le q.2 h⟩)
def ob_sk (k s : Nat) : Nat × Nat := cond (Nat.ble k 8) ((ob_ftq k s).1, (ob_ftq k s).2.1) ((ob_kq k).2.2.1, (ob_kq k).2.2.2)
def ob_ns (k : Nat) : Nat := cond (Nat.ble k 8) (ob_nth ob_ft k []).length (ob_kq k).1.toNat
def ob_vl (w : ob_Wd) (mm : ob_MM) (k : Nat) (i : Int) (s : Nat) : Value := match ob_sk k s with
  | (0, _) => .int (Int32.ofInt (mm.1 k i (s : Int)))
  | (tk + 1, md) => cond (ob_ini mm.2 k i (s : Int)) (.ref (ob_ad w tk (ob_tg mm.1 md k i (s : Int)))) .null
def ob_ai (k : Nat) : Nat := (ob_kq k).2.1 + (ob_kq k).2.2.1
def ob_aty (k : Nat) : FieldType := match (ob_kq k).2.1 with
  | 0 => .int
  | 1 => .boolean
  | 2 => .byte
  | _ => .object (ob_cn ((ob_kq k).2.2.1 - 1))
def ob_Cel (w : ob_Wd) (mm : ob_MM) (k : Nat) (i : Int) (H : Heap) : Prop := (k ≤ 8 → t_OB (ob_sz w + ob_off k i) (ob_dC w k) (ob_ns k) (ob_dI w k) H (ob_vl w mm k i)) ∧ (¬ k ≤ 8 → H[ob_sz w + ob_off k i]? = some (arrV (ob_dA w (ob_ai k)) (ob_ns k) (ob_vl w mm k i)))
def ob_Rep (w : ob_Wd) (mm : ob_MM) (H : Heap) : Prop :=
  H.size = ob_sz w + ob_nA mm ∧ ob_nA mm ≤ ob_layN ∧
  (∀ (k : Nat) (i : Int), ob_off k i < ob_nA mm → ob_Cel w mm k i H) ∧
  (∀ (k : Nat) (i s : Int), ob_r32 (mm.1 k i s)) ∧
  (mm.1 14 0 0 = (ob_L w : Int) ∧ ∀ j : Nat, j < ob_L w → mm.1 15 0 (j : Int) = (ob_xs w j).toInt) ∧
  (∀ (k : Nat) (i : Int) (s : Nat), ob_off k i < ob_nA mm → s < ob_ns k → ∀ tk md, ob_sk k s = (tk + 1, md) → ob_ini mm.2 k i (s : Int) = true → tk ≠ 15 ∧ ob_off tk (ob_tg mm.1 md k i (s : Int)) < ob_nA mm) ∧
  (∀ C, mm.2 = some C → (∀ q ∈ C.2.2, ob_off q.1 q.2.1 < C.1) ∧ ∀ (k : Nat) (i s : Int), k ≠ 14 → k ≠ 15 → C.1 ≤ ob_off k i → mm.1 k i s = 0)
theorem ob_tg_c {m m' : ob_Mem} {md k : Nat} {i s : Int} (h : m' k i s = m k i s) : ob_tg m' md k i s = ob_tg m md k i s := by
  unfold ob_tg
  split
  · exact h
  all_goals rfl
theorem ob_vl_c {w : ob_Wd} {mm mm' : ob_MM} {k : Nat} {i : Int} {s : Nat} (h : mm'.1 k i s = mm.1 k i s) (h2 : ob_ini mm'.2 k i s = ob_ini mm.2 k i s) : ob_vl w mm' k i s = ob_vl w mm k i s := by
  unfold ob_vl
  split
  · rw [h]
  · rw [h2, ob_tg_c h]
theorem ob_Cel_c {w : ob_Wd} {mm mm' : ob_MM} {k : Nat} {i : Int} {H H' : Heap} (h : ob_Cel w mm k i H) (hv : ∀ s : Nat, ob_vl w mm' k i s = ob_vl w mm k i s) (hH : H'[ob_sz w + ob_off k i]? = H[ob_sz w + ob_off k i]?) : ob_Cel w mm' k i H' := by
  refine ⟨fun q => ((h.1 q).kept hH).to (fun j _ => (hv j).symm), fun q => ?_⟩
  rw [hH, h.2 q]
  congr 2
  exact (funext hv).symm
theorem ob_Rep_upd {w : ob_Wd} {mm mm' : ob_MM} {H H' : Heap} {k : Nat} {i : Int} (h : ob_Rep w mm H) (hk : ob_off k i < ob_nA mm) (hsz : H'.size = H.size) (ho : ∀ q : Nat, q ≠ ob_sz w + ob_off k i → H'[q]? = H[q]?) (hc : ob_Cel w mm' k i H') (hm : ∀ (k' : Nat) (i' s' : Int), ¬ (k' = k ∧ i' = i) → mm'.1 k' i' s' = mm.1 k' i' s')
    (hi : ∀ (k' : Nat) (i' s' : Int), ¬ (k' = k ∧ i' = i) → ob_ini mm'.2 k' i' s' = ob_ini mm.2 k' i' s') (hr : ∀ s : Int, ob_r32 (mm'.1 k i s)) (hn : ob_nA mm' = ob_nA mm)
    (href : ∀ s : Nat, s < ob_ns k → ∀ tk md, ob_sk k s = (tk + 1, md) → ob_ini mm'.2 k i (s : Int) = true → tk ≠ 15 ∧ ob_off tk (ob_tg mm'.1 md k i (s : Int)) < ob_nA mm)
    (hC : ∀ C', mm'.2 = some C' → ∃ C, mm.2 = some C ∧ C'.1 = C.1 ∧ ∀ q ∈ C'.2.2, q ∈ C.2.2 ∨ (q.1 = k ∧ q.2.1 = i)) : ob_Rep w mm' H' := by
  obtain ⟨r1, r2, r3, r4, r5, r6, r7⟩ := h
  have hkl : ob_off k i < ob_layN := Nat.lt_of_lt_of_le hk r2
  have hkk := ob_lay_k _ (ob_off_mem hkl)
  have e14 : ¬ ((14 : Nat) = k ∧ (0 : Int) = i) := fun q => hkk.1 q.1.symm
  have e15 : ¬ ((15 : Nat) = k ∧ (0 : Int) = i) := fun q => hkk.2.1 q.1.symm
  have hne : ∀ (k' : Nat) (i' : Int), ¬ (k' = k ∧ i' = i) → ob_sz w + ob_off k' i' ≠ ob_sz w + ob_off k i := by
    intro k' i' hn e
    exact hn (ob_off_inj hkl (by omega))
  refine ⟨by rw [hsz, hn]; exact r1, by rw [hn]; exact r2, ?_, ?_, ?_, ?_, ?_⟩
  · intro k' i' h'
    rw [hn] at h'
    by_cases c : k' = k ∧ i' = i
    · obtain ⟨rfl, rfl⟩ := c
      exact hc
    · exact ob_Cel_c (r3 k' i' h') (fun s => ob_vl_c (hm k' i' s c) (hi k' i' s c)) (ho _ (hne k' i' c))
  · intro k' i' s'
    by_cases c : k' = k ∧ i' = i
    · obtain ⟨rfl, rfl⟩ := c
      exact hr s'
    · rw [hm k' i' s' c]
      exact r4 k' i' s'
  · refine ⟨by rw [hm 14 0 0 e14]; exact r5.1, fun j hj => by rw [hm 15 0 j e15]; exact r5.2 j hj⟩
  · intro k' i' s' h' hs tk md hsk hini
    rw [hn] at h' ⊢
    by_cases c : k' = k ∧ i' = i
    · obtain ⟨rfl, rfl⟩ := c
      exact href s' hs tk md hsk hini
    · rw [hi k' i' s' c] at hini
      rw [ob_tg_c (hm k' i' s' c)]
      exact r6 k' i' s' h' hs tk md hsk hini
  · intro C' hC'
    obtain ⟨C, h1, h2, h3⟩ := hC C' hC'
    have hnA : ob_nA mm = C.1 := by unfold ob_nA; rw [h1]
    obtain ⟨g1, g2⟩ := r7 C h1
    refine ⟨fun q hq => ?_, fun k' i' s' n1 n2 hle => ?_⟩
    · rw [h2]
      rcases h3 q hq with z | ⟨z1, z2⟩
      · exact g1 q z
      · rw [z1, z2, ← hnA]
        exact hk
    · rw [h2] at hle
      by_cases c : k' = k ∧ i' = i
      · obtain ⟨rfl, rfl⟩ := c
        omega
      · rw [hm k' i' s' c]
        exact g2 k' i' s' n1 n2 hle
