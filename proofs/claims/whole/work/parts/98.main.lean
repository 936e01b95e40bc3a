-- FROM THE CONSTRUCTORS TO THE CLAIM
def ci_lk : List (Nat × Int × Int × Int) → Nat → Int → Int → Option Int
  | [], _, _, _ => none
  | q :: l, k, i, s => if k = q.1 ∧ i = q.2.1 ∧ s = q.2.2.1 then some q.2.2.2 else ci_lk l k i s
theorem ci_rd (m : ob_Mem) (k : Nat) (i s : Int) : ∀ l : List (Nat × Int × Int × Int), ci_ap l m k i s = (ci_lk l k i s).getD (m k i s)
  | [] => rfl
  | q :: l => by
    show ob_set (ci_ap l m) q.1 q.2.1 q.2.2.1 q.2.2.2 k i s = (if k = q.1 ∧ i = q.2.1 ∧ s = q.2.2.1 then some q.2.2.2 else ci_lk l k i s).getD (m k i s)
    unfold ob_set
    by_cases c : k = q.1 ∧ i = q.2.1 ∧ s = q.2.2.1
    · rw [if_pos c, if_pos c]
      rfl
    · rw [if_neg c, if_neg c]
      exact ci_rd m k i s l
theorem ci_nk (m : ob_Mem) (k : Nat) (i s : Int) : ∀ l : List (Nat × Int × Int × Int), (∀ q ∈ l, q.1 ≠ k) → ci_ap l m k i s = m k i s
  | [], _ => rfl
  | q :: l, h => by
    show ob_set (ci_ap l m) q.1 q.2.1 q.2.2.1 q.2.2.2 k i s = m k i s
    rw [rs_k (Ne.symm (h q List.mem_cons_self))]
    exact ci_nk m k i s l (fun q hq => h q (List.mem_cons_of_mem _ hq))
theorem ci_B40 : ∀ q ∈ ci_B, q.1 = 40 := by decide +kernel
theorem ci_row : ∀ n : Nat, n < 360 → (ci_lk ci_B 40 0 (n : Int)).getD 0 = beR 24 4 3 (n : Int) := by decide +kernel
/-- the memory behind the constructors -/
def ci_F (m0 m : ob_Mem) : Prop := (∀ k i s, k ≠ 40 → k ≠ 44 → m k i s = ci_ap ci_L m0 k i s) ∧ (∀ s, s ≠ 3 → m 44 0 s = ci_ap ci_L m0 44 0 s) ∧ m 44 0 3 = -1 ∧ ∀ p, 0 ≤ p → p < 360 → m 40 0 p = beR 24 4 3 p
theorem ci_start (m0 : ob_Mem) : ∃ m, ci_F m0 m ∧ ob_E (238, 0, [(18, 0), (0, 0), (0, 0), (0, 0)], [], (m0, some (0, 0, []))) = ob_E (238, 18, [(18, 0), (10, 0), (11, 0), (1, 0)], [], (m, none)) := by
  obtain ⟨m1, a, b, c⟩ := cb_loop ci_R22 360 0 (ci_ap ci_L m0) (by omega) (by omega)
  refine ⟨ob_set (ci_ap ci_B m1) 44 0 3 (-1), ⟨fun k i s h1 h2 => ?_, fun s h => ?_, rs_e rfl rfl, fun p h1 h2 => ?_⟩, ?_⟩
  · rw [rs_k h2, ci_nk _ _ _ _ _ (fun q hq => by rw [ci_B40 q hq]; exact Ne.symm h1), a _ _ _ h1]
  · rw [rs_s h, ci_nk _ _ _ _ _ (fun q hq => by rw [ci_B40 q hq]; omega), a _ _ _ (by omega)]
  · rw [rs_k (by omega), ci_rd, b p (fun x y z => by omega) h1 h2]
    have e := ci_row p.toNat (by omega)
    rw [show ((p.toNat : Nat) : Int) = p by omega] at e
    exact e
  · rw [cl_0, cl_3, ct_OB, Option.bind_some, cl_7, cl_11, cm_0, cb_0, c, cb_25, Option.bind_some, cm_148, Option.bind_some, cl_15, cl_17 _ _ ci_full]
theorem ci_inv {L : Nat} {xs : Nat → Int32} {m : ob_Mem} (h : ci_F (ob_m0 L xs) m) : Inv 0 m := by
  obtain ⟨f1, f2, f3, s0⟩ := h
  have z : ∀ k i s, k ≠ 14 → k ≠ 15 → ob_m0 L xs k i s = 0 := fun k i s a b => by
    unfold ob_m0
    rw [if_neg (fun q => b q.1), if_neg (fun q => a q.1)]
  have r : ∀ k i s v, (ci_lk ci_L k i s).getD 0 = v → k ≠ 14 → k ≠ 15 → k ≠ 40 → k ≠ 44 → m k i s = v := fun k i s v e a b c d => by
    rw [f1 k i s c d, ci_rd, z k i s a b, e]
  have r4 : ∀ s, s ≠ 3 → (ci_lk ci_L 44 0 s).getD 0 = 0 → m 44 0 s = 0 := fun s c e => by
    rw [f2 s c, ci_rd, z 44 0 s (by omega) (by omega), e]
  have s : ∀ p v, 0 ≤ p → p < 360 → beR 24 4 3 p = v → m 40 0 p = v := fun p v a b e => by
    rw [s0 p a b, e]
  have z3 : m 8 0 3 = 0 := r 8 0 3 0 (by decide +kernel) (by omega) (by omega) (by omega) (by omega)
  have z22 : m 8 0 22 = 0 := r 8 0 22 0 (by decide +kernel) (by omega) (by omega) (by omega) (by omega)
  have b0 : m 7 0 0 = 0 := r 7 0 0 0 (by decide +kernel) (by omega) (by omega) (by omega) (by omega)
  have b1 : m 7 0 1 = 1 := r 7 0 1 1 (by decide +kernel) (by omega) (by omega) (by omega) (by omega)
  have k0 : m 39 0 0 = 2 := r 39 0 0 2 (by decide +kernel) (by omega) (by omega) (by omega) (by omega)
  have k1 : m 39 0 1 = 3 := r 39 0 1 3 (by decide +kernel) (by omega) (by omega) (by omega) (by omega)
  have k2 : m 39 0 2 = 4 := r 39 0 2 4 (by decide +kernel) (by omega) (by omega) (by omega) (by omega)
  have k3 : m 39 0 3 = 5 := r 39 0 3 5 (by decide +kernel) (by omega) (by omega) (by omega) (by omega)
  have k4 : m 39 0 4 = 6 := r 39 0 4 6 (by decide +kernel) (by omega) (by omega) (by omega) (by omega)
  have hb : ∀ x, 0 ≤ x → x < 7 → bi m x = x := fun x a b => by
    obtain e | e | e | e | e | e | e : x = 0 ∨ x = 1 ∨ x = 2 ∨ x = 3 ∨ x = 4 ∨ x = 5 ∨ x = 6 := by omega
    · subst e
      exact b0
    · subst e
      exact b1
    · subst e
      exact k0
    · subst e
      exact k1
    · subst e
      exact k2
    · subst e
      exact k3
    · subst e
      exact k4
  have hR : Rep m 0 (m 40 0) := by
    refine ⟨⟨(r 0 0 0 24 (by decide +kernel) (by omega) (by omega) (by omega) (by omega)).trans (s 0 24 (by omega) (by omega) (by decide +kernel)).symm, (r 0 0 1 4 (by decide +kernel) (by omega) (by omega) (by omega) (by omega)).trans (s 1 4 (by omega) (by omega) (by decide +kernel)).symm, (r 0 0 2 3 (by decide +kernel) (by omega) (by omega) (by omega) (by omega)).trans (s 2 3 (by omega) (by omega) (by decide +kernel)).symm, (r 0 0 3 0 (by decide +kernel) (by omega) (by omega) (by omega) (by omega)).trans (s 3 0 (by omega) (by omega) (by decide +kernel)).symm, (r 0 0 4 1 (by decide +kernel) (by omega) (by omega) (by omega) (by omega)).trans (s 4 1 (by omega) (by omega) (by decide +kernel)).symm, (r 0 0 5 20 (by decide +kernel) (by omega) (by omega) (by omega) (by omega)).trans (s 5 20 (by omega) (by omega) (by decide +kernel)).symm⟩, fun k a b => ?_, fun t a b => ?_⟩
    · obtain e | e | e | e | e | e : k = 0 ∨ k = 1 ∨ k = 2 ∨ k = 3 ∨ k = 4 ∨ k = 5 := by omega
      · subst e
        exact (r 16 0 0 1 (by decide +kernel) (by omega) (by omega) (by omega) (by omega)).trans (s (6 + 0) 1 (by omega) (by omega) (by decide +kernel)).symm
      · subst e
        exact (r 16 0 1 1 (by decide +kernel) (by omega) (by omega) (by omega) (by omega)).trans (s (6 + 1) 1 (by omega) (by omega) (by decide +kernel)).symm
      · subst e
        exact (r 16 0 2 1 (by decide +kernel) (by omega) (by omega) (by omega) (by omega)).trans (s (6 + 2) 1 (by omega) (by omega) (by decide +kernel)).symm
      · subst e
        exact (r 16 0 3 1 (by decide +kernel) (by omega) (by omega) (by omega) (by omega)).trans (s (6 + 3) 1 (by omega) (by omega) (by decide +kernel)).symm
      · subst e
        exact (r 16 0 4 1 (by decide +kernel) (by omega) (by omega) (by omega) (by omega)).trans (s (6 + 4) 1 (by omega) (by omega) (by decide +kernel)).symm
      · subst e
        exact (r 16 0 5 1 (by decide +kernel) (by omega) (by omega) (by omega) (by omega)).trans (s (6 + 5) 1 (by omega) (by omega) (by decide +kernel)).symm
    · obtain e | e | e : t = 0 ∨ t = 1 ∨ t = 2 := by omega
      · subst e
        have n2 : m 40 0 (12 + 116 * 0 + 2) = 0 := s (12 + 116 * 0 + 2) 0 (by omega) (by omega) (by decide +kernel)
        have n9 : m 40 0 (12 + 116 * 0 + 39) = 0 := s (12 + 116 * 0 + 39) 0 (by omega) (by omega) (by decide +kernel)
        refine ⟨⟨(r 3 (2 * (3 * 0 + 0)) 0 24 (by decide +kernel) (by omega) (by omega) (by omega) (by omega)).trans (s (12 + 116 * 0 + 0) 24 (by omega) (by omega) (by decide +kernel)).symm, (r 3 (2 * (3 * 0 + 0)) 1 0 (by decide +kernel) (by omega) (by omega) (by omega) (by omega)).trans (s (12 + 116 * 0 + 1) 0 (by omega) (by omega) (by decide +kernel)).symm, (r 3 (2 * (3 * 0 + 0)) 2 0 (by decide +kernel) (by omega) (by omega) (by omega) (by omega)).trans (s (12 + 116 * 0 + 2) 0 (by omega) (by omega) (by decide +kernel)).symm, fun i x y => ?_⟩, (r 5 (3 * 0 + 0) 0 0 (by decide +kernel) (by omega) (by omega) (by omega) (by omega)).trans (s (12 + 116 * 0 + 39) 0 (by omega) (by omega) (by decide +kernel)).symm, fun y => ?_⟩
        · have y' : i < m 40 0 (12 + 116 * 0 + 2) := y
          omega
        · have y' : m 40 0 (12 + 116 * 0 + 39) = 1 := y
          omega
      · subst e
        have n2 : m 40 0 (12 + 116 * 1 + 2) = 0 := s (12 + 116 * 1 + 2) 0 (by omega) (by omega) (by decide +kernel)
        have n9 : m 40 0 (12 + 116 * 1 + 39) = 0 := s (12 + 116 * 1 + 39) 0 (by omega) (by omega) (by decide +kernel)
        refine ⟨⟨(r 3 (2 * (3 * 0 + 1)) 0 24 (by decide +kernel) (by omega) (by omega) (by omega) (by omega)).trans (s (12 + 116 * 1 + 0) 24 (by omega) (by omega) (by decide +kernel)).symm, (r 3 (2 * (3 * 0 + 1)) 1 0 (by decide +kernel) (by omega) (by omega) (by omega) (by omega)).trans (s (12 + 116 * 1 + 1) 0 (by omega) (by omega) (by decide +kernel)).symm, (r 3 (2 * (3 * 0 + 1)) 2 0 (by decide +kernel) (by omega) (by omega) (by omega) (by omega)).trans (s (12 + 116 * 1 + 2) 0 (by omega) (by omega) (by decide +kernel)).symm, fun i x y => ?_⟩, (r 5 (3 * 0 + 1) 0 0 (by decide +kernel) (by omega) (by omega) (by omega) (by omega)).trans (s (12 + 116 * 1 + 39) 0 (by omega) (by omega) (by decide +kernel)).symm, fun y => ?_⟩
        · have y' : i < m 40 0 (12 + 116 * 1 + 2) := y
          omega
        · have y' : m 40 0 (12 + 116 * 1 + 39) = 1 := y
          omega
      · subst e
        have n2 : m 40 0 (12 + 116 * 2 + 2) = 0 := s (12 + 116 * 2 + 2) 0 (by omega) (by omega) (by decide +kernel)
        have n9 : m 40 0 (12 + 116 * 2 + 39) = 0 := s (12 + 116 * 2 + 39) 0 (by omega) (by omega) (by decide +kernel)
        refine ⟨⟨(r 3 (2 * (3 * 0 + 2)) 0 24 (by decide +kernel) (by omega) (by omega) (by omega) (by omega)).trans (s (12 + 116 * 2 + 0) 24 (by omega) (by omega) (by decide +kernel)).symm, (r 3 (2 * (3 * 0 + 2)) 1 0 (by decide +kernel) (by omega) (by omega) (by omega) (by omega)).trans (s (12 + 116 * 2 + 1) 0 (by omega) (by omega) (by decide +kernel)).symm, (r 3 (2 * (3 * 0 + 2)) 2 0 (by decide +kernel) (by omega) (by omega) (by omega) (by omega)).trans (s (12 + 116 * 2 + 2) 0 (by omega) (by omega) (by decide +kernel)).symm, fun i x y => ?_⟩, (r 5 (3 * 0 + 2) 0 0 (by decide +kernel) (by omega) (by omega) (by omega) (by omega)).trans (s (12 + 116 * 2 + 39) 0 (by omega) (by omega) (by decide +kernel)).symm, fun y => ?_⟩
        · have y' : i < m 40 0 (12 + 116 * 2 + 2) := y
          omega
        · have y' : m 40 0 (12 + 116 * 2 + 39) = 1 := y
          omega
  refine ⟨⟨⟨by omega, (r 7 0 3 0 (by decide +kernel) (by omega) (by omega) (by omega) (by omega)).trans z3.symm⟩, ⟨fun x a b => by rw [hb x a b]; exact ⟨a, b⟩, fun x y a b c d e => by rw [hb x a b, hb y c d]; exact e⟩, ⟨VV_beR (r := 24) (k := 4) (t := 3) (by omega) s0, by rw [b0]; exact hR⟩, fun i a b => by omega⟩, fun x a b => ?_, ⟨(r 2 0 1 0 (by decide +kernel) (by omega) (by omega) (by omega) (by omega)).trans (r4 0 (by omega) (by decide +kernel)).symm, (r 2 0 2 0 (by decide +kernel) (by omega) (by omega) (by omega) (by omega)).trans (r4 1 (by omega) (by decide +kernel)).symm, (r 2 0 3 0 (by decide +kernel) (by omega) (by omega) (by omega) (by omega)).trans (r4 2 (by omega) (by decide +kernel)).symm, (r 2 0 0 (-1) (by decide +kernel) (by omega) (by omega) (by omega) (by omega)).trans f3.symm⟩, ⟨(r 6 0 0 0 (by decide +kernel) (by omega) (by omega) (by omega) (by omega)).trans z22.symm, by omega, fun i a b => by omega⟩⟩
  obtain e | e | e : x = 8 ∨ x = 9 ∨ x = 10 := by omega
  · subst e
    exact (r 7 0 8 0 (by decide +kernel) (by omega) (by omega) (by omega) (by omega)).trans (r 43 0 (8 - 8) 0 (by decide +kernel) (by omega) (by omega) (by omega) (by omega)).symm
  · subst e
    exact (r 7 0 9 0 (by decide +kernel) (by omega) (by omega) (by omega) (by omega)).trans (r 43 0 (9 - 8) 0 (by decide +kernel) (by omega) (by omega) (by omega) (by omega)).symm
  · subst e
    exact (r 7 0 10 0 (by decide +kernel) (by omega) (by omega) (by omega) (by omega)).trans (r 43 0 (10 - 8) 0 (by decide +kernel) (by omega) (by omega) (by omega) (by omega)).symm
theorem ob_main : ob_Owed := by
  intro L xs hL
  obtain ⟨m, h, e⟩ := ci_start (ob_m0 L xs)
  have h14 : m 14 0 0 = (L : Int) := by
    rw [h.1 14 0 0 (by omega) (by omega), ci_rd, show ci_lk ci_L 14 0 0 = none by decide +kernel]
    show ob_m0 L xs 14 0 0 = (L : Int)
    unfold ob_m0
    rw [if_neg (fun q => by have := q.1; omega), if_pos ⟨rfl, rfl, rfl⟩]
  have hI : Inv (10 * 0) m := ci_inv h
  rw [e]
  exact law_loop (Ln := (L : Int)) (by omega) (L / 5) 0 m (by omega) (by omega) (by omega) h14 hI
