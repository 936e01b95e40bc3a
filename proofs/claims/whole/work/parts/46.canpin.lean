-- THE MODEL: isFree, canPin
def uB (s : Int → Int) (t i d : Int) (u : Nat) : Option Nat := if (u : Int) ≠ t ∧ s (12 + 116 * (u : Int) + 39) = 1 then fnd (sB s t i d u) (s (12 + 116 * (u : Int) + 43)).toNat 0 else none
def iB (s : Int → Int) (t d : Int) (i : Nat) : Option Nat := fnd (fun u => (uB s t i d u).isSome) (s 2).toNat 0
/-- what is in the way of a tune by a shift: the note, 16 u and j -/
def fq (s : Int → Int) (t d : Int) : Option (Int × Int) := match fnd (fun i => (iB s t d i).isSome) (s (12 + 116 * t + 2)).toNat 0 with
  | none => none
  | some i => match iB s t d i with
    | none => none
    | some u => some ((i : Int), 16 * (u : Int) + oI (uB s t i d u))
def SV (s : Int → Int) : Prop := (6 ≤ s 0 ∧ s 0 ≤ 24) ∧ (1 ≤ s 1 ∧ s 1 ≤ 6) ∧ (2 ≤ s 2 ∧ s 2 ≤ 3) ∧ (0 ≤ s 3 ∧ s 3 ≤ 2) ∧ (0 ≤ s 4 ∧ s 4 ≤ 3) ∧ (1 ≤ s 5 ∧ s 5 ≤ 99) ∧ (∀ t : Int, 0 ≤ t → t < 3 → TV s t) ∧ (∀ u : Int, 0 ≤ u → u < 3 → s (12 + 116 * u + 39) = 1 → PV s u)
theorem oI_s {B : Nat → Bool} {k n : Nat} : (fnd B k n).isSome = true → oI (fnd B k n) ≠ -1 ∧ 0 ≤ oI (fnd B k n) ∧ oI (fnd B k n) < (n : Int) + k := by
  intro h
  cases e : fnd B k n with
  | none => rw [e] at h; cases h
  | some j =>
    have q := fnd_some e
    show ((j : Nat) : Int) ≠ -1 ∧ 0 ≤ ((j : Nat) : Int) ∧ ((j : Nat) : Int) < (n : Int) + k
    omega
theorem md_strange (m : ob_Mem) {t i d u : Int} (hs : SV (m 40 0)) (hv : NV (m 40 0) t i) (hd1 : 0 ≤ d ∧ d < m 40 0 0) (hu : PV (m 40 0) u) : ob_E (182, 0, [(11, 0), (1, t), (1, i), (1, d), (1, u), (0, 0), (0, 0)], [], (m, none)) = some (oI (fnd (sB (m 40 0) t i d u) (m 40 0 (12 + 116 * u + 43)).toNat 0), (m, none)) := by
  rw [sg_X8_strange_0]
  exact md_strange_loop m hv hd1 hs.2.2.1 hs.2.2.2.2.1 hu _ 0 _ (by omega)
set_option maxRecDepth 100000 in
theorem md_free_in (m : ob_Mem) {t i d : Int} (hs : SV (m 40 0)) (hv : NV (m 40 0) t i) (hd1 : 0 ≤ d ∧ d < m 40 0 0) : ∀ (k n : Nat) (x : ob_AV), n + k = (m 40 0 2).toNat →
    (∀ u, fnd (fun u => (uB (m 40 0) t i d u).isSome) k n = some u → ob_E (183, 15, [(11, 0), (1, t), (1, d), (1, i), (1, (n : Int)), x, (0, 0)], [], (m, none)) = some (0, (bec m 2 i (16 * (u : Int) + oI (uB (m 40 0) t i d u)), none))) ∧
    (fnd (fun u => (uB (m 40 0) t i d u).isSome) k n = none → ∃ y z : ob_AV, ob_E (183, 15, [(11, 0), (1, t), (1, d), (1, i), (1, (n : Int)), x, (0, 0)], [], (m, none)) = ob_E (183, 2, [(11, 0), (1, t), (1, d), (1, ob_wr (i + 1)), y, z, (0, 0)], [], (m, none))) := by
  obtain ⟨s1, s2, s3, s4, s5, s6, s7, s8⟩ := id hs
  obtain ⟨v1, v2, -⟩ := id hv
  intro k
  induction k with
  | zero =>
    intro n x hn
    refine ⟨fun u h => (by cases h), fun _ => ⟨(1, (n : Int)), x, ?_⟩⟩
    simp only [sg_X8_isFree_15, md_tunes, Option.bind_some, sg_X8_isFree_21]
    rw [if_neg (by omega)]
  | succ k ih =>
    intro n x hn
    have e1 : ((n : Int) + 1) = ((n + 1 : Nat) : Int) := by omega
    have hw : ob_wr ((n : Int) + 1) = ((n + 1 : Nat) : Int) := by rw [ob_wr_id (by omega) (by omega), e1]
    have step : ((uB (m 40 0) t i d n).isSome = false → ∃ x', ob_E (183, 15, [(11, 0), (1, t), (1, d), (1, i), (1, (n : Int)), x, (0, 0)], [], (m, none)) = ob_E (183, 15, [(11, 0), (1, t), (1, d), (1, i), (1, ((n + 1 : Nat) : Int)), x', (0, 0)], [], (m, none))) ∧ ((uB (m 40 0) t i d n).isSome = true → ob_E (183, 15, [(11, 0), (1, t), (1, d), (1, i), (1, (n : Int)), x, (0, 0)], [], (m, none)) = some (0, (bec m 2 i (16 * (n : Int) + oI (uB (m 40 0) t i d n)), none))) := by
      have key : ob_E (183, 15, [(11, 0), (1, t), (1, d), (1, i), (1, (n : Int)), x, (0, 0)], [], (m, none)) = (if (n : Int) = t then ob_E (183, 51, [(11, 0), (1, t), (1, d), (1, i), (1, (n : Int)), x, (0, 0)], [], (m, none)) else ((ob_E (144, 0, [(11, 0), (1, (n : Int))], [], (m, none))).bind fun q => ob_E (183, 36, [(11, 0), (1, t), (1, d), (1, i), (1, (n : Int)), x, (0, 0)], [(1, q.1)], q.2))) := by
        rw [sg_X8_isFree_15, md_tunes]
        simp only [Option.bind_some]
        rw [sg_X8_isFree_21, if_pos (by omega)]
      rw [key]
      clear key
      by_cases c1 : (n : Int) = t
      · have hu0 : uB (m 40 0) t i d n = none := if_neg (fun z => z.1 c1)
        rw [if_pos c1, hu0]
        refine ⟨fun _ => ⟨(1, -1), ?_⟩, fun h => by cases h⟩
        simp only [sg_X8_isFree_51, sg_X8_isFree_52, if_true, hw]
      · rw [if_neg c1, md_isPinned m (by omega) (by omega)]
        simp only [Option.bind_some, sg_X8_isFree_36]
        by_cases c2 : m 40 0 (12 + 116 * (n : Int) + 39) = 1
        · have hu0 : uB (m 40 0) t i d n = fnd (sB (m 40 0) t i d n) (m 40 0 (12 + 116 * (n : Int) + 43)).toNat 0 := if_pos ⟨c1, c2⟩
          rw [if_pos c2, if_neg (by omega), md_strange m hs hv hd1 (s8 n (by omega) (by omega) c2), hu0]
          have hpv := s8 n (by omega) (by omega) c2
          simp only [Option.bind_some, sg_X8_isFree_48, sg_X8_isFree_52]
          refine ⟨fun hno => ?_, fun hso => ?_⟩
          · have hnn : fnd (sB (m 40 0) t i d n) (m 40 0 (12 + 116 * (n : Int) + 43)).toNat 0 = none := by
              cases e : fnd (sB (m 40 0) t i d n) (m 40 0 (12 + 116 * (n : Int) + 43)).toNat 0 with
              | none => rfl
              | some j => rw [e] at hno; cases hno
            rw [hnn]
            exact ⟨(1, -1), by simp only [oI, if_true, hw]⟩
          · obtain ⟨q1, q2, q3⟩ := oI_s hso
            have q4 := hpv.2.1
            rw [if_neg q1, ob_wr_id (x := 16 * (n : Int)) (by omega) (by omega), ob_wr_id (by omega) (by omega)]
            simp only [md_because, Option.bind_some, sg_X8_isFree_74]
            rfl
        · have hu0 : uB (m 40 0) t i d n = none := if_neg (fun z => c2 z.2)
          rw [if_neg c2, if_pos rfl, hu0]
          refine ⟨fun _ => ⟨(1, -1), ?_⟩, fun h => by cases h⟩
          simp only [sg_X8_isFree_51, sg_X8_isFree_52, if_true, hw]
    cases c : (uB (m 40 0) t i d n).isSome with
    | true =>
      refine ⟨fun u h => ?_, fun h => ?_⟩
      · have h : (if (uB (m 40 0) t i d n).isSome = true then some n else fnd (fun u => (uB (m 40 0) t i d u).isSome) k (n + 1)) = some u := h
        rw [if_pos c] at h
        cases h
        exact step.2 c
      · have h : (if (uB (m 40 0) t i d n).isSome = true then some n else fnd (fun u => (uB (m 40 0) t i d u).isSome) k (n + 1)) = none := h
        rw [if_pos c] at h
        cases h
    | false =>
      obtain ⟨x', hx'⟩ := step.1 c
      have q := ih (n + 1) x' (by omega)
      have hf : fnd (fun u => (uB (m 40 0) t i d u).isSome) (k + 1) n = fnd (fun u => (uB (m 40 0) t i d u).isSome) k (n + 1) := if_neg (by rw [c]; decide)
      rw [hx', hf]
      exact q
