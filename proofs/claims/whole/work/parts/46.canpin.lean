-- THE MODEL: isFree, canPin
def SV (s : Int → Int) : Prop := (6 ≤ s 0 ∧ s 0 ≤ 24) ∧ (1 ≤ s 1 ∧ s 1 ≤ 6) ∧ (2 ≤ s 2 ∧ s 2 ≤ 3) ∧ (0 ≤ s 3 ∧ s 3 ≤ 2) ∧ (0 ≤ s 4 ∧ s 4 ≤ 3) ∧ (1 ≤ s 5 ∧ s 5 ≤ 99) ∧ (∀ t : Int, 0 ≤ t → t < 3 → TV s t) ∧ (∀ u : Int, 0 ≤ u → u < 3 → s (12 + 116 * u + 39) = 1 → PV s u)
theorem oI_s {B : Nat → Bool} {k n : Nat} : (fnd B k n).isSome = true → oI (fnd B k n) ≠ -1 ∧ 0 ≤ oI (fnd B k n) ∧ oI (fnd B k n) < (n : Int) + k := by
  intro h
  cases e : fnd B k n with
  | none => rw [e] at h; cases h
  | some j =>
    have q := fnd_some e
    show ((j : Nat) : Int) ≠ -1 ∧ 0 ≤ ((j : Nat) : Int) ∧ ((j : Nat) : Int) < (n : Int) + k
    omega
theorem md_strange (m : ob_Mem) {t i d u : Int} (hs : SV (m 40 0)) (hv : NV (m 40 0) t i) (hd1 : 0 ≤ d ∧ d < m 40 0 0) (hu : PV (m 40 0) u) : ob_E (182, 0, [(11, 0), (1, t), (1, i), (1, d), (1, u), (0, 0), (0, 0)], [], (m, none)) = some (oI (fnd (sB (m 40 0) t i d u) (m 40 0 (12 + 116 * u + 43)).toNat 0), (m, none)) := by
  rw [sg_X8_strange_0]
  exact md_strange_loop m hv hd1 hs.2.2.1 hs.2.2.2.2.1 hu _ 0 _ (by omega)
