-- SEARCHES; THE MODEL: whether a tune is wide, is free
def fnd (B : Nat → Bool) : Nat → Nat → Option Nat
  | 0, _ => none
  | k + 1, n => if B n = true then some n else fnd B k (n + 1)
theorem fnd_some {B : Nat → Bool} : ∀ {k n j : Nat}, fnd B k n = some j → n ≤ j ∧ j < n + k ∧ B j = true ∧ ∀ i, n ≤ i → i < j → B i = false
  | 0, _, _, h => by cases h
  | k + 1, n, j, h => by
    unfold fnd at h
    by_cases q : B n = true
    · rw [if_pos q] at h
      cases h
      exact ⟨Nat.le_refl _, by omega, q, fun i h1 h2 => absurd h1 (by omega)⟩
    · rw [if_neg q] at h
      obtain ⟨h1, h2, h3, h4⟩ := fnd_some h
      refine ⟨by omega, by omega, h3, fun i g1 g2 => ?_⟩
      by_cases e : i = n
      · rw [e]
        exact Bool.eq_false_iff.mpr q
      · exact h4 i (by omega) g2
theorem fnd_none {B : Nat → Bool} : ∀ {k n : Nat}, fnd B k n = none → ∀ i, n ≤ i → i < n + k → B i = false
  | 0, _, _, i, h1, h2 => absurd h1 (by omega)
  | k + 1, n, h, i, h1, h2 => by
    unfold fnd at h
    by_cases q : B n = true
    · rw [if_pos q] at h
      cases h
    · rw [if_neg q] at h
      by_cases e : i = n
      · rw [e]
        exact Bool.eq_false_iff.mpr q
      · exact fnd_none h i (by omega) (by omega)
theorem fnd_c {B C : Nat → Bool} : ∀ (k n : Nat), (∀ i, n ≤ i → i < n + k → B i = C i) → fnd B k n = fnd C k n
  | 0, _, _ => rfl
  | k + 1, n, h => by
    unfold fnd
    rw [h n (Nat.le_refl _) (by omega), fnd_c k (n + 1) (fun i h1 h2 => h i (by omega) (by omega))]
def fre (s : Int → Int) (t i : Int) : Int := frb (s 0) (fun j => s (12 + 116 * t + (3 + 3 * j))) (fun j => bg s t j 0) i (s (12 + 116 * t + 2)).toNat - hd s t i
/-- all that a tune's notes must be -/
def TV (s : Int → Int) (t : Int) : Prop := (0 ≤ t ∧ t < 3) ∧ (6 ≤ s 0 ∧ s 0 ≤ 24) ∧ (0 ≤ s (12 + 116 * t + 2) ∧ s (12 + 116 * t + 2) ≤ 12) ∧ ∀ i : Int, 0 ≤ i → i < s (12 + 116 * t + 2) → NV s t i
theorem fre_b {s : Int → Int} {t i : Int} (h : TV s t) (hi : 0 ≤ i ∧ i < s (12 + 116 * t + 2)) : -24 ≤ fre s t i ∧ fre s t i ≤ 24 := by
  obtain ⟨h1, h2, h3, h4⟩ := h
  have hv := h4 i hi.1 hi.2
  have hb := bg_b hv (d := 0) (by omega) (by omega)
  have hh := hd_b hv
  have hf := frb_b (R := s 0) (key := fun j => s (12 + 116 * t + (3 + 3 * j))) (bf := fun j => bg s t j 0) (i := i) (by omega) hb (s (12 + 116 * t + 2)).toNat (fun j hj => bg_b (h4 j (by omega) (by omega)) (by omega) (by omega))
  unfold fre
  omega
theorem md_freeBehind (m : ob_Mem) {t i : Int} (h : TV (m 40 0) t) (hi : 0 ≤ i ∧ i < m 40 0 (12 + 116 * t + 2)) : ob_E (177, 0, [(11, 0), (1, t), (1, i), (0, 0), (0, 0), (0, 0)], [], (m, none)) = some (fre (m 40 0) t i, (m, none)) := by
  obtain ⟨h1, h2, h3, h4⟩ := id h
  have hN : m 40 0 (12 + 116 * t + 2) = (((m 40 0 (12 + 116 * t + 2)).toNat : Nat) : Int) := by omega
  simp (disch := omega) only [sg_X8_freeBehind_0, sg_X8_freeBehind_4, md_round, Option.bind_some]
  exact md_free_loop m hN (by omega) (by omega) (fun j a b => h4 j a (by omega)) (m 40 0 (12 + 116 * t + 2)).toNat 0 _ (by omega)
def bec (m : ob_Mem) (a b c : Int) : ob_Mem := ob_set (ob_set (ob_set m 8 0 6 a) 8 0 7 b) 8 0 8 c
theorem md_because (m : ob_Mem) (a b c : Int) : ob_E (176, 0, [(11, 0), (1, a), (1, b), (1, c)], [], (m, none)) = some (-3, (bec m a b c, none)) := by
  rw [sg_X8_because_0]
  rfl
