-- PURE WORK: tools for loops, and the model's small methods
theorem ob_cmp_lt {a b : Int} : ob_cmp a b < 0 ↔ a < b := by
  unfold ob_cmp
  split
  · omega
  · split <;> omega
theorem ob_cmp_gt {a b : Int} : 0 < ob_cmp a b ↔ b < a := by
  unfold ob_cmp
  split
  · omega
  · split <;> omega
/-- n steps -/
def ob_it {α : Type} (f : Nat → α → α) : Nat → α → α
  | 0, x => x
  | n + 1, x => f n (ob_it f n x)
theorem ob_loop {α : Type} {n : Nat} (L : Nat → α → ob_Res) (f : Nat → α → α) (P : Nat → α → Prop) (h : ∀ j x, j < n → P j x → L j x = L (j + 1) (f j x) ∧ P (j + 1) (f j x)) {x : α} (h0 : P 0 x) : ∀ k, k ≤ n → L 0 x = L k (ob_it f k x) ∧ P k (ob_it f k x)
  | 0, _ => ⟨rfl, h0⟩
  | k + 1, hk => by
    obtain ⟨h1, h2⟩ := ob_loop L f P h h0 k (Nat.le_of_succ_le hk)
    obtain ⟨h3, h4⟩ := h k _ hk h2
    exact ⟨h1.trans h3, h4⟩
/-- a search: the first j below n with B, or none -/
theorem ob_search {n : Nat} (L : Nat → ob_Res) (B : Nat → Prop) (R : Nat → ob_Res) (h1 : ∀ j, j < n → ¬ B j → L j = L (j + 1)) (h2 : ∀ j, j < n → B j → L j = R j) : (∃ j, j < n ∧ B j ∧ (∀ i, i < j → ¬ B i) ∧ L 0 = R j) ∨ ((∀ i, i < n → ¬ B i) ∧ L 0 = L n) := by
  have key : ∀ k, k ≤ n → (∃ j, j < k ∧ B j ∧ (∀ i, i < j → ¬ B i) ∧ L 0 = R j) ∨ ((∀ i, i < k → ¬ B i) ∧ L 0 = L k) := by
    intro k
    induction k with
    | zero => exact fun _ => Or.inr ⟨fun i hi => absurd hi (Nat.not_lt_zero _), rfl⟩
    | succ k ih =>
      intro hk
      rcases ih (Nat.le_of_succ_le hk) with ⟨j, a, b, c, d⟩ | ⟨a, b⟩
      · exact Or.inl ⟨j, Nat.lt_succ_of_lt a, b, c, d⟩
      · by_cases q : B k
        · exact Or.inl ⟨k, Nat.lt_succ_self _, q, a, b.trans (h2 k hk q)⟩
        · refine Or.inr ⟨fun i hi => ?_, b.trans (h1 k hk q)⟩
          rcases Nat.lt_succ_iff_lt_or_eq.mp hi with z | z
          · exact a i z
          · rw [z]
            exact q
  exact key n (Nat.le_refl _)
theorem md_in (m : ob_Mem) (v lo hi : Int) : ob_E (134, 0, [(2, v), (0, 0), (2, lo), (0, 0), (2, hi), (0, 0)], [], (m, none)) = some (if lo ≤ v ∧ v ≤ hi then 1 else 0, (m, none)) := by
  rw [sg_X8_in_0]
  simp only [ob_cmp_lt, ob_cmp_gt]
  by_cases h1 : v < lo
  · rw [if_pos h1, if_neg (show ¬ (lo ≤ v ∧ v ≤ hi) by omega)]
    rfl
  · rw [if_neg h1]
    by_cases h2 : hi < v
    · rw [if_pos h2, if_neg (show ¬ (lo ≤ v ∧ v ≤ hi) by omega)]
      rfl
    · rw [if_neg h2, if_pos (show lo ≤ v ∧ v ≤ hi by omega)]
      rfl
theorem md_round (m : ob_Mem) : ob_E (138, 0, [(11, 0)], [], (m, none)) = some (m 40 0 0, (m, none)) := by
  rw [sg_X8_round_0, if_pos (by omega)]
theorem md_tunes (m : ob_Mem) : ob_E (139, 0, [(11, 0)], [], (m, none)) = some (m 40 0 2, (m, none)) := by
  rw [sg_X8_tunes_0, if_pos (by omega)]
theorem md_isTune (m : ob_Mem) (t : Int) (h1 : 2 ≤ m 40 0 2) (h2 : m 40 0 2 ≤ 3) : ob_E (140, 0, [(11, 0), (1, t)], [], (m, none)) = some (if 0 ≤ t ∧ t < m 40 0 2 then 1 else 0, (m, none)) := by
  rw [sg_X8_isTune_0, md_tunes]
  simp only [Option.bind_some]
  rw [sg_X8_isTune_7, ob_wr_id (by omega) (by omega), md_in]
  simp only [Option.bind_some]
  rw [sg_X8_isTune_13]
  by_cases h : 0 ≤ t ∧ t < m 40 0 2
  · rw [if_pos h, if_pos (show 0 ≤ t ∧ t ≤ m 40 0 2 - 1 by omega), if_pos (by omega)]
  · rw [if_neg h, if_neg (show ¬ (0 ≤ t ∧ t ≤ m 40 0 2 - 1) by omega), if_pos (by omega)]
theorem md_isKey (m : ob_Mem) (k : Int) (h1 : 1 ≤ m 40 0 1) (h2 : m 40 0 1 ≤ 6) : ob_E (141, 0, [(11, 0), (1, k)], [], (m, none)) = some (if 0 ≤ k ∧ k < m 40 0 1 then 1 else 0, (m, none)) := by
  rw [sg_X8_isKey_0, if_pos (by omega), ob_wr_id (by omega) (by omega), md_in]
  simp only [Option.bind_some]
  rw [sg_X8_isKey_15]
  by_cases h : 0 ≤ k ∧ k < m 40 0 1
  · rw [if_pos h, if_pos (show 0 ≤ k ∧ k ≤ m 40 0 1 - 1 by omega), if_pos (by omega)]
  · rw [if_neg h, if_neg (show ¬ (0 ≤ k ∧ k ≤ m 40 0 1 - 1) by omega), if_pos (by omega)]
theorem md_of (m : ob_Mem) {t w : Int} (h1 : 0 ≤ t) (h2 : t < 3) (h3 : 0 ≤ w) (h4 : w < 116) : ob_E (142, 0, [(11, 0), (1, t), (1, w)], [], (m, none)) = some (m 40 0 (12 + 116 * t + w), (m, none)) := by
  rw [sg_X8_of_0, ob_wr_id (x := 116 * t) (by omega) (by omega), ob_wr_id (x := 12 + 116 * t) (by omega) (by omega), ob_wr_id (x := 12 + 116 * t + w) (by omega) (by omega), if_pos (by omega)]
theorem md_set (m : ob_Mem) {t w : Int} (v : Int) (h1 : 0 ≤ t) (h2 : t < 3) (h3 : 0 ≤ w) (h4 : w < 116) : ob_E (143, 0, [(11, 0), (1, t), (1, w), (1, v)], [], (m, none)) = some (0, (ob_set m 40 0 (12 + 116 * t + w) v, none)) := by
  rw [sg_X8_set_0, ob_wr_id (x := 116 * t) (by omega) (by omega), ob_wr_id (x := 12 + 116 * t) (by omega) (by omega), ob_wr_id (x := 12 + 116 * t + w) (by omega) (by omega), if_pos (by omega)]
theorem md_isPinned (m : ob_Mem) {t : Int} (h1 : 0 ≤ t) (h2 : t < 3) : ob_E (144, 0, [(11, 0), (1, t)], [], (m, none)) = some (if m 40 0 (12 + 116 * t + 39) = 1 then 1 else 0, (m, none)) := by
  rw [sg_X8_isPinned_0, md_of m h1 h2 (by omega) (by omega)]
  simp only [Option.bind_some]
  rw [sg_X8_isPinned_7]
  by_cases h : m 40 0 (12 + 116 * t + 39) = 1
  · rw [if_pos h, if_pos h, if_pos (by omega)]
  · rw [if_neg h, if_neg h, if_pos (by omega)]
def dist (R a b : Int) : Int := if a ≤ b then b - a else b - a + R
theorem md_from (m : ob_Mem) {a b : Int} (hR : 6 ≤ m 40 0 0) (hR2 : m 40 0 0 ≤ 24) (ha : 0 ≤ a) (ha2 : a < m 40 0 0) (hb : 0 ≤ b) (hb2 : b < m 40 0 0) : ob_E (145, 0, [(11, 0), (1, a), (1, b), (0, 0)], [], (m, none)) = some (dist (m 40 0 0) a b, (m, none)) := by
  rw [sg_X8_from_0, md_round]
  simp only [Option.bind_some]
  rw [sg_X8_from_7, ob_wr_id (by omega) (by omega), if_pos (by omega)]
  unfold dist
  by_cases h : a ≤ b
  · have e : Int.tmod (b - a) (m 40 0 0) = b - a := by
      rw [Int.tmod_eq_emod_of_nonneg (by omega), Int.emod_eq_of_lt (by omega) (by omega)]
    rw [e, if_neg (by omega), if_pos h]
  · have e : Int.tmod (b - a) (m 40 0 0) = b - a := by
      have : b - a = -(a - b) := by omega
      rw [this, Int.neg_tmod, Int.tmod_eq_emod_of_nonneg (by omega), Int.emod_eq_of_lt (by omega) (by omega)]
    rw [e, if_pos (by omega), md_round]
    simp only [Option.bind_some]
    rw [sg_X8_from_18, ob_wr_id (by omega) (by omega), if_neg h]
