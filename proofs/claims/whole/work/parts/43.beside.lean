-- GAPS AND NEIGHBOURS (model)
theorem dist_b {R a b : Int} (ha : 0 ≤ a ∧ a < R) (hb : 0 ≤ b ∧ b < R) : 0 ≤ dist R a b ∧ dist R a b < R := by
  unfold dist
  split <;> omega
/-- the least way to another note of the key, among the first n -/
def frb (R : Int) (key bf : Int → Int) (i : Int) : Nat → Int
  | 0 => R
  | n + 1 => if (n : Int) ≠ i ∧ key n = key i then min (frb R key bf i n) (dist R (bf i) (bf n)) else frb R key bf i n
theorem frb_b {R i : Int} {key bf : Int → Int} (hR : 0 ≤ R) (hi : 0 ≤ bf i ∧ bf i < R) : ∀ n : Nat, (∀ j : Nat, j < n → 0 ≤ bf j ∧ bf j < R) → 0 ≤ frb R key bf i n ∧ frb R key bf i n ≤ R
  | 0, _ => ⟨hR, Int.le_refl _⟩
  | n + 1, h => by
    have q := frb_b (key := key) hR hi n (fun j hj => h j (Nat.lt_succ_of_lt hj))
    have d := dist_b hi (h n (Nat.lt_succ_self n))
    unfold frb
    split
    · omega
    · exact q
theorem md_areN (m : ob_Mem) {x y : Int} (hx : 0 ≤ x ∧ x < 100) (hy : 0 ≤ y ∧ y < 100) : ob_E (180, 0, [(1, x), (1, y)], [], (m, none)) = some (if x - y = 1 ∨ y - x = 1 then 1 else 0, (m, none)) := by
  simp (disch := omega) only [sg_X8_areNeighbours_0, ob_wr_id]
  by_cases h1 : x - y = 1
  · simp [h1]
  · by_cases h2 : y - x = 1
    · simp [h1, h2]
    · simp [h1, h2]
theorem md_pinOf (m : ob_Mem) {t i w : Int} (h1 : 0 ≤ t ∧ t < 3) (h2 : 0 ≤ i ∧ i < 12) (h3 : 0 ≤ w ∧ w < 4) : ob_E (181, 0, [(11, 0), (1, t), (1, i), (1, w)], [], (m, none)) = some (m 40 0 (12 + 116 * t + (44 + 4 * i + w)), (m, none)) := by
  simp (disch := omega) only [sg_X8_pinOf_0, sg_X8_pinOf_13, md_of, Option.bind_some, ob_wr_id]
/-- whether two that begin and hold so can lie beside one another -/
def bes (R D a h b h2 : Int) : Prop := if a = b then h = h2 else h + D ≤ dist R a b ∧ h2 + D ≤ dist R b a
theorem md_isBeside (m : ob_Mem) {a h b h2 : Int} (hR : 6 ≤ m 40 0 0 ∧ m 40 0 0 ≤ 24) (hD : 0 ≤ m 40 0 4 ∧ m 40 0 4 ≤ 3) (ha : 0 ≤ a ∧ a < m 40 0 0) (hb : 0 ≤ b ∧ b < m 40 0 0) (hh : 0 ≤ h ∧ h ≤ 24) (hh2 : 0 ≤ h2 ∧ h2 ≤ 24) : ob_E (179, 0, [(11, 0), (1, a), (1, h), (1, b), (1, h2)], [], (m, none)) = some (@ite Int (bes (m 40 0 0) (m 40 0 4) a h b h2) (Classical.propDecidable _) 1 0, (m, none)) := by
  simp (disch := omega) only [sg_X8_isBeside_0, sg_X8_isBeside_25, sg_X8_isBeside_42, md_from, Option.bind_some, ob_wr_id]
  unfold bes
  by_cases e : a = b
  · by_cases e2 : h = h2
    · simp [e, e2]
    · simp [e, e2]
  · by_cases e1 : dist (m 40 0 0) a b < h + m 40 0 4
    · simp [e, e1]
      omega
    · by_cases e2 : dist (m 40 0 0) b a < h2 + m 40 0 4
      · simp [e, e1, e2]
      · simp [e, e1, e2]
theorem md_free_loop (m : ob_Mem) {t i : Int} {N : Nat} (hN : m 40 0 (12 + 116 * t + 2) = (N : Int)) (hN2 : N ≤ 12) (hi : 0 ≤ i ∧ i < (N : Int)) (hv : ∀ j : Int, 0 ≤ j → j < (N : Int) → NV (m 40 0) t j) : ∀ (k n : Nat) (x : ob_AV), n + k = N →
    ob_E (177, 8, [(11, 0), (1, t), (1, i), (1, frb (m 40 0 0) (fun j => m 40 0 (12 + 116 * t + (3 + 3 * j))) (fun j => bg (m 40 0) t j 0) i n), (1, (n : Int)), x], [], (m, none)) = some (frb (m 40 0 0) (fun j => m 40 0 (12 + 116 * t + (3 + 3 * j))) (fun j => bg (m 40 0) t j 0) i N - hd (m 40 0) t i, (m, none)) := by
  have hvi := hv i hi.1 hi.2
  obtain ⟨h3, h4, h5, h6, h7, h8⟩ := id hvi
  have hbi := bg_b hvi (d := 0) (by omega) (by omega)
  have hhd := hd_b hvi
  have hfb := frb_b (R := m 40 0 0) (key := fun j => m 40 0 (12 + 116 * t + (3 + 3 * j))) (bf := fun j => bg (m 40 0) t j 0) (i := i) (by omega) hbi
  have hbN : ∀ j : Nat, j < N → 0 ≤ bg (m 40 0) t j 0 ∧ bg (m 40 0) t j 0 < m 40 0 0 := fun j hj => bg_b (hv j (by omega) (by omega)) (by omega) (by omega)
  intro k
  induction k with
  | zero =>
    intro n x hn
    obtain rfl : n = N := by omega
    have hf := hfb n hbN
    simp (disch := first | omega | assumption) only [sg_X8_freeBehind_8, sg_X8_freeBehind_16, sg_X8_freeBehind_88, md_of, md_hold, Option.bind_some, hN, Int.lt_irrefl, if_false, ob_wr_id]
  | succ k ih =>
    intro n x hn
    have hnv := hv n (by omega) (by omega)
    have hbn := hbN n (by omega)
    have e1 : ((n : Int) + 1) = ((n + 1 : Nat) : Int) := by omega
    simp (disch := first | omega | assumption) only [sg_X8_freeBehind_8, sg_X8_freeBehind_16, md_of, Option.bind_some, hN, ob_wr_id]
    rw [if_pos (by omega)]
    by_cases c1 : (n : Int) = i
    · rw [if_pos c1, sg_X8_freeBehind_75, ob_wr_id (by omega) (by omega), e1]
      have q := ih (n + 1) x (by omega)
      rw [show frb (m 40 0 0) (fun j => m 40 0 (12 + 116 * t + (3 + 3 * j))) (fun j => bg (m 40 0) t j 0) i (n + 1) = frb (m 40 0 0) (fun j => m 40 0 (12 + 116 * t + (3 + 3 * j))) (fun j => bg (m 40 0) t j 0) i n from if_neg (fun z => z.1 c1)] at q
      exact q
    · rw [if_neg c1]
      simp (disch := first | omega | assumption) only [sg_X8_freeBehind_32, sg_X8_freeBehind_38, md_key, Option.bind_some]
      by_cases c2 : m 40 0 (12 + 116 * t + (3 + 3 * (n : Int))) = m 40 0 (12 + 116 * t + (3 + 3 * i))
      · rw [if_pos c2]
        simp (disch := first | omega | assumption) only [sg_X8_freeBehind_49, sg_X8_freeBehind_57, sg_X8_freeBehind_60, sg_X8_freeBehind_74, sg_X8_freeBehind_75, md_begin, md_from, Option.bind_some, ob_wr_id]
        have q := ih (n + 1)
        rw [show frb (m 40 0 0) (fun j => m 40 0 (12 + 116 * t + (3 + 3 * j))) (fun j => bg (m 40 0) t j 0) i (n + 1) = min (frb (m 40 0 0) (fun j => m 40 0 (12 + 116 * t + (3 + 3 * j))) (fun j => bg (m 40 0) t j 0) i n) (dist (m 40 0 0) (bg (m 40 0) t i 0) (bg (m 40 0) t n 0)) from if_pos ⟨c1, c2⟩] at q
        rw [e1]
        by_cases c3 : dist (m 40 0 0) (bg (m 40 0) t i 0) (bg (m 40 0) t n 0) < frb (m 40 0 0) (fun j => m 40 0 (12 + 116 * t + (3 + 3 * j))) (fun j => bg (m 40 0) t j 0) i n
        · rw [if_pos c3]
          rw [Int.min_eq_right (Int.le_of_lt c3)] at q
          exact q _ (by omega)
        · rw [if_neg c3]
          rw [Int.min_eq_left (Int.not_lt.mp c3)] at q
          exact q _ (by omega)
      · rw [if_neg c2, sg_X8_freeBehind_75, ob_wr_id (by omega) (by omega), e1]
        have q := ih (n + 1) x (by omega)
        rw [show frb (m 40 0 0) (fun j => m 40 0 (12 + 116 * t + (3 + 3 * j))) (fun j => bg (m 40 0) t j 0) i (n + 1) = frb (m 40 0 0) (fun j => m 40 0 (12 + 116 * t + (3 + 3 * j))) (fun j => bg (m 40 0) t j 0) i n from if_neg (fun z => c2 z.2)] at q
        exact q
