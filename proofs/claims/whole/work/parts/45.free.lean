-- THE MODEL: isWide, strange, isFree
def wB (s : Int → Int) (t : Int) (i : Nat) : Bool := decide (fre s t i < s (6 + s (12 + 116 * t + (3 + 3 * (i : Int)))))
theorem md_wide_loop (m : ob_Mem) {t : Int} (h : TV (m 40 0) t) : ∀ (k n : Nat), n + k = (m 40 0 (12 + 116 * t + 2)).toNat →
    ob_E (178, 2, [(11, 0), (1, t), (1, (n : Int)), (0, 0)], [], (m, none)) = match fnd (wB (m 40 0) t) k n with
      | some j => some (0, (bec m 1 (j : Int) (fre (m 40 0) t j), none))
      | none => some (1, (m, none)) := by
  obtain ⟨h1, h2, h3, h4⟩ := id h
  intro k
  induction k with
  | zero =>
    intro n hn
    simp (disch := omega) only [sg_X8_isWide_2, sg_X8_isWide_9, md_of, Option.bind_some, fnd]
    rw [if_neg (by omega)]
    rfl
  | succ k ih =>
    intro n hn
    have hv := h4 n (by omega) (by omega)
    obtain ⟨-, v2, -, -, -, v6⟩ := id hv
    have e1 : ((n : Int) + 1) = ((n + 1 : Nat) : Int) := by omega
    simp (disch := first | omega | assumption) only [sg_X8_isWide_2, sg_X8_isWide_9, md_of, Option.bind_some]
    rw [if_pos (by omega), md_freeBehind m h (by omega)]
    simp (disch := first | omega | assumption) only [sg_X8_isWide_18, sg_X8_isWide_30, md_key, Option.bind_some, ob_wr_id]
    rw [if_pos (by omega)]
    unfold fnd wB
    by_cases c : fre (m 40 0) t n < m 40 0 (6 + m 40 0 (12 + 116 * t + (3 + 3 * (n : Int))))
    · rw [if_pos c, md_freeBehind m h (by omega), if_pos (decide_eq_true c)]
      simp only [Option.bind_some, sg_X8_isWide_44, md_because, sg_X8_isWide_47]
      rfl
    · rw [if_neg c, if_neg (by rw [decide_eq_false c]; decide), e1]
      exact ih (n + 1) (by omega)
theorem md_isWide (m : ob_Mem) {t : Int} (h : TV (m 40 0) t) : ob_E (178, 0, [(11, 0), (1, t), (0, 0), (0, 0)], [], (m, none)) = match fnd (wB (m 40 0) t) (m 40 0 (12 + 116 * t + 2)).toNat 0 with
      | some j => some (0, (bec m 1 (j : Int) (fre (m 40 0) t j), none))
      | none => some (1, (m, none)) := by
  rw [sg_X8_isWide_0]
  exact md_wide_loop m h _ 0 (by omega)
def nrB (x y : Int) : Bool := decide (x - y = 1 ∨ y - x = 1)
def beB (R D a h b h2 : Int) : Bool := if a = b then decide (h = h2) else decide (h + D ≤ dist R a b) && decide (h2 + D ≤ dist R b a)
theorem md_areN2 (m : ob_Mem) {x y : Int} (hx : 0 ≤ x ∧ x < 100) (hy : 0 ≤ y ∧ y < 100) : ob_E (180, 0, [(1, x), (1, y)], [], (m, none)) = some (if nrB x y = true then 1 else 0, (m, none)) := by
  rw [md_areN m hx hy]
  unfold nrB
  simp
theorem md_isBeside2 (m : ob_Mem) {a h b h2 : Int} (hR : 6 ≤ m 40 0 0 ∧ m 40 0 0 ≤ 24) (hD : 0 ≤ m 40 0 4 ∧ m 40 0 4 ≤ 3) (ha : 0 ≤ a ∧ a < m 40 0 0) (hb : 0 ≤ b ∧ b < m 40 0 0) (hh : 0 ≤ h ∧ h ≤ 24) (hh2 : 0 ≤ h2 ∧ h2 ≤ 24) : ob_E (179, 0, [(11, 0), (1, a), (1, h), (1, b), (1, h2)], [], (m, none)) = some (if beB (m 40 0 0) (m 40 0 4) a h b h2 = true then 1 else 0, (m, none)) := by
  simp (disch := omega) only [sg_X8_isBeside_0, sg_X8_isBeside_25, sg_X8_isBeside_42, md_from, Option.bind_some, ob_wr_id]
  unfold beB
  by_cases e : a = b
  · by_cases e2 : h = h2
    · simp [e, e2]
    · simp [e, e2]
  · by_cases e1 : dist (m 40 0 0) a b < h + m 40 0 4
    · have e3 : ¬ (h + m 40 0 4 ≤ dist (m 40 0 0) a b) := by omega
      simp [e, e1, e3]
    · have e3 : h + m 40 0 4 ≤ dist (m 40 0 0) a b := by omega
      by_cases e2 : dist (m 40 0 0) b a < h2 + m 40 0 4
      · have e4 : ¬ (h2 + m 40 0 4 ≤ dist (m 40 0 0) b a) := by omega
        simp [e, e1, e2, e3, e4]
      · have e4 : h2 + m 40 0 4 ≤ dist (m 40 0 0) b a := by omega
        simp [e, e1, e2, e3, e4]
def oI (x : Option Nat) : Int := match x with
  | some j => (j : Int)
  | none => -1
/-- a pinned tune's pins as they must be -/
def PV (s : Int → Int) (u : Int) : Prop := (0 ≤ u ∧ u < 3) ∧ (1 ≤ s (12 + 116 * u + 43) ∧ s (12 + 116 * u + 43) ≤ 12) ∧ ∀ j : Int, 0 ≤ j → j < s (12 + 116 * u + 43) → (0 ≤ s (12 + 116 * u + (44 + 4 * j + 0)) ∧ s (12 + 116 * u + (44 + 4 * j + 0)) < 6) ∧ (0 ≤ s (12 + 116 * u + (44 + 4 * j + 1)) ∧ s (12 + 116 * u + (44 + 4 * j + 1)) < s 0) ∧ (1 ≤ s (12 + 116 * u + (44 + 4 * j + 2)) ∧ s (12 + 116 * u + (44 + 4 * j + 2)) ≤ s 0)
def sB (s : Int → Int) (t i d u : Int) (j : Nat) : Bool := nrB (s 2 * s (12 + 116 * t + (3 + 3 * i)) + t) (s 2 * s (12 + 116 * u + (44 + 4 * (j : Int) + 0)) + u) && !beB (s 0) (s 4) (bg s t i d) (hd s t i) (s (12 + 116 * u + (44 + 4 * (j : Int) + 1))) (s (12 + 116 * u + (44 + 4 * (j : Int) + 2)))
theorem md_strange_loop (m : ob_Mem) {t i d u : Int} (hv : NV (m 40 0) t i) (hd1 : 0 ≤ d ∧ d < m 40 0 0) (hT : 2 ≤ m 40 0 2 ∧ m 40 0 2 ≤ 3) (hD : 0 ≤ m 40 0 4 ∧ m 40 0 4 ≤ 3) (hu : PV (m 40 0) u) : ∀ (k n : Nat) (x : ob_AV), n + k = (m 40 0 (12 + 116 * u + 43)).toNat →
    ob_E (182, 3, [(11, 0), (1, t), (1, i), (1, d), (1, u), (1, (n : Int)), x], [], (m, none)) = some (oI (fnd (sB (m 40 0) t i d u) k n), (m, none)) := by
  obtain ⟨v1, v2, v3, v4, v5, v6⟩ := id hv
  obtain ⟨u1, u2, u3⟩ := id hu
  have hbg := bg_b hv hd1.1 hd1.2
  have hhd := hd_b hv
  have hb1 := ob_mulb (show 0 ≤ m 40 0 2 by omega) hT.2 v6.1 (show m 40 0 (12 + 116 * t + (3 + 3 * i)) ≤ 6 by omega)
  intro k
  induction k with
  | zero =>
    intro n x hn
    simp (disch := omega) only [sg_X8_strange_3, sg_X8_strange_13, md_of, Option.bind_some, fnd]
    rw [if_neg (by omega)]
    rfl
  | succ k ih =>
    intro n x hn
    obtain ⟨w1, w2, w3⟩ := u3 n (by omega) (by omega)
    have hb2 := ob_mulb (show 0 ≤ m 40 0 2 by omega) hT.2 w1.1 (show m 40 0 (12 + 116 * u + (44 + 4 * (n : Int) + 0)) ≤ 6 by omega)
    have e1 : ((n : Int) + 1) = ((n + 1 : Nat) : Int) := by omega
    simp (disch := first | omega | assumption) only [sg_X8_strange_3, sg_X8_strange_13, md_of, Option.bind_some]
    rw [if_pos (by omega)]
    simp (disch := first | omega | assumption) only [sg_X8_strange_24, sg_X8_strange_27, sg_X8_strange_39, sg_X8_strange_42, sg_X8_strange_45, md_key, md_track, md_pinOf, md_areN2, Option.bind_some]
    unfold fnd sB
    cases c1 : nrB (m 40 0 2 * m 40 0 (12 + 116 * t + (3 + 3 * i)) + t) (m 40 0 2 * m 40 0 (12 + 116 * u + (44 + 4 * (n : Int) + 0)) + u) with
    | false =>
      simp (disch := first | omega | assumption) only [sg_X8_strange_93, Bool.false_eq_true, if_false, if_true, Bool.false_and, ob_wr_id]
      rw [e1]
      exact ih (n + 1) _ (by omega)
    | true =>
      simp (disch := first | omega | assumption) only [sg_X8_strange_60, sg_X8_strange_66, sg_X8_strange_75, sg_X8_strange_84, sg_X8_strange_87, sg_X8_strange_93, md_begin, md_hold, md_pinOf, md_isBeside2, Option.bind_some, if_true, Bool.true_and, ob_wr_id]
      rw [if_neg (by omega)]
      cases c2 : beB (m 40 0 0) (m 40 0 4) (bg (m 40 0) t i d) (hd (m 40 0) t i) (m 40 0 (12 + 116 * u + (44 + 4 * (n : Int) + 1))) (m 40 0 (12 + 116 * u + (44 + 4 * (n : Int) + 2))) with
      | false =>
        simp
        rfl
      | true =>
        simp only [if_true, Bool.not_true, Bool.false_eq_true, if_false]
        rw [if_neg (by omega), e1]
        exact ih (n + 1) _ (by omega)
