-- THE MODEL: refusals, and its small changes
def rfs (m : ob_Mem) (c : Int) : ob_Mem := ob_set m 43 0 (-2 - c) (ob_wr (m 43 0 (-2 - c) + 1))
theorem md_refuses (m : ob_Mem) {c : Int} (h : -4 ≤ c ∧ c ≤ -2) : ob_E (135, 0, [(11, 0), (1, c)], [], (m, none)) = some (c, (rfs m c, none)) := by
  rw [sg_X8_refuses_0]
  simp (disch := first | omega | assumption) only [↓if_pos, ↓if_neg, Option.bind_some, ob_wr_id]
  rfl
theorem md_setNow (m : ob_Mem) {p v : Int} (h : 0 ≤ p ∧ p < 360) : ob_E (155, 0, [(11, 0), (1, p), (1, v), (0, 0)], [], (m, none)) = some (m 40 0 p, (ob_set m 40 0 p v, none)) := by
  rw [sg_X8_setNow_0]
  simp (disch := first | omega | assumption) only [↓if_pos, ↓if_neg, Option.bind_some, ob_wr_id]
theorem md_canGap (m : ob_Mem) {k v : Int} (h : 1 ≤ m 40 0 1 ∧ m 40 0 1 ≤ 6) : ob_E (157, 0, [(11, 0), (1, k), (1, v)], [], (m, none)) = some (if (0 ≤ k ∧ k < m 40 0 1) ∧ 0 ≤ v ∧ v ≤ 6 then 0 else -2, (m, none)) := by
  by_cases q : 0 ≤ k ∧ k < m 40 0 1
  · by_cases q2 : 0 ≤ v ∧ v ≤ 6
    · simp (disch := first | omega | assumption) only [↓if_pos, ↓if_neg, Option.bind_some, ob_wr_id, sg_X8_canGap_0, sg_X8_canGap_5, sg_X8_canGap_17, md_isKey, md_in]
    · simp (disch := first | omega | assumption) only [↓if_pos, ↓if_neg, Option.bind_some, ob_wr_id, sg_X8_canGap_0, sg_X8_canGap_5, sg_X8_canGap_17, md_isKey, md_in]
  · simp (disch := first | omega | assumption) only [↓if_pos, ↓if_neg, Option.bind_some, ob_wr_id, sg_X8_canGap_0, sg_X8_canGap_5, sg_X8_canGap_17, md_isKey, md_in]
theorem md_canSide (m : ob_Mem) {v : Int} : ob_E (159, 0, [(11, 0), (1, v)], [], (m, none)) = some (if 0 ≤ v ∧ v ≤ 3 then 0 else -2, (m, none)) := by
  by_cases q2 : 0 ≤ v ∧ v ≤ 3
  · simp (disch := first | omega | assumption) only [↓if_pos, ↓if_neg, Option.bind_some, ob_wr_id, sg_X8_canSide_0, sg_X8_canSide_9, md_in]
  · simp (disch := first | omega | assumption) only [↓if_pos, ↓if_neg, Option.bind_some, ob_wr_id, sg_X8_canSide_0, sg_X8_canSide_9, md_in]
theorem md_canTicks (m : ob_Mem) {t l : Int} (h : 2 ≤ m 40 0 2 ∧ m 40 0 2 ≤ 3) : ob_E (161, 0, [(11, 0), (1, t), (1, l)], [], (m, none)) = some (if (0 ≤ t ∧ t < m 40 0 2) ∧ 1 ≤ l ∧ l ≤ m 40 0 0 then 0 else -2, (m, none)) := by
  by_cases q : 0 ≤ t ∧ t < m 40 0 2
  · by_cases q2 : 1 ≤ l ∧ l ≤ m 40 0 0
    · simp (disch := first | omega | assumption) only [↓if_pos, ↓if_neg, Option.bind_some, ob_wr_id, sg_X8_canTicks_0, sg_X8_canTicks_5, sg_X8_canTicks_15, sg_X8_canTicks_19, md_isTune, md_in, md_round]
    · simp (disch := first | omega | assumption) only [↓if_pos, ↓if_neg, Option.bind_some, ob_wr_id, sg_X8_canTicks_0, sg_X8_canTicks_5, sg_X8_canTicks_15, sg_X8_canTicks_19, md_isTune, md_in, md_round]
  · simp (disch := first | omega | assumption) only [↓if_pos, ↓if_neg, Option.bind_some, ob_wr_id, sg_X8_canTicks_0, sg_X8_canTicks_5, sg_X8_canTicks_15, sg_X8_canTicks_19, md_isTune, md_in, md_round]
theorem md_canShift (m : ob_Mem) {t l : Int} (h : 2 ≤ m 40 0 2 ∧ m 40 0 2 ≤ 3) (h0 : 6 ≤ m 40 0 0 ∧ m 40 0 0 ≤ 24) : ob_E (169, 0, [(11, 0), (1, t), (1, l)], [], (m, none)) = some (if (0 ≤ t ∧ t < m 40 0 2) ∧ 0 ≤ l ∧ l < m 40 0 0 then 0 else -2, (m, none)) := by
  by_cases q : 0 ≤ t ∧ t < m 40 0 2
  · by_cases q2 : 0 ≤ l ∧ l < m 40 0 0
    · simp (disch := first | omega | assumption) only [↓if_pos, ↓if_neg, Option.bind_some, ob_wr_id, sg_X8_canShift_0, sg_X8_canShift_5, sg_X8_canShift_15, sg_X8_canShift_21, md_isTune, md_in, md_round]
    · simp (disch := first | omega | assumption) only [↓if_pos, ↓if_neg, Option.bind_some, ob_wr_id, sg_X8_canShift_0, sg_X8_canShift_5, sg_X8_canShift_15, sg_X8_canShift_21, md_isTune, md_in, md_round]
  · simp (disch := first | omega | assumption) only [↓if_pos, ↓if_neg, Option.bind_some, ob_wr_id, sg_X8_canShift_0, sg_X8_canShift_5, sg_X8_canShift_15, sg_X8_canShift_21, md_isTune, md_in, md_round]
theorem md_ticksNow (m : ob_Mem) {t l : Int} (h : 0 ≤ t ∧ t < 3) : ob_E (162, 0, [(11, 0), (1, t), (1, l), (0, 0)], [], (m, none)) = some (m 40 0 (12 + 116 * t + 2), (ob_set (ob_set m 40 0 (12 + 116 * t + 0) l) 40 0 (12 + 116 * t + 2) 0, none)) := by
  simp (disch := first | omega | assumption) only [↓if_pos, ↓if_neg, Option.bind_some, ob_wr_id, sg_X8_ticksNow_0, sg_X8_ticksNow_6, sg_X8_ticksNow_14, sg_X8_ticksNow_21, md_of, md_set]
theorem md_shiftNow (m : ob_Mem) {t l : Int} (h : 0 ≤ t ∧ t < 3) : ob_E (170, 0, [(11, 0), (1, t), (1, l), (0, 0)], [], (m, none)) = some (m 40 0 (12 + 116 * t + 1), (ob_set m 40 0 (12 + 116 * t + 1) l, none)) := by
  simp (disch := first | omega | assumption) only [↓if_pos, ↓if_neg, Option.bind_some, ob_wr_id, sg_X8_shiftNow_0, sg_X8_shiftNow_6, sg_X8_shiftNow_14, md_of, md_set]
theorem md_noteNow (m : ob_Mem) {t k a l : Int} (h : 0 ≤ t ∧ t < 3) (hn : 0 ≤ m 40 0 (12 + 116 * t + 2) ∧ m 40 0 (12 + 116 * t + 2) < 12) : ob_E (165, 0, [(11, 0), (1, t), (1, k), (1, a), (1, l), (0, 0)], [], (m, none)) = some (m 40 0 (12 + 116 * t + 2), (ob_set (ob_set (ob_set (ob_set m 40 0 (12 + 116 * t + (3 + 3 * m 40 0 (12 + 116 * t + 2))) k) 40 0 (12 + 116 * t + (3 + 3 * m 40 0 (12 + 116 * t + 2) + 1)) a) 40 0 (12 + 116 * t + (3 + 3 * m 40 0 (12 + 116 * t + 2) + 2)) l) 40 0 (12 + 116 * t + 2) (m 40 0 (12 + 116 * t + 2) + 1), none)) := by
  simp (disch := first | omega | assumption) only [↓if_pos, ↓if_neg, Option.bind_some, ob_wr_id, sg_X8_noteNow_0, sg_X8_noteNow_6, sg_X8_noteNow_20, sg_X8_noteNow_34, sg_X8_noteNow_49, sg_X8_noteNow_59, md_of, md_set]
theorem md_isNote (m : ob_Mem) {t i : Int} (hT : 2 ≤ m 40 0 2 ∧ m 40 0 2 ≤ 3) (hn : 0 ≤ t → t < 3 → 0 ≤ m 40 0 (12 + 116 * t + 2) ∧ m 40 0 (12 + 116 * t + 2) ≤ 12) : ob_E (167, 0, [(11, 0), (1, t), (1, i)], [], (m, none)) = some (if (0 ≤ t ∧ t < m 40 0 2) ∧ 0 ≤ i ∧ i < m 40 0 (12 + 116 * t + 2) then 1 else 0, (m, none)) := by
  by_cases q : 0 ≤ t ∧ t < m 40 0 2
  · have hn' := hn (by omega) (by omega)
    by_cases q2 : 0 ≤ i ∧ i < m 40 0 (12 + 116 * t + 2)
    · simp (disch := first | omega | assumption) only [↓if_pos, ↓if_neg, Option.bind_some, ob_wr_id, sg_X8_isNote_0, sg_X8_isNote_5, sg_X8_isNote_17, sg_X8_isNote_23, md_isTune, md_of, md_in]
    · simp (disch := first | omega | assumption) only [↓if_pos, ↓if_neg, Option.bind_some, ob_wr_id, sg_X8_isNote_0, sg_X8_isNote_5, sg_X8_isNote_17, sg_X8_isNote_23, md_isTune, md_of, md_in]
  · simp (disch := first | omega | assumption) only [↓if_pos, ↓if_neg, Option.bind_some, ob_wr_id, sg_X8_isNote_0, sg_X8_isNote_5, sg_X8_isNote_17, sg_X8_isNote_23, md_isTune]
/-- a note is in the way of another one -/
def tkB (s : Int → Int) (t k a l : Int) (i : Int) : Prop := s (12 + 116 * t + (3 + 3 * i)) = k ∧ a < s (12 + 116 * t + (3 + 3 * i + 1)) + s (12 + 116 * t + (3 + 3 * i + 2)) ∧ s (12 + 116 * t + (3 + 3 * i + 1)) < a + l
def Tkn (s : Int → Int) (t k a l : Int) : Prop := ∃ i, 0 ≤ i ∧ i < s (12 + 116 * t + 2) ∧ tkB s t k a l i
def okN (s : Int → Int) (t k a l : Int) : Prop := (0 ≤ t ∧ t < s 2) ∧ (0 ≤ k ∧ k < s 1) ∧ (0 ≤ a ∧ a < s (12 + 116 * t + 0)) ∧ 1 ≤ l ∧ l ≤ s (12 + 116 * t + 0) - a
noncomputable def cNote (s : Int → Int) (t k a l : Int) : Int := @ite _ (okN s t k a l) (Classical.propDecidable _) (@ite _ (Tkn s t k a l) (Classical.propDecidable _) (-3) (if s (12 + 116 * t + 2) = 12 then -4 else 0)) (-2)
theorem cNote_bad {s : Int → Int} {t k a l : Int} (h : ¬ okN s t k a l) : cNote s t k a l = -2 := if_neg h
theorem cNote_no {s : Int → Int} {t k a l : Int} (h : okN s t k a l) (h2 : Tkn s t k a l) : cNote s t k a l = -3 := by
  unfold cNote
  rw [if_pos h, if_pos h2]
theorem cNote_ok {s : Int → Int} {t k a l : Int} (h : okN s t k a l) (h2 : ¬ Tkn s t k a l) : cNote s t k a l = if s (12 + 116 * t + 2) = 12 then -4 else 0 := by
  unfold cNote
  rw [if_pos h, if_neg h2]
theorem md_canNote {W : Int} (m : ob_Mem) {t k a l : Int} (hV : VV W (m 40 0)) : ob_E (164, 0, [(11, 0), (1, t), (1, k), (1, a), (1, l), (0, 0)], [], (m, none)) = some (cNote (m 40 0) t k a l, (m, none)) := by
  obtain ⟨⟨v1, v2, v3, v4, v5, v6, v7⟩, v8⟩ := hV
  by_cases q : 0 ≤ t ∧ t < m 40 0 2
  · obtain ⟨⟨w1, w2, w3, w4, w5⟩, -⟩ := v8 t (by omega) (by omega)
    by_cases q2 : 0 ≤ k ∧ k < m 40 0 1
    · by_cases q3 : 0 ≤ a ∧ a < m 40 0 (12 + 116 * t + 0)
      · by_cases q4 : 1 ≤ l ∧ l ≤ m 40 0 (12 + 116 * t + 0) - a
        · have ok : okN (m 40 0) t k a l := ⟨q, q2, q3, q4⟩
          simp (disch := first | omega | assumption) only [↓if_pos, ↓if_neg, Option.bind_some, ob_wr_id, sg_X8_canNote_0, sg_X8_canNote_5, sg_X8_canNote_13, sg_X8_canNote_25, sg_X8_canNote_31, sg_X8_canNote_44, sg_X8_canNote_50, sg_X8_canNote_67, sg_X8_canNote_77, sg_X8_canNote_89, sg_X8_canNote_96, sg_X8_canNote_107, sg_X8_canNote_117, sg_X8_canNote_129, md_isTune, md_isKey, md_of, md_in]
          refine wp_eq (wp_for (α := Unit) (fun j _ => ob_E (164, 59, [(11, 0), (1, t), (1, k), (1, a), (1, l), (1, j)], [], (m, none))) 0 (m 40 0 (12 + 116 * t + 2)) (fun j _ => ∀ i, 0 ≤ i → i < j → ¬ tkB (m 40 0) t k a l i) ?_ ?_ (by omega) (x := ()) (fun i h1 h2 => absurd h1 (by omega)))
          · intro j _ h1 h2 hI hk
            obtain ⟨n1, n2⟩ := w5 j h1 h2
            have hk' : ¬ tkB (m 40 0) t k a l j → wp (ob_E (164, 59, [(11, 0), (1, t), (1, k), (1, a), (1, l), (1, j + 1)], [], (m, none))) (fun v m' => v = cNote (m 40 0) t k a l ∧ m' = m) := fun z => hk () (fun i g1 g2 => by
              by_cases e : i = j
              · rw [e]
                exact z
              · exact hI i g1 (by omega))
            by_cases c1 : m 40 0 (12 + 116 * t + (3 + 3 * j)) = k
            · by_cases c2 : a < m 40 0 (12 + 116 * t + (3 + 3 * j + 1)) + m 40 0 (12 + 116 * t + (3 + 3 * j + 2))
              · by_cases c3 : m 40 0 (12 + 116 * t + (3 + 3 * j + 1)) < a + l
                · rw [sg_X8_canNote_59]
                  simp (disch := first | omega | assumption) only [↓if_pos, ↓if_neg, Option.bind_some, ob_wr_id, sg_X8_canNote_0, sg_X8_canNote_5, sg_X8_canNote_13, sg_X8_canNote_25, sg_X8_canNote_31, sg_X8_canNote_44, sg_X8_canNote_50, sg_X8_canNote_67, sg_X8_canNote_77, sg_X8_canNote_89, sg_X8_canNote_96, sg_X8_canNote_107, sg_X8_canNote_117, sg_X8_canNote_129, md_of, md_key, md_start, md_length]
                  exact wp_ret ⟨(cNote_no ok ⟨j, h1, h2, c1, c2, c3⟩).symm, rfl⟩
                · rw [sg_X8_canNote_59]
                  simp (disch := first | omega | assumption) only [↓if_pos, ↓if_neg, Option.bind_some, ob_wr_id, sg_X8_canNote_0, sg_X8_canNote_5, sg_X8_canNote_13, sg_X8_canNote_25, sg_X8_canNote_31, sg_X8_canNote_44, sg_X8_canNote_50, sg_X8_canNote_67, sg_X8_canNote_77, sg_X8_canNote_89, sg_X8_canNote_96, sg_X8_canNote_107, sg_X8_canNote_117, sg_X8_canNote_129, md_of, md_key, md_start, md_length]
                  exact hk' (fun z => c3 z.2.2)
              · rw [sg_X8_canNote_59]
                simp (disch := first | omega | assumption) only [↓if_pos, ↓if_neg, Option.bind_some, ob_wr_id, sg_X8_canNote_0, sg_X8_canNote_5, sg_X8_canNote_13, sg_X8_canNote_25, sg_X8_canNote_31, sg_X8_canNote_44, sg_X8_canNote_50, sg_X8_canNote_67, sg_X8_canNote_77, sg_X8_canNote_89, sg_X8_canNote_96, sg_X8_canNote_107, sg_X8_canNote_117, sg_X8_canNote_129, md_of, md_key, md_start, md_length]
                exact hk' (fun z => c2 z.2.1)
            · rw [sg_X8_canNote_59]
              simp (disch := first | omega | assumption) only [↓if_pos, ↓if_neg, Option.bind_some, ob_wr_id, sg_X8_canNote_0, sg_X8_canNote_5, sg_X8_canNote_13, sg_X8_canNote_25, sg_X8_canNote_31, sg_X8_canNote_44, sg_X8_canNote_50, sg_X8_canNote_67, sg_X8_canNote_77, sg_X8_canNote_89, sg_X8_canNote_96, sg_X8_canNote_107, sg_X8_canNote_117, sg_X8_canNote_129, md_of, md_key, md_start, md_length]
              exact hk' (fun z => c1 z.1)
          · intro _ hI
            have hT : ¬ Tkn (m 40 0) t k a l := fun ⟨i, g1, g2, g3⟩ => hI i g1 g2 g3
            rw [cNote_ok ok hT, sg_X8_canNote_59]
            by_cases c : m 40 0 (12 + 116 * t + 2) = 12
            · simp (disch := first | omega | assumption) only [↓if_pos, ↓if_neg, Option.bind_some, ob_wr_id, sg_X8_canNote_0, sg_X8_canNote_5, sg_X8_canNote_13, sg_X8_canNote_25, sg_X8_canNote_31, sg_X8_canNote_44, sg_X8_canNote_50, sg_X8_canNote_67, sg_X8_canNote_77, sg_X8_canNote_89, sg_X8_canNote_96, sg_X8_canNote_107, sg_X8_canNote_117, sg_X8_canNote_129, md_of]
              exact wp_ret ⟨rfl, rfl⟩
            · simp (disch := first | omega | assumption) only [↓if_pos, ↓if_neg, Option.bind_some, ob_wr_id, sg_X8_canNote_0, sg_X8_canNote_5, sg_X8_canNote_13, sg_X8_canNote_25, sg_X8_canNote_31, sg_X8_canNote_44, sg_X8_canNote_50, sg_X8_canNote_67, sg_X8_canNote_77, sg_X8_canNote_89, sg_X8_canNote_96, sg_X8_canNote_107, sg_X8_canNote_117, sg_X8_canNote_129, md_of]
              exact wp_ret ⟨rfl, rfl⟩
        · rw [cNote_bad (fun z => q4 z.2.2.2)]
          simp (disch := first | omega | assumption) only [↓if_pos, ↓if_neg, Option.bind_some, ob_wr_id, sg_X8_canNote_0, sg_X8_canNote_5, sg_X8_canNote_13, sg_X8_canNote_25, sg_X8_canNote_31, sg_X8_canNote_44, sg_X8_canNote_50, sg_X8_canNote_67, sg_X8_canNote_77, sg_X8_canNote_89, sg_X8_canNote_96, sg_X8_canNote_107, sg_X8_canNote_117, sg_X8_canNote_129, md_isTune, md_isKey, md_of, md_in]
      · rw [cNote_bad (fun z => q3 z.2.2.1)]
        simp (disch := first | omega | assumption) only [↓if_pos, ↓if_neg, Option.bind_some, ob_wr_id, sg_X8_canNote_0, sg_X8_canNote_5, sg_X8_canNote_13, sg_X8_canNote_25, sg_X8_canNote_31, sg_X8_canNote_44, sg_X8_canNote_50, sg_X8_canNote_67, sg_X8_canNote_77, sg_X8_canNote_89, sg_X8_canNote_96, sg_X8_canNote_107, sg_X8_canNote_117, sg_X8_canNote_129, md_isTune, md_isKey, md_of, md_in]
    · rw [cNote_bad (fun z => q2 z.2.1)]
      simp (disch := first | omega | assumption) only [↓if_pos, ↓if_neg, Option.bind_some, ob_wr_id, sg_X8_canNote_0, sg_X8_canNote_5, sg_X8_canNote_13, sg_X8_canNote_25, sg_X8_canNote_31, sg_X8_canNote_44, sg_X8_canNote_50, sg_X8_canNote_67, sg_X8_canNote_77, sg_X8_canNote_89, sg_X8_canNote_96, sg_X8_canNote_107, sg_X8_canNote_117, sg_X8_canNote_129, md_isTune, md_isKey]
  · rw [cNote_bad (fun z => q z.1)]
    simp (disch := first | omega | assumption) only [↓if_pos, ↓if_neg, Option.bind_some, ob_wr_id, sg_X8_canNote_0, sg_X8_canNote_5, sg_X8_canNote_13, sg_X8_canNote_25, sg_X8_canNote_31, sg_X8_canNote_44, sg_X8_canNote_50, sg_X8_canNote_67, sg_X8_canNote_77, sg_X8_canNote_89, sg_X8_canNote_96, sg_X8_canNote_107, sg_X8_canNote_117, sg_X8_canNote_129, md_isTune]
/-- what a tune tells -/
def tuV (s : Int → Int) (t w : Int) : Int := if w = 0 then s (12 + 116 * t + 0) else if w = 1 then s (12 + 116 * t + 2) else if w = 2 then s (12 + 116 * t + 1) else if w = 3 then s (12 + 116 * t + 39) else if s (12 + 116 * t + 39) = 1 then (if w = 4 then s (12 + 116 * t + 40) else if w = 5 then s (12 + 116 * t + 41) else if w = 6 then s (12 + 116 * t + 43) else s (12 + 116 * t + 42)) else -1
theorem md_tuneNow (m : ob_Mem) {t w : Int} (h : 0 ≤ t ∧ t < 3) (hw : 0 ≤ w ∧ w ≤ 7) : ob_E (172, 0, [(11, 0), (1, t), (1, w)], [], (m, none)) = some (tuV (m 40 0) t w, (m, none)) := by
  unfold tuV
  rw [sg_X8_tuneNow_0]
  by_cases c : m 40 0 (12 + 116 * t + 39) = 1
  · by_cases w0 : w = 0
    · simp (disch := first | omega | assumption) only [↓if_pos, ↓if_neg, Option.bind_some, ob_wr_id, sg_X8_tuneNow_50, sg_X8_tuneNow_57, sg_X8_tuneNow_64, sg_X8_tuneNow_72, sg_X8_tuneNow_78, sg_X8_tuneNow_88, sg_X8_tuneNow_98, sg_X8_tuneNow_108, sg_X8_tuneNow_118, sg_X8_tuneNow_128, sg_X8_tuneNow_138, sg_X8_tuneNow_148, md_of, md_isPinned]
    · by_cases w1 : w = 1
      · simp (disch := first | omega | assumption) only [↓if_pos, ↓if_neg, Option.bind_some, ob_wr_id, sg_X8_tuneNow_50, sg_X8_tuneNow_57, sg_X8_tuneNow_64, sg_X8_tuneNow_72, sg_X8_tuneNow_78, sg_X8_tuneNow_88, sg_X8_tuneNow_98, sg_X8_tuneNow_108, sg_X8_tuneNow_118, sg_X8_tuneNow_128, sg_X8_tuneNow_138, sg_X8_tuneNow_148, md_of, md_isPinned]
      · by_cases w2 : w = 2
        · simp (disch := first | omega | assumption) only [↓if_pos, ↓if_neg, Option.bind_some, ob_wr_id, sg_X8_tuneNow_50, sg_X8_tuneNow_57, sg_X8_tuneNow_64, sg_X8_tuneNow_72, sg_X8_tuneNow_78, sg_X8_tuneNow_88, sg_X8_tuneNow_98, sg_X8_tuneNow_108, sg_X8_tuneNow_118, sg_X8_tuneNow_128, sg_X8_tuneNow_138, sg_X8_tuneNow_148, md_of, md_isPinned]
        · by_cases w3 : w = 3
          · simp (disch := first | omega | assumption) only [↓if_pos, ↓if_neg, Option.bind_some, ob_wr_id, sg_X8_tuneNow_50, sg_X8_tuneNow_57, sg_X8_tuneNow_64, sg_X8_tuneNow_72, sg_X8_tuneNow_78, sg_X8_tuneNow_88, sg_X8_tuneNow_98, sg_X8_tuneNow_108, sg_X8_tuneNow_118, sg_X8_tuneNow_128, sg_X8_tuneNow_138, sg_X8_tuneNow_148, md_of, md_isPinned]
          · by_cases w4 : w = 4
            · simp (disch := first | omega | assumption) only [↓if_pos, ↓if_neg, Option.bind_some, ob_wr_id, sg_X8_tuneNow_50, sg_X8_tuneNow_57, sg_X8_tuneNow_64, sg_X8_tuneNow_72, sg_X8_tuneNow_78, sg_X8_tuneNow_88, sg_X8_tuneNow_98, sg_X8_tuneNow_108, sg_X8_tuneNow_118, sg_X8_tuneNow_128, sg_X8_tuneNow_138, sg_X8_tuneNow_148, md_of, md_isPinned]
            · by_cases w5 : w = 5
              · simp (disch := first | omega | assumption) only [↓if_pos, ↓if_neg, Option.bind_some, ob_wr_id, sg_X8_tuneNow_50, sg_X8_tuneNow_57, sg_X8_tuneNow_64, sg_X8_tuneNow_72, sg_X8_tuneNow_78, sg_X8_tuneNow_88, sg_X8_tuneNow_98, sg_X8_tuneNow_108, sg_X8_tuneNow_118, sg_X8_tuneNow_128, sg_X8_tuneNow_138, sg_X8_tuneNow_148, md_of, md_isPinned]
              · by_cases w6 : w = 6
                · simp (disch := first | omega | assumption) only [↓if_pos, ↓if_neg, Option.bind_some, ob_wr_id, sg_X8_tuneNow_50, sg_X8_tuneNow_57, sg_X8_tuneNow_64, sg_X8_tuneNow_72, sg_X8_tuneNow_78, sg_X8_tuneNow_88, sg_X8_tuneNow_98, sg_X8_tuneNow_108, sg_X8_tuneNow_118, sg_X8_tuneNow_128, sg_X8_tuneNow_138, sg_X8_tuneNow_148, md_of, md_isPinned]
                · simp (disch := first | omega | assumption) only [↓if_pos, ↓if_neg, Option.bind_some, ob_wr_id, sg_X8_tuneNow_50, sg_X8_tuneNow_57, sg_X8_tuneNow_64, sg_X8_tuneNow_72, sg_X8_tuneNow_78, sg_X8_tuneNow_88, sg_X8_tuneNow_98, sg_X8_tuneNow_108, sg_X8_tuneNow_118, sg_X8_tuneNow_128, sg_X8_tuneNow_138, sg_X8_tuneNow_148, md_of, md_isPinned]
  · by_cases w0 : w = 0
    · simp (disch := first | omega | assumption) only [↓if_pos, ↓if_neg, Option.bind_some, ob_wr_id, sg_X8_tuneNow_50, sg_X8_tuneNow_57, sg_X8_tuneNow_64, sg_X8_tuneNow_72, sg_X8_tuneNow_78, sg_X8_tuneNow_88, sg_X8_tuneNow_98, sg_X8_tuneNow_108, sg_X8_tuneNow_118, sg_X8_tuneNow_128, sg_X8_tuneNow_138, sg_X8_tuneNow_148, md_of, md_isPinned]
    · by_cases w1 : w = 1
      · simp (disch := first | omega | assumption) only [↓if_pos, ↓if_neg, Option.bind_some, ob_wr_id, sg_X8_tuneNow_50, sg_X8_tuneNow_57, sg_X8_tuneNow_64, sg_X8_tuneNow_72, sg_X8_tuneNow_78, sg_X8_tuneNow_88, sg_X8_tuneNow_98, sg_X8_tuneNow_108, sg_X8_tuneNow_118, sg_X8_tuneNow_128, sg_X8_tuneNow_138, sg_X8_tuneNow_148, md_of, md_isPinned]
      · by_cases w2 : w = 2
        · simp (disch := first | omega | assumption) only [↓if_pos, ↓if_neg, Option.bind_some, ob_wr_id, sg_X8_tuneNow_50, sg_X8_tuneNow_57, sg_X8_tuneNow_64, sg_X8_tuneNow_72, sg_X8_tuneNow_78, sg_X8_tuneNow_88, sg_X8_tuneNow_98, sg_X8_tuneNow_108, sg_X8_tuneNow_118, sg_X8_tuneNow_128, sg_X8_tuneNow_138, sg_X8_tuneNow_148, md_of, md_isPinned]
        · by_cases w3 : w = 3
          · simp (disch := first | omega | assumption) only [↓if_pos, ↓if_neg, Option.bind_some, ob_wr_id, sg_X8_tuneNow_50, sg_X8_tuneNow_57, sg_X8_tuneNow_64, sg_X8_tuneNow_72, sg_X8_tuneNow_78, sg_X8_tuneNow_88, sg_X8_tuneNow_98, sg_X8_tuneNow_108, sg_X8_tuneNow_118, sg_X8_tuneNow_128, sg_X8_tuneNow_138, sg_X8_tuneNow_148, md_of, md_isPinned]
          · by_cases w4 : w = 4
            · simp (disch := first | omega | assumption) only [↓if_pos, ↓if_neg, Option.bind_some, ob_wr_id, sg_X8_tuneNow_50, sg_X8_tuneNow_57, sg_X8_tuneNow_64, sg_X8_tuneNow_72, sg_X8_tuneNow_78, sg_X8_tuneNow_88, sg_X8_tuneNow_98, sg_X8_tuneNow_108, sg_X8_tuneNow_118, sg_X8_tuneNow_128, sg_X8_tuneNow_138, sg_X8_tuneNow_148, md_of, md_isPinned]
            · by_cases w5 : w = 5
              · simp (disch := first | omega | assumption) only [↓if_pos, ↓if_neg, Option.bind_some, ob_wr_id, sg_X8_tuneNow_50, sg_X8_tuneNow_57, sg_X8_tuneNow_64, sg_X8_tuneNow_72, sg_X8_tuneNow_78, sg_X8_tuneNow_88, sg_X8_tuneNow_98, sg_X8_tuneNow_108, sg_X8_tuneNow_118, sg_X8_tuneNow_128, sg_X8_tuneNow_138, sg_X8_tuneNow_148, md_of, md_isPinned]
              · by_cases w6 : w = 6
                · simp (disch := first | omega | assumption) only [↓if_pos, ↓if_neg, Option.bind_some, ob_wr_id, sg_X8_tuneNow_50, sg_X8_tuneNow_57, sg_X8_tuneNow_64, sg_X8_tuneNow_72, sg_X8_tuneNow_78, sg_X8_tuneNow_88, sg_X8_tuneNow_98, sg_X8_tuneNow_108, sg_X8_tuneNow_118, sg_X8_tuneNow_128, sg_X8_tuneNow_138, sg_X8_tuneNow_148, md_of, md_isPinned]
                · simp (disch := first | omega | assumption) only [↓if_pos, ↓if_neg, Option.bind_some, ob_wr_id, sg_X8_tuneNow_50, sg_X8_tuneNow_57, sg_X8_tuneNow_64, sg_X8_tuneNow_72, sg_X8_tuneNow_78, sg_X8_tuneNow_88, sg_X8_tuneNow_98, sg_X8_tuneNow_108, sg_X8_tuneNow_118, sg_X8_tuneNow_128, sg_X8_tuneNow_138, sg_X8_tuneNow_148, md_of, md_isPinned]
/-- what a note tells -/
def noV (s : Int → Int) (t i w : Int) : Int := if w = 0 then s (12 + 116 * t + (3 + 3 * i)) else if w = 1 then s (12 + 116 * t + (3 + 3 * i + 1)) else if w = 2 then s (12 + 116 * t + (3 + 3 * i + 2)) else if w = 3 then bg s t i (s (12 + 116 * t + 1)) else hd s t i
theorem md_noteTold (m : ob_Mem) {t i w : Int} (h : NV (m 40 0) t i) (hs : 0 ≤ m 40 0 (12 + 116 * t + 1) ∧ m 40 0 (12 + 116 * t + 1) < m 40 0 0) (hw : 0 ≤ w ∧ w ≤ 4) : ob_E (174, 0, [(11, 0), (1, t), (1, i), (1, w)], [], (m, none)) = some (noV (m 40 0) t i w, (m, none)) := by
  obtain ⟨v1, v2, -⟩ := id h
  unfold noV
  rw [sg_X8_noteTold_0]
  by_cases w0 : w = 0
  · simp (disch := first | omega | assumption) only [↓if_pos, ↓if_neg, Option.bind_some, ob_wr_id, sg_X8_noteTold_10, sg_X8_noteTold_24, sg_X8_noteTold_38, sg_X8_noteTold_55, sg_X8_noteTold_58, sg_X8_noteTold_67, md_of, md_key, md_start, md_length, md_begin, md_hold]
  · by_cases w1 : w = 1
    · simp (disch := first | omega | assumption) only [↓if_pos, ↓if_neg, Option.bind_some, ob_wr_id, sg_X8_noteTold_10, sg_X8_noteTold_24, sg_X8_noteTold_38, sg_X8_noteTold_55, sg_X8_noteTold_58, sg_X8_noteTold_67, md_of, md_key, md_start, md_length, md_begin, md_hold]
    · by_cases w2 : w = 2
      · simp (disch := first | omega | assumption) only [↓if_pos, ↓if_neg, Option.bind_some, ob_wr_id, sg_X8_noteTold_10, sg_X8_noteTold_24, sg_X8_noteTold_38, sg_X8_noteTold_55, sg_X8_noteTold_58, sg_X8_noteTold_67, md_of, md_key, md_start, md_length, md_begin, md_hold]
      · by_cases w3 : w = 3
        · simp (disch := first | omega | assumption) only [↓if_pos, ↓if_neg, Option.bind_some, ob_wr_id, sg_X8_noteTold_10, sg_X8_noteTold_24, sg_X8_noteTold_38, sg_X8_noteTold_55, sg_X8_noteTold_58, sg_X8_noteTold_67, md_of, md_key, md_start, md_length, md_begin, md_hold]
        · simp (disch := first | omega | assumption) only [↓if_pos, ↓if_neg, Option.bind_some, ob_wr_id, sg_X8_noteTold_10, sg_X8_noteTold_24, sg_X8_noteTold_38, sg_X8_noteTold_55, sg_X8_noteTold_58, sg_X8_noteTold_67, md_of, md_key, md_start, md_length, md_begin, md_hold]
