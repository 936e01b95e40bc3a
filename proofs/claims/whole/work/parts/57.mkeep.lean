-- THE MODEL: pinning, taking off, keeping, beginning; the class: putting on
/-- rows alike in the head and in a tune's notes -/
def agN (s s' : Int → Int) (t : Int) : Prop := ∀ p, (0 ≤ p ∧ p < 12) ∨ (12 + 116 * t ≤ p ∧ p < 12 + 116 * t + 39) → s' p = s p
theorem agN_bg {s s' : Int → Int} {t i d : Int} (h : agN s s' t) (hi : 0 ≤ i ∧ i < 12) : bg s' t i d = bg s t i d := by
  unfold bg
  rw [h 0 (by omega), h _ (by omega), h (12 + 116 * t + 0) (by omega), h 3 (by omega)]
theorem agN_hd {s s' : Int → Int} {t i : Int} (h : agN s s' t) (hi : 0 ≤ i ∧ i < 12) : hd s' t i = hd s t i := by
  unfold hd
  rw [h 0 (by omega), h (12 + 116 * t + (3 + 3 * i + 1)) (by omega), h (12 + 116 * t + (3 + 3 * i + 2)) (by omega), h (12 + 116 * t + 0) (by omega), h 3 (by omega)]
theorem agN_NV {s s' : Int → Int} {t i : Int} (h : agN s s' t) (hn : NV s t i) : NV s' t i := by
  obtain ⟨h1, h2, h3, h4, h5, h6⟩ := hn
  unfold NV
  rw [h 0 (by omega), h (12 + 116 * t + (3 + 3 * i)) (by omega), h (12 + 116 * t + (3 + 3 * i + 1)) (by omega), h (12 + 116 * t + (3 + 3 * i + 2)) (by omega), h (12 + 116 * t + 0) (by omega)]
  exact ⟨h1, h2, h3, h4, h5, h6⟩
/-- a row in which the pins of a tune's first y notes are written -/
def piX (s : Int → Int) (t d y : Int) : Int → Int := fun p => if (12 + 116 * t + 39 ≤ p ∧ p < 12 + 116 * t + 44 + 4 * y) ∨ (12 + 116 * t + 92 ≤ p ∧ p < 12 + 116 * t + 92 + 2 * y) then pic s t d (p - (12 + 116 * t)) else s p
theorem piX_n {s : Int → Int} {t d y p : Int} (h : p < 12 + 116 * t + 39) : piX s t d y p = s p := if_neg (by omega)
theorem piX_ag {s : Int → Int} {t d y : Int} (ht : 0 ≤ t ∧ t < 3) : agN s (piX s t d y) t := fun p h => if_neg (by omega)
theorem piX_0 {s : Int → Int} {t : Int} : up (up (up (up (up s (12 + 116 * t + 39) 1) (12 + 116 * t + 40) (s (12 + 116 * t + 0))) (12 + 116 * t + 41) (s (12 + 116 * t + 1))) (12 + 116 * t + 42) (s 3)) (12 + 116 * t + 43) (s (12 + 116 * t + 2)) = piX s t (s (12 + 116 * t + 1)) 0 := by
  funext p
  unfold piX
  by_cases c : 12 + 116 * t + 39 ≤ p ∧ p < 12 + 116 * t + 44
  · rw [if_pos (by omega)]
    obtain e | e | e | e | e : p = 12 + 116 * t + 39 ∨ p = 12 + 116 * t + 40 ∨ p = 12 + 116 * t + 41 ∨ p = 12 + 116 * t + 42 ∨ p = 12 + 116 * t + 43 := by omega
    · rw [show p - (12 + 116 * t) = 39 by omega]
      simp (disch := omega) only [rs_k, rs_i, rs_s, rs_e, up_e, up_n]
      rfl
    · rw [show p - (12 + 116 * t) = 40 by omega]
      simp (disch := omega) only [rs_k, rs_i, rs_s, rs_e, up_e, up_n]
      rfl
    · rw [show p - (12 + 116 * t) = 41 by omega]
      simp (disch := omega) only [rs_k, rs_i, rs_s, rs_e, up_e, up_n]
      rfl
    · rw [show p - (12 + 116 * t) = 42 by omega]
      simp (disch := omega) only [rs_k, rs_i, rs_s, rs_e, up_e, up_n]
      rfl
    · rw [show p - (12 + 116 * t) = 43 by omega]
      simp (disch := omega) only [rs_k, rs_i, rs_s, rs_e, up_e, up_n]
      rfl
  · rw [if_neg (by omega)]
    simp (disch := omega) only [rs_k, rs_i, rs_s, rs_e, up_e, up_n]
theorem piX_s {s : Int → Int} {t d y : Int} (hy : 0 ≤ y ∧ y < 12) : up (up (up (up (up (up (piX s t d y) (12 + 116 * t + (44 + 4 * y)) (s (12 + 116 * t + (3 + 3 * y)))) (12 + 116 * t + (44 + 4 * y + 1)) (bg s t y d)) (12 + 116 * t + (44 + 4 * y + 2)) (hd s t y)) (12 + 116 * t + (44 + 4 * y + 3)) 0) (12 + 116 * t + (92 + 2 * y)) (s (12 + 116 * t + (3 + 3 * y + 1)))) (12 + 116 * t + (92 + 2 * y + 1)) (s (12 + 116 * t + (3 + 3 * y + 2))) = piX s t d (y + 1) := by
  have e44 : ∀ p, (12 + 116 * t + 39 ≤ p ∧ p < 12 + 116 * t + 44 + 4 * (y + 1)) ∨ (12 + 116 * t + 92 ≤ p ∧ p < 12 + 116 * t + 92 + 2 * (y + 1)) → piX s t d (y + 1) p = pic s t d (p - (12 + 116 * t)) := fun p h => if_pos h
  funext p
  by_cases c1 : 12 + 116 * t + 44 + 4 * y ≤ p ∧ p < 12 + 116 * t + 44 + 4 * y + 4
  · rw [e44 p (by omega)]
    obtain e | e | e | e : p = 12 + 116 * t + (44 + 4 * y) ∨ p = 12 + 116 * t + (44 + 4 * y + 1) ∨ p = 12 + 116 * t + (44 + 4 * y + 2) ∨ p = 12 + 116 * t + (44 + 4 * y + 3) := by omega
    · rw [show p - (12 + 116 * t) = 44 + 4 * y + 0 by omega, pic_k hy]
      simp (disch := omega) only [rs_k, rs_i, rs_s, rs_e, up_e, up_n]
    · rw [show p - (12 + 116 * t) = 44 + 4 * y + 1 by omega, pic_b hy]
      simp (disch := omega) only [rs_k, rs_i, rs_s, rs_e, up_e, up_n]
    · rw [show p - (12 + 116 * t) = 44 + 4 * y + 2 by omega, pic_h hy]
      simp (disch := omega) only [rs_k, rs_i, rs_s, rs_e, up_e, up_n]
    · rw [show p - (12 + 116 * t) = 44 + 4 * y + 3 by omega, pic_w hy]
      simp (disch := omega) only [rs_k, rs_i, rs_s, rs_e, up_e, up_n]
  · by_cases c2 : 12 + 116 * t + 92 + 2 * y ≤ p ∧ p < 12 + 116 * t + 92 + 2 * y + 2
    · rw [e44 p (by omega)]
      obtain e | e : p = 12 + 116 * t + (92 + 2 * y) ∨ p = 12 + 116 * t + (92 + 2 * y + 1) := by omega
      · rw [show p - (12 + 116 * t) = 92 + 2 * y by omega, pic_a hy]
        simp (disch := omega) only [rs_k, rs_i, rs_s, rs_e, up_e, up_n]
      · rw [show p - (12 + 116 * t) = 92 + 2 * y + 1 by omega, pic_l hy]
        simp (disch := omega) only [rs_k, rs_i, rs_s, rs_e, up_e, up_n]
    · simp (disch := omega) only [rs_k, rs_i, rs_s, rs_e, up_e, up_n]
      unfold piX
      by_cases c3 : (12 + 116 * t + 39 ≤ p ∧ p < 12 + 116 * t + 44 + 4 * y) ∨ (12 + 116 * t + 92 ≤ p ∧ p < 12 + 116 * t + 92 + 2 * y)
      · rw [if_pos c3, if_pos (by omega)]
      · rw [if_neg c3, if_neg (by omega)]
/-- only the row is changed -/
def fR (m m' : ob_Mem) : Prop := sm (fun k i => k = 40 ∧ i = 0) m m'
theorem fR_set {m m' : ob_Mem} {p x : Int} (h : fR m m') : fR m (ob_set m' 40 0 p x) := sm_set h ⟨rfl, rfl⟩
set_option maxHeartbeats 1000000 in
theorem md_pinNow {W : Int} (m : ob_Mem) {t : Int} (hV : VV W (m 40 0)) (ht : 0 ≤ t ∧ t < 3) : wp (ob_E (185, 0, [(11, 0), (1, t), (0, 0), (0, 0)], [], (m, none))) (fun v m' => v = m 40 0 (12 + 116 * t + 2) ∧ m' 40 0 = piX (m 40 0) t (m 40 0 (12 + 116 * t + 1)) (m 40 0 (12 + 116 * t + 2)) ∧ fR m m') := by
  obtain ⟨⟨v1, v2, v3, v4, v5, -⟩, v8⟩ := id hV
  obtain ⟨⟨w1, w2, w3, w4, w5⟩, -⟩ := v8 t ht.1 ht.2
  rw [sg_X8_pinNow_0]
  simp (disch := first | omega | assumption) only [↓if_pos, ↓if_neg, Option.bind_some, ob_wr_id, rs_k, rs_i, rs_s, rs_e, sg_X8_pinNow_6, sg_X8_pinNow_15, sg_X8_pinNow_25, sg_X8_pinNow_28, sg_X8_pinNow_38, sg_X8_pinNow_41, sg_X8_pinNow_54, sg_X8_pinNow_62, md_of, md_set]
  refine wp_for (fun y (m' : ob_Mem) => ob_E (185, 64, [(11, 0), (1, t), (1, m 40 0 (12 + 116 * t + 2)), (1, y)], [], (m', none))) 0 (m 40 0 (12 + 116 * t + 2)) (fun y m' => m' 40 0 = piX (m 40 0) t (m 40 0 (12 + 116 * t + 1)) y ∧ fR m m') ?_ ?_ (by omega) ⟨?_, fR_set (fR_set (fR_set (fR_set (fR_set sm_r))))⟩
  · intro y m1 h1 h2 ⟨i1, i2⟩ hk
    have hy : 0 ≤ y ∧ y < 12 := by omega
    have hN := VV_NV hV ht ⟨h1, h2⟩
    have ag1 : agN (m 40 0) (m1 40 0) t := by rw [i1]; exact piX_ag ht
    have q1 : m1 40 0 (12 + 116 * t + (3 + 3 * y)) = m 40 0 (12 + 116 * t + (3 + 3 * y)) := ag1 _ (by omega)
    rw [sg_X8_pinNow_64]
    simp (disch := first | omega | assumption) only [↓if_pos, ↓if_neg, Option.bind_some, ob_wr_id, md_key, sg_X8_pinNow_83, md_set]
    rw [q1]
    generalize hM2 : ob_set m1 40 0 (12 + 116 * t + (44 + 4 * y)) (m 40 0 (12 + 116 * t + (3 + 3 * y))) = m2
    have r2 : m2 40 0 = up (m1 40 0) (12 + 116 * t + (44 + 4 * y)) (m 40 0 (12 + 116 * t + (3 + 3 * y))) := by rw [← hM2, rw_e]
    have ag2 : agN (m 40 0) (m2 40 0) t := fun p hp => by rw [r2, up_n (by omega), ag1 p hp]
    have q2 : m2 40 0 (12 + 116 * t + 1) = m 40 0 (12 + 116 * t + 1) := ag2 _ (by omega)
    have q3 : m2 40 0 0 = m 40 0 0 := ag2 _ (by omega)
    have hN2 := agN_NV ag2 hN
    have b2 := md_begin m2 hN2 (d := m 40 0 (12 + 116 * t + 1)) (by omega) (by omega)
    rw [agN_bg ag2 hy] at b2
    simp (disch := first | omega | assumption) only [↓if_pos, ↓if_neg, Option.bind_some, ob_wr_id, sg_X8_pinNow_86, md_of, q2, sg_X8_pinNow_105, b2, sg_X8_pinNow_108, md_set]
    generalize hM3 : ob_set m2 40 0 (12 + 116 * t + (44 + 4 * y + 1)) (bg (m 40 0) t y (m 40 0 (12 + 116 * t + 1))) = m3
    have r3 : m3 40 0 = up (m2 40 0) (12 + 116 * t + (44 + 4 * y + 1)) (bg (m 40 0) t y (m 40 0 (12 + 116 * t + 1))) := by rw [← hM3, rw_e]
    have ag3 : agN (m 40 0) (m3 40 0) t := fun p hp => by rw [r3, up_n (by omega), ag2 p hp]
    have b3 := md_hold m3 (agN_NV ag3 hN)
    rw [agN_hd ag3 hy] at b3
    simp (disch := first | omega | assumption) only [↓if_pos, ↓if_neg, Option.bind_some, ob_wr_id, sg_X8_pinNow_111, b3, sg_X8_pinNow_127, sg_X8_pinNow_130, md_set]
    generalize hM4 : ob_set (ob_set m3 40 0 (12 + 116 * t + (44 + 4 * y + 2)) (hd (m 40 0) t y)) 40 0 (12 + 116 * t + (44 + 4 * y + 3)) 0 = m4
    have r4 : m4 40 0 = up (up (m3 40 0) (12 + 116 * t + (44 + 4 * y + 2)) (hd (m 40 0) t y)) (12 + 116 * t + (44 + 4 * y + 3)) 0 := by rw [← hM4, rw_e, rw_e]
    have ag4 : agN (m 40 0) (m4 40 0) t := fun p hp => by rw [r4, up_n (by omega), up_n (by omega), ag3 p hp]
    have q4 : m4 40 0 (12 + 116 * t + (3 + 3 * y + 1)) = m 40 0 (12 + 116 * t + (3 + 3 * y + 1)) := ag4 _ (by omega)
    have q5 : m4 40 0 (12 + 116 * t + (3 + 3 * y + 2)) = m 40 0 (12 + 116 * t + (3 + 3 * y + 2)) := ag4 _ (by omega)
    simp (disch := first | omega | assumption) only [↓if_pos, ↓if_neg, Option.bind_some, ob_wr_id, rs_k, rs_i, rs_s, rs_e, sg_X8_pinNow_144, md_start, sg_X8_pinNow_158, md_set, sg_X8_pinNow_161, md_length, sg_X8_pinNow_177, sg_X8_pinNow_180, q4, q5]
    have f4 : fR m m4 := by
      rw [← hM4, ← hM3, ← hM2]
      exact fR_set (fR_set (fR_set (fR_set i2)))
    refine hk _ ⟨?_, fR_set (fR_set f4)⟩
    rw [rw_e, rw_e, r4, r3, r2, i1, piX_s hy]
  · intro m1 ⟨i1, i2⟩
    rw [sg_X8_pinNow_64, if_neg (by omega)]
    exact wp_ret ⟨rfl, i1, i2⟩
  · rw [rw_e, rw_e, rw_e, rw_e, rw_e, piX_0]
/-- a row in which a tune's pins are taken off -/
def ofX (s : Int → Int) (t : Int) : Int → Int := fun p => if 12 + 116 * t + 39 ≤ p ∧ p < 12 + 116 * t + 116 then 0 else s p
theorem md_offNow (m : ob_Mem) {t : Int} (ht : 0 ≤ t ∧ t < 3) : wp (ob_E (189, 0, [(11, 0), (1, t), (0, 0), (0, 0)], [], (m, none))) (fun v m' => v = m 40 0 (12 + 116 * t + 43) ∧ m' 40 0 = ofX (m 40 0) t ∧ fR m m') := by
  rw [sg_X8_offNow_0]
  simp (disch := first | omega | assumption) only [↓if_pos, ↓if_neg, Option.bind_some, ob_wr_id, md_of, sg_X8_offNow_7]
  refine wp_for (fun y (m' : ob_Mem) => ob_E (189, 11, [(11, 0), (1, t), (1, m 40 0 (12 + 116 * t + 43)), (1, y)], [], (m', none))) 39 116 (fun y m' => m' 40 0 = (fun p => if 12 + 116 * t + 39 ≤ p ∧ p < 12 + 116 * t + y then 0 else (m 40 0) p) ∧ fR m m') ?_ ?_ (by omega) ⟨?_, sm_r⟩
  · intro y m1 h1 h2 ⟨i1, i2⟩ hk
    rw [sg_X8_offNow_11]
    simp (disch := first | omega | assumption) only [↓if_pos, ↓if_neg, Option.bind_some, ob_wr_id, md_set, sg_X8_offNow_24]
    refine hk _ ⟨?_, fR_set i2⟩
    rw [rw_e, i1]
    funext p
    by_cases e : p = 12 + 116 * t + y
    · rw [up_e e, if_pos (by omega)]
    · rw [up_n e]
      by_cases c : 12 + 116 * t + 39 ≤ p ∧ p < 12 + 116 * t + y
      · rw [if_pos c, if_pos (by omega)]
      · rw [if_neg c, if_neg (by omega)]
  · intro m1 ⟨i1, i2⟩
    rw [sg_X8_offNow_11]
    simp (disch := first | omega | assumption) only [↓if_pos, ↓if_neg, Option.bind_some, ob_wr_id]
    exact wp_ret ⟨rfl, i1, i2⟩
  · funext p
    rw [if_neg (by omega)]
theorem md_canOff (m : ob_Mem) {t : Int} (hT : 2 ≤ m 40 0 2 ∧ m 40 0 2 ≤ 3) : ob_E (188, 0, [(11, 0), (1, t)], [], (m, none)) = some (if 0 ≤ t ∧ t < m 40 0 2 then (if m 40 0 (12 + 116 * t + 39) = 1 then 0 else -3) else -2, (m, none)) := by
  by_cases c0 : 0 ≤ t ∧ t < m 40 0 2
  · by_cases c1 : m 40 0 (12 + 116 * t + 39) = 1
    · simp (disch := first | omega | assumption) only [↓if_pos, ↓if_neg, Option.bind_some, ob_wr_id, sg_X8_canOff_0, sg_X8_canOff_5, sg_X8_canOff_18, md_isTune, md_isPinned]
    · simp (disch := first | omega | assumption) only [↓if_pos, ↓if_neg, Option.bind_some, ob_wr_id, sg_X8_canOff_0, sg_X8_canOff_5, sg_X8_canOff_18, md_isTune, md_isPinned]
  · simp (disch := first | omega | assumption) only [↓if_pos, ↓if_neg, Option.bind_some, ob_wr_id, sg_X8_canOff_0, sg_X8_canOff_5, sg_X8_canOff_18, md_isTune, md_isPinned]
/-- what is kept of the model by all but some calls -/
def fa (m m' : ob_Mem) : Prop := ∀ k i s, (k ≠ 8 ∧ k < 40) ∨ k = 43 ∨ k = 44 ∨ k = 55 ∨ (k = 8 ∧ s = 22) → m' k i s = m k i s
theorem fa_r {m : ob_Mem} : fa m m := fun _ _ _ _ => rfl
theorem fa_t {m m' m'' : ob_Mem} (h : fa m m') (h' : fa m' m'') : fa m m'' := fun k i s q => (h' k i s q).trans (h k i s q)
theorem fR_fa {m m' : ob_Mem} (h : fR m m') : fa m m' := fun k i s q => h k i s (fun z => by have := z.1; omega)
/-- the row ahead of the call is the last state then -/
def PP (s : Int → Int) (m m' : ob_Mem) : Prop := m' 8 0 3 = (if m 8 0 3 = 5 then 5 else m 8 0 3 + 1) ∧ (∀ i p, 0 ≤ i → i < (if m 8 0 3 = 5 then 4 else m 8 0 3) → 0 ≤ p → p < 360 → m' 41 0 (360 * i + p) = m 41 0 (360 * (if m 8 0 3 = 5 then i + 1 else i) + p)) ∧ ∀ p, 0 ≤ p → p < 360 → m' 41 0 (360 * (if m 8 0 3 = 5 then 4 else m 8 0 3) + p) = s p
theorem md_keep (m : ob_Mem) (hn : 0 ≤ m 8 0 3 ∧ m 8 0 3 ≤ 5) : wp (ob_E (136, 0, [(11, 0), (0, 0)], [], (m, none))) (fun _ m' => fa m m' ∧ m' 40 0 = m 40 0 ∧ PP (m 40 0) m m') := by
  have key : ∀ (n : Int) (x : ob_AV) (m1 : ob_Mem), 0 ≤ n → n < 5 → m1 8 0 3 = n → fa m m1 → m1 40 0 = m 40 0 → wp (ob_E (136, 49, [(11, 0), x], [], (m1, none))) (fun _ m' => fa m m' ∧ m' 40 0 = m 40 0 ∧ m' 8 0 3 = n + 1 ∧ (∀ q, 0 ≤ q → q < 360 * n → m' 41 0 q = m1 41 0 q) ∧ ∀ p, 0 ≤ p → p < 360 → m' 41 0 (360 * n + p) = (m 40 0) p) := by
    intro n x m1 hn1 hn2 hn3 hf h4
    rw [sg_X8_keep_49]
    refine wp_for (fun y (m' : ob_Mem) => ob_E (136, 51, [(11, 0), (1, y)], [], (m', none))) 0 360 (fun y m' => fa m m' ∧ m' 40 0 = m 40 0 ∧ m' 8 0 3 = n ∧ (∀ q, 0 ≤ q → q < 360 * n → m' 41 0 q = m1 41 0 q) ∧ ∀ p, 0 ≤ p → p < y → m' 41 0 (360 * n + p) = (m 40 0) p) ?_ ?_ (by omega) ⟨hf, h4, hn3, fun _ _ _ => rfl, fun p a b => absurd a (by omega)⟩
    · intro y m2 h1 h2 ⟨i1, i2, i3, i4, i5⟩ hk
      rw [sg_X8_keep_51]
      simp (disch := first | omega | assumption) only [↓if_pos, ↓if_neg, Option.bind_some, ob_wr_id, i3]
      refine hk _ ⟨?_, ?_, ?_, fun q a b => ?_, fun p a b => ?_⟩
      · intro k i s q
        rw [rs_k (by omega), i1 k i s q]
      · rw [rw_k (by omega), i2]
      · rw [rs_k (by omega), i3]
      · rw [rs_s (by omega), i4 q a b]
      · by_cases e : p = y
        · rw [rs_e rfl (by omega), i2, e]
        · rw [rs_s (by omega), i5 p a (by omega)]
    · intro m2 ⟨i1, i2, i3, i4, i5⟩
      rw [sg_X8_keep_51]
      simp (disch := first | omega | assumption) only [↓if_pos, ↓if_neg, Option.bind_some, ob_wr_id, i3]
      refine wp_ret ⟨?_, ?_, rs_e rfl rfl, fun q a b => ?_, fun p a b => ?_⟩
      · intro k i s q
        by_cases z : k = 8
        · rw [rs_s (by omega), i1 k i s q]
        · rw [rs_k z, i1 k i s q]
      · rw [rw_k (by omega), i2]
      · rw [rs_k (by omega), i4 q a b]
      · rw [rs_k (by omega), i5 p a b]
  rw [sg_X8_keep_0]
  by_cases c : m 8 0 3 = 5
  · rw [if_pos c]
    refine wp_for (fun y (m' : ob_Mem) => ob_E (136, 10, [(11, 0), (1, y)], [], (m', none))) 0 1440 (fun y m' => fa m m' ∧ m' 40 0 = m 40 0 ∧ m' 8 0 3 = 5 ∧ (∀ q, 0 ≤ q → q < y → m' 41 0 q = m 41 0 (q + 360)) ∧ ∀ q, y ≤ q → m' 41 0 q = m 41 0 q) ?_ ?_ (by omega) ⟨fa_r, rfl, c, fun q a b => absurd a (by omega), fun _ _ => rfl⟩
    · intro y m2 h1 h2 ⟨i1, i2, i3, i4, i5⟩ hk
      rw [sg_X8_keep_10]
      simp (disch := first | omega | assumption) only [↓if_pos, ↓if_neg, Option.bind_some, ob_wr_id]
      refine hk _ ⟨?_, ?_, ?_, fun q a b => ?_, fun q a => ?_⟩
      · intro k i s q
        rw [rs_k (by omega), i1 k i s q]
      · rw [rw_k (by omega), i2]
      · rw [rs_k (by omega), i3]
      · by_cases e : q = y
        · rw [rs_e rfl e, i5 _ (by omega), e]
        · rw [rs_s e, i4 q a (by omega)]
      · rw [rs_s (by omega), i5 q (by omega)]
    · intro m2 ⟨i1, i2, i3, i4, i5⟩
      rw [sg_X8_keep_10]
      simp (disch := first | omega | assumption) only [↓if_pos, ↓if_neg, Option.bind_some, ob_wr_id, i3]
      refine wp_mono (key 4 _ _ (by omega) (by omega) (rs_e rfl rfl) ?_ ?_) (fun v m' h => ?_)
      · intro k i s q
        by_cases z : k = 8
        · rw [rs_s (by omega), i1 k i s q]
        · rw [rs_k z, i1 k i s q]
      · rw [rw_k (by omega), i2]
      · obtain ⟨j1, j2, j3, j4, j5⟩ := h
        refine ⟨j1, j2, ?_, fun i p a b e f => ?_, fun p a b => ?_⟩
        · rw [if_pos c, j3]
          omega
        · rw [if_pos c] at b
          rw [if_pos c, j4 _ (by omega) (by omega), rs_k (by omega), i4 _ (by omega) (by omega), show 360 * i + p + 360 = 360 * (i + 1) + p by omega]
        · rw [if_pos c, j5 p a b]
  · rw [if_neg c]
    refine wp_mono (key (m 8 0 3) _ m (by omega) (by omega) rfl fa_r rfl) (fun v m' h => ?_)
    obtain ⟨j1, j2, j3, j4, j5⟩ := h
    refine ⟨j1, j2, ?_, fun i p a b e f => ?_, fun p a b => ?_⟩
    · rw [if_neg c, j3]
    · rw [if_neg c] at b
      rw [if_neg c, j4 _ (by omega) (by omega)]
    · rw [if_neg c, j5 p a b]
