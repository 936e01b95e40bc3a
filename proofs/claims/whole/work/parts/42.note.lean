-- NOTES AND PINS OF THE MODEL'S ROW (s: the row 'all')
/-- a note as it must be -/
def NV (s : Int → Int) (t i : Int) : Prop := (0 ≤ t ∧ t < 3) ∧ (0 ≤ i ∧ i < 12) ∧ (6 ≤ s 0 ∧ s 0 ≤ 24) ∧ (1 ≤ s (12 + 116 * t + 0) ∧ s (12 + 116 * t + 0) ≤ s 0) ∧ (0 ≤ s (12 + 116 * t + (3 + 3 * i + 1)) ∧ 1 ≤ s (12 + 116 * t + (3 + 3 * i + 2)) ∧ s (12 + 116 * t + (3 + 3 * i + 1)) + s (12 + 116 * t + (3 + 3 * i + 2)) ≤ s (12 + 116 * t + 0)) ∧ (0 ≤ s (12 + 116 * t + (3 + 3 * i)) ∧ s (12 + 116 * t + (3 + 3 * i)) < 6)
def bg (s : Int → Int) (t i d : Int) : Int := rnd (s 0) (ang (s 0) (s (12 + 116 * t + (3 + 3 * i + 1))) (s (12 + 116 * t + 0)) (s 3) + d)
def hd (s : Int → Int) (t i : Int) : Int := ang (s 0) (s (12 + 116 * t + (3 + 3 * i + 1)) + s (12 + 116 * t + (3 + 3 * i + 2))) (s (12 + 116 * t + 0)) (s 3) - ang (s 0) (s (12 + 116 * t + (3 + 3 * i + 1))) (s (12 + 116 * t + 0)) (s 3)
theorem rnd_b {R a : Int} (h1 : 0 ≤ a) (h2 : a < 2 * R) : 0 ≤ rnd R a ∧ rnd R a < R := by
  unfold rnd
  split <;> omega
theorem rnd_mod {R a : Int} (h1 : 0 ≤ a) (h2 : a < 2 * R) (hR : 0 < R) : Int.tmod a R = rnd R a := by
  rw [Int.tmod_eq_emod_of_nonneg h1]
  unfold rnd
  split
  · rw [show a = a - R + R by omega, Int.add_emod_right, Int.emod_eq_of_lt (by omega) (by omega)]
    omega
  · exact Int.emod_eq_of_lt h1 (by omega)
theorem bg_b {s : Int → Int} {t i d : Int} (h : NV s t i) (h1 : 0 ≤ d) (h2 : d < s 0) : 0 ≤ bg s t i d ∧ bg s t i d < s 0 := by
  obtain ⟨h3, h4, h5, h6, h7, h8⟩ := h
  have e1 := ang_nn (R := s 0) (s := s (12 + 116 * t + (3 + 3 * i + 1))) (L := s (12 + 116 * t + 0)) (w := s 3) (by omega) (by omega) (by omega)
  have e2 := ang_lt (R := s 0) (s := s (12 + 116 * t + (3 + 3 * i + 1))) (L := s (12 + 116 * t + 0)) (w := s 3) (by omega) (by omega) (by omega)
  exact rnd_b (by omega) (by omega)
theorem hd_b {s : Int → Int} {t i : Int} (h : NV s t i) : 1 ≤ hd s t i ∧ hd s t i ≤ s 0 := by
  obtain ⟨h3, h4, h5, h6, h7, h8⟩ := h
  have e1 := ang_nn (R := s 0) (s := s (12 + 116 * t + (3 + 3 * i + 1))) (L := s (12 + 116 * t + 0)) (w := s 3) (by omega) (by omega) (by omega)
  have e2 := ang_le (R := s 0) (s := s (12 + 116 * t + (3 + 3 * i + 1)) + s (12 + 116 * t + (3 + 3 * i + 2))) (L := s (12 + 116 * t + 0)) (w := s 3) (by omega) (by omega) (by omega)
  have e3 := ang_mono (R := s 0) (s := s (12 + 116 * t + (3 + 3 * i + 1))) (e := s (12 + 116 * t + (3 + 3 * i + 1)) + s (12 + 116 * t + (3 + 3 * i + 2))) (L := s (12 + 116 * t + 0)) (w := s 3) (by omega) (by omega) (by omega)
  unfold hd
  omega
theorem md_key (m : ob_Mem) {t i : Int} (h1 : 0 ≤ t ∧ t < 3) (h2 : 0 ≤ i ∧ i < 12) : ob_E (148, 0, [(11, 0), (1, t), (1, i)], [], (m, none)) = some (m 40 0 (12 + 116 * t + (3 + 3 * i)), (m, none)) := by
  rw [sg_X8_key_0, ob_wr_id (x := 3 * i) (by omega) (by omega), ob_wr_id (x := 3 + 3 * i) (by omega) (by omega), md_of m h1.1 h1.2 (by omega) (by omega)]
  simp only [Option.bind_some]
  rw [sg_X8_key_10]
theorem md_start (m : ob_Mem) {t i : Int} (h1 : 0 ≤ t ∧ t < 3) (h2 : 0 ≤ i ∧ i < 12) : ob_E (149, 0, [(11, 0), (1, t), (1, i)], [], (m, none)) = some (m 40 0 (12 + 116 * t + (3 + 3 * i + 1)), (m, none)) := by
  rw [sg_X8_start_0, ob_wr_id (x := 3 * i) (by omega) (by omega), ob_wr_id (x := 3 + 3 * i) (by omega) (by omega), ob_wr_id (x := 3 + 3 * i + 1) (by omega) (by omega), md_of m h1.1 h1.2 (by omega) (by omega)]
  simp only [Option.bind_some]
  rw [sg_X8_start_12]
theorem md_length (m : ob_Mem) {t i : Int} (h1 : 0 ≤ t ∧ t < 3) (h2 : 0 ≤ i ∧ i < 12) : ob_E (150, 0, [(11, 0), (1, t), (1, i)], [], (m, none)) = some (m 40 0 (12 + 116 * t + (3 + 3 * i + 2)), (m, none)) := by
  rw [sg_X8_length_0, ob_wr_id (x := 3 * i) (by omega) (by omega), ob_wr_id (x := 3 + 3 * i) (by omega) (by omega), ob_wr_id (x := 3 + 3 * i + 2) (by omega) (by omega), md_of m h1.1 h1.2 (by omega) (by omega)]
  simp only [Option.bind_some]
  rw [sg_X8_length_12]
theorem md_angleNow (m : ob_Mem) {t x : Int} (h1 : 0 ≤ t ∧ t < 3) (hR : 6 ≤ m 40 0 0 ∧ m 40 0 0 ≤ 24) (hT : 1 ≤ m 40 0 (12 + 116 * t + 0) ∧ m 40 0 (12 + 116 * t + 0) ≤ 24) (hx : 0 ≤ x ∧ x ≤ 24) : ob_E (147, 0, [(11, 0), (1, t), (1, x)], [], (m, none)) = some (ang (m 40 0 0) x (m 40 0 (12 + 116 * t + 0)) (m 40 0 3), (m, none)) := by
  rw [sg_X8_angleNow_0, md_of m h1.1 h1.2 (by omega) (by omega)]
  simp only [Option.bind_some]
  rw [sg_X8_angleNow_8, if_pos (by omega), md_angle m hR.1 hR.2 hT.1 hT.2 hx.1 hx.2]
  simp only [Option.bind_some]
  rw [sg_X8_angleNow_17]
theorem md_begin (m : ob_Mem) {t i d : Int} (h : NV (m 40 0) t i) (h1 : 0 ≤ d) (h2 : d < m 40 0 0) : ob_E (151, 0, [(11, 0), (1, t), (1, i), (1, d)], [], (m, none)) = some (bg (m 40 0) t i d, (m, none)) := by
  obtain ⟨h3, h4, h5, h6, h7, h8⟩ := id h
  have e1 := ang_nn (R := m 40 0 0) (s := m 40 0 (12 + 116 * t + (3 + 3 * i + 1))) (L := m 40 0 (12 + 116 * t + 0)) (w := m 40 0 3) (by omega) (by omega) (by omega)
  have e2 := ang_lt (R := m 40 0 0) (s := m 40 0 (12 + 116 * t + (3 + 3 * i + 1))) (L := m 40 0 (12 + 116 * t + 0)) (w := m 40 0 3) (by omega) (by omega) (by omega)
  rw [sg_X8_begin_0, md_start m h3 h4]
  simp only [Option.bind_some]
  rw [sg_X8_begin_8, md_angleNow m h3 h5 (by omega) (by omega)]
  simp only [Option.bind_some]
  rw [sg_X8_begin_11, md_round]
  simp only [Option.bind_some]
  rw [sg_X8_begin_17, ob_wr_id (by omega) (by omega), if_pos (by omega), rnd_mod (by omega) (by omega) (by omega)]
  rfl
theorem md_hold (m : ob_Mem) {t i : Int} (h : NV (m 40 0) t i) : ob_E (152, 0, [(11, 0), (1, t), (1, i)], [], (m, none)) = some (hd (m 40 0) t i, (m, none)) := by
  obtain ⟨h3, h4, h5, h6, h7, h8⟩ := id h
  have hb := hd_b h
  rw [sg_X8_hold_0, md_start m h3 h4]
  simp only [Option.bind_some]
  rw [sg_X8_hold_8, md_length m h3 h4]
  simp only [Option.bind_some]
  rw [sg_X8_hold_14, ob_wr_id (by omega) (by omega), md_angleNow m h3 h5 (by omega) (by omega)]
  simp only [Option.bind_some]
  rw [sg_X8_hold_18, md_start m h3 h4]
  simp only [Option.bind_some]
  rw [sg_X8_hold_26, md_angleNow m h3 h5 (by omega) (by omega)]
  simp only [Option.bind_some]
  rw [sg_X8_hold_29]
  unfold hd at hb
  rw [ob_wr_id (by omega) (by omega)]
  rfl
theorem md_track (m : ob_Mem) {t k : Int} (h1 : 0 ≤ t ∧ t < 3) (h2 : 0 ≤ k ∧ k < 6) (hT : 2 ≤ m 40 0 2 ∧ m 40 0 2 ≤ 3) : ob_E (153, 0, [(11, 0), (1, t), (1, k)], [], (m, none)) = some (m 40 0 2 * k + t, (m, none)) := by
  have hb := ob_mulb (show 0 ≤ m 40 0 2 by omega) hT.2 h2.1 (show k ≤ 6 by omega)
  rw [sg_X8_track_0, md_tunes]
  simp only [Option.bind_some]
  rw [sg_X8_track_4, ob_wr_id (x := m 40 0 2 * k) (by omega) (by omega), ob_wr_id (by omega) (by omega)]
