-- THE CLASS: small methods
theorem cl_within (m : ob_Mem) (v lo hi : Int) : ob_E (128, 0, [(1, v), (1, lo), (1, hi)], [], (m, none)) = some (if lo ≤ v ∧ v ≤ hi then 1 else 0, (m, none)) := by
  rw [sg_X7_within_0]
  by_cases h1 : v < lo
  · simp (disch := first | omega | assumption) only [↓if_pos, ↓if_neg, Option.bind_some, ob_wr_id]
  · by_cases h2 : hi < v
    · simp (disch := first | omega | assumption) only [↓if_pos, ↓if_neg, Option.bind_some, ob_wr_id]
    · simp (disch := first | omega | assumption) only [↓if_pos, ↓if_neg, Option.bind_some, ob_wr_id]
theorem cl_round (m : ob_Mem) {a R : Int} (h1 : -1000 ≤ a ∧ a ≤ 1000) (h2 : -1000 ≤ R ∧ R ≤ 1000) : ob_E (130, 0, [(1, a), (1, R)], [], (m, none)) = some (rnd R a, (m, none)) := by
  rw [sg_X7_round_0]
  unfold rnd
  by_cases h : a < R
  · simp (disch := first | omega | assumption) only [↓if_pos, ↓if_neg, Option.bind_some, ob_wr_id]
  · simp (disch := first | omega | assumption) only [↓if_pos, ↓if_neg, Option.bind_some, ob_wr_id]
theorem cl_distance (m : ob_Mem) {a b R : Int} (h1 : -1000 ≤ a ∧ a ≤ 1000) (h2 : -1000 ≤ b ∧ b ≤ 1000) (h3 : -1000 ≤ R ∧ R ≤ 1000) : ob_E (131, 0, [(1, a), (1, b), (1, R)], [], (m, none)) = some (dist R a b, (m, none)) := by
  rw [sg_X7_distance_0]
  unfold dist
  by_cases h : b < a
  · simp (disch := first | omega | assumption) only [↓if_pos, ↓if_neg, Option.bind_some, ob_wr_id]
  · simp (disch := first | omega | assumption) only [↓if_pos, ↓if_neg, Option.bind_some, ob_wr_id]
theorem cl_angle (m : ob_Mem) {s L w R : Int} (hR : 6 ≤ R ∧ R ≤ 24) (hL : 1 ≤ L ∧ L ≤ 24) (hs : 0 ≤ s ∧ s ≤ 24) (hw : 0 ≤ w ∧ w ≤ 2) : ob_E (129, 0, [(1, s), (1, L), (1, w), (1, R)], [], (m, none)) = some (ang R s L w, (m, none)) := by
  have hb := ob_mulb hs.1 hs.2 (show 0 ≤ R by omega) hR.2
  have hc : 2 * s * R = 2 * (s * R) := Int.mul_assoc 2 s R
  rw [sg_X7_angle_0, if_neg (by omega)]
  unfold ang
  by_cases h1 : w = 1
  · rw [if_pos h1, if_neg (show ¬ w = 0 by omega), if_pos h1, ob_wr_id (x := 2 * L) (by omega) (by omega), if_pos (by omega), ob_wr_id (x := 2 * s) (by omega) (by omega), ob_wr_id (x := 2 * s * R) (by omega) (by omega), ob_wr_id (x := 2 * s * R + L) (by omega) (by omega), hc, Int.tdiv_eq_ediv_of_nonneg (by omega)]
    have h1 := Int.ediv_nonneg (show 0 ≤ 2 * (s * R) + L by omega) (show 0 ≤ 2 * L by omega)
    have h2 := Int.ediv_le_self (2 * L) (show 0 ≤ 2 * (s * R) + L by omega)
    rw [ob_wr_id (by omega) (by omega)]
  · by_cases h2 : w = 2
    · rw [if_neg h1, if_pos h2, if_neg (show ¬ w = 0 by omega), if_neg h1, if_pos (by omega), ob_wr_id (x := s * R) (by omega) (by omega), ob_wr_id (x := s * R + L) (by omega) (by omega), ob_wr_id (x := s * R + L - 1) (by omega) (by omega), Int.tdiv_eq_ediv_of_nonneg (by omega)]
      have h1 := Int.ediv_nonneg (show 0 ≤ s * R + L - 1 by omega) (show 0 ≤ L by omega)
      have h2 := Int.ediv_le_self L (show 0 ≤ s * R + L - 1 by omega)
      rw [ob_wr_id (by omega) (by omega)]
    · have h0 : w = 0 := by omega
      rw [if_neg h1, if_neg h2, if_pos h0, if_pos (by omega), ob_wr_id (x := s * R) (by omega) (by omega), Int.tdiv_eq_ediv_of_nonneg hb.1]
      have h1 := Int.ediv_nonneg hb.1 (show 0 ≤ L by omega)
      have h2 := Int.ediv_le_self L hb.1
      rw [ob_wr_id (by omega) (by omega)]
theorem cl_hasTune (m : ob_Mem) {j t : Int} (h : 2 ≤ m 0 j 2 ∧ m 0 j 2 ≤ 3) : ob_E (3, 0, [(3, j), (1, t)], [], (m, none)) = some (if 0 ≤ t ∧ t < m 0 j 2 then 1 else 0, (m, none)) := by
  simp (disch := first | omega | assumption) only [↓if_pos, ↓if_neg, Option.bind_some, ob_wr_id, sg_X0_hasTune_0, sg_X0_hasTune_11, cl_within]
  by_cases q : 0 ≤ t ∧ t < m 0 j 2
  · simp (disch := first | omega | assumption) only [↓if_pos, ↓if_neg, Option.bind_some, ob_wr_id]
  · simp (disch := first | omega | assumption) only [↓if_pos, ↓if_neg, Option.bind_some, ob_wr_id]
theorem cl_hasKey (m : ob_Mem) {j t : Int} (h : 1 ≤ m 0 j 1 ∧ m 0 j 1 ≤ 6) : ob_E (4, 0, [(3, j), (1, t)], [], (m, none)) = some (if 0 ≤ t ∧ t < m 0 j 1 then 1 else 0, (m, none)) := by
  simp (disch := first | omega | assumption) only [↓if_pos, ↓if_neg, Option.bind_some, ob_wr_id, sg_X0_hasKey_0, sg_X0_hasKey_11, cl_within]
  by_cases q : 0 ≤ t ∧ t < m 0 j 1
  · simp (disch := first | omega | assumption) only [↓if_pos, ↓if_neg, Option.bind_some, ob_wr_id]
  · simp (disch := first | omega | assumption) only [↓if_pos, ↓if_neg, Option.bind_some, ob_wr_id]
theorem cl_hasNote (m : ob_Mem) {j t i : Int} (h : 2 ≤ m 0 j 2 ∧ m 0 j 2 ≤ 3) (hc : 0 ≤ m 3 (2 * (3 * j + t)) 2 ∧ m 3 (2 * (3 * j + t)) 2 ≤ 12) : ob_E (5, 0, [(3, j), (1, t), (1, i)], [], (m, none)) = some (if (0 ≤ t ∧ t < m 0 j 2) ∧ 0 ≤ i ∧ i < m 3 (2 * (3 * j + t)) 2 then 1 else 0, (m, none)) := by
  by_cases q : 0 ≤ t ∧ t < m 0 j 2
  · by_cases q2 : 0 ≤ i ∧ i < m 3 (2 * (3 * j + t)) 2
    · simp (disch := first | omega | assumption) only [↓if_pos, ↓if_neg, Option.bind_some, ob_wr_id, sg_X0_hasNote_0, sg_X0_hasNote_5, sg_X0_hasNote_24, cl_hasTune, cl_within]
    · simp (disch := first | omega | assumption) only [↓if_pos, ↓if_neg, Option.bind_some, ob_wr_id, sg_X0_hasNote_0, sg_X0_hasNote_5, sg_X0_hasNote_24, cl_hasTune, cl_within]
  · simp (disch := first | omega | assumption) only [↓if_pos, ↓if_neg, Option.bind_some, ob_wr_id, sg_X0_hasNote_0, sg_X0_hasNote_5, sg_X0_hasNote_24, cl_hasTune, cl_within]
theorem cl_tracks (m : ob_Mem) {j : Int} (h : 2 ≤ m 0 j 2 ∧ m 0 j 2 ≤ 3) (h2 : 1 ≤ m 0 j 1 ∧ m 0 j 1 ≤ 6) : ob_E (6, 0, [(3, j)], [], (m, none)) = some (m 0 j 2 * m 0 j 1, (m, none)) := by
  have hb := ob_mulb (show 0 ≤ m 0 j 2 by omega) h.2 (show 0 ≤ m 0 j 1 by omega) h2.2
  simp (disch := first | omega | assumption) only [↓if_pos, ↓if_neg, Option.bind_some, ob_wr_id, sg_X0_tracks_0]
theorem cl_track (m : ob_Mem) {j k t : Int} (h : 2 ≤ m 0 j 2 ∧ m 0 j 2 ≤ 3) (hk : 0 ≤ k ∧ k < 6) (ht : 0 ≤ t ∧ t < 3) : ob_E (7, 0, [(3, j), (1, k), (1, t)], [], (m, none)) = some (m 0 j 2 * k + t, (m, none)) := by
  have hb := ob_mulb (show 0 ≤ m 0 j 2 by omega) h.2 hk.1 (show k ≤ 6 by omega)
  simp (disch := first | omega | assumption) only [↓if_pos, ↓if_neg, Option.bind_some, ob_wr_id, sg_X0_track_0]
theorem dist_sw {R a b : Int} (h : a ≠ b) : dist R b a = R - dist R a b := by
  unfold dist
  by_cases q : a ≤ b
  · rw [if_pos q, if_neg (by omega)]
    omega
  · rw [if_neg q, if_pos (by omega)]
    omega
theorem cl_canBe (m : ob_Mem) {j a h b h2 : Int} (hR : 6 ≤ m 0 j 0 ∧ m 0 j 0 ≤ 24) (hD : 0 ≤ m 0 j 4 ∧ m 0 j 4 ≤ 3) (ha : 0 ≤ a ∧ a < m 0 j 0) (hb : 0 ≤ b ∧ b < m 0 j 0) (hh : 0 ≤ h ∧ h ≤ 24) (hh2 : 0 ≤ h2 ∧ h2 ≤ 24) : ob_E (23, 0, [(3, j), (1, dist (m 0 j 0) a b), (1, h), (1, h2)], [], (m, none)) = some (if beB (m 0 j 0) (m 0 j 4) a h b h2 = true then 1 else 0, (m, none)) := by
  have d := dist_b ha hb
  rw [sg_X0_canBeBeside_0]
  unfold beB
  by_cases e : a = b
  · have d0 : dist (m 0 j 0) a b = 0 := by
      unfold dist
      rw [if_pos (by omega)]
      omega
    by_cases e2 : h = h2
    · simp [e, e2, dist]
    · simp [e, e2, dist]
  · have d0 : dist (m 0 j 0) a b ≠ 0 := by
      unfold dist
      split <;> omega
    rw [dist_sw e, if_neg d0, if_neg e, ob_wr_id (x := h + m 0 j 4) (by omega) (by omega), ob_wr_id (by omega) (by omega), ob_wr_id (by omega) (by omega)]
    by_cases c1 : dist (m 0 j 0) a b < h + m 0 j 4
    · rw [if_pos c1, decide_eq_false (show ¬ (h + m 0 j 4 ≤ dist (m 0 j 0) a b) by omega)]
      simp
    · rw [if_neg c1, decide_eq_true (show h + m 0 j 4 ≤ dist (m 0 j 0) a b by omega)]
      by_cases c2 : m 0 j 0 - dist (m 0 j 0) a b < h2 + m 0 j 4
      · rw [if_pos c2, decide_eq_false (show ¬ (h2 + m 0 j 4 ≤ m 0 j 0 - dist (m 0 j 0) a b) by omega)]
        simp
      · rw [if_neg c2, decide_eq_true (show h2 + m 0 j 4 ≤ m 0 j 0 - dist (m 0 j 0) a b by omega)]
        simp
