-- ANGLES
theorem ob_mulb {a b A B : Int} (h1 : 0 ≤ a) (h2 : a ≤ A) (h3 : 0 ≤ b) (h4 : b ≤ B) : 0 ≤ a * b ∧ a * b ≤ A * B :=
  ⟨Int.mul_nonneg h1 h3, Int.le_trans (Int.mul_le_mul_of_nonneg_right h2 h3) (Int.mul_le_mul_of_nonneg_left h4 (Int.le_trans h1 h2))⟩
def ang (R s L w : Int) : Int := if w = 0 then s * R / L else if w = 1 then (2 * (s * R) + L) / (2 * L) else (s * R + L - 1) / L
def rnd (R a : Int) : Int := if R ≤ a then a - R else a
theorem ob_divb {a b q : Int} (h : 0 < b) (h1 : q * b ≤ a) (h2 : a < (q + 1) * b) : a / b = q := by
  have e1 : q ≤ a / b := (Int.le_ediv_iff_mul_le h).mpr h1
  have e2 : a / b < q + 1 := (Int.ediv_lt_iff_lt_mul h).mpr h2
  omega
/-- the angle of a tick: within, and each tick holds an angle or more -/
theorem ang_nn {R s L w : Int} (hL : 1 ≤ L) (hR : 0 ≤ R) (hs : 0 ≤ s) : 0 ≤ ang R s L w := by
  have h := Int.mul_nonneg hs hR
  unfold ang
  split
  · exact Int.ediv_nonneg h (by omega)
  · split
    · exact Int.ediv_nonneg (by omega) (by omega)
    · exact Int.ediv_nonneg (by omega) (by omega)
theorem ang_le {R s L w : Int} (hL : 1 ≤ L) (hR : 0 ≤ R) (hsL : s ≤ L) : ang R s L w ≤ R := by
  have h : s * R ≤ L * R := Int.mul_le_mul_of_nonneg_right hsL hR
  have hc : L * R = R * L := Int.mul_comm L R
  unfold ang
  split
  · exact Int.ediv_le_of_le_mul (by omega) (by omega)
  · split
    · have e : (R + 1) * (2 * L) = 2 * (R * L) + 2 * L := by rw [Int.add_mul, Int.one_mul, ← Int.mul_assoc, Int.mul_comm R 2, Int.mul_assoc]
      have := (Int.ediv_lt_iff_lt_mul (show 0 < 2 * L by omega) (a := 2 * (s * R) + L) (b := R + 1)).mpr (by rw [e]; omega)
      omega
    · have e : (R + 1) * L = R * L + L := by rw [Int.add_mul, Int.one_mul]
      have := (Int.ediv_lt_iff_lt_mul (show 0 < L by omega) (a := s * R + L - 1) (b := R + 1)).mpr (by rw [e]; omega)
      omega
theorem ang_step {R s L w : Int} (hL : 1 ≤ L) (hLR : L ≤ R) : ang R s L w + 1 ≤ ang R (s + 1) L w := by
  have h : (s + 1) * R = s * R + R := by rw [Int.add_mul, Int.one_mul]
  unfold ang
  split
  · rw [h]
    have : (s * R + 1 * L) / L = s * R / L + 1 := Int.add_mul_ediv_right _ _ (by omega)
    rw [← this]
    exact Int.ediv_le_ediv (by omega) (by omega)
  · split
    · rw [h]
      have : (2 * (s * R) + L + 1 * (2 * L)) / (2 * L) = (2 * (s * R) + L) / (2 * L) + 1 := Int.add_mul_ediv_right _ _ (by omega)
      rw [← this]
      exact Int.ediv_le_ediv (by omega) (by omega)
    · rw [h]
      have : (s * R + L - 1 + 1 * L) / L = (s * R + L - 1) / L + 1 := Int.add_mul_ediv_right _ _ (by omega)
      rw [← this]
      exact Int.ediv_le_ediv (by omega) (by omega)
theorem ang_add {R s L w : Int} (hL : 1 ≤ L) (hLR : L ≤ R) : ∀ n : Nat, ang R s L w + n ≤ ang R (s + n) L w
  | 0 => by simp
  | n + 1 => by
    have h1 := ang_add (s := s) (w := w) hL hLR n
    have h2 := ang_step (s := s + n) (w := w) hL hLR
    rw [show s + ((n + 1 : Nat) : Int) = s + n + 1 by omega]
    omega
theorem ang_mono {R s e L w : Int} (hL : 1 ≤ L) (hLR : L ≤ R) (h : s ≤ e) : ang R s L w + (e - s) ≤ ang R e L w := by
  have := ang_add (R := R) (s := s) (L := L) (w := w) hL hLR (e - s).toNat
  rw [show s + (((e - s).toNat : Nat) : Int) = e by omega] at this
  omega
theorem ang_lt {R s L w : Int} (hL : 1 ≤ L) (hLR : L ≤ R) (hsL : s < L) : ang R s L w < R := by
  have h1 := ang_step (s := s) (w := w) hL hLR
  have h2 := ang_le (R := R) (s := s + 1) (w := w) hL (by omega) (by omega)
  omega
theorem md_angle (m : ob_Mem) {s L w : Int} (hR : 6 ≤ m 40 0 0) (hR2 : m 40 0 0 ≤ 24) (hL : 1 ≤ L) (hL2 : L ≤ 24) (hs : 0 ≤ s) (hs2 : s ≤ 24) : ob_E (146, 0, [(11, 0), (1, s), (1, L), (1, w), (0, 0)], [], (m, none)) = some (ang (m 40 0 0) s L w, (m, none)) := by
  have hb := ob_mulb hs hs2 (show 0 ≤ m 40 0 0 by omega) hR2
  rw [sg_X8_angle_0, md_round]
  simp only [Option.bind_some]
  rw [sg_X8_angle_5, ob_wr_id (x := s * m 40 0 0) (by omega) (by omega)]
  unfold ang
  by_cases h0 : w = 0
  · rw [if_pos h0, if_pos h0, if_pos (by omega), Int.tdiv_eq_ediv_of_nonneg hb.1]
    have h1 := Int.ediv_nonneg hb.1 (show 0 ≤ L by omega)
    have h2 := Int.ediv_le_self L hb.1
    rw [ob_wr_id (by omega) (by omega)]
  · rw [if_neg h0, if_neg h0]
    by_cases h1 : w = 1
    · rw [if_pos h1, if_pos h1, ob_wr_id (x := 2 * L) (by omega) (by omega), if_pos (by omega), ob_wr_id (x := 2 * (s * m 40 0 0)) (by omega) (by omega), ob_wr_id (x := 2 * (s * m 40 0 0) + L) (by omega) (by omega), Int.tdiv_eq_ediv_of_nonneg (by omega)]
      have h1 := Int.ediv_nonneg (show 0 ≤ 2 * (s * m 40 0 0) + L by omega) (show 0 ≤ 2 * L by omega)
      have h2 := Int.ediv_le_self (2 * L) (show 0 ≤ 2 * (s * m 40 0 0) + L by omega)
      rw [ob_wr_id (by omega) (by omega)]
    · rw [if_neg h1, if_neg h1, if_pos (by omega), ob_wr_id (x := s * m 40 0 0 + L) (by omega) (by omega), ob_wr_id (x := s * m 40 0 0 + L - 1) (by omega) (by omega), Int.tdiv_eq_ediv_of_nonneg (by omega)]
      have h1 := Int.ediv_nonneg (show 0 ≤ s * m 40 0 0 + L - 1 by omega) (show 0 ≤ L by omega)
      have h2 := Int.ediv_le_self L (show 0 ≤ s * m 40 0 0 + L - 1 by omega)
      rw [ob_wr_id (by omega) (by omega)]
