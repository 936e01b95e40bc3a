-- NUMBERS: Int beside Int32 and Int64
def ob_r32 (a : Int) : Prop := -2147483648 ≤ a ∧ a < 2147483648
def ob_r64 (a : Int) : Prop := -9223372036854775808 ≤ a ∧ a < 9223372036854775808
theorem ob_wr_r (x : Int) : ob_r32 (ob_wr x) := by
  have h1 := Int.le_bmod (x := x) (m := 4294967296) (by decide)
  have h2 := Int.bmod_lt (x := x) (m := 4294967296) (by decide)
  unfold ob_r32 ob_wr
  omega
theorem ob_wl_r (x : Int) : ob_r64 (ob_wl x) := by
  have h1 := Int.le_bmod (x := x) (m := 18446744073709551616) (by decide)
  have h2 := Int.bmod_lt (x := x) (m := 18446744073709551616) (by decide)
  unfold ob_r64 ob_wl
  omega
theorem ob_wr_id {x : Int} (h1 : -2147483648 ≤ x) (h2 : x < 2147483648) : ob_wr x = x := Int.bmod_eq_of_le (by omega) (by omega)
theorem ob_wl_id {x : Int} (h1 : -9223372036854775808 ≤ x) (h2 : x < 9223372036854775808) : ob_wl x = x := Int.bmod_eq_of_le (by omega) (by omega)
theorem ob_i_to {a : Int} (h : ob_r32 a) : (Int32.ofInt a).toInt = a := Int32.toInt_ofInt_of_le (by have := h.1; omega) (by have := h.2; omega)
theorem ob_l_to {a : Int} (h : ob_r64 a) : (Int64.ofInt a).toInt = a := Int64.toInt_ofInt_of_le (by have := h.1; omega) (by have := h.2; omega)
theorem ob_i_r (x : Int32) : ob_r32 x.toInt := ⟨by have := x.le_toInt; omega, by have := x.toInt_lt; omega⟩
theorem ob_i_wr (x : Int) : Int32.ofInt (ob_wr x) = Int32.ofInt x := by
  apply Int32.toInt_inj.mp
  rw [ob_i_to (ob_wr_r x), Int32.toInt_ofInt]
  rfl
theorem ob_l_wl (x : Int) : Int64.ofInt (ob_wl x) = Int64.ofInt x := by
  apply Int64.toInt_inj.mp
  rw [ob_l_to (ob_wl_r x), Int64.toInt_ofInt]
  rfl
theorem ob_i_lt {a b : Int} (ha : ob_r32 a) (hb : ob_r32 b) : Int32.ofInt a < Int32.ofInt b ↔ a < b := by
  rw [Int32.lt_iff_toInt_lt, ob_i_to ha, ob_i_to hb]
theorem ob_i_le {a b : Int} (ha : ob_r32 a) (hb : ob_r32 b) : Int32.ofInt a ≤ Int32.ofInt b ↔ a ≤ b := by
  rw [Int32.le_iff_toInt_le, ob_i_to ha, ob_i_to hb]
theorem ob_i_eq {a b : Int} (ha : ob_r32 a) (hb : ob_r32 b) : Int32.ofInt a = Int32.ofInt b ↔ a = b := by
  rw [← Int32.toInt_inj, ob_i_to ha, ob_i_to hb]
theorem ob_r0 : ob_r32 0 := ⟨by decide, by decide⟩
theorem ob_i_0 : Int32.ofInt 0 = 0 := rfl
theorem ob_i_nat {a : Int} (h0 : 0 ≤ a) (h : ob_r32 a) : (Int32.ofInt a).toNatClampNeg = a.toNat := Int32.toNatClampNeg_ofInt_of_le (by have := h.1; omega) (by have := h.2; omega)
theorem ob_i_in {a : Int} {n : Nat} (h : ob_r32 a) (h0 : 0 ≤ a) (h1 : a < n) : ¬ (Int32.ofInt a < 0 ∨ n ≤ (Int32.ofInt a).toNatClampNeg) := by
  rw [ob_i_nat h0 h]
  have : ¬ Int32.ofInt a < Int32.ofInt 0 := by
    rw [ob_i_lt h ob_r0]
    omega
  intro q
  rcases q with q | q
  · exact this q
  · omega
theorem ob_i_add (a b : Int) : Int32.ofInt (ob_wr (a + b)) = Int32.ofInt a + Int32.ofInt b := by rw [ob_i_wr, Int32.ofInt_add]
theorem ob_i_sub (a b : Int) : Int32.ofInt (ob_wr (a - b)) = Int32.ofInt a - Int32.ofInt b := by rw [ob_i_wr, Int32.ofInt_sub]
theorem ob_i_mul (a b : Int) : Int32.ofInt (ob_wr (a * b)) = Int32.ofInt a * Int32.ofInt b := by rw [ob_i_wr, Int32.ofInt_mul]
theorem ob_l_add (a b : Int) : Int64.ofInt (ob_wl (a + b)) = Int64.ofInt a + Int64.ofInt b := by rw [ob_l_wl, Int64.ofInt_add]
theorem ob_l_mul (a b : Int) : Int64.ofInt (ob_wl (a * b)) = Int64.ofInt a * Int64.ofInt b := by rw [ob_l_wl, Int64.ofInt_mul]
theorem ob_i_div {a b : Int} (ha : ob_r32 a) (hb : ob_r32 b) : Int32.ofInt (ob_wr (Int.tdiv a b)) = Int32.ofInt a / Int32.ofInt b := by
  rw [ob_i_wr]
  apply Int32.toInt_inj.mp
  rw [Int32.toInt_div, ob_i_to ha, ob_i_to hb, Int32.toInt_ofInt]
theorem ob_i_rem {a b : Int} (ha : ob_r32 a) (hb : ob_r32 b) : Int32.ofInt (Int.tmod a b) = Int32.ofInt a - Int32.ofInt a / Int32.ofInt b * Int32.ofInt b := by
  rw [← ob_i_div ha hb, ob_i_wr, ← Int32.ofInt_mul, ← Int32.ofInt_sub, Int.tmod_def, Int.mul_comm]
theorem ob_tmod_r {a b : Int} (ha : ob_r32 a) : ob_r32 (Int.tmod a b) := by
  have h1 := ha.1
  have h2 := ha.2
  have e : (Int.tmod a b).natAbs = a.natAbs % b.natAbs := Int.natAbs_tmod a b
  have e2 := Nat.mod_le a.natAbs b.natAbs
  by_cases h : 0 ≤ a
  · have e1 := Int.tmod_nonneg b h
    exact ⟨by omega, by omega⟩
  · have e1 := Int.tmod_nonneg (a := -a) b (by omega)
    rw [Int.neg_tmod] at e1
    exact ⟨by omega, by omega⟩
theorem ob_i_i2l {a : Int} (h : ob_r32 a) : (Int32.ofInt a).toInt64 = Int64.ofInt a := by
  have e1 : Int32.minValue.toInt = -2147483648 := by decide
  have e2 : Int32.maxValue.toInt = 2147483647 := by decide
  have h1 := h.1
  have h2 := h.2
  exact Int32.toInt64_ofInt (by omega) (by omega)
theorem ob_i_i2b (a : Int) : (Int32.ofInt a).toInt8.toInt32 = Int32.ofInt (Int.bmod a 256) := by
  rw [Int32.toInt8_ofInt]
  apply Int32.toInt_inj.mp
  rw [Int8.toInt_toInt32, Int8.toInt_ofInt]
  have h1 := Int.le_bmod (x := a) (m := 256) (by decide)
  have h2 := Int.bmod_lt (x := a) (m := 256) (by decide)
  exact (ob_i_to (a := Int.bmod a 256) ⟨by omega, by omega⟩).symm
theorem ob_i_cmp {a b : Int} (ha : ob_r64 a) (hb : ob_r64 b) : lg_cmp (Int64.ofInt a) (Int64.ofInt b) = Int32.ofInt (ob_cmp a b) := by
  have e1 : Int64.ofInt a < Int64.ofInt b ↔ a < b := by rw [Int64.lt_iff_toInt_lt, ob_l_to ha, ob_l_to hb]
  have e3 : Int64.ofInt b < Int64.ofInt a ↔ b < a := by rw [Int64.lt_iff_toInt_lt, ob_l_to ha, ob_l_to hb]
  have e2 : Int64.ofInt a = Int64.ofInt b ↔ a = b := by rw [← Int64.toInt_inj, ob_l_to ha, ob_l_to hb]
  unfold lg_cmp ob_cmp
  by_cases h1 : a < b
  · rw [if_pos h1, if_neg (fun q => by have := e3.mp q; omega), if_neg (fun q => by have := e2.mp q; omega)]
    rfl
  · by_cases h2 : a = b
    · rw [if_neg h1, if_pos h2, if_neg (fun q => by have := e3.mp q; omega), if_pos (e2.mpr h2)]
      rfl
    · rw [if_neg h1, if_neg h2, if_pos (e3.mpr (by omega))]
      rfl
theorem ob_cmp_r (a b : Int) : ob_r32 (ob_cmp a b) := by
  unfold ob_cmp ob_r32
  split
  · omega
  · split <;> omega
theorem ob_bip {n : Int} (h1 : -128 ≤ n) (h2 : n < 128) : (Int8.ofInt n).toInt32 = Int32.ofInt n := by
  apply Int32.toInt_inj.mp
  rw [Int8.toInt_toInt32, Int8.toInt_ofInt_of_le (by omega) (by omega), ob_i_to ⟨by omega, by omega⟩]
theorem ob_sip {n : Int} (h1 : -32768 ≤ n) (h2 : n < 32768) : (Int16.ofInt n).toInt32 = Int32.ofInt n := by
  apply Int32.toInt_inj.mp
  rw [Int16.toInt_toInt32, Int16.toInt_ofInt_of_le (by omega) (by omega), ob_i_to ⟨by omega, by omega⟩]
theorem ob_i_min {a b : Int} (ha : ob_r32 a) (hb : ob_r32 b) : (if Int32.ofInt b < Int32.ofInt a then Int32.ofInt b else Int32.ofInt a) = Int32.ofInt (min a b) := by
  by_cases h : b < a
  · rw [if_pos ((ob_i_lt hb ha).mpr h), show min a b = b by omega]
  · rw [if_neg (fun q => h ((ob_i_lt hb ha).mp q)), show min a b = a by omega]
theorem ob_min_r {a b : Int} (ha : ob_r32 a) (hb : ob_r32 b) : ob_r32 (min a b) := by
  unfold ob_r32 at *
  omega
theorem ob_max_r {a b : Int} (ha : ob_r32 a) (hb : ob_r32 b) : ob_r32 (max a b) := by
  unfold ob_r32 at *
  omega
theorem ob_abs_r {a : Int} (ha : ob_r32 a) : ob_r32 (ob_abs a) := by
  unfold ob_abs
  split
  · exact ob_wr_r _
  · exact ha
