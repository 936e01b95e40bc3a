-- THE CLASS: dropping a note, taking off, building, copies, laying
def drV (s : Int → Int) (t i : Int) : Int := if (0 ≤ t ∧ t < s 2) ∧ 0 ≤ i ∧ i < s (12 + 116 * t + 2) then s (12 + 116 * t + 2) - 1 else -2
def drS (s : Int → Int) (t i : Int) : Int → Int := if (0 ≤ t ∧ t < s 2) ∧ 0 ≤ i ∧ i < s (12 + 116 * t + 2) then (fun p => if 12 + 116 * t + (3 + 3 * i) ≤ p ∧ p < 12 + 116 * t + (3 + 3 * (s (12 + 116 * t + 2) - 1)) then s (p + 3) else if p = 12 + 116 * t + 2 then s (12 + 116 * t + 2) - 1 else s p) else s
theorem cl_removeNote {W : Int} {m : ob_Mem} {j t i : Int} {s : Int → Int} (hV : VV W s) (h : Rep m j s) : wp (ob_E (13, 0, [(3, j), (1, t), (1, i)], [], (m, none))) (CO m j (drV s t i) (drS s t i)) := by
  obtain ⟨⟨v1, v2, v3, -⟩, v8⟩ := id hV
  have e1 := rpT h
  unfold drV drS
  by_cases c0 : 0 ≤ t ∧ t < s 2
  · have ht : 0 ≤ t ∧ t < 3 := by omega
    obtain ⟨⟨w1, w2, w3, w4, w5⟩, -⟩ := v8 t ht.1 ht.2
    have em := rpm h ht
    by_cases c1 : 0 ≤ i ∧ i < s (12 + 116 * t + 2)
    · rw [if_pos ⟨c0, c1⟩, if_pos ⟨c0, c1⟩, sg_X0_removeNote_0]
      simp (disch := first | omega | assumption) only [↓if_pos, ↓if_neg, Option.bind_some, ob_wr_id, sg_X0_removeNote_6, sg_X3_remove_0, cl_hasNote]
      refine wp_b (Q := fun v m' => v = s (12 + 116 * t + 2) - 1 ∧ sm (gN (2 * (3 * j + t))) m m' ∧ m' 3 (2 * (3 * j + t)) 2 = s (12 + 116 * t + 2) - 1 ∧ (∀ w, w ≠ 2 → m' 3 (2 * (3 * j + t)) w = m 3 (2 * (3 * j + t)) w) ∧ ∀ k, k = 26 ∨ k = 27 ∨ k = 28 → ∀ x, m' k (2 * (3 * j + t)) x = if i ≤ x ∧ x < s (12 + 116 * t + 2) - 1 then m k (2 * (3 * j + t)) (x + 1) else m k (2 * (3 * j + t)) x) ?_ ?_
      · refine wp_for (fun y (m' : ob_Mem) => ob_E (41, 4, [(6, 2 * (3 * j + t)), (1, i), (1, y)], [], (m', none))) (i + 1) (s (12 + 116 * t + 2)) (fun y m' => sm (gN (2 * (3 * j + t))) m m' ∧ (∀ w, m' 3 (2 * (3 * j + t)) w = m 3 (2 * (3 * j + t)) w) ∧ ∀ k, k = 26 ∨ k = 27 ∨ k = 28 → ∀ x, m' k (2 * (3 * j + t)) x = if i ≤ x ∧ x < y - 1 then m k (2 * (3 * j + t)) (x + 1) else m k (2 * (3 * j + t)) x) ?_ ?_ (by omega) ⟨sm_r, fun _ => rfl, fun k _ x => (if_neg (by omega)).symm⟩
        · intro y m1 h1 h2 ⟨i1, i2, i3⟩ hk
          have i2' := i2 2
          rw [sg_X3_remove_4]
          simp (disch := first | omega | assumption) only [↓if_pos, ↓if_neg, Option.bind_some, ob_wr_id, rs_k, rs_i, rs_s, rs_e]
          refine hk _ ⟨sm_set (sm_set (sm_set i1 ⟨by omega, rfl⟩) ⟨by omega, rfl⟩) ⟨by omega, rfl⟩, fun w => ?_, fun k hk3 x => ?_⟩
          · simp (disch := omega) only [rs_k, rs_i, rs_s, rs_e, up_e, up_n]
            exact i2 w
          · have q1 := i3 k hk3 x
            have q2 := i3 k hk3 y
            rw [if_neg (by omega)] at q2
            by_cases ex : x = y - 1
            · rw [if_pos (by omega)]
              rcases hk3 with rfl | rfl | rfl
              · simp (disch := omega) only [rs_k, rs_i, rs_s, rs_e, up_e, up_n]
                rw [q2, ex, show y - 1 + 1 = y by omega]
              · simp (disch := omega) only [rs_k, rs_i, rs_s, rs_e, up_e, up_n]
                rw [q2, ex, show y - 1 + 1 = y by omega]
              · simp (disch := omega) only [rs_k, rs_i, rs_s, rs_e, up_e, up_n]
                rw [q2, ex, show y - 1 + 1 = y by omega]
            · have q3 : (if i ≤ x ∧ x < y + 1 - 1 then m k (2 * (3 * j + t)) (x + 1) else m k (2 * (3 * j + t)) x) = (if i ≤ x ∧ x < y - 1 then m k (2 * (3 * j + t)) (x + 1) else m k (2 * (3 * j + t)) x) := by
                by_cases q4 : i ≤ x ∧ x < y - 1
                · rw [if_pos q4, if_pos (by omega)]
                · rw [if_neg q4, if_neg (by omega)]
              rw [q3, ← q1]
              rcases hk3 with rfl | rfl | rfl
              · simp (disch := omega) only [rs_k, rs_i, rs_s, rs_e, up_e, up_n]
              · simp (disch := omega) only [rs_k, rs_i, rs_s, rs_e, up_e, up_n]
              · simp (disch := omega) only [rs_k, rs_i, rs_s, rs_e, up_e, up_n]
        · intro m1 ⟨i1, i2, i3⟩
          have i2' := i2 2
          rw [sg_X3_remove_4]
          simp (disch := first | omega | assumption) only [↓if_pos, ↓if_neg, Option.bind_some, ob_wr_id, rs_k, rs_i, rs_s, rs_e]
          refine wp_ret ⟨by omega, sm_set i1 ⟨by omega, rfl⟩, by simp (disch := omega) only [rs_k, rs_i, rs_s, rs_e, up_e, up_n]; omega, fun w hw => ?_, fun k hk3 x => ?_⟩
          · simp (disch := omega) only [rs_k, rs_i, rs_s, rs_e, up_e, up_n]
            exact i2 w
          · simp (disch := omega) only [rs_k, rs_i, rs_s, rs_e, up_e, up_n]
            exact i3 k hk3 x
      · intro v m' ⟨r1, r2, r3, r4, r5⟩
        rw [sg_X0_removeNote_19]
        refine wp_ret ⟨r1, Rep_N hV h ht r2 (fun p hp => ?_) ⟨?_, ?_, ?_, fun x h1 h2 => ?_⟩, sm_m r2 (fun k i => gN_gB ht)⟩
        · rw [if_neg (by omega), if_neg (by omega)]
        · show _ = if _ then _ else _
          rw [if_neg (by omega), if_neg (by omega), r4 _ (by omega)]
          exact rpt h ht
        · show _ = if _ then _ else _
          rw [if_neg (by omega), if_neg (by omega), r4 _ (by omega)]
          exact rps h ht
        · show _ = if _ then _ else _
          rw [if_neg (by omega), if_pos (by omega), r3]
        · have h2 : x < if _ then _ else _ := h2
          rw [if_neg (by omega), if_pos (by omega)] at h2
          show _ = (if _ then _ else _) ∧ _ = (if _ then _ else _) ∧ _ = (if _ then _ else _)
          rw [r5 26 (by omega), r5 27 (by omega), r5 28 (by omega)]
          by_cases c : i ≤ x
          · have a1 := rpk h ht (x + 1) (by omega) (by omega)
            have a2 := rpa h ht (x + 1) (by omega) (by omega)
            have a3 := rpl h ht (x + 1) (by omega) (by omega)
            rw [if_pos (by omega), if_pos (by omega), if_pos (by omega), if_pos (by omega), if_pos (by omega), if_pos (by omega), a1, a2, a3]
            refine ⟨congrArg s (by omega), congrArg s (by omega), congrArg s (by omega)⟩
          · have a1 := rpk h ht x (by omega) (by omega)
            have a2 := rpa h ht x (by omega) (by omega)
            have a3 := rpl h ht x (by omega) (by omega)
            rw [if_neg (by omega), if_neg (by omega), if_neg (by omega), if_neg (by omega), if_neg (by omega), if_neg (by omega), if_neg (by omega), if_neg (by omega), if_neg (by omega), a1, a2, a3]
            exact ⟨rfl, rfl, rfl⟩
    · rw [if_neg (by omega), if_neg (by omega)]
      simp (disch := first | omega | assumption) only [↓if_pos, ↓if_neg, Option.bind_some, ob_wr_id, sg_X0_removeNote_0, sg_X0_removeNote_6, sg_X0_removeNote_19, cl_hasNote]
      exact wp_ret ⟨rfl, h, sm_r⟩
  · rw [if_neg (by omega), if_neg (by omega)]
    rw [sg_X0_removeNote_0, sg_X0_hasNote_0, cl_hasTune m (by omega)]
    simp (disch := first | omega | assumption) only [↓if_pos, ↓if_neg, Option.bind_some, ob_wr_id, sg_X0_removeNote_6, sg_X0_removeNote_19, sg_X0_hasNote_5, sg_X0_hasNote_24]
    exact wp_ret ⟨rfl, h, sm_r⟩
def ofV (s : Int → Int) (t : Int) : Int := if 0 ≤ t ∧ t < s 2 then (if s (12 + 116 * t + 39) = 1 then s (12 + 116 * t + 43) else -3) else -2
def ofS (s : Int → Int) (t : Int) : Int → Int := if (0 ≤ t ∧ t < s 2) ∧ s (12 + 116 * t + 39) = 1 then (fun p => if 12 + 116 * t + 39 ≤ p ∧ p < 12 + 116 * t + 116 then 0 else s p) else s
theorem cl_takeOff {W : Int} {m : ob_Mem} {j t : Int} {s : Int → Int} (hV : VV W s) (h : Rep m j s) : wp (ob_E (15, 0, [(3, j), (1, t)], [], (m, none))) (CO m j (ofV s t) (ofS s t)) := by
  obtain ⟨⟨v1, v2, v3, -⟩, v8⟩ := id hV
  have e1 := rpT h
  unfold ofV ofS
  by_cases c0 : 0 ≤ t ∧ t < s 2
  · have ht : 0 ≤ t ∧ t < 3 := by omega
    obtain ⟨-, w1, w2, w3⟩ := v8 t ht.1 ht.2
    have eP := rpP h ht
    by_cases c1 : s (12 + 116 * t + 39) = 1
    · have eN : m 3 (2 * (3 * j + t) + 1) 2 = s (12 + 116 * t + 43) := rqN (rpQ h ht c1)
      rw [if_pos c0, if_pos c1, if_pos ⟨c0, c1⟩]
      simp (disch := first | omega | assumption) only [↓if_pos, ↓if_neg, Option.bind_some, ob_wr_id, rs_k, rs_i, rs_s, rs_e, sg_X0_takeOff_0, sg_X0_takeOff_5, cl_hasTune]
      have z : sm (gP (3 * j + t)) m (ob_set m 5 (3 * j + t) 0 0) := sm_set sm_r (Or.inr ⟨by omega, rfl⟩)
      refine wp_ret ⟨eN, Rep_P hV h ht z (fun p hp => if_neg hp) ?_ (fun hp => ?_), sm_m z (fun k i => gP_gB ht)⟩
      · rw [if_pos (by omega), rs_e rfl rfl]
      · rw [if_pos (by omega)] at hp
        omega
    · rw [if_pos c0, if_neg c1, if_neg (by omega)]
      simp (disch := first | omega | assumption) only [↓if_pos, ↓if_neg, Option.bind_some, ob_wr_id, rs_k, rs_i, rs_s, rs_e, sg_X0_takeOff_0, sg_X0_takeOff_5, cl_hasTune]
      exact wp_ret ⟨rfl, h, sm_r⟩
  · rw [if_neg c0, if_neg (by omega)]
    simp (disch := first | omega | assumption) only [↓if_pos, ↓if_neg, Option.bind_some, ob_wr_id, rs_k, rs_i, rs_s, rs_e, sg_X0_takeOff_0, sg_X0_takeOff_5, cl_hasTune]
    exact wp_ret ⟨rfl, h, sm_r⟩
theorem cl_tuneValue {W : Int} {m : ob_Mem} {j t w : Int} {s : Int → Int} (hV : VV W s) (h : Rep m j s) (ht : 0 ≤ t ∧ t < 3) (hw : 0 ≤ w ∧ w ≤ 7) : ob_E (16, 0, [(3, j), (1, t), (1, w), (0, 0)], [], (m, none)) = some (tuV s t w, (m, none)) := by
  obtain ⟨-, w1, w2, w3⟩ := hV.2 t ht.1 ht.2
  have eP := rpP h ht
  have et := rpt h ht
  have es := rps h ht
  have em := rpm h ht
  unfold tuV
  rw [sg_X0_tuneValue_0]
  by_cases c : s (12 + 116 * t + 39) = 1
  · have q := rpQ h ht c
    have q1 : m 5 (3 * j + t) 1 = s (12 + 116 * t + 42) := rqW q
    have q2 : m 3 (2 * (3 * j + t) + 1) 0 = s (12 + 116 * t + 40) := rqT q
    have q3 : m 3 (2 * (3 * j + t) + 1) 1 = s (12 + 116 * t + 41) := rqS q
    have q4 : m 3 (2 * (3 * j + t) + 1) 2 = s (12 + 116 * t + 43) := rqN q
    by_cases w0 : w = 0
    · simp (disch := first | omega | assumption) only [↓if_pos, ↓if_neg, Option.bind_some, ob_wr_id, sg_X0_tuneValue_21, et]
    · by_cases w1 : w = 1
      · simp (disch := first | omega | assumption) only [↓if_pos, ↓if_neg, Option.bind_some, ob_wr_id, sg_X0_tuneValue_21, em]
      · by_cases w2 : w = 2
        · simp (disch := first | omega | assumption) only [↓if_pos, ↓if_neg, Option.bind_some, ob_wr_id, sg_X0_tuneValue_21, es]
        · by_cases w3 : w = 3
          · simp (disch := first | omega | assumption) only [↓if_pos, ↓if_neg, Option.bind_some, ob_wr_id, sg_X0_tuneValue_21]
            rw [c]
          · by_cases w4 : w = 4
            · simp (disch := first | omega | assumption) only [↓if_pos, ↓if_neg, Option.bind_some, ob_wr_id, sg_X0_tuneValue_21, q2]
            · by_cases w5 : w = 5
              · simp (disch := first | omega | assumption) only [↓if_pos, ↓if_neg, Option.bind_some, ob_wr_id, sg_X0_tuneValue_21, q3]
              · by_cases w6 : w = 6
                · simp (disch := first | omega | assumption) only [↓if_pos, ↓if_neg, Option.bind_some, ob_wr_id, sg_X0_tuneValue_21, q4]
                · simp (disch := first | omega | assumption) only [↓if_pos, ↓if_neg, Option.bind_some, ob_wr_id, sg_X0_tuneValue_21, q1]
  · by_cases w0 : w = 0
    · simp (disch := first | omega | assumption) only [↓if_pos, ↓if_neg, Option.bind_some, ob_wr_id, sg_X0_tuneValue_21, et]
    · by_cases w1 : w = 1
      · simp (disch := first | omega | assumption) only [↓if_pos, ↓if_neg, Option.bind_some, ob_wr_id, sg_X0_tuneValue_21, em]
      · by_cases w2 : w = 2
        · simp (disch := first | omega | assumption) only [↓if_pos, ↓if_neg, Option.bind_some, ob_wr_id, sg_X0_tuneValue_21, es]
        · by_cases w3 : w = 3
          · simp (disch := first | omega | assumption) only [↓if_pos, ↓if_neg, Option.bind_some, ob_wr_id, sg_X0_tuneValue_21]
            rw [show s (12 + 116 * t + 39) = 0 by omega]
          · simp (disch := first | omega | assumption) only [↓if_pos, ↓if_neg, Option.bind_some, ob_wr_id]
theorem cl_noteValue {W : Int} {m : ob_Mem} {j t i w : Int} {s : Int → Int} (hV : VV W s) (h : Rep m j s) (ht : 0 ≤ t ∧ t < 3) (hi : 0 ≤ i ∧ i < s (12 + 116 * t + 2)) (hw : 0 ≤ w ∧ w ≤ 4) : ob_E (17, 0, [(3, j), (1, t), (1, i), (1, w), (0, 0), (0, 0)], [], (m, none)) = some (noV s t i w, (m, none)) := by
  obtain ⟨⟨v1, v2, v3, v4, -⟩, v8⟩ := id hV
  obtain ⟨⟨w1, w2, w3, w4, w5⟩, -⟩ := v8 t ht.1 ht.2
  obtain ⟨n1, n2⟩ := w5 i hi.1 hi.2
  have hN := ((VV_SV hV).2.2.2.2.2.2.1 t ht.1 ht.2).2.2.2 i hi.1 hi.2
  have hh := hd_b hN
  have eR := rpR h
  have eW := rpW h
  have et := rpt h ht
  have es := rps h ht
  have ek := rpk h ht i hi.1 hi.2
  have ea := rpa h ht i hi.1 hi.2
  have el := rpl h ht i hi.1 hi.2
  have a1 := ang_nn (R := s 0) (s := s (12 + 116 * t + (3 + 3 * i + 1))) (L := s (12 + 116 * t + 0)) (w := s 3) (by omega) (by omega) (by omega)
  have a2 := ang_lt (R := s 0) (s := s (12 + 116 * t + (3 + 3 * i + 1))) (L := s (12 + 116 * t + 0)) (w := s 3) (by omega) (by omega) (by omega)
  unfold noV
  unfold hd at hh
  rw [sg_X0_noteValue_0, if_pos ht, if_pos (by omega), ea, et, eW, eR, cl_angle m v1 (by omega) (by omega) v4]
  by_cases w0 : w = 0
  · simp (disch := first | omega | assumption) only [↓if_pos, ↓if_neg, Option.bind_some, ob_wr_id, sg_X0_noteValue_31, sg_X0_noteValue_103, sg_X0_noteValue_135, ek]
  · by_cases w1 : w = 1
    · simp (disch := first | omega | assumption) only [↓if_pos, ↓if_neg, Option.bind_some, ob_wr_id, sg_X0_noteValue_31, sg_X0_noteValue_103, sg_X0_noteValue_135, ea]
    · by_cases w2 : w = 2
      · simp (disch := first | omega | assumption) only [↓if_pos, ↓if_neg, Option.bind_some, ob_wr_id, sg_X0_noteValue_31, sg_X0_noteValue_103, sg_X0_noteValue_135, el]
      · by_cases w3 : w = 3
        · simp (disch := first | omega | assumption) only [↓if_pos, ↓if_neg, Option.bind_some, ob_wr_id, sg_X0_noteValue_31, sg_X0_noteValue_103, sg_X0_noteValue_135, es, eR, cl_round]
          rfl
        · simp (disch := first | omega | assumption) only [↓if_pos, ↓if_neg, Option.bind_some, ob_wr_id, sg_X0_noteValue_31, sg_X0_noteValue_103, sg_X0_noteValue_135, ea, el, et, eR, eW, cl_angle]
          rfl
/-- one notes' object is a copy of another -/
def cpN (m m' : ob_Mem) (a b : Int) : Prop := (m' 3 a 0 = m 3 b 0 ∧ m' 3 a 1 = m 3 b 1 ∧ m' 3 a 2 = m 3 b 2) ∧ ∀ i, 0 ≤ i → i < 12 → m' 26 a i = m 26 b i ∧ m' 27 a i = m 27 b i ∧ m' 28 a i = m 28 b i
theorem cl_copyN {m : ob_Mem} {a b : Int} (hab : a ≠ b) : wp (ob_E (38, 0, [(6, a), (6, b)], [], (m, none))) (fun _ m' => cpN m m' a b ∧ sm (gN a) m m') := by
  rw [sg_X3_copyFrom_0]
  simp (disch := first | omega | assumption) only [↓if_pos, ↓if_neg, Option.bind_some, ob_wr_id, rs_k, rs_i, rs_s, rs_e]
  refine wp_ret ⟨⟨⟨?_, ?_, ?_⟩, fun i h1 h2 => ⟨?_, ?_, ?_⟩⟩, sm_cpy (sm_cpy (sm_cpy (sm_set (sm_set (sm_set sm_r ⟨by omega, rfl⟩) ⟨by omega, rfl⟩) ⟨by omega, rfl⟩) ⟨by omega, rfl⟩) ⟨by omega, rfl⟩) ⟨by omega, rfl⟩⟩
  · simp (disch := omega) only [rs_k, rs_i, rs_s, rs_e, up_e, up_n, rc_k, rc_e]
  · simp (disch := omega) only [rs_k, rs_i, rs_s, rs_e, up_e, up_n, rc_k, rc_e]
  · simp (disch := omega) only [rs_k, rs_i, rs_s, rs_e, up_e, up_n, rc_k, rc_e]
  · simp (disch := omega) only [rs_k, rs_i, rs_s, rs_e, up_e, up_n, rc_k, rc_e]
    rw [show (0 : Int) + (i - 0) = i by omega]
  · simp (disch := omega) only [rs_k, rs_i, rs_s, rs_e, up_e, up_n, rc_k, rc_e]
    rw [show (0 : Int) + (i - 0) = i by omega]
  · simp (disch := omega) only [rs_k, rs_i, rs_s, rs_e, up_e, up_n, rc_k, rc_e]
    rw [show (0 : Int) + (i - 0) = i by omega]
theorem cpN_rN {m m' : ob_Mem} {a b : Int} {q : Int → Int} (h : cpN m m' a b) (hb : rN m b q) (h12 : q 2 ≤ 12) : rN m' a q := by
  obtain ⟨⟨h1, h2, h3⟩, h4⟩ := h
  obtain ⟨b1, b2, b3, b4⟩ := hb
  refine ⟨h1.trans b1, h2.trans b2, h3.trans b3, fun i g1 g2 => ?_⟩
  obtain ⟨c1, c2, c3⟩ := h4 i g1 (by omega)
  obtain ⟨d1, d2, d3⟩ := b4 i g1 g2
  exact ⟨c1.trans d1, c2.trans d2, c3.trans d3⟩
theorem cl_copyP {m : ob_Mem} {a b : Int} (hab : a ≠ b) (hl : m 5 b 0 = 0 ∨ m 5 b 0 = 1) : wp (ob_E (63, 0, [(8, a), (8, b)], [], (m, none))) (fun _ m' => m' 5 a 0 = m 5 b 0 ∧ sm (gP a) m m' ∧ ∀ q : Int → Int, q 43 ≤ 12 → rQ m b q → rQ m' a q) := by
  rw [sg_X5_copyFrom_0, if_pos hl]
  refine wp_b (cl_copyN (by omega)) (fun v m1 h1 => ?_)
  obtain ⟨⟨⟨h1, h2, h3⟩, h4⟩, h5⟩ := h1
  rw [sg_X5_copyFrom_27]
  simp (disch := first | omega | assumption) only [↓if_pos, ↓if_neg, Option.bind_some, ob_wr_id]
  have h6 : ∀ k i x, k ≠ 3 ∧ k ≠ 5 ∧ k ≠ 26 ∧ k ≠ 27 ∧ k ≠ 28 → m1 k i x = m k i x := fun k i x hk => by
    rw [h5 k i x (fun z => by have := z.1; omega)]
    simp (disch := omega) only [rs_k, rs_i, rs_s, rs_e, up_e, up_n]
  have h7 : ∀ x, m1 5 a x = (ob_set (ob_set m 5 a 0 (m 5 b 0)) 5 a 1 (m 5 b 1)) 5 a x := fun x => by
    rw [h5 5 a x (fun z => by have := z.1; omega)]
    simp (disch := omega) only [rs_k, rs_i, rs_s, rs_e, up_e, up_n]
  have z1 : sm (gP a) m m1 := sm_t (sm_set (sm_set sm_r (Or.inr ⟨by omega, rfl⟩)) (Or.inr ⟨by omega, rfl⟩)) (sm_m h5 (fun k i z => Or.inl z))
  simp (disch := omega) only [rs_k, rs_i, rs_s, rs_e] at h1 h2 h3 h4
  refine wp_ret ⟨?_, sm_cpy (sm_cpy (sm_cpy z1 (Or.inr ⟨by omega, rfl⟩)) (Or.inr ⟨by omega, rfl⟩)) (Or.inr ⟨by omega, rfl⟩), fun q h12 ⟨q1, q2, q3, q4, q5⟩ => ⟨?_, ?_, ?_, ?_, fun i g1 g2 => ?_⟩⟩
  · rw [rc_k (by omega), rc_k (by omega), rc_k (by omega), h7]
    simp (disch := omega) only [rs_k, rs_i, rs_s, rs_e, up_e, up_n]
  · rw [rc_k (by omega), rc_k (by omega), rc_k (by omega), h7]
    simp (disch := omega) only [rs_k, rs_i, rs_s, rs_e, up_e, up_n]
    exact q1
  · rw [rc_k (by omega), rc_k (by omega), rc_k (by omega), h1]
    exact q2
  · rw [rc_k (by omega), rc_k (by omega), rc_k (by omega), h2]
    exact q3
  · rw [rc_k (by omega), rc_k (by omega), rc_k (by omega), h3]
    exact q4
  · obtain ⟨c1, c2, c3⟩ := h4 i g1 (by omega)
    obtain ⟨d1, d2, d3, d4, d5, d6⟩ := q5 i g1 g2
    refine ⟨?_, ?_, ?_, ?_, ?_, ?_⟩
    · rw [rc_k (by omega), rc_k (by omega), rc_k (by omega), c1]
      exact d1
    · rw [rc_k (by omega), rc_k (by omega), rc_e rfl (by omega), show (0 : Int) + (i - 0) = i by omega, h6 _ _ _ (by omega)]
      exact d2
    · rw [rc_k (by omega), rc_e rfl (by omega), rc_k (by omega), show (0 : Int) + (i - 0) = i by omega, h6 _ _ _ (by omega)]
      exact d3
    · rw [rc_e rfl (by omega), rc_k (by omega), rc_k (by omega), show (0 : Int) + (i - 0) = i by omega, h6 _ _ _ (by omega)]
      exact d4
    · rw [rc_k (by omega), rc_k (by omega), rc_k (by omega), c2]
      exact d5
    · rw [rc_k (by omega), rc_k (by omega), rc_k (by omega), c3]
      exact d6
