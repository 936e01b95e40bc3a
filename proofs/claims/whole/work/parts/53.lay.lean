-- THE CLASS: copying a barrel, building one, laying pins
theorem rT_sm {W : Int} {m m' : ob_Mem} {j t : Int} {s : Int → Int} (hV : VV W s) (ht : 0 ≤ t ∧ t < 3) (h : rT m j s t) (hm : ∀ k i p, gN (2 * (3 * j + t)) k i ∨ gP (3 * j + t) k i → m' k i p = m k i p) : rT m' j s t := by
  obtain ⟨g1, g2, g3⟩ := h
  obtain ⟨v1, v2⟩ := hV.2 t ht.1 ht.2
  refine ⟨rN_c g1 (fun k i p q => hm k i p (Or.inl q)) (fun _ _ _ => rfl) v1.2.2.1.2, ?_, fun hp => rQ_c (g3 hp) (fun k i p q => hm k i p (Or.inr q)) (fun _ _ _ => rfl) (v2.2.2 hp).2.2.2.1.2⟩
  rw [hm 5 _ 0 (Or.inr (Or.inr ⟨by omega, rfl⟩)), g2]
theorem cl_copyB {W : Int} {m : ob_Mem} {a b : Int} {s : Int → Int} (hV : VV W s) (h : Rep m b s) (hab : a ≠ b) : wp (ob_E (2, 0, [(3, a), (3, b), (0, 0)], [], (m, none))) (fun _ m' => Rep m' a s ∧ sm (gB a) m m') := by
  rw [sg_X0_copyFrom_0]
  simp (disch := first | omega | assumption) only [↓if_pos, ↓if_neg, Option.bind_some, ob_wr_id, rs_k, rs_i, rs_s, rs_e]
  refine wp_for (fun t (m' : ob_Mem) => ob_E (2, 65, [(3, a), (3, b), (1, t)], [], (m', none))) 0 3 (fun t m' => sm (gB a) m m' ∧ (∀ w, 0 ≤ w → w < 6 → m' 0 a w = m 0 b w) ∧ (∀ w, 0 ≤ w → w < 6 → m' 16 a w = m 16 b w) ∧ ∀ u, 0 ≤ u → u < t → rT m' a s u) ?_ ?_ (by omega) ?_
  · intro t m1 h1 h2 ⟨i1, i2, i3, i4⟩ hk
    have ht : 0 ≤ t ∧ t < 3 := ⟨h1, h2⟩
    have R1 : Rep m1 b s := Rep_sm hV h (fun k i p q => i1 k i p (fun z => by
      rcases q with ⟨q1, q2⟩ | ⟨q1, q2⟩ | ⟨q1, q2⟩ <;> rcases z with ⟨z1, z2⟩ | ⟨z1, z2⟩ | ⟨z1, z2⟩ <;> omega))
    obtain ⟨v1, v2⟩ := hV.2 t h1 h2
    rw [sg_X0_copyFrom_65]
    simp (disch := first | omega | assumption) only [↓if_pos, ↓if_neg, Option.bind_some, ob_wr_id]
    refine wp_b (cl_copyN (by omega)) (fun _ m2 hm2 => ?_)
    obtain ⟨n1, n2⟩ := hm2
    have N2 : rN m2 (2 * (3 * a + t)) (fun w => s (12 + 116 * t + w)) := cpN_rN n1 (R1.2.2 t h1 h2).1 v1.2.2.1.2
    have R2 : Rep m2 b s := Rep_sm hV R1 (fun k i p q => n2 k i p (fun z => by
      rcases q with ⟨q1, q2⟩ | ⟨q1, q2⟩ | ⟨q1, q2⟩ <;> have := z.1 <;> have := z.2 <;> omega))
    have eP := rpP R2 ht
    rw [sg_X0_copyFrom_85]
    simp (disch := first | omega | assumption) only [↓if_pos, ↓if_neg, Option.bind_some, ob_wr_id]
    refine wp_b (cl_copyP (by omega) (by have := v2.1; omega)) (fun _ m3 hm3 => ?_)
    obtain ⟨p1, p2, p3⟩ := hm3
    rw [sg_X0_copyFrom_100, ob_wr_id (by omega) (by omega)]
    have z3 : sm (gB a) m m3 := sm_t (sm_t i1 (sm_m n2 (fun k i => gN_gB ht))) (sm_m p2 (fun k i => gP_gB ht))
    refine hk m3 ⟨z3, fun w g1 g2 => ?_, fun w g1 g2 => ?_, fun u g1 g2 => ?_⟩
    · rw [p2 0 a w (fun z => by rcases z with ⟨z1, z2⟩ | ⟨z1, z2⟩ <;> omega), n2 0 a w (fun z => by have := z.1; omega), i2 w g1 g2]
    · rw [p2 16 a w (fun z => by rcases z with ⟨z1, z2⟩ | ⟨z1, z2⟩ <;> omega), n2 16 a w (fun z => by have := z.1; omega), i3 w g1 g2]
    · by_cases e : u = t
      · subst e
        refine ⟨rN_c N2 (fun k i p q => p2 k i p (fun z => ?_)) (fun _ _ _ => rfl) v1.2.2.1.2, by rw [p1, eP], fun hp => p3 _ (v2.2.2 hp).2.2.2.1.2 (rpQ R2 ht hp)⟩
        have := q.1
        have := q.2
        rcases z with ⟨z1, z2⟩ | ⟨z1, z2⟩ <;> omega
      · refine rT_sm hV ⟨g1, by omega⟩ (i4 u g1 (by omega)) (fun k i p q => ?_)
        rw [p2 k i p (fun z => by
          rcases q with ⟨q1, q2⟩ | ⟨q1, q2⟩ | ⟨q1, q2⟩ <;> rcases z with ⟨z1, z2⟩ | ⟨z1, z2⟩ <;> omega), n2 k i p (fun z => by
          have := z.1
          have := z.2
          rcases q with ⟨q1, q2⟩ | ⟨q1, q2⟩ | ⟨q1, q2⟩ <;> omega)]
  · intro m1 ⟨i1, i2, i3, i4⟩
    rw [sg_X0_copyFrom_65]
    simp (disch := first | omega | assumption) only [↓if_pos, ↓if_neg, Option.bind_some, ob_wr_id]
    obtain ⟨⟨h1, h2, h3, h4, h5, h6⟩, h7, h8⟩ := h
    refine wp_ret ⟨⟨⟨?_, ?_, ?_, ?_, ?_, ?_⟩, fun k g1 g2 => (i3 k g1 g2).trans (h7 k g1 g2), i4⟩, i1⟩
    · exact (i2 0 (by omega) (by omega)).trans h1
    · exact (i2 1 (by omega) (by omega)).trans h2
    · exact (i2 2 (by omega) (by omega)).trans h3
    · exact (i2 3 (by omega) (by omega)).trans h4
    · exact (i2 4 (by omega) (by omega)).trans h5
    · exact (i2 5 (by omega) (by omega)).trans h6
  · refine ⟨sm_cpy (sm_set (sm_set (sm_set (sm_set (sm_set (sm_set sm_r gB_H) gB_H) gB_H) gB_H) gB_H) gB_H) gB_G, fun w g1 g2 => ?_, fun w g1 g2 => ?_, fun u g1 g2 => absurd g1 (by omega)⟩
    · rw [rc_k (by omega)]
      obtain rfl | rfl | rfl | rfl | rfl | rfl : w = 0 ∨ w = 1 ∨ w = 2 ∨ w = 3 ∨ w = 4 ∨ w = 5 := by omega
      · simp (disch := omega) only [rs_k, rs_i, rs_s, rs_e, up_e, up_n]
      · simp (disch := omega) only [rs_k, rs_i, rs_s, rs_e, up_e, up_n]
      · simp (disch := omega) only [rs_k, rs_i, rs_s, rs_e, up_e, up_n]
      · simp (disch := omega) only [rs_k, rs_i, rs_s, rs_e, up_e, up_n]
      · simp (disch := omega) only [rs_k, rs_i, rs_s, rs_e, up_e, up_n]
      · simp (disch := omega) only [rs_k, rs_i, rs_s, rs_e, up_e, up_n]
    · rw [rc_e rfl (by omega), show (0 : Int) + (w - 0) = w by omega]
      simp (disch := omega) only [rs_k, rs_i, rs_s, rs_e, up_e, up_n]
/-- the row of a new barrel -/
def beR (r k t p : Int) : Int := if p = 0 then r else if p = 1 then k else if p = 2 then t else if p = 4 then 1 else if p = 5 then 20 else if 6 ≤ p ∧ p < 12 then 1 else if p = 12 ∨ p = 128 ∨ p = 244 then r else 0
def beV (s : Int → Int) (r k t : Int) : Int := if (6 ≤ r ∧ r ≤ 24) ∧ (1 ≤ k ∧ k ≤ 6) ∧ 2 ≤ t ∧ t ≤ 3 then s 0 else -2
def beS (s : Int → Int) (r k t : Int) : Int → Int := if (6 ≤ r ∧ r ≤ 24) ∧ (1 ≤ k ∧ k ≤ 6) ∧ 2 ≤ t ∧ t ≤ 3 then (fun p => if 0 ≤ p ∧ p < 360 then beR r k t p else s p) else s
theorem beR_0 {r k t u w : Int} (hu : 0 ≤ u ∧ u < 3) (hw : 0 ≤ w ∧ w < 116) : beR r k t (12 + 116 * u + w) = if w = 0 then r else 0 := by
  unfold beR
  by_cases c : w = 0
  · simp (disch := first | omega | assumption) only [↓if_pos, ↓if_neg, Option.bind_some, ob_wr_id]
  · simp (disch := first | omega | assumption) only [↓if_pos, ↓if_neg, Option.bind_some, ob_wr_id]
theorem cl_begin {m : ob_Mem} {j r k t : Int} : wp (ob_E (1, 0, [(3, j), (1, r), (1, k), (1, t), (0, 0)], [], (m, none))) (fun _ m' => (∀ f : Int → Int, (∀ p, 0 ≤ p → p < 360 → f p = beR r k t p) → Rep m' j f) ∧ sm (gB j) m m') := by
  rw [sg_X0_begin_0]
  refine wp_b (Q := fun _ m1 => (∀ w, 0 ≤ w → w < 6 → m1 16 j w = 1) ∧ sm (fun k i => k = 16 ∧ i = j) (ob_set (ob_set (ob_set (ob_set (ob_set (ob_set m 0 j 0 r) 0 j 1 k) 0 j 2 t) 0 j 3 0) 0 j 4 1) 0 j 5 20) m1) ?_ ?_
  · rw [sg_fill16_0]
    refine wp_for (fun y (m' : ob_Mem) => ob_E (239, 5, [(19, j), (1, 1), (1, y), (1, 6)], [], (m', none))) 0 6 (fun y m' => (∀ w, 0 ≤ w → w < y → m' 16 j w = 1) ∧ sm (fun k i => k = 16 ∧ i = j) (ob_set (ob_set (ob_set (ob_set (ob_set (ob_set m 0 j 0 r) 0 j 1 k) 0 j 2 t) 0 j 3 0) 0 j 4 1) 0 j 5 20) m') ?_ ?_ (by omega) ⟨fun w h1 h2 => absurd h1 (by omega), sm_r⟩
    · intro y m1 h1 h2 ⟨i1, i2⟩ hk
      rw [sg_fill16_5]
      simp (disch := first | omega | assumption) only [↓if_pos, ↓if_neg, Option.bind_some, ob_wr_id]
      refine hk _ ⟨fun w g1 g2 => ?_, sm_set i2 ⟨rfl, rfl⟩⟩
      by_cases e : w = y
      · rw [rs_e rfl e]
      · rw [rs_s e]
        exact i1 w g1 (by omega)
    · intro m1 ⟨i1, i2⟩
      rw [sg_fill16_5]
      simp (disch := first | omega | assumption) only [↓if_pos, ↓if_neg, Option.bind_some, ob_wr_id]
      exact wp_ret ⟨i1, i2⟩
  · intro _ m1 ⟨i1, i2⟩
    have hd0 : ∀ w, m1 0 j w = (ob_set (ob_set (ob_set (ob_set (ob_set (ob_set m 0 j 0 r) 0 j 1 k) 0 j 2 t) 0 j 3 0) 0 j 4 1) 0 j 5 20) 0 j w := fun w => i2 0 j w (fun z => by have := z.1; omega)
    have z1 : sm (gB j) m m1 := sm_t (sm_set (sm_set (sm_set (sm_set (sm_set (sm_set sm_r gB_H) gB_H) gB_H) gB_H) gB_H) gB_H) (sm_m i2 (fun k i z => Or.inl ⟨Or.inr z.1, z.2⟩))
    rw [sg_X0_begin_39]
    refine wp_for (fun y (m' : ob_Mem) => ob_E (1, 42, [(3, j), (1, r), (1, k), (1, t), (1, y)], [], (m', none))) 0 3 (fun y m' => sm (gB j) m m' ∧ (∀ w, m' 0 j w = m1 0 j w) ∧ (∀ w, m' 16 j w = m1 16 j w) ∧ ∀ u, 0 ≤ u → u < y → m' 3 (2 * (3 * j + u)) 0 = r ∧ m' 3 (2 * (3 * j + u)) 1 = 0 ∧ m' 3 (2 * (3 * j + u)) 2 = 0 ∧ m' 5 (3 * j + u) 0 = 0) ?_ ?_ (by omega) ⟨z1, fun _ => rfl, fun _ => rfl, fun u h1 h2 => absurd h1 (by omega)⟩
    · intro y m2 h1 h2 ⟨j1, j2, j3, j4⟩ hk
      rw [sg_X0_begin_42]
      simp (disch := first | omega | assumption) only [↓if_pos, ↓if_neg, Option.bind_some, ob_wr_id]
      have g3 : gB j 3 (2 * (3 * j + y)) := Or.inr (Or.inl ⟨by omega, by omega⟩)
      have g5 : gB j 5 (3 * j + y) := Or.inr (Or.inr ⟨by omega, by omega⟩)
      refine hk _ ⟨sm_set (sm_set (sm_set (sm_set j1 g3) g3) g3) g5, fun w => ?_, fun w => ?_, fun u g1 g2 => ?_⟩
      · simp (disch := omega) only [rs_k, rs_i, rs_s, rs_e, up_e, up_n]
        exact j2 w
      · simp (disch := omega) only [rs_k, rs_i, rs_s, rs_e, up_e, up_n]
        exact j3 w
      · by_cases e : u = y
        · subst e
          refine ⟨?_, ?_, ?_, ?_⟩
          · simp (disch := omega) only [rs_k, rs_i, rs_s, rs_e, up_e, up_n]
          · simp (disch := omega) only [rs_k, rs_i, rs_s, rs_e, up_e, up_n]
          · simp (disch := omega) only [rs_k, rs_i, rs_s, rs_e, up_e, up_n]
          · simp (disch := omega) only [rs_k, rs_i, rs_s, rs_e, up_e, up_n]
        · obtain ⟨q1, q2, q3, q4⟩ := j4 u g1 (by omega)
          refine ⟨?_, ?_, ?_, ?_⟩
          · simp (disch := omega) only [rs_k, rs_i, rs_s, rs_e, up_e, up_n]
            exact q1
          · simp (disch := omega) only [rs_k, rs_i, rs_s, rs_e, up_e, up_n]
            exact q2
          · simp (disch := omega) only [rs_k, rs_i, rs_s, rs_e, up_e, up_n]
            exact q3
          · simp (disch := omega) only [rs_k, rs_i, rs_s, rs_e, up_e, up_n]
            exact q4
    · intro m2 ⟨j1, j2, j3, j4⟩
      rw [sg_X0_begin_42]
      simp (disch := first | omega | assumption) only [↓if_pos, ↓if_neg, Option.bind_some, ob_wr_id]
      refine wp_ret ⟨fun f hf => ⟨⟨?_, ?_, ?_, ?_, ?_, ?_⟩, fun w g1 g2 => ?_, fun u g1 g2 => ?_⟩, j1⟩
      · rw [j2, hd0, hf _ (by omega) (by omega)]
        simp (disch := omega) only [rs_k, rs_i, rs_s, rs_e, up_e, up_n]
        rfl
      · rw [j2, hd0, hf _ (by omega) (by omega)]
        simp (disch := omega) only [rs_k, rs_i, rs_s, rs_e, up_e, up_n]
        rfl
      · rw [j2, hd0, hf _ (by omega) (by omega)]
        simp (disch := omega) only [rs_k, rs_i, rs_s, rs_e, up_e, up_n]
        rfl
      · rw [j2, hd0, hf _ (by omega) (by omega)]
        simp (disch := omega) only [rs_k, rs_i, rs_s, rs_e, up_e, up_n]
        rfl
      · rw [j2, hd0, hf _ (by omega) (by omega)]
        simp (disch := omega) only [rs_k, rs_i, rs_s, rs_e, up_e, up_n]
        rfl
      · rw [j2, hd0, hf _ (by omega) (by omega)]
        simp (disch := omega) only [rs_k, rs_i, rs_s, rs_e, up_e, up_n]
        rfl
      · rw [j3, i1 w g1 g2, hf _ (by omega) (by omega)]
        unfold beR
        simp (disch := first | omega | assumption) only [↓if_pos, ↓if_neg, Option.bind_some, ob_wr_id]
      · obtain ⟨q1, q2, q3, q4⟩ := j4 u g1 g2
        have b : ∀ w, 0 ≤ w → w < 116 → f (12 + 116 * u + w) = if w = 0 then r else 0 := fun w a c => by
          rw [hf _ (by omega) (by omega), beR_0 ⟨g1, g2⟩ ⟨a, c⟩]
        refine ⟨⟨?_, ?_, ?_, fun i h1 h2 => ?_⟩, ?_, fun hp => ?_⟩
        · exact q1.trans (b 0 (by omega) (by omega)).symm
        · exact q2.trans (b 1 (by omega) (by omega)).symm
        · exact q3.trans (b 2 (by omega) (by omega)).symm
        · have h2 : i < f (12 + 116 * u + 2) := h2
          rw [b 2 (by omega) (by omega), if_neg (by omega)] at h2
          omega
        · rw [b 39 (by omega) (by omega)]
          exact q4
        · rw [b 39 (by omega) (by omega), if_neg (by omega)] at hp
          omega
theorem cl_build {W : Int} {m : ob_Mem} {j r k t : Int} {s : Int → Int} (hV : VV W s) (h : Rep m j s) : wp (ob_E (8, 0, [(3, j), (1, r), (1, k), (1, t), (0, 0)], [], (m, none))) (CO m j (beV s r k t) (beS s r k t)) := by
  have e1 := rpR h
  unfold beV beS
  by_cases c0 : 6 ≤ r ∧ r ≤ 24
  · by_cases c1 : 1 ≤ k ∧ k ≤ 6
    · by_cases c2 : 2 ≤ t ∧ t ≤ 3
      · rw [if_pos ⟨c0, c1, c2⟩, if_pos ⟨c0, c1, c2⟩]
        simp (disch := first | omega | assumption) only [↓if_pos, ↓if_neg, Option.bind_some, ob_wr_id, sg_X0_build_0, sg_X0_build_8, sg_X0_build_18, sg_X0_build_27, sg_X0_build_46, cl_within]
        refine wp_b cl_begin (fun _ m1 h1 => ?_)
        rw [sg_X0_build_46]
        exact wp_ret ⟨e1, h1.1 _ (fun p a b => if_pos ⟨a, b⟩), h1.2⟩
      · simp (disch := first | omega | assumption) only [↓if_pos, ↓if_neg, Option.bind_some, ob_wr_id, sg_X0_build_0, sg_X0_build_8, sg_X0_build_18, sg_X0_build_27, sg_X0_build_46, cl_within]
        exact wp_ret ⟨rfl, h, sm_r⟩
    · simp (disch := first | omega | assumption) only [↓if_pos, ↓if_neg, Option.bind_some, ob_wr_id, sg_X0_build_0, sg_X0_build_8, sg_X0_build_18, sg_X0_build_27, sg_X0_build_46, cl_within]
      exact wp_ret ⟨rfl, h, sm_r⟩
  · simp (disch := first | omega | assumption) only [↓if_pos, ↓if_neg, Option.bind_some, ob_wr_id, sg_X0_build_0, sg_X0_build_8, sg_X0_build_18, sg_X0_build_27, sg_X0_build_46, cl_within]
    exact wp_ret ⟨rfl, h, sm_r⟩
/-- the picture of a tune's pins, laid by a shift -/
def pic (s : Int → Int) (t d w : Int) : Int := if w = 39 then 1 else if w = 40 then s (12 + 116 * t + 0) else if w = 41 then d else if w = 42 then s 3 else if w = 43 then s (12 + 116 * t + 2) else if w < 92 then (if (w - 44) % 4 = 0 then s (12 + 116 * t + (3 + 3 * ((w - 44) / 4))) else if (w - 44) % 4 = 1 then bg s t ((w - 44) / 4) d else if (w - 44) % 4 = 2 then hd s t ((w - 44) / 4) else 0) else if (w - 92) % 2 = 0 then s (12 + 116 * t + (3 + 3 * ((w - 92) / 2) + 1)) else s (12 + 116 * t + (3 + 3 * ((w - 92) / 2) + 2))
theorem pic_k {s : Int → Int} {t d i : Int} (h : 0 ≤ i ∧ i < 12) : pic s t d (44 + 4 * i + 0) = s (12 + 116 * t + (3 + 3 * i)) := by
  unfold pic
  simp (disch := first | omega | assumption) only [↓if_pos, ↓if_neg, Option.bind_some, ob_wr_id]
  rw [show (44 + 4 * i + 0 - 44) / 4 = i by omega]
theorem pic_b {s : Int → Int} {t d i : Int} (h : 0 ≤ i ∧ i < 12) : pic s t d (44 + 4 * i + 1) = bg s t i d := by
  unfold pic
  simp (disch := first | omega | assumption) only [↓if_pos, ↓if_neg, Option.bind_some, ob_wr_id]
  rw [show (44 + 4 * i + 1 - 44) / 4 = i by omega]
theorem pic_h {s : Int → Int} {t d i : Int} (h : 0 ≤ i ∧ i < 12) : pic s t d (44 + 4 * i + 2) = hd s t i := by
  unfold pic
  simp (disch := first | omega | assumption) only [↓if_pos, ↓if_neg, Option.bind_some, ob_wr_id]
  rw [show (44 + 4 * i + 2 - 44) / 4 = i by omega]
theorem pic_w {s : Int → Int} {t d i : Int} (h : 0 ≤ i ∧ i < 12) : pic s t d (44 + 4 * i + 3) = 0 := by
  unfold pic
  simp (disch := first | omega | assumption) only [↓if_pos, ↓if_neg, Option.bind_some, ob_wr_id]
theorem pic_a {s : Int → Int} {t d i : Int} (h : 0 ≤ i ∧ i < 12) : pic s t d (92 + 2 * i) = s (12 + 116 * t + (3 + 3 * i + 1)) := by
  unfold pic
  simp (disch := first | omega | assumption) only [↓if_pos, ↓if_neg, Option.bind_some, ob_wr_id]
  rw [show (92 + 2 * i - 92) / 2 = i by omega]
theorem pic_l {s : Int → Int} {t d i : Int} (h : 0 ≤ i ∧ i < 12) : pic s t d (92 + 2 * i + 1) = s (12 + 116 * t + (3 + 3 * i + 2)) := by
  unfold pic
  simp (disch := first | omega | assumption) only [↓if_pos, ↓if_neg, Option.bind_some, ob_wr_id]
  rw [show (92 + 2 * i + 1 - 92) / 2 = i by omega]
theorem cl_lay {W : Int} {m : ob_Mem} {j t d p : Int} {s : Int → Int} (hV : VV W s) (h : rN m (2 * (3 * j + t)) (fun w => s (12 + 116 * t + w))) (ht : 0 ≤ t ∧ t < 3) (hd0 : 0 ≤ d ∧ d < s 0) : wp (ob_E (64, 0, [(8, p), (6, 2 * (3 * j + t)), (1, d), (1, s 3), (1, s 0), (0, 0), (0, 0), (0, 0)], [], (m, none))) (fun _ m' => m' 5 p 0 = 1 ∧ rQ m' p (pic s t d) ∧ sm (gP p) m m') := by
  obtain ⟨⟨v1, v2, v3, v4, -⟩, v8⟩ := id hV
  obtain ⟨⟨w1, w2, w3, w4, w5⟩, -⟩ := v8 t ht.1 ht.2
  rw [sg_X5_lay_0, if_pos (by omega)]
  refine wp_b (cl_copyN (by omega)) (fun _ m1 h1 => ?_)
  obtain ⟨n1, n2⟩ := h1
  have N1 : rN m1 (2 * p + 1) (fun w => s (12 + 116 * t + w)) := cpN_rN n1 (rN_c h (fun k i x q => by
    have := q.1
    simp (disch := omega) only [rs_k, rs_i, rs_s, rs_e, up_e, up_n]) (fun _ _ _ => rfl) w3.2) w3.2
  have P0 : m1 5 p 0 = 1 := by
    rw [n2 5 p 0 (fun z => by have := z.1; omega)]
    simp (disch := omega) only [rs_k, rs_i, rs_s, rs_e, up_e, up_n]
  have P1 : m1 5 p 1 = s 3 := by
    rw [n2 5 p 1 (fun z => by have := z.1; omega)]
    simp (disch := omega) only [rs_k, rs_i, rs_s, rs_e, up_e, up_n]
  have z1 : sm (gP p) m m1 := sm_t (sm_set (sm_set sm_r (Or.inr ⟨by omega, rfl⟩)) (Or.inr ⟨by omega, rfl⟩)) (sm_m n2 (fun k i z => Or.inl z))
  obtain ⟨a1, a2, a3, a4⟩ := N1
  have a1 : m1 3 (2 * p + 1) 0 = s (12 + 116 * t + 0) := a1
  have a3 : m1 3 (2 * p + 1) 2 = s (12 + 116 * t + 2) := a3
  have a4 : ∀ i, 0 ≤ i → i < s (12 + 116 * t + 2) → m1 26 (2 * p + 1) i = s (12 + 116 * t + (3 + 3 * i)) ∧ m1 27 (2 * p + 1) i = s (12 + 116 * t + (3 + 3 * i + 1)) ∧ m1 28 (2 * p + 1) i = s (12 + 116 * t + (3 + 3 * i + 2)) := a4
  rw [sg_X5_lay_18]
  refine wp_for (fun y (x : ob_AV × ob_AV × ob_Mem) => ob_E (64, 29, [(8, p), (6, 2 * (3 * j + t)), (1, d), (1, s 3), (1, s 0), (1, y), x.1, x.2.1], [], (x.2.2, none))) 0 (s (12 + 116 * t + 2)) (fun y x => sm (gP p) m x.2.2 ∧ sm (fun k i => (k = 32 ∨ k = 33 ∨ k = 34) ∧ i = p) (ob_set m1 3 (2 * p + 1) 1 d) x.2.2 ∧ ∀ i, 0 ≤ i → i < y → x.2.2 32 p i = bg s t i d ∧ x.2.2 33 p i = hd s t i ∧ x.2.2 34 p i = 0) ?_ ?_ (by omega) (x := ((0, 0), (0, 0), ob_set m1 3 (2 * p + 1) 1 d)) ⟨sm_set z1 (Or.inl ⟨by omega, rfl⟩), sm_r, fun i g1 g2 => absurd g1 (by omega)⟩
  · intro y ⟨x1, x2, m2⟩ h1 h2 ⟨i1, i2, i3⟩ hk
    obtain ⟨b1, b2, b3⟩ := a4 y h1 h2
    obtain ⟨c1, c2⟩ := w5 y h1 h2
    have hN := ((VV_SV hV).2.2.2.2.2.2.1 t ht.1 ht.2).2.2.2 y h1 h2
    have hh := hd_b hN
    have k1 : ∀ k i x, k ≠ 32 → k ≠ 33 → k ≠ 34 → m2 k i x = (ob_set m1 3 (2 * p + 1) 1 d) k i x := fun k i x g1 g2 g3 => i2 k i x (fun z => by have := z.1; omega)
    have e1 : m2 3 (2 * p + 1) 2 = s (12 + 116 * t + 2) := by
      rw [k1 3 _ _ (by omega) (by omega) (by omega)]
      simp (disch := omega) only [rs_k, rs_i, rs_s, rs_e, up_e, up_n]
      exact a3
    have e2 : m2 3 (2 * p + 1) 0 = s (12 + 116 * t + 0) := by
      rw [k1 3 _ _ (by omega) (by omega) (by omega)]
      simp (disch := omega) only [rs_k, rs_i, rs_s, rs_e, up_e, up_n]
      exact a1
    have e3 : m2 5 p 1 = s 3 := by
      rw [k1 5 _ _ (by omega) (by omega) (by omega)]
      simp (disch := omega) only [rs_k, rs_i, rs_s, rs_e, up_e, up_n]
      exact P1
    have e4 : m2 27 (2 * p + 1) y = s (12 + 116 * t + (3 + 3 * y + 1)) := by
      rw [k1 27 _ _ (by omega) (by omega) (by omega)]
      simp (disch := omega) only [rs_k, rs_i, rs_s, rs_e, up_e, up_n]
      exact b2
    have e5 : m2 28 (2 * p + 1) y = s (12 + 116 * t + (3 + 3 * y + 2)) := by
      rw [k1 28 _ _ (by omega) (by omega) (by omega)]
      simp (disch := omega) only [rs_k, rs_i, rs_s, rs_e, up_e, up_n]
      exact b3
    have q1 := ang_nn (R := s 0) (s := s (12 + 116 * t + (3 + 3 * y + 1))) (L := s (12 + 116 * t + 0)) (w := s 3) (by omega) (by omega) (by omega)
    have q2 := ang_lt (R := s 0) (s := s (12 + 116 * t + (3 + 3 * y + 1))) (L := s (12 + 116 * t + 0)) (w := s 3) (by omega) (by omega) (by omega)
    unfold hd at hh
    show wp (ob_E (64, 29, [(8, p), (6, 2 * (3 * j + t)), (1, d), (1, s 3), (1, s 0), (1, y), x1, x2], [], (m2, none))) _
    rw [sg_X5_lay_29]
    simp (disch := first | omega | assumption) only [↓if_pos, ↓if_neg, Option.bind_some, ob_wr_id, sg_X5_lay_0, sg_X5_lay_18, sg_X5_lay_67, sg_X5_lay_106, sg_X5_lay_123, e1, e2, e3, e4, e5, cl_angle, cl_round]
    refine hk (_, _, _) ⟨sm_set (sm_set (sm_set i1 (Or.inr ⟨by omega, rfl⟩)) (Or.inr ⟨by omega, rfl⟩)) (Or.inr ⟨by omega, rfl⟩), sm_set (sm_set (sm_set i2 ⟨by omega, rfl⟩) ⟨by omega, rfl⟩) ⟨by omega, rfl⟩, fun i g1 g2 => ?_⟩
    show (ob_set (ob_set (ob_set m2 32 p y (bg s t y d)) 33 p y (hd s t y)) 34 p y 0) 32 p i = _ ∧ (ob_set (ob_set (ob_set m2 32 p y (bg s t y d)) 33 p y (hd s t y)) 34 p y 0) 33 p i = _ ∧ (ob_set (ob_set (ob_set m2 32 p y (bg s t y d)) 33 p y (hd s t y)) 34 p y 0) 34 p i = _
    by_cases e : i = y
    · subst e
      refine ⟨?_, ?_, ?_⟩
      · simp (disch := omega) only [rs_k, rs_i, rs_s, rs_e, up_e, up_n]
      · simp (disch := omega) only [rs_k, rs_i, rs_s, rs_e, up_e, up_n]
      · simp (disch := omega) only [rs_k, rs_i, rs_s, rs_e, up_e, up_n]
    · obtain ⟨r1, r2, r3⟩ := i3 i g1 (by omega)
      refine ⟨?_, ?_, ?_⟩
      · simp (disch := omega) only [rs_k, rs_i, rs_s, rs_e, up_e, up_n]
        exact r1
      · simp (disch := omega) only [rs_k, rs_i, rs_s, rs_e, up_e, up_n]
        exact r2
      · simp (disch := omega) only [rs_k, rs_i, rs_s, rs_e, up_e, up_n]
        exact r3
  · intro ⟨x1, x2, m2⟩ ⟨i1, i2, i3⟩
    have k1 : ∀ k i x, k ≠ 32 → k ≠ 33 → k ≠ 34 → m2 k i x = (ob_set m1 3 (2 * p + 1) 1 d) k i x := fun k i x g1 g2 g3 => i2 k i x (fun z => by have := z.1; omega)
    have e1 : m2 3 (2 * p + 1) 2 = s (12 + 116 * t + 2) := by
      rw [k1 3 _ _ (by omega) (by omega) (by omega)]
      simp (disch := omega) only [rs_k, rs_i, rs_s, rs_e, up_e, up_n]
      exact a3
    show wp (ob_E (64, 29, [(8, p), (6, 2 * (3 * j + t)), (1, d), (1, s 3), (1, s 0), (1, s (12 + 116 * t + 2)), x1, x2], [], (m2, none))) _
    rw [sg_X5_lay_29]
    simp (disch := first | omega | assumption) only [↓if_pos, ↓if_neg, Option.bind_some, ob_wr_id, e1]
    refine wp_ret ⟨?_, ⟨?_, ?_, ?_, e1, fun i g1 g2 => ?_⟩, i1⟩
    · rw [k1 5 _ _ (by omega) (by omega) (by omega)]
      simp (disch := omega) only [rs_k, rs_i, rs_s, rs_e, up_e, up_n]
      exact P0
    · rw [k1 5 _ _ (by omega) (by omega) (by omega)]
      simp (disch := omega) only [rs_k, rs_i, rs_s, rs_e, up_e, up_n]
      exact P1
    · rw [k1 3 _ _ (by omega) (by omega) (by omega)]
      simp (disch := omega) only [rs_k, rs_i, rs_s, rs_e, up_e, up_n]
      exact a1
    · rw [k1 3 _ _ (by omega) (by omega) (by omega)]
      simp (disch := omega) only [rs_k, rs_i, rs_s, rs_e, up_e, up_n]
      rfl
    · have g2 : i < s (12 + 116 * t + 2) := g2
      have g3 : 0 ≤ i ∧ i < 12 := by omega
      obtain ⟨r1, r2, r3⟩ := i3 i g1 g2
      obtain ⟨b1, b2, b3⟩ := a4 i g1 g2
      rw [pic_k g3, pic_b g3, pic_h g3, pic_w g3, pic_a g3, pic_l g3]
      refine ⟨?_, r1, r2, r3, ?_, ?_⟩
      · rw [k1 26 _ _ (by omega) (by omega) (by omega)]
        simp (disch := omega) only [rs_k, rs_i, rs_s, rs_e, up_e, up_n]
        exact b1
      · rw [k1 27 _ _ (by omega) (by omega) (by omega)]
        simp (disch := omega) only [rs_k, rs_i, rs_s, rs_e, up_e, up_n]
        exact b2
      · rw [k1 28 _ _ (by omega) (by omega) (by omega)]
        simp (disch := omega) only [rs_k, rs_i, rs_s, rs_e, up_e, up_n]
        exact b3
