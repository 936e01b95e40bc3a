-- JOINS: type, back, pins, settles
theorem CH_k {W : Int} {m m' : ob_Mem} {s : Int → Int} {n : Int} {P : Int → Int → Int} (h : CH W m s n P) (hm : ∀ k i x, k < 40 → k ≠ 8 → k ≠ 6 → k ≠ 36 → m' k i x = m k i x) : CH W m' s n P := by
  obtain ⟨⟨h0, h1⟩, h2, ⟨h3, h3'⟩, h4⟩ := h
  have fR : ∀ j q, VV W q → Rep m j q → Rep m' j q := fun j q a b => Rep_sm a b (fun k i p z => hm k i p (by rcases z with ⟨z1, z2⟩ | ⟨z1, z2⟩ | ⟨z1, z2⟩ <;> omega) (by rcases z with ⟨z1, z2⟩ | ⟨z1, z2⟩ | ⟨z1, z2⟩ <;> omega) (by rcases z with ⟨z1, z2⟩ | ⟨z1, z2⟩ | ⟨z1, z2⟩ <;> omega) (by rcases z with ⟨z1, z2⟩ | ⟨z1, z2⟩ | ⟨z1, z2⟩ <;> omega))
  have e7 : ∀ k i x, k = 7 ∨ k = 39 → m' k i x = m k i x := fun k i x hk => hm k i x (by omega) (by omega) (by omega) (by omega)
  refine ⟨⟨h0, by rw [e7 7 _ _ (by omega)]; exact h1⟩, bij_c h2 (e7 7 _ _ (by omega)) (e7 7 _ _ (by omega)) (fun i => e7 39 _ _ (by omega)), ⟨h3, by rw [e7 7 _ _ (by omega)]; exact fR _ _ h3 h3'⟩, fun i a b => ?_⟩
  obtain ⟨g1, g2⟩ := h4 i a b
  rw [e7 39 _ _ (by omega)]
  exact ⟨g1, fR _ _ g1 g2⟩
theorem ag_type {W : Int} {m : ob_Mem} {c : Int} (h : Inv W m) : Agr W W m (fun m => ob_E (107, 0, [(10, 0), (1, c)], [], (m, none))) (fun m => ob_E (224, 0, [(11, 0), (1, c)], [], (m, none))) := by
  obtain ⟨i1, i2, i3, i4, i5, i6⟩ := id h
  by_cases c1 : 0 ≤ c ∧ c ≤ 127
  · by_cases c2 : m 8 0 22 = 120
    · refine J_badA (v := -4) (w := -4) h (by omega) ?_ (fun m1 e er => ?_)
      · show ob_E (107, 0, [(10, 0), (1, c)], [], (m, none)) = _
        simp (disch := first | omega | assumption) only [↓if_pos, ↓if_neg, Option.bind_some, ob_wr_id, sg_X7_type_0, sg_X7_type_7, sg_X7_type_16, sg_X7_type_35, sg_X7_type_44, cl_within, cl_refused]
      · have e1 := e 8 0 22 (by omega)
        show ob_E (224, 0, [(11, 0), (1, c)], [], (m1, none)) = _
        simp (disch := first | omega | assumption) only [↓if_pos, ↓if_neg, Option.bind_some, ob_wr_id, sg_X8_type_0, sg_X8_type_9, sg_X8_type_18, sg_X8_type_34, md_in, md_refuses]
    · have eb : Int.bmod c 256 = c := Int.bmod_eq_of_le (by omega) (by omega)
      generalize hL : m 8 0 22 = L at *
      refine ⟨L + 1, ob_set (ob_set m 36 0 L c) 6 0 0 (L + 1), ob_set (ob_set (ob_set (ob_set m 36 0 L c) 6 0 0 (L + 1)) 55 0 L c) 8 0 22 (L + 1), ?_, ?_, ⟨?_, fun x a b => ?_, ?_, ?_, ?_, fun i a b => ?_⟩, fun k i x hk => ⟨by simp (disch := omega) only [rs_k, rs_i, rs_s, rs_e, up_e, up_n], by simp (disch := omega) only [rs_k, rs_i, rs_s, rs_e, up_e, up_n]⟩⟩
      · show ob_E (107, 0, [(10, 0), (1, c)], [], (m, none)) = _
        simp (disch := first | omega | assumption) only [↓if_pos, ↓if_neg, Option.bind_some, ob_wr_id, rs_k, rs_i, rs_s, rs_e, sg_X7_type_0, sg_X7_type_7, sg_X7_type_16, sg_X7_type_35, sg_X7_type_44, cl_within, sg_X6_append_0, eb, i4]
      · show ob_E (224, 0, [(11, 0), (1, c)], [], (ob_set (ob_set m 36 0 L c) 6 0 0 (L + 1), none)) = _
        have e1 : (ob_set (ob_set m 36 0 L c) 6 0 0 (L + 1)) 8 0 22 = L := by
          simp (disch := omega) only [rs_k, rs_i, rs_s, rs_e, up_e, up_n]
          exact hL
        generalize ob_set (ob_set m 36 0 L c) 6 0 0 (L + 1) = m1 at *
        simp (disch := first | omega | assumption) only [↓if_pos, ↓if_neg, Option.bind_some, ob_wr_id, rs_k, rs_i, rs_s, rs_e, sg_X8_type_0, sg_X8_type_9, sg_X8_type_18, sg_X8_type_34, md_in, e1]
      · have e1 : (ob_set (ob_set (ob_set (ob_set m 36 0 L c) 6 0 0 (L + 1)) 55 0 L c) 8 0 22 (L + 1)) 40 0 = m 40 0 := by simp (disch := omega) only [rs_k, rs_i, rs_s, rs_e, up_e, up_n, rw_k]
        have e2 : (ob_set (ob_set (ob_set (ob_set m 36 0 L c) 6 0 0 (L + 1)) 55 0 L c) 8 0 22 (L + 1)) 41 0 = m 41 0 := by simp (disch := omega) only [rs_k, rs_i, rs_s, rs_e, up_e, up_n, rw_k]
        have e3 : (ob_set (ob_set (ob_set (ob_set m 36 0 L c) 6 0 0 (L + 1)) 55 0 L c) 8 0 22 (L + 1)) 8 0 3 = m 8 0 3 := by simp (disch := omega) only [rs_k, rs_i, rs_s, rs_e, up_e, up_n]
        rw [e1, e2, e3]
        exact CH_k i1 (fun k i x a b c d => by simp (disch := omega) only [rs_k, rs_i, rs_s, rs_e, up_e, up_n])
      · simp (disch := omega) only [rs_k, rs_i, rs_s, rs_e, up_e, up_n]
        exact i2 x a b
      · simp (disch := omega) only [rs_k, rs_i, rs_s, rs_e, up_e, up_n]
        exact i3
      · simp (disch := omega) only [rs_k, rs_i, rs_s, rs_e, up_e, up_n]
      · simp (disch := omega) only [rs_k, rs_i, rs_s, rs_e, up_e, up_n]
        omega
      · simp (disch := omega) only [rs_k, rs_i, rs_s, rs_e, up_e, up_n] at b
        by_cases e : i = L
        · subst e
          simp (disch := omega) only [rs_k, rs_i, rs_s, rs_e, up_e, up_n]
          first | exact ⟨rfl, c1⟩ | exact ⟨trivial, c1⟩ | exact c1
        · simp (disch := omega) only [rs_k, rs_i, rs_s, rs_e, up_e, up_n]
          exact i6 i a (by omega)
  · refine J_badA (v := -2) (w := -2) h (by omega) ?_ (fun m1 e er => ?_)
    · show ob_E (107, 0, [(10, 0), (1, c)], [], (m, none)) = _
      simp (disch := first | omega | assumption) only [↓if_pos, ↓if_neg, Option.bind_some, ob_wr_id, sg_X7_type_0, sg_X7_type_7, sg_X7_type_16, sg_X7_type_35, sg_X7_type_44, cl_within, cl_refused]
    · show ob_E (224, 0, [(11, 0), (1, c)], [], (m1, none)) = _
      simp (disch := first | omega | assumption) only [↓if_pos, ↓if_neg, Option.bind_some, ob_wr_id, sg_X8_type_0, sg_X8_type_9, sg_X8_type_18, sg_X8_type_34, md_in, md_refuses]
theorem ag_back {W : Int} {m : ob_Mem} (h : Inv W m) : Agr W W m (fun m => ob_E (110, 0, [(10, 0), (0, 0)], [], (m, none))) (fun m => ob_E (234, 0, [(11, 0), (0, 0)], [], (m, none))) := by
  obtain ⟨hV, hn⟩ := Inv_V h
  obtain ⟨⟨⟨h0, h1⟩, h2, ⟨h3, h3'⟩, h4⟩, i2, i3, i4, i5, i6⟩ := id h
  by_cases c : m 8 0 3 = 0
  · refine J_badA (v := -3) (w := -3) h (by omega) ?_ (fun m1 e er => ?_)
    · show ob_E (110, 0, [(10, 0), (0, 0)], [], (m, none)) = _
      simp (disch := first | omega | assumption) only [↓if_pos, ↓if_neg, Option.bind_some, ob_wr_id, sg_X7_back_0, cl_refused, sg_X7_back_14]
    · have e1 := e 8 0 3 (by omega)
      show ob_E (234, 0, [(11, 0), (0, 0)], [], (m1, none)) = _
      simp (disch := first | omega | assumption) only [↓if_pos, ↓if_neg, Option.bind_some, ob_wr_id, sg_X8_back_0, md_refuses, sg_X8_back_13]
  · generalize hN : m 8 0 3 = n at *
    generalize hM : ob_set (ob_set (ob_set m 7 0 3 (n - 1)) 7 0 0 (m 39 0 (n - 1))) 39 0 (n - 1) (m 7 0 0) = m1
    have ec : ob_E (110, 0, [(10, 0), (0, 0)], [], (m, none)) = some (n - 1, (m1, none)) := by
      rw [← hM]
      simp (disch := first | omega | assumption) only [↓if_pos, ↓if_neg, Option.bind_some, ob_wr_id, rs_k, rs_i, rs_s, rs_e, sg_X7_back_0, h1]
    have f70 : m1 7 0 0 = m 39 0 (n - 1) := by
      rw [← hM]
      simp (disch := omega) only [rs_k, rs_i, rs_s, rs_e, up_e, up_n]
    have f71 : m1 7 0 1 = m 7 0 1 := by
      rw [← hM]
      simp (disch := omega) only [rs_k, rs_i, rs_s, rs_e, up_e, up_n]
    have f73 : m1 7 0 3 = n - 1 := by
      rw [← hM]
      simp (disch := omega) only [rs_k, rs_i, rs_s, rs_e, up_e, up_n]
    have f39 : ∀ i, m1 39 0 i = if i = n - 1 then m 7 0 0 else m 39 0 i := fun i => by
      rw [← hM]
      by_cases e : i = n - 1
      · rw [if_pos e]
        simp (disch := omega) only [rs_k, rs_i, rs_s, rs_e, up_e, up_n]
      · rw [if_neg e]
        simp (disch := omega) only [rs_k, rs_i, rs_s, rs_e, up_e, up_n]
    have fk : ∀ k i x, k ≠ 39 → k ≠ 7 → m1 k i x = m k i x := fun k i x a b => by
      rw [← hM]
      simp (disch := omega) only [rs_k, rs_i, rs_s, rs_e, up_e, up_n]
    have f7 : ∀ x, 8 ≤ x → m1 7 0 x = m 7 0 x := fun x a => by
      rw [← hM]
      simp (disch := omega) only [rs_k, rs_i, rs_s, rs_e, up_e, up_n]
    have fB : ∀ x, 0 ≤ x → x < 7 → ∃ y, (0 ≤ y ∧ y < 7) ∧ bi m1 x = bi m y ∧ y = (if x = 0 then n + 1 else if x = n + 1 then 0 else x) := fun x a b => by
      obtain e | e | e : x = 0 ∨ x = 1 ∨ 2 ≤ x := by omega
      · subst e
        refine ⟨n + 1, by omega, ?_, rfl⟩
        rw [show n + 1 = 2 + (n - 1) by omega, bi2 (by omega)]
        exact f70
      · subst e
        refine ⟨1, by omega, f71, ?_⟩
        rw [if_neg (by omega), if_neg (by omega)]
      · have q : bi m1 x = m1 39 0 (x - 2) := by
          unfold bi
          rw [if_neg (by omega), if_neg (by omega)]
        rw [f39] at q
        by_cases e6 : x - 2 = n - 1
        · rw [if_pos e6] at q
          refine ⟨0, by omega, q, ?_⟩
          rw [if_neg (by omega), if_pos (by omega)]
        · rw [if_neg e6] at q
          refine ⟨x, by omega, ?_, ?_⟩
          · rw [q, show bi m x = bi m (2 + (x - 2)) by rw [show 2 + (x - 2) = x by omega], bi2 (by omega)]
          · rw [if_neg (by omega), if_neg (by omega)]
    have hb2 : bij m1 := by
      refine ⟨fun x a b => ?_, fun x y a b c' d f => ?_⟩
      · obtain ⟨z, z1, z2, -⟩ := fB x a b
        rw [z2]
        exact h2.1 z z1.1 z1.2
      · obtain ⟨z, z1, z2, z3⟩ := fB x a b
        obtain ⟨w, w1, w2, w3⟩ := fB y c' d
        rw [z2, w2]
        refine h2.2 z w z1.1 z1.2 w1.1 w1.2 ?_
        rw [z3, w3]
        split <;> split <;> (try split) <;> (try split) <;> omega
    have fR : ∀ j q, VV W q → Rep m j q → Rep m1 j q := fun j q a b => Rep_sm a b (fun k i p z => fk k i p (by rcases z with ⟨z1, z2⟩ | ⟨z1, z2⟩ | ⟨z1, z2⟩ <;> omega) (by rcases z with ⟨z1, z2⟩ | ⟨z1, z2⟩ | ⟨z1, z2⟩ <;> omega))
    have hC : CH W m1 (fun p => m 41 0 (360 * (n - 1) + p)) (n - 1) (fun i p => m 41 0 (360 * i + p)) := by
      obtain ⟨g1, g2⟩ := h4 (n - 1) (by omega) (by omega)
      refine ⟨⟨by omega, f73⟩, hb2, ⟨g1, by rw [f70]; exact fR _ _ g1 g2⟩, fun i a b => ?_⟩
      obtain ⟨g1, g2⟩ := h4 i (by omega) (by omega)
      rw [f39, if_neg (by omega)]
      exact ⟨g1, fR _ _ g1 g2⟩
    have e83 : m1 8 0 3 = n := by rw [fk 8 0 3 (by omega) (by omega), hN]
    have hx : wp (ob_E (234, 0, [(11, 0), (0, 0)], [], (m1, none))) (fun v m2 => v = n - 1 ∧ m2 8 0 3 = n - 1 ∧ (∀ p, 0 ≤ p → p < 360 → m2 40 0 p = m 41 0 (360 * (n - 1) + p)) ∧ ∀ k i x, k ≠ 40 → ¬ (k = 8 ∧ x = 3) → m2 k i x = m1 k i x) := by
      rw [sg_X8_back_0, e83, if_neg c, ob_wr_id (by omega) (by omega)]
      refine wp_for (fun y (m' : ob_Mem) => ob_E (234, 26, [(11, 0), (1, y)], [], (m', none))) 0 360 (fun y m' => m' 8 0 3 = n - 1 ∧ (∀ p, 0 ≤ p → p < y → m' 40 0 p = m 41 0 (360 * (n - 1) + p)) ∧ ∀ k i x, k ≠ 40 → ¬ (k = 8 ∧ x = 3) → m' k i x = m1 k i x) ?_ ?_ (by omega) ⟨rs_e rfl rfl, fun p a b => absurd a (by omega), fun k i x a b => ?_⟩
      · intro y m2 g1 g2 ⟨j1, j2, j3⟩ hk
        have e41 : m2 41 0 (360 * (n - 1) + y) = m 41 0 (360 * (n - 1) + y) := by
          rw [j3 41 0 _ (by omega) (by omega), fk 41 0 _ (by omega) (by omega)]
        rw [sg_X8_back_26]
        simp (disch := first | omega | assumption) only [↓if_pos, ↓if_neg, Option.bind_some, ob_wr_id, j1, e41]
        refine hk _ ⟨by rw [rs_k (by omega)]; exact j1, fun p a b => ?_, fun k i x a b => by rw [rs_k a]; exact j3 k i x a b⟩
        by_cases e : p = y
        · rw [rs_e rfl e, e]
        · rw [rs_s e]
          exact j2 p a (by omega)
      · intro m2 ⟨j1, j2, j3⟩
        rw [sg_X8_back_26]
        simp (disch := first | omega | assumption) only [↓if_pos, ↓if_neg, Option.bind_some, ob_wr_id, j1]
        exact wp_ret ⟨rfl, j1, j2, j3⟩
      · by_cases e : k = 8
        · exact rs_s (by omega)
        · exact rs_k e
    obtain ⟨v, m2, e2, rfl, x1, x2, x3⟩ := hx
    have x4 : ∀ k i x, k ≠ 40 → ¬ (k = 8 ∧ x = 3) → k ≠ 39 → k ≠ 7 → m2 k i x = m k i x := fun k i x a b c d => (x3 k i x a b).trans (fk k i x c d)
    have e822 := x4 8 0 22 (by omega) (by omega) (by omega) (by omega)
    refine ⟨n - 1, m1, m2, ec, e2, ⟨?_, fun x a b => ?_, ?_, ?_, ?_, fun i a b => ?_⟩, fun k i x hk => ⟨fk k i x (by omega) (by omega), x4 k i x (by omega) (by omega) (by omega) (by omega)⟩⟩
    · rw [x1]
      exact CH_m (Int.le_refl _) hC (fun k i x hk => x3 k i x (by omega) (by omega)) x2 (fun i a b p _ _ => x4 41 0 _ (by omega) (by omega) (by omega) (by omega))
    · rw [x3 7 0 x (by omega) (by omega), f7 x a, x4 43 0 _ (by omega) (by omega) (by omega) (by omega)]
      exact i2 x a b
    · have y : ∀ k x, k = 2 ∨ k = 44 → m2 k 0 x = m k 0 x := fun k x hk => x4 k 0 x (by omega) (by omega) (by omega) (by omega)
      rw [y 2 _ (by omega), y 2 _ (by omega), y 2 _ (by omega), y 2 _ (by omega), y 44 _ (by omega), y 44 _ (by omega), y 44 _ (by omega), y 44 _ (by omega)]
      exact i3
    · rw [e822, x4 6 0 0 (by omega) (by omega) (by omega) (by omega)]
      exact i4
    · rw [e822]
      exact i5
    · rw [e822] at b
      rw [x4 36 0 i (by omega) (by omega) (by omega) (by omega), x4 55 0 i (by omega) (by omega) (by omega) (by omega)]
      exact i6 i a b
theorem ag_pins {W : Int} {m : ob_Mem} {t : Int} (hW : 0 ≤ W) (h : Inv W m) : Agr W W m (fun m => ob_E (93, 0, [(10, 0), (1, t)], [], (m, none))) (fun m => ob_E (187, 0, [(11, 0), (1, t), (0, 0)], [], (m, none))) := by
  obtain ⟨hV, hn⟩ := Inv_V h
  have hc : wp (ob_E (93, 0, [(10, 0), (1, t)], [], (m, none))) (fun v m' => lv m m' ∧ ((¬ (0 ≤ t ∧ t < m 40 0 2) ∧ v = -2 ∧ CR W m (m 40 0) (m 40 0) (m 8 0 3) (fun i p => m 41 0 (360 * i + p)) (-2) m' ∧ ∀ x, m' 2 0 x = m 2 0 x) ∨ ((0 ≤ t ∧ t < m 40 0 2) ∧ v = -3 ∧ CR W m (m 40 0) (m 40 0) (m 8 0 3) (fun i p => m 41 0 (360 * i + p)) (-3) m' ∧ ∃ k a b, CP (m 40 0) t k a b ∧ cs m' k a b (-1)) ∨ ((0 ≤ t ∧ t < m 40 0 2) ∧ OkP (m 40 0) t ∧ v = m 40 0 (12 + 116 * t + 2) ∧ CR W m (m 40 0) (piS (m 40 0) t) (m 8 0 3) (fun i p => m 41 0 (360 * i + p)) v m' ∧ ∀ x, m' 2 0 x = m 2 0 x))) := by
    rw [sg_X7_pins_0]
    refine wp_b (cl_remember h.1) (fun _ m1 h1 => ?_)
    obtain ⟨r1, r2, r3⟩ := h1
    have b0 := r1.1.2.1.1 0 (by omega) (by omega)
    have l1 : lv m m1 := lv_sm (sm_m r3 (fun k i => Or.inr))
    have e1 : ∀ k i x, k = 7 ∨ k = 2 → m1 k i x = m k i x := fun k i x hk => r3 k i x (fun z => by rcases z with ⟨z1, z2⟩ | ⟨z1, z2⟩ | ⟨z1, z2⟩ <;> omega)
    rw [sg_X7_pins_4]
    refine wp_b (cl_putOn b0 hV r1.1.2.2.1.2) (fun v m2 h2 => ?_)
    rw [sg_X7_pins_21]
    rcases h2 with ⟨c, rfl, rfl⟩ | ⟨c, rfl, s2, k, a, b, hC, hc⟩ | ⟨c, hO, rfl, R2, s2⟩
    · refine wp_b (cl_changed r1 (fun _ => ⟨by omega, r1.1⟩)) (fun v' m3 h3 => ?_)
      obtain ⟨rfl, c3, c4⟩ := h3
      rw [sg_X7_pins_24]
      refine wp_ret ⟨lv_t l1 (fun k i x hk => c4 k i x (by omega) (by omega)), Or.inl ⟨c, rfl, ?_, fun x => by rw [c4 2 0 x (by omega) (by omega), e1 2 0 x (by omega)]⟩⟩
      rcases c3 with ⟨d1, d2, d3, d4⟩ | ⟨d1, -⟩
      · exact Or.inl ⟨d1, d2, d3, fun x p q => by rw [d4 x p q, e1 7 0 x (by omega)]⟩
      · omega
    · have R2 := Rep_gA b0 hV r1.1.2.2.1.2 s2
      have P2 := PC_sm r1 (sm_m s2 (fun k i => Or.inl)) hV R2
      have e2 : ∀ x, m2 7 0 x = m 7 0 x := fun x => by
        rw [s2 7 0 x (fun z => by rcases z with (⟨z1, z2⟩ | ⟨z1, z2⟩ | z1) | z1 <;> omega), e1 7 0 x (by omega)]
      refine wp_b (cl_changed P2 (fun _ => ⟨by omega, P2.1⟩)) (fun v' m3 h3 => ?_)
      obtain ⟨rfl, c3, c4⟩ := h3
      rw [sg_X7_pins_24]
      refine wp_ret ⟨lv_t (lv_t l1 (lv_sm (j := 0) (sm_m s2 (fun k i => Or.inl)))) (fun k i x hk => c4 k i x (by omega) (by omega)), Or.inr (Or.inl ⟨c, rfl, ?_, k, a, b, hC, ?_⟩)⟩
      · rcases c3 with ⟨d1, d2, d3, d4⟩ | ⟨d1, -⟩
        · exact Or.inl ⟨d1, d2, d3, fun x p q => by rw [d4 x p q, e2]⟩
        · omega
      · obtain ⟨q1, q2, q3, q4⟩ := hc
        have e3 : ∀ x, m3 2 0 x = m2 2 0 x := fun x => c4 2 0 x (by omega) (by omega)
        exact ⟨by rw [e3, q1], by rw [e3, q2], by rw [e3, q3], by rw [e3, q4]⟩
    · have hVp := VV_pi hW hV c hO.1 hO.2.1
      have s2' : sm (fun k i => gA k i ∨ gB (m1 7 0 0) k i) m1 m2 := sm_m s2 (fun k i z => by
        rcases z with z | z
        · exact Or.inl (Or.inl z)
        · exact Or.inr z)
      have P2 := PC_sm r1 s2' hVp R2
      have e2 : ∀ k x, k = 7 ∨ k = 2 → m2 k 0 x = m k 0 x := fun k x hk => by
        rw [s2 k 0 x (fun z => by rcases z with (⟨z1, z2⟩ | ⟨z1, z2⟩ | z1) | ⟨z1, z2⟩ | ⟨z1, z2⟩ | ⟨z1, z2⟩ <;> omega), e1 k 0 x (by omega)]
      have nn : ¬ (m 40 0 (12 + 116 * t + 2) < 0) := by
        have hT3 := hV.1.2.2.1
        have := (hV.2 t (by omega) (by omega)).1.2.2.1
        omega
      refine wp_b (cl_changed P2 (fun z => absurd z nn)) (fun v' m3 h3 => ?_)
      obtain ⟨rfl, c3, c4⟩ := h3
      rw [sg_X7_pins_24]
      refine wp_ret ⟨lv_t (lv_t l1 (lv_sm s2')) (fun k i x hk => c4 k i x (by omega) (by omega)), Or.inr (Or.inr ⟨c, hO, rfl, ?_, fun x => by rw [c4 2 0 x (by omega) (by omega), e2 2 x (by omega)]⟩)⟩
      rcases c3 with ⟨d1, -⟩ | ⟨d1, d2, d3⟩
      · exact absurd d1 nn
      · exact Or.inr ⟨d1, d2, fun x p q => by rw [d3 x p q, e2 7 x (by omega)]⟩
  obtain ⟨v, m1, e1, l1, c1⟩ := hc
  have er : m1 40 0 = m 40 0 := lv_r l1 (by omega)
  obtain ⟨v', m2, e2, d⟩ := md_pins m1 (t := t) (by rw [er]; exact hV) (by rw [l1 8 0 3 (by omega)]; exact hn)
  rw [er] at d
  rcases c1 with ⟨a1, rfl, a3, a4⟩ | ⟨a1, rfl, a3, k, a, b, a4, a5⟩ | ⟨a1, a2, rfl, a4, a5⟩
  · rcases d with ⟨b1, rfl, b3⟩ | ⟨b1, -⟩ | ⟨b1, -⟩
    · refine ⟨-2, m1, m2, e1, e2, ?_, fun k i x hk => ⟨l1 k i x (by omega), by rw [b3.2.2.2.2.2 k i x (by omega), l1 k i x (by omega)]⟩⟩
      rcases a3 with ⟨d1, d2, d3, d4⟩ | ⟨d1, -⟩
      · exact J_ref h l1 d2 d3 d4 a4 b3
      · omega
    · exact absurd b1 a1
    · exact absurd b1 a1
  · rcases d with ⟨b1, -⟩ | ⟨b1, rfl, k', a', b', b3, b4⟩ | ⟨b1, b2, -⟩
    · exact absurd a1 b1
    · obtain ⟨rfl, rfl, rfl⟩ := CP_u a4 b3
      refine ⟨-3, m1, m2, e1, e2, ?_, fun k i x hk => ⟨l1 k i x (by omega), by rw [b4.2.2.2.2.2 k i x (by omega), l1 k i x (by omega)]⟩⟩
      rcases a3 with ⟨d1, d2, d3, d4⟩ | ⟨d1, -⟩
      · exact J_refc h l1 d2 d3 d4 a5 b4
      · omega
    · exact absurd b2 (CP_O a4)
  · rcases d with ⟨b1, -⟩ | ⟨b1, rfl, k', a', b', b3, b4⟩ | ⟨b1, b2, rfl, b4⟩
    · exact absurd a1 b1
    · exact absurd a2 (CP_O b3)
    · refine ⟨m 40 0 (12 + 116 * t + 2), m1, m2, e1, e2, ?_, fun k i x hk => ⟨l1 k i x (by omega), by rw [b4.1 k i x (by omega), l1 k i x (by omega)]⟩⟩
      have hT3 := hV.1.2.2.1
      have nn := (hV.2 t (by omega) (by omega)).1.2.2.1
      rcases a4 with ⟨d1, -⟩ | ⟨d1, d2, d3⟩
      · omega
      · exact J_done (Int.le_refl _) h l1 d2 d3 a5 b4
theorem TT_i {s : Int → Int} {a b c a' b' c' : Int} (hR : 6 ≤ s 0 ∧ s 0 ≤ 24) (h : inR s a b c) (h' : inR s a' b' c') (e : TT a b c = TT a' b' c') : a = a' ∧ b = b' ∧ c = c' := by
  obtain ⟨x1, x2, x3, x4⟩ := TT_d hR h
  obtain ⟨y1, y2, y3, y4⟩ := TT_d hR h'
  rw [e] at x1 x2 x3 x4
  omega
theorem ag_settles {W : Int} {m : ob_Mem} (hW : 0 ≤ W) (h : Inv W m) : Agr W W m (fun m => ob_E (96, 0, [(10, 0)], [], (m, none))) (fun m => ob_E (197, 0, [(11, 0), (0, 0), (0, 0), (0, 0)], [], (m, none))) := by
  obtain ⟨hV, hn⟩ := Inv_V h
  have hc : wp (ob_E (96, 0, [(10, 0)], [], (m, none))) (fun v m' => lv m m' ∧ ((v = -3 ∧ CR W m (m 40 0) (m 40 0) (m 8 0 3) (fun i p => m 41 0 (360 * i + p)) (-3) m' ∧ ∃ k a b, SC (m 40 0) k a b ∧ cs m' k a b (-1)) ∨ ∃ a b c, inR (m 40 0) a b c ∧ OkS (m 40 0) (TT a b c) ∧ v = a + b + c ∧ CR W m (m 40 0) (seC (m 40 0) (xF a b c) (m 40 0 2).toNat) (m 8 0 3) (fun i p => m 41 0 (360 * i + p)) v m' ∧ ∀ x, m' 2 0 x = m 2 0 x)) := by
    rw [sg_X7_settles_0]
    refine wp_b (cl_remember h.1) (fun _ m1 h1 => ?_)
    obtain ⟨r1, r2, r3⟩ := h1
    have b0 := r1.1.2.1.1 0 (by omega) (by omega)
    have l1 : lv m m1 := lv_sm (sm_m r3 (fun k i => Or.inr))
    have e1 : ∀ k i x, k = 7 ∨ k = 2 → m1 k i x = m k i x := fun k i x hk => r3 k i x (fun z => by rcases z with ⟨z1, z2⟩ | ⟨z1, z2⟩ | ⟨z1, z2⟩ <;> omega)
    rw [sg_X7_settles_4]
    refine wp_b (cl_settleAll b0 hW hV r1.1.2.2.1.2) (fun v m2 h2 => ?_)
    rw [sg_X7_settles_20]
    rcases h2 with ⟨rfl, s2, k, a, b, hC, hc⟩ | ⟨a, b, c, hi, hO, rfl, R2, hVp, s2⟩
    · have R2 := Rep_gA b0 hV r1.1.2.2.1.2 s2
      have P2 := PC_sm r1 (sm_m s2 (fun k i => Or.inl)) hV R2
      have e2 : ∀ x, m2 7 0 x = m 7 0 x := fun x => by
        rw [s2 7 0 x (fun z => by rcases z with (⟨z1, z2⟩ | ⟨z1, z2⟩ | z1) | z1 <;> omega), e1 7 0 x (by omega)]
      refine wp_b (cl_changed P2 (fun _ => ⟨by omega, P2.1⟩)) (fun v' m3 h3 => ?_)
      obtain ⟨rfl, c3, c4⟩ := h3
      rw [sg_X7_settles_23]
      refine wp_ret ⟨lv_t (lv_t l1 (lv_sm (j := 0) (sm_m s2 (fun k i => Or.inl)))) (fun k i x hk => c4 k i x (by omega) (by omega)), Or.inl ⟨rfl, ?_, k, a, b, hC, ?_⟩⟩
      · rcases c3 with ⟨d1, d2, d3, d4⟩ | ⟨d1, -⟩
        · exact Or.inl ⟨d1, d2, d3, fun x p q => by rw [d4 x p q, e2]⟩
        · omega
      · obtain ⟨q1, q2, q3, q4⟩ := hc
        have e3 : ∀ x, m3 2 0 x = m2 2 0 x := fun x => c4 2 0 x (by omega) (by omega)
        exact ⟨by rw [e3, q1], by rw [e3, q2], by rw [e3, q3], by rw [e3, q4]⟩
    · have s2' : sm (fun k i => gA k i ∨ gB (m1 7 0 0) k i) m1 m2 := sm_m s2 (fun k i z => by
        rcases z with z | z
        · exact Or.inl (Or.inl z)
        · exact Or.inr z)
      have P2 := PC_sm r1 s2' hVp R2
      have e2 : ∀ k x, k = 7 ∨ k = 2 → m2 k 0 x = m k 0 x := fun k x hk => by
        rw [s2 k 0 x (fun z => by rcases z with (⟨z1, z2⟩ | ⟨z1, z2⟩ | z1) | ⟨z1, z2⟩ | ⟨z1, z2⟩ | ⟨z1, z2⟩ <;> omega), e1 k 0 x (by omega)]
      have nn : ¬ (a + b + c < 0) := by
        obtain ⟨q1, q2, q3⟩ := hi
        omega
      refine wp_b (cl_changed P2 (fun z => absurd z nn)) (fun v' m3 h3 => ?_)
      obtain ⟨rfl, c3, c4⟩ := h3
      rw [sg_X7_settles_23]
      refine wp_ret ⟨lv_t (lv_t l1 (lv_sm s2')) (fun k i x hk => c4 k i x (by omega) (by omega)), Or.inr ⟨a, b, c, hi, hO, rfl, ?_, fun x => by rw [c4 2 0 x (by omega) (by omega), e2 2 x (by omega)]⟩⟩
      rcases c3 with ⟨d1, -⟩ | ⟨d1, d2, d3⟩
      · exact absurd d1 nn
      · exact Or.inr ⟨d1, d2, fun x p q => by rw [d3 x p q, e2 7 x (by omega)]⟩
  obtain ⟨v, m1, e1, l1, c1⟩ := hc
  have er : m1 40 0 = m 40 0 := lv_r l1 (by omega)
  obtain ⟨v', m2, e2, d⟩ := md_settles m1 hW (by rw [er]; exact hV) (by rw [l1 8 0 3 (by omega)]; exact hn)
  rw [er] at d
  rcases c1 with ⟨rfl, a3, k, a, b, a4, a5⟩ | ⟨a, b, c, a1, a2, rfl, a4, a5⟩
  · rcases d with ⟨rfl, k', a', b', b3, b4⟩ | ⟨a', b', c', b1, b2, -⟩
    · obtain ⟨rfl, rfl, rfl⟩ := SC_u a4 b3
      refine ⟨-3, m1, m2, e1, e2, ?_, fun k i x hk => ⟨l1 k i x (by omega), by rw [b4.2.2.2.2.2 k i x (by omega), l1 k i x (by omega)]⟩⟩
      rcases a3 with ⟨d1, d2, d3, d4⟩ | ⟨d1, -⟩
      · exact J_refc h l1 d2 d3 d4 a5 b4
      · omega
    · exact absurd b2 (SC_O a4)
  · rcases d with ⟨rfl, k', a', b', b3, b4⟩ | ⟨a', b', c', b1, b2, rfl, b4⟩
    · exact absurd a2 (SC_O b3)
    · obtain ⟨rfl, rfl, rfl⟩ := TT_i hV.1.1 a1 b1 (MN_u a2.2.2.1 b2.2.2.1)
      refine ⟨a + b + c, m1, m2, e1, e2, ?_, fun k i x hk => ⟨l1 k i x (by omega), by rw [b4.1 k i x (by omega), l1 k i x (by omega)]⟩⟩
      obtain ⟨q1, q2, q3⟩ := a1
      rcases a4 with ⟨d1, -⟩ | ⟨d1, d2, d3⟩
      · omega
      · exact J_done (Int.le_refl _) h l1 d2 d3 a5 b4
