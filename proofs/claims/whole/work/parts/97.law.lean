-- THE LAW: one call; the loop
theorem ob_cmp_s (x : Int) : ob_cmp x x = 0 := by
  unfold ob_cmp
  rw [if_neg (by omega), if_pos rfl]
set_option maxHeartbeats 4000000 in
theorem law_1 {W i Ln : Int} {m : ob_Mem} (hW : 0 ≤ W ∧ W + 50 ≤ 30000) (h : Inv W m) (hL : m 14 0 0 = Ln) (hb : 0 ≤ Ln ∧ Ln ≤ 2560) (hi : 0 ≤ i ∧ i + 5 ≤ Ln) : ∃ m2, Inv (W + 50) m2 ∧ (∀ k i x, k = 14 ∨ k = 15 → m2 k i x = m k i x) ∧ ob_E (238, 18, [(18, 0), (10, 0), (11, 0), (1, i)], [], (m, none)) = ob_E (238, 18, [(18, 0), (10, 0), (11, 0), (1, i + 5)], [], (m2, none)) := by
  generalize hc : ob_and (m 15 0 i) 31 = c
  by_cases c0 : c = 0
  · obtain ⟨v, m1, m2, e1, e2, j, sc⟩ : Agr W (W + 50) m (fun m' => ob_E (83, 0, [(10, 0), (1, m 15 0 (i + 1)), (1, m 15 0 (i + 2)), (1, m 15 0 (i + 3))], [], (m', none))) (fun m' => ob_E (154, 0, [(11, 0), (1, m 15 0 (i + 1)), (1, m 15 0 (i + 2)), (1, m 15 0 (i + 3)), (0, 0)], [], (m', none))) := Agr_W (by omega) (ag_barrel h)
    have e1 : ob_E (83, 0, [(10, 0), (1, m 15 0 (i + 1)), (1, m 15 0 (i + 2)), (1, m 15 0 (i + 3))], [], (m, none)) = some (v, (m1, none)) := e1
    have e2 : ob_E (154, 0, [(11, 0), (1, m 15 0 (i + 1)), (1, m 15 0 (i + 2)), (1, m 15 0 (i + 3)), (0, 0)], [], (m1, none)) = some (v, (m2, none)) := e2
    have s14 := (sc 14 0 0 (by omega)).1
    have s1 := (sc 15 0 (i + 1) (by omega)).1
    have s2 := (sc 15 0 (i + 2) (by omega)).1
    have s3 := (sc 15 0 (i + 3) (by omega)).1
    refine ⟨m2, j, fun k i x hk => (sc k i x hk).2, ?_⟩
    rw [sg_L_law_18]
    simp (disch := first | omega | assumption) only [↓if_pos, ↓if_neg, Option.bind_some, ob_wr_id, hc, hL, e1, s14, s1, s2, s3, e2, sg_L_law_187, sg_L_law_206, sg_L_law_999]
  by_cases c1 : c = 1
  · obtain ⟨v, m1, m2, e1, e2, j, sc⟩ : Agr W (W + 50) m (fun m' => ob_E (84, 0, [(10, 0), (1, m 15 0 (i + 1)), (1, m 15 0 (i + 2))], [], (m', none))) (fun m' => ob_E (156, 0, [(11, 0), (1, m 15 0 (i + 1)), (1, m 15 0 (i + 2))], [], (m', none))) := Agr_W (by omega) (ag_sets h)
    have e1 : ob_E (84, 0, [(10, 0), (1, m 15 0 (i + 1)), (1, m 15 0 (i + 2))], [], (m, none)) = some (v, (m1, none)) := e1
    have e2 : ob_E (156, 0, [(11, 0), (1, m 15 0 (i + 1)), (1, m 15 0 (i + 2))], [], (m1, none)) = some (v, (m2, none)) := e2
    have s14 := (sc 14 0 0 (by omega)).1
    have s1 := (sc 15 0 (i + 1) (by omega)).1
    have s2 := (sc 15 0 (i + 2) (by omega)).1
    refine ⟨m2, j, fun k i x hk => (sc k i x hk).2, ?_⟩
    rw [sg_L_law_18]
    simp (disch := first | omega | assumption) only [↓if_pos, ↓if_neg, Option.bind_some, ob_wr_id, hc, hL, e1, s14, s1, s2, e2, sg_L_law_225, sg_L_law_239, sg_L_law_999]
  by_cases c2 : c = 2
  · obtain ⟨v, m1, m2, e1, e2, j, sc⟩ : Agr W (W + 50) m (fun m' => ob_E (85, 0, [(10, 0), (1, m 15 0 (i + 1)), (1, m 15 0 (i + 2))], [], (m', none))) (fun m' => ob_E (158, 0, [(11, 0), (1, m 15 0 (i + 1)), (1, m 15 0 (i + 2))], [], (m', none))) := Agr_W (by omega) (ag_gap h)
    have e1 : ob_E (85, 0, [(10, 0), (1, m 15 0 (i + 1)), (1, m 15 0 (i + 2))], [], (m, none)) = some (v, (m1, none)) := e1
    have e2 : ob_E (158, 0, [(11, 0), (1, m 15 0 (i + 1)), (1, m 15 0 (i + 2))], [], (m1, none)) = some (v, (m2, none)) := e2
    have s14 := (sc 14 0 0 (by omega)).1
    have s1 := (sc 15 0 (i + 1) (by omega)).1
    have s2 := (sc 15 0 (i + 2) (by omega)).1
    refine ⟨m2, j, fun k i x hk => (sc k i x hk).2, ?_⟩
    rw [sg_L_law_18]
    simp (disch := first | omega | assumption) only [↓if_pos, ↓if_neg, Option.bind_some, ob_wr_id, hc, hL, e1, s14, s1, s2, e2, sg_L_law_258, sg_L_law_272, sg_L_law_999]
  by_cases c3 : c = 3
  · obtain ⟨v, m1, m2, e1, e2, j, sc⟩ : Agr W (W + 50) m (fun m' => ob_E (86, 0, [(10, 0), (1, m 15 0 (i + 1))], [], (m', none))) (fun m' => ob_E (160, 0, [(11, 0), (1, m 15 0 (i + 1))], [], (m', none))) := Agr_W (by omega) (ag_side h)
    have e1 : ob_E (86, 0, [(10, 0), (1, m 15 0 (i + 1))], [], (m, none)) = some (v, (m1, none)) := e1
    have e2 : ob_E (160, 0, [(11, 0), (1, m 15 0 (i + 1))], [], (m1, none)) = some (v, (m2, none)) := e2
    have s14 := (sc 14 0 0 (by omega)).1
    have s1 := (sc 15 0 (i + 1) (by omega)).1
    refine ⟨m2, j, fun k i x hk => (sc k i x hk).2, ?_⟩
    rw [sg_L_law_18]
    simp (disch := first | omega | assumption) only [↓if_pos, ↓if_neg, Option.bind_some, ob_wr_id, hc, hL, e1, s14, s1, e2, sg_L_law_286, sg_L_law_295, sg_L_law_999]
  by_cases c4 : c = 4
  · obtain ⟨v, m1, m2, e1, e2, j, sc⟩ : Agr W (W + 50) m (fun m' => ob_E (87, 0, [(10, 0), (1, m 15 0 (i + 1)), (1, m 15 0 (i + 2))], [], (m', none))) (fun m' => ob_E (163, 0, [(11, 0), (1, m 15 0 (i + 1)), (1, m 15 0 (i + 2))], [], (m', none))) := Agr_W (by omega) (ag_ticks h)
    have e1 : ob_E (87, 0, [(10, 0), (1, m 15 0 (i + 1)), (1, m 15 0 (i + 2))], [], (m, none)) = some (v, (m1, none)) := e1
    have e2 : ob_E (163, 0, [(11, 0), (1, m 15 0 (i + 1)), (1, m 15 0 (i + 2))], [], (m1, none)) = some (v, (m2, none)) := e2
    have s14 := (sc 14 0 0 (by omega)).1
    have s1 := (sc 15 0 (i + 1) (by omega)).1
    have s2 := (sc 15 0 (i + 2) (by omega)).1
    refine ⟨m2, j, fun k i x hk => (sc k i x hk).2, ?_⟩
    rw [sg_L_law_18]
    simp (disch := first | omega | assumption) only [↓if_pos, ↓if_neg, Option.bind_some, ob_wr_id, hc, hL, e1, s14, s1, s2, e2, sg_L_law_314, sg_L_law_328, sg_L_law_999]
  by_cases c5 : c = 5
  · obtain ⟨v, m1, m2, e1, e2, j, sc⟩ : Agr W (W + 50) m (fun m' => ob_E (88, 0, [(10, 0), (1, m 15 0 (i + 1)), (1, m 15 0 (i + 2)), (1, m 15 0 (i + 3)), (1, m 15 0 (i + 4))], [], (m', none))) (fun m' => ob_E (166, 0, [(11, 0), (1, m 15 0 (i + 1)), (1, m 15 0 (i + 2)), (1, m 15 0 (i + 3)), (1, m 15 0 (i + 4)), (0, 0)], [], (m', none))) := Agr_W (by omega) (ag_note h)
    have e1 : ob_E (88, 0, [(10, 0), (1, m 15 0 (i + 1)), (1, m 15 0 (i + 2)), (1, m 15 0 (i + 3)), (1, m 15 0 (i + 4))], [], (m, none)) = some (v, (m1, none)) := e1
    have e2 : ob_E (166, 0, [(11, 0), (1, m 15 0 (i + 1)), (1, m 15 0 (i + 2)), (1, m 15 0 (i + 3)), (1, m 15 0 (i + 4)), (0, 0)], [], (m1, none)) = some (v, (m2, none)) := e2
    have s14 := (sc 14 0 0 (by omega)).1
    have s1 := (sc 15 0 (i + 1) (by omega)).1
    have s2 := (sc 15 0 (i + 2) (by omega)).1
    have s3 := (sc 15 0 (i + 3) (by omega)).1
    have s4 := (sc 15 0 (i + 4) (by omega)).1
    refine ⟨m2, j, fun k i x hk => (sc k i x hk).2, ?_⟩
    rw [sg_L_law_18]
    simp (disch := first | omega | assumption) only [↓if_pos, ↓if_neg, Option.bind_some, ob_wr_id, hc, hL, e1, s14, s1, s2, s3, s4, e2, sg_L_law_357, sg_L_law_381, sg_L_law_999]
  by_cases c6 : c = 6
  · obtain ⟨v, m1, m2, e1, e2, j, sc⟩ : Agr W (W + 50) m (fun m' => ob_E (89, 0, [(10, 0), (1, m 15 0 (i + 1)), (1, m 15 0 (i + 2))], [], (m', none))) (fun m' => ob_E (168, 0, [(11, 0), (1, m 15 0 (i + 1)), (1, m 15 0 (i + 2)), (0, 0)], [], (m', none))) := Agr_W (by omega) (ag_drop h)
    have e1 : ob_E (89, 0, [(10, 0), (1, m 15 0 (i + 1)), (1, m 15 0 (i + 2))], [], (m, none)) = some (v, (m1, none)) := e1
    have e2 : ob_E (168, 0, [(11, 0), (1, m 15 0 (i + 1)), (1, m 15 0 (i + 2)), (0, 0)], [], (m1, none)) = some (v, (m2, none)) := e2
    have s14 := (sc 14 0 0 (by omega)).1
    have s1 := (sc 15 0 (i + 1) (by omega)).1
    have s2 := (sc 15 0 (i + 2) (by omega)).1
    refine ⟨m2, j, fun k i x hk => (sc k i x hk).2, ?_⟩
    rw [sg_L_law_18]
    simp (disch := first | omega | assumption) only [↓if_pos, ↓if_neg, Option.bind_some, ob_wr_id, hc, hL, e1, s14, s1, s2, e2, sg_L_law_400, sg_L_law_414, sg_L_law_999]
  by_cases c7 : c = 7
  · obtain ⟨v, m1, m2, e1, e2, j, sc⟩ : Agr W (W + 50) m (fun m' => ob_E (90, 0, [(10, 0), (1, m 15 0 (i + 1)), (1, m 15 0 (i + 2))], [], (m', none))) (fun m' => ob_E (171, 0, [(11, 0), (1, m 15 0 (i + 1)), (1, m 15 0 (i + 2))], [], (m', none))) := Agr_W (by omega) (ag_shift h)
    have e1 : ob_E (90, 0, [(10, 0), (1, m 15 0 (i + 1)), (1, m 15 0 (i + 2))], [], (m, none)) = some (v, (m1, none)) := e1
    have e2 : ob_E (171, 0, [(11, 0), (1, m 15 0 (i + 1)), (1, m 15 0 (i + 2))], [], (m1, none)) = some (v, (m2, none)) := e2
    have s14 := (sc 14 0 0 (by omega)).1
    have s1 := (sc 15 0 (i + 1) (by omega)).1
    have s2 := (sc 15 0 (i + 2) (by omega)).1
    refine ⟨m2, j, fun k i x hk => (sc k i x hk).2, ?_⟩
    rw [sg_L_law_18]
    simp (disch := first | omega | assumption) only [↓if_pos, ↓if_neg, Option.bind_some, ob_wr_id, hc, hL, e1, s14, s1, s2, e2, sg_L_law_433, sg_L_law_447, sg_L_law_999]
  by_cases c8 : c = 8
  · obtain ⟨v, m1, m2, e1, e2, j, sc⟩ : Agr W (W + 50) m (fun m' => ob_E (91, 0, [(10, 0), (1, m 15 0 (i + 1)), (1, m 15 0 (i + 2))], [], (m', none))) (fun m' => ob_E (173, 0, [(11, 0), (1, m 15 0 (i + 1)), (1, m 15 0 (i + 2))], [], (m', none))) := Agr_W (by omega) (ag_tune h)
    have e1 : ob_E (91, 0, [(10, 0), (1, m 15 0 (i + 1)), (1, m 15 0 (i + 2))], [], (m, none)) = some (v, (m1, none)) := e1
    have e2 : ob_E (173, 0, [(11, 0), (1, m 15 0 (i + 1)), (1, m 15 0 (i + 2))], [], (m1, none)) = some (v, (m2, none)) := e2
    have s14 := (sc 14 0 0 (by omega)).1
    have s1 := (sc 15 0 (i + 1) (by omega)).1
    have s2 := (sc 15 0 (i + 2) (by omega)).1
    refine ⟨m2, j, fun k i x hk => (sc k i x hk).2, ?_⟩
    rw [sg_L_law_18]
    simp (disch := first | omega | assumption) only [↓if_pos, ↓if_neg, Option.bind_some, ob_wr_id, hc, hL, e1, s14, s1, s2, e2, sg_L_law_466, sg_L_law_480, sg_L_law_999]
  by_cases c9 : c = 9
  · obtain ⟨v, m1, m2, e1, e2, j, sc⟩ : Agr W (W + 50) m (fun m' => ob_E (92, 0, [(10, 0), (1, m 15 0 (i + 1)), (1, m 15 0 (i + 2)), (1, m 15 0 (i + 3))], [], (m', none))) (fun m' => ob_E (175, 0, [(11, 0), (1, m 15 0 (i + 1)), (1, m 15 0 (i + 2)), (1, m 15 0 (i + 3))], [], (m', none))) := Agr_W (by omega) (ag_noteOf h)
    have e1 : ob_E (92, 0, [(10, 0), (1, m 15 0 (i + 1)), (1, m 15 0 (i + 2)), (1, m 15 0 (i + 3))], [], (m, none)) = some (v, (m1, none)) := e1
    have e2 : ob_E (175, 0, [(11, 0), (1, m 15 0 (i + 1)), (1, m 15 0 (i + 2)), (1, m 15 0 (i + 3))], [], (m1, none)) = some (v, (m2, none)) := e2
    have s14 := (sc 14 0 0 (by omega)).1
    have s1 := (sc 15 0 (i + 1) (by omega)).1
    have s2 := (sc 15 0 (i + 2) (by omega)).1
    have s3 := (sc 15 0 (i + 3) (by omega)).1
    refine ⟨m2, j, fun k i x hk => (sc k i x hk).2, ?_⟩
    rw [sg_L_law_18]
    simp (disch := first | omega | assumption) only [↓if_pos, ↓if_neg, Option.bind_some, ob_wr_id, hc, hL, e1, s14, s1, s2, s3, e2, sg_L_law_504, sg_L_law_523, sg_L_law_999]
  by_cases c10 : c = 10
  · obtain ⟨v, m1, m2, e1, e2, j, sc⟩ : Agr W (W + 50) m (fun m' => ob_E (93, 0, [(10, 0), (1, m 15 0 (i + 1))], [], (m', none))) (fun m' => ob_E (187, 0, [(11, 0), (1, m 15 0 (i + 1)), (0, 0)], [], (m', none))) := Agr_W (by omega) (ag_pins (by omega) h)
    have e1 : ob_E (93, 0, [(10, 0), (1, m 15 0 (i + 1))], [], (m, none)) = some (v, (m1, none)) := e1
    have e2 : ob_E (187, 0, [(11, 0), (1, m 15 0 (i + 1)), (0, 0)], [], (m1, none)) = some (v, (m2, none)) := e2
    have s14 := (sc 14 0 0 (by omega)).1
    have s1 := (sc 15 0 (i + 1) (by omega)).1
    refine ⟨m2, j, fun k i x hk => (sc k i x hk).2, ?_⟩
    rw [sg_L_law_18]
    simp (disch := first | omega | assumption) only [↓if_pos, ↓if_neg, Option.bind_some, ob_wr_id, hc, hL, e1, s14, s1, e2, sg_L_law_537, sg_L_law_546, sg_L_law_999]
  by_cases c11 : c = 11
  · obtain ⟨v, m1, m2, e1, e2, j, sc⟩ : Agr W (W + 50) m (fun m' => ob_E (94, 0, [(10, 0), (1, m 15 0 (i + 1))], [], (m', none))) (fun m' => ob_E (190, 0, [(11, 0), (1, m 15 0 (i + 1)), (0, 0)], [], (m', none))) := Agr_W (by omega) (ag_off h)
    have e1 : ob_E (94, 0, [(10, 0), (1, m 15 0 (i + 1))], [], (m, none)) = some (v, (m1, none)) := e1
    have e2 : ob_E (190, 0, [(11, 0), (1, m 15 0 (i + 1)), (0, 0)], [], (m1, none)) = some (v, (m2, none)) := e2
    have s14 := (sc 14 0 0 (by omega)).1
    have s1 := (sc 15 0 (i + 1) (by omega)).1
    refine ⟨m2, j, fun k i x hk => (sc k i x hk).2, ?_⟩
    rw [sg_L_law_18]
    simp (disch := first | omega | assumption) only [↓if_pos, ↓if_neg, Option.bind_some, ob_wr_id, hc, hL, e1, s14, s1, e2, sg_L_law_560, sg_L_law_569, sg_L_law_999]
  by_cases c12 : c = 12
  · obtain ⟨v, m1, m2, e1, e2, j, sc⟩ : Agr W (W + 50) m (fun m' => ob_E (95, 0, [(10, 0), (1, m 15 0 (i + 1))], [], (m', none))) (fun m' => ob_E (191, 0, [(11, 0), (1, m 15 0 (i + 1)), (0, 0)], [], (m', none))) := Agr_W (by omega) (ag_fits h)
    have e1 : ob_E (95, 0, [(10, 0), (1, m 15 0 (i + 1))], [], (m, none)) = some (v, (m1, none)) := e1
    have e2 : ob_E (191, 0, [(11, 0), (1, m 15 0 (i + 1)), (0, 0)], [], (m1, none)) = some (v, (m2, none)) := e2
    have s14 := (sc 14 0 0 (by omega)).1
    have s1 := (sc 15 0 (i + 1) (by omega)).1
    refine ⟨m2, j, fun k i x hk => (sc k i x hk).2, ?_⟩
    rw [sg_L_law_18]
    simp (disch := first | omega | assumption) only [↓if_pos, ↓if_neg, Option.bind_some, ob_wr_id, hc, hL, e1, s14, s1, e2, sg_L_law_583, sg_L_law_592, sg_L_law_999]
  by_cases c13 : c = 13
  · obtain ⟨v, m1, m2, e1, e2, j, sc⟩ : Agr W (W + 50) m (fun m' => ob_E (96, 0, [(10, 0)], [], (m', none))) (fun m' => ob_E (197, 0, [(11, 0), (0, 0), (0, 0), (0, 0)], [], (m', none))) := Agr_W (by omega) (ag_settles (by omega) h)
    have e1 : ob_E (96, 0, [(10, 0)], [], (m, none)) = some (v, (m1, none)) := e1
    have e2 : ob_E (197, 0, [(11, 0), (0, 0), (0, 0), (0, 0)], [], (m1, none)) = some (v, (m2, none)) := e2
    have s14 := (sc 14 0 0 (by omega)).1
    refine ⟨m2, j, fun k i x hk => (sc k i x hk).2, ?_⟩
    rw [sg_L_law_18]
    simp (disch := first | omega | assumption) only [↓if_pos, ↓if_neg, Option.bind_some, ob_wr_id, hc, hL, e1, s14, e2, sg_L_law_601, sg_L_law_605, sg_L_law_999]
  by_cases c14 : c = 14
  · obtain ⟨v, m1, m2, e1, e2, j, sc⟩ : Agr W (W + 50) m (fun m' => ob_E (97, 0, [(10, 0), (1, m 15 0 (i + 1)), (1, m 15 0 (i + 2)), (1, m 15 0 (i + 3))], [], (m', none))) (fun m' => ob_E (207, 0, [(11, 0), (1, m 15 0 (i + 1)), (1, m 15 0 (i + 2)), (1, m 15 0 (i + 3))], [], (m', none))) := Agr_W (by omega) (ag_pin h)
    have e1 : ob_E (97, 0, [(10, 0), (1, m 15 0 (i + 1)), (1, m 15 0 (i + 2)), (1, m 15 0 (i + 3))], [], (m, none)) = some (v, (m1, none)) := e1
    have e2 : ob_E (207, 0, [(11, 0), (1, m 15 0 (i + 1)), (1, m 15 0 (i + 2)), (1, m 15 0 (i + 3))], [], (m1, none)) = some (v, (m2, none)) := e2
    have s14 := (sc 14 0 0 (by omega)).1
    have s1 := (sc 15 0 (i + 1) (by omega)).1
    have s2 := (sc 15 0 (i + 2) (by omega)).1
    have s3 := (sc 15 0 (i + 3) (by omega)).1
    refine ⟨m2, j, fun k i x hk => (sc k i x hk).2, ?_⟩
    rw [sg_L_law_18]
    simp (disch := first | omega | assumption) only [↓if_pos, ↓if_neg, Option.bind_some, ob_wr_id, hc, hL, e1, s14, s1, s2, s3, e2, sg_L_law_629, sg_L_law_648, sg_L_law_999]
  by_cases c15 : c = 15
  · obtain ⟨v, m1, m2, e1, e2, j, sc⟩ : Agr W (W + 50) m (fun m' => ob_E (98, 0, [(10, 0), (1, m 15 0 (i + 1))], [], (m', none))) (fun m' => ob_E (208, 0, [(11, 0), (1, m 15 0 (i + 1))], [], (m', none))) := Agr_W (by omega) (ag_why h)
    have e1 : ob_E (98, 0, [(10, 0), (1, m 15 0 (i + 1))], [], (m, none)) = some (v, (m1, none)) := e1
    have e2 : ob_E (208, 0, [(11, 0), (1, m 15 0 (i + 1))], [], (m1, none)) = some (v, (m2, none)) := e2
    have s14 := (sc 14 0 0 (by omega)).1
    have s1 := (sc 15 0 (i + 1) (by omega)).1
    refine ⟨m2, j, fun k i x hk => (sc k i x hk).2, ?_⟩
    rw [sg_L_law_18]
    simp (disch := first | omega | assumption) only [↓if_pos, ↓if_neg, Option.bind_some, ob_wr_id, hc, hL, e1, s14, s1, e2, sg_L_law_662, sg_L_law_671, sg_L_law_999]
  by_cases c16 : c = 16
  · obtain ⟨v, m1, m2, e1, e2, j, sc⟩ : Agr W (W + 50) m (fun m' => ob_E (99, 0, [(10, 0), (1, m 15 0 (i + 1))], [], (m', none))) (fun m' => ob_E (213, 0, [(11, 0), (1, m 15 0 (i + 1))], [], (m', none))) := Agr_W (by omega) (ag_all h)
    have e1 : ob_E (99, 0, [(10, 0), (1, m 15 0 (i + 1))], [], (m, none)) = some (v, (m1, none)) := e1
    have e2 : ob_E (213, 0, [(11, 0), (1, m 15 0 (i + 1))], [], (m1, none)) = some (v, (m2, none)) := e2
    have s14 := (sc 14 0 0 (by omega)).1
    have s1 := (sc 15 0 (i + 1) (by omega)).1
    refine ⟨m2, j, fun k i x hk => (sc k i x hk).2, ?_⟩
    rw [sg_L_law_18]
    simp (disch := first | omega | assumption) only [↓if_pos, ↓if_neg, Option.bind_some, ob_wr_id, hc, hL, e1, s14, s1, e2, sg_L_law_685, sg_L_law_694, sg_L_law_999]
  by_cases c17 : c = 17
  · obtain ⟨v, m1, m2, e1, e2, j, sc⟩ : Agr W (W + 50) m (fun m' => ob_E (100, 0, [(10, 0), (1, m 15 0 (i + 1)), (1, m 15 0 (i + 2))], [], (m', none))) (fun m' => ob_E (215, 0, [(11, 0), (1, m 15 0 (i + 1)), (1, m 15 0 (i + 2))], [], (m', none))) := Agr_W (by omega) (ag_bridge h)
    have e1 : ob_E (100, 0, [(10, 0), (1, m 15 0 (i + 1)), (1, m 15 0 (i + 2))], [], (m, none)) = some (v, (m1, none)) := e1
    have e2 : ob_E (215, 0, [(11, 0), (1, m 15 0 (i + 1)), (1, m 15 0 (i + 2))], [], (m1, none)) = some (v, (m2, none)) := e2
    have s14 := (sc 14 0 0 (by omega)).1
    have s1 := (sc 15 0 (i + 1) (by omega)).1
    have s2 := (sc 15 0 (i + 2) (by omega)).1
    refine ⟨m2, j, fun k i x hk => (sc k i x hk).2, ?_⟩
    rw [sg_L_law_18]
    simp (disch := first | omega | assumption) only [↓if_pos, ↓if_neg, Option.bind_some, ob_wr_id, hc, hL, e1, s14, s1, s2, e2, sg_L_law_713, sg_L_law_727, sg_L_law_999]
  by_cases c18 : c = 18
  · obtain ⟨v, m1, m2, e1, e2, j, sc⟩ : Agr W (W + 50) m (fun m' => ob_E (101, 0, [(10, 0), (1, m 15 0 (i + 1))], [], (m', none))) (fun m' => ob_E (216, 0, [(11, 0), (1, m 15 0 (i + 1))], [], (m', none))) := Agr_W (by omega) (ag_free h)
    have e1 : ob_E (101, 0, [(10, 0), (1, m 15 0 (i + 1))], [], (m, none)) = some (v, (m1, none)) := e1
    have e2 : ob_E (216, 0, [(11, 0), (1, m 15 0 (i + 1))], [], (m1, none)) = some (v, (m2, none)) := e2
    have s14 := (sc 14 0 0 (by omega)).1
    have s1 := (sc 15 0 (i + 1) (by omega)).1
    refine ⟨m2, j, fun k i x hk => (sc k i x hk).2, ?_⟩
    rw [sg_L_law_18]
    simp (disch := first | omega | assumption) only [↓if_pos, ↓if_neg, Option.bind_some, ob_wr_id, hc, hL, e1, s14, s1, e2, sg_L_law_741, sg_L_law_750, sg_L_law_999]
  by_cases c19 : c = 19
  · obtain ⟨v, m1, m2, e1, e2, j, sc⟩ : Agr W (W + 50) m (fun m' => ob_E (102, 0, [(10, 0), (1, m 15 0 (i + 1)), (1, m 15 0 (i + 2))], [], (m', none))) (fun m' => ob_E (217, 0, [(11, 0), (1, m 15 0 (i + 1)), (1, m 15 0 (i + 2)), (0, 0), (0, 0), (0, 0), (0, 0)], [], (m', none))) := ag_plays (by omega) h
    have e1 : ob_E (102, 0, [(10, 0), (1, m 15 0 (i + 1)), (1, m 15 0 (i + 2))], [], (m, none)) = some (v, (m1, none)) := e1
    have e2 : ob_E (217, 0, [(11, 0), (1, m 15 0 (i + 1)), (1, m 15 0 (i + 2)), (0, 0), (0, 0), (0, 0), (0, 0)], [], (m1, none)) = some (v, (m2, none)) := e2
    have s14 := (sc 14 0 0 (by omega)).1
    have s1 := (sc 15 0 (i + 1) (by omega)).1
    have s2 := (sc 15 0 (i + 2) (by omega)).1
    refine ⟨m2, j, fun k i x hk => (sc k i x hk).2, ?_⟩
    rw [sg_L_law_18]
    simp (disch := first | omega | assumption) only [↓if_pos, ↓if_neg, Option.bind_some, ob_wr_id, hc, hL, e1, s14, s1, s2, e2, sg_L_law_769, sg_L_law_783, sg_L_law_999]
  by_cases c20 : c = 20
  · obtain ⟨v, m1, m2, e1, e2, j, sc⟩ : Agr W (W + 50) m (fun m' => ob_E (103, 0, [(10, 0), (1, m 15 0 (i + 1))], [], (m', none))) (fun m' => ob_E (218, 0, [(11, 0), (1, m 15 0 (i + 1)), (0, 0), (0, 0)], [], (m', none))) := Agr_W (by omega) (ag_mends (by omega) h)
    have e1 : ob_E (103, 0, [(10, 0), (1, m 15 0 (i + 1))], [], (m, none)) = some (v, (m1, none)) := e1
    have e2 : ob_E (218, 0, [(11, 0), (1, m 15 0 (i + 1)), (0, 0), (0, 0)], [], (m1, none)) = some (v, (m2, none)) := e2
    have s14 := (sc 14 0 0 (by omega)).1
    have s1 := (sc 15 0 (i + 1) (by omega)).1
    refine ⟨m2, j, fun k i x hk => (sc k i x hk).2, ?_⟩
    rw [sg_L_law_18]
    simp (disch := first | omega | assumption) only [↓if_pos, ↓if_neg, Option.bind_some, ob_wr_id, hc, hL, e1, s14, s1, e2, sg_L_law_797, sg_L_law_806, sg_L_law_999]
  by_cases c21 : c = 21
  · obtain ⟨v, m1, m2, e1, e2, j, sc⟩ : Agr W (W + 50) m (fun m' => ob_E (104, 0, [(10, 0), (1, m 15 0 (i + 1)), (1, m 15 0 (i + 2))], [], (m', none))) (fun m' => ob_E (220, 0, [(11, 0), (1, m 15 0 (i + 1)), (1, m 15 0 (i + 2))], [], (m', none))) := Agr_W (by omega) (ag_heard h)
    have e1 : ob_E (104, 0, [(10, 0), (1, m 15 0 (i + 1)), (1, m 15 0 (i + 2))], [], (m, none)) = some (v, (m1, none)) := e1
    have e2 : ob_E (220, 0, [(11, 0), (1, m 15 0 (i + 1)), (1, m 15 0 (i + 2))], [], (m1, none)) = some (v, (m2, none)) := e2
    have s14 := (sc 14 0 0 (by omega)).1
    have s1 := (sc 15 0 (i + 1) (by omega)).1
    have s2 := (sc 15 0 (i + 2) (by omega)).1
    refine ⟨m2, j, fun k i x hk => (sc k i x hk).2, ?_⟩
    rw [sg_L_law_18]
    simp (disch := first | omega | assumption) only [↓if_pos, ↓if_neg, Option.bind_some, ob_wr_id, hc, hL, e1, s14, s1, s2, e2, sg_L_law_825, sg_L_law_839, sg_L_law_999]
  by_cases c22 : c = 22
  · obtain ⟨v, m1, m2, e1, e2, j, sc⟩ : Agr W (W + 50) m (fun m' => ob_E (105, 0, [(10, 0), (1, m 15 0 (i + 1)), (1, m 15 0 (i + 2)), (0, 0)], [], (m', none))) (fun m' => ob_E (222, 0, [(11, 0), (1, m 15 0 (i + 1)), (1, m 15 0 (i + 2))], [], (m', none))) := Agr_W (by omega) (ag_tells h)
    have e1 : ob_E (105, 0, [(10, 0), (1, m 15 0 (i + 1)), (1, m 15 0 (i + 2)), (0, 0)], [], (m, none)) = some (v, (m1, none)) := e1
    have e2 : ob_E (222, 0, [(11, 0), (1, m 15 0 (i + 1)), (1, m 15 0 (i + 2))], [], (m1, none)) = some (v, (m2, none)) := e2
    have s14 := (sc 14 0 0 (by omega)).1
    have s1 := (sc 15 0 (i + 1) (by omega)).1
    have s2 := (sc 15 0 (i + 2) (by omega)).1
    refine ⟨m2, j, fun k i x hk => (sc k i x hk).2, ?_⟩
    rw [sg_L_law_18]
    simp (disch := first | omega | assumption) only [↓if_pos, ↓if_neg, Option.bind_some, ob_wr_id, hc, hL, e1, s14, s1, s2, e2, sg_L_law_858, sg_L_law_872, sg_L_law_999]
  by_cases c23 : c = 23
  · obtain ⟨v, m1, m2, e1, e2, j, sc⟩ : Agr W (W + 50) m (fun m' => ob_E (106, 0, [(10, 0), (1, m 15 0 (i + 1))], [], (m', none))) (fun m' => ob_E (223, 0, [(11, 0), (1, m 15 0 (i + 1)), (0, 0), (0, 0), (0, 0), (0, 0), (0, 0)], [], (m', none))) := Agr_W (by omega) (ag_wrong h)
    have e1 : ob_E (106, 0, [(10, 0), (1, m 15 0 (i + 1))], [], (m, none)) = some (v, (m1, none)) := e1
    have e2 : ob_E (223, 0, [(11, 0), (1, m 15 0 (i + 1)), (0, 0), (0, 0), (0, 0), (0, 0), (0, 0)], [], (m1, none)) = some (v, (m2, none)) := e2
    have s14 := (sc 14 0 0 (by omega)).1
    have s1 := (sc 15 0 (i + 1) (by omega)).1
    refine ⟨m2, j, fun k i x hk => (sc k i x hk).2, ?_⟩
    rw [sg_L_law_18]
    simp (disch := first | omega | assumption) only [↓if_pos, ↓if_neg, Option.bind_some, ob_wr_id, hc, hL, e1, s14, s1, e2, sg_L_law_886, sg_L_law_895, sg_L_law_999]
  by_cases c24 : c = 24
  · obtain ⟨v, m1, m2, e1, e2, j, sc⟩ : Agr W (W + 50) m (fun m' => ob_E (107, 0, [(10, 0), (1, m 15 0 (i + 1))], [], (m', none))) (fun m' => ob_E (224, 0, [(11, 0), (1, m 15 0 (i + 1))], [], (m', none))) := Agr_W (by omega) (ag_type h)
    have e1 : ob_E (107, 0, [(10, 0), (1, m 15 0 (i + 1))], [], (m, none)) = some (v, (m1, none)) := e1
    have e2 : ob_E (224, 0, [(11, 0), (1, m 15 0 (i + 1))], [], (m1, none)) = some (v, (m2, none)) := e2
    have s14 := (sc 14 0 0 (by omega)).1
    have s1 := (sc 15 0 (i + 1) (by omega)).1
    refine ⟨m2, j, fun k i x hk => (sc k i x hk).2, ?_⟩
    rw [sg_L_law_18]
    simp (disch := first | omega | assumption) only [↓if_pos, ↓if_neg, Option.bind_some, ob_wr_id, hc, hL, e1, s14, s1, e2, sg_L_law_909, sg_L_law_918, sg_L_law_999]
  by_cases c25 : c = 25
  · obtain ⟨v, m1, m2, e1, e2, j, sc⟩ : Agr W (W + 50) m (fun m' => ob_E (108, 0, [(10, 0), (0, 0)], [], (m', none))) (fun m' => ob_E (225, 0, [(11, 0), (0, 0)], [], (m', none))) := Agr_W (by omega) (ag_clear h)
    have e1 : ob_E (108, 0, [(10, 0), (0, 0)], [], (m, none)) = some (v, (m1, none)) := e1
    have e2 : ob_E (225, 0, [(11, 0), (0, 0)], [], (m1, none)) = some (v, (m2, none)) := e2
    have s14 := (sc 14 0 0 (by omega)).1
    refine ⟨m2, j, fun k i x hk => (sc k i x hk).2, ?_⟩
    rw [sg_L_law_18]
    simp (disch := first | omega | assumption) only [↓if_pos, ↓if_neg, Option.bind_some, ob_wr_id, hc, hL, e1, s14, e2, sg_L_law_927, sg_L_law_931, sg_L_law_999]
  by_cases c26 : c = 26
  · obtain ⟨v, m1, m2, e1, e2, j, sc⟩ : Agr W (W + 50) m (fun m' => ob_E (109, 0, [(10, 0), (0, 0), (0, 0), (0, 0)], [], (m', none))) (fun m' => ob_E (232, 0, [(11, 0), (0, 0), (0, 0), (0, 0)], [], (m', none))) := Agr_W (by omega) (ag_reads (by omega) h)
    have e1 : ob_E (109, 0, [(10, 0), (0, 0), (0, 0), (0, 0)], [], (m, none)) = some (v, (m1, none)) := e1
    have e2 : ob_E (232, 0, [(11, 0), (0, 0), (0, 0), (0, 0)], [], (m1, none)) = some (v, (m2, none)) := e2
    have s14 := (sc 14 0 0 (by omega)).1
    refine ⟨m2, j, fun k i x hk => (sc k i x hk).2, ?_⟩
    rw [sg_L_law_18]
    simp (disch := first | omega | assumption) only [↓if_pos, ↓if_neg, Option.bind_some, ob_wr_id, hc, hL, e1, s14, e2, sg_L_law_940, sg_L_law_944, sg_L_law_999]
  by_cases c27 : c = 27
  · obtain ⟨v, m1, m2, e1, e2, j, sc⟩ : Agr W (W + 50) m (fun m' => ob_E (110, 0, [(10, 0), (0, 0)], [], (m', none))) (fun m' => ob_E (234, 0, [(11, 0), (0, 0)], [], (m', none))) := Agr_W (by omega) (ag_back h)
    have e1 : ob_E (110, 0, [(10, 0), (0, 0)], [], (m, none)) = some (v, (m1, none)) := e1
    have e2 : ob_E (234, 0, [(11, 0), (0, 0)], [], (m1, none)) = some (v, (m2, none)) := e2
    have s14 := (sc 14 0 0 (by omega)).1
    refine ⟨m2, j, fun k i x hk => (sc k i x hk).2, ?_⟩
    rw [sg_L_law_18]
    simp (disch := first | omega | assumption) only [↓if_pos, ↓if_neg, Option.bind_some, ob_wr_id, hc, hL, e1, s14, e2, sg_L_law_953, sg_L_law_957, sg_L_law_999]
  by_cases c28 : c = 28
  · obtain ⟨v, m1, m2, e1, e2, j, sc⟩ : Agr W (W + 50) m (fun m' => ob_E (111, 0, [(10, 0), (1, m 15 0 (i + 1))], [], (m', none))) (fun m' => ob_E (236, 0, [(11, 0), (1, m 15 0 (i + 1))], [], (m', none))) := Agr_W (by omega) (ag_told h)
    have e1 : ob_E (111, 0, [(10, 0), (1, m 15 0 (i + 1))], [], (m, none)) = some (v, (m1, none)) := e1
    have e2 : ob_E (236, 0, [(11, 0), (1, m 15 0 (i + 1))], [], (m1, none)) = some (v, (m2, none)) := e2
    have s14 := (sc 14 0 0 (by omega)).1
    have s1 := (sc 15 0 (i + 1) (by omega)).1
    refine ⟨m2, j, fun k i x hk => (sc k i x hk).2, ?_⟩
    rw [sg_L_law_18]
    simp (disch := first | omega | assumption) only [↓if_pos, ↓if_neg, Option.bind_some, ob_wr_id, hc, hL, e1, s14, s1, e2, sg_L_law_971, sg_L_law_980, sg_L_law_999]
  by_cases c29 : c = 29
  · obtain ⟨v, m1, m2, e1, e2, j, sc⟩ : Agr W (W + 50) m (fun m' => ob_E (112, 0, [(10, 0), (0, 0), (0, 0), (0, 0), (0, 0)], [], (m', none))) (fun m' => ob_E (237, 0, [(11, 0), (0, 0), (0, 0), (0, 0), (0, 0)], [], (m', none))) := Agr_W (by omega) (ag_digest h)
    have e1 : ob_E (112, 0, [(10, 0), (0, 0), (0, 0), (0, 0), (0, 0)], [], (m, none)) = some (v, (m1, none)) := e1
    have e2 : ob_E (237, 0, [(11, 0), (0, 0), (0, 0), (0, 0), (0, 0)], [], (m1, none)) = some (v, (m2, none)) := e2
    have s14 := (sc 14 0 0 (by omega)).1
    refine ⟨m2, j, fun k i x hk => (sc k i x hk).2, ?_⟩
    rw [sg_L_law_18]
    simp (disch := first | omega | assumption) only [↓if_pos, ↓if_neg, Option.bind_some, ob_wr_id, hc, hL, e1, s14, e2, sg_L_law_989, sg_L_law_993, sg_L_law_999, ob_cmp_s, if_true]
  · refine ⟨m, Inv_W (by omega) h, fun _ _ _ _ => rfl, ?_⟩
    rw [sg_L_law_18]
    simp (disch := first | omega | assumption) only [↓if_pos, ↓if_neg, Option.bind_some, ob_wr_id, hc, hL, sg_L_law_999]
/-- the loop answers 1 -/
theorem law_loop {Ln : Int} (hb : 0 ≤ Ln ∧ Ln ≤ 2560) : ∀ (n : Nat) (i : Int) (m : ob_Mem), 0 ≤ i → i + 5 * n ≤ Ln + 4 → Ln < i + 5 * (n + 1) → m 14 0 0 = Ln → Inv (10 * i) m → ∃ mF, ob_E (238, 18, [(18, 0), (10, 0), (11, 0), (1, i)], [], (m, none)) = some (1, (mF, none))
  | 0, i, m, h1, h2, h3, h4, h5 => by
    refine ⟨m, ?_⟩
    rw [sg_L_law_18]
    simp (disch := first | omega | assumption) only [↓if_pos, ↓if_neg, Option.bind_some, ob_wr_id, h4]
  | n + 1, i, m, h1, h2, h3, h4, h5 => by
    by_cases c : i + 5 ≤ Ln
    · obtain ⟨m2, j1, j2, j3⟩ := law_1 (W := 10 * i) (by omega) h5 h4 hb ⟨h1, c⟩
      rw [j3]
      rw [show 10 * i + 50 = 10 * (i + 5) by omega] at j1
      exact law_loop hb n (i + 5) m2 (by omega) (by omega) (by omega) (by rw [j2 14 0 0 (by omega)]; exact h4) j1
    · refine ⟨m, ?_⟩
      rw [sg_L_law_18]
      simp (disch := first | omega | assumption) only [↓if_pos, ↓if_neg, Option.bind_some, ob_wr_id, h4]
