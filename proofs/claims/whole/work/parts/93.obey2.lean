-- READS: the class does any order
def OY (j : Int) (s : Int → Int) (m : ob_Mem) (k v : Int) (m' : ob_Mem) : Prop := ((oR m s k).1 < 0 → v = (oR m s k).1) ∧ (¬ (oR m s k).1 < 0 → 0 ≤ v) ∧ Rep m' j (oR m s k).2 ∧ sm (fun k i => gA k i ∨ gB j k i) m m' ∧ ((m 35 0 k = 112 ∧ v = -3 ∧ ∃ kk a b, CP s (m 38 0 (m 37 0 k + 0)) kk a b ∧ cs m' kk a b (-1)) ∨ (¬ (m 35 0 k = 112 ∧ v = -3) ∧ ∀ x, m' 2 0 x = m 2 0 x))
theorem OY_OB {j k v : Int} {s : Int → Int} {m m' : ob_Mem} {q : Int × (Int → Int)} (e : oR m s k = q) (h : OB j m q v m') (hc : m 35 0 k ≠ 112) : OY j s m k v m' := by
  subst e
  obtain ⟨h1, h2, h3, h4⟩ := h
  exact ⟨h1, h2, h3, sm_m h4 (fun k i => Or.inr), Or.inr ⟨fun z => hc z.1, fun x => h4 2 0 x (fun z => by rcases z with ⟨z1, z2⟩ | ⟨z1, z2⟩ | ⟨z1, z2⟩ <;> omega)⟩⟩
theorem CF_b {c cnt : Int} (h : CF c cnt) : 1 ≤ cnt ∧ nbr c ≠ 0 ∧ (c ≠ 116 → cnt ≤ 2) := by
  rcases h with ⟨h1, h2⟩ | ⟨h1, h2, h3, h4⟩
  · exact ⟨by omega, by omega, fun _ => by omega⟩
  · exact ⟨by omega, by omega, fun z => by have := h4 z; omega⟩
theorem cl_obey {W : Int} {m : ob_Mem} {j k : Int} {s : Int → Int} (hj : m 7 0 0 = j) (b0 : 0 ≤ j ∧ j < 7) (hW : 0 ≤ W) (hV : VV W s) (hR : Rep m j s) (hD : DK m k) (h0 : 0 ≤ k) : wp (ob_E (125, 0, [(10, 0), (1, k), (0, 0), (0, 0)], [], (m, none))) (OY j s m k) := by
  obtain ⟨d1, d2, d3, d4⟩ := id hD
  obtain ⟨f1, f2, f3⟩ := CF_b d3
  have n0 := cl_number (m := m) (k := k) (i := 0) (by omega) (by omega) (by omega) (by omega)
  have n1 := cl_number (m := m) (k := k) (i := 1) (by omega) (by omega) (by omega) (by omega)
  rw [if_pos (by omega)] at n0
  generalize hx : m 38 0 (m 37 0 k + 0) = x at *
  generalize hy : (if 1 < m 37 0 (k + 1) - m 37 0 k then m 38 0 (m 37 0 k + 1) else 0) = y at *
  have dy : dV s (m 35 0 k) x (m 38 0 (m 37 0 k + 1)) = dV s (m 35 0 k) x y ∧ dS s (m 35 0 k) x (m 38 0 (m 37 0 k + 1)) = dS s (m 35 0 k) x y := by
    rcases d3 with ⟨z1, z2⟩ | ⟨z1, z2, -⟩
    · exact dV_y z1
    · rw [if_pos (by omega)] at hy
      rw [hy]
      exact ⟨rfl, rfl⟩
  have oq : oR m s k = nfo (fun y => m 38 0 (m 37 0 k + y)) x (cd (dV s (m 35 0 k) x y), dS s (m 35 0 k) x y) ((m 37 0 (k + 1) - m 37 0 k - 2) / 3).toNat := by
    unfold oR oF
    dsimp only
    rw [hx, dy.1, dy.2]
  have go : ob_E (125, 0, [(10, 0), (1, k), (0, 0), (0, 0)], [], (m, none)) = ob_E (125, 19, [(10, 0), (1, k), (1, x), (0, 0)], [(1, y)], (m, none)) := by
    simp (disch := first | omega | assumption) only [↓if_pos, ↓if_neg, Option.bind_some, ob_wr_id, sg_X7_obey_0, n0, sg_X7_obey_9, n1]
  rw [go, sg_X7_obey_19, if_pos (by omega), hj]
  have nl := nbr_l f2
  by_cases c6 : m 35 0 k = 116
  · rw [c6] at oq
    have r3 : 2 ≤ m 37 0 (k + 1) - m 37 0 k ∧ (m 37 0 (k + 1) - m 37 0 k) % 3 = 2 := by
      rcases d3 with ⟨z1, z2⟩ | ⟨z1, z2, z3, -⟩
      · rw [c6] at z1
        exact absurd z1 (by decide)
      · exact ⟨z2, z3⟩
    have eV : dV s 116 x y = tkV s x y := if_pos rfl
    have eS : dS s 116 x y = tkS s x y := if_pos rfl
    rw [eV, eS] at oq
    simp (disch := first | omega | assumption) only [↓if_pos, ↓if_neg, Option.bind_some, ob_wr_id, c6]
    refine wp_b (cl_obeyTicks hj hV hR (by omega) d1 d2 rfl r3) (fun v m1 h1 => ?_)
    simp (disch := first | omega | assumption) only [↓if_pos, ↓if_neg, Option.bind_some, ob_wr_id, sg_X7_obey_107]
    exact wp_ret (OY_OB oq h1 (by omega))
  · have oq : oR m s k = (cd (dV s (m 35 0 k) x y), dS s (m 35 0 k) x y) := by
      rw [oq, show ((m 37 0 (k + 1) - m 37 0 k - 2) / 3).toNat = 0 by have := f3 c6; omega]
      rfl
    generalize hc : m 35 0 k = c at *
    rcases nl with rfl | rfl | rfl | rfl | rfl | rfl
    · exact absurd rfl c6
    · have eV : dV s 104 x y = shV s x y := rfl
      have eS : dS s 104 x y = shS s x y := rfl
      rw [eV, eS] at oq
      simp (disch := first | omega | assumption) only [↓if_pos, ↓if_neg, Option.bind_some, ob_wr_id]
      refine wp_b (cl_setShift hV hR) (fun v m1 h1 => ?_)
      simp (disch := first | omega | assumption) only [↓if_pos, ↓if_neg, Option.bind_some, ob_wr_id, sg_X7_obey_117]
      exact wp_ret (OY_OB oq (OB_CO (W := W) (sh_vs hV) h1) (by omega))
    · have eV : dV s 112 x y = pV s x := rfl
      have eS : dS s 112 x y = pS s x := rfl
      rw [eV, eS] at oq
      unfold pV pS at oq
      simp (disch := first | omega | assumption) only [↓if_pos, ↓if_neg, Option.bind_some, ob_wr_id]
      refine wp_b (cl_putOn b0 hV hR) (fun v m1 h1 => ?_)
      simp (disch := first | omega | assumption) only [↓if_pos, ↓if_neg, Option.bind_some, ob_wr_id, sg_X7_obey_134]
      refine wp_ret ?_
      unfold OY
      rw [oq, hc, hx]
      rcases h1 with ⟨k1, rfl, rfl⟩ | ⟨k1, rfl, k2, kk, a, b, k3, k4⟩ | ⟨k1, k2, rfl, k3, k4⟩
      · rw [if_neg k1, if_neg (fun z => k1 z.1)]
        exact ⟨fun _ => rfl, fun z => absurd (show cd (-2) < 0 by decide) z, hR, sm_r, Or.inr ⟨fun z => absurd z.2 (by omega), fun _ => rfl⟩⟩
      · have no := CP_O k3
        rw [if_pos k1, if_neg no, if_neg (fun z => no z.2)]
        exact ⟨fun _ => rfl, fun z => absurd (show cd (-3) < 0 by decide) z, Rep_gA b0 hV hR k2, sm_m k2 (fun k i => Or.inl), Or.inl ⟨rfl, rfl, kk, a, b, k3, k4⟩⟩
      · have hT := hV.1.2.2.1
        have w3 := (hV.2 x (by omega) (by omega)).1.2.2.1
        rw [if_pos k1, if_pos k2, if_pos ⟨k1, k2⟩]
        have c0 : cd (s (12 + 116 * x + 2)) = 0 := by
          unfold cd
          rw [if_neg (by omega)]
        rw [c0]
        refine ⟨fun z => absurd z (by show ¬ (0 : Int) < 0; omega), fun _ => w3.1, k3, sm_m k4 (fun k i z => ?_), Or.inr ⟨fun z => by have := z.2; omega, fun x' => k4 2 0 x' (fun z => by rcases z with (⟨z1, z2⟩ | ⟨z1, z2⟩ | z1) | ⟨z1, z2⟩ | ⟨z1, z2⟩ | ⟨z1, z2⟩ <;> omega)⟩⟩
        rcases z with z | z
        · exact Or.inl (Or.inl z)
        · exact Or.inr z
    · have eV : dV s 111 x y = ofV s x := rfl
      have eS : dS s 111 x y = ofS s x := rfl
      rw [eV, eS] at oq
      simp (disch := first | omega | assumption) only [↓if_pos, ↓if_neg, Option.bind_some, ob_wr_id]
      refine wp_b (cl_takeOff hV hR) (fun v m1 h1 => ?_)
      simp (disch := first | omega | assumption) only [↓if_pos, ↓if_neg, Option.bind_some, ob_wr_id, sg_X7_obey_143]
      exact wp_ret (OY_OB oq (OB_CO (W := W) (of_vs hV) h1) (by omega))
    · have eV : dV s 103 x y = gV s x y := rfl
      have eS : dS s 103 x y = gS s x y := rfl
      rw [eV, eS] at oq
      simp (disch := first | omega | assumption) only [↓if_pos, ↓if_neg, Option.bind_some, ob_wr_id]
      refine wp_b (cl_setGap hV hR) (fun v m1 h1 => ?_)
      simp (disch := first | omega | assumption) only [↓if_pos, ↓if_neg, Option.bind_some, ob_wr_id, sg_X7_obey_153]
      exact wp_ret (OY_OB oq (OB_CO (W := W) (g_vs hV) h1) (by omega))
    · have eV : dV s 101 x y = aV s 1 x := rfl
      have eS : dS s 101 x y = aS s 1 x := rfl
      rw [eV, eS] at oq
      simp (disch := first | omega | assumption) only [↓if_pos, ↓if_neg, Option.bind_some, ob_wr_id, sg_X7_obey_154, hj]
      refine wp_b (cl_adjust hV hR) (fun v m1 h1 => ?_)
      simp (disch := first | omega | assumption) only [↓if_pos, ↓if_neg, Option.bind_some, ob_wr_id, sg_X7_obey_163]
      exact wp_ret (OY_OB oq (OB_CO (W := W) (a_vs hV) h1) (by omega))
