-- SETTLING: the class's search
/-- what the class has found among the pairs of Q -/
def CS (s : Int → Int) (Q : Int → Int → Prop) (v : Int) (m : ob_Mem) : Prop := (v = -1 ∧ ∀ a b c, inR s a b c → Q a b → ¬ OKT s a b c) ∨ ∃ a b c, inR s a b c ∧ OKT s a b c ∧ Q a b ∧ v = a + b + c ∧ (m 31 0 0 = a ∧ m 31 0 1 = b ∧ m 31 0 2 = c) ∧ ∀ a' b' c', inR s a' b' c' → Q a' b' → OKT s a' b' c' → TT a b c ≤ TT a' b' c'
def QP (a b a' b' : Int) : Prop := a' < a ∨ (a' = a ∧ b' < b)
theorem CS_m {s : Int → Int} {Q Q' : Int → Int → Prop} {v : Int} {m : ob_Mem} (h : CS s Q v m) (hq : ∀ a b c, inR s a b c → (Q' a b ↔ Q a b)) : CS s Q' v m := by
  rcases h with ⟨h1, h2⟩ | ⟨a, b, c, h1, h2, h3, h4, h5, h6⟩
  · exact Or.inl ⟨h1, fun a b c x y => h2 a b c x ((hq a b c x).mp y)⟩
  · exact Or.inr ⟨a, b, c, h1, h2, (hq a b c h1).mpr h3, h4, h5, fun a' b' c' x y z => h6 a' b' c' x ((hq a' b' c' x).mp y) z⟩
theorem CS_n {s : Int → Int} {Q : Int → Int → Prop} {v : Int} {m : ob_Mem} (h : CS s Q v m) : v = -1 ∨ 0 ≤ v := by
  rcases h with ⟨h1, h2⟩ | ⟨a, b, c, ⟨h1, h5, h6⟩, h2, h3, h4, -⟩
  · exact Or.inl h1
  · exact Or.inr (by omega)
/-- nothing new at (a, b) -/
theorem CS_no {s : Int → Int} {v a b : Int} {m : ob_Mem} (h : CS s (QP a b) v m) (hn : ∀ c, inR s a b c → ¬ OKT s a b c) : CS s (QP a (b + 1)) v m := by
  rcases h with ⟨h1, h2⟩ | ⟨a0, b0, c0, h1, h2, h3, h4, h5, h6⟩
  · refine Or.inl ⟨h1, fun a' b' c' x y => ?_⟩
    by_cases e : a' = a ∧ b' = b
    · obtain ⟨rfl, rfl⟩ := e
      exact hn c' x
    · exact h2 a' b' c' x (by unfold QP at y ⊢; omega)
  · refine Or.inr ⟨a0, b0, c0, h1, h2, (by unfold QP at h3 ⊢; omega), h4, h5, fun a' b' c' x y w => ?_⟩
    by_cases e : a' = a ∧ b' = b
    · obtain ⟨rfl, rfl⟩ := e
      exact absurd w (hn c' x)
    · exact h6 a' b' c' x (by unfold QP at y ⊢; omega) w
/-- nothing less at (a, b) -/
theorem CS_old {s : Int → Int} {v a b : Int} {m : ob_Mem} (hR : 6 ≤ s 0 ∧ s 0 ≤ 24) (h : CS s (QP a b) v m) (hv : v ≠ -1) (hn : ∀ c, inR s a b c → OKT s a b c → v ≤ a + b + c) : CS s (QP a (b + 1)) v m := by
  have n0 := sN_b (s := s) (t := 0) hR
  have n1 := sN_b (s := s) (t := 1) hR
  have n2 := sN_b (s := s) (t := 2) hR
  rcases h with ⟨h1, h2⟩ | ⟨a0, b0, c0, h1, h2, h3, h4, h5, h6⟩
  · exact absurd h1 hv
  · refine Or.inr ⟨a0, b0, c0, h1, h2, (by unfold QP at h3 ⊢; omega), h4, h5, fun a' b' c' x y w => ?_⟩
    by_cases e : a' = a ∧ b' = b
    · obtain ⟨rfl, rfl⟩ := e
      have q := hn c' x w
      obtain ⟨g1, g2, g3⟩ := h1
      obtain ⟨f1, f2, f3⟩ := x
      unfold QP at h3
      unfold TT
      omega
    · exact h6 a' b' c' x (by unfold QP at y ⊢; omega) w
theorem CS_new {s : Int → Int} {v a b c : Int} {m : ob_Mem} (hR : 6 ≤ s 0 ∧ s 0 ≤ 24) (h : CS s (QP a b) v m) (hr : inR s a b c) (ok : OKT s a b c) (hl : ∀ c', inR s a b c' → OKT s a b c' → c ≤ c') (hv : v = -1 ∨ a + b + c < v) {m' : ob_Mem} (e0 : m' 31 0 0 = a) (e1 : m' 31 0 1 = b) (e2 : m' 31 0 2 = c) : CS s (QP a (b + 1)) (a + b + c) m' := by
  have n0 := sN_b (s := s) (t := 0) hR
  have n1 := sN_b (s := s) (t := 1) hR
  have n2 := sN_b (s := s) (t := 2) hR
  refine Or.inr ⟨a, b, c, hr, ok, (by unfold QP; omega), rfl, ⟨e0, e1, e2⟩, fun a' b' c' x y w => ?_⟩
  by_cases e : a' = a ∧ b' = b
  · obtain ⟨rfl, rfl⟩ := e
    have := hl c' x w
    unfold TT
    omega
  · have y' : QP a b a' b' := by unfold QP at y ⊢; omega
    rcases h with ⟨h1, h2⟩ | ⟨a0, b0, c0, h1, h2, h3, h4, h5, h6⟩
    · exact absurd w (h2 a' b' c' x y')
    · have q := h6 a' b' c' x y' w
      obtain ⟨g1, g2, g3⟩ := h1
      obtain ⟨f1, f2, f3⟩ := hr
      rcases hv with hv | hv
      · exfalso
        omega
      · unfold TT at q ⊢
        omega
theorem cl_searchBehind {W : Int} {m : ob_Mem} {j a v : Int} {s : Int → Int} (hV : VV W s) (h : Rep m j s) (hB : ∀ t u, 0 ≤ t → t < 3 → t < u → u < 3 → BE m s t u (s 0)) (ha : 0 ≤ a ∧ a < sN s 0) (hC : CS s (QP a 0) v m) : wp (ob_E (58, 0, [(7, 0), (3, j), (1, a), (1, v), (0, 0), (0, 0), (0, 0), (0, 0)], [], (m, none))) (fun v' m' => sm (fun k i => k = 31 ∧ i = 0) m m' ∧ CS s (QP (a + 1) 0) v' m') := by
  obtain ⟨⟨v1, v2, v3, v4, v5, -⟩, v8⟩ := id hV
  have n0 := sN_b (s := s) (t := 0) v1
  have n1 := sN_b (s := s) (t := 1) v1
  have n2 := sN_b (s := s) (t := 2) v1
  have hR : ∀ m', sm (fun k i => k = 31 ∧ i = 0) m m' → Rep m' j s := fun m' q => Rep_sm hV h (fun k i p z => q k i p (fun y => by
    have := y.1
    rcases z with ⟨z1, z2⟩ | ⟨z1, z2⟩ | ⟨z1, z2⟩ <;> omega))
  have hB' : ∀ m', sm (fun k i => k = 31 ∧ i = 0) m m' → ∀ t u, 0 ≤ t → t < 3 → t < u → u < 3 → BE m' s t u (s 0) := fun m' q t u a b c d => BE_c (hB t u a b c d) (fun x _ _ => q 30 0 _ (fun z => by have := z.1; omega))
  rw [sg_X4_searchBehind_0]
  refine wp_for (fun b (x : Int × ob_AV × ob_AV × ob_Mem) => ob_E (58, 6, [(7, 0), (3, j), (1, a), (1, v), (1, x.1), (1, b), x.2.1, x.2.2.1], [], (x.2.2.2, none))) 0 (sN s 1) (fun b x => sm (fun k i => k = 31 ∧ i = 0) m x.2.2.2 ∧ CS s (QP a b) x.1 x.2.2.2) ?_ ?_ (by omega) (x := (v, (0, 0), (0, 0), m)) ⟨sm_r, hC⟩
  · intro b ⟨x, x1, x2, m1⟩ h1 h2 ⟨i1, i2⟩ hk
    have i2 : CS s (QP a b) x m1 := i2
    have R1 := hR m1 i1
    have eR := rpR R1
    have hn := CS_n i2
    have d1 := dist_b (R := s 0) (a := b) (b := a) (by omega) (by omega)
    have k1 := hB' m1 i1 0 1 (by omega) (by omega) (by omega) (by omega) _ d1.1 d1.2
    have e1 := CL_AB hV (t := 0) (u := 1) (by omega) (by omega) (a := a) (b := b) (by omega) (by omega)
    show wp (ob_E (58, 6, [(7, 0), (3, j), (1, a), (1, v), (1, x), (1, b), x1, x2], [], (m1, none))) _
    rw [sg_X4_searchBehind_6, cl_shifts hV R1 (by omega)]
    simp (disch := first | omega | assumption) only [↓if_pos, ↓if_neg, Option.bind_some, ob_wr_id, sg_X4_searchBehind_13]
    have go : (x = -1 ∨ a + b < x) → wp (ob_E (58, 36, [(7, 0), (3, j), (1, a), (1, v), (1, x), (1, b), x1, x2], [(1, 0)], (m1, none))) (fun v' m' => sm (fun k i => k = 31 ∧ i = 0) m m' ∧ CS s (QP (a + 1) 0) v' m') := by
      intro hx
      simp (disch := first | omega | assumption) only [↓if_pos, ↓if_neg, Option.bind_some, ob_wr_id, sg_X4_searchBehind_36, eR, cl_distance, sg_X4_searchBehind_59, cl_place]
      rcases k1 with ⟨q1, q1'⟩ | ⟨q1, q1'⟩
      · simp (disch := first | omega | assumption) only [↓if_pos, ↓if_neg, Option.bind_some, ob_wr_id, sg_X4_searchBehind_62]
        refine wp_b (cl_leastThird hV R1 (hB' m1 i1) (a := a) (b := b) (by omega) (by omega)) (fun c m2 hv => ?_)
        obtain ⟨rfl, hF⟩ := hv
        rcases hF with ⟨a1, a2, a3, a4⟩ | ⟨a1, a2⟩
        · have hr : inR s a b c := ⟨ha, ⟨h1, h2⟩, ⟨a1, a2⟩⟩
          have ok : OKT s a b c := ⟨e1.mp q1', a3.1, a3.2⟩
          have hl : ∀ c', inR s a b c' → OKT s a b c' → c ≤ c' := fun c' y w => by
            by_cases q : c ≤ c'
            · exact q
            · exact absurd ⟨w.2.1, w.2.2⟩ (a4 c' y.2.2.1 (by omega))
          by_cases c1 : x = -1
          · simp (disch := first | omega | assumption) only [↓if_pos, ↓if_neg, Option.bind_some, ob_wr_id, rs_k, rs_i, rs_s, rs_e, sg_X4_searchBehind_77, sg_X4_searchBehind_103, sg_X4_searchBehind_135]
            exact hk (_, _, _, ob_set (ob_set (ob_set m2 31 0 0 a) 31 0 1 b) 31 0 2 c) ⟨sm_set (sm_set (sm_set i1 ⟨rfl, rfl⟩) ⟨rfl, rfl⟩) ⟨rfl, rfl⟩, CS_new v1 i2 hr ok hl (Or.inl c1) (show (ob_set (ob_set (ob_set m2 31 0 0 a) 31 0 1 b) 31 0 2 c) 31 0 0 = a by simp (disch := omega) only [rs_k, rs_i, rs_s, rs_e, up_e, up_n]) (show (ob_set (ob_set (ob_set m2 31 0 0 a) 31 0 1 b) 31 0 2 c) 31 0 1 = b by simp (disch := omega) only [rs_k, rs_i, rs_s, rs_e, up_e, up_n]) (show (ob_set (ob_set (ob_set m2 31 0 0 a) 31 0 1 b) 31 0 2 c) 31 0 2 = c by simp (disch := omega) only [rs_k, rs_i, rs_s, rs_e, up_e, up_n])⟩
          · by_cases c2 : a + b + c < x
            · simp (disch := first | omega | assumption) only [↓if_pos, ↓if_neg, Option.bind_some, ob_wr_id, rs_k, rs_i, rs_s, rs_e, sg_X4_searchBehind_77, sg_X4_searchBehind_103, sg_X4_searchBehind_135]
              exact hk (_, _, _, ob_set (ob_set (ob_set m2 31 0 0 a) 31 0 1 b) 31 0 2 c) ⟨sm_set (sm_set (sm_set i1 ⟨rfl, rfl⟩) ⟨rfl, rfl⟩) ⟨rfl, rfl⟩, CS_new v1 i2 hr ok hl (Or.inr c2) (show (ob_set (ob_set (ob_set m2 31 0 0 a) 31 0 1 b) 31 0 2 c) 31 0 0 = a by simp (disch := omega) only [rs_k, rs_i, rs_s, rs_e, up_e, up_n]) (show (ob_set (ob_set (ob_set m2 31 0 0 a) 31 0 1 b) 31 0 2 c) 31 0 1 = b by simp (disch := omega) only [rs_k, rs_i, rs_s, rs_e, up_e, up_n]) (show (ob_set (ob_set (ob_set m2 31 0 0 a) 31 0 1 b) 31 0 2 c) 31 0 2 = c by simp (disch := omega) only [rs_k, rs_i, rs_s, rs_e, up_e, up_n])⟩
            · simp (disch := first | omega | assumption) only [↓if_pos, ↓if_neg, Option.bind_some, ob_wr_id, rs_k, rs_i, rs_s, rs_e, sg_X4_searchBehind_77, sg_X4_searchBehind_135]
              exact hk (_, _, _, _) ⟨i1, CS_old v1 i2 c1 (fun c' y w => by
                have := hl c' y w
                omega)⟩
        · subst a1
          simp (disch := first | omega | assumption) only [↓if_pos, ↓if_neg, Option.bind_some, ob_wr_id, sg_X4_searchBehind_77, sg_X4_searchBehind_135]
          exact hk (_, _, _, _) ⟨i1, CS_no i2 (fun c y w => a2 c y.2.2.1 y.2.2.2 ⟨w.2.1, w.2.2⟩)⟩
      · simp (disch := first | omega | assumption) only [↓if_pos, ↓if_neg, Option.bind_some, ob_wr_id, sg_X4_searchBehind_62, sg_X4_searchBehind_135]
        exact hk (_, _, _, _) ⟨i1, CS_no i2 (fun c y w => q1' (e1.mpr w.1))⟩
    by_cases c1 : x = -1
    · simp (disch := first | omega | assumption) only [↓if_pos, ↓if_neg, Option.bind_some, ob_wr_id, sg_X4_searchBehind_35]
      exact go (Or.inl c1)
    · by_cases c2 : a + b < x
      · simp (disch := first | omega | assumption) only [↓if_pos, ↓if_neg, Option.bind_some, ob_wr_id, sg_X4_searchBehind_35]
        exact go (Or.inr c2)
      · simp (disch := first | omega | assumption) only [↓if_pos, ↓if_neg, Option.bind_some, ob_wr_id, sg_X4_searchBehind_36, sg_X4_searchBehind_135]
        exact hk (_, _, _, _) ⟨i1, CS_old v1 i2 c1 (fun c y w => by
          have := y.2.2.1
          omega)⟩
  · intro ⟨x, x1, x2, m1⟩ ⟨i1, i2⟩
    have i2 : CS s (QP a (sN s 1)) x m1 := i2
    show wp (ob_E (58, 6, [(7, 0), (3, j), (1, a), (1, v), (1, x), (1, sN s 1), x1, x2], [], (m1, none))) _
    rw [sg_X4_searchBehind_6, cl_shifts hV (hR m1 i1) (by omega)]
    simp (disch := first | omega | assumption) only [↓if_pos, ↓if_neg, Option.bind_some, ob_wr_id, sg_X4_searchBehind_13]
    refine wp_ret ⟨i1, CS_m i2 (fun a' b' c' y => ?_)⟩
    have := y.2.1
    unfold QP
    omega
theorem dist_0 {R x : Int} (h : 0 ≤ x) : dist R 0 x = x := by
  unfold dist
  rw [if_pos h]
  omega
theorem dist_dist {R a b c : Int} (ha : 0 ≤ a ∧ a < R) (hb : 0 ≤ b ∧ b < R) (hc : 0 ≤ c ∧ c < R) : dist R (dist R a b) (dist R a c) = dist R b c := by
  unfold dist
  by_cases c1 : a ≤ b <;> by_cases c2 : a ≤ c <;> by_cases c3 : b ≤ c <;> simp (disch := first | omega | assumption) only [↓if_pos, ↓if_neg, Option.bind_some, ob_wr_id] <;> omega
/-- turned back by the first one's shift -/
theorem OKT_back {s : Int → Int} {a b c : Int} (hR : 6 ≤ s 0 ∧ s 0 ≤ 24) (hr : inR s a b c) (ok : OKT s a b c) : ∃ b' c', inR s 0 b' c' ∧ OKT s 0 b' c' := by
  have n0 := sN_b (s := s) (t := 0) hR
  have n1 := sN_b (s := s) (t := 1) hR
  have n2 := sN_b (s := s) (t := 2) hR
  obtain ⟨r1, r2, r3⟩ := hr
  obtain ⟨o1, o2, o3⟩ := ok
  have d1 := dist_b (R := s 0) (a := a) (b := b) (by omega) (by omega)
  have d2 := dist_b (R := s 0) (a := a) (b := c) (by omega) (by omega)
  by_cases m1 : 0 < s (12 + 116 * 1 + 2)
  · have z1 : sN s 1 = s 0 := if_pos m1
    by_cases m2 : 0 < s (12 + 116 * 2 + 2)
    · have z2 : sN s 2 = s 0 := if_pos m2
      refine ⟨dist (s 0) a b, dist (s 0) a c, ⟨by omega, by omega, by omega⟩, ?_, ?_, ?_⟩
      · rw [dist_0 d1.1]
        exact o1
      · rw [dist_0 d2.1]
        exact o2
      · rw [dist_dist (by omega) (by omega) (by omega)]
        exact o3
    · refine ⟨dist (s 0) a b, 0, ⟨by omega, by omega, by omega⟩, ?_, AB_e (Or.inr (by omega)), AB_e (Or.inr (by omega))⟩
      rw [dist_0 d1.1]
      exact o1
  · by_cases m2 : 0 < s (12 + 116 * 2 + 2)
    · have z2 : sN s 2 = s 0 := if_pos m2
      refine ⟨0, dist (s 0) a c, ⟨by omega, by omega, by omega⟩, AB_e (Or.inr (by omega)), ?_, AB_e (Or.inl (by omega))⟩
      rw [dist_0 d2.1]
      exact o2
    · exact ⟨0, 0, ⟨by omega, by omega, by omega⟩, AB_e (Or.inr (by omega)), AB_e (Or.inr (by omega)), AB_e (Or.inr (by omega))⟩
theorem cl_searchShifts {W : Int} {m : ob_Mem} {j : Int} {s : Int → Int} (hV : VV W s) (h : Rep m j s) (hB : ∀ t u, 0 ≤ t → t < 3 → t < u → u < 3 → BE m s t u (s 0)) : wp (ob_E (57, 0, [(7, 0), (3, j), (0, 0), (0, 0)], [], (m, none))) (fun v' m' => sm (fun k i => k = 31 ∧ i = 0) m m' ∧ CS s (fun _ _ => True) v' m') := by
  obtain ⟨⟨v1, v2, v3, v4, v5, -⟩, v8⟩ := id hV
  have n0 := sN_b (s := s) (t := 0) v1
  have hR : ∀ m', sm (fun k i => k = 31 ∧ i = 0) m m' → Rep m' j s := fun m' q => Rep_sm hV h (fun k i p z => q k i p (fun y => by
    have := y.1
    rcases z with ⟨z1, z2⟩ | ⟨z1, z2⟩ | ⟨z1, z2⟩ <;> omega))
  have hB' : ∀ m', sm (fun k i => k = 31 ∧ i = 0) m m' → ∀ t u, 0 ≤ t → t < 3 → t < u → u < 3 → BE m' s t u (s 0) := fun m' q t u a b c d => BE_c (hB t u a b c d) (fun x _ _ => q 30 0 _ (fun z => by have := z.1; omega))
  rw [sg_X4_searchShifts_0]
  refine wp_for (fun a (x : Int × ob_Mem) => ob_E (57, 4, [(7, 0), (3, j), (1, x.1), (1, a)], [], (x.2, none))) 0 (sN s 0) (fun a x => sm (fun k i => k = 31 ∧ i = 0) m x.2 ∧ CS s (QP a 0) x.1 x.2) ?_ ?_ (by omega) (x := (-1, m)) ⟨sm_r, Or.inl ⟨rfl, fun a b c y q => by
    obtain ⟨g1, g2, g3⟩ := y
    unfold QP at q
    omega⟩⟩
  · intro a ⟨x, m1⟩ h1 h2 ⟨i1, i2⟩ hk
    have i2 : CS s (QP a 0) x m1 := i2
    have go : wp (ob_E (57, 24, [(7, 0), (3, j), (1, x), (1, a)], [], (m1, none))) (fun v' m' => sm (fun k i => k = 31 ∧ i = 0) m m' ∧ CS s (fun _ _ => True) v' m') := by
      rw [sg_X4_searchShifts_24]
      refine wp_b (cl_searchBehind hV (hR m1 i1) (hB' m1 i1) ⟨h1, h2⟩ i2) (fun v' m2 hv => ?_)
      rw [sg_X4_searchShifts_31, ob_wr_id (by omega) (by omega)]
      exact hk (v', m2) ⟨sm_t i1 hv.1, hv.2⟩
    show wp (ob_E (57, 4, [(7, 0), (3, j), (1, x), (1, a)], [], (m1, none))) _
    rw [sg_X4_searchShifts_4, cl_shifts hV (hR m1 i1) (by omega)]
    by_cases c1 : 0 < a
    · by_cases c2 : x = -1
      · simp (disch := first | omega | assumption) only [↓if_pos, ↓if_neg, Option.bind_some, ob_wr_id, sg_X4_searchShifts_10]
        refine wp_ret ⟨i1, Or.inl ⟨rfl, fun a' b' c' y _ w => ?_⟩⟩
        obtain ⟨b2, c2', r, o⟩ := OKT_back v1 y w
        rcases i2 with ⟨z1, z2⟩ | ⟨a0, b0, c0, ⟨z1, z2, z3⟩, z4, z5, z6, -⟩
        · exact z2 0 b2 c2' r (by unfold QP; omega) o
        · omega
      · simp (disch := first | omega | assumption) only [↓if_pos, ↓if_neg, Option.bind_some, ob_wr_id, sg_X4_searchShifts_10]
        exact go
    · simp (disch := first | omega | assumption) only [↓if_pos, ↓if_neg, Option.bind_some, ob_wr_id, sg_X4_searchShifts_10]
      exact go
  · intro ⟨x, m1⟩ ⟨i1, i2⟩
    have i2 : CS s (QP (sN s 0) 0) x m1 := i2
    show wp (ob_E (57, 4, [(7, 0), (3, j), (1, x), (1, sN s 0)], [], (m1, none))) _
    rw [sg_X4_searchShifts_4, cl_shifts hV (hR m1 i1) (by omega)]
    simp (disch := first | omega | assumption) only [↓if_pos, ↓if_neg, Option.bind_some, ob_wr_id, sg_X4_searchShifts_10]
    refine wp_ret ⟨i1, CS_m i2 (fun a' b' c' y => ?_)⟩
    have := y.1
    unfold QP
    exact ⟨fun _ => by omega, fun _ => trivial⟩
/-- the class's and the model's answers -/
theorem CS_MN {s : Int → Int} {v : Int} {m : ob_Mem} (h : CS s (fun _ _ => True) v m) : (v = -1 ∧ MN s (fun _ _ _ => True) (-1)) ∨ ∃ a b c, inR s a b c ∧ v = a + b + c ∧ (m 31 0 0 = a ∧ m 31 0 1 = b ∧ m 31 0 2 = c) ∧ MN s (fun _ _ _ => True) (TT a b c) := by
  rcases h with ⟨h1, h2⟩ | ⟨a, b, c, h1, h2, h3, h4, h5, h6⟩
  · exact Or.inl ⟨h1, Or.inl ⟨rfl, fun a b c x _ => h2 a b c x trivial⟩⟩
  · exact Or.inr ⟨a, b, c, h1, h4, h5, Or.inr ⟨a, b, c, h1, h2, rfl, fun a' b' c' x _ w => h6 a' b' c' x trivial w⟩⟩
theorem TT_d {s : Int → Int} {a b c : Int} (hR : 6 ≤ s 0 ∧ s 0 ≤ 24) (h : inR s a b c) : (TT a b c / 32768 = a + b + c) ∧ (TT a b c / 1024 % 32 = a) ∧ (TT a b c / 32 % 32 = b) ∧ TT a b c % 32 = c := by
  have n0 := sN_b (s := s) (t := 0) hR
  have n1 := sN_b (s := s) (t := 1) hR
  have n2 := sN_b (s := s) (t := 2) hR
  obtain ⟨h1, h2, h3⟩ := h
  unfold TT
  have e1 : ((a + b + c) * 32768 + a * 1024 + b * 32 + c) / 1024 = (a + b + c) * 32 + a := by omega
  have e2 : ((a + b + c) * 32768 + a * 1024 + b * 32 + c) / 32 = (a + b + c) * 1024 + a * 32 + b := by omega
  rw [e1, e2]
  refine ⟨by omega, by omega, by omega, by omega⟩
