-- SETTLING: the model's search and its answer
theorem MN_no {s : Int → Int} {Q Q' : Int → Int → Int → Prop} {v a b c : Int} (h : MN s Q v) (hn : ¬ OKT s a b c) (hq : ∀ a' b' c', inR s a' b' c' → Q' a' b' c' → Q a' b' c' ∨ (a' = a ∧ b' = b ∧ c' = c)) : MN s Q' v := by
  rcases h with ⟨h1, h2⟩ | ⟨a0, b0, c0, h1, h2, h3, h4⟩
  · refine Or.inl ⟨h1, fun a' b' c' x y => ?_⟩
    rcases hq a' b' c' x y with z | ⟨z1, z2, z3⟩
    · exact h2 a' b' c' x z
    · rw [z1, z2, z3]
      exact hn
  · refine Or.inr ⟨a0, b0, c0, h1, h2, h3, fun a' b' c' x y w => ?_⟩
    rcases hq a' b' c' x y with z | ⟨z1, z2, z3⟩
    · exact h4 a' b' c' x z w
    · rw [z1, z2, z3] at w
      exact absurd w hn
theorem MN_new {s : Int → Int} {Q Q' : Int → Int → Int → Prop} {v a b c : Int} (h : MN s Q v) (hr : inR s a b c) (hn : OKT s a b c) (hv : v = -1 ∨ TT a b c < v) (hq : ∀ a' b' c', inR s a' b' c' → Q' a' b' c' → Q a' b' c' ∨ (a' = a ∧ b' = b ∧ c' = c)) : MN s Q' (TT a b c) := by
  refine Or.inr ⟨a, b, c, hr, hn, rfl, fun a' b' c' x y w => ?_⟩
  rcases hq a' b' c' x y with z | ⟨z1, z2, z3⟩
  · rcases h with ⟨h1, h2⟩ | ⟨a0, b0, c0, h1, h2, h3, h4⟩
    · exact absurd w (h2 a' b' c' x z)
    · have := h4 a' b' c' x z w
      have h5 := h1
      obtain ⟨g1, g2, g3⟩ := h5
      rcases hv with hv | hv
      · exfalso
        unfold TT at h3
        omega
      · omega
  · rw [z1, z2, z3]
    exact Int.le_refl _
theorem MN_old {s : Int → Int} {Q Q' : Int → Int → Int → Prop} {v a b c : Int} (h : MN s Q v) (hv : v ≠ -1) (hw : ¬ TT a b c < v) (hq : ∀ a' b' c', inR s a' b' c' → Q' a' b' c' → Q a' b' c' ∨ (a' = a ∧ b' = b ∧ c' = c)) : MN s Q' v := by
  rcases h with ⟨h1, h2⟩ | ⟨a0, b0, c0, h1, h2, h3, h4⟩
  · exact absurd h1 hv
  · refine Or.inr ⟨a0, b0, c0, h1, h2, h3, fun a' b' c' x y w => ?_⟩
    rcases hq a' b' c' x y with z | ⟨z1, z2, z3⟩
    · exact h4 a' b' c' x z w
    · rw [z1, z2, z3]
      omega
def QC (a b c a' b' c' : Int) : Prop := a' < a ∨ (a' = a ∧ (b' < b ∨ (b' = b ∧ c' < c)))
theorem md_settled {W : Int} (m : ob_Mem) (hV : VV W (m 40 0)) : wp (ob_E (195, 0, [(11, 0), (0, 0), (0, 0), (0, 0), (0, 0), (0, 0)], [], (m, none))) (fun v m' => MN (m 40 0) (fun _ _ _ => True) v ∧ sm (fun k i => k = 45 ∧ i = 0) m m') := by
  obtain ⟨⟨v1, v2, v3, v4, v5, -⟩, v8⟩ := id hV
  rw [sg_X8_settled_0]
  refine wp_b (md_triesAll m hV) (fun _ m1 h1 => ?_)
  obtain ⟨c1, c2⟩ := h1
  have er : m1 40 0 = m 40 0 := by
    funext p
    exact c2 40 0 p (fun z => by have := z.1; omega)
  have V1 : VV W (m1 40 0) := by rw [er]; exact hV
  generalize hs : m 40 0 = s at *
  have er0 : m1 40 0 0 = s 0 := by rw [er]
  have n0 := sN_b (s := s) (t := 0) v1
  have n1 := sN_b (s := s) (t := 1) v1
  have n2 := sN_b (s := s) (t := 2) v1
  have sh : ∀ t, 0 ≤ t ∧ t < 3 → ob_E (194, 0, [(11, 0), (1, t)], [], (m1, none)) = some (sN s t, (m1, none)) := fun t ht => by
    rw [← er]
    exact md_shifts m1 V1 ht
  have fr : ∀ a b, 0 ≤ a ∧ a < s 0 → 0 ≤ b ∧ b < s 0 → ob_E (145, 0, [(11, 0), (1, a), (1, b), (0, 0)], [], (m1, none)) = some (dist (s 0) a b, (m1, none)) := fun a b ha hb => by
    rw [← er0]
    exact md_from m1 (by omega) (by omega) (by omega) (by omega) (by omega) (by omega)
  simp (disch := first | omega | assumption) only [↓if_pos, ↓if_neg, Option.bind_some, ob_wr_id, sg_X8_settled_6]
  refine wp_for (fun a (x : Int × ob_AV × ob_AV × ob_AV) => ob_E (195, 8, [(11, 0), (1, x.1), (1, a), x.2.1, x.2.2.1, x.2.2.2], [], (m1, none))) 0 (sN s 0) (fun a x => MN s (QC a 0 0) x.1) ?_ ?_ (by omega) (x := (-1, (0, 0), (0, 0), (0, 0))) (Or.inl ⟨rfl, fun a b c h q => by
    obtain ⟨g1, g2, g3⟩ := h
    unfold QC at q
    omega⟩)
  · intro a ⟨x1, x2, x3, x4⟩ h1 h2 hI hk
    have hI : MN s (QC a 0 0) x1 := hI
    show wp (ob_E (195, 8, [(11, 0), (1, x1), (1, a), x2, x3, x4], [], (m1, none))) _
    rw [sg_X8_settled_8]
    simp (disch := first | omega | assumption) only [↓if_pos, ↓if_neg, Option.bind_some, ob_wr_id, sh, sg_X8_settled_14]
    refine wp_for (fun b (x : Int × ob_AV × ob_AV) => ob_E (195, 19, [(11, 0), (1, x.1), (1, a), (1, b), x.2.1, x.2.2], [], (m1, none))) 0 (sN s 1) (fun b x => MN s (QC a b 0) x.1) ?_ ?_ (by omega) (x := (x1, x3, x4)) hI
    · intro b ⟨y1, y2, y3⟩ g1 g2 hJ hk2
      have hJ : MN s (QC a b 0) y1 := hJ
      show wp (ob_E (195, 19, [(11, 0), (1, y1), (1, a), (1, b), y2, y3], [], (m1, none))) _
      rw [sg_X8_settled_19]
      simp (disch := first | omega | assumption) only [↓if_pos, ↓if_neg, Option.bind_some, ob_wr_id, sh, sg_X8_settled_25]
      refine wp_for (fun c (x : Int × ob_AV) => ob_E (195, 31, [(11, 0), (1, x.1), (1, a), (1, b), (1, c), x.2], [], (m1, none))) 0 (sN s 2) (fun c x => MN s (QC a b c) x.1) ?_ ?_ (by omega) (x := (y1, y3)) hJ
      · intro c ⟨z1, z2⟩ f1 f2 hL hk3
        have hL : MN s (QC a b c) z1 := hL
        have hr : inR s a b c := ⟨⟨h1, h2⟩, ⟨g1, g2⟩, ⟨f1, f2⟩⟩
        have hq : ∀ a' b' c', inR s a' b' c' → QC a b (c + 1) a' b' c' → QC a b c a' b' c' ∨ (a' = a ∧ b' = b ∧ c' = c) := fun a' b' c' _ q => by
          unfold QC at q ⊢
          omega
        have d1 := dist_b (R := s 0) (a := a) (b := b) (by omega) (by omega)
        have d2 := dist_b (R := s 0) (a := a) (b := c) (by omega) (by omega)
        have d3 := dist_b (R := s 0) (a := b) (b := c) (by omega) (by omega)
        have k1 := (c1 _ d1.1 d1.2).1
        have k2 := (c1 _ d2.1 d2.2).2.1
        have k3 := (c1 _ d3.1 d3.2).2.2
        have hn := MN_n hL
        show wp (ob_E (195, 31, [(11, 0), (1, z1), (1, a), (1, b), (1, c), z2], [], (m1, none))) _
        rw [sg_X8_settled_31]
        simp (disch := first | omega | assumption) only [↓if_pos, ↓if_neg, Option.bind_some, ob_wr_id, sh, sg_X8_settled_38, fr]
        rcases k1 with ⟨q1, q1'⟩ | ⟨q1, q1'⟩
        · simp (disch := first | omega | assumption) only [↓if_pos, ↓if_neg, Option.bind_some, ob_wr_id, sg_X8_settled_51, fr]
          rcases k2 with ⟨q2, q2'⟩ | ⟨q2, q2'⟩
          · simp (disch := first | omega | assumption) only [↓if_pos, ↓if_neg, Option.bind_some, ob_wr_id, sg_X8_settled_68, fr]
            rcases k3 with ⟨q3, q3'⟩ | ⟨q3, q3'⟩
            · have ok : OKT s a b c := ⟨q1', q2', q3'⟩
              by_cases e1 : z1 = -1
              · simp (disch := first | omega | assumption) only [↓if_pos, ↓if_neg, Option.bind_some, ob_wr_id, sg_X8_settled_86, sg_X8_settled_127, sg_X8_settled_133, sg_X8_settled_134]
                exact hk3 (_, _) (MN_new hL hr ok (Or.inl e1) hq)
              · by_cases e2 : (a + b + c) * 32768 + a * 1024 + b * 32 + c < z1
                · simp (disch := first | omega | assumption) only [↓if_pos, ↓if_neg, Option.bind_some, ob_wr_id, sg_X8_settled_86, sg_X8_settled_127, sg_X8_settled_133, sg_X8_settled_134]
                  exact hk3 (_, _) (MN_new hL hr ok (Or.inr e2) hq)
                · simp (disch := first | omega | assumption) only [↓if_pos, ↓if_neg, Option.bind_some, ob_wr_id, sg_X8_settled_86, sg_X8_settled_133, sg_X8_settled_134]
                  exact hk3 (_, _) (MN_old hL e1 e2 hq)
            · simp (disch := first | omega | assumption) only [↓if_pos, ↓if_neg, Option.bind_some, ob_wr_id, sg_X8_settled_86, sg_X8_settled_134]
              exact hk3 (_, _) (MN_no hL (fun z => q3' z.2.2) hq)
          · simp (disch := first | omega | assumption) only [↓if_pos, ↓if_neg, Option.bind_some, ob_wr_id, sg_X8_settled_68, sg_X8_settled_134]
            exact hk3 (_, _) (MN_no hL (fun z => q2' z.2.1) hq)
        · simp (disch := first | omega | assumption) only [↓if_pos, ↓if_neg, Option.bind_some, ob_wr_id, sg_X8_settled_51, sg_X8_settled_134]
          exact hk3 (_, _) (MN_no hL (fun z => q1' z.1) hq)
      · intro ⟨z1, z2⟩ hL
        have hL : MN s (QC a b (sN s 2)) z1 := hL
        show wp (ob_E (195, 31, [(11, 0), (1, z1), (1, a), (1, b), (1, sN s 2), z2], [], (m1, none))) _
        rw [sg_X8_settled_31]
        simp (disch := first | omega | assumption) only [↓if_pos, ↓if_neg, Option.bind_some, ob_wr_id, sh, sg_X8_settled_38]
        exact hk2 (_, _, _) (MN_m hL (fun a' b' c' h q => by
          obtain ⟨-, -, h⟩ := h
          unfold QC at q ⊢
          omega))
    · intro ⟨y1, y2, y3⟩ hJ
      have hJ : MN s (QC a (sN s 1) 0) y1 := hJ
      show wp (ob_E (195, 19, [(11, 0), (1, y1), (1, a), (1, sN s 1), y2, y3], [], (m1, none))) _
      rw [sg_X8_settled_19]
      simp (disch := first | omega | assumption) only [↓if_pos, ↓if_neg, Option.bind_some, ob_wr_id, sh, sg_X8_settled_25]
      exact hk (_, _, _, _) (MN_m hJ (fun a' b' c' h q => by
        obtain ⟨-, h, h'⟩ := h
        unfold QC at q ⊢
        omega))
  · intro ⟨x1, x2, x3, x4⟩ hI
    have hI : MN s (QC (sN s 0) 0 0) x1 := hI
    show wp (ob_E (195, 8, [(11, 0), (1, x1), (1, sN s 0), x2, x3, x4], [], (m1, none))) _
    rw [sg_X8_settled_8]
    simp (disch := first | omega | assumption) only [↓if_pos, ↓if_neg, Option.bind_some, ob_wr_id, sh, sg_X8_settled_14]
    refine wp_ret ⟨MN_m hI (fun a' b' c' h q => ?_), c2⟩
    obtain ⟨h, -, -⟩ := h
    unfold QC
    omega
/-- why all can't be settled -/
def SC (s : Int → Int) (k a b : Int) : Prop := ((∀ t, 0 ≤ t → t < 3 → s (12 + 116 * t + 2) = 0) ∧ k = 4 ∧ a = 0 ∧ b = 0) ∨ (¬ (∀ t, 0 ≤ t → t < 3 → s (12 + 116 * t + 2) = 0) ∧ ∃ t, (0 ≤ t ∧ t < s 2) ∧ (∀ t', 0 ≤ t' → t' < t → Fst (fun i => fre s t' i < s (6 + s (12 + 116 * t' + (3 + 3 * i)))) (s (12 + 116 * t' + 2)) (-1)) ∧ k = 1 ∧ Fst (fun i => fre s t i < s (6 + s (12 + 116 * t + (3 + 3 * i)))) (s (12 + 116 * t + 2)) a ∧ a ≠ -1 ∧ b = fre s t a) ∨ (¬ (∀ t, 0 ≤ t → t < 3 → s (12 + 116 * t + 2) = 0) ∧ (∀ t', 0 ≤ t' → t' < s 2 → Fst (fun i => fre s t' i < s (6 + s (12 + 116 * t' + (3 + 3 * i)))) (s (12 + 116 * t' + 2)) (-1)) ∧ MN s (fun _ _ _ => True) (-1) ∧ k = 3 ∧ a = 0 ∧ b = 0)
def OkS (s : Int → Int) (v : Int) : Prop := ¬ (∀ t, 0 ≤ t → t < 3 → s (12 + 116 * t + 2) = 0) ∧ (∀ t', 0 ≤ t' → t' < s 2 → Fst (fun i => fre s t' i < s (6 + s (12 + 116 * t' + (3 + 3 * i)))) (s (12 + 116 * t' + 2)) (-1)) ∧ MN s (fun _ _ _ => True) v ∧ v ≠ -1
theorem MN_u {s : Int → Int} {v w : Int} (h : MN s (fun _ _ _ => True) v) (h' : MN s (fun _ _ _ => True) w) : v = w := by
  rcases h with ⟨h1, h2⟩ | ⟨a, b, c, h1, h2, h3, h4⟩
  · rcases h' with ⟨g1, g2⟩ | ⟨a', b', c', g1, g2, g3, g4⟩
    · rw [h1, g1]
    · exact absurd g2 (h2 a' b' c' g1 trivial)
  · rcases h' with ⟨g1, g2⟩ | ⟨a', b', c', g1, g2, g3, g4⟩
    · exact absurd h2 (g2 a b c h1 trivial)
    · have := h4 a' b' c' g1 trivial g2
      have := g4 a b c h1 trivial h2
      omega
theorem SC_u {s : Int → Int} {k a b k' a' b' : Int} (h : SC s k a b) (h' : SC s k' a' b') : k = k' ∧ a = a' ∧ b = b' := by
  rcases h with ⟨h1, rfl, rfl, rfl⟩ | ⟨h1, t, h2, h3, rfl, h4, h5, rfl⟩ | ⟨h1, h2, h3, rfl, rfl, rfl⟩
  · rcases h' with ⟨g1, rfl, rfl, rfl⟩ | ⟨g1, t, g2, g3, rfl, g4, g5, rfl⟩ | ⟨g1, g2, g3, rfl, rfl, rfl⟩
    · exact ⟨rfl, rfl, rfl⟩
    · exact absurd h1 g1
    · exact absurd h1 g1
  · rcases h' with ⟨g1, rfl, rfl, rfl⟩ | ⟨g1, t', g2, g3, rfl, g4, g5, rfl⟩ | ⟨g1, g2, g3, rfl, rfl, rfl⟩
    · exact absurd g1 h1
    · have e : t = t' := by
        rcases Int.lt_trichotomy t t' with z | z | z
        · exact absurd (Fst_u h4 (g3 t h2.1 z)) h5
        · exact z
        · exact absurd (Fst_u g4 (h3 t' g2.1 z)) g5
      subst e
      have e := Fst_u h4 g4
      subst e
      exact ⟨rfl, rfl, rfl⟩
    · exact absurd (Fst_u h4 (g2 t h2.1 h2.2)) h5
  · rcases h' with ⟨g1, rfl, rfl, rfl⟩ | ⟨g1, t', g2, g3, rfl, g4, g5, rfl⟩ | ⟨g1, g2, g3, rfl, rfl, rfl⟩
    · exact absurd g1 h1
    · exact absurd (Fst_u g4 (h2 t' g2.1 g2.2)) g5
    · exact ⟨rfl, rfl, rfl⟩
theorem SC_O {s : Int → Int} {k a b v : Int} (h : SC s k a b) : ¬ OkS s v := by
  intro ⟨o1, o2, o3, o4⟩
  rcases h with ⟨h1, -⟩ | ⟨h1, t, h2, h3, -, h4, h5, -⟩ | ⟨h1, h2, h3, -⟩
  · exact o1 h1
  · exact h5 (Fst_u h4 (o2 t h2.1 h2.2))
  · exact o4 (MN_u o3 h3)
theorem md_canSettle {W : Int} (m : ob_Mem) (hV : VV W (m 40 0)) : wp (ob_E (196, 0, [(11, 0), (0, 0), (0, 0)], [], (m, none))) (fun v m' => (v = -3 ∧ ∃ k a b, SC (m 40 0) k a b ∧ ∃ m1, sm (fun k i => k = 45 ∧ i = 0) m m1 ∧ m' = bec m1 k a b) ∨ (v = 0 ∧ sm (fun k i => k = 45 ∧ i = 0) m m' ∧ ∃ w, OkS (m 40 0) w)) := by
  obtain ⟨⟨v1, v2, v3, v4, v5, -⟩, v8⟩ := id hV
  rw [sg_X8_canSettle_0]
  refine wp_for (fun y (x : Int) => ob_E (196, 4, [(11, 0), (1, x), (1, y)], [], (m, none))) 0 (m 40 0 2) (fun y x => 0 ≤ x ∧ x ≤ 12 * y ∧ (x = 0 ↔ ∀ t, 0 ≤ t → t < y → m 40 0 (12 + 116 * t + 2) = 0)) ?_ ?_ (by omega) (x := 0) ⟨by omega, by omega, fun _ t a b => absurd a (by omega), fun _ => rfl⟩
  · intro y x h1 h2 ⟨i0, i1, i2⟩ hk
    obtain ⟨⟨-, -, w3, -, -⟩, -⟩ := v8 y h1 (by omega)
    rw [sg_X8_canSettle_4]
    simp (disch := first | omega | assumption) only [↓if_pos, ↓if_neg, Option.bind_some, ob_wr_id, md_tunes, sg_X8_canSettle_9, md_of, sg_X8_canSettle_19]
    refine hk _ ⟨by omega, by omega, fun z t a b => ?_, fun z => ?_⟩
    · by_cases e : t = y
      · rw [e]
        omega
      · exact i2.mp (by omega) t a (by omega)
    · have := z y h1 (by omega)
      have := i2.mpr (fun t a b => z t a (by omega))
      omega
  · intro x ⟨i0, i1, i2⟩
    have all3 : x = 0 ↔ ∀ t, 0 ≤ t → t < 3 → m 40 0 (12 + 116 * t + 2) = 0 := by
      refine ⟨fun z t a b => ?_, fun z => i2.mpr (fun t a b => z t a (by omega))⟩
      by_cases e : t < m 40 0 2
      · exact i2.mp z t a e
      · exact (v8 t a b).1.2.2.2.1 (by omega)
    rw [sg_X8_canSettle_4]
    simp (disch := first | omega | assumption) only [↓if_pos, ↓if_neg, Option.bind_some, ob_wr_id, md_tunes, sg_X8_canSettle_9]
    by_cases c : x = 0
    · simp (disch := first | omega | assumption) only [↓if_pos, ↓if_neg, Option.bind_some, ob_wr_id, md_because, sg_X8_canSettle_38]
      exact wp_ret (Or.inl ⟨rfl, 4, 0, 0, Or.inl ⟨all3.mp c, rfl, rfl, rfl⟩, m, sm_r, rfl⟩)
    · have nz : ¬ (∀ t, 0 ≤ t → t < 3 → m 40 0 (12 + 116 * t + 2) = 0) := fun z => c (all3.mpr z)
      simp (disch := first | omega | assumption) only [↓if_pos, ↓if_neg, Option.bind_some, ob_wr_id]
      refine wp_for (α := Unit) (fun y _ => ob_E (196, 41, [(11, 0), (1, x), (1, y)], [], (m, none))) 0 (m 40 0 2) (fun y _ => ∀ t', 0 ≤ t' → t' < y → Fst (fun i => fre (m 40 0) t' i < (m 40 0) (6 + m 40 0 (12 + 116 * t' + (3 + 3 * i)))) (m 40 0 (12 + 116 * t' + 2)) (-1)) ?_ ?_ (by omega) (x := ()) (fun t' a b => absurd a (by omega))
      · intro y _ h1 h2 hI hk
        rw [sg_X8_canSettle_41]
        simp (disch := first | omega | assumption) only [↓if_pos, ↓if_neg, Option.bind_some, ob_wr_id, md_tunes, sg_X8_canSettle_46]
        refine wp_b (md_isWideF m hV (t := y) (by omega)) (fun v m' hv => ?_)
        obtain ⟨i, hF, ⟨e1, e2, e3⟩ | ⟨e1, e2, e3⟩⟩ := hv
        · subst e1 e2 e3
          simp (disch := first | omega | assumption) only [↓if_pos, ↓if_neg, Option.bind_some, ob_wr_id, sg_X8_canSettle_54]
          refine hk () (fun t' a b => ?_)
          by_cases e : t' = y
          · rw [e]
            exact hF
          · exact hI t' a (by omega)
        · subst e2 e3
          simp (disch := first | omega | assumption) only [↓if_pos, ↓if_neg, Option.bind_some, ob_wr_id, sg_X8_canSettle_54]
          exact wp_ret (Or.inl ⟨rfl, 1, i, fre (m 40 0) y i, Or.inr (Or.inl ⟨nz, y, ⟨h1, h2⟩, hI, rfl, hF, e1, rfl⟩), m, sm_r, rfl⟩)
      · intro _ hI
        rw [sg_X8_canSettle_41]
        simp (disch := first | omega | assumption) only [↓if_pos, ↓if_neg, Option.bind_some, ob_wr_id, md_tunes, sg_X8_canSettle_46]
        refine wp_b (md_settled m hV) (fun v m1 hv => ?_)
        obtain ⟨hM, hs⟩ := hv
        by_cases c : v = -1
        · subst c
          simp (disch := first | omega | assumption) only [↓if_pos, ↓if_neg, Option.bind_some, ob_wr_id, sg_X8_canSettle_70, md_because, sg_X8_canSettle_81]
          exact wp_ret (Or.inl ⟨rfl, 3, 0, 0, Or.inr (Or.inr ⟨nz, hI, hM, rfl, rfl, rfl⟩), m1, hs, rfl⟩)
        · simp (disch := first | omega | assumption) only [↓if_pos, ↓if_neg, Option.bind_some, ob_wr_id, sg_X8_canSettle_70]
          exact wp_ret (Or.inr ⟨rfl, hs, v, nz, hI, hM, c⟩)
