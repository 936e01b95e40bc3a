-- THE MODEL: whether a tune is free, why it can't be pinned; pinning, taking off, keeping, beginning
theorem md_isWideF {W : Int} (m : ob_Mem) {t : Int} (hV : VV W (m 40 0)) (ht : 0 ≤ t ∧ t < 3) : wp (ob_E (178, 0, [(11, 0), (1, t), (0, 0), (0, 0)], [], (m, none))) (fun v m' => ∃ i, Fst (fun i => fre (m 40 0) t i < (m 40 0) (6 + m 40 0 (12 + 116 * t + (3 + 3 * i)))) (m 40 0 (12 + 116 * t + 2)) i ∧ (i = -1 ∧ v = 1 ∧ m' = m ∨ i ≠ -1 ∧ v = 0 ∧ m' = bec m 1 i (fre (m 40 0) t i))) := by
  have hT := (VV_SV hV).2.2.2.2.2.2.1 t ht.1 ht.2
  have hF := Fst_fnd (B := wB (m 40 0) t) (n := m 40 0 (12 + 116 * t + 2))
  have hF2 : Fst (fun i => fre (m 40 0) t i < (m 40 0) (6 + m 40 0 (12 + 116 * t + (3 + 3 * i)))) (m 40 0 (12 + 116 * t + 2)) (oI (fnd (wB (m 40 0) t) (m 40 0 (12 + 116 * t + 2)).toNat 0)) := by
    refine Fst_c (fun i a b => ?_) hF
    unfold wB
    rw [show ((i.toNat : Nat) : Int) = i by omega, decide_eq_true_iff]
  rw [md_isWide m hT]
  cases e : fnd (wB (m 40 0) t) (m 40 0 (12 + 116 * t + 2)).toNat 0 with
  | none =>
    rw [e] at hF2
    exact wp_ret ⟨-1, hF2, Or.inl ⟨rfl, rfl, rfl⟩⟩
  | some j =>
    rw [e] at hF2
    exact wp_ret ⟨(j : Int), hF2, Or.inr ⟨by omega, rfl, rfl⟩⟩
theorem md_strangeF {W : Int} (m : ob_Mem) {t i d u : Int} (hV : VV W (m 40 0)) (ht : 0 ≤ t ∧ t < 3) (hi : 0 ≤ i ∧ i < m 40 0 (12 + 116 * t + 2)) (hd1 : 0 ≤ d ∧ d < m 40 0 0) (hu : 0 ≤ u ∧ u < 3) (hp : m 40 0 (12 + 116 * u + 39) = 1) : ∃ v, ob_E (182, 0, [(11, 0), (1, t), (1, i), (1, d), (1, u), (0, 0), (0, 0)], [], (m, none)) = some (v, (m, none)) ∧ Fst (fun y => uo (m 40 0) t i (bg (m 40 0) t i d) u y = true) (m 40 0 (12 + 116 * u + 43)) v := by
  have hS := VV_SV hV
  refine ⟨_, md_strange m hS (VV_NV hV ht hi) hd1 (hS.2.2.2.2.2.2.2 u hu.1 hu.2 hp), Fst_c (fun y a b => ?_) (Fst_fnd (B := sB (m 40 0) t i d u) (n := m 40 0 (12 + 116 * u + 43)))⟩
  unfold sB uo sb
  rw [show ((y.toNat : Nat) : Int) = y by omega]
theorem md_isFree {W : Int} (m : ob_Mem) {t d : Int} (hV : VV W (m 40 0)) (ht : 0 ≤ t ∧ t < 3) (hd1 : 0 ≤ d ∧ d < m 40 0 0) : wp (ob_E (183, 0, [(11, 0), (1, t), (1, d), (0, 0), (0, 0), (0, 0), (0, 0)], [], (m, none))) (fun v m' => (v = 1 ∧ m' = m ∧ Fre (m 40 0) t d) ∨ (v = 0 ∧ ∃ i x, Blk (m 40 0) t d i x ∧ m' = bec m 2 i x)) := by
  obtain ⟨⟨v1, v2, v3, v4, v5, -⟩, v8⟩ := id hV
  obtain ⟨⟨-, -, w3, -, w5⟩, -⟩ := v8 t ht.1 ht.2
  rw [sg_X8_isFree_0]
  refine wp_for (fun y (x : ob_AV × ob_AV) => ob_E (183, 2, [(11, 0), (1, t), (1, d), (1, y), x.1, x.2, (0, 0)], [], (m, none))) 0 (m 40 0 (12 + 116 * t + 2)) (fun y _ => ∀ i, 0 ≤ i → i < y → FT (m 40 0) t i (bg (m 40 0) t i d) (-1)) ?_ ?_ (by omega) (x := ((0, 0), (0, 0))) (fun i a b => absurd a (by omega))
  · intro y ⟨x1, x2⟩ h1 h2 hI hk
    have hN := VV_NV hV ht ⟨h1, h2⟩
    show wp (ob_E (183, 2, [(11, 0), (1, t), (1, d), (1, y), x1, x2, (0, 0)], [], (m, none))) _
    rw [sg_X8_isFree_2]
    simp (disch := first | omega | assumption) only [↓if_pos, ↓if_neg, Option.bind_some, ob_wr_id, md_of, sg_X8_isFree_9]
    refine wp_for (fun u (x : ob_AV) => ob_E (183, 15, [(11, 0), (1, t), (1, d), (1, y), (1, u), x, (0, 0)], [], (m, none))) 0 (m 40 0 2) (fun u _ => ∀ u', 0 ≤ u' → u' < u → ¬ Uo (m 40 0) t y (bg (m 40 0) t y d) u') ?_ ?_ (by omega) (x := x2) (fun i a b => absurd a (by omega))
    · intro u x g1 g2 hI2 hk2
      have hk' := fun z (hz : ¬ Uo (m 40 0) t y (bg (m 40 0) t y d) u) => hk2 z (fun u' a b => by
        by_cases ee : u' = u
        · rw [ee]
          exact hz
        · exact hI2 u' a (by omega))
      rw [sg_X8_isFree_15]
      simp (disch := first | omega | assumption) only [↓if_pos, ↓if_neg, Option.bind_some, ob_wr_id, md_tunes, sg_X8_isFree_21]
      by_cases c1 : u = t
      · simp (disch := first | omega | assumption) only [↓if_pos, ↓if_neg, Option.bind_some, ob_wr_id, sg_X8_isFree_51, sg_X8_isFree_52]
        exact hk' _ (fun z => z.1 c1)
      · by_cases c2 : m 40 0 (12 + 116 * u + 39) = 1
        · obtain ⟨v, ev, hF⟩ := md_strangeF m hV ht ⟨h1, h2⟩ hd1 (u := u) (by omega) c2
          obtain ⟨-, p1, p2, p3⟩ := v8 u g1 (by omega)
          obtain ⟨p4, p5, p6, p7, p8, p9⟩ := p3 c2
          simp (disch := first | omega | assumption) only [↓if_pos, ↓if_neg, Option.bind_some, ob_wr_id, md_isPinned, sg_X8_isFree_36, ev, sg_X8_isFree_48]
          rcases hF with ⟨a1, a2, a3, a4⟩ | ⟨a1, a2⟩
          · simp (disch := first | omega | assumption) only [↓if_pos, ↓if_neg, Option.bind_some, ob_wr_id, sg_X8_isFree_52, md_because, sg_X8_isFree_74]
            exact wp_ret (Or.inr ⟨rfl, y, 16 * u + v, ⟨h1, h2, by omega, Or.inr ⟨u, v, rfl, ⟨g1, g2, ⟨c1, c2, v, a1, a2, a3⟩, hI2⟩, a1, a2, a3, a4⟩, hI⟩, rfl⟩)
          · subst a1
            simp (disch := first | omega | assumption) only [↓if_pos, ↓if_neg, Option.bind_some, ob_wr_id, sg_X8_isFree_52]
            exact hk' _ (fun z => by
              obtain ⟨-, -, y, y1, y2, y3⟩ := z
              exact a2 y y1 y2 y3)
        · simp (disch := first | omega | assumption) only [↓if_pos, ↓if_neg, Option.bind_some, ob_wr_id, md_isPinned, sg_X8_isFree_36, sg_X8_isFree_51, sg_X8_isFree_52]
          exact hk' _ (fun z => c2 z.2.1)
    · intro x hI2
      rw [sg_X8_isFree_15]
      simp (disch := first | omega | assumption) only [↓if_pos, ↓if_neg, Option.bind_some, ob_wr_id, md_tunes, sg_X8_isFree_21]
      exact hk (_, _) (fun i a b => by
        by_cases ee : i = y
        · rw [ee]
          exact Or.inl ⟨rfl, hI2⟩
        · exact hI i a (by omega))
  · intro ⟨x1, x2⟩ hI
    show wp (ob_E (183, 2, [(11, 0), (1, t), (1, d), (1, m 40 0 (12 + 116 * t + 2)), x1, x2, (0, 0)], [], (m, none))) _
    rw [sg_X8_isFree_2]
    simp (disch := first | omega | assumption) only [↓if_pos, ↓if_neg, Option.bind_some, ob_wr_id, md_of, sg_X8_isFree_9]
    exact wp_ret (Or.inl ⟨rfl, rfl, hI⟩)
/-- why a tune can't be pinned -/
def CP (s : Int → Int) (t k a b : Int) : Prop := (s (12 + 116 * t + 2) = 0 ∧ k = 4 ∧ a = 0 ∧ b = 0) ∨ (s (12 + 116 * t + 2) ≠ 0 ∧ k = 1 ∧ Fst (fun i => fre s t i < s (6 + s (12 + 116 * t + (3 + 3 * i)))) (s (12 + 116 * t + 2)) a ∧ a ≠ -1 ∧ b = fre s t a) ∨ (s (12 + 116 * t + 2) ≠ 0 ∧ Fst (fun i => fre s t i < s (6 + s (12 + 116 * t + (3 + 3 * i)))) (s (12 + 116 * t + 2)) (-1) ∧ k = 2 ∧ Blk s t (s (12 + 116 * t + 1)) a b)
def OkP (s : Int → Int) (t : Int) : Prop := s (12 + 116 * t + 2) ≠ 0 ∧ Fst (fun i => fre s t i < s (6 + s (12 + 116 * t + (3 + 3 * i)))) (s (12 + 116 * t + 2)) (-1) ∧ Fre s t (s (12 + 116 * t + 1))
theorem CP_u {s : Int → Int} {t k a b k' a' b' : Int} (h : CP s t k a b) (h' : CP s t k' a' b') : k = k' ∧ a = a' ∧ b = b' := by
  rcases h with ⟨h1, rfl, rfl, rfl⟩ | ⟨h1, rfl, h3, h4, rfl⟩ | ⟨h1, h2, rfl, h4⟩
  · rcases h' with ⟨g1, rfl, rfl, rfl⟩ | ⟨g1, rfl, g3, g4, rfl⟩ | ⟨g1, g2, rfl, g4⟩
    · exact ⟨rfl, rfl, rfl⟩
    · exact absurd h1 g1
    · exact absurd h1 g1
  · rcases h' with ⟨g1, rfl, rfl, rfl⟩ | ⟨g1, rfl, g3, g4, rfl⟩ | ⟨g1, g2, rfl, g4⟩
    · exact absurd g1 h1
    · have e := Fst_u h3 g3
      subst e
      exact ⟨rfl, rfl, rfl⟩
    · exact absurd (Fst_u h3 g2) h4
  · rcases h' with ⟨g1, rfl, rfl, rfl⟩ | ⟨g1, rfl, g3, g4, rfl⟩ | ⟨g1, g2, rfl, g4⟩
    · exact absurd g1 h1
    · exact absurd (Fst_u g3 h2) g4
    · exact ⟨rfl, Blk_u h4 g4⟩
theorem CP_O {s : Int → Int} {t k a b : Int} (h : CP s t k a b) : ¬ OkP s t := by
  intro ⟨o1, o2, o3⟩
  rcases h with ⟨h1, -⟩ | ⟨h1, -, h3, h4, -⟩ | ⟨h1, h2, -, h4⟩
  · exact o1 h1
  · exact h4 (Fst_u h3 o2)
  · exact Blk_F h4 o3
theorem md_canPin {W : Int} (m : ob_Mem) {t : Int} (hV : VV W (m 40 0)) : wp (ob_E (184, 0, [(11, 0), (1, t)], [], (m, none))) (fun v m' => (¬ (0 ≤ t ∧ t < m 40 0 2) ∧ v = -2 ∧ m' = m) ∨ ((0 ≤ t ∧ t < m 40 0 2) ∧ v = -3 ∧ ∃ k a b, CP (m 40 0) t k a b ∧ m' = bec m k a b) ∨ ((0 ≤ t ∧ t < m 40 0 2) ∧ v = 0 ∧ OkP (m 40 0) t ∧ m' = m)) := by
  obtain ⟨⟨v1, v2, v3, v4, v5, -⟩, v8⟩ := id hV
  rw [sg_X8_canPin_0]
  by_cases c0 : 0 ≤ t ∧ t < m 40 0 2
  · have ht : 0 ≤ t ∧ t < 3 := by omega
    obtain ⟨⟨w1, w2, w3, -, w5⟩, -⟩ := v8 t ht.1 ht.2
    by_cases c1 : m 40 0 (12 + 116 * t + 2) = 0
    · simp (disch := first | omega | assumption) only [↓if_pos, ↓if_neg, Option.bind_some, ob_wr_id, md_isTune, sg_X8_canPin_5, sg_X8_canPin_17, sg_X8_canPin_27, sg_X8_canPin_33, sg_X8_canPin_44, sg_X8_canPin_47, md_of, md_because]
      exact wp_ret (Or.inr (Or.inl ⟨c0, rfl, 4, 0, 0, Or.inl ⟨c1, rfl, rfl, rfl⟩, rfl⟩))
    · simp (disch := first | omega | assumption) only [↓if_pos, ↓if_neg, Option.bind_some, ob_wr_id, md_isTune, sg_X8_canPin_5, sg_X8_canPin_17, md_of]
      refine wp_b (md_isWideF m hV ht) (fun v m' hv => ?_)
      obtain ⟨i, hF, ⟨e1, e2, e3⟩ | ⟨e1, e2, e3⟩⟩ := hv
      · subst e1 e2 e3
        simp (disch := first | omega | assumption) only [↓if_pos, ↓if_neg, Option.bind_some, ob_wr_id, sg_X8_canPin_33, sg_X8_canPin_44, md_of]
        refine wp_b (md_isFree m' hV ht w2) (fun v m2 hv => ?_)
        rcases hv with ⟨e1, e2, e3⟩ | ⟨e1, i, x, e2, e3⟩
        · subst e1 e2
          simp (disch := first | omega | assumption) only [↓if_pos, ↓if_neg, Option.bind_some, ob_wr_id, sg_X8_canPin_47]
          exact wp_ret (Or.inr (Or.inr ⟨c0, rfl, ⟨c1, hF, e3⟩, rfl⟩))
        · subst e1 e3
          simp (disch := first | omega | assumption) only [↓if_pos, ↓if_neg, Option.bind_some, ob_wr_id, sg_X8_canPin_47]
          exact wp_ret (Or.inr (Or.inl ⟨c0, rfl, 2, i, x, Or.inr (Or.inr ⟨c1, hF, rfl, e2⟩), rfl⟩))
      · subst e2 e3
        simp (disch := first | omega | assumption) only [↓if_pos, ↓if_neg, Option.bind_some, ob_wr_id, sg_X8_canPin_33]
        exact wp_ret (Or.inr (Or.inl ⟨c0, rfl, 1, i, fre (m 40 0) t i, Or.inr (Or.inl ⟨c1, rfl, hF, e1, rfl⟩), rfl⟩))
  · simp (disch := first | omega | assumption) only [↓if_pos, ↓if_neg, Option.bind_some, ob_wr_id, md_isTune, sg_X8_canPin_5]
    exact wp_ret (Or.inl ⟨c0, rfl, rfl⟩)
theorem bec_bec {m : ob_Mem} {a b c a' b' c' : Int} : bec (bec m a b c) a' b' c' = bec m a' b' c' := by
  funext k i s
  unfold bec ob_set
  by_cases z1 : k = 8 ∧ i = 0 ∧ s = 8
  · simp [z1]
  · by_cases z2 : k = 8 ∧ i = 0 ∧ s = 7
    · simp [z2]
    · by_cases z3 : k = 8 ∧ i = 0 ∧ s = 6
      · simp [z3]
      · simp only [z1, z2, z3, if_false]
theorem md_fits {W : Int} (m : ob_Mem) {t : Int} (hV : VV W (m 40 0)) : wp (ob_E (191, 0, [(11, 0), (1, t), (0, 0)], [], (m, none))) (fun v m' => (¬ (0 ≤ t ∧ t < m 40 0 2) ∧ v = -2 ∧ m' = rfs m (-2)) ∨ ((0 ≤ t ∧ t < m 40 0 2) ∧ fiV (m 40 0) t v ∧ ∃ a b c, m' = m ∨ m' = bec m a b c)) := by
  obtain ⟨⟨v1, v2, v3, v4, v5, -⟩, v8⟩ := id hV
  rw [sg_X8_fits_0]
  by_cases c0 : 0 ≤ t ∧ t < m 40 0 2
  · have ht : 0 ≤ t ∧ t < 3 := by omega
    obtain ⟨⟨w1, w2, w3, -, w5⟩, -⟩ := v8 t ht.1 ht.2
    by_cases c1 : m 40 0 (12 + 116 * t + 2) = 0
    · simp (disch := first | omega | assumption) only [↓if_pos, ↓if_neg, Option.bind_some, ob_wr_id, md_isTune, sg_X8_fits_5, sg_X8_fits_21, md_of]
      exact wp_ret (Or.inr ⟨c0, Or.inl ⟨Or.inl c1, rfl⟩, 0, 0, 0, Or.inl rfl⟩)
    · simp (disch := first | omega | assumption) only [↓if_pos, ↓if_neg, Option.bind_some, ob_wr_id, md_isTune, sg_X8_fits_5, sg_X8_fits_21, md_of]
      refine wp_b (md_isWideF m hV ht) (fun v m' hv => ?_)
      obtain ⟨i, hF, ⟨e1, e2, e3⟩ | ⟨e1, e2, e3⟩⟩ := hv
      · have nb : ¬ fiB (m 40 0) t := fun z => by
          rcases z with z | ⟨i', z1, z2, z3⟩
          · exact c1 z
          · rcases hF with ⟨a, -⟩ | ⟨-, a⟩
            · omega
            · exact a i' z1 z2 z3
        subst e1 e2 e3
        simp (disch := first | omega | assumption) only [↓if_pos, ↓if_neg, Option.bind_some, ob_wr_id, sg_X8_fits_29]
        refine wp_for (fun y (m1 : ob_Mem) => ob_E (191, 36, [(11, 0), (1, t), (1, y)], [], (m1, none))) 0 (m' 40 0 0) (fun y m1 => (∀ i, 0 ≤ i → i < y → ¬ Fre (m' 40 0) t i) ∧ ∃ a b c, m1 = m' ∨ m1 = bec m' a b c) ?_ ?_ (by omega) ⟨fun i a b => absurd a (by omega), 0, 0, 0, Or.inl rfl⟩
        · intro y m1 h1 h2 ⟨hI, a, b, c, hm⟩ hk
          have er : m1 40 0 = m' 40 0 := by
            rcases hm with hm | hm
            · rw [hm]
            · rw [hm]
              unfold bec
              simp (disch := omega) only [rs_k, rs_i, rs_s, rs_e, up_e, up_n, rw_k]
          have hd1 : 0 ≤ y ∧ y < m1 40 0 0 := by rw [er]; exact ⟨h1, h2⟩
          rw [sg_X8_fits_36]
          simp (disch := first | omega | assumption) only [↓if_pos, ↓if_neg, Option.bind_some, ob_wr_id, md_round, sg_X8_fits_41]
          refine wp_b (md_isFree m1 (by rw [er]; exact hV) ht hd1) (fun v m2 hv => ?_)
          rw [er] at hv
          rcases hv with ⟨e1, e2, e3⟩ | ⟨e1, i, x, e2, e3⟩
          · subst e1 e2
            simp (disch := first | omega | assumption) only [↓if_pos, ↓if_neg, Option.bind_some, ob_wr_id, sg_X8_fits_50]
            exact wp_ret (Or.inr ⟨c0, Or.inr ⟨nb, Or.inl ⟨h1, h2, e3, hI⟩⟩, a, b, c, hm⟩)
          · subst e1 e3
            simp (disch := first | omega | assumption) only [↓if_pos, ↓if_neg, Option.bind_some, ob_wr_id, sg_X8_fits_50]
            refine hk _ ⟨fun i' a b => ?_, 2, i, x, Or.inr ?_⟩
            · by_cases ee : i' = y
              · rw [ee]
                exact Blk_F e2
              · exact hI i' a (by omega)
            · rcases hm with hm | hm
              · rw [hm]
              · rw [hm, bec_bec]
        · intro m1 ⟨hI, a, b, c, hm⟩
          have er : m1 40 0 = m' 40 0 := by
            rcases hm with hm | hm
            · rw [hm]
            · rw [hm]
              unfold bec
              simp (disch := omega) only [rs_k, rs_i, rs_s, rs_e, up_e, up_n, rw_k]
          have er2 : m1 40 0 0 = m' 40 0 0 := by rw [er]
          rw [sg_X8_fits_36]
          simp (disch := first | omega | assumption) only [↓if_pos, ↓if_neg, Option.bind_some, ob_wr_id, md_round, sg_X8_fits_41]
          exact wp_ret (Or.inr ⟨c0, Or.inr ⟨nb, Or.inr ⟨rfl, hI⟩⟩, a, b, c, hm⟩)
      · subst e2 e3
        simp (disch := first | omega | assumption) only [↓if_pos, ↓if_neg, Option.bind_some, ob_wr_id, sg_X8_fits_29]
        refine wp_ret (Or.inr ⟨c0, Or.inl ⟨Or.inr ?_, rfl⟩, _, _, _, Or.inr rfl⟩)
        rcases hF with ⟨a1, a2, a3, -⟩ | ⟨a1, -⟩
        · exact ⟨i, a1, a2, a3⟩
        · exact absurd a1 e1
  · simp (disch := first | omega | assumption) only [↓if_pos, ↓if_neg, Option.bind_some, ob_wr_id, md_isTune, sg_X8_fits_5, md_refuses, sg_X8_fits_14]
    exact wp_ret (Or.inl ⟨c0, rfl, rfl⟩)
