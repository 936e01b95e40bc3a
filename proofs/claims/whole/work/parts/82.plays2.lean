-- PLAYS: the model; joined
theorem Chg_x {m m1 m2 : ob_Mem} {s' : Int → Int} (h1 : fa m m1) (h3 : PP (m 40 0) m m1) (h4 : ∀ k i x, k ≠ 40 → ¬ ((46 ≤ k ∧ k ≤ 54) ∨ (k = 8 ∧ (x = 14 ∨ x = 20))) → m2 k i x = m1 k i x) (h5 : m2 40 0 = s') : Chg m s' m2 := ⟨fun k i x q => (h4 k i x (by omega) (by omega)).trans (h1 k i x q), h5, PP_c h3 rfl (fun _ => rfl) (h4 8 0 3 (by omega) (by omega)) (fun x => h4 41 0 x (by omega) (by omega))⟩
theorem plE {W : Int} {s : Int → Int} {t b : Int} (hV : VV W s) : (∃ p, 0 ≤ p ∧ p < Nn s ∧ (br s).2.2.2.2.2.2 (cp s p) = b ∧ cp s p / 12 = t) ↔ ∃ v, Pin s v ∧ v / 12 = t ∧ (br s).2.2.2.2.2.2 v = b := by
  constructor
  · intro ⟨p, a, c, d, e⟩
    exact ⟨_, cp_P hV ⟨a, c⟩, e, d⟩
  · intro ⟨v, a, c, d⟩
    obtain ⟨z1, z2, z3⟩ := cp_sur hV a
    exact ⟨_, z2, z3, by rw [z1]; exact d, by rw [z1]; exact c⟩
theorem md_plays {W W' : Int} (m : ob_Mem) {t n : Int} (hW : 0 ≤ W ∧ W + 50 ≤ W' ∧ W' ≤ 30000) (hV : VV W (m 40 0)) (hn : 0 ≤ m 8 0 3 ∧ m 8 0 3 ≤ 5) : wp (ob_E (217, 0, [(11, 0), (1, t), (1, n), (0, 0), (0, 0), (0, 0), (0, 0)], [], (m, none))) (fun v m' => (¬ ((0 ≤ t ∧ t < m 40 0 2) ∧ 1 ≤ n ∧ n ≤ 50) ∧ v = -2 ∧ RF m (-2) m') ∨ (((0 ≤ t ∧ t < m 40 0 2) ∧ 1 ≤ n ∧ n ≤ 50) ∧ m 40 0 (12 + 116 * t + 39) ≠ 1 ∧ v = -3 ∧ RF m (-3) m') ∨ (((0 ≤ t ∧ t < m 40 0 2) ∧ 1 ≤ n ∧ n ≤ 50) ∧ m 40 0 (12 + 116 * t + 39) = 1 ∧ v = plV (plS (m 40 0) t n) t (br (plS (m 40 0) t n)).1.toNat ∧ Chg m (plS (m 40 0) t n) m')) := by
  have hT := hV.1.2.2.1
  by_cases c : 0 ≤ t ∧ t < m 40 0 2
  · by_cases d : 1 ≤ n ∧ n ≤ 50
    · have pvt := (hV.2 t (by omega) (by omega)).2
      by_cases p : m 40 0 (12 + 116 * t + 39) = 1
      · have nb := (pvt.2.2 p).2.2.2.1
        have go : ob_E (217, 0, [(11, 0), (1, t), (1, n), (0, 0), (0, 0), (0, 0), (0, 0)], [], (m, none)) = (ob_E (136, 0, [(11, 0), (0, 0)], [], (m, none))).bind fun q => ob_E (217, 46, [(11, 0), (1, t), (1, n), (0, 0), (0, 0), (0, 0), (0, 0)], [], q.2) := by
          simp (disch := first | omega | assumption) only [↓if_pos, ↓if_neg, Option.bind_some, ob_wr_id, sg_X8_plays_0, sg_X8_plays_5, sg_X8_plays_17, sg_X8_plays_32, md_isTune, md_in, md_isPinned]
        rw [go]
        refine wp_b (md_keepF m hn) (fun _ m1 h1 => ?_)
        obtain ⟨k1, k2⟩ := h1
        have kr := fk_row k1
        generalize hs : m 40 0 = s at *
        rw [sg_X8_plays_46]
        refine wp_for (fun i m' => ob_E (217, 48, [(11, 0), (1, t), (1, n), (1, i), (0, 0), (0, 0), (0, 0)], [], (m', none))) 0 (s (12 + 116 * t + 43)) (fun i m' => m' 40 0 = wrw s (fun v => v / 12 = t ∧ v % 12 < i) (fun x => ob_wr (x + n)) ∧ fR m1 m') ?_ ?_ (by omega) ⟨?_, sm_r⟩
        · intro i m2 h1 h2 ⟨i1, i2⟩ hk
          have hp : Pin s (12 * t + i) := ⟨by omega, by omega, by rw [show (12 * t + i) / 12 = t by omega]; exact p, by rw [show (12 * t + i) / 12 = t by omega, show (12 * t + i) % 12 = i by omega]; exact h2⟩
          have e43 : m2 40 0 (12 + 116 * t + 43) = s (12 + 116 * t + 43) := by
            rw [i1]
            exact wrw_o (Or.inr ⟨t, 43, by omega, by omega, rfl, by omega⟩)
          have ew : m2 40 0 (12 + 116 * t + (44 + 4 * i + 3)) = s (wpo (12 * t + i)) := by
            rw [i1, ← wpo_t (by omega)]
            exact wrw_x hp (fun z => by have := z.2; omega)
          rw [sg_X8_plays_48]
          simp (disch := first | omega | assumption) only [↓if_pos, ↓if_neg, Option.bind_some, ob_wr_id, md_of, sg_X8_plays_56, md_pinOf, e43, ew, sg_X8_plays_76, md_set, sg_X8_plays_81]
          refine hk (ob_set m2 40 0 (12 + 116 * t + (44 + 4 * i + 3)) (ob_wr (s (wpo (12 * t + i)) + n))) ⟨?_, fR_set i2⟩
          rw [rw_e, i1, ← wpo_t (by omega)]
          exact wrw_s hp (fun w hw => by
            constructor
            · intro z
              by_cases e : w = 12 * t + i
              · exact Or.inr e
              · exact Or.inl (by omega)
            · rintro (z | z) <;> omega)
        · intro m2 ⟨i1, i2⟩
          have e43 : m2 40 0 (12 + 116 * t + 43) = s (12 + 116 * t + 43) := by
            rw [i1]
            exact wrw_o (Or.inr ⟨t, 43, by omega, by omega, rfl, by omega⟩)
          have eS : m2 40 0 = plS s t n := by
            rw [i1]
            exact wrw_c (fun v hv => ⟨fun z => z.1, fun z => ⟨z, by have := hv.2.2.2; rw [z] at this; exact this⟩⟩)
          have hV' : VV W' (m2 40 0) := by
            rw [eS]
            exact VV_pl hW hV d
          rw [sg_X8_plays_48]
          simp (disch := first | omega | assumption) only [↓if_pos, ↓if_neg, Option.bind_some, ob_wr_id, md_of, sg_X8_plays_56, e43]
          refine wp_b (md_laysBridges m2 hV') (fun _ m3 h3 => ?_)
          obtain ⟨g1, g2, g3⟩ := h3
          have er := fs_row g3
          have ch : Chg m (plS s t n) m3 := Chg_x (fk_fa k1) (by rw [hs]; exact k2) (fun k i x a b => (g3 k i x b).trans (i2 k i x (fun z => a z.1))) (er.trans eS)
          have fin : ∀ v, v = plV (plS s t n) t (br (plS s t n)).1.toNat → (¬ ((0 ≤ t ∧ t < s 2) ∧ 1 ≤ n ∧ n ≤ 50) ∧ v = -2 ∧ RF m (-2) m3) ∨ (((0 ≤ t ∧ t < s 2) ∧ 1 ≤ n ∧ n ≤ 50) ∧ s (12 + 116 * t + 39) ≠ 1 ∧ v = -3 ∧ RF m (-3) m3) ∨ (((0 ≤ t ∧ t < s 2) ∧ 1 ≤ n ∧ n ≤ 50) ∧ s (12 + 116 * t + 39) = 1 ∧ v = plV (plS s t n) t (br (plS s t n)).1.toNat ∧ Chg m (plS s t n) m3) := fun v hv => Or.inr (Or.inr ⟨⟨c, d⟩, p, hv, ch⟩)
          rw [eS] at g1 g2 er hV'
          generalize plS s t n = S at *
          obtain ⟨SB1, SB2⟩ := SI_br hV'
          obtain ⟨c0, c1, c2, -⟩ := cns hV'
          have hN : 0 ≤ Nn S ∧ Nn S ≤ 36 := by
            unfold Nn
            omega
          rw [sg_X8_plays_91]
          refine wp_for (fun b (y : ob_AV × ob_AV) => ob_E (217, 96, [(11, 0), (1, t), (1, n), (1, plV S t b.toNat), (1, b), y.1, y.2], [], (m3, none))) 0 (br S).1 (fun _ _ => True) ?_ ?_ SB1.1 (x := ((0, 0), (0, 0))) trivial
          · intro b ⟨y1, y2⟩ h1 h2 _ hk
            have cb := cnt_le (P := plB S t) b.toNat
            have c0 := cnt_0 (P := plB S t) b.toNat
            have cb : plV S t b.toNat ≤ _ := cb
            have c0 : 0 ≤ plV S t b.toNat := c0
            rw [plV_s h1] at hk
            generalize plV S t b.toNat = A at *
            show wp (ob_E (217, 96, [(11, 0), (1, t), (1, n), (1, A), (1, b), y1, y2], [], (m3, none))) _
            rw [sg_X8_plays_96, g2.1, if_pos h2]
            refine wp_for (fun p (a : Int) => ob_E (217, 111, [(11, 0), (1, t), (1, n), (1, A), (1, b), (1, a), (1, p)], [], (m3, none))) 0 (Nn S) (fun p a => BV a (∃ p', 0 ≤ p' ∧ p' < p ∧ (br S).2.2.2.2.2.2 (cp S p') = b ∧ cp S p' / 12 = t)) ?_ ?_ hN.1 (x := 0) (Or.inr ⟨rfl, fun ⟨p', a, b, _⟩ => by omega⟩)
            · intro p a l1 l2 hI hk2
              obtain ⟨q1, q2, q3⟩ := g1.2 p l1 l2
              have q4 := g2.2.2 p l1 l2 (SB2 _ (cp_P hV' ⟨l1, l2⟩)).1
              rw [sg_X8_plays_111, g1.1, if_pos l2]
              rcases hI with ⟨e1, p', z1, z2, z3⟩ | ⟨e1, e2⟩
              · subst e1
                simp (disch := first | omega | assumption) only [↓if_pos, ↓if_neg, Option.bind_some, ob_wr_id, sg_X8_plays_148, sg_X8_plays_153]
                exact hk2 1 (Or.inl ⟨rfl, p', z1, by omega, z3⟩)
              · subst e1
                by_cases k : (br S).2.2.2.2.2.2 (cp S p) = b ∧ cp S p / 12 = t
                · simp (disch := first | omega | assumption) only [↓if_pos, ↓if_neg, Option.bind_some, ob_wr_id, q4, q1, k.1, k.2, sg_X8_plays_148, sg_X8_plays_153]
                  exact hk2 1 (Or.inl ⟨rfl, p, l1, by omega, k⟩)
                · have no : ¬ ∃ p', 0 ≤ p' ∧ p' < p + 1 ∧ (br S).2.2.2.2.2.2 (cp S p') = b ∧ cp S p' / 12 = t := fun ⟨p', z1, z2, z3⟩ => by
                    by_cases e : p' = p
                    · rw [e] at z3
                      exact k z3
                    · exact e2 ⟨p', z1, by omega, z3⟩
                  by_cases k1 : (br S).2.2.2.2.2.2 (cp S p) = b
                  · have k2 : ¬ cp S p / 12 = t := fun z => k ⟨k1, z⟩
                    simp (disch := first | omega | assumption) only [↓if_pos, ↓if_neg, Option.bind_some, ob_wr_id, q4, q1, k1, sg_X8_plays_152, sg_X8_plays_153]
                    exact hk2 0 (Or.inr ⟨rfl, no⟩)
                  · simp (disch := first | omega | assumption) only [↓if_pos, ↓if_neg, Option.bind_some, ob_wr_id, q4, q1, sg_X8_plays_152, sg_X8_plays_153]
                    exact hk2 0 (Or.inr ⟨rfl, no⟩)
            · intro a hI
              rw [sg_X8_plays_111, g1.1, if_neg (by omega)]
              have iw := md_isWorn er g2 ⟨h1, h2⟩ SB1.2
              rcases hI with ⟨e1, z⟩ | ⟨e1, z⟩
              · subst e1
                rw [plE hV'] at z
                by_cases k : S 5 ≤ (br S).2.2.2.2.2.1 b
                · rw [if_pos (show plB S t b from ⟨k, z⟩)] at hk
                  simp (disch := first | omega | assumption) only [↓if_pos, ↓if_neg, Option.bind_some, ob_wr_id, iw, sg_X8_plays_173, sg_X8_plays_181]
                  exact hk ((1, 1), (1, Nn S)) trivial
                · rw [if_neg (show ¬ plB S t b from fun y => k y.1)] at hk
                  simp (disch := first | omega | assumption) only [↓if_pos, ↓if_neg, Option.bind_some, ob_wr_id, iw, sg_X8_plays_173, sg_X8_plays_180, sg_X8_plays_181, Int.add_zero]
                  exact hk ((1, 1), (1, Nn S)) trivial
              · subst e1
                rw [plE hV'] at z
                rw [if_neg (show ¬ plB S t b from fun y => z y.2)] at hk
                simp (disch := first | omega | assumption) only [↓if_pos, ↓if_neg, Option.bind_some, ob_wr_id, sg_X8_plays_180, sg_X8_plays_181, Int.add_zero]
                exact hk ((1, 0), (1, Nn S)) trivial
          · intro ⟨y1, y2⟩ _
            show wp (ob_E (217, 96, [(11, 0), (1, t), (1, n), (1, plV S t (br S).1.toNat), (1, (br S).1), y1, y2], [], (m3, none))) _
            rw [sg_X8_plays_96, g2.1, if_neg (by omega)]
            exact wp_ret (fin _ rfl)
        · rw [kr]
          funext x
          exact (wrw_n (fun v hv z => by have := z.2; omega)).symm
      · have go : ob_E (217, 0, [(11, 0), (1, t), (1, n), (0, 0), (0, 0), (0, 0), (0, 0)], [], (m, none)) = some (-3, (rfs m (-3), none)) := by
          simp (disch := first | omega | assumption) only [↓if_pos, ↓if_neg, Option.bind_some, ob_wr_id, sg_X8_plays_0, sg_X8_plays_5, sg_X8_plays_17, sg_X8_plays_32, sg_X8_plays_41, md_isTune, md_in, md_isPinned, md_refuses]
        exact wp_of go (Or.inr (Or.inl ⟨⟨c, d⟩, p, rfl, RF_rfs⟩))
    · have go : ob_E (217, 0, [(11, 0), (1, t), (1, n), (0, 0), (0, 0), (0, 0), (0, 0)], [], (m, none)) = some (-2, (rfs m (-2), none)) := by
        simp (disch := first | omega | assumption) only [↓if_pos, ↓if_neg, Option.bind_some, ob_wr_id, sg_X8_plays_0, sg_X8_plays_5, sg_X8_plays_17, sg_X8_plays_20, sg_X8_plays_26, md_isTune, md_in, md_refuses]
      exact wp_of go (Or.inl ⟨fun z => d z.2, rfl, RF_rfs⟩)
  · have go : ob_E (217, 0, [(11, 0), (1, t), (1, n), (0, 0), (0, 0), (0, 0), (0, 0)], [], (m, none)) = some (-2, (rfs m (-2), none)) := by
      simp (disch := first | omega | assumption) only [↓if_pos, ↓if_neg, Option.bind_some, ob_wr_id, sg_X8_plays_0, sg_X8_plays_5, sg_X8_plays_20, sg_X8_plays_26, md_isTune, md_refuses]
    exact wp_of go (Or.inl ⟨fun z => c z.1, rfl, RF_rfs⟩)
theorem lv_br {m m1 : ob_Mem} (h : sm (fun k _ => k = 1 ∨ (19 ≤ k ∧ k ≤ 25)) m m1) : lv m m1 := fun k i x hk => h k i x (by omega)
theorem plV_0 {s : Int → Int} {t : Int} {n : Nat} : 0 ≤ plV s t n := cnt_0 n
theorem ag_plays {W : Int} {m : ob_Mem} {t n : Int} (hW : 0 ≤ W ∧ W + 50 ≤ 30000) (h0 : Inv W m) : Agr W (W + 50) m (fun m => ob_E (102, 0, [(10, 0), (1, t), (1, n)], [], (m, none))) (fun m => ob_E (217, 0, [(11, 0), (1, t), (1, n), (0, 0), (0, 0), (0, 0), (0, 0)], [], (m, none))) := by
  have h : Inv (W + 50) m := Inv_W (by omega) h0
  obtain ⟨hV, hn⟩ := Inv_V h0
  have hc : wp (ob_E (102, 0, [(10, 0), (1, t), (1, n)], [], (m, none))) (fun v m' => lv m m' ∧ (∀ x, m' 2 0 x = m 2 0 x) ∧ ((¬ ((0 ≤ t ∧ t < m 40 0 2) ∧ 1 ≤ n ∧ n ≤ 50) ∧ v = -2 ∧ CR (W + 50) m (m 40 0) (m 40 0) (m 8 0 3) (fun i p => m 41 0 (360 * i + p)) (-2) m') ∨ (((0 ≤ t ∧ t < m 40 0 2) ∧ 1 ≤ n ∧ n ≤ 50) ∧ m 40 0 (12 + 116 * t + 39) ≠ 1 ∧ v = -3 ∧ CR (W + 50) m (m 40 0) (m 40 0) (m 8 0 3) (fun i p => m 41 0 (360 * i + p)) (-3) m') ∨ (((0 ≤ t ∧ t < m 40 0 2) ∧ 1 ≤ n ∧ n ≤ 50) ∧ m 40 0 (12 + 116 * t + 39) = 1 ∧ v = plV (plS (m 40 0) t n) t (br (plS (m 40 0) t n)).1.toNat ∧ CR (W + 50) m (m 40 0) (plS (m 40 0) t n) (m 8 0 3) (fun i p => m 41 0 (360 * i + p)) v m'))) := by
    rw [sg_X7_plays_0]
    refine wp_b (cl_remember h.1) (fun _ m1 h1 => ?_)
    obtain ⟨r1, r2, r3⟩ := h1
    have l1 : lv m m1 := lv_sm (sm_m r3 (fun k i => Or.inr))
    have e1 : ∀ k i x, k = 7 ∨ k = 2 → m1 k i x = m k i x := fun k i x hk => r3 k i x (fun z => by rcases z with ⟨z1, z2⟩ | ⟨z1, z2⟩ | ⟨z1, z2⟩ <;> omega)
    rw [sg_X7_plays_4]
    refine wp_b (cl_goRound (W := W) (W' := W + 50) (by omega) rfl hV r1.1.2.2.1.2) (fun v m2 h2 => ?_)
    rw [sg_X7_plays_11]
    rcases h2 with ⟨c, rfl, rfl⟩ | ⟨c, p, rfl, rfl⟩ | ⟨c, p, rfl, m3, s3, R3, s2⟩
    · refine wp_b (cl_changed r1 (fun _ => ⟨by omega, r1.1⟩)) (fun v' m3 h3 => ?_)
      obtain ⟨rfl, c3, c4⟩ := h3
      rw [sg_X7_plays_14]
      refine wp_ret ⟨lv_t l1 (fun k i x hk => c4 k i x (by omega) (by omega)), fun x => by rw [c4 2 0 x (by omega) (by omega), e1 2 0 x (by omega)], Or.inl ⟨c, rfl, ?_⟩⟩
      rcases c3 with ⟨d1, d2, d3, d4⟩ | ⟨d1, -⟩
      · exact Or.inl ⟨d1, d2, d3, fun x p q => by rw [d4 x p q, e1 7 0 x (by omega)]⟩
      · omega
    · refine wp_b (cl_changed r1 (fun _ => ⟨by omega, r1.1⟩)) (fun v' m3 h3 => ?_)
      obtain ⟨rfl, c3, c4⟩ := h3
      rw [sg_X7_plays_14]
      refine wp_ret ⟨lv_t l1 (fun k i x hk => c4 k i x (by omega) (by omega)), fun x => by rw [c4 2 0 x (by omega) (by omega), e1 2 0 x (by omega)], Or.inr (Or.inl ⟨c, p, rfl, ?_⟩)⟩
      rcases c3 with ⟨d1, d2, d3, d4⟩ | ⟨d1, -⟩
      · exact Or.inl ⟨d1, d2, d3, fun x p q => by rw [d4 x p q, e1 7 0 x (by omega)]⟩
      · omega
    · have s3' : sm (fun k i => gA k i ∨ gB (m1 7 0 0) k i) m1 m3 := sm_m s3 (fun k i z => Or.inr z)
      have P3 := PC_sm r1 s3' (VV_pl (by omega) hV c.2) R3
      have P2 := PC_br P3 s2
      have e3 : ∀ k x, k = 7 ∨ k = 2 → m2 k 0 x = m k 0 x := fun k x hk => by
        rw [s2 k 0 x (by omega), s3 k 0 x (fun z => by rcases z with ⟨z1, z2⟩ | ⟨z1, z2⟩ | ⟨z1, z2⟩ <;> omega), e1 k 0 x (by omega)]
      have nn : ¬ (plV (plS (m 40 0) t n) t (br (plS (m 40 0) t n)).1.toNat < 0) := by
        have := plV_0 (s := plS (m 40 0) t n) (t := t) (n := (br (plS (m 40 0) t n)).1.toNat)
        omega
      refine wp_b (cl_changed P2 (fun z => absurd z nn)) (fun v' m4 h4 => ?_)
      obtain ⟨rfl, c3, c4⟩ := h4
      rw [sg_X7_plays_14]
      refine wp_ret ⟨lv_t (lv_t (lv_t l1 (lv_sm s3')) (lv_br s2)) (fun k i x hk => c4 k i x (by omega) (by omega)), fun x => by rw [c4 2 0 x (by omega) (by omega), e3 2 x (by omega)], Or.inr (Or.inr ⟨c, p, rfl, ?_⟩)⟩
      rcases c3 with ⟨d1, -⟩ | ⟨d1, d2, d3⟩
      · exact absurd d1 nn
      · exact Or.inr ⟨d1, d2, fun x p q => by rw [d3 x p q, e3 7 x (by omega)]⟩
  obtain ⟨v, m1, e1, l1, e2', c1⟩ := hc
  have er : m1 40 0 = m 40 0 := lv_r l1 (by omega)
  obtain ⟨v', m2, e2, d⟩ := md_plays (W := W) (W' := W + 50) m1 (t := t) (n := n) (by omega) (by rw [er]; exact hV) (by rw [l1 8 0 3 (by omega)]; exact hn)
  rw [er] at d
  rcases c1 with ⟨a1, rfl, a3⟩ | ⟨a1, p, rfl, a3⟩ | ⟨a1, p, rfl, a4⟩
  · rcases d with ⟨b1, rfl, b3⟩ | ⟨b1, -⟩ | ⟨b1, -⟩
    · refine ⟨-2, m1, m2, e1, e2, ?_, fun k i x hk => ⟨l1 k i x (by omega), by rw [b3.2.2.2.2.2 k i x (by omega), l1 k i x (by omega)]⟩⟩
      rcases a3 with ⟨d1, d2, d3, d4⟩ | ⟨d1, -⟩
      · exact J_ref h l1 d2 d3 d4 e2' b3
      · omega
    · exact absurd b1 a1
    · exact absurd b1 a1
  · rcases d with ⟨b1, -⟩ | ⟨b1, p', rfl, b3⟩ | ⟨b1, p', -⟩
    · exact absurd a1 b1
    · refine ⟨-3, m1, m2, e1, e2, ?_, fun k i x hk => ⟨l1 k i x (by omega), by rw [b3.2.2.2.2.2 k i x (by omega), l1 k i x (by omega)]⟩⟩
      rcases a3 with ⟨d1, d2, d3, d4⟩ | ⟨d1, -⟩
      · exact J_ref h l1 d2 d3 d4 e2' b3
      · omega
    · exact absurd p' p
  · rcases d with ⟨b1, -⟩ | ⟨b1, p', -⟩ | ⟨b1, p', rfl, b4⟩
    · exact absurd a1 b1
    · exact absurd p p'
    · refine ⟨_, m1, m2, e1, e2, ?_, fun k i x hk => ⟨l1 k i x (by omega), by rw [b4.1 k i x (by omega), l1 k i x (by omega)]⟩⟩
      rcases a4 with ⟨d1, -⟩ | ⟨d1, d2, d3⟩
      · have := plV_0 (s := plS (m 40 0) t n) (t := t) (n := (br (plS (m 40 0) t n)).1.toNat)
        omega
      · exact J_done (Int.le_refl _) h l1 d2 d3 e2' b4
