-- READS: the model looks at the text and takes numbers
def MT (T : Int → Int) (L : Int) (μ : ob_Mem) : Prop := μ 8 0 22 = L ∧ ∀ i, 0 ≤ i → i < L → μ 55 0 i = T i
def FH (μ μ' : ob_Mem) : Prop := ∀ k i x, ¬ (k = 8 ∧ x = 23) → k ≠ 56 → μ' k i x = μ k i x
theorem FH_r {μ : ob_Mem} : FH μ μ := fun _ _ _ _ _ => rfl
theorem FH_t {μ μ' μ'' : ob_Mem} (h : FH μ μ') (h' : FH μ' μ'') : FH μ μ'' := fun k i x a b => (h' k i x a b).trans (h k i x a b)
theorem MT_F {T : Int → Int} {L : Int} {μ μ' : ob_Mem} (h : MT T L μ) (hf : FH μ μ') : MT T L μ' := ⟨(hf 8 0 22 (by omega) (by omega)).trans h.1, fun i a b => (hf 55 0 i (by omega) (by omega)).trans (h.2 i a b)⟩
def frs (T : Int → Int) (L a f : Int) : Prop := f = 0 ∨ a = L ∨ ¬ fig (T a)
theorem md_here {T : Int → Int} {L a f : Int} {g μ : ob_Mem} {R : ob_Res} (hB : TB T L) (hx : TX T L g) (hM : MT T L μ) (hp : PZ L a f g) (h : XP a f g R) (he : μ 8 0 23 = a) : wp (ob_E (226, 0, [(11, 0)], [], (μ, none))) (fun v μ' => ∃ b f', a ≤ b ∧ (b = a ∧ f' = f ∨ f' = 0) ∧ XP b f' g R ∧ PZ L b f' g ∧ μ' 8 0 23 = b ∧ (∀ k i x, ¬ (k = 8 ∧ x = 23) → μ' k i x = μ k i x) ∧ ((b = L ∧ v = -1) ∨ (b < L ∧ v = T b ∧ T b ≠ 32)) ∧ (a < L → T a ≠ 32 → b = a)) := by
  obtain ⟨b1, b2⟩ := id hB
  refine wp_for (fun (_ : Int) μ' => ob_E (226, 0, [(11, 0)], [], (μ', none))) a L (fun y μ' => ∃ f', (y = a ∧ f' = f ∨ f' = 0) ∧ XP y f' g R ∧ PZ L y f' g ∧ μ' 8 0 23 = y ∧ (∀ k i x, ¬ (k = 8 ∧ x = 23) → μ' k i x = μ k i x) ∧ (a < y → T a = 32)) ?_ ?_ hp.1.2 ⟨f, Or.inl ⟨rfl, rfl⟩, h, hp, he, fun _ _ _ _ => rfl, fun z => absurd z (by omega)⟩
  · intro y μ1 h1 h2 ⟨f', i1, i2, i3, i4, i5, i6⟩ hk
    have y0 := i3.1
    have e22 : μ1 8 0 22 = L := (i5 8 0 22 (by omega)).trans hM.1
    have e55 : μ1 55 0 y = T y := (i5 55 0 y (by omega)).trans (hM.2 y (by omega) h2)
    by_cases c : T y = 32
    · have st : ob_E (226, 0, [(11, 0)], [], (μ1, none)) = ob_E (226, 0, [(11, 0)], [], (ob_set μ1 8 0 23 (y + 1), none)) := by
        rw [sg_X8_here_0]
        simp (disch := first | omega | assumption) only [↓if_pos, ↓if_neg, Option.bind_some, ob_wr_id, i4, e22, e55]
      rw [st]
      obtain ⟨q1, q2⟩ := sp_blank hB hx i3 i2 h2 c
      refine hk (ob_set μ1 8 0 23 (y + 1)) ⟨0, Or.inr rfl, q1, q2, rs_e rfl rfl, fun k i x z => ?_, fun _ => ?_⟩
      · by_cases w : k = 8
        · rw [rs_s (by omega)]
          exact i5 k i x z
        · rw [rs_k w]
          exact i5 k i x z
      · by_cases e : y = a
        · rw [← e]
          exact c
        · exact i6 (by omega)
    · have st : ob_E (226, 0, [(11, 0)], [], (μ1, none)) = some (T y, (μ1, none)) := by
        rw [sg_X8_here_0]
        simp (disch := first | omega | assumption) only [↓if_pos, ↓if_neg, Option.bind_some, ob_wr_id, i4, e22, e55, sg_X8_here_38]
      rw [st]
      refine wp_ret ⟨y, f', h1, i1, i2, i3, i4, i5, Or.inr ⟨h2, rfl, c⟩, fun z w => ?_⟩
      by_cases e : y = a
      · exact e
      · exact absurd (i6 (by omega)) w
  · intro μ1 ⟨f', i1, i2, i3, i4, i5, i6⟩
    have e22 : μ1 8 0 22 = L := (i5 8 0 22 (by omega)).trans hM.1
    have st : ob_E (226, 0, [(11, 0)], [], (μ1, none)) = some (-1, (μ1, none)) := by
      rw [sg_X8_here_0]
      simp (disch := first | omega | assumption) only [↓if_pos, ↓if_neg, Option.bind_some, ob_wr_id, i4, e22, sg_X8_here_38]
    rw [st]
    refine wp_ret ⟨L, f', hp.1.2, i1, i2, i3, i4, i5, Or.inl ⟨rfl, rfl⟩, fun z w => ?_⟩
    exact absurd (i6 (by omega)) w
theorem frs_h {T : Int → Int} {L a b f f' : Int} (h : frs T L a f) (h' : b = a ∧ f' = f ∨ f' = 0) : frs T L b f' := by
  rcases h' with ⟨rfl, rfl⟩ | rfl
  · exact h
  · exact Or.inl rfl
theorem md_isFig {T : Int → Int} {L a : Int} {μ : ob_Mem} (hB : TB T L) (hM : MT T L μ) (ha : 0 ≤ a) : ob_E (227, 0, [(11, 0), (1, a)], [], (μ, none)) = some (if a < L ∧ 48 ≤ T a ∧ T a ≤ 57 then 1 else 0, (μ, none)) := by
  have b1 := hB.1
  have e22 := hM.1
  by_cases c : a < L
  · have e := hM.2 a ha c
    by_cases d : 48 ≤ T a ∧ T a ≤ 57
    · simp (disch := first | omega | assumption) only [↓if_pos, ↓if_neg, Option.bind_some, ob_wr_id, sg_X8_isFigure_0, e22, e, md_in, sg_X8_isFigure_24]
    · simp (disch := first | omega | assumption) only [↓if_pos, ↓if_neg, Option.bind_some, ob_wr_id, sg_X8_isFigure_0, e22, e, md_in, sg_X8_isFigure_24]
  · simp (disch := first | omega | assumption) only [↓if_pos, ↓if_neg, Option.bind_some, ob_wr_id, sg_X8_isFigure_0, e22]
def GT (U : Int) (g g' : ob_Mem) : Prop := ∀ k i x, ¬ (k = 6 ∧ (x = 9 ∨ x = 6)) → ¬ (k = 38 ∧ U ≤ x) → g' k i x = g k i x
theorem GT_F {U : Int} {g g' : ob_Mem} (h : GT U g g') : FG g g' := ⟨fun k i x a b c d => h k i x (by omega) (by omega), h 6 0 0 (by omega) (by omega)⟩
/-- what is known when numbers were taken -/
def TK (T : Int → Int) (L U n : Int) (R : ob_Res) (g μ : ob_Mem) (i b f : Int) (g' : ob_Mem) : Prop := XP b f g' R ∧ PZ L b f g' ∧ frs T L b f ∧ μ 8 0 23 = b ∧ g' 6 0 9 = n - i ∧ g' 6 0 6 = U + i ∧ (∀ j, 0 ≤ j → j < i → g' 38 0 (U + j) = μ 56 0 j) ∧ GT U g g'
theorem md_takes {T : Int → Int} {L a f n : Int} {g μ : ob_Mem} {R : ob_Res} (hn : 1 ≤ n ∧ n ≤ 3) (hB : TB T L) (hx : TX T L g) (hM : MT T L μ) (hp : PZ L a f g) (h : XP a f g R) (he : μ 8 0 23 = a) (ho : g 6 0 7 ≠ 0) (hw : g 6 0 9 = n) (hf : frs T L a f) : wp (ob_E (228, 0, [(11, 0), (1, n), (0, 0), (0, 0), (0, 0)], [], (μ, none))) (fun v μ' => FH μ μ' ∧ ((v = 0 ∧ 0 ≤ μ' 8 0 23 ∧ ∃ g', R = some (μ' 8 0 23, (g', none))) ∨ (v = 1 ∧ ∃ b f' g', TK T L (g 6 0 6) n R g μ' n b f' g'))) := by
  obtain ⟨b1, b2⟩ := id hB
  generalize hU : g 6 0 6 = U
  rw [sg_X8_takes_0]
  refine wp_for (fun i (y : ob_Mem × ob_AV × ob_AV) => ob_E (228, 2, [(11, 0), (1, n), (1, i), y.2.1, y.2.2], [], (y.1, none))) 0 n (fun i y => FH μ y.1 ∧ ∃ b f' g', TK T L U n R g y.1 i b f' g') ?_ ?_ (by omega) (x := (μ, (0, 0), (0, 0))) ⟨FH_r, a, f, g, h, hp, hf, he, by omega, by omega, fun j z w => absurd z (by omega), fun _ _ _ _ _ => rfl⟩
  · intro i ⟨μ1, y1, y2⟩ h1 h2 ⟨F1, a1, f1, g1, t1, t2, t3, t4, t5, t6, t7, t8⟩ hk
    have F1 : FH μ μ1 := F1
    have t4 : μ1 8 0 23 = a1 := t4
    have t7 : ∀ j, 0 ≤ j → j < i → g1 38 0 (U + j) = μ1 56 0 j := t7
    have hx1 := TX_F hx (GT_F t8)
    have o1 : g1 6 0 7 ≠ 0 := by
      rw [t8 6 0 7 (by omega) (by omega)]
      exact ho
    show wp (ob_E (228, 2, [(11, 0), (1, n), (1, i), y1, y2], [], (μ1, none))) _
    rw [sg_X8_takes_2, if_pos h2]
    refine wp_b (md_here hB hx1 (MT_F hM F1) t2 t1 t4) (fun v μ2 h2' => ?_)
    obtain ⟨b, f2, r1, r2, r3, r4, r5, r6, r7, -⟩ := h2'
    have fr := frs_h t3 r2
    have b0 := r4.1
    have e7 : ∀ k x, k ≠ 8 → μ2 k 0 x = μ1 k 0 x := fun k x z => r6 k 0 x (by omega)
    generalize hm3 : ob_set μ2 56 0 i 0 = μ3
    have e3 : ∀ k i' x, k ≠ 56 → μ3 k i' x = μ2 k i' x := fun k i' x z => by
      rw [← hm3]
      exact rs_k z
    have p3 : μ3 8 0 23 = b := by rw [e3 8 0 23 (by omega), r5]
    have v3 : μ3 56 0 i = 0 := by
      rw [← hm3]
      exact rs_e rfl rfl
    have F3 : FH μ μ3 := FH_t F1 (fun k i' x z w => by rw [e3 k i' x w, r6 k i' x z])
    have w3 : ∀ j, 0 ≤ j → j < i → g1 38 0 (U + j) = μ3 56 0 j := fun j z w => by
      rw [t7 j z w, ← hm3, rs_s (by omega), e7 56 j (by omega)]
    have M3 : MT T L μ3 := MT_F hM F3
    rw [sg_X8_takes_11, if_pos (by omega), hm3, r5]
    have isf := fun {μ' : ob_Mem} (hM' : MT T L μ') (y : Int) (hy : 0 ≤ y) => md_isFig hB hM' hy
    rcases r7 with ⟨l1, l2⟩ | ⟨l1, l2, l3⟩
    · have st : ob_E (228, 25, [(11, 0), (1, n), (1, i), (1, v), (1, b)], [], (μ3, none)) = some (0, (μ3, none)) := by
        have := isf M3 b (by omega)
        simp (disch := first | omega | assumption) only [↓if_pos, ↓if_neg, Option.bind_some, ob_wr_id, sg_X8_takes_25, this, sg_X8_takes_31, sg_X8_takes_77]
      rw [st]
      subst l1
      have rr := sp_end hx1 r3
      rw [if_neg (fun z => o1 z.1)] at rr
      exact wp_ret ⟨F3, Or.inl ⟨rfl, by omega, g1, by rw [p3]; exact rr⟩⟩
    · have tb := b2 b (by omega) l1
      by_cases c : fig (T b)
      · have f0 : f2 = 0 := by
          rcases fr with z | z | z
          · exact z
          · omega
          · exact absurd c z
        subst f0
        obtain ⟨g2, q1, q2, q3, q4, q5, q6⟩ := sp_new hB hx1 r4 r3 l1 c o1 (by omega)
        have hx2 : TX T L g2 := TX_F hx1 ⟨fun k i x a b c d => q6 k i x (by omega) (by omega), q6 6 0 0 (by omega) (by omega)⟩
        have c' := c
        unfold fig at c'
        have G2 : GT U g g2 := fun k i x z w => by
          rw [q6 k i x z (by omega), t8 k i x z w]
        generalize hm4 : ob_set μ3 56 0 i (T b - 48) = μ4
        have e4 : ∀ k i' x, k ≠ 56 → μ4 k i' x = μ3 k i' x := fun k i' x z => by
          rw [← hm4]
          exact rs_k z
        have F4 : FH μ μ4 := FH_t F3 (fun k i' x z w => e4 k i' x w)
        have M4 : MT T L μ4 := MT_F hM F4
        have v4 : μ4 56 0 i = T b - 48 := by
          rw [← hm4]
          exact rs_e rfl rfl
        have p4 : μ4 8 0 23 = b := by rw [e4 8 0 23 (by omega), p3]
        have w4 : ∀ j, 0 ≤ j → j < i → g1 38 0 (U + j) = μ4 56 0 j := fun j z w => by
          rw [w3 j z w, ← hm4, rs_s (by omega)]
        have e55 : μ3 55 0 b = T b := M3.2 b (by omega) l1
        have st1 : ob_E (228, 25, [(11, 0), (1, n), (1, i), (1, v), (1, b)], [], (μ3, none)) = ob_E (228, 25, [(11, 0), (1, n), (1, i), (1, v), (1, b + 1)], [], (μ4, none)) := by
          have := isf M3 b (by omega)
          rw [sg_X8_takes_25]
          simp (disch := first | omega | assumption) only [↓if_pos, ↓if_neg, Option.bind_some, ob_wr_id, this, sg_X8_takes_31, p3, e55, v3, show (10 : Int) * 0 = 0 by omega, Int.zero_add]
          rw [hm4]
        rw [st1]
        -- the number ends behind d figures
        have stop : ∀ (d : Int) (μ5 : ob_Mem), 1 ≤ d → d ≤ 2 → MT T L μ5 → μ5 8 0 23 = b → ¬ (b + d < L ∧ fig (T (b + d))) → ob_E (228, 25, [(11, 0), (1, n), (1, i), (1, v), (1, b + d)], [], (μ5, none)) = ob_E (228, 2, [(11, 0), (1, n), (1, i + 1), (1, v), (1, b + d)], [], (ob_set μ5 8 0 23 (b + d), none)) := by
          intro d μ5 d1 d2 m5 p5 nf
          unfold fig at nf
          have := isf m5 (b + d) (by omega)
          rw [sg_X8_takes_25]
          simp (disch := first | omega | assumption) only [↓if_pos, ↓if_neg, Option.bind_some, ob_wr_id, this, sg_X8_takes_31, sg_X8_takes_77, p5, md_in, show b + d - b = d by omega, sg_X8_takes_97]
        have done : ∀ (d : Int) (μ5 g5 : ob_Mem), 1 ≤ d → d ≤ 2 → FH μ μ5 → ¬ (b + d < L ∧ fig (T (b + d))) → XP (b + d) d g5 R → PZ L (b + d) d g5 → μ5 8 0 23 = b → g5 6 0 9 = n - (i + 1) → g5 6 0 6 = U + (i + 1) → (∀ j, 0 ≤ j → j < i + 1 → g5 38 0 (U + j) = μ5 56 0 j) → GT U g g5 → wp (ob_E (228, 25, [(11, 0), (1, n), (1, i), (1, v), (1, b + d)], [], (μ5, none))) (fun v μ' => FH μ μ' ∧ ((v = 0 ∧ 0 ≤ μ' 8 0 23 ∧ ∃ g', R = some (μ' 8 0 23, (g', none))) ∨ (v = 1 ∧ ∃ b f' g', TK T L U n R g μ' n b f' g'))) := by
          intro d μ5 g5 d1 d2 F5 nf x1 x2 p5 x3 x4 x5 x6
          rw [stop d μ5 d1 d2 (MT_F hM F5) p5 nf]
          refine hk (ob_set μ5 8 0 23 (b + d), (1, v), (1, b + d)) ⟨FH_t F5 (fun k i' x z w => ?_), b + d, d, g5, x1, x2, ?_, show ob_set μ5 8 0 23 (b + d) 8 0 23 = b + d from rs_e rfl rfl, x3, x4, fun j z w => ?_, x6⟩
          · show ob_set μ5 8 0 23 (b + d) k i' x = _
            by_cases y : k = 8
            · exact rs_s (by omega)
            · exact rs_k y
          · by_cases y : b + d < L
            · exact Or.inr (Or.inr (fun z => nf ⟨y, z⟩))
            · have := x2.1
              exact Or.inr (Or.inl (by omega))
          · show _ = ob_set μ5 8 0 23 (b + d) 56 0 j
            rw [x5 j z w, rs_k (by omega)]
        have w4' : ∀ j, 0 ≤ j → j < i + 1 → g2 38 0 (U + j) = μ4 56 0 j := fun j z w => by
          by_cases e : j = i
          · rw [e, v4, ← q5, t6]
          · rw [← w4 j z (by omega)]
            exact q6 38 0 _ (by omega) (by omega)
        by_cases c2 : b + 1 < L ∧ fig (T (b + 1))
        · obtain ⟨g3, s1, s2, s5, s6⟩ := sp_more hB hx2 q2 q1 c2.1 c2.2
          have hx3 : TX T L g3 := TX_F hx2 ⟨fun k i x a b c d => s6 k i x (by omega), s6 6 0 0 (by omega)⟩
          have u2 : g2 6 0 6 - 1 = U + i := by omega
          rw [u2] at s5 s6
          have c2' := c2.2
          unfold fig at c2'
          generalize hm5 : ob_set μ4 56 0 i (10 * (T b - 48) + (T (b + 1) - 48)) = μ5
          have e5 : ∀ k i' x, k ≠ 56 → μ5 k i' x = μ4 k i' x := fun k i' x z => by
            rw [← hm5]
            exact rs_k z
          have F5 : FH μ μ5 := FH_t F4 (fun k i' x z w => e5 k i' x w)
          have M5 : MT T L μ5 := MT_F hM F5
          have p5 : μ5 8 0 23 = b := by rw [e5 8 0 23 (by omega), p4]
          have v5 : μ5 56 0 i = 10 * (T b - 48) + (T (b + 1) - 48) := by
            rw [← hm5]
            exact rs_e rfl rfl
          have e55' : μ4 55 0 (b + 1) = T (b + 1) := M4.2 (b + 1) (by omega) c2.1
          have st2 : ob_E (228, 25, [(11, 0), (1, n), (1, i), (1, v), (1, b + 1)], [], (μ4, none)) = ob_E (228, 25, [(11, 0), (1, n), (1, i), (1, v), (1, b + 2)], [], (μ5, none)) := by
            have := isf M4 (b + 1) (by omega)
            rw [sg_X8_takes_25]
            simp (disch := first | omega | assumption) only [↓if_pos, ↓if_neg, Option.bind_some, ob_wr_id, this, sg_X8_takes_31, p4, e55', v4, show b + 1 + 1 = b + 2 by omega, show 10 * (T b - 48) + T (b + 1) - 48 = 10 * (T b - 48) + (T (b + 1) - 48) by omega]
            rw [hm5]
          rw [st2]
          rw [show b + 1 + 1 = b + 2 by omega] at s1 s2
          have q5' : g2 38 0 (U + i) = T b - 48 := by rw [← t6, q5]
          by_cases c3 : b + 2 < L ∧ fig (T (b + 2))
          · have rr := sp_third hB hx3 s2 s1 c3.1 c3.2
            have c3' := c3.2
            unfold fig at c3'
            have e55'' : μ5 55 0 (b + 2) = T (b + 2) := M5.2 (b + 2) (by omega) c3.1
            have st3 : ∃ μ6, ob_E (228, 25, [(11, 0), (1, n), (1, i), (1, v), (1, b + 2)], [], (μ5, none)) = some (0, (μ6, none)) ∧ FH μ μ6 ∧ μ6 8 0 23 = b := by
              generalize hm6 : ob_set μ5 56 0 i (ob_wr (ob_wr (ob_wr (10 * (10 * (T b - 48) + (T (b + 1) - 48))) + T (b + 2)) - 48)) = μ6
              have e6 : ∀ k i' x, k ≠ 56 → μ6 k i' x = μ5 k i' x := fun k i' x z => by
                rw [← hm6]
                exact rs_k z
              have F6 : FH μ μ6 := FH_t F5 (fun k i' x z w => e6 k i' x w)
              have M6 : MT T L μ6 := MT_F hM F6
              have p6 : μ6 8 0 23 = b := by rw [e6 8 0 23 (by omega), p5]
              refine ⟨μ6, ?_, F6, p6⟩
              have s25 : ob_E (228, 25, [(11, 0), (1, n), (1, i), (1, v), (1, b + 2)], [], (μ5, none)) = ob_E (228, 25, [(11, 0), (1, n), (1, i), (1, v), (1, b + 3)], [], (μ6, none)) := by
                have := isf M5 (b + 2) (by omega)
                rw [sg_X8_takes_25, this, if_pos (by omega)]
                show ob_E (228, 31, [(11, 0), (1, n), (1, i), (1, v), (1, b + 2)], [(1, 1)], (μ5, none)) = _
                rw [sg_X8_takes_31, p5, e55'', v5, hm6]
                simp (disch := first | omega | assumption) only [↓if_pos, ↓if_neg, Option.bind_some, ob_wr_id, show b + 2 + 1 = b + 3 by omega]
              have s77 : ob_E (228, 77, [(11, 0), (1, n), (1, i), (1, v), (1, b + 3)], [], (μ6, none)) = some (0, (μ6, none)) := by
                simp (disch := first | omega | assumption) only [↓if_pos, ↓if_neg, Option.bind_some, ob_wr_id, sg_X8_takes_77, p6, md_in, sg_X8_takes_97]
              rw [s25, sg_X8_takes_25, isf M6 (b + 3) (by omega)]
              show ob_E (228, 31, [(11, 0), (1, n), (1, i), (1, v), (1, b + 3)], [(1, if b + 3 < L ∧ 48 ≤ T (b + 3) ∧ T (b + 3) ≤ 57 then 1 else 0)], (μ6, none)) = _
              rw [sg_X8_takes_31, s77, p6, if_neg (show ¬ ob_wr (b + 3 - b) < 3 by rw [ob_wr_id (by omega) (by omega)]; omega), ite_self]
            obtain ⟨μ6, z1, z2, z3⟩ := st3
            rw [z1]
            exact wp_ret ⟨z2, Or.inl ⟨rfl, by omega, g3, by rw [z3, rr, show b + 2 - 2 = b by omega]⟩⟩
          · refine done 2 μ5 g3 (by omega) (by omega) F5 c3 s1 s2 p5 ?_ ?_ (fun j z w => ?_) (fun k i' x z w => ?_)
            · rw [s6 6 0 9 (by omega), q3]
              omega
            · rw [s6 6 0 6 (by omega), q4]
              omega
            · by_cases e : j = i
              · rw [e, v5, s5, q5']
              · rw [s6 38 0 _ (by omega), w4' j z w, ← hm5, rs_s e]
            · rw [s6 k i' x (by omega), G2 k i' x z w]
        · exact done 1 μ4 g2 (by omega) (by omega) F4 c2 q1 q2 p4 (by omega) (by omega) w4' G2
      · have c' := c
        unfold fig at c'
        have st : ob_E (228, 25, [(11, 0), (1, n), (1, i), (1, v), (1, b)], [], (μ3, none)) = some (0, (μ3, none)) := by
          have := isf M3 b (by omega)
          simp (disch := first | omega | assumption) only [↓if_pos, ↓if_neg, Option.bind_some, ob_wr_id, sg_X8_takes_25, this, sg_X8_takes_31, sg_X8_takes_77, p3, md_in, sg_X8_takes_97]
        rw [st]
        have rr := (sp_mark hB hx1 r4 r3 l1 c l3 (Or.inl rfl) (tm_want o1 (by omega))).2 rfl
        exact wp_ret ⟨F3, Or.inl ⟨rfl, by omega, g1, by rw [p3]; exact rr⟩⟩
  · intro ⟨μ1, y1, y2⟩ ⟨F1, a1, f1, g1, t⟩
    show wp (ob_E (228, 2, [(11, 0), (1, n), (1, n), y1, y2], [], (μ1, none))) _
    rw [sg_X8_takes_2]
    simp (disch := first | omega | assumption) only [↓if_pos, ↓if_neg, Option.bind_some, ob_wr_id]
    exact wp_ret ⟨F1, Or.inr ⟨rfl, a1, f1, g1, t⟩⟩
