-- WHAT IS IN THE WAY: gaps and neighbours, in the class and in the model
theorem dist_rnd {R a b d : Int} (ha : 0 ≤ a ∧ a < R) (hb : 0 ≤ b ∧ b < R) (hd : 0 ≤ d ∧ d < R) : dist R (rnd R (a + d)) (rnd R (b + d)) = dist R a b := by
  unfold dist rnd
  by_cases c1 : R ≤ a + d <;> by_cases c2 : R ≤ b + d <;> by_cases c3 : a ≤ b <;> simp (disch := first | omega | assumption) only [↓if_pos, ↓if_neg, Option.bind_some, ob_wr_id] <;> omega
theorem rnd_rnd {R a d : Int} (ha : 0 ≤ a ∧ a < R) (hd : 0 ≤ d ∧ d < R) : rnd R (rnd R (a + 0) + d) = rnd R (a + d) := by
  have e : rnd R (a + 0) = a := by
    unfold rnd
    rw [if_neg (by omega)]
    omega
  rw [e]
theorem bg_0 {s : Int → Int} {t i d : Int} (h : NV s t i) (hd0 : 0 ≤ d ∧ d < s 0) : rnd (s 0) (bg s t i 0 + d) = bg s t i d := by
  obtain ⟨h3, h4, h5, h6, h7, h8⟩ := h
  have e1 := ang_nn (R := s 0) (s := s (12 + 116 * t + (3 + 3 * i + 1))) (L := s (12 + 116 * t + 0)) (w := s 3) (by omega) (by omega) (by omega)
  have e2 := ang_lt (R := s 0) (s := s (12 + 116 * t + (3 + 3 * i + 1))) (L := s (12 + 116 * t + 0)) (w := s 3) (by omega) (by omega) (by omega)
  exact rnd_rnd ⟨e1, e2⟩ hd0
theorem bg_00 {s : Int → Int} {t i d : Int} (h : NV s t i) (hd0 : 0 ≤ d ∧ d < s 0) : rnd (s 0) (bg s t i d + 0) = bg s t i d := by
  have := bg_b h hd0.1 hd0.2
  show (if _ then _ else _) = _
  rw [if_neg (by omega)]
  omega
theorem bg_dist {s : Int → Int} {t i i' d : Int} (h : NV s t i) (h' : NV s t i') (hd0 : 0 ≤ d ∧ d < s 0) : dist (s 0) (bg s t i d) (bg s t i' d) = dist (s 0) (bg s t i 0) (bg s t i' 0) := by
  obtain ⟨h3, h4, h5, h6, h7, h8⟩ := h
  obtain ⟨g3, g4, g5, g6, g7, g8⟩ := h'
  have e1 := ang_nn (R := s 0) (s := s (12 + 116 * t + (3 + 3 * i + 1))) (L := s (12 + 116 * t + 0)) (w := s 3) (by omega) (by omega) (by omega)
  have e2 := ang_lt (R := s 0) (s := s (12 + 116 * t + (3 + 3 * i + 1))) (L := s (12 + 116 * t + 0)) (w := s 3) (by omega) (by omega) (by omega)
  have e3 := ang_nn (R := s 0) (s := s (12 + 116 * t + (3 + 3 * i' + 1))) (L := s (12 + 116 * t + 0)) (w := s 3) (by omega) (by omega) (by omega)
  have e4 := ang_lt (R := s 0) (s := s (12 + 116 * t + (3 + 3 * i' + 1))) (L := s (12 + 116 * t + 0)) (w := s 3) (by omega) (by omega) (by omega)
  unfold bg
  rw [dist_rnd ⟨e1, e2⟩ ⟨e3, e4⟩ hd0, dist_rnd ⟨e1, e2⟩ ⟨e3, e4⟩ (by omega)]
theorem frb_s {R i j : Int} {key bf : Int → Int} (h : 0 ≤ j) : frb R key bf i (j + 1).toNat = if j ≠ i ∧ key j = key i then min (frb R key bf i j.toNat) (dist R (bf i) (bf j)) else frb R key bf i j.toNat := by
  rw [show (j + 1).toNat = j.toNat + 1 by omega]
  show (if ((j.toNat : Nat) : Int) ≠ i ∧ key (j.toNat : Nat) = key i then _ else _) = _
  rw [show ((j.toNat : Nat) : Int) = j by omega]
theorem frb_c {R i : Int} {key bf key' bf' : Int → Int} : ∀ n : Nat, (∀ j : Int, 0 ≤ j → j < (n : Int) → (key j = key i ↔ key' j = key' i) ∧ (j ≠ i → key j = key i → dist R (bf i) (bf j) = dist R (bf' i) (bf' j))) → frb R key bf i n = frb R key' bf' i n
  | 0, _ => rfl
  | n + 1, h => by
    have q := frb_c n (fun j h1 h2 => h j h1 (by omega))
    obtain ⟨h1, h2⟩ := h n (by omega) (by omega)
    show (if (n : Int) ≠ i ∧ key n = key i then min (frb R key bf i n) _ else frb R key bf i n) = (if (n : Int) ≠ i ∧ key' n = key' i then min (frb R key' bf' i n) _ else frb R key' bf' i n)
    rw [q]
    by_cases c : (n : Int) ≠ i ∧ key n = key i
    · rw [if_pos c, if_pos ⟨c.1, h1.mp c.2⟩, h2 c.1 c.2]
    · rw [if_neg c, if_neg (fun z => c ⟨z.1, h1.mpr z.2⟩)]
theorem cl_freeBehind {m : ob_Mem} {p i R : Int} {q : Int → Int} (h : rQ m p q) (hR : 6 ≤ R ∧ R ≤ 24) (hn : q 43 ≤ 12) (hi : 0 ≤ i ∧ i < q 43) (hb : ∀ j, 0 ≤ j → j < q 43 → 0 ≤ q (44 + 4 * j + 1) ∧ q (44 + 4 * j + 1) < R) (hh : 0 ≤ q (44 + 4 * i + 2) ∧ q (44 + 4 * i + 2) ≤ 24) : ob_E (67, 0, [(8, p), (1, i), (1, R), (0, 0), (0, 0)], [], (m, none)) = some (frb R (fun j => q (44 + 4 * j + 0)) (fun j => q (44 + 4 * j + 1)) i (q 43).toNat - q (44 + 4 * i + 2), (m, none)) := by
  have eN := rqN h
  have eki := rqk h i hi.1 hi.2
  have ebi := rqb h i hi.1 hi.2
  have ehi := rqh h i hi.1 hi.2
  have hbi := hb i hi.1 hi.2
  have hf := frb_b (R := R) (key := fun j => q (44 + 4 * j + 0)) (bf := fun j => q (44 + 4 * j + 1)) (i := i) (by omega) hbi
  rw [sg_X5_freeBehind_0]
  refine wp_eq (wp_for (α := Unit) (fun y _ => ob_E (67, 5, [(8, p), (1, i), (1, R), (1, frb R (fun j => q (44 + 4 * j + 0)) (fun j => q (44 + 4 * j + 1)) i y.toNat), (1, y)], [], (m, none))) 0 (q 43) (fun _ _ => True) ?_ ?_ (by omega) (x := ()) trivial)
  · intro y _ h1 h2 _ hk
    have hk := hk () trivial
    have ek := rqk h y h1 h2
    have eb := rqb h y h1 h2
    have hby := hb y h1 h2
    rw [frb_s h1] at hk
    rw [sg_X5_freeBehind_5]
    by_cases c1 : y = i
    · rw [if_neg (fun z => z.1 c1)] at hk
      simp (disch := first | omega | assumption) only [↓if_pos, ↓if_neg, Option.bind_some, ob_wr_id, sg_X5_freeBehind_0, sg_X5_freeBehind_63, sg_X5_freeBehind_67, eN]
      exact hk
    · by_cases c2 : q (44 + 4 * y + 0) = q (44 + 4 * i + 0)
      · rw [if_pos ⟨c1, c2⟩] at hk
        simp (disch := first | omega | assumption) only [↓if_pos, ↓if_neg, Option.bind_some, ob_wr_id, sg_X5_freeBehind_0, sg_X5_freeBehind_63, sg_X5_freeBehind_67, eN, ek, eki, ebi, eb, cl_distance]
        exact hk
      · rw [if_neg (fun z => c2 z.2)] at hk
        simp (disch := first | omega | assumption) only [↓if_pos, ↓if_neg, Option.bind_some, ob_wr_id, sg_X5_freeBehind_0, sg_X5_freeBehind_63, sg_X5_freeBehind_67, eN, ek, eki]
        exact hk
  · intro _ _
    have hf' := hf (q 43).toNat (fun j hj => hb j (by omega) (by omega))
    rw [sg_X5_freeBehind_5]
    simp (disch := first | omega | assumption) only [↓if_pos, ↓if_neg, Option.bind_some, ob_wr_id, eN, ehi]
    exact wp_ret ⟨rfl, rfl⟩
/-- a tune is laid in the plan, by a shift -/
def PL (m : ob_Mem) (s : Int → Int) (t d : Int) : Prop := m 5 (21 + t) 0 = 1 ∧ rQ m (21 + t) (pic s t d)
theorem VV_NV {W : Int} {s : Int → Int} (hV : VV W s) {t i : Int} (ht : 0 ≤ t ∧ t < 3) (hi : 0 ≤ i ∧ i < s (12 + 116 * t + 2)) : NV s t i := ((VV_SV hV).2.2.2.2.2.2.1 t ht.1 ht.2).2.2.2 i hi.1 hi.2
theorem cl_freePlan {W : Int} {m : ob_Mem} {t d i : Int} {s : Int → Int} (hV : VV W s) (hP : PL m s t d) (ht : 0 ≤ t ∧ t < 3) (hd0 : 0 ≤ d ∧ d < s 0) (hi : 0 ≤ i ∧ i < s (12 + 116 * t + 2)) : ob_E (67, 0, [(8, 21 + t), (1, i), (1, s 0), (0, 0), (0, 0)], [], (m, none)) = some (fre s t i, (m, none)) := by
  obtain ⟨⟨v1, -⟩, v8⟩ := id hV
  obtain ⟨⟨-, -, w3, -⟩, -⟩ := v8 t ht.1 ht.2
  have hv : ∀ j, 0 ≤ j → j < s (12 + 116 * t + 2) → NV s t j := fun j a b => VV_NV hV ht ⟨a, b⟩
  have hh := hd_b (hv i hi.1 hi.2)
  have hp43 : pic s t d 43 = s (12 + 116 * t + 2) := rfl
  rw [cl_freeBehind hP.2 v1 (by omega) (by omega) (fun j a b => ?_) (by rw [pic_h (by omega)]; omega)]
  · rw [pic_h (by omega), hp43]
    unfold fre
    rw [frb_c (key' := fun j => s (12 + 116 * t + (3 + 3 * j))) (bf' := fun j => bg s t j 0) (s (12 + 116 * t + 2)).toNat (fun j a b => ?_)]
    show (pic s t d (44 + 4 * j + 0) = pic s t d (44 + 4 * i + 0) ↔ _) ∧ (_ → _ → dist _ (pic s t d (44 + 4 * i + 1)) (pic s t d (44 + 4 * j + 1)) = _)
    rw [pic_k (by omega), pic_k (by omega), pic_b (by omega), pic_b (by omega)]
    exact ⟨Iff.rfl, fun _ _ => bg_dist (hv i hi.1 hi.2) (hv j a (by omega)) hd0⟩
  · rw [pic_b (by omega)]
    exact bg_b (hv j a (by omega)) hd0.1 hd0.2
theorem cl_firstTooSoon {W : Int} {m : ob_Mem} {j t d : Int} {s : Int → Int} (hV : VV W s) (h : Rep m j s) (hP : PL m s t d) (ht : 0 ≤ t ∧ t < 3) (hd0 : 0 ≤ d ∧ d < s 0) : wp (ob_E (47, 0, [(7, 0), (3, j), (1, t), (0, 0), (0, 0)], [], (m, none))) (fun v m' => m' = m ∧ Fst (fun i => fre s t i < s (6 + s (12 + 116 * t + (3 + 3 * i)))) (s (12 + 116 * t + 2)) v) := by
  obtain ⟨⟨v1, v2, -⟩, v8⟩ := id hV
  obtain ⟨⟨-, -, w3, -, w5⟩, -⟩ := v8 t ht.1 ht.2
  have eR := rpR h
  have eN : m 3 (2 * (21 + t) + 1) 2 = s (12 + 116 * t + 2) := rqN hP.2
  rw [sg_X4_firstTooSoon_0, if_pos ht]
  refine wp_for (α := Unit) (fun y _ => ob_E (47, 10, [(7, 0), (3, j), (1, t), (8, 21 + t), (1, y)], [], (m, none))) 0 (s (12 + 116 * t + 2)) (fun y _ => ∀ i, 0 ≤ i → i < y → ¬ (fre s t i < s (6 + s (12 + 116 * t + (3 + 3 * i))))) ?_ ?_ (by omega) (x := ()) (fun i a b => absurd a (by omega))
  · intro y _ h1 h2 hI hk
    obtain ⟨n1, n2⟩ := w5 y h1 h2
    have ek : m 26 (2 * (21 + t) + 1) y = s (12 + 116 * t + (3 + 3 * y)) := (rqk hP.2 y h1 h2).trans (pic_k (by omega))
    have eg := rpG h (s (12 + 116 * t + (3 + 3 * y))) (by omega) (by omega)
    rw [sg_X4_firstTooSoon_10, eR, eN, if_pos h2, cl_freePlan hV hP ht hd0 ⟨h1, h2⟩]
    by_cases c : fre s t y < s (6 + s (12 + 116 * t + (3 + 3 * y)))
    · simp (disch := first | omega | assumption) only [↓if_pos, ↓if_neg, Option.bind_some, ob_wr_id, sg_X4_firstTooSoon_32, ek, eg]
      exact wp_ret ⟨rfl, Or.inl ⟨h1, h2, c, hI⟩⟩
    · simp (disch := first | omega | assumption) only [↓if_pos, ↓if_neg, Option.bind_some, ob_wr_id, sg_X4_firstTooSoon_32, ek, eg]
      exact hk () (fun i a b => by
        by_cases e : i = y
        · rw [e]
          exact c
        · exact hI i a (by omega))
  · intro _ hI
    rw [sg_X4_firstTooSoon_10, eN, if_neg (by omega)]
    exact wp_ret ⟨rfl, Or.inr ⟨rfl, hI⟩⟩
def tel (m : ob_Mem) (a b c : Int) : ob_Mem := ob_set (ob_set (ob_set (ob_set m 2 0 1 a) 2 0 2 b) 2 0 3 c) 2 0 0 (-1)
theorem cl_tell (m : ob_Mem) (a b c : Int) : ob_E (35, 0, [(5, 0), (1, a), (1, b), (1, c)], [], (m, none)) = some (0, (tel m a b c, none)) := by
  rw [sg_X2_tell_0]
  rfl
theorem cl_isTooSoon {W : Int} {m : ob_Mem} {j t d : Int} {s : Int → Int} (hV : VV W s) (h : Rep m j s) (hP : PL m s t d) (ht : 0 ≤ t ∧ t < 3) (hd0 : 0 ≤ d ∧ d < s 0) : wp (ob_E (45, 0, [(7, 0), (3, j), (1, t), (5, 0), (0, 0)], [], (m, none))) (fun v m' => ∃ i, Fst (fun i => fre s t i < s (6 + s (12 + 116 * t + (3 + 3 * i)))) (s (12 + 116 * t + 2)) i ∧ (i = -1 ∧ v = 0 ∧ m' = m ∨ i ≠ -1 ∧ v = 1 ∧ m' = tel m 1 i (fre s t i))) := by
  have eR := rpR h
  rw [sg_X4_isTooSoon_0]
  refine wp_b (cl_firstTooSoon hV h hP ht hd0) (fun v m' hv => ?_)
  obtain ⟨rfl, hF⟩ := hv
  by_cases c : v = -1
  · simp (disch := first | omega | assumption) only [↓if_pos, ↓if_neg, Option.bind_some, ob_wr_id, sg_X4_isTooSoon_6]
    exact wp_ret ⟨v, hF, Or.inl ⟨c, rfl, rfl⟩⟩
  · have hb : 0 ≤ v ∧ v < s (12 + 116 * t + 2) := by
      rcases hF with ⟨a, b, -⟩ | ⟨a, -⟩
      · exact ⟨a, b⟩
      · exact absurd a c
    simp (disch := first | omega | assumption) only [↓if_pos, ↓if_neg, Option.bind_some, ob_wr_id, sg_X4_isTooSoon_6, sg_X4_isTooSoon_35, sg_X4_isTooSoon_38, eR, cl_freePlan hV hP ht hd0 hb, cl_tell]
    exact wp_ret ⟨v, hF, Or.inr ⟨c, rfl, rfl⟩⟩
/-- a pin that begins and holds so, on track x, is in the way of another -/
def sb (s : Int → Int) (x b h : Int) (u : Int) (q : Int → Int) (j : Int) : Bool := nrB x (s 2 * q (44 + 4 * j + 0) + u) && !beB (s 0) (s 4) b h (q (44 + 4 * j + 1)) (q (44 + 4 * j + 2))
theorem nrB_abs {x y : Int} (hx : 0 ≤ x ∧ x < 100) (hy : 0 ≤ y ∧ y < 100) : (ob_abs (x - y) = 1) ↔ nrB x y = true := by
  unfold ob_abs nrB
  rw [decide_eq_true_iff]
  by_cases c : x - y < 0
  · rw [if_pos c, ob_wr_id (by omega) (by omega)]
    omega
  · rw [if_neg c]
    omega
theorem cl_inTheWay {W : Int} {m : ob_Mem} {j t d i e u p : Int} {s q : Int → Int} (hV : VV W s) (h : Rep m j s) (hP : PL m s t d) (ht : 0 ≤ t ∧ t < 3) (hd0 : 0 ≤ d ∧ d < s 0) (hi : 0 ≤ i ∧ i < s (12 + 116 * t + 2)) (he : 0 ≤ e ∧ e < s 0) (hu : 0 ≤ u ∧ u < 3) (hQ : rQ m p q) (hq0 : 0 ≤ q 43 ∧ q 43 ≤ 12) (hq : ∀ y, 0 ≤ y → y < q 43 → (0 ≤ q (44 + 4 * y + 0) ∧ q (44 + 4 * y + 0) < 6) ∧ (0 ≤ q (44 + 4 * y + 1) ∧ q (44 + 4 * y + 1) < s 0) ∧ (1 ≤ q (44 + 4 * y + 2) ∧ q (44 + 4 * y + 2) ≤ s 0)) : wp (ob_E (49, 0, [(7, 0), (3, j), (1, t), (1, i), (1, e), (1, u), (8, p), (0, 0), (0, 0), (0, 0), (0, 0), (0, 0), (0, 0)], [], (m, none))) (fun v m' => m' = m ∧ Fst (fun y => sb s (s 2 * s (12 + 116 * t + (3 + 3 * i)) + t) (rnd (s 0) (bg s t i d + e)) (hd s t i) u q y = true) (q 43) v) := by
  obtain ⟨⟨v1, v2, v3, v4, v5, -⟩, v8⟩ := id hV
  obtain ⟨⟨-, -, w3, -, w5⟩, -⟩ := v8 t ht.1 ht.2
  obtain ⟨n1, n2⟩ := w5 i hi.1 hi.2
  have hN := VV_NV hV ht hi
  have hb := bg_b hN hd0.1 hd0.2
  have hh := hd_b hN
  have hr := rnd_b (R := s 0) (a := bg s t i d + e) (by omega) (by omega)
  have eR := rpR h
  have eT := rpT h
  have eD := rpD h
  have ek : m 26 (2 * (21 + t) + 1) i = s (12 + 116 * t + (3 + 3 * i)) := (rqk hP.2 i hi.1 hi.2).trans (pic_k (by omega))
  have eb : m 32 (21 + t) i = bg s t i d := (rqb hP.2 i hi.1 hi.2).trans (pic_b (by omega))
  have eh : m 33 (21 + t) i = hd s t i := (rqh hP.2 i hi.1 hi.2).trans (pic_h (by omega))
  have eN := rqN hQ
  have hx := ob_mulb (show 0 ≤ s 2 by omega) v3.2 n2.1 (show s (12 + 116 * t + (3 + 3 * i)) ≤ 6 by omega)
  rw [sg_X4_firstInTheWay_0]
  simp (disch := first | omega | assumption) only [↓if_pos, ↓if_neg, Option.bind_some, ob_wr_id, sg_X4_firstInTheWay_19, sg_X4_firstInTheWay_42, ek, eb, eh, eR, cl_track, cl_round, eT]
  refine wp_for (fun y (x : ob_AV × ob_AV) => ob_E (49, 60, [(7, 0), (3, j), (1, t), (1, i), (1, e), (1, u), (8, p), (1, s 2 * s (12 + 116 * t + (3 + 3 * i)) + t), (1, rnd (s 0) (bg s t i d + e)), (1, hd s t i), (1, y), x.1, x.2], [], (m, none))) 0 (q 43) (fun y _ => ∀ y', 0 ≤ y' → y' < y → ¬ (sb s (s 2 * s (12 + 116 * t + (3 + 3 * i)) + t) (rnd (s 0) (bg s t i d + e)) (hd s t i) u q y' = true)) ?_ ?_ hq0.1 (x := ((0, 0), (0, 0))) (fun i a b => absurd a (by omega))
  · intro y ⟨x1, x2⟩ h1 h2 hI hk
    obtain ⟨q1, q2, q3⟩ := hq y h1 h2
    have fk := rqk hQ y h1 h2
    have fb := rqb hQ y h1 h2
    have fh := rqh hQ y h1 h2
    have hx2 := ob_mulb (show 0 ≤ s 2 by omega) v3.2 q1.1 (show q (44 + 4 * y + 0) ≤ 6 by omega)
    have hnr := nrB_abs (x := s 2 * s (12 + 116 * t + (3 + 3 * i)) + t) (y := s 2 * q (44 + 4 * y + 0) + u) (by omega) (by omega)
    have hk' : ∀ z1 z2, ¬ (sb s (s 2 * s (12 + 116 * t + (3 + 3 * i)) + t) (rnd (s 0) (bg s t i d + e)) (hd s t i) u q y = true) → _ := fun z1 z2 hz => hk (z1, z2) (fun y' a b => by
      by_cases ee : y' = y
      · rw [ee]
        exact hz
      · exact hI y' a (by omega))
    have hcb := cl_canBe m (j := j) (a := rnd (s 0) (bg s t i d + e)) (h := hd s t i) (b := q (44 + 4 * y + 1)) (h2 := q (44 + 4 * y + 2)) (by omega) (by omega) (by omega) (by omega) (by omega) (by omega)
    rw [eR, eD] at hcb
    show wp (ob_E (49, 60, [(7, 0), (3, j), (1, t), (1, i), (1, e), (1, u), (8, p), (1, s 2 * s (12 + 116 * t + (3 + 3 * i)) + t), (1, rnd (s 0) (bg s t i d + e)), (1, hd s t i), (1, y), x1, x2], [], (m, none))) _
    rw [sg_X4_firstInTheWay_60]
    simp (disch := first | omega | assumption) only [↓if_pos, ↓if_neg, Option.bind_some, ob_wr_id, sg_X4_firstInTheWay_92, eN, fk, cl_track, eT]
    by_cases c1 : nrB (s 2 * s (12 + 116 * t + (3 + 3 * i)) + t) (s 2 * q (44 + 4 * y + 0) + u) = true
    · rw [if_pos (hnr.mpr c1)]
      simp (disch := first | omega | assumption) only [↓if_pos, ↓if_neg, Option.bind_some, ob_wr_id, sg_X4_firstInTheWay_105, sg_X4_firstInTheWay_124, fb, fh, eR, cl_distance, hcb]
      by_cases c2 : beB (s 0) (s 4) (rnd (s 0) (bg s t i d + e)) (hd s t i) (q (44 + 4 * y + 1)) (q (44 + 4 * y + 2)) = true
      · rw [if_pos c2]
        simp (disch := first | omega | assumption) only [↓if_pos, ↓if_neg, Option.bind_some, ob_wr_id, sg_X4_firstInTheWay_147, sg_X4_firstInTheWay_153]
        refine hk' _ _ ?_
        unfold sb
        rw [c1, c2]
        decide
      · rw [if_neg c2]
        simp (disch := first | omega | assumption) only [↓if_pos, ↓if_neg, Option.bind_some, ob_wr_id, sg_X4_firstInTheWay_147]
        refine wp_ret ⟨rfl, Or.inl ⟨h1, h2, ?_, hI⟩⟩
        show sb _ _ _ _ _ _ _ = true
        unfold sb
        rw [c1, Bool.eq_false_iff.mpr c2]
        rfl
    · rw [if_neg (fun z => c1 (hnr.mp z))]
      simp (disch := first | omega | assumption) only [↓if_pos, ↓if_neg, Option.bind_some, ob_wr_id, sg_X4_firstInTheWay_105, sg_X4_firstInTheWay_124, sg_X4_firstInTheWay_153, fb, eR, cl_distance]
      refine hk' _ _ ?_
      unfold sb
      rw [Bool.eq_false_iff.mpr c1]
      exact Bool.false_ne_true
  · intro ⟨x1, x2⟩ hI
    show wp (ob_E (49, 60, [(7, 0), (3, j), (1, t), (1, i), (1, e), (1, u), (8, p), (1, s 2 * s (12 + 116 * t + (3 + 3 * i)) + t), (1, rnd (s 0) (bg s t i d + e)), (1, hd s t i), (1, q 43), x1, x2], [], (m, none))) _
    rw [sg_X4_firstInTheWay_60, eN, if_neg (by omega)]
    exact wp_ret ⟨rfl, Or.inr ⟨rfl, hI⟩⟩
