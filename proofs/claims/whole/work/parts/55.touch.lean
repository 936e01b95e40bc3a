-- TOUCHING PINS: the class and the model
/-- pin j of another pinned tune u is in the way of note i by a begin b -/
def uo (s : Int → Int) (t i b u j : Int) : Bool := sb s (s 2 * s (12 + 116 * t + (3 + 3 * i)) + t) b (hd s t i) u (fun w => s (12 + 116 * u + w)) j
def Uo (s : Int → Int) (t i b u : Int) : Prop := u ≠ t ∧ s (12 + 116 * u + 39) = 1 ∧ ∃ j, 0 ≤ j ∧ j < s (12 + 116 * u + 43) ∧ uo s t i b u j = true
def FT (s : Int → Int) (t i b v : Int) : Prop := (v = -1 ∧ ∀ u, 0 ≤ u → u < s 2 → ¬ Uo s t i b u) ∨ ∃ u j, v = 16 * u + j ∧ (0 ≤ u ∧ u < s 2 ∧ Uo s t i b u ∧ ∀ u', 0 ≤ u' → u' < u → ¬ Uo s t i b u') ∧ (0 ≤ j ∧ j < s (12 + 116 * u + 43) ∧ uo s t i b u j = true ∧ ∀ j', 0 ≤ j' → j' < j → ¬ (uo s t i b u j' = true))
theorem FT_u {s : Int → Int} {t i b v w : Int} (h1 : FT s t i b v) (h2 : FT s t i b w) : v = w := by
  rcases h1 with ⟨a1, a2⟩ | ⟨u, j, a1, a2, a3⟩
  · rcases h2 with ⟨b1, b2⟩ | ⟨u, j, b1, b2, b3⟩
    · rw [a1, b1]
    · exact absurd b2.2.2.1 (a2 u b2.1 b2.2.1)
  · rcases h2 with ⟨b1, b2⟩ | ⟨u', j', b1, b2, b3⟩
    · exact absurd a2.2.2.1 (b2 u a2.1 a2.2.1)
    · have e : u = u' := by
        rcases Int.lt_trichotomy u u' with h | h | h
        · exact absurd a2.2.2.1 (b2.2.2.2 u a2.1 h)
        · exact h
        · exact absurd b2.2.2.1 (a2.2.2.2 u' b2.1 h)
      subst e
      have e : j = j' := by
        rcases Int.lt_trichotomy j j' with h | h | h
        · exact absurd a3.2.2.1 (b3.2.2.2 j a3.1 h)
        · exact h
        · exact absurd b3.2.2.1 (a3.2.2.2 j' b3.1 h)
      rw [a1, b1, e]
theorem FT_n {s : Int → Int} {t i b v : Int} (h : FT s t i b v) : v = -1 ∨ 0 ≤ v := by
  rcases h with ⟨a1, a2⟩ | ⟨u, j, a1, a2, a3⟩
  · exact Or.inl a1
  · have := a2.1
    have := a3.1
    exact Or.inr (by omega)
theorem cl_firstTouched {W : Int} {m : ob_Mem} {j t d i e : Int} {s : Int → Int} (hV : VV W s) (h : Rep m j s) (hP : PL m s t d) (ht : 0 ≤ t ∧ t < 3) (hd0 : 0 ≤ d ∧ d < s 0) (hi : 0 ≤ i ∧ i < s (12 + 116 * t + 2)) (he : 0 ≤ e ∧ e < s 0) : wp (ob_E (48, 0, [(7, 0), (3, j), (1, t), (1, i), (1, e), (0, 0), (0, 0)], [], (m, none))) (fun v m' => m' = m ∧ FT s t i (rnd (s 0) (bg s t i d + e)) v) := by
  obtain ⟨⟨v1, v2, v3, v4, v5, -⟩, v8⟩ := id hV
  have eT := rpT h
  rw [sg_X4_firstTouched_0]
  refine wp_for (fun u (x : ob_AV) => ob_E (48, 3, [(7, 0), (3, j), (1, t), (1, i), (1, e), (1, u), x], [], (m, none))) 0 (s 2) (fun u _ => ∀ u', 0 ≤ u' → u' < u → ¬ Uo s t i (rnd (s 0) (bg s t i d + e)) u') ?_ ?_ (by omega) (x := (0, 0)) (fun i a b => absurd a (by omega))
  · intro u x h1 h2 hI hk
    have hk' := fun z (hz : ¬ Uo s t i (rnd (s 0) (bg s t i d + e)) u) => hk z (fun u' a b => by
      by_cases ee : u' = u
      · rw [ee]
        exact hz
      · exact hI u' a (by omega))
    have eP := rpP h (t := u) (by omega)
    obtain ⟨-, p1, p2, p3⟩ := v8 u h1 (by omega)
    rw [sg_X4_firstTouched_3, eT, if_pos h2]
    by_cases c1 : u = t
    · simp (disch := first | omega | assumption) only [↓if_pos, ↓if_neg, Option.bind_some, ob_wr_id, sg_X4_firstTouched_69]
      exact hk' _ (fun z => z.1 c1)
    · by_cases c2 : s (12 + 116 * u + 39) = 1
      · obtain ⟨p4, p5, p6, p7, p8, p9⟩ := p3 c2
        rw [if_neg c1, if_pos (by omega), if_neg (by omega), if_pos (by omega)]
        refine wp_b (cl_inTheWay hV h hP ht hd0 hi he (by omega) (rpQ h (by omega) c2) (by show 0 ≤ s (12 + 116 * u + 43) ∧ s (12 + 116 * u + 43) ≤ 12; omega) (fun y a b => ?_)) (fun v m' hv => ?_)
        · obtain ⟨r1, r2, r3, r4⟩ := p8 y a b
          have r5 : 0 ≤ s (12 + 116 * u + (44 + 4 * y + 0)) ∧ s (12 + 116 * u + (44 + 4 * y + 0)) < 6 := by omega
          exact ⟨r5, r2, r3⟩
        · obtain ⟨rfl, hF⟩ := hv
          rcases hF with ⟨a1, a2, a3, a4⟩ | ⟨a1, a2⟩
          · have a2 : v < s (12 + 116 * u + 43) := a2
            simp (disch := first | omega | assumption) only [↓if_pos, ↓if_neg, Option.bind_some, ob_wr_id, sg_X4_firstTouched_52]
            exact wp_ret ⟨rfl, Or.inr ⟨u, v, rfl, ⟨h1, h2, ⟨c1, c2, v, a1, a2, a3⟩, hI⟩, a1, a2, a3, a4⟩⟩
          · subst a1
            simp (disch := first | omega | assumption) only [↓if_pos, ↓if_neg, Option.bind_some, ob_wr_id, sg_X4_firstTouched_52, sg_X4_firstTouched_69]
            exact hk' _ (fun z => by
              obtain ⟨-, -, y, y1, y2, y3⟩ := z
              exact a2 y y1 y2 y3)
      · simp (disch := first | omega | assumption) only [↓if_pos, ↓if_neg, Option.bind_some, ob_wr_id, sg_X4_firstTouched_69]
        exact hk' _ (fun z => c2 z.2.1)
  · intro x hI
    rw [sg_X4_firstTouched_3, eT, if_neg (by omega)]
    exact wp_ret ⟨rfl, Or.inl ⟨rfl, hI⟩⟩
/-- nothing is in the way of a tune by a shift -/
def Fre (s : Int → Int) (t d : Int) : Prop := ∀ i, 0 ≤ i → i < s (12 + 116 * t + 2) → FT s t i (bg s t i d) (-1)
/-- the first that is in the way: of note i, x -/
def Blk (s : Int → Int) (t d i x : Int) : Prop := 0 ≤ i ∧ i < s (12 + 116 * t + 2) ∧ x ≠ -1 ∧ FT s t i (bg s t i d) x ∧ ∀ i', 0 ≤ i' → i' < i → FT s t i' (bg s t i' d) (-1)
theorem Blk_u {s : Int → Int} {t d i x i' x' : Int} (h : Blk s t d i x) (h' : Blk s t d i' x') : i = i' ∧ x = x' := by
  obtain ⟨a1, a2, a3, a4, a5⟩ := h
  obtain ⟨b1, b2, b3, b4, b5⟩ := h'
  have e : i = i' := by
    rcases Int.lt_trichotomy i i' with h | h | h
    · exact absurd (FT_u a4 (b5 i a1 h)) a3
    · exact h
    · exact absurd (FT_u b4 (a5 i' b1 h)) b3
  subst e
  exact ⟨rfl, FT_u a4 b4⟩
theorem Blk_F {s : Int → Int} {t d i x : Int} (h : Blk s t d i x) : ¬ Fre s t d := fun z => h.2.2.1 (FT_u h.2.2.2.1 (z i h.1 h.2.1))
theorem cl_isTouching {W : Int} {m : ob_Mem} {j t d : Int} {s : Int → Int} (hV : VV W s) (h : Rep m j s) (hP : PL m s t d) (ht : 0 ≤ t ∧ t < 3) (hd0 : 0 ≤ d ∧ d < s 0) : wp (ob_E (46, 0, [(7, 0), (3, j), (1, t), (5, 0), (0, 0), (0, 0)], [], (m, none))) (fun v m' => (v = 0 ∧ m' = m ∧ Fre s t d) ∨ (v = 1 ∧ ∃ i x, Blk s t d i x ∧ m' = tel m 2 i x)) := by
  obtain ⟨⟨v1, v2, v3, v4, v5, -⟩, v8⟩ := id hV
  obtain ⟨⟨-, -, w3, -, w5⟩, -⟩ := v8 t ht.1 ht.2
  have eN : m 3 (2 * (21 + t) + 1) 2 = s (12 + 116 * t + 2) := rqN hP.2
  rw [sg_X4_isTouching_0]
  refine wp_for (fun y (x : ob_AV) => ob_E (46, 3, [(7, 0), (3, j), (1, t), (5, 0), (1, y), x], [], (m, none))) 0 (s (12 + 116 * t + 2)) (fun y _ => ∀ i, 0 ≤ i → i < y → FT s t i (bg s t i d) (-1)) ?_ ?_ (by omega) (x := (0, 0)) (fun i a b => absurd a (by omega))
  · intro y x h1 h2 hI hk
    have hN := VV_NV hV ht ⟨h1, h2⟩
    rw [sg_X4_isTouching_3, if_pos ht, eN, if_pos h2]
    refine wp_b (cl_firstTouched hV h hP ht hd0 ⟨h1, h2⟩ (e := 0) (by omega)) (fun v m' hv => ?_)
    obtain ⟨rfl, hF⟩ := hv
    rw [bg_00 hN hd0] at hF
    by_cases c : v = -1
    · subst c
      simp (disch := first | omega | assumption) only [↓if_pos, ↓if_neg, Option.bind_some, ob_wr_id, sg_X4_isTouching_29]
      exact hk _ (fun i a b => by
        by_cases ee : i = y
        · rw [ee]
          exact hF
        · exact hI i a (by omega))
    · simp (disch := first | omega | assumption) only [↓if_pos, ↓if_neg, Option.bind_some, ob_wr_id, sg_X4_isTouching_29, sg_X4_isTouching_46, cl_tell]
      exact wp_ret (Or.inr ⟨rfl, y, v, ⟨h1, h2, c, hF, hI⟩, rfl⟩)
  · intro x hI
    rw [sg_X4_isTouching_3, if_pos ht, eN, if_neg (by omega), if_pos (by omega)]
    exact wp_ret (Or.inl ⟨rfl, rfl, hI⟩)
theorem cl_isClear {W : Int} {m : ob_Mem} {j t e : Int} {s : Int → Int} (hV : VV W s) (h : Rep m j s) (hP : PL m s t 0) (ht : 0 ≤ t ∧ t < 3) (he : 0 ≤ e ∧ e < s 0) : wp (ob_E (51, 0, [(7, 0), (3, j), (1, t), (1, e), (0, 0)], [], (m, none))) (fun v m' => m' = m ∧ (v = 1 ∧ Fre s t e ∨ v = 0 ∧ ¬ Fre s t e)) := by
  obtain ⟨⟨v1, v2, v3, v4, v5, -⟩, v8⟩ := id hV
  obtain ⟨⟨-, -, w3, -, w5⟩, -⟩ := v8 t ht.1 ht.2
  have eN : m 3 (2 * (21 + t) + 1) 2 = s (12 + 116 * t + 2) := rqN hP.2
  rw [sg_X4_isClear_0]
  refine wp_for (α := Unit) (fun y _ => ob_E (51, 3, [(7, 0), (3, j), (1, t), (1, e), (1, y)], [], (m, none))) 0 (s (12 + 116 * t + 2)) (fun y _ => ∀ i, 0 ≤ i → i < y → FT s t i (bg s t i e) (-1)) ?_ ?_ (by omega) (x := ()) (fun i a b => absurd a (by omega))
  · intro y x h1 h2 hI hk
    have hN := VV_NV hV ht ⟨h1, h2⟩
    rw [sg_X4_isClear_3, if_pos ht, eN, if_pos h2]
    refine wp_b (cl_firstTouched hV h hP ht (by omega) ⟨h1, h2⟩ he) (fun v m' hv => ?_)
    obtain ⟨rfl, hF⟩ := hv
    rw [bg_0 hN he] at hF
    by_cases c : v = -1
    · subst c
      simp (disch := first | omega | assumption) only [↓if_pos, ↓if_neg, Option.bind_some, ob_wr_id, sg_X4_isClear_29]
      exact hk () (fun i a b => by
        by_cases ee : i = y
        · rw [ee]
          exact hF
        · exact hI i a (by omega))
    · simp (disch := first | omega | assumption) only [↓if_pos, ↓if_neg, Option.bind_some, ob_wr_id, sg_X4_isClear_29]
      exact wp_ret ⟨rfl, Or.inr ⟨rfl, Blk_F ⟨h1, h2, c, hF, hI⟩⟩⟩
  · intro x hI
    rw [sg_X4_isClear_3, if_pos ht, eN, if_neg (by omega), if_pos (by omega)]
    exact wp_ret ⟨rfl, Or.inl ⟨rfl, hI⟩⟩
/-- the cells of the plan -/
def gL (k : Nat) (i : Int) : Prop := (k = 3 ∨ k = 26 ∨ k = 27 ∨ k = 28) ∧ 43 ≤ i ∧ i < 48 ∨ (k = 5 ∨ k = 32 ∨ k = 33 ∨ k = 34) ∧ 21 ≤ i ∧ i < 24 ∨ (k = 4 ∨ k = 30 ∨ k = 31)
theorem gP_gL {t : Int} (ht : 0 ≤ t ∧ t < 3) {k : Nat} {i : Int} (h : gP (21 + t) k i) : gL k i := by
  rcases h with ⟨h1, h2⟩ | ⟨h1, h2⟩
  · exact Or.inl ⟨h1, by omega⟩
  · exact Or.inr (Or.inl ⟨h1, by omega⟩)
/-- the answer of fits -/
def fiB (s : Int → Int) (t : Int) : Prop := s (12 + 116 * t + 2) = 0 ∨ ∃ i, 0 ≤ i ∧ i < s (12 + 116 * t + 2) ∧ fre s t i < s (6 + s (12 + 116 * t + (3 + 3 * i)))
def fiV (s : Int → Int) (t v : Int) : Prop := (fiB s t ∧ v = -1) ∨ (¬ fiB s t ∧ Fst (fun d => Fre s t d) (s 0) v)
theorem fiV_u {s : Int → Int} {t v w : Int} (h1 : fiV s t v) (h2 : fiV s t w) : v = w := by
  rcases h1 with ⟨a1, a2⟩ | ⟨a1, a2⟩
  · rcases h2 with ⟨b1, b2⟩ | ⟨b1, b2⟩
    · rw [a2, b2]
    · exact absurd a1 b1
  · rcases h2 with ⟨b1, b2⟩ | ⟨b1, b2⟩
    · exact absurd b1 a1
    · exact Fst_u a2 b2
theorem cl_leastShift {W : Int} {m : ob_Mem} {j t : Int} {s : Int → Int} (hj : 0 ≤ j ∧ j < 7) (hV : VV W s) (h : Rep m j s) (ht : 0 ≤ t ∧ t < 3) : wp (ob_E (50, 0, [(7, 0), (3, j), (1, t), (0, 0)], [], (m, none))) (fun v m' => sm gL m m' ∧ fiV s t v) := by
  obtain ⟨⟨v1, v2, v3, v4, v5, -⟩, v8⟩ := id hV
  obtain ⟨⟨-, -, w3, -, w5⟩, -⟩ := v8 t ht.1 ht.2
  have eR := rpR h
  have eW := rpW h
  rw [sg_X4_leastShift_0, if_pos ht, if_pos ht, eR, eW]
  refine wp_b (cl_lay hV (h.2.2 t ht.1 ht.2).1 ht (d := 0) (by omega)) (fun _ m1 h1 => ?_)
  obtain ⟨l1, l2, l3⟩ := h1
  have hP : PL m1 s t 0 := ⟨l1, l2⟩
  have hs : sm gL m m1 := sm_m l3 (fun k i => gP_gL ht)
  have R1 : Rep m1 j s := Rep_sm hV h (fun k i p q => hs k i p (fun z => by
    rcases q with ⟨q1, q2⟩ | ⟨q1, q2⟩ | ⟨q1, q2⟩ <;> rcases z with ⟨z1, z2⟩ | ⟨z1, z2⟩ | z1 <;> omega))
  have em := rpm R1 ht
  have eR := rpR R1
  rw [sg_X4_leastShift_24, if_pos ht, em]
  by_cases c0 : s (12 + 116 * t + 2) = 0
  · rw [if_pos c0]
    exact wp_ret ⟨hs, Or.inl ⟨Or.inl c0, rfl⟩⟩
  · rw [if_neg c0]
    refine wp_b (cl_firstTooSoon hV R1 hP ht (by omega)) (fun v m' hv => ?_)
    obtain ⟨rfl, hF⟩ := hv
    rcases hF with ⟨a1, a2, a3, a4⟩ | ⟨a1, a2⟩
    · rw [sg_X4_leastShift_42, if_neg (by omega)]
      exact wp_ret ⟨hs, Or.inl ⟨Or.inr ⟨v, a1, a2, a3⟩, rfl⟩⟩
    · have nb : ¬ fiB s t := fun z => by
        rcases z with z | ⟨i, z1, z2, z3⟩
        · exact c0 z
        · exact a2 i z1 z2 z3
      rw [sg_X4_leastShift_42, if_pos a1]
      refine wp_for (α := Unit) (fun y _ => ob_E (50, 50, [(7, 0), (3, j), (1, t), (1, y)], [], (m', none))) 0 (s 0) (fun y _ => ∀ i, 0 ≤ i → i < y → ¬ Fre s t i) ?_ ?_ (by omega) (x := ()) (fun i a b => absurd a (by omega))
      · intro y x h1 h2 hI hk
        rw [sg_X4_leastShift_50, eR, if_pos h2]
        refine wp_b (cl_isClear hV R1 hP ht ⟨h1, h2⟩) (fun v m' hv => ?_)
        obtain ⟨rfl, ⟨rfl, hF⟩ | ⟨rfl, hF⟩⟩ := hv
        · simp (disch := first | omega | assumption) only [↓if_pos, ↓if_neg, Option.bind_some, ob_wr_id, sg_X4_leastShift_65]
          exact wp_ret ⟨hs, Or.inr ⟨nb, Or.inl ⟨h1, h2, hF, hI⟩⟩⟩
        · simp (disch := first | omega | assumption) only [↓if_pos, ↓if_neg, Option.bind_some, ob_wr_id, sg_X4_leastShift_65]
          exact hk () (fun i a b => by
            by_cases ee : i = y
            · rw [ee]
              exact hF
            · exact hI i a (by omega))
      · intro x hI
        rw [sg_X4_leastShift_50, eR, if_neg (by omega)]
        exact wp_ret ⟨hs, Or.inr ⟨nb, Or.inr ⟨rfl, hI⟩⟩⟩
