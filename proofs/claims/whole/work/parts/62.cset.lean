-- SETTLING: the class's comparisons and search
def CL (s : Int → Int) (t u d : Int) : Prop := ∀ i j, 0 ≤ i → i < s (12 + 116 * t + 2) → 0 ≤ j → j < s (12 + 116 * u + 2) → nrB (s 2 * s (12 + 116 * t + (3 + 3 * i)) + t) (s 2 * s (12 + 116 * u + (3 + 3 * j)) + u) = true → beB (s 0) (s 4) (bg s t i d) (hd s t i) (bg s u j 0) (hd s u j) = true
theorem dist_z {R a b : Int} (ha : 0 ≤ a ∧ a < R) (hb : 0 ≤ b ∧ b < R) : a = b ↔ dist R a b = 0 := by
  unfold dist
  split <;> omega
theorem beB_d {R D a b a' b' h h2 : Int} (ha : 0 ≤ a ∧ a < R) (hb : 0 ≤ b ∧ b < R) (ha' : 0 ≤ a' ∧ a' < R) (hb' : 0 ≤ b' ∧ b' < R) (e1 : dist R a b = dist R a' b') (e2 : dist R b a = dist R b' a') : beB R D a h b h2 = beB R D a' h b' h2 := by
  have z1 := dist_z ha hb
  have z2 := dist_z ha' hb'
  unfold beB
  by_cases c : a = b
  · rw [if_pos c, if_pos (z2.mpr (by rw [← e1]; exact z1.mp c))]
  · rw [if_neg c, if_neg (fun q => c (z1.mpr (by rw [e1]; exact z2.mp q))), e1, e2]
theorem rnd_back {R x a b : Int} (hx : 0 ≤ x ∧ x < R) (ha : 0 ≤ a ∧ a < R) (hb : 0 ≤ b ∧ b < R) : rnd R (rnd R (x + dist R b a) + dist R a b) = x := by
  unfold rnd dist
  by_cases c1 : a ≤ b
  · by_cases c2 : b ≤ a
    · simp (disch := first | omega | assumption) only [↓if_pos, ↓if_neg, Option.bind_some, ob_wr_id]
      omega
    · by_cases c3 : R ≤ x + (a - b + R)
      · simp (disch := first | omega | assumption) only [↓if_pos, ↓if_neg, Option.bind_some, ob_wr_id]
        omega
      · simp (disch := first | omega | assumption) only [↓if_pos, ↓if_neg, Option.bind_some, ob_wr_id]
        omega
  · by_cases c3 : R ≤ x + (a - b)
    · simp (disch := first | omega | assumption) only [↓if_pos, ↓if_neg, Option.bind_some, ob_wr_id]
      omega
    · simp (disch := first | omega | assumption) only [↓if_pos, ↓if_neg, Option.bind_some, ob_wr_id]
      omega
theorem CL_AB {W : Int} {s : Int → Int} {t u a b : Int} (hV : VV W s) (ht : 0 ≤ t ∧ t < 3) (hu : 0 ≤ u ∧ u < 3) (ha : 0 ≤ a ∧ a < s 0) (hb : 0 ≤ b ∧ b < s 0) : CL s t u (dist (s 0) b a) ↔ AB s t u (dist (s 0) a b) := by
  have d1 := dist_b hb ha
  have d2 := dist_b ha hb
  have key : ∀ i j, 0 ≤ i → i < s (12 + 116 * t + 2) → 0 ≤ j → j < s (12 + 116 * u + 2) → beB (s 0) (s 4) (bg s t i (dist (s 0) b a)) (hd s t i) (bg s u j 0) (hd s u j) = beB (s 0) (s 4) (bg s t i 0) (hd s t i) (bg s u j (dist (s 0) a b)) (hd s u j) := by
    intro i j h1 h2 h3 h4
    have hN := VV_NV hV ht ⟨h1, h2⟩
    have hN2 := VV_NV hV hu ⟨h3, h4⟩
    have b1 := bg_b hN d1.1 d1.2
    have b2 := bg_b hN (d := 0) (by omega) (by omega)
    have b3 := bg_b hN2 d2.1 d2.2
    have b4 := bg_b hN2 (d := 0) (by omega) (by omega)
    have e1 : rnd (s 0) (bg s t i (dist (s 0) b a) + dist (s 0) a b) = bg s t i 0 := by
      rw [← bg_0 hN d1]
      exact rnd_back b2 ha hb
    have e2 : rnd (s 0) (bg s u j 0 + dist (s 0) a b) = bg s u j (dist (s 0) a b) := bg_0 hN2 d2
    refine beB_d b1 b4 b2 b3 ?_ ?_
    · rw [← dist_rnd b1 b4 d2, e1, e2]
    · rw [← dist_rnd b4 b1 d2, e1, e2]
  constructor
  · intro h i j h1 h2 h3 h4 hn
    rw [← key i j h1 h2 h3 h4]
    exact h i j h1 h2 h3 h4 hn
  · intro h i j h1 h2 h3 h4 hn
    rw [key i j h1 h2 h3 h4]
    exact h i j h1 h2 h3 h4 hn
theorem PL_sm {m m' : ob_Mem} {s : Int → Int} {t d : Int} (h : PL m s t d) (hn : s (12 + 116 * t + 2) ≤ 12) (hm : ∀ k i x, gP (21 + t) k i → m' k i x = m k i x) : PL m' s t d := ⟨by rw [hm 5 _ 0 (Or.inr ⟨by omega, rfl⟩)]; exact h.1, rQ_c h.2 hm (fun _ _ _ => rfl) hn⟩
theorem cl_canLie {W : Int} {m : ob_Mem} {j t u e : Int} {s : Int → Int} (hV : VV W s) (h : Rep m j s) (hP : PL m s t 0) (hQ : PL m s u 0) (ht : 0 ≤ t ∧ t < 3) (hu : 0 ≤ u ∧ u < 3) (he : 0 ≤ e ∧ e < s 0) : wp (ob_E (56, 0, [(7, 0), (3, j), (1, t), (1, u), (1, e), (0, 0)], [], (m, none))) (fun v m' => m' = m ∧ BV v (CL s t u e)) := by
  obtain ⟨⟨v1, v2, v3, v4, v5, -⟩, v8⟩ := id hV
  obtain ⟨⟨-, -, w3, -, w5⟩, -⟩ := v8 t ht.1 ht.2
  obtain ⟨⟨-, -, x3, -, x5⟩, -⟩ := v8 u hu.1 hu.2
  have eN : m 3 (2 * (21 + t) + 1) 2 = s (12 + 116 * t + 2) := rqN hP.2
  rw [sg_X4_canLieBeside_0]
  refine wp_for (α := Unit) (fun y _ => ob_E (56, 3, [(7, 0), (3, j), (1, t), (1, u), (1, e), (1, y)], [], (m, none))) 0 (s (12 + 116 * t + 2)) (fun y _ => ∀ i j, 0 ≤ i → i < y → 0 ≤ j → j < s (12 + 116 * u + 2) → nrB (s 2 * s (12 + 116 * t + (3 + 3 * i)) + t) (s 2 * s (12 + 116 * u + (3 + 3 * j)) + u) = true → beB (s 0) (s 4) (bg s t i e) (hd s t i) (bg s u j 0) (hd s u j) = true) ?_ ?_ (by omega) (x := ()) (fun i j a b => absurd a (by omega))
  · intro y _ h1 h2 hI hk
    have hN := VV_NV hV ht ⟨h1, h2⟩
    rw [sg_X4_canLieBeside_3, if_pos ht, eN, if_pos h2, if_pos hu]
    refine wp_b (cl_inTheWay hV h hP ht (by omega) ⟨h1, h2⟩ he hu hQ.2 x3 (fun z a b => ?_)) (fun v m' hv => ?_)
    · have b : z < s (12 + 116 * u + 2) := b
      have hN2 := VV_NV hV hu ⟨a, b⟩
      obtain ⟨-, o2⟩ := x5 z a b
      rw [pic_k (by omega), pic_b (by omega), pic_h (by omega)]
      exact ⟨by omega, bg_b hN2 (by omega) (by omega), hd_b hN2⟩
    · obtain ⟨rfl, hF⟩ := hv
      rw [bg_0 hN he] at hF
      have hsb : ∀ z, 0 ≤ z → z < s (12 + 116 * u + 2) → (sb s (s 2 * s (12 + 116 * t + (3 + 3 * y)) + t) (bg s t y e) (hd s t y) u (pic s u 0) z = true ↔ ¬ (nrB (s 2 * s (12 + 116 * t + (3 + 3 * y)) + t) (s 2 * s (12 + 116 * u + (3 + 3 * z)) + u) = true → beB (s 0) (s 4) (bg s t y e) (hd s t y) (bg s u z 0) (hd s u z) = true)) := fun z a b => by
        unfold sb
        rw [pic_k (by omega), pic_b (by omega), pic_h (by omega)]
        cases nrB (s 2 * s (12 + 116 * t + (3 + 3 * y)) + t) (s 2 * s (12 + 116 * u + (3 + 3 * z)) + u) <;> cases beB (s 0) (s 4) (bg s t y e) (hd s t y) (bg s u z 0) (hd s u z) <;> decide
      rcases hF with ⟨a1, a2, a3, a4⟩ | ⟨a1, a2⟩
      · have a2 : v < s (12 + 116 * u + 2) := a2
        rw [sg_X4_canLieBeside_37, if_neg (by omega), if_pos (by omega)]
        exact wp_ret ⟨rfl, Or.inr ⟨rfl, fun q => (hsb v a1 a2).mp a3 (q y v h1 h2 a1 a2)⟩⟩
      · rw [sg_X4_canLieBeside_37, if_pos a1, ob_wr_id (by omega) (by omega)]
        refine hk () (fun i z a b c d => ?_)
        by_cases ee : i = y
        · rw [ee]
          exact Classical.not_not.mp (fun q => a2 z c d ((hsb z c d).mpr q))
        · exact hI i z a (by omega) c d
  · intro _ hI
    rw [sg_X4_canLieBeside_3, if_pos ht, eN, if_neg (by omega), if_pos (by omega)]
    exact wp_ret ⟨rfl, Or.inl ⟨rfl, hI⟩⟩
/-- pairs of tunes compared -/
def BE (m : ob_Mem) (s : Int → Int) (t u y : Int) : Prop := ∀ d, 0 ≤ d → d < y → BV (m 30 0 ((t * 3 + u) * 24 + d)) (CL s t u d)
theorem BE_c {m m' : ob_Mem} {s : Int → Int} {t u y : Int} (h : BE m s t u y) (e : ∀ d, 0 ≤ d → d < y → m' 30 0 ((t * 3 + u) * 24 + d) = m 30 0 ((t * 3 + u) * 24 + d)) : BE m' s t u y := fun d a b => by
  rw [e d a b]
  exact h d a b
theorem cl_place (m : ob_Mem) {t u d : Int} (ht : 0 ≤ t ∧ t < 3) (hu : 0 ≤ u ∧ u < 3) (hd : 0 ≤ d ∧ d < 24) : ob_E (55, 0, [(1, t), (1, u), (1, d)], [], (m, none)) = some ((t * 3 + u) * 24 + d, (m, none)) := by
  simp (disch := first | omega | assumption) only [↓if_pos, ↓if_neg, Option.bind_some, ob_wr_id, sg_X4_place_0]
theorem cl_compareAll {W : Int} {m : ob_Mem} {j : Int} {s : Int → Int} (hj : 0 ≤ j ∧ j < 7) (hV : VV W s) (h : Rep m j s) (hP : ∀ t, 0 ≤ t → t < 3 → PL m s t 0) : wp (ob_E (54, 0, [(7, 0), (3, j), (0, 0), (0, 0), (0, 0)], [], (m, none))) (fun _ m' => sm (fun k i => k = 30 ∧ i = 0) m m' ∧ ∀ t u, 0 ≤ t → t < 3 → t < u → u < 3 → BE m' s t u (s 0)) := by
  obtain ⟨⟨v1, v2, v3, v4, v5, -⟩, v8⟩ := id hV
  have hR : ∀ m', sm (fun k i => k = 30 ∧ i = 0) m m' → Rep m' j s := fun m' q => Rep_sm hV h (fun k i p z => q k i p (fun y => by
    have := y.1
    rcases z with ⟨z1, z2⟩ | ⟨z1, z2⟩ | ⟨z1, z2⟩ <;> omega))
  have hL : ∀ m', sm (fun k i => k = 30 ∧ i = 0) m m' → ∀ t, 0 ≤ t → t < 3 → PL m' s t 0 := fun m' q t a b => PL_sm (hP t a b) (v8 t a b).1.2.2.1.2 (fun k i x z => q k i x (fun y => by
    have := y.1
    rcases z with ⟨z1, z2⟩ | ⟨z1, z2⟩ <;> omega))
  rw [sg_X4_compareAll_0]
  refine wp_for (fun t (x : ob_AV × ob_AV × ob_Mem) => ob_E (54, 2, [(7, 0), (3, j), (1, t), x.1, x.2.1], [], (x.2.2, none))) 0 3 (fun t x => sm (fun k i => k = 30 ∧ i = 0) m x.2.2 ∧ ∀ t' u', 0 ≤ t' → t' < t → t' < u' → u' < 3 → BE x.2.2 s t' u' (s 0)) ?_ ?_ (by omega) (x := ((0, 0), (0, 0), m)) ⟨sm_r, fun t' u' a b => absurd a (by omega)⟩
  · intro t ⟨x1, x2, m1⟩ h1 h2 ⟨i1, i2⟩ hk
    show wp (ob_E (54, 2, [(7, 0), (3, j), (1, t), x1, x2], [], (m1, none))) _
    rw [sg_X4_compareAll_2, if_pos h2, ob_wr_id (by omega) (by omega)]
    refine wp_for (fun u (x : ob_AV × ob_Mem) => ob_E (54, 11, [(7, 0), (3, j), (1, t), (1, u), x.1], [], (x.2, none))) (t + 1) 3 (fun u x => sm (fun k i => k = 30 ∧ i = 0) m x.2 ∧ (∀ t' u', 0 ≤ t' → t' < t → t' < u' → u' < 3 → BE x.2 s t' u' (s 0)) ∧ ∀ u', t < u' → u' < u → BE x.2 s t u' (s 0)) ?_ ?_ (by omega) (x := (x2, m1)) ⟨i1, i2, fun u' a b => absurd a (by omega)⟩
    · intro u ⟨x1, m2⟩ g1 g2 ⟨j1, j2, j3⟩ hk2
      show wp (ob_E (54, 11, [(7, 0), (3, j), (1, t), (1, u), x1], [], (m2, none))) _
      rw [sg_X4_compareAll_11, if_pos g2]
      refine wp_for (fun d (m' : ob_Mem) => ob_E (54, 19, [(7, 0), (3, j), (1, t), (1, u), (1, d)], [], (m', none))) 0 (s 0) (fun d m' => sm (fun k i => k = 30 ∧ i = 0) m m' ∧ (∀ t' u', 0 ≤ t' → t' < t → t' < u' → u' < 3 → BE m' s t' u' (s 0)) ∧ (∀ u', t < u' → u' < u → BE m' s t u' (s 0)) ∧ BE m' s t u d) ?_ ?_ (by omega) ⟨j1, j2, j3, fun d a b => absurd a (by omega)⟩
      · intro d m3 f1 f2 ⟨l1, l2, l3, l4⟩ hk3
        have R3 := hR m3 l1
        have eR := rpR R3
        rw [sg_X4_compareAll_19, eR, if_pos f2]
        simp (disch := first | omega | assumption) only [↓if_pos, ↓if_neg, Option.bind_some, ob_wr_id, cl_place, sg_X4_compareAll_39]
        refine wp_b (cl_canLie hV R3 (hL m3 l1 t h1 h2) (hL m3 l1 u (by omega) g2) ⟨h1, h2⟩ ⟨by omega, g2⟩ ⟨f1, f2⟩) (fun v m4 hv => ?_)
        obtain ⟨rfl, hv⟩ := hv
        rw [sg_X4_compareAll_48, if_pos ⟨by omega, BV_i hv⟩, ob_wr_id (by omega) (by omega)]
        refine hk3 _ ⟨sm_set l1 ⟨rfl, rfl⟩, fun t' u' a b c e => BE_c (l2 t' u' a b c e) (fun d' q1 q2 => rs_s (by omega)), fun u' a b => BE_c (l3 u' a b) (fun d' q1 q2 => rs_s (by omega)), fun d' q1 q2 => ?_⟩
        by_cases ee : d' = d
        · rw [ee, rs_e rfl rfl]
          exact hv
        · rw [rs_s (by omega)]
          exact l4 d' q1 (by omega)
      · intro m3 ⟨l1, l2, l3, l4⟩
        have eR := rpR (hR m3 l1)
        rw [sg_X4_compareAll_19, eR, if_neg (by omega), ob_wr_id (by omega) (by omega)]
        refine hk2 (_, m3) ⟨l1, l2, fun u' a b => ?_⟩
        by_cases ee : u' = u
        · rw [ee]
          exact l4
        · exact l3 u' a (by omega)
    · intro ⟨x1, m2⟩ ⟨j1, j2, j3⟩
      show wp (ob_E (54, 11, [(7, 0), (3, j), (1, t), (1, 3), x1], [], (m2, none))) _
      rw [sg_X4_compareAll_11, if_neg (by omega), ob_wr_id (by omega) (by omega)]
      refine hk (_, _, m2) ⟨j1, fun t' u' a b c d => ?_⟩
      by_cases ee : t' = t
      · rw [ee]
        exact j3 u' (by omega) d
      · exact j2 t' u' a (by omega) c d
  · intro ⟨x1, x2, m1⟩ ⟨i1, i2⟩
    show wp (ob_E (54, 2, [(7, 0), (3, j), (1, 3), x1, x2], [], (m1, none))) _
    rw [sg_X4_compareAll_2, if_neg (by omega)]
    exact wp_ret ⟨i1, fun t u a b c d => i2 t u a b c d⟩
theorem cl_shifts {W : Int} {m : ob_Mem} {j t : Int} {s : Int → Int} (hV : VV W s) (h : Rep m j s) (ht : 0 ≤ t ∧ t < 3) : ob_E (60, 0, [(3, j), (1, t)], [], (m, none)) = some (sN s t, (m, none)) := by
  have em := rpm h ht
  have eR := rpR h
  unfold sN
  rw [sg_X4_shiftsToTry_0, if_pos ht, em, eR]
  by_cases c : 0 < s (12 + 116 * t + 2)
  · rw [if_pos c, if_pos c]
  · rw [if_neg c, if_neg c]
theorem cl_leastThird {W : Int} {m : ob_Mem} {j a b : Int} {s : Int → Int} (hV : VV W s) (h : Rep m j s) (hB : ∀ t u, 0 ≤ t → t < 3 → t < u → u < 3 → BE m s t u (s 0)) (ha : 0 ≤ a ∧ a < s 0) (hb : 0 ≤ b ∧ b < s 0) : wp (ob_E (59, 0, [(7, 0), (3, j), (1, a), (1, b), (0, 0)], [], (m, none))) (fun v m' => m' = m ∧ Fst (fun c => AB s 0 2 (dist (s 0) a c) ∧ AB s 1 2 (dist (s 0) b c)) (sN s 2) v) := by
  obtain ⟨⟨v1, v2, v3, v4, v5, -⟩, v8⟩ := id hV
  have n2 := sN_b (s := s) (t := 2) v1
  have eR := rpR h
  rw [sg_X4_leastThird_0]
  refine wp_for (α := Unit) (fun c _ => ob_E (59, 3, [(7, 0), (3, j), (1, a), (1, b), (1, c)], [], (m, none))) 0 (sN s 2) (fun c _ => ∀ c', 0 ≤ c' → c' < c → ¬ (AB s 0 2 (dist (s 0) a c') ∧ AB s 1 2 (dist (s 0) b c'))) ?_ ?_ (by omega) (x := ()) (fun c' x y => absurd x (by omega))
  · intro c _ h1 h2 hI hk
    have d1 := dist_b (R := s 0) (a := c) (b := a) (by omega) ha
    have d2 := dist_b (R := s 0) (a := c) (b := b) (by omega) hb
    have k1 := hB 0 2 (by omega) (by omega) (by omega) (by omega) _ d1.1 d1.2
    have k2 := hB 1 2 (by omega) (by omega) (by omega) (by omega) _ d2.1 d2.2
    have e1 := CL_AB hV (t := 0) (u := 2) (by omega) (by omega) ha (b := c) (by omega)
    have e2 := CL_AB hV (t := 1) (u := 2) (by omega) (by omega) hb (b := c) (by omega)
    have hk' := fun (z : ¬ (AB s 0 2 (dist (s 0) a c) ∧ AB s 1 2 (dist (s 0) b c))) => hk () (fun c' x y => by
      by_cases ee : c' = c
      · rw [ee]
        exact z
      · exact hI c' x (by omega))
    rw [sg_X4_leastThird_3, cl_shifts hV h (by omega)]
    simp (disch := first | omega | assumption) only [↓if_pos, ↓if_neg, Option.bind_some, ob_wr_id, sg_X4_leastThird_10, eR, cl_distance, sg_X4_leastThird_29, cl_place]
    rcases k1 with ⟨q1, q1'⟩ | ⟨q1, q1'⟩
    · simp (disch := first | omega | assumption) only [↓if_pos, ↓if_neg, Option.bind_some, ob_wr_id, sg_X4_leastThird_32, eR, cl_distance, sg_X4_leastThird_52, cl_place]
      rcases k2 with ⟨q2, q2'⟩ | ⟨q2, q2'⟩
      · simp (disch := first | omega | assumption) only [↓if_pos, ↓if_neg, Option.bind_some, ob_wr_id, sg_X4_leastThird_55]
        exact wp_ret ⟨rfl, Or.inl ⟨h1, h2, ⟨e1.mp q1', e2.mp q2'⟩, hI⟩⟩
      · simp (disch := first | omega | assumption) only [↓if_pos, ↓if_neg, Option.bind_some, ob_wr_id, sg_X4_leastThird_55, sg_X4_leastThird_62]
        exact hk' (fun z => q2' (e2.mpr z.2))
    · simp (disch := first | omega | assumption) only [↓if_pos, ↓if_neg, Option.bind_some, ob_wr_id, sg_X4_leastThird_32, sg_X4_leastThird_62]
      exact hk' (fun z => q1' (e1.mpr z.1))
  · intro _ hI
    rw [sg_X4_leastThird_3, cl_shifts hV h (by omega)]
    simp (disch := first | omega | assumption) only [↓if_pos, ↓if_neg, Option.bind_some, ob_wr_id, sg_X4_leastThird_10]
    exact wp_ret ⟨rfl, Or.inr ⟨rfl, hI⟩⟩
