-- READS: joined
theorem Inv_F {W : Int} {m m' : ob_Mem} (h : Inv W m) (hf : FG m m') : Inv W m' := by
  obtain ⟨⟨⟨h0, h1⟩, h2, ⟨h3, h3'⟩, h4⟩, i2, i3, i4, i5, i6⟩ := h
  have hm : ∀ k i x, k ≠ 6 → k ≠ 35 → k ≠ 37 → k ≠ 38 → m' k i x = m k i x := hf.1
  have rw40 : ∀ (k : Nat), k = 40 ∨ k = 41 → m' k 0 = m k 0 := fun k hk => by
    funext x
    exact hm k 0 x (by omega) (by omega) (by omega) (by omega)
  have e : ∀ k i x, k = 7 ∨ k = 39 ∨ k = 2 ∨ k = 43 ∨ k = 44 ∨ k = 8 ∨ k = 36 ∨ k = 55 → m' k i x = m k i x := fun k i x hk => hm k i x (by omega) (by omega) (by omega) (by omega)
  have fR : ∀ j q, VV W q → Rep m j q → Rep m' j q := fun j q a b => Rep_sm a b (fun k i p z => by
    rcases z with ⟨z1, z2⟩ | ⟨z1, z2⟩ | ⟨z1, z2⟩ <;> exact hm k i p (by omega) (by omega) (by omega) (by omega))
  refine ⟨⟨⟨?_, ?_⟩, bij_c h2 (e 7 _ _ (by omega)) (e 7 _ _ (by omega)) (fun i => e 39 _ _ (by omega)), ⟨?_, ?_⟩, fun i a b => ?_⟩, fun x a b => ?_, ?_, ?_, ?_, fun i a b => ?_⟩
  · rw [e 8 0 3 (by omega)]
    exact h0
  · rw [e 8 0 3 (by omega), e 7 0 3 (by omega)]
    exact h1
  · rw [rw40 40 (by omega)]
    exact h3
  · rw [rw40 40 (by omega), e 7 0 0 (by omega)]
    exact fR _ _ h3 h3'
  · rw [e 8 0 3 (by omega)] at b
    obtain ⟨g1, g2⟩ := h4 i a b
    rw [rw40 41 (by omega), e 39 0 i (by omega)]
    exact ⟨g1, fR _ _ g1 g2⟩
  · rw [e 7 0 x (by omega), e 43 0 _ (by omega)]
    exact i2 x a b
  · rw [e 2 0 1 (by omega), e 2 0 2 (by omega), e 2 0 3 (by omega), e 2 0 0 (by omega), e 44 0 0 (by omega), e 44 0 1 (by omega), e 44 0 2 (by omega), e 44 0 3 (by omega)]
    exact i3
  · rw [e 8 0 22 (by omega), hf.2]
    exact i4
  · rw [e 8 0 22 (by omega)]
    exact i5
  · rw [e 8 0 22 (by omega)] at b
    rw [e 36 0 i (by omega), e 55 0 i (by omega)]
    exact i6 i a b
theorem oR_c {g g' : ob_Mem} {s : Int → Int} {k : Int} (h : ∀ k x, k = 35 ∨ k = 37 ∨ k = 38 → g' k 0 x = g k 0 x) : oR g' s k = oR g s k := by
  unfold oR
  have e : (fun y => g' 38 0 (g' 37 0 k + y)) = (fun y => g 38 0 (g 37 0 k + y)) := by
    funext y
    rw [h 38 _ (by omega), h 37 _ (by omega)]
  rw [e, h 35 _ (by omega), h 37 _ (by omega), h 37 _ (by omega)]
theorem DK_c {g g' : ob_Mem} {k : Int} (h : ∀ k x, k = 35 ∨ k = 37 ∨ k = 38 → g' k 0 x = g k 0 x) (hd : DK g k) : DK g' k := by
  unfold DK
  rw [h 35 _ (by omega), h 37 _ (by omega), h 37 _ (by omega)]
  exact hd
def TF (g m : ob_Mem) : Prop := ∀ k i x, k = 6 ∨ k = 7 ∨ k = 35 ∨ k = 36 ∨ k = 37 ∨ k = 38 ∨ k = 8 ∨ 40 ≤ k ∨ k = 14 ∨ k = 15 → m k i x = g k i x
theorem TF_A {g m m' : ob_Mem} {j : Int} (h : TF g m) (hs : sm (fun k i => gA k i ∨ gB j k i) m m') : TF g m' := fun k i x hk => by
  rw [hs k i x (fun z => by rcases z with ((⟨z1, z2⟩ | ⟨z1, z2⟩ | z1) | z1) | ⟨z1, z2⟩ | ⟨z1, z2⟩ | ⟨z1, z2⟩ <;> omega)]
  exact h k i x hk
theorem cl_blame {m : ob_Mem} {k v : Int} (hk : 0 ≤ k ∧ k < 120) (hv : v < 0) : ∃ m', ob_E (127, 0, [(10, 0), (1, k), (1, v), (0, 0)], [], (m, none)) = some (0, (m', none)) ∧ (∀ k' i x, k' ≠ 2 → m' k' i x = m k' i x) ∧ m' 2 0 0 = k ∧ ((m 35 0 k = 112 ∧ v = -3) → m' 2 0 1 = m 2 0 1 ∧ m' 2 0 2 = m 2 0 2 ∧ m' 2 0 3 = m 2 0 3) ∧ (¬ (m 35 0 k = 112 ∧ v = -3) → m' 2 0 1 = (if v = -2 then 5 else if v = -3 then 6 else 7) ∧ m' 2 0 2 = 0 ∧ m' 2 0 3 = 0) := by
  by_cases c : m 35 0 k = 112 ∧ v = -3
  · refine ⟨ob_set m 2 0 0 k, ?_, fun k' i x z => rs_k z, rs_e rfl rfl, fun _ => ⟨rs_s (by omega), rs_s (by omega), rs_s (by omega)⟩, fun z => absurd c z⟩
    have c1 := c.1
    have c2 := c.2
    simp (disch := first | omega | assumption) only [↓if_pos, ↓if_neg, Option.bind_some, ob_wr_id, sg_X7_blame_0, sg_X7_blame_25, sg_X7_blame_62]
  · have h25 : ob_E (127, 0, [(10, 0), (1, k), (1, v), (0, 0)], [], (m, none)) = ob_E (127, 25, [(10, 0), (1, k), (1, v), (0, 0)], [(1, 0)], (m, none)) := by
      rw [sg_X7_blame_0]
      by_cases c2 : v = -3
      · have c1 : ¬ m 35 0 k = 112 := fun z => c ⟨z, c2⟩
        simp (disch := first | omega | assumption) only [↓if_pos, ↓if_neg, Option.bind_some, ob_wr_id, sg_X7_blame_24]
      · simp (disch := first | omega | assumption) only [↓if_pos, ↓if_neg, Option.bind_some, ob_wr_id, sg_X7_blame_24]
    generalize hkk : (if v = -2 then 5 else if v = -3 then 6 else 7 : Int) = kk
    have h57 : ob_E (127, 25, [(10, 0), (1, k), (1, v), (0, 0)], [(1, 0)], (m, none)) = ob_E (127, 57, [(10, 0), (1, k), (1, v), (1, 0)], [(1, kk), (5, 0)], (m, none)) := by
      rw [sg_X7_blame_25, if_pos rfl, ← hkk]
      by_cases c2 : v = -2
      · simp (disch := first | omega | assumption) only [↓if_pos, ↓if_neg, Option.bind_some, ob_wr_id]
      · by_cases c3 : v = -3
        · simp (disch := first | omega | assumption) only [↓if_pos, ↓if_neg, Option.bind_some, ob_wr_id]
        · simp (disch := first | omega | assumption) only [↓if_pos, ↓if_neg, Option.bind_some, ob_wr_id]
    refine ⟨ob_set (tel m kk 0 0) 2 0 0 k, ?_, fun k' i x z => ?_, rs_e rfl rfl, fun z => absurd z c, fun _ => ?_⟩
    · rw [h25, h57]
      simp (disch := first | omega | assumption) only [↓if_pos, ↓if_neg, Option.bind_some, ob_wr_id, sg_X7_blame_57, cl_tell, sg_X7_blame_62]
    · unfold tel
      simp (disch := omega) only [rs_k, rs_i, rs_s, rs_e, up_e, up_n]
    · unfold tel
      simp (disch := omega) only [rs_k, rs_i, rs_s, rs_e, up_e, up_n]
      first | trivial | exact ⟨rfl, rfl, rfl⟩ | exact ⟨trivial, trivial, trivial⟩
