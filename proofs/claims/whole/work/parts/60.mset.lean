-- SETTLING: whether tunes can lie beside one another; the model's search
def BV (v : Int) (P : Prop) : Prop := (v = 1 ∧ P) ∨ (v = 0 ∧ ¬ P)
/-- notes i of t by no shift and j of u by d can be -/
def abP (s : Int → Int) (t u d i j : Int) : Prop := nrB (s 2 * s (12 + 116 * t + (3 + 3 * i)) + t) (s 2 * s (12 + 116 * u + (3 + 3 * j)) + u) = true → beB (s 0) (s 4) (bg s t i 0) (hd s t i) (bg s u j d) (hd s u j) = true
def AB (s : Int → Int) (t u d : Int) : Prop := ∀ i j, 0 ≤ i → i < s (12 + 116 * t + 2) → 0 ≤ j → j < s (12 + 116 * u + 2) → abP s t u d i j
theorem md_areBeside {W : Int} (m : ob_Mem) {t u d : Int} (hV : VV W (m 40 0)) (ht : 0 ≤ t ∧ t < 3) (hu : 0 ≤ u ∧ u < 3) (hd0 : 0 ≤ d ∧ d < m 40 0 0) : wp (ob_E (192, 0, [(11, 0), (1, t), (1, u), (1, d), (0, 0), (0, 0), (0, 0), (0, 0)], [], (m, none))) (fun v m' => m' = m ∧ BV v (AB (m 40 0) t u d)) := by
  obtain ⟨⟨v1, v2, v3, v4, v5, -⟩, v8⟩ := id hV
  obtain ⟨⟨-, -, w3, -, w5⟩, -⟩ := v8 t ht.1 ht.2
  obtain ⟨⟨-, -, x3, -, x5⟩, -⟩ := v8 u hu.1 hu.2
  rw [sg_X8_areBeside_0]
  refine wp_for (fun y (x : Int × ob_AV × ob_AV) => ob_E (192, 6, [(11, 0), (1, t), (1, u), (1, d), (1, x.1), (1, y), x.2.1, x.2.2], [], (m, none))) 0 (m 40 0 (12 + 116 * t + 2)) (fun y x => (x.1 = 1 ∧ ∀ i j, 0 ≤ i → i < y → 0 ≤ j → j < m 40 0 (12 + 116 * u + 2) → abP (m 40 0) t u d i j) ∨ (x.1 = 0 ∧ ¬ AB (m 40 0) t u d)) ?_ ?_ (by omega) (x := (1, (0, 0), (0, 0))) (Or.inl ⟨rfl, fun i j a b => absurd a (by omega)⟩)
  · intro y ⟨x1, x2, x4⟩ h1 h2 hI hk
    have hI : (x1 = 1 ∧ ∀ i j, 0 ≤ i → i < y → 0 ≤ j → j < m 40 0 (12 + 116 * u + 2) → abP (m 40 0) t u d i j) ∨ (x1 = 0 ∧ ¬ AB (m 40 0) t u d) := hI
    have hN := VV_NV hV ht ⟨h1, h2⟩
    have hb := bg_b hN (d := 0) (by omega) (by omega)
    have hh := hd_b hN
    obtain ⟨-, n2⟩ := w5 y h1 h2
    have hx := ob_mulb (show 0 ≤ m 40 0 2 by omega) v3.2 n2.1 (show m 40 0 (12 + 116 * t + (3 + 3 * y)) ≤ 6 by omega)
    show wp (ob_E (192, 6, [(11, 0), (1, t), (1, u), (1, d), (1, x1), (1, y), x2, x4], [], (m, none))) _
    rw [sg_X8_areBeside_6]
    simp (disch := first | omega | assumption) only [↓if_pos, ↓if_neg, Option.bind_some, ob_wr_id, md_of, sg_X8_areBeside_14]
    refine wp_for (fun z (x : Int × ob_AV) => ob_E (192, 20, [(11, 0), (1, t), (1, u), (1, d), (1, x.1), (1, y), (1, z), x.2], [], (m, none))) 0 (m 40 0 (12 + 116 * u + 2)) (fun z x => (x.1 = 1 ∧ (∀ i j, 0 ≤ i → i < y → 0 ≤ j → j < m 40 0 (12 + 116 * u + 2) → abP (m 40 0) t u d i j) ∧ ∀ j, 0 ≤ j → j < z → abP (m 40 0) t u d y j) ∨ (x.1 = 0 ∧ ¬ AB (m 40 0) t u d)) ?_ ?_ (by omega) (x := (x1, x4)) ?_
    · intro z ⟨y1, y2⟩ g1 g2 hJ hk2
      have hJ : (y1 = 1 ∧ (∀ i j, 0 ≤ i → i < y → 0 ≤ j → j < m 40 0 (12 + 116 * u + 2) → abP (m 40 0) t u d i j) ∧ ∀ j, 0 ≤ j → j < z → abP (m 40 0) t u d y j) ∨ (y1 = 0 ∧ ¬ AB (m 40 0) t u d) := hJ
      have hN2 := VV_NV hV hu ⟨g1, g2⟩
      have hb2 := bg_b hN2 hd0.1 hd0.2
      have hh2 := hd_b hN2
      obtain ⟨-, o2⟩ := x5 z g1 g2
      have hx2 := ob_mulb (show 0 ≤ m 40 0 2 by omega) v3.2 o2.1 (show m 40 0 (12 + 116 * u + (3 + 3 * z)) ≤ 6 by omega)
      show wp (ob_E (192, 20, [(11, 0), (1, t), (1, u), (1, d), (1, y1), (1, y), (1, z), y2], [], (m, none))) _
      rw [sg_X8_areBeside_20]
      simp (disch := first | omega | assumption) only [↓if_pos, ↓if_neg, Option.bind_some, ob_wr_id, md_of, sg_X8_areBeside_28, md_key, sg_X8_areBeside_40, md_track, sg_X8_areBeside_43, sg_X8_areBeside_52, sg_X8_areBeside_55, md_areN2, sg_X8_areBeside_58]
      rcases hJ with ⟨e1, e2, e3⟩ | ⟨e1, e2⟩
      · subst e1
        by_cases c1 : nrB (m 40 0 2 * m 40 0 (12 + 116 * t + (3 + 3 * y)) + t) (m 40 0 2 * m 40 0 (12 + 116 * u + (3 + 3 * z)) + u) = true
        · rw [if_pos c1]
          simp (disch := first | omega | assumption) only [↓if_pos, ↓if_neg, Option.bind_some, ob_wr_id, md_begin, sg_X8_areBeside_79, md_hold, sg_X8_areBeside_86, sg_X8_areBeside_94, sg_X8_areBeside_101, md_isBeside2]
          by_cases c2 : beB (m 40 0 0) (m 40 0 4) (bg (m 40 0) t y 0) (hd (m 40 0) t y) (bg (m 40 0) u z d) (hd (m 40 0) u z) = true
          · rw [if_pos c2]
            simp (disch := first | omega | assumption) only [↓if_pos, ↓if_neg, Option.bind_some, ob_wr_id, sg_X8_areBeside_104, sg_X8_areBeside_107, sg_X8_areBeside_112]
            refine hk2 (_, _) (Or.inl ⟨rfl, e2, fun j a b => ?_⟩)
            by_cases ee : j = z
            · rw [ee]
              exact fun _ => c2
            · exact e3 j a (by omega)
          · rw [if_neg c2]
            simp (disch := first | omega | assumption) only [↓if_pos, ↓if_neg, Option.bind_some, ob_wr_id, sg_X8_areBeside_104, sg_X8_areBeside_111, sg_X8_areBeside_112]
            exact hk2 (_, _) (Or.inr ⟨rfl, fun q => c2 (q y z h1 h2 g1 g2 c1)⟩)
        · rw [if_neg c1]
          simp (disch := first | omega | assumption) only [↓if_pos, ↓if_neg, Option.bind_some, ob_wr_id, sg_X8_areBeside_107, sg_X8_areBeside_112]
          refine hk2 (_, _) (Or.inl ⟨rfl, e2, fun j a b => ?_⟩)
          by_cases ee : j = z
          · rw [ee]
            exact fun q => absurd q c1
          · exact e3 j a (by omega)
      · subst e1
        simp (disch := first | omega | assumption) only [↓if_pos, ↓if_neg, Option.bind_some, ob_wr_id, sg_X8_areBeside_111, sg_X8_areBeside_112]
        exact hk2 (_, _) (Or.inr ⟨rfl, e2⟩)
    · intro ⟨y1, y2⟩ hJ
      have hJ : (y1 = 1 ∧ (∀ i j, 0 ≤ i → i < y → 0 ≤ j → j < m 40 0 (12 + 116 * u + 2) → abP (m 40 0) t u d i j) ∧ ∀ j, 0 ≤ j → j < m 40 0 (12 + 116 * u + 2) → abP (m 40 0) t u d y j) ∨ (y1 = 0 ∧ ¬ AB (m 40 0) t u d) := hJ
      show wp (ob_E (192, 20, [(11, 0), (1, t), (1, u), (1, d), (1, y1), (1, y), (1, m 40 0 (12 + 116 * u + 2)), y2], [], (m, none))) _
      rw [sg_X8_areBeside_20]
      simp (disch := first | omega | assumption) only [↓if_pos, ↓if_neg, Option.bind_some, ob_wr_id, md_of, sg_X8_areBeside_28]
      refine hk (_, _, _) ?_
      rcases hJ with ⟨e1, e2, e3⟩ | ⟨e1, e2⟩
      · refine Or.inl ⟨e1, fun i j a b c d => ?_⟩
        by_cases ee : i = y
        · rw [ee]
          exact e3 j c d
        · exact e2 i j a (by omega) c d
      · exact Or.inr ⟨e1, e2⟩
    · rcases hI with ⟨e1, e2⟩ | ⟨e1, e2⟩
      · exact Or.inl ⟨e1, e2, fun j a b => absurd a (by omega)⟩
      · exact Or.inr ⟨e1, e2⟩
  · intro ⟨x1, x2, x4⟩ hI
    have hI : (x1 = 1 ∧ ∀ i j, 0 ≤ i → i < m 40 0 (12 + 116 * t + 2) → 0 ≤ j → j < m 40 0 (12 + 116 * u + 2) → abP (m 40 0) t u d i j) ∨ (x1 = 0 ∧ ¬ AB (m 40 0) t u d) := hI
    show wp (ob_E (192, 6, [(11, 0), (1, t), (1, u), (1, d), (1, x1), (1, m 40 0 (12 + 116 * t + 2)), x2, x4], [], (m, none))) _
    rw [sg_X8_areBeside_6]
    simp (disch := first | omega | assumption) only [↓if_pos, ↓if_neg, Option.bind_some, ob_wr_id, md_of, sg_X8_areBeside_14]
    exact wp_ret ⟨rfl, hI⟩
theorem BV_i {v : Int} {P : Prop} (h : BV v P) : v = 0 ∨ v = 1 := by
  rcases h with ⟨h, -⟩ | ⟨h, -⟩
  · exact Or.inr h
  · exact Or.inl h
theorem AB_e {s : Int → Int} {t u d : Int} (h : s (12 + 116 * t + 2) ≤ 0 ∨ s (12 + 116 * u + 2) ≤ 0) : AB s t u d := fun i j a b c e => by omega
/-- all that triesAll has tried -/
def can (m : ob_Mem) (s : Int → Int) (y : Int) : Prop := ∀ d, 0 ≤ d → d < y → BV (m 45 0 d) (AB s 0 1 d) ∧ BV (m 45 0 (24 + d)) (AB s 0 2 d) ∧ BV (m 45 0 (48 + d)) (AB s 1 2 d)
theorem md_triesAll {W : Int} (m : ob_Mem) (hV : VV W (m 40 0)) : wp (ob_E (193, 0, [(11, 0), (0, 0)], [], (m, none))) (fun _ m' => can m' (m 40 0) (m 40 0 0) ∧ sm (fun k i => k = 45 ∧ i = 0) m m') := by
  obtain ⟨⟨v1, v2, v3, v4, v5, -⟩, v8⟩ := id hV
  obtain ⟨⟨-, -, -, x4, -⟩, -⟩ := v8 2 (by omega) (by omega)
  rw [sg_X8_triesAll_0]
  refine wp_for (fun y (m' : ob_Mem) => ob_E (193, 2, [(11, 0), (1, y)], [], (m', none))) 0 (m 40 0 0) (fun y m' => can m' (m 40 0) y ∧ sm (fun k i => k = 45 ∧ i = 0) m m') ?_ ?_ (by omega) ⟨fun d a b => absurd a (by omega), sm_r⟩
  · intro y m1 h1 h2 ⟨i1, i2⟩ hk
    have er : ∀ m', sm (fun k i => k = 45 ∧ i = 0) m m' → m' 40 0 = m 40 0 := fun m' h => by
      funext p
      exact h 40 0 p (fun z => by have := z.1; omega)
    have e1 := er m1 i2
    have V1 : VV W (m1 40 0) := by rw [e1]; exact hV
    have r1 : m1 40 0 0 = m 40 0 0 := by rw [e1]
    have r2 : m1 40 0 2 = m 40 0 2 := by rw [e1]
    rw [sg_X8_triesAll_2]
    simp (disch := first | omega | assumption) only [↓if_pos, ↓if_neg, Option.bind_some, ob_wr_id, md_round, sg_X8_triesAll_7]
    refine wp_b (md_areBeside m1 V1 (by omega) (by omega) (by omega)) (fun v m2 hv => ?_)
    obtain ⟨rfl, hv⟩ := hv
    have hv' := BV_i hv
    rw [e1] at hv
    rw [sg_X8_triesAll_22, if_pos ⟨by omega, hv'⟩]
    generalize hM : ob_set m2 45 0 y v = m3
    have i3 : sm (fun k i => k = 45 ∧ i = 0) m m3 := by rw [← hM]; exact sm_set i2 ⟨rfl, rfl⟩
    have e3 := er m3 i3
    have r3 : m3 40 0 2 = m 40 0 2 := by rw [e3]
    have r30 : m3 40 0 0 = m 40 0 0 := by rw [e3]
    have V3 : VV W (m3 40 0) := by rw [e3]; exact hV
    simp (disch := first | omega | assumption) only [↓if_pos, ↓if_neg, Option.bind_some, ob_wr_id, md_tunes]
    have K3 : ∀ v2, BV v2 (AB (m 40 0) 0 2 y) → wp (ob_E (193, 54, [(11, 0), (1, y)], [(1, v2), (1, 24 + y), (48, 0)], (m3, none))) (fun _ m' => can m' (m 40 0) (m 40 0 0) ∧ sm (fun k i => k = 45 ∧ i = 0) m m') := by
      intro v2 h2v
      have h2v' := BV_i h2v
      rw [sg_X8_triesAll_54, if_pos ⟨by omega, h2v'⟩]
      generalize hM4 : ob_set m3 45 0 (24 + y) v2 = m4
      have i4 : sm (fun k i => k = 45 ∧ i = 0) m m4 := by rw [← hM4]; exact sm_set i3 ⟨rfl, rfl⟩
      have e4 := er m4 i4
      have r4 : m4 40 0 2 = m 40 0 2 := by rw [e4]
      have r40 : m4 40 0 0 = m 40 0 0 := by rw [e4]
      have V4 : VV W (m4 40 0) := by rw [e4]; exact hV
      simp (disch := first | omega | assumption) only [↓if_pos, ↓if_neg, Option.bind_some, ob_wr_id, md_tunes]
      have K4 : ∀ v3, BV v3 (AB (m 40 0) 1 2 y) → wp (ob_E (193, 86, [(11, 0), (1, y)], [(1, v3), (1, 48 + y), (48, 0)], (m4, none))) (fun _ m' => can m' (m 40 0) (m 40 0 0) ∧ sm (fun k i => k = 45 ∧ i = 0) m m') := by
        intro v3 h3v
        have h3v' := BV_i h3v
        rw [sg_X8_triesAll_86, if_pos ⟨by omega, h3v'⟩, ob_wr_id (by omega) (by omega)]
        refine hk _ ⟨fun d a b => ?_, sm_set i4 ⟨rfl, rfl⟩⟩
        by_cases ee : d = y
        · subst ee
          rw [rs_s (by omega), rs_s (by omega), rs_e rfl rfl, ← hM4, rs_s (by omega), rs_e rfl rfl, ← hM, rs_e rfl rfl]
          exact ⟨hv, h2v, h3v⟩
        · rw [rs_s (by omega), rs_s (by omega), rs_s (by omega), ← hM4, rs_s (by omega), rs_s (by omega), rs_s (by omega), ← hM, rs_s (by omega), rs_s (by omega), rs_s (by omega)]
          exact i1 d a (by omega)
      by_cases c : m 40 0 2 < 3
      · simp (disch := first | omega | assumption) only [↓if_pos, ↓if_neg, Option.bind_some, ob_wr_id, sg_X8_triesAll_67, sg_X8_triesAll_81]
        exact K4 1 (Or.inl ⟨rfl, AB_e (by have := x4 (by omega); omega)⟩)
      · simp (disch := first | omega | assumption) only [↓if_pos, ↓if_neg, Option.bind_some, ob_wr_id, sg_X8_triesAll_67]
        refine wp_b (md_areBeside m4 V4 (by omega) (by omega) (by omega)) (fun v3 m5 h5 => ?_)
        obtain ⟨rfl, h5⟩ := h5
        rw [e4] at h5
        rw [sg_X8_triesAll_78]
        rcases h5 with ⟨z1, z2⟩ | ⟨z1, z2⟩
        · subst z1
          simp (disch := first | omega | assumption) only [↓if_pos, ↓if_neg, Option.bind_some, ob_wr_id, sg_X8_triesAll_81]
          exact K4 1 (Or.inl ⟨rfl, z2⟩)
        · subst z1
          simp (disch := first | omega | assumption) only [↓if_pos, ↓if_neg, Option.bind_some, ob_wr_id]
          exact K4 0 (Or.inr ⟨rfl, z2⟩)
    by_cases c : m 40 0 2 < 3
    · simp (disch := first | omega | assumption) only [↓if_pos, ↓if_neg, Option.bind_some, ob_wr_id, sg_X8_triesAll_35, sg_X8_triesAll_49]
      exact K3 1 (Or.inl ⟨rfl, AB_e (by have := x4 (by omega); omega)⟩)
    · simp (disch := first | omega | assumption) only [↓if_pos, ↓if_neg, Option.bind_some, ob_wr_id, sg_X8_triesAll_35]
      refine wp_b (md_areBeside m3 V3 (by omega) (by omega) (by omega)) (fun v3 m5 h5 => ?_)
      obtain ⟨rfl, h5⟩ := h5
      rw [e3] at h5
      rw [sg_X8_triesAll_46]
      rcases h5 with ⟨z1, z2⟩ | ⟨z1, z2⟩
      · subst z1
        simp (disch := first | omega | assumption) only [↓if_pos, ↓if_neg, Option.bind_some, ob_wr_id, sg_X8_triesAll_49]
        exact K3 1 (Or.inl ⟨rfl, z2⟩)
      · subst z1
        simp (disch := first | omega | assumption) only [↓if_pos, ↓if_neg, Option.bind_some, ob_wr_id]
        exact K3 0 (Or.inr ⟨rfl, z2⟩)
  · intro m1 ⟨i1, i2⟩
    have r1 : m1 40 0 0 = m 40 0 0 := i2 40 0 0 (fun z => by have := z.1; omega)
    rw [sg_X8_triesAll_2]
    simp (disch := first | omega | assumption) only [↓if_pos, ↓if_neg, Option.bind_some, ob_wr_id, md_round, sg_X8_triesAll_7]
    exact wp_ret ⟨i1, i2⟩
def sN (s : Int → Int) (t : Int) : Int := if 0 < s (12 + 116 * t + 2) then s 0 else 1
theorem md_shifts {W : Int} (m : ob_Mem) {t : Int} (hV : VV W (m 40 0)) (ht : 0 ≤ t ∧ t < 3) : ob_E (194, 0, [(11, 0), (1, t)], [], (m, none)) = some (sN (m 40 0) t, (m, none)) := by
  obtain ⟨⟨-, -, -, x4, -⟩, -⟩ := hV.2 t ht.1 ht.2
  unfold sN
  by_cases c : t < m 40 0 2
  · by_cases c2 : 0 < m 40 0 (12 + 116 * t + 2)
    · simp (disch := first | omega | assumption) only [↓if_pos, ↓if_neg, Option.bind_some, ob_wr_id, sg_X8_shifts_0, sg_X8_shifts_5, sg_X8_shifts_14, sg_X8_shifts_21, md_tunes, md_of, md_round]
    · simp (disch := first | omega | assumption) only [↓if_pos, ↓if_neg, Option.bind_some, ob_wr_id, sg_X8_shifts_0, sg_X8_shifts_5, sg_X8_shifts_14, sg_X8_shifts_21, md_tunes, md_of, md_round]
  · have := x4 (by omega)
    simp (disch := first | omega | assumption) only [↓if_pos, ↓if_neg, Option.bind_some, ob_wr_id, sg_X8_shifts_0, sg_X8_shifts_5, sg_X8_shifts_14, sg_X8_shifts_21, md_tunes]
def OKT (s : Int → Int) (a b c : Int) : Prop := AB s 0 1 (dist (s 0) a b) ∧ AB s 0 2 (dist (s 0) a c) ∧ AB s 1 2 (dist (s 0) b c)
def inR (s : Int → Int) (a b c : Int) : Prop := (0 ≤ a ∧ a < sN s 0) ∧ (0 ≤ b ∧ b < sN s 1) ∧ (0 ≤ c ∧ c < sN s 2)
def TT (a b c : Int) : Int := (a + b + c) * 32768 + a * 1024 + b * 32 + c
/-- v tells the least of those in Q that can be, or that there is none -/
def MN (s : Int → Int) (Q : Int → Int → Int → Prop) (v : Int) : Prop := (v = -1 ∧ ∀ a b c, inR s a b c → Q a b c → ¬ OKT s a b c) ∨ ∃ a b c, inR s a b c ∧ OKT s a b c ∧ v = TT a b c ∧ ∀ a' b' c', inR s a' b' c' → Q a' b' c' → OKT s a' b' c' → v ≤ TT a' b' c'
theorem MN_m {s : Int → Int} {Q Q' : Int → Int → Int → Prop} {v : Int} (h : MN s Q v) (hq : ∀ a b c, inR s a b c → Q' a b c → Q a b c) : MN s Q' v := by
  rcases h with ⟨h1, h2⟩ | ⟨a, b, c, h1, h2, h3, h4⟩
  · exact Or.inl ⟨h1, fun a b c x y => h2 a b c x (hq a b c x y)⟩
  · exact Or.inr ⟨a, b, c, h1, h2, h3, fun a' b' c' x y z => h4 a' b' c' x (hq a' b' c' x y) z⟩
theorem sN_b {s : Int → Int} {t : Int} (h : 6 ≤ s 0 ∧ s 0 ≤ 24) : 1 ≤ sN s t ∧ sN s t ≤ s 0 := by
  unfold sN
  split <;> omega
theorem MN_n {s : Int → Int} {Q : Int → Int → Int → Prop} {v : Int} (h : MN s Q v) : v = -1 ∨ 0 ≤ v := by
  rcases h with ⟨h1, h2⟩ | ⟨a, b, c, ⟨h1, h5, h6⟩, h2, h3, h4⟩
  · exact Or.inl h1
  · unfold TT at h3
    exact Or.inr (by omega)
