-- JOINS: pins, settles, fits, tune, noteOf, why, told, type, clear, back
def fq (m m' : ob_Mem) : Prop := ∀ k i x, (k ≠ 8 ∧ k < 40) ∨ k = 40 ∨ k = 41 ∨ k = 43 ∨ k = 44 ∨ k = 55 ∨ (k = 8 ∧ (x = 3 ∨ x = 22)) → m' k i x = m k i x
theorem fq_r {m : ob_Mem} : fq m m := fun _ _ _ _ => rfl
theorem fq_t {m m' m'' : ob_Mem} (h : fq m m') (h' : fq m' m'') : fq m m'' := fun k i s q => (h' k i s q).trans (h k i s q)
theorem fq_row {m m' : ob_Mem} (h : fq m m') : m' 40 0 = m 40 0 := by
  funext p
  exact h 40 0 p (by omega)
theorem fq_bec {m : ob_Mem} {a b c : Int} : fq m (bec m a b c) := by
  intro k i x h
  unfold bec
  by_cases z : k = 8
  · simp (disch := omega) only [rs_k, rs_i, rs_s, rs_e, up_e, up_n]
  · simp (disch := omega) only [rs_k, rs_i, rs_s, rs_e, up_e, up_n]
theorem J_q {W : Int} {m m1 m2 : ob_Mem} (h : Inv W m) (hl : lv m m1) (hC : CH W m1 (m 40 0) (m 8 0 3) (fun i p => m 41 0 (360 * i + p))) (h7 : ∀ x, 8 ≤ x → x ≤ 10 → m1 7 0 x = m 7 0 x) (h2 : ∀ x, m1 2 0 x = m 2 0 x) (hq : fq m1 m2) : Inv W m2 := by
  obtain ⟨i1, i2, i3, i4, i5, i6⟩ := h
  have e40 : m2 40 0 = m 40 0 := (fq_row hq).trans (lv_r hl (by omega))
  have e41 : ∀ x, m2 41 0 x = m 41 0 x := fun x => (hq 41 0 x (by omega)).trans (hl 41 0 x (by omega))
  have e83 : m2 8 0 3 = m 8 0 3 := (hq 8 0 3 (by omega)).trans (hl 8 0 3 (by omega))
  have e822 : m2 8 0 22 = m 8 0 22 := (hq 8 0 22 (by omega)).trans (hl 8 0 22 (by omega))
  have hm : ∀ k i x, k ≠ 8 ∧ k < 40 → m2 k i x = m1 k i x := fun k i x hk => hq k i x (by omega)
  have e44 : ∀ x, m2 44 0 x = m 44 0 x := fun x => (hq 44 0 x (by omega)).trans (hl 44 0 x (by omega))
  refine ⟨?_, fun x a b => ?_, ?_, ?_, ?_, fun i a b => ?_⟩
  · rw [e40, e83]
    exact CH_m (Int.le_refl _) hC hm (fun _ _ _ => rfl) (fun i _ _ p _ _ => e41 _)
  · rw [hm 7 0 x (by omega), h7 x a b, hq 43 0 _ (by omega), hl 43 0 _ (by omega)]
    exact i2 x a b
  · rw [hm 2 0 1 (by omega), hm 2 0 2 (by omega), hm 2 0 3 (by omega), hm 2 0 0 (by omega), h2, h2, h2, h2, e44, e44, e44, e44]
    exact i3
  · rw [hm 6 0 0 (by omega), hl 6 0 0 (by omega), e822]
    exact i4
  · rw [e822]
    exact i5
  · rw [e822] at b
    rw [hm 36 0 i (by omega), hl 36 0 i (by omega), hq 55 0 _ (by omega), hl 55 0 _ (by omega)]
    exact i6 i a b
/-- a question refused -/
theorem J_bad {W : Int} {m m2 : ob_Mem} {v : Int} (h : Inv W m) (hv : -4 ≤ v ∧ v ≤ -2) (hR : RF (ob_set m 7 0 (6 - v) (ob_wr (m 7 0 (6 - v) + 1))) v m2) : Inv W m2 ∧ ∀ k i x, k = 14 ∨ k = 15 → m2 k i x = m k i x := by
  refine ⟨J_ref h (fun k i x hk => rs_k (by omega)) hv (CH_7 h.1 (by omega)) (fun x a b => ?_) (fun x => rs_k (by omega)) hR, fun k i x hk => by rw [hR.2.2.2.2.2 k i x (by omega), rs_k (by omega)]⟩
  by_cases e : x = 6 - v
  · rw [rs_e rfl e, if_pos e, e]
  · rw [rs_s e, if_neg e]
/-- a question answered, with nothing but scratch written -/
theorem J_ask {W : Int} {m m1 m2 : ob_Mem} (h : Inv W m) (hs : sm (fun k i => gL k i ∨ k = 1 ∨ (19 ≤ k ∧ k ≤ 25)) m m1) (hq : fq m1 m2) : Inv W m2 ∧ ∀ k i x, k = 14 ∨ k = 15 → m2 k i x = m k i x := by
  have e : ∀ k i x, ¬ (k = 1 ∨ (19 ≤ k ∧ k ≤ 25)) → ¬ gL k i → m1 k i x = m k i x := fun k i x a b => hs k i x (fun z => by
    rcases z with z | z
    · exact b z
    · exact a z)
  have nl : ∀ k i, k = 7 ∨ k = 2 ∨ k = 39 ∨ k = 6 ∨ k = 36 ∨ k = 8 ∨ 40 ≤ k ∨ k = 14 ∨ k = 15 → ¬ gL k i := fun k i hk z => by
    rcases z with ⟨z1, z2⟩ | ⟨z1, z2⟩ | z1 <;> omega
  have e2 : ∀ k i x, k = 7 ∨ k = 2 ∨ k = 39 ∨ k = 6 ∨ k = 36 ∨ k = 8 ∨ 40 ≤ k ∨ k = 14 ∨ k = 15 → m1 k i x = m k i x := fun k i x hk => e k i x (by omega) (nl k i hk)
  obtain ⟨⟨h0, h1⟩, h2, ⟨h3, h3'⟩, h4⟩ := id h.1
  have fR : ∀ j q, 0 ≤ j ∧ j < 7 → VV W q → Rep m j q → Rep m1 j q := fun j q hj a b => Rep_sm a b (fun k i p z => e k i p (by rcases z with ⟨z1, z2⟩ | ⟨z1, z2⟩ | ⟨z1, z2⟩ <;> omega) (fun y => gB_gA hj z (Or.inl y)))
  have hC : CH W m1 (m 40 0) (m 8 0 3) (fun i p => m 41 0 (360 * i + p)) := by
    refine ⟨⟨h0, by rw [e2 7 0 3 (by omega), h1]⟩, bij_c h2 (e2 7 _ _ (by omega)) (e2 7 _ _ (by omega)) (fun i => e2 39 _ _ (by omega)), ⟨h3, by rw [e2 7 _ _ (by omega)]; exact fR _ _ (h2.1 0 (by omega) (by omega)) h3 h3'⟩, fun i a b => ?_⟩
    obtain ⟨g1, g2⟩ := h4 i a b
    have b1 := h2.1 (2 + i) (by omega) (by omega)
    rw [bi2 a] at b1
    exact ⟨g1, by rw [e2 39 _ _ (by omega)]; exact fR _ _ b1 g1 g2⟩
  exact ⟨J_q h (fun k i x hk => e2 k i x (by omega)) hC (fun x a b => e2 7 0 x (by omega)) (fun x => e2 2 0 x (by omega)) hq, fun k i x hk => by rw [hq k i x (by omega), e2 k i x (by omega)]⟩
theorem J_badA {W : Int} {m : ob_Mem} {v w : Int} {cx mx : ob_Mem → ob_Res} (h : Inv W m) (hv : -4 ≤ v ∧ v ≤ -2) (hc : cx m = some (w, (ob_set m 7 0 (6 - v) (ob_wr (m 7 0 (6 - v) + 1)), none))) (hx : ∀ m1, (∀ k i x, k ≠ 7 → m1 k i x = m k i x) → m1 40 0 = m 40 0 → mx m1 = some (w, (rfs m1 v, none))) : Agr W W m cx mx := by
  obtain ⟨j1, j2⟩ := J_bad (v := v) h hv RF_rfs
  exact ⟨w, _, _, hc, hx _ (fun k i x hk => rs_k hk) (rw_k (by omega)), j1, fun k i x hk => ⟨rs_k (by omega), j2 k i x hk⟩⟩
theorem ag_tune {W : Int} {m : ob_Mem} {t w : Int} (h : Inv W m) : Agr W W m (fun m => ob_E (91, 0, [(10, 0), (1, t), (1, w)], [], (m, none))) (fun m => ob_E (173, 0, [(11, 0), (1, t), (1, w)], [], (m, none))) := by
  obtain ⟨hV, hn⟩ := Inv_V h
  have hR := h.1.2.2.1.2
  have eT := rpT hR
  obtain ⟨⟨v1, v2, v3, -⟩, -⟩ := id hV
  have c3 : 2 ≤ m 0 (m 7 0 0) 2 ∧ m 0 (m 7 0 0) 2 ≤ 3 := by omega
  by_cases c1 : 0 ≤ t ∧ t < m 40 0 2
  · by_cases c2 : 0 ≤ w ∧ w ≤ 7
    · obtain ⟨j1, j2⟩ := J_ask h (m1 := m) (m2 := m) sm_r fq_r
      have ht : 0 ≤ t ∧ t < 3 := by omega
      refine ⟨tuV (m 40 0) t w, m, m, ?_, ?_, j1, fun k i x hk => ⟨rfl, j2 k i x hk⟩⟩
      · show ob_E (91, 0, [(10, 0), (1, t), (1, w)], [], (m, none)) = _
        simp (disch := first | omega | assumption) only [↓if_pos, ↓if_neg, Option.bind_some, ob_wr_id, sg_X7_tune_0, sg_X7_tune_8, sg_X7_tune_18, sg_X7_tune_21, sg_X7_tune_27, sg_X7_tune_37, cl_hasTune, cl_within, cl_tuneValue hV hR ht c2]
      · show ob_E (173, 0, [(11, 0), (1, t), (1, w)], [], (m, none)) = _
        simp (disch := first | omega | assumption) only [↓if_pos, ↓if_neg, Option.bind_some, ob_wr_id, sg_X8_tune_0, sg_X8_tune_5, sg_X8_tune_17, sg_X8_tune_26, sg_X8_tune_29, sg_X8_tune_35, md_isTune, md_in, md_tuneNow]
    · refine J_badA (v := -2) (w := -2) h (by omega) ?_ (fun m1 e er => ?_)
      · show ob_E (91, 0, [(10, 0), (1, t), (1, w)], [], (m, none)) = _
        simp (disch := first | omega | assumption) only [↓if_pos, ↓if_neg, Option.bind_some, ob_wr_id, sg_X7_tune_0, sg_X7_tune_8, sg_X7_tune_18, sg_X7_tune_21, sg_X7_tune_27, sg_X7_tune_37, cl_hasTune, cl_within, cl_refused]
      · have er : m1 40 0 2 = m 40 0 2 := by rw [er]
        show ob_E (173, 0, [(11, 0), (1, t), (1, w)], [], (m1, none)) = _
        simp (disch := first | omega | assumption) only [↓if_pos, ↓if_neg, Option.bind_some, ob_wr_id, sg_X8_tune_0, sg_X8_tune_5, sg_X8_tune_17, sg_X8_tune_26, sg_X8_tune_29, sg_X8_tune_35, md_isTune, md_in, md_refuses]
  · refine J_badA (v := -2) (w := -2) h (by omega) ?_ (fun m1 e er => ?_)
    · show ob_E (91, 0, [(10, 0), (1, t), (1, w)], [], (m, none)) = _
      simp (disch := first | omega | assumption) only [↓if_pos, ↓if_neg, Option.bind_some, ob_wr_id, sg_X7_tune_0, sg_X7_tune_8, sg_X7_tune_18, sg_X7_tune_21, sg_X7_tune_27, sg_X7_tune_37, cl_hasTune, cl_within, cl_refused]
    · have er : m1 40 0 2 = m 40 0 2 := by rw [er]
      show ob_E (173, 0, [(11, 0), (1, t), (1, w)], [], (m1, none)) = _
      simp (disch := first | omega | assumption) only [↓if_pos, ↓if_neg, Option.bind_some, ob_wr_id, sg_X8_tune_0, sg_X8_tune_5, sg_X8_tune_17, sg_X8_tune_26, sg_X8_tune_29, sg_X8_tune_35, md_isTune, md_in, md_refuses]
theorem ag_noteOf {W : Int} {m : ob_Mem} {t i w : Int} (h : Inv W m) : Agr W W m (fun m => ob_E (92, 0, [(10, 0), (1, t), (1, i), (1, w)], [], (m, none))) (fun m => ob_E (175, 0, [(11, 0), (1, t), (1, i), (1, w)], [], (m, none))) := by
  obtain ⟨hV, hn⟩ := Inv_V h
  have hR := h.1.2.2.1.2
  have eT := rpT hR
  obtain ⟨⟨v1, v2, v3, -⟩, v8⟩ := id hV
  have hN := md_isNote m (t := t) (i := i) v3 (fun a b => (v8 t a b).1.2.2.1)
  have hNb : ∀ m1, m1 40 0 = m 40 0 → ob_E (167, 0, [(11, 0), (1, t), (1, i)], [], (m1, none)) = some (if (0 ≤ t ∧ t < m 40 0 2) ∧ 0 ≤ i ∧ i < m 40 0 (12 + 116 * t + 2) then 1 else 0, (m1, none)) := fun m1 e => by
    have := md_isNote m1 (t := t) (i := i) (by rw [e]; exact v3) (fun a b => by rw [e]; exact (v8 t a b).1.2.2.1)
    rw [e] at this
    exact this
  have hCn : ob_E (5, 0, [(3, m 7 0 0), (1, t), (1, i)], [], (m, none)) = some (if (0 ≤ t ∧ t < m 40 0 2) ∧ 0 ≤ i ∧ i < m 40 0 (12 + 116 * t + 2) then 1 else 0, (m, none)) := by
    by_cases c1 : 0 ≤ t ∧ t < m 40 0 2
    · have em := rpm hR (t := t) (by omega)
      have := cl_hasNote m (j := m 7 0 0) (t := t) (i := i) (by omega) (by rw [em]; exact (v8 t (by omega) (by omega)).1.2.2.1)
      rw [em, eT] at this
      exact this
    · rw [if_neg (fun z => c1 z.1), sg_X0_hasNote_0, cl_hasTune m (by omega), eT, if_neg c1]
      simp (disch := first | omega | assumption) only [↓if_pos, ↓if_neg, Option.bind_some, ob_wr_id, sg_X0_hasNote_5]
  have bad : ¬ (((0 ≤ t ∧ t < m 40 0 2) ∧ 0 ≤ i ∧ i < m 40 0 (12 + 116 * t + 2)) ∧ 0 ≤ w ∧ w ≤ 4) → Agr W W m (fun m => ob_E (92, 0, [(10, 0), (1, t), (1, i), (1, w)], [], (m, none))) (fun m => ob_E (175, 0, [(11, 0), (1, t), (1, i), (1, w)], [], (m, none))) := by
    intro c
    refine J_badA (v := -2) (w := -2) h (by omega) ?_ (fun m1 e er => ?_)
    · show ob_E (92, 0, [(10, 0), (1, t), (1, i), (1, w)], [], (m, none)) = _
      by_cases c1 : (0 ≤ t ∧ t < m 40 0 2) ∧ 0 ≤ i ∧ i < m 40 0 (12 + 116 * t + 2)
      · simp (disch := first | omega | assumption) only [↓if_pos, ↓if_neg, Option.bind_some, ob_wr_id, sg_X7_noteOf_0, sg_X7_noteOf_9, sg_X7_noteOf_18, sg_X7_noteOf_21, sg_X7_noteOf_27, sg_X7_noteOf_38, hCn, cl_within, cl_refused]
      · simp (disch := first | omega | assumption) only [↓if_pos, ↓if_neg, Option.bind_some, ob_wr_id, sg_X7_noteOf_0, sg_X7_noteOf_9, sg_X7_noteOf_18, sg_X7_noteOf_21, sg_X7_noteOf_27, sg_X7_noteOf_38, hCn, cl_within, cl_refused]
    · have hNb := hNb m1 er
      show ob_E (175, 0, [(11, 0), (1, t), (1, i), (1, w)], [], (m1, none)) = _
      by_cases c1 : (0 ≤ t ∧ t < m 40 0 2) ∧ 0 ≤ i ∧ i < m 40 0 (12 + 116 * t + 2)
      · simp (disch := first | omega | assumption) only [↓if_pos, ↓if_neg, Option.bind_some, ob_wr_id, sg_X8_noteOf_0, sg_X8_noteOf_6, sg_X8_noteOf_18, sg_X8_noteOf_28, sg_X8_noteOf_31, sg_X8_noteOf_37, hNb, md_in, md_refuses]
      · simp (disch := first | omega | assumption) only [↓if_pos, ↓if_neg, Option.bind_some, ob_wr_id, sg_X8_noteOf_0, sg_X8_noteOf_6, sg_X8_noteOf_18, sg_X8_noteOf_28, sg_X8_noteOf_31, sg_X8_noteOf_37, hNb, md_in, md_refuses]
  by_cases c : ((0 ≤ t ∧ t < m 40 0 2) ∧ 0 ≤ i ∧ i < m 40 0 (12 + 116 * t + 2)) ∧ 0 ≤ w ∧ w ≤ 4
  · obtain ⟨j1, j2⟩ := J_ask h (m1 := m) (m2 := m) sm_r fq_r
    have ht : 0 ≤ t ∧ t < 3 := by omega
    refine ⟨noV (m 40 0) t i w, m, m, ?_, ?_, j1, fun k i x hk => ⟨rfl, j2 k i x hk⟩⟩
    · show ob_E (92, 0, [(10, 0), (1, t), (1, i), (1, w)], [], (m, none)) = _
      simp (disch := first | omega | assumption) only [↓if_pos, ↓if_neg, Option.bind_some, ob_wr_id, sg_X7_noteOf_0, sg_X7_noteOf_9, sg_X7_noteOf_18, sg_X7_noteOf_21, sg_X7_noteOf_27, sg_X7_noteOf_38, hCn, cl_within, cl_noteValue hV hR ht c.1.2 c.2]
    · show ob_E (175, 0, [(11, 0), (1, t), (1, i), (1, w)], [], (m, none)) = _
      simp (disch := first | omega | assumption) only [↓if_pos, ↓if_neg, Option.bind_some, ob_wr_id, sg_X8_noteOf_0, sg_X8_noteOf_6, sg_X8_noteOf_18, sg_X8_noteOf_28, sg_X8_noteOf_31, sg_X8_noteOf_37, hN, md_in, md_noteTold m (VV_NV hV ht c.1.2) (v8 t ht.1 ht.2).1.2.1 c.2]
  · exact bad c
theorem cl_value (m : ob_Mem) {w : Int} (hw : 0 ≤ w ∧ w ≤ 3) (h : m 2 0 1 = m 44 0 0 ∧ m 2 0 2 = m 44 0 1 ∧ m 2 0 3 = m 44 0 2 ∧ m 2 0 0 = m 44 0 3) : ob_E (36, 0, [(5, 0), (1, w)], [], (m, none)) = some (m 44 0 w, (m, none)) := by
  obtain ⟨h1, h2, h3, h4⟩ := h
  rw [sg_X2_value_0]
  obtain rfl | rfl | rfl | rfl : w = 0 ∨ w = 1 ∨ w = 2 ∨ w = 3 := by omega
  · simp (disch := first | omega | assumption) only [↓if_pos, ↓if_neg, Option.bind_some, ob_wr_id, h1]
  · simp (disch := first | omega | assumption) only [↓if_pos, ↓if_neg, Option.bind_some, ob_wr_id, h2]
  · simp (disch := first | omega | assumption) only [↓if_pos, ↓if_neg, Option.bind_some, ob_wr_id, h3]
  · simp (disch := first | omega | assumption) only [↓if_pos, ↓if_neg, Option.bind_some, ob_wr_id, h4]
theorem ag_why {W : Int} {m : ob_Mem} {w : Int} (h : Inv W m) : Agr W W m (fun m => ob_E (98, 0, [(10, 0), (1, w)], [], (m, none))) (fun m => ob_E (208, 0, [(11, 0), (1, w)], [], (m, none))) := by
  by_cases c : 0 ≤ w ∧ w ≤ 3
  · obtain ⟨j1, j2⟩ := J_ask h (m1 := m) (m2 := m) sm_r fq_r
    refine ⟨m 44 0 w, m, m, ?_, ?_, j1, fun k i x hk => ⟨rfl, j2 k i x hk⟩⟩
    · show ob_E (98, 0, [(10, 0), (1, w)], [], (m, none)) = _
      simp (disch := first | omega | assumption) only [↓if_pos, ↓if_neg, Option.bind_some, ob_wr_id, sg_X7_why_0, sg_X7_why_6, sg_X7_why_15, sg_X7_why_27, cl_within, cl_value m c h.2.2.1]
    · show ob_E (208, 0, [(11, 0), (1, w)], [], (m, none)) = _
      simp (disch := first | omega | assumption) only [↓if_pos, ↓if_neg, Option.bind_some, ob_wr_id, sg_X8_why_0, sg_X8_why_9, md_in]
  · refine J_badA (v := -2) (w := -10) h (by omega) ?_ (fun m1 e er => ?_)
    · show ob_E (98, 0, [(10, 0), (1, w)], [], (m, none)) = _
      simp (disch := first | omega | assumption) only [↓if_pos, ↓if_neg, Option.bind_some, ob_wr_id, sg_X7_why_0, sg_X7_why_6, sg_X7_why_15, sg_X7_why_27, cl_within, cl_refused]
    · show ob_E (208, 0, [(11, 0), (1, w)], [], (m1, none)) = _
      simp (disch := first | omega | assumption) only [↓if_pos, ↓if_neg, Option.bind_some, ob_wr_id, sg_X8_why_0, sg_X8_why_9, md_in]
      rfl
/-- what is told of all -/
def toV (m : ob_Mem) (w : Int) : Int := if w < 3 then m 43 0 w else if w = 3 then m 8 0 22 else if w < 10 then m 40 0 (w - 4) else m 8 0 3
theorem cl_toldValue {W : Int} {m : ob_Mem} {w : Int} (h : Inv W m) (hw : 0 ≤ w ∧ w ≤ 10) : ob_E (118, 0, [(10, 0), (1, w)], [], (m, none)) = some (toV m w, (m, none)) := by
  have hR := h.1.2.2.1.2
  have r8 : m 7 0 8 = m 43 0 0 := h.2.1 8 (by omega) (by omega)
  have r9 : m 7 0 9 = m 43 0 1 := h.2.1 9 (by omega) (by omega)
  have r10 : m 7 0 10 = m 43 0 2 := h.2.1 10 (by omega) (by omega)
  have e0 := rpR hR
  have e1 := rpK hR
  have e2 := rpT hR
  have e3 := rpW hR
  have e4 := rpD hR
  have e5 := rpL hR
  have e6 := h.2.2.2.1
  have e7 := h.1.1.2
  rw [sg_X7_toldValue_0]
  unfold toV
  obtain rfl | rfl | rfl | rfl | rfl | rfl | rfl | rfl | rfl | rfl | rfl : w = 0 ∨ w = 1 ∨ w = 2 ∨ w = 3 ∨ w = 4 ∨ w = 5 ∨ w = 6 ∨ w = 7 ∨ w = 8 ∨ w = 9 ∨ w = 10 := by omega
  · simp (disch := first | omega | assumption) only [↓if_pos, ↓if_neg, Option.bind_some, ob_wr_id, r8]
  · simp (disch := first | omega | assumption) only [↓if_pos, ↓if_neg, Option.bind_some, ob_wr_id, r9]
  · simp (disch := first | omega | assumption) only [↓if_pos, ↓if_neg, Option.bind_some, ob_wr_id, r10]
  · simp (disch := first | omega | assumption) only [↓if_pos, ↓if_neg, Option.bind_some, ob_wr_id, e6]
  · simp (disch := first | omega | assumption) only [↓if_pos, ↓if_neg, Option.bind_some, ob_wr_id, e0]
    rfl
  · simp (disch := first | omega | assumption) only [↓if_pos, ↓if_neg, Option.bind_some, ob_wr_id, e1]
    rfl
  · simp (disch := first | omega | assumption) only [↓if_pos, ↓if_neg, Option.bind_some, ob_wr_id, e2]
    rfl
  · simp (disch := first | omega | assumption) only [↓if_pos, ↓if_neg, Option.bind_some, ob_wr_id, e3]
    rfl
  · simp (disch := first | omega | assumption) only [↓if_pos, ↓if_neg, Option.bind_some, ob_wr_id, e4]
    rfl
  · simp (disch := first | omega | assumption) only [↓if_pos, ↓if_neg, Option.bind_some, ob_wr_id, e5]
    rfl
  · simp (disch := first | omega | assumption) only [↓if_pos, ↓if_neg, Option.bind_some, ob_wr_id, e7]
theorem md_toldOf (m : ob_Mem) {w : Int} (hw : 0 ≤ w ∧ w ≤ 10) : ob_E (235, 0, [(11, 0), (1, w)], [], (m, none)) = some (toV m w, (m, none)) := by
  rw [sg_X8_toldOf_0]
  unfold toV
  by_cases c1 : w < 3
  · simp (disch := first | omega | assumption) only [↓if_pos, ↓if_neg, Option.bind_some, ob_wr_id]
  · by_cases c2 : w = 3
    · simp (disch := first | omega | assumption) only [↓if_pos, ↓if_neg, Option.bind_some, ob_wr_id]
    · by_cases c3 : w < 10
      · simp (disch := first | omega | assumption) only [↓if_pos, ↓if_neg, Option.bind_some, ob_wr_id]
      · simp (disch := first | omega | assumption) only [↓if_pos, ↓if_neg, Option.bind_some, ob_wr_id]
theorem ag_told {W : Int} {m : ob_Mem} {w : Int} (h : Inv W m) : Agr W W m (fun m => ob_E (111, 0, [(10, 0), (1, w)], [], (m, none))) (fun m => ob_E (236, 0, [(11, 0), (1, w)], [], (m, none))) := by
  by_cases c : 0 ≤ w ∧ w ≤ 10
  · obtain ⟨j1, j2⟩ := J_ask h (m1 := m) (m2 := m) sm_r fq_r
    refine ⟨toV m w, m, m, ?_, ?_, j1, fun k i x hk => ⟨rfl, j2 k i x hk⟩⟩
    · show ob_E (111, 0, [(10, 0), (1, w)], [], (m, none)) = _
      simp (disch := first | omega | assumption) only [↓if_pos, ↓if_neg, Option.bind_some, ob_wr_id, sg_X7_told_0, sg_X7_told_7, sg_X7_told_16, sg_X7_told_22, cl_within, cl_toldValue h c]
    · show ob_E (236, 0, [(11, 0), (1, w)], [], (m, none)) = _
      simp (disch := first | omega | assumption) only [↓if_pos, ↓if_neg, Option.bind_some, ob_wr_id, sg_X8_told_0, sg_X8_told_9, sg_X8_told_17, sg_X8_told_26, md_in, md_toldOf]
  · refine J_badA (v := -2) (w := -2) h (by omega) ?_ (fun m1 e er => ?_)
    · show ob_E (111, 0, [(10, 0), (1, w)], [], (m, none)) = _
      simp (disch := first | omega | assumption) only [↓if_pos, ↓if_neg, Option.bind_some, ob_wr_id, sg_X7_told_0, sg_X7_told_7, sg_X7_told_16, sg_X7_told_22, cl_within, cl_refused]
    · show ob_E (236, 0, [(11, 0), (1, w)], [], (m1, none)) = _
      simp (disch := first | omega | assumption) only [↓if_pos, ↓if_neg, Option.bind_some, ob_wr_id, sg_X8_told_0, sg_X8_told_9, sg_X8_told_17, sg_X8_told_26, md_in, md_refuses]
theorem ag_fits {W : Int} {m : ob_Mem} {t : Int} (h : Inv W m) : Agr W W m (fun m => ob_E (95, 0, [(10, 0), (1, t)], [], (m, none))) (fun m => ob_E (191, 0, [(11, 0), (1, t), (0, 0)], [], (m, none))) := by
  obtain ⟨hV, hn⟩ := Inv_V h
  have hR := h.1.2.2.1.2
  have eT := rpT hR
  obtain ⟨⟨v1, v2, v3, -⟩, v8⟩ := id hV
  by_cases c : 0 ≤ t ∧ t < m 40 0 2
  · have hc : wp (ob_E (95, 0, [(10, 0), (1, t)], [], (m, none))) (fun v m' => sm gL m m' ∧ fiV (m 40 0) t v) := by
      simp (disch := first | omega | assumption) only [↓if_pos, ↓if_neg, Option.bind_some, ob_wr_id, sg_X7_fits_0, sg_X7_fits_8, cl_hasTune]
      refine wp_b (cl_leastShift (h.1.2.1.1 0 (by omega) (by omega)) hV hR (by omega)) (fun v m1 h1 => ?_)
      rw [sg_X7_fits_30]
      exact wp_ret h1
    obtain ⟨v, m1, e1, s1, f1⟩ := hc
    have er : m1 40 0 = m 40 0 := by
      funext p
      exact s1 40 0 p (fun z => by rcases z with ⟨z1, z2⟩ | ⟨z1, z2⟩ | z1 <;> omega)
    obtain ⟨v', m2, e2, d⟩ := md_fits m1 (t := t) (by rw [er]; exact hV)
    rw [er] at d
    rcases d with ⟨d1, -⟩ | ⟨-, d2, a, b, cc, d3⟩
    · exact absurd c d1
    · have ev := fiV_u f1 d2
      subst ev
      have hq : fq m1 m2 := by
        rcases d3 with d3 | d3
        · rw [d3]
          exact fq_r
        · rw [d3]
          exact fq_bec
      obtain ⟨j1, j2⟩ := J_ask h (sm_m s1 (fun k i => Or.inl)) hq
      exact ⟨v, m1, m2, e1, e2, j1, fun k i x hk => ⟨s1 k i x (fun z => by rcases z with ⟨z1, z2⟩ | ⟨z1, z2⟩ | z1 <;> omega), j2 k i x hk⟩⟩
  · refine J_badA (v := -2) (w := -2) h (by omega) ?_ (fun m1 e er => ?_)
    · show ob_E (95, 0, [(10, 0), (1, t)], [], (m, none)) = _
      simp (disch := first | omega | assumption) only [↓if_pos, ↓if_neg, Option.bind_some, ob_wr_id, sg_X7_fits_0, sg_X7_fits_8, sg_X7_fits_17, sg_X7_fits_30, cl_hasTune, cl_refused]
    · have er : m1 40 0 2 = m 40 0 2 := by rw [er]
      show ob_E (191, 0, [(11, 0), (1, t), (0, 0)], [], (m1, none)) = _
      simp (disch := first | omega | assumption) only [↓if_pos, ↓if_neg, Option.bind_some, ob_wr_id, sg_X8_fits_0, sg_X8_fits_5, sg_X8_fits_14, sg_X8_fits_21, sg_X8_fits_29, sg_X8_fits_41, sg_X8_fits_50, md_isTune, md_refuses]
theorem ag_clear {W : Int} {m : ob_Mem} (h : Inv W m) : Agr W W m (fun m => ob_E (108, 0, [(10, 0), (0, 0)], [], (m, none))) (fun m => ob_E (225, 0, [(11, 0), (0, 0)], [], (m, none))) := by
  obtain ⟨i1, i2, i3, i4, i5, i6⟩ := h
  refine ⟨m 8 0 22, ob_set m 6 0 0 0, ob_set (ob_set m 6 0 0 0) 8 0 22 0, ?_, ?_, ⟨?_, fun x a b => ?_, ?_, ?_, ?_, fun i a b => ?_⟩, fun k i x hk => ⟨by simp (disch := omega) only [rs_k, rs_i, rs_s, rs_e, up_e, up_n], by simp (disch := omega) only [rs_k, rs_i, rs_s, rs_e, up_e, up_n]⟩⟩
  · show ob_E (108, 0, [(10, 0), (0, 0)], [], (m, none)) = _
    rw [sg_X7_clear_0, i4]
  · show ob_E (225, 0, [(11, 0), (0, 0)], [], (ob_set m 6 0 0 0, none)) = _
    rw [sg_X8_clear_0, rs_k (by omega)]
  · have e1 : (ob_set (ob_set m 6 0 0 0) 8 0 22 0) 40 0 = m 40 0 := by rw [rw_k (by omega), rw_k (by omega)]
    have e2 : (ob_set (ob_set m 6 0 0 0) 8 0 22 0) 41 0 = m 41 0 := by rw [rw_k (by omega), rw_k (by omega)]
    have e3 : (ob_set (ob_set m 6 0 0 0) 8 0 22 0) 8 0 3 = m 8 0 3 := by simp (disch := omega) only [rs_k, rs_i, rs_s, rs_e, up_e, up_n]
    rw [e1, e2, e3]
    refine CH_m (Int.le_refl _) (m := ob_set m 6 0 0 0) ?_ (fun k i x hk => rs_k hk.1) (fun _ _ _ => rfl) (fun _ _ _ _ _ _ => rfl)
    obtain ⟨⟨h0, h1⟩, h2, ⟨h3, h3'⟩, h4⟩ := i1
    have fR : ∀ j q, VV W q → Rep m j q → Rep (ob_set m 6 0 0 0) j q := fun j q a b => Rep_sm a b (fun k i p z => rs_k (by rcases z with ⟨z1, z2⟩ | ⟨z1, z2⟩ | ⟨z1, z2⟩ <;> omega))
    refine ⟨⟨h0, by simp (disch := omega) only [rs_k, rs_i, rs_s, rs_e, up_e, up_n]; exact h1⟩, bij_c h2 (rs_k (by omega)) (rs_k (by omega)) (fun i => rs_k (by omega)), ⟨h3, by rw [rs_k (by omega)]; exact fR _ _ h3 h3'⟩, fun i a b => ?_⟩
    obtain ⟨g1, g2⟩ := h4 i a b
    rw [rs_k (by omega)]
    exact ⟨g1, fR _ _ g1 g2⟩
  · simp (disch := omega) only [rs_k, rs_i, rs_s, rs_e, up_e, up_n]
    exact i2 x a b
  · simp (disch := omega) only [rs_k, rs_i, rs_s, rs_e, up_e, up_n]
    exact i3
  · simp (disch := omega) only [rs_k, rs_i, rs_s, rs_e, up_e, up_n]
  · simp (disch := omega) only [rs_k, rs_i, rs_s, rs_e, up_e, up_n]
    omega
  · simp (disch := omega) only [rs_k, rs_i, rs_s, rs_e, up_e, up_n] at b
    omega
