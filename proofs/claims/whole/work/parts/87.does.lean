-- READS: an order done, as pure rows; the model does it
noncomputable def pV (s : Int → Int) (x : Int) : Int := if 0 ≤ x ∧ x < s 2 then (@ite _ (OkP s x) (Classical.propDecidable _) (s (12 + 116 * x + 2)) (-3)) else -2
noncomputable def pS (s : Int → Int) (x : Int) : Int → Int := @ite _ ((0 ≤ x ∧ x < s 2) ∧ OkP s x) (Classical.propDecidable _) (piS s x) s
noncomputable def dV (s : Int → Int) (c x y : Int) : Int := if c = 116 then tkV s x y else if c = 104 then shV s x y else if c = 112 then pV s x else if c = 111 then ofV s x else if c = 103 then gV s x y else aV s 1 x
noncomputable def dS (s : Int → Int) (c x y : Int) : Int → Int := if c = 116 then tkS s x y else if c = 104 then shS s x y else if c = 112 then pS s x else if c = 111 then ofS s x else if c = 103 then gS s x y else aS s 1 x
theorem dV_y {s : Int → Int} {c x y y' : Int} (h : nbr c = 1) : dV s c x y = dV s c x y' ∧ dS s c x y = dS s c x y' := by
  unfold nbr at h
  have h1 : ¬ (c = 116 ∨ c = 104 ∨ c = 103) := fun z => by
    rw [if_pos z] at h
    omega
  have n1 : ¬ c = 116 := fun z => h1 (Or.inl z)
  have n2 : ¬ c = 104 := fun z => h1 (Or.inr (Or.inl z))
  have n3 : ¬ c = 103 := fun z => h1 (Or.inr (Or.inr z))
  unfold dV dS
  refine ⟨?_, ?_⟩ <;> simp only [if_neg n1, if_neg n2, if_neg n3]
theorem d_vs {W : Int} {s : Int → Int} {c x y : Int} (hV : VV W s) : dV s c x y < 0 → (-4 ≤ dV s c x y ∧ dV s c x y ≤ -2) ∧ dS s c x y = s := by
  unfold dV dS
  by_cases h1 : c = 116
  · rw [if_pos h1, if_pos h1]
    exact tk_vs hV
  · rw [if_neg h1, if_neg h1]
    by_cases h2 : c = 104
    · rw [if_pos h2, if_pos h2]
      exact sh_vs hV
    · rw [if_neg h2, if_neg h2]
      by_cases h3 : c = 112
      · rw [if_pos h3, if_pos h3]
        unfold pV pS
        by_cases e : 0 ≤ x ∧ x < s 2
        · rw [if_pos e]
          by_cases o : OkP s x
          · rw [if_pos o]
            have hT := hV.1.2.2.1
            have := (hV.2 x (by omega) (by omega)).1.2.2.1
            omega
          · rw [if_neg o, if_neg (fun z => o z.2)]
            exact fun _ => ⟨by omega, rfl⟩
        · rw [if_neg e, if_neg (fun z => e z.1)]
          exact fun _ => ⟨by omega, rfl⟩
      · rw [if_neg h3, if_neg h3]
        by_cases h4 : c = 111
        · rw [if_pos h4, if_pos h4]
          exact of_vs hV
        · rw [if_neg h4, if_neg h4]
          by_cases h5 : c = 103
          · rw [if_pos h5, if_pos h5]
            exact g_vs hV
          · rw [if_neg h5, if_neg h5]
            exact a_vs hV
theorem VV_d {W : Int} {s : Int → Int} {c x y : Int} (hW : 0 ≤ W) (hV : VV W s) : VV W (dS s c x y) := by
  unfold dS
  by_cases h1 : c = 116
  · rw [if_pos h1]
    exact VV_tk hV
  · rw [if_neg h1]
    by_cases h2 : c = 104
    · rw [if_pos h2]
      exact VV_sh hV
    · rw [if_neg h2]
      by_cases h3 : c = 112
      · rw [if_pos h3]
        unfold pS
        by_cases o : (0 ≤ x ∧ x < s 2) ∧ OkP s x
        · rw [if_pos o]
          exact VV_pi hW hV o.1 o.2.1 o.2.2.1
        · rw [if_neg o]
          exact hV
      · rw [if_neg h3]
        by_cases h4 : c = 111
        · rw [if_pos h4]
          exact VV_of hV
        · rw [if_neg h4]
          by_cases h5 : c = 103
          · rw [if_pos h5]
            exact VV_g hV
          · rw [if_neg h5]
            exact VV_a hV
def FD (μ μ' : ob_Mem) : Prop := ∀ k i x, k ≠ 40 → ¬ (k = 8 ∧ (x = 25 ∨ x = 6 ∨ x = 7 ∨ x = 8)) → μ' k i x = μ k i x
/-- why an order stopped -/
def YW (s : Int → Int) (c x v : Int) (μ μ' : ob_Mem) : Prop := (c = 112 ∧ v = -3 ∧ ∃ k a b, CP s x k a b ∧ μ' 8 0 6 = k ∧ μ' 8 0 7 = a ∧ μ' 8 0 8 = b) ∨ (¬ (c = 112 ∧ v = -3) ∧ μ' 8 0 6 = μ 8 0 6)
def DO (μ : ob_Mem) (c x y : Int) (μ' : ob_Mem) : Prop := μ' 40 0 = dS (μ 40 0) c x y ∧ FD μ μ' ∧ ((0 ≤ dV (μ 40 0) c x y ∧ μ' 8 0 25 = μ 8 0 25 ∧ μ' 8 0 6 = μ 8 0 6) ∨ (dV (μ 40 0) c x y < 0 ∧ μ' 8 0 25 = dV (μ 40 0) c x y ∧ YW (μ 40 0) c x (dV (μ 40 0) c x y) μ μ'))
theorem DO_y {μ μ' : ob_Mem} {c x y V : Int} {S : Int → Int} (eV : dV (μ 40 0) c x y = V) (eS : dS (μ 40 0) c x y = S) (h : 0 ≤ V) (h1 : μ' 40 0 = S) (h2 : fR μ μ') : DO μ c x y μ' := by
  refine ⟨by rw [eS]; exact h1, fun k i z a b => h2 k i z (fun w => a w.1), Or.inl ⟨by omega, h2 8 0 25 (fun w => absurd w.1 (by omega)), h2 8 0 6 (fun w => absurd w.1 (by omega))⟩⟩
theorem DO_n {μ : ob_Mem} {c x y V : Int} (eV : dV (μ 40 0) c x y = V) (eS : dS (μ 40 0) c x y = μ 40 0) (h : V < 0) (h3 : ¬ (c = 112 ∧ V = -3)) : DO μ c x y (ob_set μ 8 0 25 V) := by
  refine ⟨by rw [eS, rw_k (by omega)], fun k i z a b => ?_, Or.inr ⟨by omega, by rw [rs_e rfl rfl, eV], Or.inr ⟨by rw [eV]; exact h3, rs_s (by omega)⟩⟩⟩
  by_cases y : k = 8
  · exact rs_s (by omega)
  · exact rs_k y
theorem md_does {W : Int} (μ : ob_Mem) {c x y : Int} (hV : VV W (μ 40 0)) : wp (ob_E (229, 0, [(11, 0), (1, c), (1, x), (1, y), (0, 0), (0, 0)], [], (μ, none))) (fun _ μ' => DO μ c x y μ') := by
  obtain ⟨⟨v1, v2, v3, v4, v5, v6, v7⟩, v8⟩ := id hV
  by_cases h1 : c = 116
  · subst h1
    have eV : dV (μ 40 0) 116 x y = tkV (μ 40 0) x y := if_pos rfl
    have eS : dS (μ 40 0) 116 x y = tkS (μ 40 0) x y := if_pos rfl
    unfold tkV at eV
    unfold tkS at eS
    by_cases k : (0 ≤ x ∧ x < μ 40 0 2) ∧ 1 ≤ y ∧ y ≤ μ 40 0 0
    · rw [if_pos k] at eV eS
      obtain ⟨⟨-, -, w3, -, -⟩, -⟩ := v8 x (by omega) (by omega)
      simp (disch := first | omega | assumption) only [↓if_pos, ↓if_neg, Option.bind_some, ob_wr_id, sg_X8_does_0, md_canTicks, sg_X8_does_12, sg_X8_does_78, md_ticksNow, sg_X8_does_104, sg_X8_does_174]
      exact wp_ret (DO_y eV eS w3.1 (by rw [rw_e, rw_e]) (fR_set (fR_set sm_r)))
    · rw [if_neg k] at eV eS
      simp (disch := first | omega | assumption) only [↓if_pos, ↓if_neg, Option.bind_some, ob_wr_id, sg_X8_does_0, md_canTicks, sg_X8_does_12, sg_X8_does_78]
      exact wp_ret (DO_n eV eS (by omega) (by omega))
  · by_cases h2 : c = 104
    · subst h2
      have eV : dV (μ 40 0) 104 x y = shV (μ 40 0) x y := by
        unfold dV
        rw [if_neg h1, if_pos rfl]
      have eS : dS (μ 40 0) 104 x y = shS (μ 40 0) x y := by
        unfold dS
        rw [if_neg h1, if_pos rfl]
      unfold shV at eV
      unfold shS at eS
      by_cases k : (0 ≤ x ∧ x < μ 40 0 2) ∧ 0 ≤ y ∧ y < μ 40 0 0
      · rw [if_pos k] at eV eS
        obtain ⟨⟨-, w2, w3, -, -⟩, -⟩ := v8 x (by omega) (by omega)
        simp (disch := first | omega | assumption) only [↓if_pos, ↓if_neg, Option.bind_some, ob_wr_id, sg_X8_does_0, md_canShift, sg_X8_does_27, sg_X8_does_78, md_shiftNow, sg_X8_does_119, sg_X8_does_174]
        exact wp_ret (DO_y eV eS w2.1 rw_e (fR_set sm_r))
      · rw [if_neg k] at eV eS
        simp (disch := first | omega | assumption) only [↓if_pos, ↓if_neg, Option.bind_some, ob_wr_id, sg_X8_does_0, md_canShift, sg_X8_does_27, sg_X8_does_78]
        exact wp_ret (DO_n eV eS (by omega) (by omega))
    · by_cases h3 : c = 112
      · subst h3
        have eV : dV (μ 40 0) 112 x y = pV (μ 40 0) x := by
          unfold dV
          rw [if_neg h1, if_neg h2, if_pos rfl]
        have eS : dS (μ 40 0) 112 x y = pS (μ 40 0) x := by
          unfold dS
          rw [if_neg h1, if_neg h2, if_pos rfl]
        unfold pV at eV
        unfold pS at eS
        rw [sg_X8_does_0, if_neg h1, if_neg h2, if_pos rfl]
        refine wp_b (md_canPin μ hV) (fun v m1 g1 => ?_)
        rcases g1 with ⟨k, rfl, rfl⟩ | ⟨k, rfl, kk, a, b, hC, rfl⟩ | ⟨k, rfl, hO, rfl⟩
        · rw [if_neg k] at eV
          rw [if_neg (fun z => k z.1)] at eS
          simp (disch := first | omega | assumption) only [↓if_pos, ↓if_neg, Option.bind_some, ob_wr_id, sg_X8_does_41, sg_X8_does_78]
          exact wp_ret (DO_n eV eS (by omega) (by omega))
        · have no : ¬ OkP (μ 40 0) x := CP_O hC
          rw [if_pos k, if_neg no] at eV
          rw [if_neg (fun z => no z.2)] at eS
          simp (disch := first | omega | assumption) only [↓if_pos, ↓if_neg, Option.bind_some, ob_wr_id, sg_X8_does_41, sg_X8_does_78]
          refine wp_ret ⟨by rw [eS]; unfold bec; simp (disch := omega) only [rs_k, rs_i, rs_s, rs_e, up_e, up_n, rw_k], fun k' i z p q => ?_, Or.inr ⟨by omega, by rw [rs_e rfl rfl, eV], Or.inl ⟨rfl, eV, kk, a, b, hC, ?_, ?_, ?_⟩⟩⟩
          · unfold bec
            by_cases w : k' = 8
            · simp (disch := omega) only [rs_k, rs_i, rs_s, rs_e, up_e, up_n]
            · simp (disch := omega) only [rs_k, rs_i, rs_s, rs_e, up_e, up_n]
          · unfold bec
            simp (disch := omega) only [rs_k, rs_i, rs_s, rs_e, up_e, up_n]
          · unfold bec
            simp (disch := omega) only [rs_k, rs_i, rs_s, rs_e, up_e, up_n]
          · unfold bec
            simp (disch := omega) only [rs_k, rs_i, rs_s, rs_e, up_e, up_n]
        · rw [if_pos k, if_pos hO] at eV
          rw [if_pos ⟨k, hO⟩] at eS
          obtain ⟨⟨-, -, w3, -, -⟩, -⟩ := v8 x (by omega) (by omega)
          simp (disch := first | omega | assumption) only [↓if_pos, ↓if_neg, Option.bind_some, ob_wr_id, sg_X8_does_41, sg_X8_does_78]
          refine wp_b (md_pinNow m1 hV (by omega)) (fun v m2 g2 => ?_)
          obtain ⟨p1, p2, p3⟩ := g2
          simp (disch := first | omega | assumption) only [↓if_pos, ↓if_neg, Option.bind_some, ob_wr_id, sg_X8_does_133, sg_X8_does_174]
          exact wp_ret (DO_y eV eS w3.1 p2 p3)
      · by_cases h4 : c = 111
        · subst h4
          have eV : dV (μ 40 0) 111 x y = ofV (μ 40 0) x := by
            unfold dV
            rw [if_neg h1, if_neg h2, if_neg h3, if_pos rfl]
          have eS : dS (μ 40 0) 111 x y = ofS (μ 40 0) x := by
            unfold dS
            rw [if_neg h1, if_neg h2, if_neg h3, if_pos rfl]
          unfold ofV at eV
          unfold ofS at eS
          by_cases k : 0 ≤ x ∧ x < μ 40 0 2
          · by_cases k1 : μ 40 0 (12 + 116 * x + 39) = 1
            · obtain ⟨-, -, -, w3⟩ := v8 x (by omega) (by omega)
              obtain ⟨-, -, -, w4, -⟩ := w3 k1
              rw [if_pos k, if_pos k1] at eV
              rw [if_pos ⟨k, k1⟩] at eS
              simp (disch := first | omega | assumption) only [↓if_pos, ↓if_neg, Option.bind_some, ob_wr_id, sg_X8_does_0, md_canOff, sg_X8_does_55, sg_X8_does_78]
              refine wp_b (md_offNow μ (by omega)) (fun v m2 g2 => ?_)
              obtain ⟨p1, p2, p3⟩ := g2
              simp (disch := first | omega | assumption) only [↓if_pos, ↓if_neg, Option.bind_some, ob_wr_id, sg_X8_does_147, sg_X8_does_174]
              exact wp_ret (DO_y eV eS (by omega) p2 p3)
            · rw [if_pos k, if_neg k1] at eV
              rw [if_neg (fun z => k1 z.2)] at eS
              simp (disch := first | omega | assumption) only [↓if_pos, ↓if_neg, Option.bind_some, ob_wr_id, sg_X8_does_0, md_canOff, sg_X8_does_55, sg_X8_does_78]
              exact wp_ret (DO_n eV eS (by omega) (by omega))
          · rw [if_neg k] at eV
            rw [if_neg (fun z => k z.1)] at eS
            simp (disch := first | omega | assumption) only [↓if_pos, ↓if_neg, Option.bind_some, ob_wr_id, sg_X8_does_0, md_canOff, sg_X8_does_55, sg_X8_does_78]
            exact wp_ret (DO_n eV eS (by omega) (by omega))
        · by_cases h5 : c = 103
          · subst h5
            have eV : dV (μ 40 0) 103 x y = gV (μ 40 0) x y := by
              unfold dV
              rw [if_neg h1, if_neg h2, if_neg h3, if_neg h4, if_pos rfl]
            have eS : dS (μ 40 0) 103 x y = gS (μ 40 0) x y := by
              unfold dS
              rw [if_neg h1, if_neg h2, if_neg h3, if_neg h4, if_pos rfl]
            unfold gV at eV
            unfold gS at eS
            by_cases k : (0 ≤ x ∧ x < μ 40 0 1) ∧ 0 ≤ y ∧ y ≤ 6
            · rw [if_pos k] at eV eS
              have := v7 x (by omega) (by omega)
              simp (disch := first | omega | assumption) only [↓if_pos, ↓if_neg, Option.bind_some, ob_wr_id, sg_X8_does_0, md_canGap, sg_X8_does_70, sg_X8_does_78, md_setNow, sg_X8_does_165, sg_X8_does_174]
              exact wp_ret (DO_y eV eS (by omega) rw_e (fR_set sm_r))
            · rw [if_neg k] at eV eS
              simp (disch := first | omega | assumption) only [↓if_pos, ↓if_neg, Option.bind_some, ob_wr_id, sg_X8_does_0, md_canGap, sg_X8_does_70, sg_X8_does_78]
              exact wp_ret (DO_n eV eS (by omega) (by omega))
          · have eV : dV (μ 40 0) c x y = aV (μ 40 0) 1 x := by
              unfold dV
              rw [if_neg h1, if_neg h2, if_neg h3, if_neg h4, if_neg h5]
            have eS : dS (μ 40 0) c x y = aS (μ 40 0) 1 x := by
              unfold dS
              rw [if_neg h1, if_neg h2, if_neg h3, if_neg h4, if_neg h5]
            unfold aV at eV
            unfold aS at eS
            by_cases k : 0 ≤ x ∧ x ≤ 3
            · rw [if_pos (by omega)] at eV eS
              simp (disch := first | omega | assumption) only [↓if_pos, ↓if_neg, Option.bind_some, ob_wr_id, sg_X8_does_0, md_canSide, sg_X8_does_78, md_setNow, sg_X8_does_174]
              exact wp_ret (DO_y eV eS v5.1 rw_e (fR_set sm_r))
            · rw [if_neg (by omega)] at eV eS
              simp (disch := first | omega | assumption) only [↓if_pos, ↓if_neg, Option.bind_some, ob_wr_id, sg_X8_does_0, md_canSide, sg_X8_does_78]
              exact wp_ret (DO_n eV eS (by omega) (by omega))
