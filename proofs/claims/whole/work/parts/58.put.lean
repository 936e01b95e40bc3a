-- THE MODEL: beginning; THE CLASS: putting pins on
theorem md_begins (m : ob_Mem) {r k t : Int} : wp (ob_E (137, 0, [(11, 0), (1, r), (1, k), (1, t), (0, 0)], [], (m, none))) (fun _ m' => m' 40 0 = (fun p => if 0 ≤ p ∧ p < 360 then beR r k t p else (m 40 0) p) ∧ fR m m') := by
  rw [sg_X8_begins_0]
  refine wp_for (fun y (m' : ob_Mem) => ob_E (137, 3, [(11, 0), (1, r), (1, k), (1, t), (1, y)], [], (m', none))) 0 360 (fun y m' => (∀ p, m' 40 0 p = if 0 ≤ p ∧ p < y then 0 else (m 40 0) p) ∧ fR m m') ?_ ?_ (by omega) ⟨fun p => (if_neg (by omega)).symm, sm_r⟩
  · intro y m1 h1 h2 ⟨i1, i2⟩ hk
    rw [sg_X8_begins_3]
    simp (disch := first | omega | assumption) only [↓if_pos, ↓if_neg, Option.bind_some, ob_wr_id]
    refine hk _ ⟨fun p => ?_, fR_set i2⟩
    by_cases e : p = y
    · rw [rs_e rfl e, if_pos (by omega)]
    · rw [rs_s e, i1]
      by_cases c : 0 ≤ p ∧ p < y
      · rw [if_pos c, if_pos (by omega)]
      · rw [if_neg c, if_neg (by omega)]
  · intro m1 ⟨i1, i2⟩
    rw [sg_X8_begins_3]
    simp (disch := first | omega | assumption) only [↓if_pos, ↓if_neg, Option.bind_some, ob_wr_id]
    refine wp_for (fun y (m' : ob_Mem) => ob_E (137, 64, [(11, 0), (1, r), (1, k), (1, t), (1, y)], [], (m', none))) 0 6 (fun y m' => (∀ p, m' 40 0 p = if p = 0 then r else if p = 1 then k else if p = 2 then t else if p = 4 then 1 else if p = 5 then 20 else if 6 ≤ p ∧ p < 6 + y then 1 else if 0 ≤ p ∧ p < 360 then 0 else (m 40 0) p) ∧ fR m m') ?_ ?_ (by omega) ⟨fun p => ?_, fR_set (fR_set (fR_set (fR_set (fR_set i2))))⟩
    · intro y m2 h1 h2 ⟨j1, j2⟩ hk
      rw [sg_X8_begins_64]
      simp (disch := first | omega | assumption) only [↓if_pos, ↓if_neg, Option.bind_some, ob_wr_id]
      refine hk _ ⟨fun p => ?_, fR_set j2⟩
      by_cases e : p = 6 + y
      · rw [rs_e rfl e]
        simp (disch := first | omega | assumption) only [↓if_pos, ↓if_neg, Option.bind_some, ob_wr_id]
      · rw [rs_s e, j1]
        by_cases c : 6 ≤ p ∧ p < 6 + y
        · simp (disch := first | omega | assumption) only [↓if_pos, ↓if_neg, Option.bind_some, ob_wr_id]
        · rw [if_neg c, if_neg (show ¬ (6 ≤ p ∧ p < 6 + (y + 1)) by omega)]
    · intro m2 ⟨j1, j2⟩
      rw [sg_X8_begins_64]
      simp (disch := first | omega | assumption) only [↓if_pos, ↓if_neg, Option.bind_some, ob_wr_id]
      refine wp_for (fun y (m' : ob_Mem) => ob_E (137, 91, [(11, 0), (1, r), (1, k), (1, t), (1, y)], [], (m', none))) 0 3 (fun y m' => (∀ p, m' 40 0 p = if (p = 12 ∧ 0 < y) ∨ (p = 128 ∧ 1 < y) ∨ (p = 244 ∧ 2 < y) then r else (m2 40 0) p) ∧ fR m m') ?_ ?_ (by omega) ⟨fun p => (if_neg (by omega)).symm, j2⟩
      · intro y m3 h1 h2 ⟨l1, l2⟩ hk
        rw [sg_X8_begins_91]
        simp (disch := first | omega | assumption) only [↓if_pos, ↓if_neg, Option.bind_some, ob_wr_id]
        refine hk _ ⟨fun p => ?_, fR_set l2⟩
        by_cases e : p = 12 + 116 * y + 0
        · rw [rs_e rfl e, if_pos (by omega)]
        · rw [rs_s e, l1]
          by_cases c : (p = 12 ∧ 0 < y) ∨ (p = 128 ∧ 1 < y) ∨ (p = 244 ∧ 2 < y)
          · rw [if_pos c, if_pos (by omega)]
          · rw [if_neg c, if_neg (by omega)]
      · intro m3 ⟨l1, l2⟩
        rw [sg_X8_begins_91]
        simp (disch := first | omega | assumption) only [↓if_pos, ↓if_neg, Option.bind_some, ob_wr_id]
        refine wp_ret ⟨?_, l2⟩
        funext p
        rw [l1, j1]
        unfold beR
        by_cases c : p = 12 ∨ p = 128 ∨ p = 244
        · simp (disch := first | omega | assumption) only [↓if_pos, ↓if_neg, Option.bind_some, ob_wr_id]
        · rw [if_neg (by omega), if_neg c]
          by_cases z : 0 ≤ p ∧ p < 360
          · rw [if_pos z, if_pos z]
            rfl
          · simp (disch := first | omega | assumption) only [↓if_pos, ↓if_neg, Option.bind_some, ob_wr_id]
    · by_cases z0 : p = 0
      · simp (disch := first | omega | assumption) only [↓if_pos, ↓if_neg, Option.bind_some, ob_wr_id, rs_k, rs_i, rs_s, rs_e]
      · by_cases z1 : p = 1
        · simp (disch := first | omega | assumption) only [↓if_pos, ↓if_neg, Option.bind_some, ob_wr_id, rs_k, rs_i, rs_s, rs_e]
        · by_cases z2 : p = 2
          · simp (disch := first | omega | assumption) only [↓if_pos, ↓if_neg, Option.bind_some, ob_wr_id, rs_k, rs_i, rs_s, rs_e]
          · by_cases z4 : p = 4
            · simp (disch := first | omega | assumption) only [↓if_pos, ↓if_neg, Option.bind_some, ob_wr_id, rs_k, rs_i, rs_s, rs_e]
            · by_cases z5 : p = 5
              · simp (disch := first | omega | assumption) only [↓if_pos, ↓if_neg, Option.bind_some, ob_wr_id, rs_k, rs_i, rs_s, rs_e]
              · simp (disch := first | omega | assumption) only [↓if_pos, ↓if_neg, Option.bind_some, ob_wr_id, rs_k, rs_i, rs_s, rs_e, i1]
/-- what the cause tells -/
def cs (m : ob_Mem) (k a b o : Int) : Prop := m 2 0 1 = k ∧ m 2 0 2 = a ∧ m 2 0 3 = b ∧ m 2 0 0 = o
theorem cs_tel {m : ob_Mem} {k a b : Int} : cs (tel m k a b) k a b (-1) := by
  unfold tel
  refine ⟨?_, ?_, ?_, ?_⟩
  · simp (disch := omega) only [rs_k, rs_i, rs_s, rs_e, up_e, up_n]
  · simp (disch := omega) only [rs_k, rs_i, rs_s, rs_e, up_e, up_n]
  · simp (disch := omega) only [rs_k, rs_i, rs_s, rs_e, up_e, up_n]
  · simp (disch := omega) only [rs_k, rs_i, rs_s, rs_e, up_e, up_n]
theorem sm_tel {G : Nat → Int → Prop} {m m' : ob_Mem} {k a b : Int} (h : sm G m m') (g : G 2 0) : sm G m (tel m' k a b) := sm_set (sm_set (sm_set (sm_set h g) g) g) g
/-- the cells of the plan and of the cause -/
def gA (k : Nat) (i : Int) : Prop := gL k i ∨ k = 2
theorem Rep_gA {W : Int} {m m' : ob_Mem} {j : Int} {s : Int → Int} (hj : 0 ≤ j ∧ j < 7) (hV : VV W s) (h : Rep m j s) (hs : sm gA m m') : Rep m' j s := Rep_sm hV h (fun k i p q => hs k i p (fun z => by
    rcases q with ⟨q1, q2⟩ | ⟨q1, q2⟩ | ⟨q1, q2⟩ <;> rcases z with (⟨z1, z2⟩ | ⟨z1, z2⟩ | z1) | z1 <;> omega))
/-- the row of a tune pinned by its shift -/
def piS (s : Int → Int) (t : Int) : Int → Int := piX s t (s (12 + 116 * t + 1)) (s (12 + 116 * t + 2))
theorem rQ_pi {m : ob_Mem} {s : Int → Int} {p t d : Int} (h : rQ m p (pic s t d)) (hn : 0 ≤ s (12 + 116 * t + 2) ∧ s (12 + 116 * t + 2) ≤ 12) : rQ m p (fun w => piX s t d (s (12 + 116 * t + 2)) (12 + 116 * t + w)) := by
  have e : ∀ w, (39 ≤ w ∧ w < 44 + 4 * s (12 + 116 * t + 2)) ∨ (92 ≤ w ∧ w < 92 + 2 * s (12 + 116 * t + 2)) → piX s t d (s (12 + 116 * t + 2)) (12 + 116 * t + w) = pic s t d w := fun w hw => by
    unfold piX
    rw [if_pos (by omega), show 12 + 116 * t + w - (12 + 116 * t) = w by omega]
  obtain ⟨h1, h2, h3, h4, h5⟩ := h
  refine ⟨?_, ?_, ?_, ?_, fun i a b => ?_⟩
  · exact h1.trans (e 42 (by omega)).symm
  · exact h2.trans (e 40 (by omega)).symm
  · exact h3.trans (e 41 (by omega)).symm
  · exact h4.trans (e 43 (by omega)).symm
  · have b : i < piX s t d (s (12 + 116 * t + 2)) (12 + 116 * t + 43) := b
    rw [e 43 (by omega)] at b
    have b : i < s (12 + 116 * t + 2) := b
    obtain ⟨g1, g2, g3, g4, g5, g6⟩ := h5 i a b
    exact ⟨g1.trans (e _ (by omega)).symm, g2.trans (e _ (by omega)).symm, g3.trans (e _ (by omega)).symm, g4.trans (e _ (by omega)).symm, g5.trans (e _ (by omega)).symm, g6.trans (e _ (by omega)).symm⟩
theorem piX_P {s : Int → Int} {t d : Int} (hn : 0 ≤ s (12 + 116 * t + 2)) : piX s t d (s (12 + 116 * t + 2)) (12 + 116 * t + 39) = 1 := by
  unfold piX
  rw [if_pos (by omega), show 12 + 116 * t + 39 - (12 + 116 * t) = 39 by omega]
  rfl
theorem piX_o {s : Int → Int} {t d p : Int} (hn : s (12 + 116 * t + 2) ≤ 12) (h : ¬ (12 + 116 * t + 39 ≤ p ∧ p < 12 + 116 * t + 116)) : piX s t d (s (12 + 116 * t + 2)) p = s p := if_neg (by omega)
theorem cl_putOn {W : Int} {m : ob_Mem} {j t : Int} {s : Int → Int} (hj : 0 ≤ j ∧ j < 7) (hV : VV W s) (h : Rep m j s) : wp (ob_E (44, 0, [(7, 0), (3, j), (1, t), (5, 0), (0, 0)], [], (m, none))) (fun v m' => (¬ (0 ≤ t ∧ t < s 2) ∧ v = -2 ∧ m' = m) ∨ ((0 ≤ t ∧ t < s 2) ∧ v = -3 ∧ sm gA m m' ∧ ∃ k a b, CP s t k a b ∧ cs m' k a b (-1)) ∨ ((0 ≤ t ∧ t < s 2) ∧ OkP s t ∧ v = s (12 + 116 * t + 2) ∧ Rep m' j (piS s t) ∧ sm (fun k i => gL k i ∨ gB j k i) m m')) := by
  obtain ⟨⟨v1, v2, v3, v4, v5, -⟩, v8⟩ := id hV
  have eT := rpT h
  have eR := rpR h
  have eW := rpW h
  rw [sg_X4_putOn_0]
  by_cases c0 : 0 ≤ t ∧ t < s 2
  · have ht : 0 ≤ t ∧ t < 3 := by omega
    obtain ⟨⟨w1, w2, w3, -, w5⟩, -⟩ := v8 t ht.1 ht.2
    have em := rpm h ht
    have es := rps h ht
    by_cases c1 : s (12 + 116 * t + 2) = 0
    · simp (disch := first | omega | assumption) only [↓if_pos, ↓if_neg, Option.bind_some, ob_wr_id, cl_hasTune, sg_X4_putOn_5, cl_tell, sg_X4_putOn_34]
      exact wp_ret (Or.inr (Or.inl ⟨c0, rfl, sm_tel sm_r (Or.inr rfl), 4, 0, 0, Or.inl ⟨c1, rfl, rfl, rfl⟩, cs_tel⟩))
    · simp (disch := first | omega | assumption) only [↓if_pos, ↓if_neg, Option.bind_some, ob_wr_id, cl_hasTune, sg_X4_putOn_5, es, eR, eW]
      refine wp_b (cl_lay hV (h.2.2 t ht.1 ht.2).1 ht w2) (fun _ m1 h1 => ?_)
      obtain ⟨l1, l2, l3⟩ := h1
      have hP : PL m1 s t (s (12 + 116 * t + 1)) := ⟨l1, l2⟩
      have hs : sm gL m m1 := sm_m l3 (fun k i => gP_gL ht)
      have R1 : Rep m1 j s := Rep_gA hj hV h (sm_m hs (fun k i => Or.inl))
      rw [sg_X4_putOn_61]
      refine wp_b (cl_isTooSoon hV R1 hP ht w2) (fun v m2 hv => ?_)
      obtain ⟨i, hF, ⟨e1, e2, e3⟩ | ⟨e1, e2, e3⟩⟩ := hv
      · subst e1 e2 e3
        simp (disch := first | omega | assumption) only [↓if_pos, ↓if_neg, Option.bind_some, ob_wr_id, sg_X4_putOn_68]
        refine wp_b (cl_isTouching hV R1 hP ht w2) (fun v m3 hv => ?_)
        rcases hv with ⟨e1, e2, e3⟩ | ⟨e1, i, x, e2, e3⟩
        · subst e1 e2
          simp (disch := first | omega | assumption) only [↓if_pos, ↓if_neg, Option.bind_some, ob_wr_id, sg_X4_putOn_78]
          refine wp_b (cl_copyP (by omega) (Or.inr l1)) (fun _ m4 h4 => ?_)
          obtain ⟨p1, p2, p3⟩ := h4
          have em3 := rpm R1 ht
          have em4 : m4 3 (2 * (3 * j + t)) 2 = s (12 + 116 * t + 2) := by
            rw [p2 3 _ 2 (fun z => by rcases z with ⟨z1, z2⟩ | ⟨z1, z2⟩ <;> omega), em3]
          rw [sg_X4_putOn_99, em4]
          refine wp_ret (Or.inr (Or.inr ⟨c0, ⟨c1, hF, e3⟩, rfl, ?_, sm_t (sm_m hs (fun k i => Or.inl)) (sm_m p2 (fun k i z => Or.inr (gP_gB ht z)))⟩))
          refine Rep_P hV R1 ht p2 (fun p hp => piX_o w3.2 hp) ?_ (fun _ => rQ_pi (p3 _ (by show s (12 + 116 * t + 2) ≤ 12; omega) l2) w3)
          rw [p1, l1]
          exact (piX_P w3.1).symm
        · subst e1 e3
          simp (disch := first | omega | assumption) only [↓if_pos, ↓if_neg, Option.bind_some, ob_wr_id, sg_X4_putOn_78]
          exact wp_ret (Or.inr (Or.inl ⟨c0, rfl, sm_tel (sm_m hs (fun k i => Or.inl)) (Or.inr rfl), 2, i, x, Or.inr (Or.inr ⟨c1, hF, rfl, e2⟩), cs_tel⟩))
      · subst e2 e3
        simp (disch := first | omega | assumption) only [↓if_pos, ↓if_neg, Option.bind_some, ob_wr_id, sg_X4_putOn_68]
        exact wp_ret (Or.inr (Or.inl ⟨c0, rfl, sm_tel (sm_m hs (fun k i => Or.inl)) (Or.inr rfl), 1, i, fre s t i, Or.inr (Or.inl ⟨c1, rfl, hF, e1, rfl⟩), cs_tel⟩))
  · simp (disch := first | omega | assumption) only [↓if_pos, ↓if_neg, Option.bind_some, ob_wr_id, cl_hasTune, sg_X4_putOn_5]
    exact wp_ret (Or.inl ⟨c0, rfl, rfl⟩)
