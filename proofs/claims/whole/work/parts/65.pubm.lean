-- SETTLING, the class whole; THE MODEL: its calls that change
def xF (a b c t : Int) : Int := if t = 0 then a else if t = 1 then b else c
theorem cl_planAll {W : Int} {m : ob_Mem} {j : Int} {s : Int → Int} (hj : 0 ≤ j ∧ j < 7) (hV : VV W s) (h : Rep m j s) : wp (ob_E (53, 0, [(7, 0), (3, j), (0, 0), (0, 0)], [], (m, none))) (fun v m' => sm gL m m' ∧ (∀ t, 0 ≤ t → t < 3 → PL m' s t 0) ∧ (v = 0 ∧ (∀ t, 0 ≤ t → t < 3 → s (12 + 116 * t + 2) = 0) ∨ v = 1 ∧ ¬ (∀ t, 0 ≤ t → t < 3 → s (12 + 116 * t + 2) = 0))) := by
  obtain ⟨⟨v1, v2, v3, v4, v5, -⟩, v8⟩ := id hV
  rw [sg_X4_planAll_0]
  refine wp_for (fun t (x : Int × ob_Mem) => ob_E (53, 4, [(7, 0), (3, j), (1, x.1), (1, t)], [], (x.2, none))) 0 3 (fun y x => sm gL m x.2 ∧ (∀ t, 0 ≤ t → t < y → PL x.2 s t 0) ∧ (x.1 = 0 ∧ (∀ t, 0 ≤ t → t < y → s (12 + 116 * t + 2) = 0) ∨ x.1 = 1 ∧ ¬ (∀ t, 0 ≤ t → t < 3 → s (12 + 116 * t + 2) = 0))) ?_ ?_ (by omega) (x := (0, m)) ⟨sm_r, fun t a b => absurd a (by omega), Or.inl ⟨rfl, fun t a b => absurd a (by omega)⟩⟩
  · intro t ⟨x, m1⟩ h1 h2 ⟨i1, i2, i3⟩ hk
    have i3 : x = 0 ∧ (∀ t', 0 ≤ t' → t' < t → s (12 + 116 * t' + 2) = 0) ∨ x = 1 ∧ ¬ (∀ t, 0 ≤ t → t < 3 → s (12 + 116 * t + 2) = 0) := i3
    have ht : 0 ≤ t ∧ t < 3 := ⟨h1, h2⟩
    have R1 : Rep m1 j s := Rep_gA hj hV h (sm_m i1 (fun k i => Or.inl))
    have eR := rpR R1
    have eW := rpW R1
    obtain ⟨⟨-, -, w3, -, -⟩, -⟩ := v8 t ht.1 ht.2
    show wp (ob_E (53, 4, [(7, 0), (3, j), (1, x), (1, t)], [], (m1, none))) _
    rw [sg_X4_planAll_4, if_pos h2, if_pos ht, if_pos ht, eR, eW]
    refine wp_b (cl_lay hV (R1.2.2 t h1 h2).1 ht (d := 0) (by omega)) (fun _ m2 h3 => ?_)
    obtain ⟨l1, l2, l3⟩ := h3
    have i1' : sm gL m m2 := sm_t i1 (sm_m l3 (fun k i => gP_gL ht))
    have R2 : Rep m2 j s := Rep_gA hj hV h (sm_m i1' (fun k i => Or.inl))
    have em := rpm R2 ht
    have iP : ∀ t', 0 ≤ t' → t' < t + 1 → PL m2 s t' 0 := fun t' a b => by
      by_cases e : t' = t
      · rw [e]
        exact ⟨l1, l2⟩
      · exact PL_sm (i2 t' a (by omega)) (v8 t' a (by omega)).1.2.2.1.2 (fun k i y z => l3 k i y (fun q => by
          rcases z with ⟨z1, z2⟩ | ⟨z1, z2⟩ <;> rcases q with ⟨q1, q2⟩ | ⟨q1, q2⟩ <;> omega))
    rw [sg_X4_planAll_33, if_pos ht, em]
    by_cases c : 0 < s (12 + 116 * t + 2)
    · rw [if_pos c, sg_X4_planAll_47, ob_wr_id (by omega) (by omega)]
      exact hk (_, m2) ⟨i1', iP, Or.inr ⟨rfl, fun z => by have := z t h1 h2; omega⟩⟩
    · rw [if_neg c, sg_X4_planAll_47, ob_wr_id (by omega) (by omega)]
      refine hk (_, m2) ⟨i1', iP, ?_⟩
      rcases i3 with ⟨e1, e2⟩ | ⟨e1, e2⟩
      · refine Or.inl ⟨e1, fun t' a b => ?_⟩
        by_cases e : t' = t
        · rw [e]
          omega
        · exact e2 t' a (by omega)
      · exact Or.inr ⟨e1, e2⟩
  · intro ⟨x, m1⟩ ⟨i1, i2, i3⟩
    have i3 : x = 0 ∧ (∀ t', 0 ≤ t' → t' < 3 → s (12 + 116 * t' + 2) = 0) ∨ x = 1 ∧ ¬ (∀ t, 0 ≤ t → t < 3 → s (12 + 116 * t + 2) = 0) := i3
    show wp (ob_E (53, 4, [(7, 0), (3, j), (1, x), (1, 3)], [], (m1, none))) _
    rw [sg_X4_planAll_4, if_neg (by omega), if_pos (by omega)]
    exact wp_ret ⟨i1, i2, i3⟩
theorem cl_settleAll {W : Int} {m : ob_Mem} {j : Int} {s : Int → Int} (hj : 0 ≤ j ∧ j < 7) (hW : 0 ≤ W) (hV : VV W s) (h : Rep m j s) : wp (ob_E (52, 0, [(7, 0), (3, j), (5, 0), (0, 0)], [], (m, none))) (fun v m' => (v = -3 ∧ sm gA m m' ∧ ∃ k a b, SC s k a b ∧ cs m' k a b (-1)) ∨ ∃ a b c, inR s a b c ∧ OkS s (TT a b c) ∧ v = a + b + c ∧ Rep m' j (seC s (xF a b c) (s 2).toNat) ∧ VV W (seC s (xF a b c) (s 2).toNat) ∧ sm (fun k i => gL k i ∨ gB j k i) m m') := by
  obtain ⟨⟨v1, v2, v3, v4, v5, -⟩, v8⟩ := id hV
  have n0 := sN_b (s := s) (t := 0) v1
  have n1 := sN_b (s := s) (t := 1) v1
  have n2 := sN_b (s := s) (t := 2) v1
  rw [sg_X4_settleAll_0]
  refine wp_b (cl_planAll hj hV h) (fun v m1 h1 => ?_)
  obtain ⟨g1, g2, g3⟩ := h1
  have R1 : Rep m1 j s := Rep_gA hj hV h (sm_m g1 (fun k i => Or.inl))
  rcases g3 with ⟨e1, e2⟩ | ⟨e1, e2⟩
  · subst e1
    simp (disch := first | omega | assumption) only [↓if_pos, ↓if_neg, Option.bind_some, ob_wr_id, sg_X4_settleAll_5, cl_tell, sg_X4_settleAll_15]
    exact wp_ret (Or.inl ⟨rfl, sm_tel (sm_m g1 (fun k i => Or.inl)) (Or.inr rfl), 4, 0, 0, Or.inl ⟨e2, rfl, rfl, rfl⟩, cs_tel⟩)
  · subst e1
    simp (disch := first | omega | assumption) only [↓if_pos, ↓if_neg, Option.bind_some, ob_wr_id, sg_X4_settleAll_5]
    have eT := rpT R1
    refine wp_for (α := Unit) (fun t _ => ob_E (52, 20, [(7, 0), (3, j), (5, 0), (1, t)], [], (m1, none))) 0 (s 2) (fun t _ => ∀ t', 0 ≤ t' → t' < t → Fst (fun i => fre s t' i < s (6 + s (12 + 116 * t' + (3 + 3 * i)))) (s (12 + 116 * t' + 2)) (-1)) ?_ ?_ (by omega) (x := ()) (fun t' a b => absurd a (by omega))
    · intro t _ h1 h2 hI hk
      rw [sg_X4_settleAll_20, eT, if_pos h2]
      refine wp_b (cl_isTooSoon hV R1 (g2 t h1 (by omega)) (by omega) (by omega)) (fun v m2 hv => ?_)
      obtain ⟨i, hF, ⟨e1, e2, e3⟩ | ⟨e1, e2', e3⟩⟩ := hv
      · subst e1 e2 e3
        rw [sg_X4_settleAll_35, if_pos rfl, ob_wr_id (by omega) (by omega)]
        refine hk () (fun t' a b => ?_)
        by_cases e : t' = t
        · rw [e]
          exact hF
        · exact hI t' a (by omega)
      · subst e2' e3
        rw [sg_X4_settleAll_35, if_neg (by omega)]
        exact wp_ret (Or.inl ⟨rfl, sm_tel (sm_m g1 (fun k i => Or.inl)) (Or.inr rfl), 1, i, fre s t i, Or.inr (Or.inl ⟨e2, t, ⟨h1, h2⟩, hI, rfl, hF, e1, rfl⟩), cs_tel⟩)
    · intro _ hI
      rw [sg_X4_settleAll_20, eT, if_neg (by omega)]
      refine wp_b (cl_compareAll hj hV R1 g2) (fun _ m2 h2 => ?_)
      obtain ⟨c1, c2⟩ := h2
      have s2 : sm gL m m2 := sm_t g1 (sm_m c1 (fun k i z => Or.inr (Or.inr (by have := z.1; omega))))
      have R2 : Rep m2 j s := Rep_gA hj hV h (sm_m s2 (fun k i => Or.inl))
      rw [sg_X4_settleAll_52]
      refine wp_b (cl_searchShifts hV R2 c2) (fun v m3 h3 => ?_)
      obtain ⟨d1, d2⟩ := h3
      have s3 : sm gL m m3 := sm_t s2 (sm_m d1 (fun k i z => Or.inr (Or.inr (by have := z.1; omega))))
      have R3 : Rep m3 j s := Rep_gA hj hV h (sm_m s3 (fun k i => Or.inl))
      rcases CS_MN d2 with ⟨e1, e3⟩ | ⟨a, b, c, f1, f2, ⟨f3, f4, f5⟩, f6⟩
      · subst e1
        simp (disch := first | omega | assumption) only [↓if_pos, ↓if_neg, Option.bind_some, ob_wr_id, sg_X4_settleAll_57, cl_tell, sg_X4_settleAll_70]
        exact wp_ret (Or.inl ⟨rfl, sm_tel (sm_m s3 (fun k i => Or.inl)) (Or.inr rfl), 3, 0, 0, Or.inr (Or.inr ⟨e2, hI, e3, rfl, rfl, rfl⟩), cs_tel⟩)
      · obtain ⟨r1, r2, r3⟩ := id f1
        rw [sg_X4_settleAll_57, if_neg (by omega)]
        refine wp_b (cl_pinAll (x := xF a b c) hj hW hV R3 (fun t p q => ?_) (fun t p q => ?_) hI) (fun _ m4 h4 => ?_)
        · obtain rfl | rfl | rfl : t = 0 ∨ t = 1 ∨ t = 2 := by omega
          · exact f3
          · exact f4
          · exact f5
        · obtain rfl | rfl | rfl : t = 0 ∨ t = 1 ∨ t = 2 := by omega
          · show 0 ≤ a ∧ a < _
            omega
          · show 0 ≤ b ∧ b < _
            omega
          · show 0 ≤ c ∧ c < _
            omega
        · obtain ⟨k1, k2, k3⟩ := h4
          rw [sg_X4_settleAll_78]
          refine wp_ret (Or.inr ⟨a, b, c, f1, ⟨e2, hI, f6, ?_⟩, f2, k1, k2, sm_t (sm_m s3 (fun k i => Or.inl)) (sm_m k3 (fun k i => Or.inr))⟩)
          unfold TT
          omega
-- the model
def bla (m : ob_Mem) (k a b o : Int) : ob_Mem := ob_set (ob_set (ob_set (ob_set m 44 0 0 k) 44 0 1 a) 44 0 2 b) 44 0 3 o
theorem md_blames (m : ob_Mem) {k o : Int} : ob_E (186, 0, [(11, 0), (1, k), (1, o)], [], (m, none)) = some (0, (bla m k (if k < 3 then m 8 0 7 else 0) (if k < 3 then m 8 0 8 else 0) o, none)) := by
  unfold bla
  by_cases c : k < 3
  · simp (disch := first | omega | assumption) only [↓if_pos, ↓if_neg, Option.bind_some, ob_wr_id, rs_k, rs_i, rs_s, rs_e, sg_X8_blames_0, sg_X8_blames_25, sg_X8_blames_44]
  · simp (disch := first | omega | assumption) only [↓if_pos, ↓if_neg, Option.bind_some, ob_wr_id, rs_k, rs_i, rs_s, rs_e, sg_X8_blames_0, sg_X8_blames_25, sg_X8_blames_44]
/-- a call is done: the row is s', the row ahead of it is kept -/
def Chg (m : ob_Mem) (s' : Int → Int) (m' : ob_Mem) : Prop := fa m m' ∧ m' 40 0 = s' ∧ PP (m 40 0) m m'
/-- a call is refused by c -/
def RF (m : ob_Mem) (c : Int) (m' : ob_Mem) : Prop := m' 43 0 = up (m 43 0) (-2 - c) (ob_wr (m 43 0 (-2 - c) + 1)) ∧ m' 44 0 = m 44 0 ∧ m' 40 0 = m 40 0 ∧ m' 41 0 = m 41 0 ∧ m' 8 0 3 = m 8 0 3 ∧ ∀ k i s, (k ≠ 8 ∧ k < 40) ∨ k = 55 ∨ (k = 8 ∧ s = 22) → m' k i s = m k i s
/-- and the cause is told -/
def RC (m : ob_Mem) (c k a b o : Int) (m' : ob_Mem) : Prop := m' 43 0 = up (m 43 0) (-2 - c) (ob_wr (m 43 0 (-2 - c) + 1)) ∧ (m' 44 0 0 = k ∧ m' 44 0 1 = a ∧ m' 44 0 2 = b ∧ m' 44 0 3 = o) ∧ m' 40 0 = m 40 0 ∧ m' 41 0 = m 41 0 ∧ m' 8 0 3 = m 8 0 3 ∧ ∀ k i s, (k ≠ 8 ∧ k < 40) ∨ k = 55 ∨ (k = 8 ∧ s = 22) → m' k i s = m k i s
theorem RF_rfs {m : ob_Mem} {c : Int} : RF m c (rfs m c) := by
  refine ⟨rw_e, rw_k (by omega), rw_k (by omega), rw_k (by omega), rs_k (by omega), fun k i s h => rs_k (by omega)⟩
theorem Chg_R {m m1 m2 : ob_Mem} {s' : Int → Int} (h1 : fa m m1) (h3 : PP (m 40 0) m m1) (h4 : fR m1 m2) (h5 : m2 40 0 = s') : Chg m s' m2 := by
  refine ⟨fa_t h1 (fR_fa h4), h5, ?_⟩
  obtain ⟨p1, p2, p3⟩ := h3
  have e : ∀ k i s, k ≠ 40 → m2 k i s = m1 k i s := fun k i s hk => h4 k i s (fun z => hk z.1)
  refine ⟨by rw [e _ _ _ (by omega), p1], fun i p a b c d => by rw [e _ _ _ (by omega), p2 i p a b c d], fun p a b => by rw [e _ _ _ (by omega), p3 p a b]⟩
theorem md_barrel {W : Int} (m : ob_Mem) {r k t : Int} (hV : VV W (m 40 0)) (hn : 0 ≤ m 8 0 3 ∧ m 8 0 3 ≤ 5) : wp (ob_E (154, 0, [(11, 0), (1, r), (1, k), (1, t), (0, 0)], [], (m, none))) (fun v m' => v = beV (m 40 0) r k t ∧ (v < 0 ∧ RF m v m' ∨ 0 ≤ v ∧ Chg m (beS (m 40 0) r k t) m')) := by
  obtain ⟨⟨v1, -⟩, -⟩ := id hV
  unfold beV beS
  by_cases c0 : 6 ≤ r ∧ r ≤ 24
  · by_cases c1 : 1 ≤ k ∧ k ≤ 6
    · by_cases c2 : 2 ≤ t ∧ t ≤ 3
      · simp (disch := first | omega | assumption) only [↓if_pos, ↓if_neg, Option.bind_some, ob_wr_id, sg_X8_barrel_0, sg_X8_barrel_11, sg_X8_barrel_23, sg_X8_barrel_37, sg_X8_barrel_40, sg_X8_barrel_46, sg_X8_barrel_51, sg_X8_barrel_57, sg_X8_barrel_64, md_in, md_round]
        refine wp_b (md_keep m hn) (fun _ m1 h1 => ?_)
        obtain ⟨k1, k2, k3⟩ := h1
        rw [sg_X8_barrel_57]
        refine wp_b (md_begins m1) (fun _ m2 h2 => ?_)
        rw [sg_X8_barrel_64]
        exact wp_ret ⟨rfl, Or.inr ⟨by omega, Chg_R k1 k3 h2.2 (by rw [h2.1, k2])⟩⟩
      · simp (disch := first | omega | assumption) only [↓if_pos, ↓if_neg, Option.bind_some, ob_wr_id, sg_X8_barrel_0, sg_X8_barrel_11, sg_X8_barrel_23, sg_X8_barrel_37, sg_X8_barrel_40, sg_X8_barrel_46, sg_X8_barrel_51, sg_X8_barrel_57, sg_X8_barrel_64, md_in, md_round, md_refuses]
        exact wp_ret ⟨rfl, Or.inl ⟨by omega, RF_rfs⟩⟩
    · simp (disch := first | omega | assumption) only [↓if_pos, ↓if_neg, Option.bind_some, ob_wr_id, sg_X8_barrel_0, sg_X8_barrel_11, sg_X8_barrel_23, sg_X8_barrel_37, sg_X8_barrel_40, sg_X8_barrel_46, sg_X8_barrel_51, sg_X8_barrel_57, sg_X8_barrel_64, md_in, md_round, md_refuses]
      exact wp_ret ⟨rfl, Or.inl ⟨by omega, RF_rfs⟩⟩
  · simp (disch := first | omega | assumption) only [↓if_pos, ↓if_neg, Option.bind_some, ob_wr_id, sg_X8_barrel_0, sg_X8_barrel_11, sg_X8_barrel_23, sg_X8_barrel_37, sg_X8_barrel_40, sg_X8_barrel_46, sg_X8_barrel_51, sg_X8_barrel_57, sg_X8_barrel_64, md_in, md_round, md_refuses]
    exact wp_ret ⟨rfl, Or.inl ⟨by omega, RF_rfs⟩⟩
theorem md_sets {W : Int} (m : ob_Mem) {w v : Int} (hV : VV W (m 40 0)) (hn : 0 ≤ m 8 0 3 ∧ m 8 0 3 ≤ 5) : wp (ob_E (156, 0, [(11, 0), (1, w), (1, v)], [], (m, none))) (fun v' m' => v' = aV (m 40 0) w v ∧ (v' < 0 ∧ RF m v' m' ∨ 0 ≤ v' ∧ Chg m (aS (m 40 0) w v) m')) := by
  obtain ⟨⟨v1, v2, v3, v4, v5, v6, -⟩, -⟩ := id hV
  have ok : ((w = 0 ∧ 0 ≤ v ∧ v ≤ 2) ∨ (w = 1 ∧ 0 ≤ v ∧ v ≤ 3) ∨ (w = 2 ∧ 1 ≤ v ∧ v ≤ 99)) → wp (ob_E (156, 70, [(11, 0), (1, w), (1, v)], [], (m, none))) (fun v' m' => v' = aV (m 40 0) w v ∧ (v' < 0 ∧ RF m v' m' ∨ 0 ≤ v' ∧ Chg m (aS (m 40 0) w v) m')) := by
    intro c
    unfold aV aS
    rw [if_pos c, if_pos c, sg_X8_sets_70]
    refine wp_b (md_keep m hn) (fun _ m1 h1 => ?_)
    obtain ⟨k1, k2, k3⟩ := h1
    simp (disch := first | omega | assumption) only [↓if_pos, ↓if_neg, Option.bind_some, ob_wr_id, sg_X8_sets_74, md_setNow, sg_X8_sets_82]
    rw [k2]
    have nn : 0 ≤ m 40 0 (3 + w) := by
      obtain e | e | e : w = 0 ∨ w = 1 ∨ w = 2 := by omega
      · subst e
        exact v4.1
      · subst e
        exact v5.1
      · subst e
        show 0 ≤ m 40 0 5
        omega
    exact wp_ret ⟨rfl, Or.inr ⟨nn, Chg_R k1 k3 (fR_set sm_r) (by rw [rw_e, k2])⟩⟩
  have bad : ¬ ((w = 0 ∧ 0 ≤ v ∧ v ≤ 2) ∨ (w = 1 ∧ 0 ≤ v ∧ v ≤ 3) ∨ (w = 2 ∧ 1 ≤ v ∧ v ≤ 99)) → wp (ob_E (156, 63, [(11, 0), (1, w), (1, v)], [], (m, none))) (fun v' m' => v' = aV (m 40 0) w v ∧ (v' < 0 ∧ RF m v' m' ∨ 0 ≤ v' ∧ Chg m (aS (m 40 0) w v) m')) := by
    intro c
    unfold aV aS
    rw [if_neg c, if_neg c]
    simp (disch := first | omega | assumption) only [↓if_pos, ↓if_neg, Option.bind_some, ob_wr_id, sg_X8_sets_63, md_refuses, sg_X8_sets_69]
    exact wp_ret ⟨rfl, Or.inl ⟨by omega, RF_rfs⟩⟩
  by_cases w0 : w = 0
  · by_cases c : 0 ≤ v ∧ v ≤ 2
    · simp (disch := first | omega | assumption) only [↓if_pos, ↓if_neg, Option.bind_some, ob_wr_id, sg_X8_sets_0, sg_X8_sets_9, sg_X8_sets_25, md_in]
      exact ok (by omega)
    · simp (disch := first | omega | assumption) only [↓if_pos, ↓if_neg, Option.bind_some, ob_wr_id, sg_X8_sets_0, sg_X8_sets_9, sg_X8_sets_25, md_in]
      exact bad (by omega)
  · by_cases w1 : w = 1
    · by_cases c : 0 ≤ v ∧ v ≤ 3
      · simp (disch := first | omega | assumption) only [↓if_pos, ↓if_neg, Option.bind_some, ob_wr_id, sg_X8_sets_0, sg_X8_sets_9, sg_X8_sets_45, md_in]
        exact ok (by omega)
      · simp (disch := first | omega | assumption) only [↓if_pos, ↓if_neg, Option.bind_some, ob_wr_id, sg_X8_sets_0, sg_X8_sets_9, sg_X8_sets_45, md_in]
        exact bad (by omega)
    · by_cases w2 : w = 2
      · by_cases c : 1 ≤ v ∧ v ≤ 99
        · simp (disch := first | omega | assumption) only [↓if_pos, ↓if_neg, Option.bind_some, ob_wr_id, sg_X8_sets_0, sg_X8_sets_9, sg_X8_sets_60, md_in]
          exact ok (by omega)
        · simp (disch := first | omega | assumption) only [↓if_pos, ↓if_neg, Option.bind_some, ob_wr_id, sg_X8_sets_0, sg_X8_sets_9, sg_X8_sets_60, md_in]
          exact bad (by omega)
      · simp (disch := first | omega | assumption) only [↓if_pos, ↓if_neg, Option.bind_some, ob_wr_id, sg_X8_sets_0, sg_X8_sets_9, md_in]
        exact bad (by omega)
theorem md_gap {W : Int} (m : ob_Mem) {k v : Int} (hV : VV W (m 40 0)) (hn : 0 ≤ m 8 0 3 ∧ m 8 0 3 ≤ 5) : wp (ob_E (158, 0, [(11, 0), (1, k), (1, v)], [], (m, none))) (fun v' m' => v' = gV (m 40 0) k v ∧ (v' < 0 ∧ RF m v' m' ∨ 0 ≤ v' ∧ Chg m (gS (m 40 0) k v) m')) := by
  obtain ⟨⟨v1, v2, v3, v4, v5, v6, v7⟩, -⟩ := id hV
  unfold gV gS
  by_cases c : (0 ≤ k ∧ k < m 40 0 1) ∧ 0 ≤ v ∧ v ≤ 6
  · rw [if_pos c, if_pos c]
    simp (disch := first | omega | assumption) only [↓if_pos, ↓if_neg, Option.bind_some, ob_wr_id, sg_X8_gap_0, sg_X8_gap_6, md_canGap]
    refine wp_b (md_keep m hn) (fun _ m1 h1 => ?_)
    obtain ⟨k1, k2, k3⟩ := h1
    simp (disch := first | omega | assumption) only [↓if_pos, ↓if_neg, Option.bind_some, ob_wr_id, sg_X8_gap_20, sg_X8_gap_29, md_setNow]
    rw [k2]
    have := v7 k (by omega) (by omega)
    exact wp_ret ⟨rfl, Or.inr ⟨by omega, Chg_R k1 k3 (fR_set sm_r) (by rw [rw_e, k2])⟩⟩
  · rw [if_neg c, if_neg c]
    simp (disch := first | omega | assumption) only [↓if_pos, ↓if_neg, Option.bind_some, ob_wr_id, sg_X8_gap_0, sg_X8_gap_6, sg_X8_gap_15, md_canGap, md_refuses]
    exact wp_ret ⟨rfl, Or.inl ⟨by omega, RF_rfs⟩⟩
theorem md_side {W : Int} (m : ob_Mem) {v : Int} (hV : VV W (m 40 0)) (hn : 0 ≤ m 8 0 3 ∧ m 8 0 3 ≤ 5) : wp (ob_E (160, 0, [(11, 0), (1, v)], [], (m, none))) (fun v' m' => v' = aV (m 40 0) 1 v ∧ (v' < 0 ∧ RF m v' m' ∨ 0 ≤ v' ∧ Chg m (aS (m 40 0) 1 v) m')) := by
  obtain ⟨⟨v1, v2, v3, v4, v5, v6, v7⟩, -⟩ := id hV
  unfold aV aS
  by_cases c : 0 ≤ v ∧ v ≤ 3
  · rw [if_pos (by omega), if_pos (by omega)]
    simp (disch := first | omega | assumption) only [↓if_pos, ↓if_neg, Option.bind_some, ob_wr_id, sg_X8_side_0, sg_X8_side_5, md_canSide]
    refine wp_b (md_keep m hn) (fun _ m1 h1 => ?_)
    obtain ⟨k1, k2, k3⟩ := h1
    simp (disch := first | omega | assumption) only [↓if_pos, ↓if_neg, Option.bind_some, ob_wr_id, sg_X8_side_19, sg_X8_side_25, md_setNow]
    rw [k2]
    exact wp_ret ⟨rfl, Or.inr ⟨v5.1, Chg_R k1 k3 (fR_set sm_r) (by rw [rw_e, k2]; rfl)⟩⟩
  · rw [if_neg (by omega), if_neg (by omega)]
    simp (disch := first | omega | assumption) only [↓if_pos, ↓if_neg, Option.bind_some, ob_wr_id, sg_X8_side_0, sg_X8_side_5, sg_X8_side_14, md_canSide, md_refuses]
    exact wp_ret ⟨rfl, Or.inl ⟨by omega, RF_rfs⟩⟩
theorem md_ticks {W : Int} (m : ob_Mem) {t l : Int} (hV : VV W (m 40 0)) (hn : 0 ≤ m 8 0 3 ∧ m 8 0 3 ≤ 5) : wp (ob_E (163, 0, [(11, 0), (1, t), (1, l)], [], (m, none))) (fun v' m' => v' = tkV (m 40 0) t l ∧ (v' < 0 ∧ RF m v' m' ∨ 0 ≤ v' ∧ Chg m (tkS (m 40 0) t l) m')) := by
  obtain ⟨⟨v1, v2, v3, v4, v5, v6, v7⟩, v8⟩ := id hV
  unfold tkV tkS
  by_cases c : (0 ≤ t ∧ t < m 40 0 2) ∧ 1 ≤ l ∧ l ≤ m 40 0 0
  · rw [if_pos c, if_pos c]
    obtain ⟨⟨-, -, w3, -, -⟩, -⟩ := v8 t (by omega) (by omega)
    simp (disch := first | omega | assumption) only [↓if_pos, ↓if_neg, Option.bind_some, ob_wr_id, sg_X8_ticks_0, sg_X8_ticks_6, md_canTicks]
    refine wp_b (md_keep m hn) (fun _ m1 h1 => ?_)
    obtain ⟨k1, k2, k3⟩ := h1
    simp (disch := first | omega | assumption) only [↓if_pos, ↓if_neg, Option.bind_some, ob_wr_id, sg_X8_ticks_20, sg_X8_ticks_26, md_ticksNow]
    rw [k2]
    exact wp_ret ⟨rfl, Or.inr ⟨w3.1, Chg_R k1 k3 (fR_set (fR_set sm_r)) (by rw [rw_e, rw_e, k2])⟩⟩
  · rw [if_neg c, if_neg c]
    simp (disch := first | omega | assumption) only [↓if_pos, ↓if_neg, Option.bind_some, ob_wr_id, sg_X8_ticks_0, sg_X8_ticks_6, sg_X8_ticks_15, md_canTicks, md_refuses]
    exact wp_ret ⟨rfl, Or.inl ⟨by omega, RF_rfs⟩⟩
theorem md_shift {W : Int} (m : ob_Mem) {t l : Int} (hV : VV W (m 40 0)) (hn : 0 ≤ m 8 0 3 ∧ m 8 0 3 ≤ 5) : wp (ob_E (171, 0, [(11, 0), (1, t), (1, l)], [], (m, none))) (fun v' m' => v' = shV (m 40 0) t l ∧ (v' < 0 ∧ RF m v' m' ∨ 0 ≤ v' ∧ Chg m (shS (m 40 0) t l) m')) := by
  obtain ⟨⟨v1, v2, v3, v4, v5, v6, v7⟩, v8⟩ := id hV
  unfold shV shS
  by_cases c : (0 ≤ t ∧ t < m 40 0 2) ∧ 0 ≤ l ∧ l < m 40 0 0
  · rw [if_pos c, if_pos c]
    obtain ⟨⟨-, w2, w3, -, -⟩, -⟩ := v8 t (by omega) (by omega)
    simp (disch := first | omega | assumption) only [↓if_pos, ↓if_neg, Option.bind_some, ob_wr_id, sg_X8_shift_0, sg_X8_shift_6, md_canShift]
    refine wp_b (md_keep m hn) (fun _ m1 h1 => ?_)
    obtain ⟨k1, k2, k3⟩ := h1
    simp (disch := first | omega | assumption) only [↓if_pos, ↓if_neg, Option.bind_some, ob_wr_id, sg_X8_shift_20, sg_X8_shift_26, md_shiftNow]
    rw [k2]
    exact wp_ret ⟨rfl, Or.inr ⟨w2.1, Chg_R k1 k3 (fR_set sm_r) (by rw [rw_e, k2])⟩⟩
  · rw [if_neg c, if_neg c]
    simp (disch := first | omega | assumption) only [↓if_pos, ↓if_neg, Option.bind_some, ob_wr_id, sg_X8_shift_0, sg_X8_shift_6, sg_X8_shift_15, md_canShift, md_refuses]
    exact wp_ret ⟨rfl, Or.inl ⟨by omega, RF_rfs⟩⟩
theorem cNote_i (s : Int → Int) (t k a l : Int) : cNote s t k a l = -2 ∨ cNote s t k a l = -3 ∨ cNote s t k a l = -4 ∨ cNote s t k a l = 0 := by
  by_cases ok : okN s t k a l
  · by_cases tk : Tkn s t k a l
    · exact Or.inr (Or.inl (cNote_no ok tk))
    · have e := cNote_ok ok tk
      by_cases c : s (12 + 116 * t + 2) = 12
      · rw [if_pos c] at e
        exact Or.inr (Or.inr (Or.inl e))
      · rw [if_neg c] at e
        exact Or.inr (Or.inr (Or.inr e))
  · exact Or.inl (cNote_bad ok)
theorem cNote_0 {s : Int → Int} {t k a l : Int} (h : cNote s t k a l = 0) : okN s t k a l ∧ s (12 + 116 * t + 2) ≠ 12 := by
  by_cases ok : okN s t k a l
  · by_cases tk : Tkn s t k a l
    · exact absurd (cNote_no ok tk) (by omega)
    · have e := cNote_ok ok tk
      by_cases c : s (12 + 116 * t + 2) = 12
      · rw [if_pos c] at e
        omega
      · exact ⟨ok, c⟩
  · exact absurd (cNote_bad ok) (by omega)
theorem md_note {W : Int} (m : ob_Mem) {t k a l : Int} (hV : VV W (m 40 0)) (hn : 0 ≤ m 8 0 3 ∧ m 8 0 3 ≤ 5) : wp (ob_E (166, 0, [(11, 0), (1, t), (1, k), (1, a), (1, l), (0, 0)], [], (m, none))) (fun v' m' => v' = nV (m 40 0) t k a l ∧ (v' < 0 ∧ RF m v' m' ∨ 0 ≤ v' ∧ Chg m (nS (m 40 0) t k a l) m')) := by
  obtain ⟨⟨v1, v2, v3, v4, v5, v6, v7⟩, v8⟩ := id hV
  unfold nV nS
  have ci := cNote_i (m 40 0) t k a l
  have hc := md_canNote m (t := t) (k := k) (a := a) (l := l) hV
  by_cases c : cNote (m 40 0) t k a l < 0
  · rw [if_pos c, if_pos c, sg_X8_note_0, hc]
    generalize cNote (m 40 0) t k a l = x at *
    simp (disch := first | omega | assumption) only [↓if_pos, ↓if_neg, Option.bind_some, ob_wr_id, sg_X8_note_9, md_refuses, sg_X8_note_22]
    exact wp_ret ⟨rfl, Or.inl ⟨by omega, RF_rfs⟩⟩
  · obtain ⟨⟨o1, -⟩, o2⟩ := cNote_0 (s := m 40 0) (t := t) (k := k) (a := a) (l := l) (by omega)
    obtain ⟨⟨-, w2, w3, -, -⟩, -⟩ := v8 t (by omega) (by omega)
    rw [if_neg c, if_neg c, sg_X8_note_0, hc]
    generalize cNote (m 40 0) t k a l = x at *
    simp (disch := first | omega | assumption) only [↓if_pos, ↓if_neg, Option.bind_some, ob_wr_id, sg_X8_note_9]
    refine wp_b (md_keep m hn) (fun _ m1 h1 => ?_)
    obtain ⟨k1, k2, k3⟩ := h1
    have em : m1 40 0 (12 + 116 * t + 2) = m 40 0 (12 + 116 * t + 2) := by rw [k2]
    simp (disch := first | omega | assumption) only [↓if_pos, ↓if_neg, Option.bind_some, ob_wr_id, sg_X8_note_27, sg_X8_note_36, md_noteNow]
    rw [em]
    exact wp_ret ⟨rfl, Or.inr ⟨w3.1, Chg_R k1 k3 (fR_set (fR_set (fR_set (fR_set sm_r)))) (by rw [rw_e, rw_e, rw_e, rw_e, k2])⟩⟩
