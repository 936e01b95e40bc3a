-- THE MODEL: drop, pins, off, settles
theorem md_drop {W : Int} (m : ob_Mem) {t i : Int} (hV : VV W (m 40 0)) (hn : 0 ≤ m 8 0 3 ∧ m 8 0 3 ≤ 5) : wp (ob_E (168, 0, [(11, 0), (1, t), (1, i), (0, 0)], [], (m, none))) (fun v' m' => v' = drV (m 40 0) t i ∧ (v' < 0 ∧ RF m v' m' ∨ 0 ≤ v' ∧ Chg m (drS (m 40 0) t i) m')) := by
  obtain ⟨⟨v1, v2, v3, v4, v5, v6, v7⟩, v8⟩ := id hV
  unfold drV drS
  have hi := md_isNote m (t := t) (i := i) v3 (fun a b => (v8 t a b).1.2.2.1)
  by_cases c : (0 ≤ t ∧ t < m 40 0 2) ∧ 0 ≤ i ∧ i < m 40 0 (12 + 116 * t + 2)
  · have ht : 0 ≤ t ∧ t < 3 := by omega
    obtain ⟨⟨-, w2, w3, -, -⟩, -⟩ := v8 t ht.1 ht.2
    rw [if_pos c, if_pos c, sg_X8_drop_0, hi, if_pos c]
    simp (disch := first | omega | assumption) only [↓if_pos, ↓if_neg, Option.bind_some, ob_wr_id, sg_X8_drop_6]
    refine wp_b (md_keep m hn) (fun _ m1 h1 => ?_)
    obtain ⟨k1, k2, k3⟩ := h1
    rw [sg_X8_drop_20, ob_wr_id (by omega) (by omega)]
    refine wp_for (fun y (m' : ob_Mem) => ob_E (168, 24, [(11, 0), (1, t), (1, i), (1, y)], [], (m', none))) (3 * i) (3 * (m 40 0 (12 + 116 * t + 2) - 1)) (fun y m' => fR m1 m' ∧ ∀ p, m' 40 0 p = if 12 + 116 * t + (3 + 3 * i) ≤ p ∧ p < 12 + 116 * t + 3 + y then (m 40 0) (p + 3) else (m 40 0) p) ?_ ?_ (by omega) ⟨sm_r, fun p => ?_⟩
    · intro y m2 h1 h2 ⟨i1, i2⟩ hk
      have eM := i2 (12 + 116 * t + 2)
      rw [if_neg (by omega)] at eM
      have eY := i2 (12 + 116 * t + (3 + y + 3))
      rw [if_neg (by omega)] at eY
      rw [sg_X8_drop_24]
      simp (disch := first | omega | assumption) only [↓if_pos, ↓if_neg, Option.bind_some, ob_wr_id, md_of, sg_X8_drop_32, sg_X8_drop_53, md_set, sg_X8_drop_56]
      refine hk _ ⟨fR_set i1, fun p => ?_⟩
      by_cases e : p = 12 + 116 * t + (3 + y)
      · rw [rs_e rfl e, if_pos (by omega), eY, e]
        exact congrArg _ (by omega)
      · rw [rs_s e, i2]
        by_cases c2 : 12 + 116 * t + (3 + 3 * i) ≤ p ∧ p < 12 + 116 * t + 3 + y
        · rw [if_pos c2, if_pos (by omega)]
        · rw [if_neg c2, if_neg (by omega)]
    · intro m2 ⟨i1, i2⟩
      have eM := i2 (12 + 116 * t + 2)
      rw [if_neg (by omega)] at eM
      rw [sg_X8_drop_24]
      simp (disch := first | omega | assumption) only [↓if_pos, ↓if_neg, Option.bind_some, ob_wr_id, rs_k, rs_i, rs_s, rs_e, md_of, sg_X8_drop_32, sg_X8_drop_71, md_set, sg_X8_drop_76, sg_X8_drop_82]
      rw [eM]
      refine wp_ret ⟨rfl, Or.inr ⟨by omega, Chg_R k1 k3 (fR_set i1) ?_⟩⟩
      rw [rw_e]
      funext p
      by_cases e : p = 12 + 116 * t + 2
      · rw [up_e e, if_neg (by omega), if_pos e]
      · rw [up_n e, i2]
        by_cases c2 : 12 + 116 * t + (3 + 3 * i) ≤ p ∧ p < 12 + 116 * t + (3 + 3 * (m 40 0 (12 + 116 * t + 2) - 1))
        · rw [if_pos c2, if_pos (by omega)]
        · rw [if_neg c2, if_neg e, if_neg (by omega)]
    · rw [if_neg (by omega), k2]
  · rw [if_neg c, if_neg c, sg_X8_drop_0, hi, if_neg c]
    simp (disch := first | omega | assumption) only [↓if_pos, ↓if_neg, Option.bind_some, ob_wr_id, sg_X8_drop_6, md_refuses, sg_X8_drop_15]
    exact wp_ret ⟨rfl, Or.inl ⟨by omega, RF_rfs⟩⟩
theorem RC_bla {m m1 : ob_Mem} {k a b c o a' b' : Int} (hs : sm (fun k i => k = 45 ∧ i = 0) m m1) (ha : a' = a) (hb : b' = b) : RC m c k a b o (rfs (bla (bec m1 k a b) k a' b' o) c) := by
  subst ha hb
  have e : ∀ kk ii ss, kk ≠ 45 → m1 kk ii ss = m kk ii ss := fun kk ii ss h => hs kk ii ss (fun z => h z.1)
  have er : ∀ kk ii, kk ≠ 45 → m1 kk ii = m kk ii := fun kk ii h => by
    funext ss
    exact e kk ii ss h
  unfold rfs bla bec
  refine ⟨?_, ⟨?_, ?_, ?_, ?_⟩, ?_, ?_, ?_, fun kk ii ss h => ?_⟩
  · rw [rw_e]
    simp (disch := omega) only [rs_k, rs_i, rs_s, rs_e, up_e, up_n, rw_k, er, e]
  · simp (disch := omega) only [rs_k, rs_i, rs_s, rs_e, up_e, up_n]
  · simp (disch := omega) only [rs_k, rs_i, rs_s, rs_e, up_e, up_n]
  · simp (disch := omega) only [rs_k, rs_i, rs_s, rs_e, up_e, up_n]
  · simp (disch := omega) only [rs_k, rs_i, rs_s, rs_e, up_e, up_n]
  · simp (disch := omega) only [rs_k, rs_i, rs_s, rs_e, up_e, up_n, rw_k, er]
  · simp (disch := omega) only [rs_k, rs_i, rs_s, rs_e, up_e, up_n, rw_k, er]
  · simp (disch := omega) only [rs_k, rs_i, rs_s, rs_e, up_e, up_n, e]
  · by_cases z : kk = 8
    · simp (disch := omega) only [rs_k, rs_i, rs_s, rs_e, up_e, up_n, e]
    · simp (disch := omega) only [rs_k, rs_i, rs_s, rs_e, up_e, up_n, e]
theorem md_pins {W : Int} (m : ob_Mem) {t : Int} (hV : VV W (m 40 0)) (hn : 0 ≤ m 8 0 3 ∧ m 8 0 3 ≤ 5) : wp (ob_E (187, 0, [(11, 0), (1, t), (0, 0)], [], (m, none))) (fun v m' => (¬ (0 ≤ t ∧ t < m 40 0 2) ∧ v = -2 ∧ RF m (-2) m') ∨ ((0 ≤ t ∧ t < m 40 0 2) ∧ v = -3 ∧ ∃ k a b, CP (m 40 0) t k a b ∧ RC m (-3) k a b (-1) m') ∨ ((0 ≤ t ∧ t < m 40 0 2) ∧ OkP (m 40 0) t ∧ v = m 40 0 (12 + 116 * t + 2) ∧ Chg m (piS (m 40 0) t) m')) := by
  obtain ⟨⟨v1, v2, v3, v4, v5, v6, v7⟩, v8⟩ := id hV
  rw [sg_X8_pins_0]
  refine wp_b (md_canPin m hV) (fun v m1 h1 => ?_)
  rcases h1 with ⟨c, rfl, rfl⟩ | ⟨c, rfl, k, a, b, hC, rfl⟩ | ⟨c, rfl, hO, rfl⟩
  · simp (disch := first | omega | assumption) only [↓if_pos, ↓if_neg, Option.bind_some, ob_wr_id, sg_X8_pins_5, sg_X8_pins_25, md_refuses, sg_X8_pins_30]
    exact wp_ret (Or.inl ⟨c, rfl, RF_rfs⟩)
  · have b6 : bec m k a b 8 0 6 = k := by
      unfold bec
      simp (disch := omega) only [rs_k, rs_i, rs_s, rs_e, up_e, up_n]
    have b7 : bec m k a b 8 0 7 = a := by
      unfold bec
      simp (disch := omega) only [rs_k, rs_i, rs_s, rs_e, up_e, up_n]
    have b8 : bec m k a b 8 0 8 = b := by
      unfold bec
      simp (disch := omega) only [rs_k, rs_i, rs_s, rs_e, up_e, up_n]
    simp (disch := first | omega | assumption) only [↓if_pos, ↓if_neg, Option.bind_some, ob_wr_id, sg_X8_pins_5, b6, md_blames, sg_X8_pins_25, md_refuses, sg_X8_pins_30]
    refine wp_ret (Or.inr (Or.inl ⟨c, rfl, k, a, b, hC, RC_bla sm_r ?_ ?_⟩))
    · rw [b7]
      rcases hC with ⟨-, rfl, rfl, rfl⟩ | ⟨-, rfl, -⟩ | ⟨-, -, rfl, -⟩
      · rfl
      · rfl
      · rfl
    · rw [b8]
      rcases hC with ⟨-, rfl, rfl, rfl⟩ | ⟨-, rfl, -⟩ | ⟨-, -, rfl, -⟩
      · rfl
      · rfl
      · rfl
  · simp (disch := first | omega | assumption) only [↓if_pos, ↓if_neg, Option.bind_some, ob_wr_id, sg_X8_pins_5]
    refine wp_b (md_keep m1 hn) (fun _ m2 h2 => ?_)
    obtain ⟨k1, k2, k3⟩ := h2
    rw [sg_X8_pins_35]
    refine wp_b (md_pinNow m2 (by rw [k2]; exact hV) (by omega)) (fun v m3 h3 => ?_)
    obtain ⟨p1, p2, p3⟩ := h3
    rw [k2] at p1 p2
    rw [sg_X8_pins_40, p1]
    exact wp_ret (Or.inr (Or.inr ⟨c, hO, rfl, Chg_R k1 k3 p3 p2⟩))
theorem md_off {W : Int} (m : ob_Mem) {t : Int} (hV : VV W (m 40 0)) (hn : 0 ≤ m 8 0 3 ∧ m 8 0 3 ≤ 5) : wp (ob_E (190, 0, [(11, 0), (1, t), (0, 0)], [], (m, none))) (fun v' m' => v' = ofV (m 40 0) t ∧ (v' < 0 ∧ RF m v' m' ∨ 0 ≤ v' ∧ Chg m (ofS (m 40 0) t) m')) := by
  obtain ⟨⟨v1, v2, v3, v4, v5, v6, v7⟩, v8⟩ := id hV
  unfold ofV ofS
  by_cases c0 : 0 ≤ t ∧ t < m 40 0 2
  · by_cases c1 : m 40 0 (12 + 116 * t + 39) = 1
    · obtain ⟨-, -, -, w3⟩ := v8 t (by omega) (by omega)
      obtain ⟨-, -, -, w4, -⟩ := w3 c1
      rw [if_pos c0, if_pos c1, if_pos ⟨c0, c1⟩]
      simp (disch := first | omega | assumption) only [↓if_pos, ↓if_neg, Option.bind_some, ob_wr_id, sg_X8_off_0, sg_X8_off_5, md_canOff]
      refine wp_b (md_keep m hn) (fun _ m1 h1 => ?_)
      obtain ⟨k1, k2, k3⟩ := h1
      rw [sg_X8_off_20]
      refine wp_b (md_offNow m1 (by omega)) (fun v m2 h2 => ?_)
      obtain ⟨p1, p2, p3⟩ := h2
      rw [k2] at p1 p2
      rw [sg_X8_off_25, p1]
      exact wp_ret ⟨rfl, Or.inr ⟨by omega, Chg_R k1 k3 p3 p2⟩⟩
    · rw [if_pos c0, if_neg c1, if_neg (fun z => c1 z.2)]
      simp (disch := first | omega | assumption) only [↓if_pos, ↓if_neg, Option.bind_some, ob_wr_id, sg_X8_off_0, sg_X8_off_5, sg_X8_off_15, md_canOff, md_refuses]
      exact wp_ret ⟨rfl, Or.inl ⟨by omega, RF_rfs⟩⟩
  · rw [if_neg c0, if_neg (fun z => c0 z.1)]
    simp (disch := first | omega | assumption) only [↓if_pos, ↓if_neg, Option.bind_some, ob_wr_id, sg_X8_off_0, sg_X8_off_5, sg_X8_off_15, md_canOff, md_refuses]
    exact wp_ret ⟨rfl, Or.inl ⟨by omega, RF_rfs⟩⟩
theorem fo_keep {f : Int → (Int → Int) → (Int → Int)} {s : Int → Int} {p : Int} : ∀ n : Nat, (∀ j : Int, 0 ≤ j → j < (n : Int) → ∀ r, r p = s p → f j r p = s p) → fo f s n p = s p
  | 0, _ => rfl
  | n + 1, h => h n (by omega) (by omega) _ (fo_keep n (fun j a b => h j a (by omega)))
theorem md_settles {W : Int} (m : ob_Mem) (hW : 0 ≤ W) (hV : VV W (m 40 0)) (hn : 0 ≤ m 8 0 3 ∧ m 8 0 3 ≤ 5) : wp (ob_E (197, 0, [(11, 0), (0, 0), (0, 0), (0, 0)], [], (m, none))) (fun v m' => (v = -3 ∧ ∃ k a b, SC (m 40 0) k a b ∧ RC m (-3) k a b (-1) m') ∨ ∃ a b c, inR (m 40 0) a b c ∧ OkS (m 40 0) (TT a b c) ∧ v = a + b + c ∧ Chg m (seC (m 40 0) (xF a b c) (m 40 0 2).toNat) m') := by
  obtain ⟨⟨v1, v2, v3, v4, v5, v6, v7⟩, v8⟩ := id hV
  have n0 := sN_b (s := m 40 0) (t := 0) v1
  have n1 := sN_b (s := m 40 0) (t := 1) v1
  have n2 := sN_b (s := m 40 0) (t := 2) v1
  rw [sg_X8_settles_0]
  refine wp_b (md_canSettle m hV) (fun v m1 h1 => ?_)
  rcases h1 with ⟨rfl, k, a, b, hC, m0, hs, rfl⟩ | ⟨rfl, hs, w, hO⟩
  · have b6 : bec m0 k a b 8 0 6 = k := by
      unfold bec
      simp (disch := omega) only [rs_k, rs_i, rs_s, rs_e, up_e, up_n]
    have b7 : bec m0 k a b 8 0 7 = a := by
      unfold bec
      simp (disch := omega) only [rs_k, rs_i, rs_s, rs_e, up_e, up_n]
    have b8 : bec m0 k a b 8 0 8 = b := by
      unfold bec
      simp (disch := omega) only [rs_k, rs_i, rs_s, rs_e, up_e, up_n]
    simp (disch := first | omega | assumption) only [↓if_pos, ↓if_neg, Option.bind_some, ob_wr_id, sg_X8_settles_4, b6, md_blames, sg_X8_settles_16, md_refuses, sg_X8_settles_22]
    refine wp_ret (Or.inl ⟨rfl, k, a, b, hC, RC_bla hs ?_ ?_⟩)
    · rw [b7]
      rcases hC with ⟨-, rfl, rfl, rfl⟩ | ⟨-, t, -, -, rfl, -⟩ | ⟨-, -, -, rfl, rfl, rfl⟩
      · rfl
      · rfl
      · rfl
    · rw [b8]
      rcases hC with ⟨-, rfl, rfl, rfl⟩ | ⟨-, t, -, -, rfl, -⟩ | ⟨-, -, -, rfl, rfl, rfl⟩
      · rfl
      · rfl
      · rfl
  · have er1 : m1 40 0 = m 40 0 := by
      funext p
      exact hs 40 0 p (fun z => by have := z.1; omega)
    simp (disch := first | omega | assumption) only [↓if_pos, ↓if_neg, Option.bind_some, ob_wr_id, sg_X8_settles_4]
    refine wp_b (md_settled m1 (by rw [er1]; exact hV)) (fun v m2 h2 => ?_)
    obtain ⟨hM, hs2⟩ := h2
    rw [er1] at hM
    have hs3 : sm (fun k i => k = 45 ∧ i = 0) m m2 := sm_t hs hs2
    have e3 : ∀ k i s, k ≠ 45 → m2 k i s = m k i s := fun k i s h => hs3 k i s (fun z => h z.1)
    have er2 : m2 40 0 = m 40 0 := by
      funext p
      exact e3 40 0 p (by omega)
    obtain ⟨o1, o2, o3, o4⟩ := id hO
    have ev : v = w := MN_u hM o3
    subst ev
    rcases hM with ⟨z, -⟩ | ⟨a, b, c, r1, r2, r3, r4⟩
    · exact absurd z o4
    · obtain ⟨d1, d2, d3, d4⟩ := TT_d v1 r1
      obtain ⟨q1, q2, q3⟩ := id r1
      rw [← r3] at d1 d2 d3 d4
      have bv : 0 ≤ v ∧ v < 3000000 := by
        unfold TT at r3
        omega
      rw [sg_X8_settles_27]
      refine wp_b (md_keep m2 (by rw [e3 8 0 3 (by omega)]; exact hn)) (fun _ m3 h3 => ?_)
      obtain ⟨k1, k2, k3⟩ := h3
      have f23 : fa m m2 := fun k i s h => e3 k i s (by omega)
      have k1' : fa m m3 := fa_t f23 k1
      have k3' : PP (m 40 0) m m3 := by
        rw [er2] at k3
        obtain ⟨p1, p2, p3⟩ := k3
        rw [e3 8 0 3 (by omega)] at p1 p2 p3
        exact ⟨p1, fun i p a b c d => by rw [p2 i p a b c d, e3 _ _ _ (by omega)], p3⟩
      rw [er2] at k2
      rw [sg_X8_settles_32]
      refine wp_for (fun y (x : ob_AV × ob_Mem) => ob_E (197, 34, [(11, 0), (1, v), (1, y), x.1], [], (x.2, none))) 0 (m 40 0 2) (fun y x => fR m3 x.2 ∧ x.2 40 0 = seO (m 40 0) y.toNat ∧ VV W (seO (m 40 0) y.toNat)) ?_ ?_ (by omega) (x := ((0, 0), m3)) ⟨sm_r, k2, hV⟩
      · intro y ⟨x1, m4⟩ h1 h2 ⟨i1, i2, i3⟩ hk
        have i1 : fR m3 m4 := i1
        have i2 : m4 40 0 = seO (m 40 0) y.toNat := i2
        have eS : seO (m 40 0) (y + 1).toNat = ofX (seO (m 40 0) y.toNat) y := fo_s h1
        have eT : m4 40 0 2 = m 40 0 2 := by
          rw [i2]
          exact fo_keep _ (fun j a b r hr => by rw [ofX_n (by omega), hr])
        show wp (ob_E (197, 34, [(11, 0), (1, v), (1, y), x1], [], (m4, none))) _
        rw [sg_X8_settles_34]
        simp (disch := first | omega | assumption) only [↓if_pos, ↓if_neg, Option.bind_some, ob_wr_id, md_tunes, sg_X8_settles_39]
        refine wp_b (md_offNow m4 (by omega)) (fun _ m5 h5 => ?_)
        obtain ⟨p1, p2, p3⟩ := h5
        rw [sg_X8_settles_47, ob_wr_id (by omega) (by omega)]
        refine hk (_, m5) ⟨sm_t i1 p3, ?_, ?_⟩
        · show m5 40 0 = _
          rw [p2, i2, eS]
        · rw [eS]
          exact VV_ofX i3 (by omega)
      · intro ⟨x1, m4⟩ ⟨i1, i2, i3⟩
        have i1 : fR m3 m4 := i1
        have i2 : m4 40 0 = seO (m 40 0) (m 40 0 2).toNat := i2
        have oK : ∀ p, (0 ≤ p ∧ p < 12) ∨ (∃ t w, (0 ≤ t ∧ t < 3) ∧ (0 ≤ w ∧ w < 39) ∧ p = 12 + 116 * t + w) → seO (m 40 0) (m 40 0 2).toNat p = m 40 0 p := fun p hp => fo_keep _ (fun j a b r hr => by
          rw [ofX_n, hr]
          rcases hp with hp | ⟨t, w, h1, h2, h3⟩ <;> omega)
        have eT : m4 40 0 2 = m 40 0 2 := by
          rw [i2]
          exact oK 2 (by omega)
        show wp (ob_E (197, 34, [(11, 0), (1, v), (1, m 40 0 2), x1], [], (m4, none))) _
        rw [sg_X8_settles_34]
        simp (disch := first | omega | assumption) only [↓if_pos, ↓if_neg, Option.bind_some, ob_wr_id, md_tunes, sg_X8_settles_39]
        refine wp_for (fun y (x : ob_AV × ob_Mem) => ob_E (197, 56, [(11, 0), (1, v), (1, y), x.1], [], (x.2, none))) 0 (m 40 0 2) (fun y x => fR m3 x.2 ∧ x.2 40 0 = seP (seO (m 40 0) (m 40 0 2).toNat) (xF a b c) y.toNat ∧ VV W (x.2 40 0) ∧ ∀ p, (0 ≤ p ∧ p < 12) ∨ 12 + 116 * y ≤ p → x.2 40 0 p = seO (m 40 0) (m 40 0 2).toNat p) ?_ ?_ (by omega) (x := (x1, m4)) ⟨i1, i2, by show VV W (m4 40 0); rw [i2]; exact i3, fun p _ => by show m4 40 0 p = _; rw [i2]⟩
        · intro y ⟨x2, m5⟩ h1 h2 ⟨j1, j2, j3, j4⟩ hk
          have ht : 0 ≤ y ∧ y < 3 := by omega
          have j1 : fR m3 m5 := j1
          have j2 : m5 40 0 = seP (seO (m 40 0) (m 40 0 2).toNat) (xF a b c) y.toNat := j2
          have j3 : VV W (m5 40 0) := j3
          have j4 : ∀ p, (0 ≤ p ∧ p < 12) ∨ 12 + 116 * y ≤ p → m5 40 0 p = seO (m 40 0) (m 40 0 2).toNat p := j4
          have eP : seP (seO (m 40 0) (m 40 0 2).toNat) (xF a b c) (y + 1).toNat = pnF (xF a b c y) y (m5 40 0) := by
            rw [j2]
            exact fo_s h1
          have eT5 : m5 40 0 2 = m 40 0 2 := (j4 2 (by omega)).trans (oK 2 (by omega))
          have eR5 : m5 40 0 0 = m 40 0 0 := (j4 0 (by omega)).trans (oK 0 (by omega))
          have ag : agS (m 40 0) (m5 40 0) y := ⟨fun p a b => (j4 p (by omega)).trans (oK p (by omega)), fun w a b d => (j4 _ (by omega)).trans (oK _ (Or.inr ⟨y, w, ht, by omega, rfl⟩))⟩
          have eM5 : m5 40 0 (12 + 116 * y + 2) = m 40 0 (12 + 116 * y + 2) := ag.2 2 (by omega) (by omega) (by omega)
          obtain ⟨⟨-, -, w3, -, -⟩, -⟩ := v8 y ht.1 ht.2
          have hx : 0 < m5 40 0 (12 + 116 * y + 2) → 0 ≤ xF a b c y ∧ xF a b c y < m5 40 0 0 := fun _ => by
            unfold xF
            obtain e | e | e : y = 0 ∨ y = 1 ∨ y = 2 := by omega
            · rw [if_pos e]
              omega
            · rw [if_neg (by omega), if_pos e]
              omega
            · rw [if_neg (by omega), if_neg (by omega)]
              omega
          have Vn := VV_pn (x := xF a b c y) hW hV j3 (by omega) ht hx ag (o2 y h1 h2)
          have io : ∀ p, (0 ≤ p ∧ p < 12) ∨ 12 + 116 * (y + 1) ≤ p → pnF (xF a b c y) y (m5 40 0) p = seO (m 40 0) (m 40 0 2).toNat p := fun p hp => by
            rw [pnF_o (by omega) (by omega), j4 p (by omega)]
          show wp (ob_E (197, 56, [(11, 0), (1, v), (1, y), x2], [], (m5, none))) _
          rw [sg_X8_settles_56]
          simp (disch := first | omega | assumption) only [↓if_pos, ↓if_neg, Option.bind_some, ob_wr_id, md_tunes, sg_X8_settles_61, md_of]
          by_cases cM : 0 < m5 40 0 (12 + 116 * y + 2)
          · have hx' := hx cM
            have hpn : pnF (xF a b c y) y (m5 40 0) = piS (up (m5 40 0) (12 + 116 * y + 1) (xF a b c y)) y := if_pos cM
            have go : wp (ob_E (197, 107, [(11, 0), (1, v), (1, y), x2], [], (ob_set m5 40 0 (12 + 116 * y + 1) (xF a b c y), none))) (fun v m' => (v = -3 ∧ ∃ k a b, SC (m 40 0) k a b ∧ RC m (-3) k a b (-1) m') ∨ ∃ a b c, inR (m 40 0) a b c ∧ OkS (m 40 0) (TT a b c) ∧ v = a + b + c ∧ Chg m (seC (m 40 0) (xF a b c) (m 40 0 2).toNat) m') := by
              have e6 : (ob_set m5 40 0 (12 + 116 * y + 1) (xF a b c y)) 40 0 = up (m5 40 0) (12 + 116 * y + 1) (xF a b c y) := rw_e
              have f6 : fR m3 (ob_set m5 40 0 (12 + 116 * y + 1) (xF a b c y)) := fR_set j1
              generalize ob_set m5 40 0 (12 + 116 * y + 1) (xF a b c y) = m6 at *
              rw [sg_X8_settles_107]
              refine wp_b (md_pinNow m6 (W := W) ?_ ht) (fun _ m7 h7 => ?_)
              · rw [e6, up_sh ⟨by omega, hx'⟩]
                exact VV_sh j3
              · obtain ⟨p1, p2, p3⟩ := h7
                rw [sg_X8_settles_112, sg_X8_settles_113, ob_wr_id (by omega) (by omega)]
                have e7 : m7 40 0 = pnF (xF a b c y) y (m5 40 0) := by
                  rw [p2, hpn, e6]
                  rfl
                refine hk (_, m7) ⟨sm_t f6 p3, ?_, ?_, ?_⟩
                · show m7 40 0 = _
                  rw [e7, eP]
                · show VV W (m7 40 0)
                  rw [e7]
                  exact Vn
                · show ∀ p, _ → m7 40 0 p = _
                  rw [e7]
                  exact io
            obtain e | e | e : y = 0 ∨ y = 1 ∨ y = 2 := by omega
            · have ex : xF a b c y = a := if_pos e
              rw [ex] at go
              have t1 : Int.tdiv v 1024 = v / 1024 := Int.tdiv_eq_ediv_of_nonneg bv.1
              have t2 : Int.tmod (v / 1024) 32 = v / 1024 % 32 := Int.tmod_eq_emod_of_nonneg (by omega)
              simp (disch := first | omega | assumption) only [↓if_pos, ↓if_neg, Option.bind_some, ob_wr_id, sg_X8_settles_70, t1, sg_X8_settles_101, t2, d2, md_set]
              exact go
            · have ex : xF a b c y = b := by
                unfold xF
                rw [if_neg (by omega), if_pos e]
              rw [ex] at go
              have t1 : Int.tdiv v 32 = v / 32 := Int.tdiv_eq_ediv_of_nonneg bv.1
              have t2 : Int.tmod (v / 32) 32 = v / 32 % 32 := Int.tmod_eq_emod_of_nonneg (by omega)
              simp (disch := first | omega | assumption) only [↓if_pos, ↓if_neg, Option.bind_some, ob_wr_id, sg_X8_settles_70, t1, sg_X8_settles_101, t2, d3, md_set]
              exact go
            · have ex : xF a b c y = c := by
                unfold xF
                rw [if_neg (by omega), if_neg (by omega)]
              rw [ex] at go
              have t2 : Int.tmod v 32 = v % 32 := Int.tmod_eq_emod_of_nonneg (by omega)
              simp (disch := first | omega | assumption) only [↓if_pos, ↓if_neg, Option.bind_some, ob_wr_id, sg_X8_settles_70, sg_X8_settles_101, t2, d4, md_set]
              exact go
          · simp (disch := first | omega | assumption) only [↓if_pos, ↓if_neg, Option.bind_some, ob_wr_id, sg_X8_settles_70, sg_X8_settles_113]
            have e7 : m5 40 0 = pnF (xF a b c y) y (m5 40 0) := (if_neg cM).symm
            refine hk (_, m5) ⟨j1, ?_, j3, ?_⟩
            · show m5 40 0 = _
              rw [eP, ← e7]
            · show ∀ p, _ → m5 40 0 p = _
              rw [e7]
              exact io
        · intro ⟨x2, m5⟩ ⟨j1, j2, j3, j4⟩
          have j1 : fR m3 m5 := j1
          have j2 : m5 40 0 = seP (seO (m 40 0) (m 40 0 2).toNat) (xF a b c) (m 40 0 2).toNat := j2
          have eT5 : m5 40 0 2 = m 40 0 2 := (j4 2 (by omega)).trans (oK 2 (by omega))
          have t1 : Int.tdiv v 32768 = v / 32768 := Int.tdiv_eq_ediv_of_nonneg bv.1
          show wp (ob_E (197, 56, [(11, 0), (1, v), (1, m 40 0 2), x2], [], (m5, none))) _
          rw [sg_X8_settles_56]
          simp (disch := first | omega | assumption) only [↓if_pos, ↓if_neg, Option.bind_some, ob_wr_id, md_tunes, sg_X8_settles_61, t1]
          rw [se_eq hV] at j2
          exact wp_ret (Or.inr ⟨a, b, c, r1, by rw [← r3]; exact hO, d1, Chg_R k1' k3' j1 j2⟩)
