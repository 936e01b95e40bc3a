-- JOINS: all, free, pin; HEARING
theorem ag_all {W : Int} {m : ob_Mem} {w : Int} (h : Inv W m) : Agr W W m (fun m => ob_E (99, 0, [(10, 0), (1, w)], [], (m, none))) (fun m => ob_E (213, 0, [(11, 0), (1, w)], [], (m, none))) := by
  obtain ⟨hV, hn⟩ := Inv_V h
  have hR := h.1.2.2.1.2
  by_cases c : 0 ≤ w ∧ w ≤ 6
  · refine J_br (V := alV (m 40 0) w) h ?_ (fun m1 e40 e1 => ?_)
    · show wp (ob_E (99, 0, [(10, 0), (1, w)], [], (m, none))) _
      simp (disch := first | omega | assumption) only [↓if_pos, ↓if_neg, Option.bind_some, ob_wr_id, sg_X7_all_0, cl_within, sg_X7_all_7]
      refine wp_b (cl_find hV hR) (fun _ m1 h1 => ?_)
      obtain ⟨r1, r2⟩ := h1
      have e7 : m1 7 0 0 = m 7 0 0 := sb7 r2 (by omega)
      have R1 := Rep_br hV hR r2
      rw [← e7] at R1
      rw [sg_X7_all_28, cl_allValue hV R1 r1 c]
      simp (disch := first | omega | assumption) only [↓if_pos, ↓if_neg, Option.bind_some, ob_wr_id, sg_X7_all_33]
      exact wp_ret ⟨rfl, r2⟩
    · show wp (ob_E (213, 0, [(11, 0), (1, w)], [], (m1, none))) _
      rw [← e40] at hV ⊢
      simp (disch := first | omega | assumption) only [↓if_pos, ↓if_neg, Option.bind_some, ob_wr_id, sg_X8_all_0, md_in, sg_X8_all_9]
      refine wp_b (md_allNow m1 hV c) (fun v m2 h2 => ?_)
      obtain ⟨r0, r1, r2, r3⟩ := h2
      simp (disch := first | omega | assumption) only [↓if_pos, ↓if_neg, Option.bind_some, ob_wr_id, sg_X8_all_17, sg_X8_all_26]
      exact wp_ret ⟨r0, fs_fq r3⟩
  · refine J_badA (v := -2) (w := -2) h (by omega) ?_ (fun m1 e er => ?_)
    · show ob_E (99, 0, [(10, 0), (1, w)], [], (m, none)) = _
      simp (disch := first | omega | assumption) only [↓if_pos, ↓if_neg, Option.bind_some, ob_wr_id, sg_X7_all_0, sg_X7_all_7, sg_X7_all_16, sg_X7_all_28, sg_X7_all_33, cl_within, cl_refused]
    · show ob_E (213, 0, [(11, 0), (1, w)], [], (m1, none)) = _
      simp (disch := first | omega | assumption) only [↓if_pos, ↓if_neg, Option.bind_some, ob_wr_id, sg_X8_all_0, sg_X8_all_9, sg_X8_all_17, sg_X8_all_26, md_in, md_refuses]
theorem ag_free {W : Int} {m : ob_Mem} {x : Int} (h : Inv W m) : Agr W W m (fun m => ob_E (101, 0, [(10, 0), (1, x)], [], (m, none))) (fun m => ob_E (216, 0, [(11, 0), (1, x)], [], (m, none))) := by
  obtain ⟨hV, hn⟩ := Inv_V h
  have hR := h.1.2.2.1.2
  obtain ⟨⟨v1, v2, v3, -⟩, v8⟩ := id hV
  have mb := ob_mulb (show 0 ≤ m 40 0 2 by omega) v3.2 (show 0 ≤ m 40 0 1 by omega) v2.2
  have eT := rpT hR
  have eK := rpK hR
  have eR := rpR hR
  have et := cl_tracks m (j := m 7 0 0) (by omega) (by omega)
  rw [eT, eK] at et
  by_cases c : 0 ≤ x ∧ x < m 40 0 2 * m 40 0 1
  · refine J_br (V := lgV (m 40 0 0) (Hd (m 40 0) (fun w => x = -1 ∨ tr (m 40 0) w = x) 36)) h ?_ (fun m1 e40 e1 => ?_)
    · show wp (ob_E (101, 0, [(10, 0), (1, x)], [], (m, none))) _
      rw [sg_X7_free_0, et]
      simp (disch := first | omega | assumption) only [↓if_pos, ↓if_neg, Option.bind_some, ob_wr_id, sg_X7_free_9, cl_within, sg_X7_free_14]
      refine wp_b (cl_heldOn hV hR) (fun v m1 hv => ?_)
      obtain ⟨rfl, hv⟩ := hv
      have hb : ∀ k, 0 ≤ k → k < m1 40 0 0 → (bit v k = true ↔ Hd (m1 40 0) (fun w => x = -1 ∨ tr (m1 40 0) w = x) 36 k) := fun k a b => (hv.1 k a b).trans ⟨fun ⟨v, q1, q2, q3, q4⟩ => ⟨v, q1, q2, Or.inr q3, q4⟩, fun ⟨v, q1, q2, q3, q4⟩ => ⟨v, q1, q2, q3.resolve_left (by omega), q4⟩⟩
      rw [sg_X7_free_32, eR, cl_longest v1 hb]
      simp (disch := first | omega | assumption) only [↓if_pos, ↓if_neg, Option.bind_some, ob_wr_id, sg_X7_free_42]
      exact wp_ret ⟨rfl, sm_r⟩
    · show wp (ob_E (216, 0, [(11, 0), (1, x)], [], (m1, none))) _
      have em := md_tracks m1 (by rw [e40]; exact v3) (by rw [e40]; exact v2)
      rw [e40] at em
      rw [sg_X8_free_0, em]
      simp (disch := first | omega | assumption) only [↓if_pos, ↓if_neg, Option.bind_some, ob_wr_id, sg_X8_free_7, md_in, sg_X8_free_13]
      refine wp_b (md_laysPins m1 (by rw [e40]; exact hV)) (fun _ m2 h2 => ?_)
      obtain ⟨r1, r2⟩ := h2
      have hs := fs_row r2
      rw [e40] at r1 hs
      rw [sg_X8_free_27, md_longest hs hV r1]
      simp (disch := first | omega | assumption) only [↓if_pos, ↓if_neg, Option.bind_some, ob_wr_id, sg_X8_free_32]
      exact wp_ret ⟨rfl, fs_fq r2⟩
  · refine J_badA (v := -2) (w := -2) h (by omega) ?_ (fun m1 e er => ?_)
    · show ob_E (101, 0, [(10, 0), (1, x)], [], (m, none)) = _
      rw [sg_X7_free_0, et]
      simp (disch := first | omega | assumption) only [↓if_pos, ↓if_neg, Option.bind_some, ob_wr_id, sg_X7_free_9, cl_within, sg_X7_free_14, cl_refused, sg_X7_free_23]
    · show ob_E (216, 0, [(11, 0), (1, x)], [], (m1, none)) = _
      have em := md_tracks m1 (by rw [er]; exact v3) (by rw [er]; exact v2)
      rw [er] at em
      rw [sg_X8_free_0, em]
      simp (disch := first | omega | assumption) only [↓if_pos, ↓if_neg, Option.bind_some, ob_wr_id, sg_X8_free_7, md_in, sg_X8_free_13, md_refuses, sg_X8_free_22]
theorem cl_numberOf {m : ob_Mem} {s : Int → Int} {q : BS} {t i : Int} (h : rB m s q) (ht : 0 ≤ t ∧ t < 3) (hi : 0 ≤ i ∧ i < 12) (hp : Pin s (12 * t + i)) (hu : 0 ≤ q.2.2.2.2.2.2 (12 * t + i)) : ob_E (28, 0, [(4, 0), (1, t), (1, i)], [], (m, none)) = some (q.2.2.2.2.2.2 (12 * t + i), (m, none)) := by
  have e := h.2.2 _ hp hu
  simp (disch := first | omega | assumption) only [↓if_pos, ↓if_neg, Option.bind_some, ob_wr_id, sg_X1_numberOf_0]
  rw [show t * 12 + i = 12 * t + i by omega, e]
/-- what a pin tells -/
noncomputable def piV (s : Int → Int) (t i w : Int) : Int := if w < 4 then s (12 + 116 * t + (44 + 4 * i + w)) else if w = 4 then (br s).2.2.2.2.2.2 (12 * t + i) else fpV s (12 * t + i)
theorem ag_pin {W : Int} {m : ob_Mem} {t i w : Int} (h : Inv W m) : Agr W W m (fun m => ob_E (97, 0, [(10, 0), (1, t), (1, i), (1, w)], [], (m, none))) (fun m => ob_E (207, 0, [(11, 0), (1, t), (1, i), (1, w)], [], (m, none))) := by
  obtain ⟨hV, hn⟩ := Inv_V h
  have hR := h.1.2.2.1.2
  obtain ⟨⟨v1, v2, v3, -⟩, v8⟩ := id hV
  have eT := rpT hR
  have eR := rpR hR
  obtain ⟨b1, b2⟩ := SI_br hV
  by_cases c1 : (0 ≤ t ∧ t < m 40 0 2) ∧ 0 ≤ i ∧ 0 ≤ w ∧ w ≤ 5
  · have ht : 0 ≤ t ∧ t < 3 := by omega
    have cb := cn_b hV ht
    obtain ⟨-, pp1, pp2, pp3⟩ := v8 t ht.1 ht.2
    by_cases c2 : i < cn (m 40 0) t
    · obtain ⟨hp, hc, hi2, ht2⟩ := Pin_c hV ht ⟨c1.2.1, c2⟩
      have hQ := rpQ hR ht hc
      have k0 : m 26 (2 * (3 * m 7 0 0 + t) + 1) i = m 40 0 (12 + 116 * t + (44 + 4 * i + 0)) := rqk hQ i c1.2.1 hi2
      have k1 : m 32 (3 * m 7 0 0 + t) i = m 40 0 (12 + 116 * t + (44 + 4 * i + 1)) := rqb hQ i c1.2.1 hi2
      have k2 : m 33 (3 * m 7 0 0 + t) i = m 40 0 (12 + 116 * t + (44 + 4 * i + 2)) := rqh hQ i c1.2.1 hi2
      have k3 : m 34 (3 * m 7 0 0 + t) i = m 40 0 (12 + 116 * t + (44 + 4 * i + 3)) := rqw hQ i c1.2.1 hi2
      refine J_br (V := piV (m 40 0) t i w) h ?_ (fun m1 e40 e1 => ?_)
      · show wp (ob_E (97, 0, [(10, 0), (1, t), (1, i), (1, w)], [], (m, none))) _
        simp (disch := first | omega | assumption) only [↓if_pos, ↓if_neg, Option.bind_some, ob_wr_id, sg_X7_pin_0, cl_hasTune, sg_X7_pin_8, cl_within, sg_X7_pin_21, cl_howMany hV hR ht, sg_X7_pin_44]
        refine wp_b (Q := fun v m' => v = piV (m 40 0) t i w ∧ sm (fun k _ => k = 1 ∨ (19 ≤ k ∧ k ≤ 25)) m m') ?_ (fun v m1 hv => ?_)
        · rw [sg_X7_pinValue_0, if_pos ht]
          unfold piV
          by_cases w0 : w = 0
          · subst w0
            simp (disch := first | omega | assumption) only [↓if_pos, ↓if_neg, Option.bind_some, ob_wr_id, k0]
            exact wp_ret ⟨rfl, sm_r⟩
          · by_cases w1 : w = 1
            · subst w1
              simp (disch := first | omega | assumption) only [↓if_pos, ↓if_neg, Option.bind_some, ob_wr_id, k1]
              exact wp_ret ⟨rfl, sm_r⟩
            · by_cases w2 : w = 2
              · subst w2
                simp (disch := first | omega | assumption) only [↓if_pos, ↓if_neg, Option.bind_some, ob_wr_id, k2]
                exact wp_ret ⟨rfl, sm_r⟩
              · by_cases w3 : w = 3
                · subst w3
                  simp (disch := first | omega | assumption) only [↓if_pos, ↓if_neg, Option.bind_some, ob_wr_id, k3]
                  exact wp_ret ⟨rfl, sm_r⟩
                · by_cases w4 : w = 4
                  · simp (disch := first | omega | assumption) only [↓if_pos, ↓if_neg, Option.bind_some, ob_wr_id]
                    refine wp_b (cl_find hV hR) (fun _ m1 h1 => ?_)
                    obtain ⟨r1, r2⟩ := h1
                    have hu := b2 _ hp
                    rw [sg_X7_pinValue_94, cl_numberOf r1 ht (by omega) hp hu.1]
                    simp (disch := first | omega | assumption) only [↓if_pos, ↓if_neg, Option.bind_some, ob_wr_id, sg_X7_pinValue_103]
                    exact wp_ret ⟨rfl, r2⟩
                  · obtain ⟨p4, p5, p6, p7, p8, p9⟩ := pp3 hc
                    have ef : ob_E (67, 0, [(8, 3 * m 7 0 0 + t), (1, i), (1, m 40 0 0), (0, 0), (0, 0)], [], (m, none)) = some (fpV (m 40 0) (12 * t + i), (m, none)) := by
                      have hfb := cl_freeBehind (i := i) (R := m 40 0 0) hQ v1 p7.2 ⟨c1.2.1, hi2⟩ (fun j a b => (p8 j a b).2.1) (by have := (p8 i c1.2.1 hi2).2.2.1; show 0 ≤ m 40 0 (12 + 116 * t + (44 + 4 * i + 2)) ∧ m 40 0 (12 + 116 * t + (44 + 4 * i + 2)) ≤ 24; omega)
                      rw [hfb]
                      unfold fpV hq
                      rw [show (12 * t + i) / 12 = t by omega, show (12 * t + i) % 12 = i by omega]
                    simp (disch := first | omega | assumption) only [↓if_pos, ↓if_neg, Option.bind_some, ob_wr_id, eR, ef, sg_X7_pinValue_117]
                    exact wp_ret ⟨rfl, sm_r⟩
        · rw [sg_X7_pin_61]
          exact wp_ret hv
      · show wp (ob_E (207, 0, [(11, 0), (1, t), (1, i), (1, w)], [], (m1, none))) _
        have e2 : m1 40 0 2 = m 40 0 2 := by rw [e40]
        have eP : m1 40 0 (12 + 116 * t + 39) = 1 := by rw [e40]; exact hc
        have eN : m1 40 0 (12 + 116 * t + 43) = m 40 0 (12 + 116 * t + 43) := by rw [e40]
        simp (disch := first | omega | assumption) only [↓if_pos, ↓if_neg, Option.bind_some, ob_wr_id, sg_X8_pin_0, md_isTune, sg_X8_pin_5, md_in, sg_X8_pin_21, md_isPinned, sg_X8_pin_36, md_of, sg_X8_pin_47]
        unfold piV
        by_cases w4 : w < 4
        · have eQ : m1 40 0 (12 + 116 * t + (44 + 4 * i + w)) = m 40 0 (12 + 116 * t + (44 + 4 * i + w)) := by rw [e40]
          simp (disch := first | omega | assumption) only [↓if_pos, ↓if_neg, Option.bind_some, ob_wr_id, md_pinOf, sg_X8_pin_69]
          rw [eQ]
          exact wp_ret ⟨rfl, fq_r⟩
        · simp (disch := first | omega | assumption) only [↓if_pos, ↓if_neg, Option.bind_some, ob_wr_id]
          refine wp_b (md_laysBridges m1 (by rw [e40]; exact hV)) (fun _ m2 h2 => ?_)
          obtain ⟨r1, r2, r3⟩ := h2
          have hs := fs_row r3
          rw [e40] at r1 r2 hs
          obtain ⟨o1, o2, o3, -⟩ := cp_o hV ht ⟨c1.2.1, c2⟩
          have hN : Nn (m 40 0) ≤ 36 := by
            obtain ⟨d0, d1, d2, -⟩ := cns hV
            unfold Nn
            omega
          have hu := b2 _ hp
          have e49 := r2.2.2 (offs (m 40 0) t + i) (by omega) o3 (by rw [o1]; exact hu.1)
          rw [o1] at e49
          rw [sg_X8_pin_74, md_indexOf hV r1 ht ⟨c1.2.1, c2⟩]
          by_cases w5 : w = 4
          · simp (disch := first | omega | assumption) only [↓if_pos, ↓if_neg, Option.bind_some, ob_wr_id, sg_X8_pin_89, sg_X8_pin_103]
            exact wp_ret ⟨e49, fs_fq r3⟩
          · have ef := md_freeNow (p := offs (m 40 0) t + i) hs hV r1 ⟨by omega, o3⟩
            rw [o1] at ef
            simp (disch := first | omega | assumption) only [↓if_pos, ↓if_neg, Option.bind_some, ob_wr_id, sg_X8_pin_100, ef, sg_X8_pin_103]
            exact wp_ret ⟨rfl, fs_fq r3⟩
    · refine J_badA (v := -3) (w := -3) h (by omega) ?_ (fun m1 e er => ?_)
      · show ob_E (97, 0, [(10, 0), (1, t), (1, i), (1, w)], [], (m, none)) = _
        simp (disch := first | omega | assumption) only [↓if_pos, ↓if_neg, Option.bind_some, ob_wr_id, sg_X7_pin_0, cl_hasTune, sg_X7_pin_8, cl_within, sg_X7_pin_21, cl_howMany hV hR ht, sg_X7_pin_44, cl_refused, sg_X7_pin_53]
      · show ob_E (207, 0, [(11, 0), (1, t), (1, i), (1, w)], [], (m1, none)) = _
        have e2 : m1 40 0 2 = m 40 0 2 := by rw [er]
        have eP : m1 40 0 (12 + 116 * t + 39) = m 40 0 (12 + 116 * t + 39) := by rw [er]
        have eN : m1 40 0 (12 + 116 * t + 43) = m 40 0 (12 + 116 * t + 43) := by rw [er]
        by_cases hc : m 40 0 (12 + 116 * t + 39) = 1
        · have ec : cn (m 40 0) t = m 40 0 (12 + 116 * t + 43) := if_pos hc
          simp (disch := first | omega | assumption) only [↓if_pos, ↓if_neg, Option.bind_some, ob_wr_id, sg_X8_pin_0, md_isTune, sg_X8_pin_5, md_in, sg_X8_pin_21, md_isPinned, sg_X8_pin_36, md_of, sg_X8_pin_47, sg_X8_pin_50, md_refuses, sg_X8_pin_56]
        · simp (disch := first | omega | assumption) only [↓if_pos, ↓if_neg, Option.bind_some, ob_wr_id, sg_X8_pin_0, md_isTune, sg_X8_pin_5, md_in, sg_X8_pin_21, md_isPinned, sg_X8_pin_36, sg_X8_pin_50, md_refuses, sg_X8_pin_56]
  · refine J_badA (v := -2) (w := -2) h (by omega) ?_ (fun m1 e er => ?_)
    · show ob_E (97, 0, [(10, 0), (1, t), (1, i), (1, w)], [], (m, none)) = _
      by_cases d1 : 0 ≤ t ∧ t < m 40 0 2
      · by_cases d2 : i < 0
        · simp (disch := first | omega | assumption) only [↓if_pos, ↓if_neg, Option.bind_some, ob_wr_id, sg_X7_pin_0, cl_hasTune, sg_X7_pin_8, sg_X7_pin_24, cl_refused, sg_X7_pin_30]
        · simp (disch := first | omega | assumption) only [↓if_pos, ↓if_neg, Option.bind_some, ob_wr_id, sg_X7_pin_0, cl_hasTune, sg_X7_pin_8, cl_within, sg_X7_pin_21, sg_X7_pin_24, cl_refused, sg_X7_pin_30]
      · simp (disch := first | omega | assumption) only [↓if_pos, ↓if_neg, Option.bind_some, ob_wr_id, sg_X7_pin_0, cl_hasTune, sg_X7_pin_8, sg_X7_pin_24, cl_refused, sg_X7_pin_30]
    · show ob_E (207, 0, [(11, 0), (1, t), (1, i), (1, w)], [], (m1, none)) = _
      have e2 : m1 40 0 2 = m 40 0 2 := by rw [er]
      by_cases d1 : 0 ≤ t ∧ t < m 40 0 2
      · by_cases d2 : i < 0
        · simp (disch := first | omega | assumption) only [↓if_pos, ↓if_neg, Option.bind_some, ob_wr_id, sg_X8_pin_0, md_isTune, sg_X8_pin_5, sg_X8_pin_24, md_refuses, sg_X8_pin_30]
        · simp (disch := first | omega | assumption) only [↓if_pos, ↓if_neg, Option.bind_some, ob_wr_id, sg_X8_pin_0, md_isTune, sg_X8_pin_5, md_in, sg_X8_pin_21, sg_X8_pin_24, md_refuses, sg_X8_pin_30]
      · simp (disch := first | omega | assumption) only [↓if_pos, ↓if_neg, Option.bind_some, ob_wr_id, sg_X8_pin_0, md_isTune, sg_X8_pin_5, sg_X8_pin_24, md_refuses, sg_X8_pin_30]
/-- a pin is heard at an angle -/
def hrd (s : Int → Int) (q : BS) (a v : Int) : Prop := dist (s 0) (bq s v) a < ob_wr (hq s v - lst s q (q.2.2.2.2.2.2 v))
noncomputable def khF (s : Int → Int) (q : BS) (t a : Int) (n : Nat) : Int := fo (fun i b => @ite _ (hrd s q a (12 * t + i)) (Classical.propDecidable _) (ob_or b (ob_shl 1 (kq s (12 * t + i)))) b) 0 n
theorem khF_s {s : Int → Int} {q : BS} {t a i : Int} (h : 0 ≤ i) : khF s q t a (i + 1).toNat = @ite _ (hrd s q a (12 * t + i)) (Classical.propDecidable _) (ob_or (khF s q t a i.toNat) (ob_shl 1 (kq s (12 * t + i)))) (khF s q t a i.toNat) := fo_s h
theorem khF_w (s : Int → Int) (q : BS) (t a : Int) (n : Nat) : (Int32.ofInt (khF s q t a n)).toInt = khF s q t a n := fo_inv (fun v => (Int32.ofInt v).toInt = v) rfl n (fun j _ _ x hx => by
  by_cases c : hrd s q a (12 * t + j)
  · simp only [if_pos c]
    exact ob_or_w _ _
  · simp only [if_neg c]
    exact hx)
/-- the keys of a tune's pins heard at an angle -/
noncomputable def khV (s : Int → Int) (t a : Int) : Int := khF s (br s) t a (cn s t).toNat
theorem cl_keysHeard {W : Int} {m : ob_Mem} {s : Int → Int} {t a : Int} (hV : VV W s) (h : Rep m (m 7 0 0) s) (hB : rB m s (br s)) (ht : 0 ≤ t ∧ t < 3) (ha : 0 ≤ a ∧ a < s 0) : ob_E (123, 0, [(10, 0), (1, t), (1, a), (0, 0), (0, 0), (0, 0), (0, 0)], [], (m, none)) = some (khV s t a, (m, none)) := by
  obtain ⟨⟨v1, v2, v3, v4, v5, v6, -⟩, v8⟩ := id hV
  obtain ⟨b1, b2⟩ := SI_br hV
  have cb := cn_b hV ht
  have eR := rpR h
  have eL := rpL h
  unfold khV
  rw [sg_X7_keysHeard_0, if_pos ht]
  refine wp_eq (wp_for (fun i (x : ob_AV) => ob_E (123, 16, [(10, 0), (1, t), (1, a), (8, 3 * m 7 0 0 + t), (1, khF s (br s) t a i.toNat), (1, i), x], [], (m, none))) 0 (cn s t) (fun _ _ => True) ?_ ?_ cb.1 (x := (0, 0)) trivial)
  · intro i x h1 h2 _ hk
    rw [khF_s h1] at hk
    obtain ⟨hp, hc, hi2, ht2⟩ := Pin_c hV ht ⟨h1, h2⟩
    obtain ⟨e1, e2, -, e4, -⟩ := rd_b (s := s) (t := t) (i := i) (by omega)
    have pb := Pin_b hV hp
    have hQ := rpQ h ht hc
    have ek : m 26 (2 * (3 * m 7 0 0 + t) + 1) i = kq s (12 * t + i) := (rqk hQ i h1 hi2).trans e4.symm
    have eb : m 32 (3 * m 7 0 0 + t) i = bq s (12 * t + i) := (rqb hQ i h1 hi2).trans e1.symm
    have eh : m 33 (3 * m 7 0 0 + t) i = hq s (12 * t + i) := (rqh hQ i h1 hi2).trans e2.symm
    have hu := b2 _ hp
    have el := cl_lost hB v6.1 hu b1.2
    have en := cl_numberOf hB ht (by omega) hp hu.1
    generalize khF s (br s) t a i.toNat = b at *
    rw [sg_X7_keysHeard_16, cl_howMany hV h ht]
    simp (disch := first | omega | assumption) only [↓if_pos, ↓if_neg, Option.bind_some, ob_wr_id, sg_X7_keysHeard_22, en, sg_X7_keysHeard_39, eL, el, sg_X7_keysHeard_49, eb, eR, cl_distance]
    rw [sg_X7_keysHeard_69, if_pos (by omega), eh, ek, if_pos (show 0 ≤ i ∧ i < 12 by omega)]
    by_cases c : hrd s (br s) a (12 * t + i)
    · rw [if_pos c] at hk
      unfold hrd at c
      rw [if_pos c, sg_X7_keysHeard_99, ob_wr_id (by omega) (by omega)]
      exact hk _ trivial
    · rw [if_neg c] at hk
      unfold hrd at c
      rw [if_neg c, sg_X7_keysHeard_99, ob_wr_id (by omega) (by omega)]
      exact hk _ trivial
  · intro x _
    rw [sg_X7_keysHeard_16, cl_howMany hV h ht]
    simp (disch := first | omega | assumption) only [↓if_pos, ↓if_neg, Option.bind_some, ob_wr_id, sg_X7_keysHeard_22]
    exact wp_ret ⟨rfl, rfl⟩
theorem cp_t {W : Int} {s : Int → Int} {p t : Int} (hV : VV W s) (hp : 0 ≤ p ∧ p < Nn s) (ht : 0 ≤ t ∧ t < 3) : (cp s p / 12 = t ↔ offs s t ≤ p ∧ p < offs s t + cn s t) ∧ (offs s t ≤ p → p < offs s t + cn s t → cp s p = 12 * t + (p - offs s t)) := by
  have hb := cn_b hV ht
  have k2 : offs s t ≤ p → p < offs s t + cn s t → cp s p = 12 * t + (p - offs s t) := fun a b => by
    have := (cp_o hV ht (i := p - offs s t) (by omega)).1
    rw [show offs s t + (p - offs s t) = p by omega] at this
    exact this
  refine ⟨⟨fun e => ?_, fun ⟨a, b⟩ => ?_⟩, k2⟩
  · have hP := cp_P hV hp
    obtain ⟨z1, z2, z3⟩ := cp_sur hV hP
    have := cp_i hV ⟨z2, z3⟩ hp z1
    have c := c_Pin hP
    rw [e] at this c
    have := hP.1
    omega
  · rw [k2 a b]
    omega
/-- how many of a tune's pins stand below p -/
def clp (s : Int → Int) (t p : Int) : Int := if p < offs s t then 0 else if p < offs s t + cn s t then p - offs s t else cn s t
theorem md_heardNow {W : Int} {m : ob_Mem} {s : Int → Int} {t a : Int} (hs : m 40 0 = s) (hV : VV W s) (h : rP m s (Nn s)) (hM : rM m s (br s)) (ht : 0 ≤ t ∧ t < 3) (ha : 0 ≤ a ∧ a < s 0) : ob_E (219, 0, [(11, 0), (1, t), (1, a), (0, 0), (0, 0), (0, 0)], [], (m, none)) = some (khV s t a, (m, none)) := by
  obtain ⟨⟨v1, v2, v3, v4, v5, v6, -⟩, v8⟩ := id hV
  obtain ⟨b1, b2⟩ := SI_br hV
  obtain ⟨c0, c1, c2, -⟩ := cns hV
  have hN : 0 ≤ Nn s ∧ Nn s ≤ 36 := by
    unfold Nn
    omega
  obtain ⟨o1, o2, o3, o4⟩ := offs_s hV ht
  have cb := cn_b hV ht
  have h14 := h.1
  have er0 : m 40 0 0 = s 0 := by rw [hs]
  have k0 : clp s t 0 = 0 := by
    unfold clp
    split
    · rfl
    · split <;> omega
  have kN : clp s t (Nn s) = cn s t := by
    unfold clp
    rw [if_neg (by omega)]
    split <;> omega
  unfold khV
  rw [sg_X8_heardNow_0]
  have st : ob_E (219, 5, [(11, 0), (1, t), (1, a), (1, 0), (1, 0), (0, 0)], [], (m, none)) = ob_E (219, 5, [(11, 0), (1, t), (1, a), (1, khF s (br s) t a (clp s t 0).toNat), (1, 0), (0, 0)], [], (m, none)) := by
    rw [k0]
    rfl
  rw [st]
  refine wp_eq (wp_for (fun p (x : ob_AV) => ob_E (219, 5, [(11, 0), (1, t), (1, a), (1, khF s (br s) t a (clp s t p).toNat), (1, p), x], [], (m, none))) 0 (Nn s) (fun _ _ => True) ?_ ?_ hN.1 (x := (0, 0)) trivial)
  · intro p x h1 h2 _ hk
    have hP := cp_P hV ⟨h1, h2⟩
    have pb := Pin_b hV hP
    obtain ⟨q1, q2, q3⟩ := h.2 p h1 h2
    obtain ⟨t1, t2⟩ := cp_t hV ⟨h1, h2⟩ ht
    rw [sg_X8_heardNow_5, h14, if_pos h2, if_pos (by omega), q1]
    by_cases c : cp s p / 12 = t
    · obtain ⟨d1, d2⟩ := t1.mp c
      have ec := t2 d1 d2
      have k1 : clp s t p = p - offs s t := by
        unfold clp
        rw [if_neg (by omega), if_pos d2]
      have k2 : clp s t (p + 1) = p - offs s t + 1 := by
        unfold clp
        rw [if_neg (by omega)]
        split <;> omega
      rw [k2, khF_s (by omega), ← ec] at hk
      rw [k1]
      have eb : ob_E (198, 0, [(11, 0), (1, p), (1, 1)], [], (m, none)) = some (bq s (cp s p), (m, none)) := md_pinAt hs hV h ⟨h1, h2⟩ (by omega)
      have eh : ob_E (198, 0, [(11, 0), (1, p), (1, 2)], [], (m, none)) = some (hq s (cp s p), (m, none)) := md_pinAt hs hV h ⟨h1, h2⟩ (by omega)
      have ek : ob_E (198, 0, [(11, 0), (1, p), (1, 0)], [], (m, none)) = some (kq s (cp s p), (m, none)) := md_pinAt hs hV h ⟨h1, h2⟩ (by omega)
      have fr := md_from m (a := bq s (cp s p)) (b := a) (by omega) (by omega) (by omega) (by omega) (by omega) (by omega)
      rw [er0] at fr
      have hu := b2 _ hP
      have e49 := hM.2.2 p h1 h2 hu.1
      have ed := md_dumb hs hM v6.1 hu b1.2
      have hw := khF_w s (br s) t a (p - offs s t).toNat
      generalize khF s (br s) t a (p - offs s t).toNat = b at *
      rw [if_pos c, eb]
      simp (disch := first | omega | assumption) only [↓if_pos, ↓if_neg, Option.bind_some, ob_wr_id, sg_X8_heardNow_33, fr, sg_X8_heardNow_37, eh, sg_X8_heardNow_44, e49, ed]
      rw [sg_X8_heardNow_55]
      by_cases cc : hrd s (br s) a (cp s p)
      · rw [if_pos cc] at hk
        unfold hrd at cc
        rw [if_pos cc]
        simp (disch := first | omega | assumption) only [↓if_pos, ↓if_neg, Option.bind_some, ob_wr_id, sg_X8_heardNow_64, ek, sg_X8_heardNow_80, sg_X8_heardNow_85]
        exact hk _ trivial
      · rw [if_neg cc] at hk
        unfold hrd at cc
        rw [if_neg cc]
        simp (disch := first | omega | assumption) only [↓if_pos, ↓if_neg, Option.bind_some, ob_wr_id, sg_X8_heardNow_63, sg_X8_heardNow_64, sg_X8_heardNow_85]
        rw [ob_or_0 hw]
        exact hk _ trivial
    · have hn : ¬ (offs s t ≤ p ∧ p < offs s t + cn s t) := fun z => c (t1.mpr z)
      have k2 : clp s t (p + 1) = clp s t p := by
        unfold clp
        by_cases z : p < offs s t
        · rw [if_pos z]
          split
          · rfl
          · split <;> omega
        · rw [if_neg z, if_neg (by omega), if_neg (by omega), if_neg (by omega)]
      rw [k2] at hk
      have hw := khF_w s (br s) t a (clp s t p).toNat
      generalize khF s (br s) t a (clp s t p).toNat = b at *
      rw [if_neg c]
      simp (disch := first | omega | assumption) only [↓if_pos, ↓if_neg, Option.bind_some, ob_wr_id, sg_X8_heardNow_63, sg_X8_heardNow_64, sg_X8_heardNow_85]
      rw [ob_or_0 hw]
      exact hk _ trivial
  · intro x _
    rw [sg_X8_heardNow_5, h14, if_neg (by omega), kN]
    exact wp_ret ⟨rfl, rfl⟩
