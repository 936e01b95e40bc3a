-- JOINS: heard, tells, wrong
theorem ag_heard {W : Int} {m : ob_Mem} {t a : Int} (h : Inv W m) : Agr W W m (fun m => ob_E (104, 0, [(10, 0), (1, t), (1, a)], [], (m, none))) (fun m => ob_E (220, 0, [(11, 0), (1, t), (1, a)], [], (m, none))) := by
  obtain ⟨hV, hn⟩ := Inv_V h
  have hR := h.1.2.2.1.2
  obtain ⟨⟨v1, v2, v3, -⟩, v8⟩ := id hV
  have eT := rpT hR
  have eR := rpR hR
  by_cases c1 : (0 ≤ t ∧ t < m 40 0 2) ∧ 0 ≤ a ∧ a < m 40 0 0
  · have ht : 0 ≤ t ∧ t < 3 := by omega
    have eP := rpP hR ht
    obtain ⟨-, pp1, pp2, pp3⟩ := v8 t ht.1 ht.2
    by_cases c2 : m 40 0 (12 + 116 * t + 39) = 1
    · refine J_br (V := khV (m 40 0) t a) h ?_ (fun m1 e40 e1 => ?_)
      · show wp (ob_E (104, 0, [(10, 0), (1, t), (1, a)], [], (m, none))) _
        simp (disch := first | omega | assumption) only [↓if_pos, ↓if_neg, Option.bind_some, ob_wr_id, sg_X7_heard_0, cl_hasTune, sg_X7_heard_8, eR, cl_within, sg_X7_heard_25]
        refine wp_b (cl_find hV hR) (fun _ m1 h1 => ?_)
        obtain ⟨r1, r2⟩ := h1
        have e7 : m1 7 0 0 = m 7 0 0 := sb7 r2 (by omega)
        have R1 := Rep_br hV hR r2
        rw [← e7] at R1
        rw [sg_X7_heard_68, cl_keysHeard hV R1 r1 ht c1.2]
        simp (disch := first | omega | assumption) only [↓if_pos, ↓if_neg, Option.bind_some, ob_wr_id, sg_X7_heard_74]
        exact wp_ret ⟨rfl, r2⟩
      · show wp (ob_E (220, 0, [(11, 0), (1, t), (1, a)], [], (m1, none))) _
        have e2 : m1 40 0 2 = m 40 0 2 := by rw [e40]
        have e0 : m1 40 0 0 = m 40 0 0 := by rw [e40]
        have eP1 : m1 40 0 (12 + 116 * t + 39) = 1 := by rw [e40]; exact c2
        simp (disch := first | omega | assumption) only [↓if_pos, ↓if_neg, Option.bind_some, ob_wr_id, sg_X8_heard_0, md_isTune, sg_X8_heard_5, md_round, sg_X8_heard_15, md_in, sg_X8_heard_21, md_isPinned, sg_X8_heard_36]
        refine wp_b (md_laysBridges m1 (by rw [e40]; exact hV)) (fun _ m2 h2 => ?_)
        obtain ⟨r1, r2, r3⟩ := h2
        have hs := fs_row r3
        rw [e40] at r1 r2 hs
        rw [sg_X8_heard_50, md_heardNow hs hV r1 r2 ht c1.2]
        simp (disch := first | omega | assumption) only [↓if_pos, ↓if_neg, Option.bind_some, ob_wr_id, sg_X8_heard_56]
        exact wp_ret ⟨rfl, fs_fq r3⟩
    · refine J_badA (v := -3) (w := -3) h (by omega) ?_ (fun m1 e er => ?_)
      · show ob_E (104, 0, [(10, 0), (1, t), (1, a)], [], (m, none)) = _
        simp (disch := first | omega | assumption) only [↓if_pos, ↓if_neg, Option.bind_some, ob_wr_id, sg_X7_heard_0, cl_hasTune, sg_X7_heard_8, eR, cl_within, sg_X7_heard_25, cl_refused, sg_X7_heard_56]
      · show ob_E (220, 0, [(11, 0), (1, t), (1, a)], [], (m1, none)) = _
        have e2 : m1 40 0 2 = m 40 0 2 := by rw [er]
        have e0 : m1 40 0 0 = m 40 0 0 := by rw [er]
        have eP1 : m1 40 0 (12 + 116 * t + 39) = m 40 0 (12 + 116 * t + 39) := by rw [er]
        simp (disch := first | omega | assumption) only [↓if_pos, ↓if_neg, Option.bind_some, ob_wr_id, sg_X8_heard_0, md_isTune, sg_X8_heard_5, md_round, sg_X8_heard_15, md_in, sg_X8_heard_21, md_isPinned, sg_X8_heard_36, md_refuses, sg_X8_heard_45]
  · refine J_badA (v := -2) (w := -2) h (by omega) ?_ (fun m1 e er => ?_)
    · show ob_E (104, 0, [(10, 0), (1, t), (1, a)], [], (m, none)) = _
      by_cases d1 : 0 ≤ t ∧ t < m 40 0 2
      · simp (disch := first | omega | assumption) only [↓if_pos, ↓if_neg, Option.bind_some, ob_wr_id, sg_X7_heard_0, cl_hasTune, sg_X7_heard_8, eR, cl_within, sg_X7_heard_25, sg_X7_heard_28, cl_refused, sg_X7_heard_34]
      · simp (disch := first | omega | assumption) only [↓if_pos, ↓if_neg, Option.bind_some, ob_wr_id, sg_X7_heard_0, cl_hasTune, sg_X7_heard_8, sg_X7_heard_28, cl_refused, sg_X7_heard_34]
    · show ob_E (220, 0, [(11, 0), (1, t), (1, a)], [], (m1, none)) = _
      have e2 : m1 40 0 2 = m 40 0 2 := by rw [er]
      have e0 : m1 40 0 0 = m 40 0 0 := by rw [er]
      by_cases d1 : 0 ≤ t ∧ t < m 40 0 2
      · simp (disch := first | omega | assumption) only [↓if_pos, ↓if_neg, Option.bind_some, ob_wr_id, sg_X8_heard_0, md_isTune, sg_X8_heard_5, md_round, sg_X8_heard_15, md_in, sg_X8_heard_21, sg_X8_heard_24, md_refuses, sg_X8_heard_30]
      · simp (disch := first | omega | assumption) only [↓if_pos, ↓if_neg, Option.bind_some, ob_wr_id, sg_X8_heard_0, md_isTune, sg_X8_heard_5, sg_X8_heard_24, md_refuses, sg_X8_heard_30]
/-- the angle of a tick of a pinned tune -/
def agT (s : Int → Int) (t x : Int) : Int := rnd (s 0) (ang (s 0) x (s (12 + 116 * t + 40)) (s (12 + 116 * t + 42)) + s (12 + 116 * t + 41))
theorem agT_b {W : Int} {s : Int → Int} {t x : Int} (hV : VV W s) (ht : 0 ≤ t ∧ t < 3) (hc : s (12 + 116 * t + 39) = 1) (hx : 0 ≤ x ∧ x < s (12 + 116 * t + 40)) : (0 ≤ agT s t x ∧ agT s t x < s 0) ∧ 0 ≤ ang (s 0) x (s (12 + 116 * t + 40)) (s (12 + 116 * t + 42)) ∧ ang (s 0) x (s (12 + 116 * t + 40)) (s (12 + 116 * t + 42)) < s 0 := by
  obtain ⟨-, pp1, pp2, pp3⟩ := hV.2 t ht.1 ht.2
  obtain ⟨p4, p5, p6, p7, p8, p9⟩ := pp3 hc
  have hR := hV.1.1
  have e1 := ang_nn (R := s 0) (s := x) (L := s (12 + 116 * t + 40)) (w := s (12 + 116 * t + 42)) (by omega) (by omega) (by omega)
  have e2 := ang_lt (R := s 0) (s := x) (L := s (12 + 116 * t + 40)) (w := s (12 + 116 * t + 42)) (by omega) (by omega) (by omega)
  exact ⟨rnd_b (by omega) (by omega), e1, e2⟩
theorem cl_angleOfTick {W : Int} {m : ob_Mem} {j t x : Int} {s : Int → Int} (hV : VV W s) (h : Rep m j s) (ht : 0 ≤ t ∧ t < 3) (hc : s (12 + 116 * t + 39) = 1) (hx : 0 ≤ x ∧ x < s (12 + 116 * t + 40)) : ob_E (66, 0, [(8, 3 * j + t), (1, x), (1, s 0)], [], (m, none)) = some (agT s t x, (m, none)) := by
  obtain ⟨-, pp1, pp2, pp3⟩ := hV.2 t ht.1 ht.2
  obtain ⟨p4, p5, p6, p7, p8, p9⟩ := pp3 hc
  have hR := hV.1.1
  obtain ⟨-, a1, a2⟩ := agT_b hV ht hc hx
  have hQ := rpQ h ht hc
  have q1 : m 5 (3 * j + t) 1 = s (12 + 116 * t + 42) := rqW hQ
  have q2 : m 3 (2 * (3 * j + t) + 1) 0 = s (12 + 116 * t + 40) := rqT hQ
  have q3 : m 3 (2 * (3 * j + t) + 1) 1 = s (12 + 116 * t + 41) := rqS hQ
  simp (disch := first | omega | assumption) only [↓if_pos, ↓if_neg, Option.bind_some, ob_wr_id, sg_X5_angleOfTick_0, sg_X5_angleOfTick_16, sg_X5_angleOfTick_28, q1, q2, q3, cl_angle, cl_round]
  rfl
theorem md_toldAt {W : Int} {m : ob_Mem} {s : Int → Int} {t x : Int} (hs : m 40 0 = s) (hV : VV W s) (h : rP m s (Nn s)) (hM : rM m s (br s)) (ht : 0 ≤ t ∧ t < 3) (hc : s (12 + 116 * t + 39) = 1) (hx : 0 ≤ x ∧ x < s (12 + 116 * t + 40)) : ob_E (221, 0, [(11, 0), (1, t), (1, x)], [], (m, none)) = some (khV s t (agT s t x), (m, none)) := by
  obtain ⟨-, pp1, pp2, pp3⟩ := hV.2 t ht.1 ht.2
  obtain ⟨p4, p5, p6, p7, p8, p9⟩ := pp3 hc
  have hR := hV.1.1
  obtain ⟨a0, a1, a2⟩ := agT_b hV ht hc hx
  have e0 : m 40 0 0 = s 0 := by rw [hs]
  have e40 : m 40 0 (12 + 116 * t + 40) = s (12 + 116 * t + 40) := by rw [hs]
  have e41 : m 40 0 (12 + 116 * t + 41) = s (12 + 116 * t + 41) := by rw [hs]
  have e42 : m 40 0 (12 + 116 * t + 42) = s (12 + 116 * t + 42) := by rw [hs]
  have ea := md_angle m (s := x) (L := s (12 + 116 * t + 40)) (w := s (12 + 116 * t + 42)) (by omega) (by omega) (by omega) (by omega) (by omega) (by omega)
  rw [e0] at ea
  have rm := rnd_mod (R := s 0) (a := ang (s 0) x (s (12 + 116 * t + 40)) (s (12 + 116 * t + 42)) + s (12 + 116 * t + 41)) (by omega) (by omega) (by omega)
  have eh := md_heardNow hs hV h hM ht a0
  unfold agT at eh ⊢
  simp (disch := first | omega | assumption) only [↓if_pos, ↓if_neg, Option.bind_some, ob_wr_id, sg_X8_toldAt_0, sg_X8_toldAt_11, sg_X8_toldAt_18, sg_X8_toldAt_21, sg_X8_toldAt_28, sg_X8_toldAt_33, sg_X8_toldAt_37, md_of, e40, e41, e42, ea, md_round, e0, rm, eh]
theorem ag_tells {W : Int} {m : ob_Mem} {t x : Int} (h : Inv W m) : Agr W W m (fun m => ob_E (105, 0, [(10, 0), (1, t), (1, x), (0, 0)], [], (m, none))) (fun m => ob_E (222, 0, [(11, 0), (1, t), (1, x)], [], (m, none))) := by
  obtain ⟨hV, hn⟩ := Inv_V h
  have hR := h.1.2.2.1.2
  obtain ⟨⟨v1, v2, v3, -⟩, v8⟩ := id hV
  have eT := rpT hR
  have eR := rpR hR
  by_cases c1 : (0 ≤ t ∧ t < m 40 0 2) ∧ 0 ≤ x
  · have ht : 0 ≤ t ∧ t < 3 := by omega
    have eP := rpP hR ht
    obtain ⟨-, pp1, pp2, pp3⟩ := v8 t ht.1 ht.2
    have no : ¬ (m 40 0 (12 + 116 * t + 39) = 1 ∧ x < m 40 0 (12 + 116 * t + 40)) → Agr W W m (fun m => ob_E (105, 0, [(10, 0), (1, t), (1, x), (0, 0)], [], (m, none))) (fun m => ob_E (222, 0, [(11, 0), (1, t), (1, x)], [], (m, none))) := fun z => by
      refine J_badA (v := -3) (w := -3) h (by omega) ?_ (fun m1 e er => ?_)
      · show ob_E (105, 0, [(10, 0), (1, t), (1, x), (0, 0)], [], (m, none)) = _
        by_cases c2 : m 40 0 (12 + 116 * t + 39) = 1
        · have q2 : m 3 (2 * (3 * m 7 0 0 + t) + 1) 0 = m 40 0 (12 + 116 * t + 40) := rqT (rpQ hR ht c2)
          simp (disch := first | omega | assumption) only [↓if_pos, ↓if_neg, Option.bind_some, ob_wr_id, sg_X7_tells_0, cl_hasTune, sg_X7_tells_8, sg_X7_tells_50, cl_refused, sg_X7_tells_56]
        · simp (disch := first | omega | assumption) only [↓if_pos, ↓if_neg, Option.bind_some, ob_wr_id, sg_X7_tells_0, cl_hasTune, sg_X7_tells_8, sg_X7_tells_50, cl_refused, sg_X7_tells_56]
      · show ob_E (222, 0, [(11, 0), (1, t), (1, x)], [], (m1, none)) = _
        have e2 : m1 40 0 2 = m 40 0 2 := by rw [er]
        have eP1 : m1 40 0 (12 + 116 * t + 39) = m 40 0 (12 + 116 * t + 39) := by rw [er]
        have eT1 : m1 40 0 (12 + 116 * t + 40) = m 40 0 (12 + 116 * t + 40) := by rw [er]
        by_cases c2 : m 40 0 (12 + 116 * t + 39) = 1
        · simp (disch := first | omega | assumption) only [↓if_pos, ↓if_neg, Option.bind_some, ob_wr_id, sg_X8_tells_0, md_isTune, sg_X8_tells_5, md_isPinned, sg_X8_tells_24, md_of, sg_X8_tells_35, sg_X8_tells_38, md_refuses, sg_X8_tells_44]
        · simp (disch := first | omega | assumption) only [↓if_pos, ↓if_neg, Option.bind_some, ob_wr_id, sg_X8_tells_0, md_isTune, sg_X8_tells_5, md_isPinned, sg_X8_tells_24, sg_X8_tells_38, md_refuses, sg_X8_tells_44]
    by_cases c2 : m 40 0 (12 + 116 * t + 39) = 1
    · by_cases c3 : x < m 40 0 (12 + 116 * t + 40)
      · have q2 : m 3 (2 * (3 * m 7 0 0 + t) + 1) 0 = m 40 0 (12 + 116 * t + 40) := rqT (rpQ hR ht c2)
        obtain ⟨a0, -⟩ := agT_b hV ht c2 ⟨c1.2, c3⟩
        refine J_br (V := khV (m 40 0) t (agT (m 40 0) t x)) h ?_ (fun m1 e40 e1 => ?_)
        · show wp (ob_E (105, 0, [(10, 0), (1, t), (1, x), (0, 0)], [], (m, none))) _
          simp (disch := first | omega | assumption) only [↓if_pos, ↓if_neg, Option.bind_some, ob_wr_id, sg_X7_tells_0, cl_hasTune, sg_X7_tells_8]
          refine wp_b (cl_find hV hR) (fun _ m1 h1 => ?_)
          obtain ⟨r1, r2⟩ := h1
          have e7 : m1 7 0 0 = m 7 0 0 := sb7 r2 (by omega)
          have R1 := Rep_br hV hR r2
          have eR1 := rpR R1
          have ea := cl_angleOfTick hV R1 ht c2 ⟨c1.2, c3⟩
          rw [← e7] at R1
          rw [sg_X7_tells_68, e7, eR1, ea]
          simp (disch := first | omega | assumption) only [↓if_pos, ↓if_neg, Option.bind_some, ob_wr_id, sg_X7_tells_82, cl_keysHeard hV R1 r1 ht a0, sg_X7_tells_85]
          exact wp_ret ⟨rfl, r2⟩
        · show wp (ob_E (222, 0, [(11, 0), (1, t), (1, x)], [], (m1, none))) _
          have e2 : m1 40 0 2 = m 40 0 2 := by rw [e40]
          have eP1 : m1 40 0 (12 + 116 * t + 39) = m 40 0 (12 + 116 * t + 39) := by rw [e40]
          have eT1 : m1 40 0 (12 + 116 * t + 40) = m 40 0 (12 + 116 * t + 40) := by rw [e40]
          simp (disch := first | omega | assumption) only [↓if_pos, ↓if_neg, Option.bind_some, ob_wr_id, sg_X8_tells_0, md_isTune, sg_X8_tells_5, md_isPinned, sg_X8_tells_24, md_of, sg_X8_tells_35]
          refine wp_b (md_laysBridges m1 (by rw [e40]; exact hV)) (fun _ m2 h2 => ?_)
          obtain ⟨r1, r2, r3⟩ := h2
          have hs := fs_row r3
          rw [e40] at r1 r2 hs
          rw [sg_X8_tells_49, md_toldAt hs hV r1 r2 ht c2 ⟨c1.2, c3⟩]
          simp (disch := first | omega | assumption) only [↓if_pos, ↓if_neg, Option.bind_some, ob_wr_id, sg_X8_tells_55]
          exact wp_ret ⟨rfl, fs_fq r3⟩
      · exact no (fun z => c3 z.2)
    · exact no (fun z => c2 z.1)
  · refine J_badA (v := -2) (w := -2) h (by omega) ?_ (fun m1 e er => ?_)
    · show ob_E (105, 0, [(10, 0), (1, t), (1, x), (0, 0)], [], (m, none)) = _
      by_cases d1 : 0 ≤ t ∧ t < m 40 0 2
      · simp (disch := first | omega | assumption) only [↓if_pos, ↓if_neg, Option.bind_some, ob_wr_id, sg_X7_tells_0, cl_hasTune, sg_X7_tells_8, sg_X7_tells_15, cl_refused, sg_X7_tells_21]
      · simp (disch := first | omega | assumption) only [↓if_pos, ↓if_neg, Option.bind_some, ob_wr_id, sg_X7_tells_0, cl_hasTune, sg_X7_tells_8, sg_X7_tells_15, cl_refused, sg_X7_tells_21]
    · show ob_E (222, 0, [(11, 0), (1, t), (1, x)], [], (m1, none)) = _
      have e2 : m1 40 0 2 = m 40 0 2 := by rw [er]
      by_cases d1 : 0 ≤ t ∧ t < m 40 0 2
      · simp (disch := first | omega | assumption) only [↓if_pos, ↓if_neg, Option.bind_some, ob_wr_id, sg_X8_tells_0, md_isTune, sg_X8_tells_5, sg_X8_tells_12, md_refuses, sg_X8_tells_18]
      · simp (disch := first | omega | assumption) only [↓if_pos, ↓if_neg, Option.bind_some, ob_wr_id, sg_X8_tells_0, md_isTune, sg_X8_tells_5, sg_X8_tells_12, md_refuses, sg_X8_tells_18]
/-- the keys of the notes that sound at a tick -/
def kaF (s : Int → Int) (t x : Int) (n : Nat) : Int := fo (fun i b => if s (12 + 116 * t + (92 + 2 * i)) ≤ x ∧ x < ob_wr (s (12 + 116 * t + (92 + 2 * i)) + s (12 + 116 * t + (92 + 2 * i + 1))) then ob_or b (ob_shl 1 (s (12 + 116 * t + (44 + 4 * i + 0)))) else b) 0 n
theorem kaF_s {s : Int → Int} {t x i : Int} (h : 0 ≤ i) : kaF s t x (i + 1).toNat = if s (12 + 116 * t + (92 + 2 * i)) ≤ x ∧ x < ob_wr (s (12 + 116 * t + (92 + 2 * i)) + s (12 + 116 * t + (92 + 2 * i + 1))) then ob_or (kaF s t x i.toNat) (ob_shl 1 (s (12 + 116 * t + (44 + 4 * i + 0)))) else kaF s t x i.toNat := fo_s h
theorem kaF_w (s : Int → Int) (t x : Int) (n : Nat) : (Int32.ofInt (kaF s t x n)).toInt = kaF s t x n := fo_inv (fun v => (Int32.ofInt v).toInt = v) rfl n (fun j _ _ y hy => by
  by_cases c : s (12 + 116 * t + (92 + 2 * j)) ≤ x ∧ x < ob_wr (s (12 + 116 * t + (92 + 2 * j)) + s (12 + 116 * t + (92 + 2 * j + 1)))
  · simp only [if_pos c]
    exact ob_or_w _ _
  · simp only [if_neg c]
    exact hy)
theorem cl_keysAt {m : ob_Mem} {p t x : Int} {s : Int → Int} (hQ : rQ m p (fun w => s (12 + 116 * t + w))) (hn : 0 ≤ s (12 + 116 * t + 43) ∧ s (12 + 116 * t + 43) ≤ 12) : ob_E (42, 0, [(6, 2 * p + 1), (1, x), (0, 0), (0, 0)], [], (m, none)) = some (kaF s t x (s (12 + 116 * t + 43)).toNat, (m, none)) := by
  have eN : m 3 (2 * p + 1) 2 = s (12 + 116 * t + 43) := rqN hQ
  rw [sg_X3_keysAt_0]
  refine wp_eq (wp_for (α := Unit) (fun i _ => ob_E (42, 4, [(6, 2 * p + 1), (1, x), (1, kaF s t x i.toNat), (1, i)], [], (m, none))) 0 (s (12 + 116 * t + 43)) (fun _ _ => True) ?_ ?_ hn.1 (x := ()) trivial)
  · intro i _ h1 h2 _ hk
    have hk := hk () trivial
    rw [kaF_s h1] at hk
    have ek : m 26 (2 * p + 1) i = s (12 + 116 * t + (44 + 4 * i + 0)) := rqk hQ i h1 h2
    have ea : m 27 (2 * p + 1) i = s (12 + 116 * t + (92 + 2 * i)) := rqa hQ i h1 h2
    have el : m 28 (2 * p + 1) i = s (12 + 116 * t + (92 + 2 * i + 1)) := rql hQ i h1 h2
    generalize kaF s t x i.toNat = b at *
    rw [sg_X3_keysAt_4, eN, if_pos h2, if_pos (by omega), ek, ea, el, if_pos (show 0 ≤ i ∧ i < 12 by omega), if_pos (show 0 ≤ i ∧ i < 12 by omega), if_pos (show 0 ≤ i ∧ i < 12 by omega)]
    by_cases c : s (12 + 116 * t + (92 + 2 * i)) ≤ x ∧ x < ob_wr (s (12 + 116 * t + (92 + 2 * i)) + s (12 + 116 * t + (92 + 2 * i + 1)))
    · rw [if_pos c] at hk
      rw [if_neg (by omega), if_pos c.2, sg_X3_keysAt_50, ob_wr_id (by omega) (by omega)]
      exact hk
    · rw [if_neg c] at hk
      by_cases d : x < s (12 + 116 * t + (92 + 2 * i))
      · rw [if_pos d, sg_X3_keysAt_50, ob_wr_id (by omega) (by omega)]
        exact hk
      · rw [if_neg d, if_neg (fun z => c ⟨by omega, z⟩), sg_X3_keysAt_50, ob_wr_id (by omega) (by omega)]
        exact hk
  · intro _ _
    rw [sg_X3_keysAt_4, eN, if_neg (by omega)]
    exact wp_ret ⟨rfl, rfl⟩
noncomputable def wrF (s : Int → Int) (t : Int) (n : Nat) : Int := cnt (fun x => khV s t (agT s t x) ≠ kaF s t x (s (12 + 116 * t + 43)).toNat) n
theorem ag_wrong {W : Int} {m : ob_Mem} {t : Int} (h : Inv W m) : Agr W W m (fun m => ob_E (106, 0, [(10, 0), (1, t)], [], (m, none))) (fun m => ob_E (223, 0, [(11, 0), (1, t), (0, 0), (0, 0), (0, 0), (0, 0), (0, 0)], [], (m, none))) := by
  obtain ⟨hV, hn⟩ := Inv_V h
  have hR := h.1.2.2.1.2
  obtain ⟨⟨v1, v2, v3, -⟩, v8⟩ := id hV
  have eT := rpT hR
  have eR := rpR hR
  by_cases c1 : 0 ≤ t ∧ t < m 40 0 2
  · have ht : 0 ≤ t ∧ t < 3 := by omega
    have eP := rpP hR ht
    obtain ⟨-, pp1, pp2, pp3⟩ := v8 t ht.1 ht.2
    by_cases c2 : m 40 0 (12 + 116 * t + 39) = 1
    · obtain ⟨p4, p5, p6, p7, p8, p9⟩ := pp3 c2
      refine J_br (V := wrF (m 40 0) t (m 40 0 (12 + 116 * t + 40)).toNat) h ?_ (fun m1 e40 e1 => ?_)
      · show wp (ob_E (106, 0, [(10, 0), (1, t)], [], (m, none))) _
        simp (disch := first | omega | assumption) only [↓if_pos, ↓if_neg, Option.bind_some, ob_wr_id, sg_X7_wrong_0, cl_hasTune, sg_X7_wrong_8]
        refine wp_b (cl_find hV hR) (fun _ m1 h1 => ?_)
        obtain ⟨r1, r2⟩ := h1
        have e7 : m1 7 0 0 = m 7 0 0 := sb7 r2 (by omega)
        have R1 := Rep_br hV hR r2
        have eR1 := rpR R1
        have hQ := rpQ R1 ht c2
        have q2 : m1 3 (2 * (3 * m 7 0 0 + t) + 1) 0 = m 40 0 (12 + 116 * t + 40) := rqT hQ
        have ea := fun x (hx : 0 ≤ x ∧ x < m 40 0 (12 + 116 * t + 40)) => cl_angleOfTick hV R1 ht c2 hx
        rw [sg_X7_wrong_51, sg_X7_wrongTicks_0, if_pos ht, e7]
        refine wp_b (Q := fun v m' => v = wrF (m 40 0) t (m 40 0 (12 + 116 * t + 40)).toNat ∧ m' = m1) ?_ (fun v m2 hv => ?_)
        · refine wp_for (α := Unit) (fun x _ => ob_E (124, 15, [(10, 0), (1, t), (8, 3 * m 7 0 0 + t), (1, wrF (m 40 0) t x.toNat), (1, x)], [], (m1, none))) 0 (m 40 0 (12 + 116 * t + 40)) (fun _ _ => True) ?_ ?_ (by omega) (x := ()) trivial
          · intro x _ k1 k2 _ hk
            have hk := hk () trivial
            obtain ⟨a0, -⟩ := agT_b hV ht c2 ⟨k1, k2⟩
            unfold wrF at hk ⊢
            rw [cnt_s k1] at hk
            have d1 := cnt_le (P := fun x => khV (m 40 0) t (agT (m 40 0) t x) ≠ kaF (m 40 0) t x (m 40 0 (12 + 116 * t + 43)).toNat) x.toNat
            have d2 := cnt_0 (P := fun x => khV (m 40 0) t (agT (m 40 0) t x) ≠ kaF (m 40 0) t x (m 40 0 (12 + 116 * t + 43)).toNat) x.toNat
            generalize cnt (fun x => khV (m 40 0) t (agT (m 40 0) t x) ≠ kaF (m 40 0) t x (m 40 0 (12 + 116 * t + 43)).toNat) x.toNat = c at *
            have R1' := R1
            rw [← e7] at R1'
            rw [sg_X7_wrongTicks_15, q2, if_pos k2, e7, eR1, ea x ⟨k1, k2⟩]
            simp (disch := first | omega | assumption) only [↓if_pos, ↓if_neg, Option.bind_some, ob_wr_id, sg_X7_wrongTicks_42, cl_keysHeard hV R1' r1 ht a0, sg_X7_wrongTicks_45, cl_keysAt hQ (by omega)]
            rw [sg_X7_wrongTicks_54]
            by_cases z : khV (m 40 0) t (agT (m 40 0) t x) = kaF (m 40 0) t x (m 40 0 (12 + 116 * t + 43)).toNat
            · rw [if_neg (fun y => y z)] at hk
              rw [if_pos z, sg_X7_wrongTicks_60, ob_wr_id (by omega) (by omega)]
              exact hk
            · rw [if_pos z] at hk
              rw [if_neg z, sg_X7_wrongTicks_60, ob_wr_id (by omega) (by omega), ob_wr_id (by omega) (by omega)]
              exact hk
          · intro _ _
            rw [sg_X7_wrongTicks_15, q2, if_neg (by omega)]
            exact wp_ret ⟨rfl, rfl⟩
        · obtain ⟨rfl, rfl⟩ := hv
          rw [sg_X7_wrong_56]
          exact wp_ret ⟨rfl, r2⟩
      · show wp (ob_E (223, 0, [(11, 0), (1, t), (0, 0), (0, 0), (0, 0), (0, 0), (0, 0)], [], (m1, none))) _
        have e2 : m1 40 0 2 = m 40 0 2 := by rw [e40]
        have eP1 : m1 40 0 (12 + 116 * t + 39) = m 40 0 (12 + 116 * t + 39) := by rw [e40]
        simp (disch := first | omega | assumption) only [↓if_pos, ↓if_neg, Option.bind_some, ob_wr_id, sg_X8_wrong_0, md_isTune, sg_X8_wrong_5, md_isPinned, sg_X8_wrong_20]
        refine wp_b (md_laysBridges m1 (by rw [e40]; exact hV)) (fun _ m2 h2 => ?_)
        obtain ⟨r1, r2, r3⟩ := h2
        have hs := fs_row r3
        rw [e40] at r1 r2 hs
        have eT2 : m2 40 0 (12 + 116 * t + 40) = m 40 0 (12 + 116 * t + 40) := by rw [hs]
        have eN2 : m2 40 0 (12 + 116 * t + 43) = m 40 0 (12 + 116 * t + 43) := by rw [hs]
        rw [sg_X8_wrong_36]
        refine wp_for (fun x (y : ob_AV × ob_AV × ob_AV) => ob_E (223, 38, [(11, 0), (1, t), (1, wrF (m 40 0) t x.toNat), (1, x), y.1, y.2.1, y.2.2], [], (m2, none))) 0 (m 40 0 (12 + 116 * t + 40)) (fun _ _ => True) ?_ ?_ (by omega) (x := ((0, 0), (0, 0), (0, 0))) trivial
        · intro x ⟨y1, y2, y3⟩ k1 k2 _ hk
          unfold wrF at hk
          rw [cnt_s k1] at hk
          have d1 := cnt_le (P := fun x => khV (m 40 0) t (agT (m 40 0) t x) ≠ kaF (m 40 0) t x (m 40 0 (12 + 116 * t + 43)).toNat) x.toNat
          have d2 := cnt_0 (P := fun x => khV (m 40 0) t (agT (m 40 0) t x) ≠ kaF (m 40 0) t x (m 40 0 (12 + 116 * t + 43)).toNat) x.toNat
          show wp (ob_E (223, 38, [(11, 0), (1, t), (1, cnt (fun x => khV (m 40 0) t (agT (m 40 0) t x) ≠ kaF (m 40 0) t x (m 40 0 (12 + 116 * t + 43)).toNat) x.toNat), (1, x), y1, y2, y3], [], (m2, none))) _
          generalize cnt (fun x => khV (m 40 0) t (agT (m 40 0) t x) ≠ kaF (m 40 0) t x (m 40 0 (12 + 116 * t + 43)).toNat) x.toNat = c at *
          rw [sg_X8_wrong_38]
          simp (disch := first | omega | assumption) only [↓if_pos, ↓if_neg, Option.bind_some, ob_wr_id, md_of, sg_X8_wrong_46, eT2]
          refine wp_for (fun i (z : ob_AV) => ob_E (223, 55, [(11, 0), (1, t), (1, c), (1, x), (1, kaF (m 40 0) t x i.toNat), (1, i), z], [], (m2, none))) 0 (m 40 0 (12 + 116 * t + 43)) (fun _ _ => True) ?_ ?_ (by omega) (x := y3) trivial
          · intro i z g1 g2 _ hk2
            rw [kaF_s g1] at hk2
            have eS : m2 40 0 (12 + 116 * t + (92 + 2 * i)) = m 40 0 (12 + 116 * t + (92 + 2 * i)) := by rw [hs]
            have eL : m2 40 0 (12 + 116 * t + (92 + 2 * i + 1)) = m 40 0 (12 + 116 * t + (92 + 2 * i + 1)) := by rw [hs]
            have eQ : m2 40 0 (12 + 116 * t + (44 + 4 * i + 0)) = m 40 0 (12 + 116 * t + (44 + 4 * i + 0)) := by rw [hs]
            have kw := kaF_w (m 40 0) t x i.toNat
            generalize kaF (m 40 0) t x i.toNat = b at *
            rw [sg_X8_wrong_55]
            simp (disch := first | omega | assumption) only [↓if_pos, ↓if_neg, Option.bind_some, ob_wr_id, md_of, sg_X8_wrong_64, eN2, eS]
            by_cases cc : m 40 0 (12 + 116 * t + (92 + 2 * i)) ≤ x ∧ x < ob_wr (m 40 0 (12 + 116 * t + (92 + 2 * i)) + m 40 0 (12 + 116 * t + (92 + 2 * i + 1)))
            · rw [if_pos cc] at hk2
              rw [sg_X8_wrong_80, if_neg (by omega)]
              simp (disch := first | omega | assumption) only [↓if_pos, ↓if_neg, Option.bind_some, ob_wr_id, md_of, eS, sg_X8_wrong_96, eL]
              rw [sg_X8_wrong_110, if_pos cc.2]
              simp (disch := first | omega | assumption) only [↓if_pos, ↓if_neg, Option.bind_some, ob_wr_id, sg_X8_wrong_119, md_pinOf, eQ, sg_X8_wrong_137, sg_X8_wrong_142]
              exact hk2 _ trivial
            · rw [if_neg cc] at hk2
              rw [sg_X8_wrong_80]
              by_cases d : x < m 40 0 (12 + 116 * t + (92 + 2 * i))
              · simp (disch := first | omega | assumption) only [↓if_pos, ↓if_neg, Option.bind_some, ob_wr_id, sg_X8_wrong_118, sg_X8_wrong_119, sg_X8_wrong_142]
                rw [ob_or_0 kw]
                exact hk2 _ trivial
              · rw [if_neg d]
                simp (disch := first | omega | assumption) only [↓if_pos, ↓if_neg, Option.bind_some, ob_wr_id, md_of, eS, sg_X8_wrong_96, eL]
                rw [sg_X8_wrong_110, if_neg (fun y => cc ⟨by omega, y⟩)]
                simp (disch := first | omega | assumption) only [↓if_pos, ↓if_neg, Option.bind_some, ob_wr_id, sg_X8_wrong_118, sg_X8_wrong_119, sg_X8_wrong_142]
                rw [ob_or_0 kw]
                exact hk2 _ trivial
          · intro z _
            rw [sg_X8_wrong_55]
            simp (disch := first | omega | assumption) only [↓if_pos, ↓if_neg, Option.bind_some, ob_wr_id, md_of, sg_X8_wrong_64, eN2]
            rw [md_toldAt hs hV r1 r2 ht c2 ⟨k1, k2⟩]
            simp only [Option.bind_some]
            rw [sg_X8_wrong_158]
            by_cases q : khV (m 40 0) t (agT (m 40 0) t x) = kaF (m 40 0) t x (m 40 0 (12 + 116 * t + 43)).toNat
            · rw [if_neg (fun y => y q)] at hk
              rw [if_pos q, sg_X8_wrong_168, Int.add_zero, ob_wr_id (by omega) (by omega), ob_wr_id (by omega) (by omega)]
              exact hk (_, _, _) trivial
            · rw [if_pos q] at hk
              rw [if_neg q, sg_X8_wrong_168, ob_wr_id (by omega) (by omega), ob_wr_id (by omega) (by omega)]
              exact hk (_, _, _) trivial
        · intro ⟨y1, y2, y3⟩ _
          show wp (ob_E (223, 38, [(11, 0), (1, t), (1, wrF (m 40 0) t (m 40 0 (12 + 116 * t + 40)).toNat), (1, m 40 0 (12 + 116 * t + 40)), y1, y2, y3], [], (m2, none))) _
          rw [sg_X8_wrong_38]
          simp (disch := first | omega | assumption) only [↓if_pos, ↓if_neg, Option.bind_some, ob_wr_id, md_of, sg_X8_wrong_46, eT2]
          exact wp_ret ⟨rfl, fs_fq r3⟩
    · refine J_badA (v := -3) (w := -3) h (by omega) ?_ (fun m1 e er => ?_)
      · show ob_E (106, 0, [(10, 0), (1, t)], [], (m, none)) = _
        simp (disch := first | omega | assumption) only [↓if_pos, ↓if_neg, Option.bind_some, ob_wr_id, sg_X7_wrong_0, cl_hasTune, sg_X7_wrong_8, cl_refused, sg_X7_wrong_39]
      · show ob_E (223, 0, [(11, 0), (1, t), (0, 0), (0, 0), (0, 0), (0, 0), (0, 0)], [], (m1, none)) = _
        have e2 : m1 40 0 2 = m 40 0 2 := by rw [er]
        have eP1 : m1 40 0 (12 + 116 * t + 39) = m 40 0 (12 + 116 * t + 39) := by rw [er]
        simp (disch := first | omega | assumption) only [↓if_pos, ↓if_neg, Option.bind_some, ob_wr_id, sg_X8_wrong_0, md_isTune, sg_X8_wrong_5, md_isPinned, sg_X8_wrong_20, md_refuses, sg_X8_wrong_29]
  · refine J_badA (v := -2) (w := -2) h (by omega) ?_ (fun m1 e er => ?_)
    · show ob_E (106, 0, [(10, 0), (1, t)], [], (m, none)) = _
      simp (disch := first | omega | assumption) only [↓if_pos, ↓if_neg, Option.bind_some, ob_wr_id, sg_X7_wrong_0, cl_hasTune, sg_X7_wrong_8, cl_refused, sg_X7_wrong_17]
    · show ob_E (223, 0, [(11, 0), (1, t), (0, 0), (0, 0), (0, 0), (0, 0), (0, 0)], [], (m1, none)) = _
      have e2 : m1 40 0 2 = m 40 0 2 := by rw [er]
      simp (disch := first | omega | assumption) only [↓if_pos, ↓if_neg, Option.bind_some, ob_wr_id, sg_X8_wrong_0, md_isTune, sg_X8_wrong_5, md_refuses, sg_X8_wrong_14]
