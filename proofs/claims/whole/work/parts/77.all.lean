-- ALL: counts; free; pin
theorem cnt_s {P : Int → Prop} {i : Int} (h : 0 ≤ i) : cnt P (i + 1).toNat = @ite _ (P i) (Classical.propDecidable _) (cnt P i.toNat + 1) (cnt P i.toNat) := fo_s h
theorem cnt_0 {P : Int → Prop} : ∀ n : Nat, 0 ≤ cnt P n
  | 0 => Int.le_refl _
  | n + 1 => by
    have := cnt_0 (P := P) n
    show 0 ≤ @ite _ (P n) (Classical.propDecidable _) (cnt P n + 1) (cnt P n)
    split <;> omega
theorem md_longest {W : Int} {m : ob_Mem} {s : Int → Int} {x : Int} (hs : m 40 0 = s) (hV : VV W s) (h : rP m s (Nn s)) : ob_E (209, 0, [(11, 0), (1, x), (0, 0), (0, 0), (0, 0), (0, 0), (0, 0)], [], (m, none)) = some (lgV (s 0) (Hd s (fun w => x = -1 ∨ tr s w = x) 36), (m, none)) := by
  obtain ⟨c0, c1, c2, -⟩ := cns hV
  have hN : 0 ≤ Nn s ∧ Nn s ≤ 36 := by
    unfold Nn
    omega
  have hR := hV.1.1
  have h14 := h.1
  have er0 : m 40 0 0 = s 0 := by rw [hs]
  generalize hH : Hd s (fun w => x = -1 ∨ tr s w = x) 36 = H
  rw [sg_X8_longest_0]
  refine wp_eq (wp_for (fun i (y : ob_AV × ob_AV) => ob_E (209, 7, [(11, 0), (1, x), (1, (lgS (s 0) H i.toNat).2), (1, (lgS (s 0) H i.toNat).1), (1, i), y.1, y.2], [], (m, none))) 0 (2 * s 0) (fun _ _ => True) ?_ ?_ (by omega) (x := ((0, 0), (0, 0))) trivial)
  · intro i ⟨y1, y2⟩ h1 h2 _ hk
    rw [lgS_s h1] at hk
    have b := lgS_b (R := s 0) (H := H) i.toNat
    have rb := rnd_b (R := s 0) (a := i) h1 (by omega)
    have rm := rnd_mod (R := s 0) (a := i) h1 (by omega) (by omega)
    show wp (ob_E (209, 7, [(11, 0), (1, x), (1, (lgS (s 0) H i.toNat).2), (1, (lgS (s 0) H i.toNat).1), (1, i), y1, y2], [], (m, none))) _
    rw [sg_X8_longest_7]
    simp (disch := first | omega | assumption) only [↓if_pos, ↓if_neg, Option.bind_some, ob_wr_id, md_round, sg_X8_longest_14, er0]
    generalize (lgS (s 0) H i.toNat).1 = r1 at *
    generalize (lgS (s 0) H i.toNat).2 = r2 at *
    refine wp_for (fun p (a : Int) => ob_E (209, 24, [(11, 0), (1, x), (1, r2), (1, r1), (1, i), (1, a), (1, p)], [], (m, none))) 0 (Nn s) (fun p a => BV a (∃ p', 0 ≤ p' ∧ p' < p ∧ (x = -1 ∨ tr s (cp s p') = x) ∧ dist (s 0) (bq s (cp s p')) (rnd (s 0) i) < hq s (cp s p'))) ?_ ?_ hN.1 (x := 0) (Or.inr ⟨rfl, fun ⟨p', a, b, _⟩ => by omega⟩)
    · intro p a g1 g2 hI hk2
      have hP := cp_P hV ⟨g1, g2⟩
      have pb := Pin_b hV hP
      obtain ⟨q1, q2, q3⟩ := h.2 p g1 g2
      have eb : ob_E (198, 0, [(11, 0), (1, p), (1, 1)], [], (m, none)) = some (bq s (cp s p), (m, none)) := md_pinAt hs hV h ⟨g1, g2⟩ (by omega)
      have eh : ob_E (198, 0, [(11, 0), (1, p), (1, 2)], [], (m, none)) = some (hq s (cp s p), (m, none)) := md_pinAt hs hV h ⟨g1, g2⟩ (by omega)
      have fr := md_from m (a := bq s (cp s p)) (b := rnd (s 0) i) (by omega) (by omega) (by omega) (by omega) (by omega) (by omega)
      rw [er0] at fr
      have yes : (∃ p', 0 ≤ p' ∧ p' < p + 1 ∧ (x = -1 ∨ tr s (cp s p') = x) ∧ dist (s 0) (bq s (cp s p')) (rnd (s 0) i) < hq s (cp s p')) → wp (ob_E (209, 24, [(11, 0), (1, x), (1, r2), (1, r1), (1, i), (1, 1), (1, p + 1)], [], (m, none))) _ := fun z => hk2 1 (Or.inl ⟨rfl, z⟩)
      have no : ¬ (∃ p', 0 ≤ p' ∧ p' < p + 1 ∧ (x = -1 ∨ tr s (cp s p') = x) ∧ dist (s 0) (bq s (cp s p')) (rnd (s 0) i) < hq s (cp s p')) → wp (ob_E (209, 24, [(11, 0), (1, x), (1, r2), (1, r1), (1, i), (1, 0), (1, p + 1)], [], (m, none))) _ := fun z => hk2 0 (Or.inr ⟨rfl, z⟩)
      rw [sg_X8_longest_24, h14, if_pos g2]
      rcases hI with ⟨e1, p', z1, z2, z3⟩ | ⟨e1, e2⟩
      · subst e1
        simp (disch := first | omega | assumption) only [↓if_pos, ↓if_neg, Option.bind_some, ob_wr_id, sg_X8_longest_82, sg_X8_longest_87]
        exact yes ⟨p', z1, by omega, z3⟩
      · subst e1
        have no2 : ¬ ((x = -1 ∨ tr s (cp s p) = x) ∧ dist (s 0) (bq s (cp s p)) (rnd (s 0) i) < hq s (cp s p)) → ¬ (∃ p', 0 ≤ p' ∧ p' < p + 1 ∧ (x = -1 ∨ tr s (cp s p') = x) ∧ dist (s 0) (bq s (cp s p')) (rnd (s 0) i) < hq s (cp s p')) := fun z ⟨p', z1, z2, z3⟩ => by
          by_cases e : p' = p
          · rw [e] at z3
            exact z z3
          · exact e2 ⟨p', z1, by omega, z3⟩
        by_cases k : x = -1 ∨ tr s (cp s p) = x
        · have to54 : (if (0 : Int) = 0 then (if x = -1 then ob_E (209, 54, [(11, 0), (1, x), (1, r2), (1, r1), (1, i), (1, 0), (1, p)], [], (m, none)) else (if 0 ≤ p ∧ p < 36 then (if m 48 0 p = x then ob_E (209, 54, [(11, 0), (1, x), (1, r2), (1, r1), (1, i), (1, 0), (1, p)], [], (m, none)) else ob_E (209, 86, [(11, 0), (1, x), (1, r2), (1, r1), (1, i), (1, 0), (1, p)], [], (m, none))) else none)) else ob_E (209, 82, [(11, 0), (1, x), (1, r2), (1, r1), (1, i), (1, 0), (1, p)], [], (m, none))) = ob_E (209, 54, [(11, 0), (1, x), (1, r2), (1, r1), (1, i), (1, 0), (1, p)], [], (m, none)) := by
            by_cases k1 : x = -1
            · simp (disch := first | omega | assumption) only [↓if_pos, ↓if_neg, Option.bind_some, ob_wr_id]
            · have k2 : m 48 0 p = x := by
                rw [q3]
                rcases k with k | k
                · exact absurd k k1
                · exact k
              simp (disch := first | omega | assumption) only [↓if_pos, ↓if_neg, Option.bind_some, ob_wr_id]
          rw [to54, sg_X8_longest_54, eb]
          simp (disch := first | omega | assumption) only [↓if_pos, ↓if_neg, Option.bind_some, ob_wr_id, sg_X8_longest_62, md_round, sg_X8_longest_68, er0, rm, fr, sg_X8_longest_72, eh, sg_X8_longest_79]
          by_cases k3 : dist (s 0) (bq s (cp s p)) (rnd (s 0) i) < hq s (cp s p)
          · simp (disch := first | omega | assumption) only [↓if_pos, ↓if_neg, Option.bind_some, ob_wr_id, sg_X8_longest_82, sg_X8_longest_87]
            exact yes ⟨p, g1, by omega, k, k3⟩
          · simp (disch := first | omega | assumption) only [↓if_pos, ↓if_neg, Option.bind_some, ob_wr_id, sg_X8_longest_86, sg_X8_longest_87]
            exact no (no2 (fun z => k3 z.2))
        · have k1 : x ≠ -1 := fun z => k (Or.inl z)
          have k2 : m 48 0 p ≠ x := fun z => k (Or.inr (by rw [← q3]; exact z))
          simp (disch := first | omega | assumption) only [↓if_pos, ↓if_neg, Option.bind_some, ob_wr_id, sg_X8_longest_86, sg_X8_longest_87]
          exact no (no2 (fun z => k z.1))
    · intro a hI
      have hHi : H (rnd (s 0) i) ↔ (∃ p', 0 ≤ p' ∧ p' < Nn s ∧ (x = -1 ∨ tr s (cp s p') = x) ∧ dist (s 0) (bq s (cp s p')) (rnd (s 0) i) < hq s (cp s p')) := by
        rw [← hH]
        constructor
        · rintro ⟨v, v1, v2, v3, v4⟩
          obtain ⟨z1, z2, z3⟩ := cp_sur hV v1
          exact ⟨_, z2, z3, by rw [z1]; exact v3, by rw [z1]; exact v4⟩
        · rintro ⟨p', z1, z2, z3, z4⟩
          have hP := cp_P hV ⟨z1, z2⟩
          exact ⟨cp s p', hP, hP.1.2, z3, z4⟩
      have fin : ∀ r', r' = lgN (s 0) H i r1 → wp (ob_E (209, 107, [(11, 0), (1, x), (1, r2), (1, r1), (1, i), (1, a), (1, Nn s)], [(1, r')], (m, none))) (fun v m' => v = lgV (s 0) H ∧ m' = m) := by
        intro r' er'
        subst er'
        have hk := hk ((1, a), (1, Nn s)) trivial
        rw [sg_X8_longest_107]
        by_cases q : r2 < lgN (s 0) H i r1
        · simp (disch := first | omega | assumption) only [↓if_pos, ↓if_neg, Option.bind_some, ob_wr_id, sg_X8_longest_118]
          rw [Int.max_eq_right (by omega)] at hk
          exact hk
        · simp (disch := first | omega | assumption) only [↓if_pos, ↓if_neg, Option.bind_some, ob_wr_id, sg_X8_longest_118]
          rw [Int.max_eq_left (by omega)] at hk
          exact hk
      rw [sg_X8_longest_24, h14, if_neg (by omega)]
      rcases hI with ⟨e1, e2⟩ | ⟨e1, e2⟩
      · rw [if_neg (by omega)]
        refine fin 0 ?_
        unfold lgN
        rw [if_pos (hHi.mpr e2)]
      · rw [if_pos e1]
        refine fin _ ?_
        unfold lgN
        rw [if_neg (fun z => e2 (hHi.mp z)), ob_wr_id (by omega) (by omega)]
  · intro ⟨y1, y2⟩ _
    have b := lgS_b (R := s 0) (H := H) (2 * s 0).toNat
    show wp (ob_E (209, 7, [(11, 0), (1, x), (1, (lgS (s 0) H (2 * s 0).toNat).2), (1, (lgS (s 0) H (2 * s 0).toNat).1), (1, 2 * s 0), y1, y2], [], (m, none))) _
    rw [sg_X8_longest_7]
    simp (disch := first | omega | assumption) only [↓if_pos, ↓if_neg, Option.bind_some, ob_wr_id, md_round, sg_X8_longest_14, er0, sg_X8_longest_130]
    unfold lgV
    by_cases q : (lgS (s 0) H (2 * s 0).toNat).2 < s 0
    · simp (disch := first | omega | assumption) only [↓if_pos, ↓if_neg, Option.bind_some, ob_wr_id, sg_X8_longest_141]
      rw [Int.min_eq_left (by omega)]
      exact wp_ret ⟨rfl, rfl⟩
    · simp (disch := first | omega | assumption) only [↓if_pos, ↓if_neg, Option.bind_some, ob_wr_id, md_round, er0, sg_X8_longest_141]
      rw [Int.min_eq_right (by omega)]
      exact wp_ret ⟨rfl, rfl⟩
noncomputable def emV (s : Int → Int) : Int := cnt (fun x => ∀ v, Pin s v → tr s v ≠ x) (s 2 * s 1).toNat
theorem cl_emptyTracks {W : Int} {m : ob_Mem} {j : Int} {s : Int → Int} (hV : VV W s) (h : Rep m j s) : ob_E (20, 0, [(3, j), (0, 0), (0, 0)], [], (m, none)) = some (emV s, (m, none)) := by
  obtain ⟨⟨v1, v2, v3, -⟩, v8⟩ := id hV
  have mb := ob_mulb (show 0 ≤ s 2 by omega) v3.2 (show 0 ≤ s 1 by omega) v2.2
  have eT := rpT h
  have eK := rpK h
  have et := cl_tracks m (j := j) (by omega) (by omega)
  rw [eT, eK] at et
  rw [sg_X0_emptyTracks_0]
  refine wp_eq (wp_for (α := Unit) (fun x _ => ob_E (20, 4, [(3, j), (1, cnt (fun x => ∀ v, Pin s v → tr s v ≠ x) x.toNat), (1, x)], [], (m, none))) 0 (s 2 * s 1) (fun _ _ => True) ?_ ?_ mb.1 (x := ()) trivial)
  · intro x _ h1 h2 _ hk
    have hk := hk () trivial
    rw [cnt_s h1] at hk
    have b1 := cnt_le (P := fun x => ∀ v, Pin s v → tr s v ≠ x) x.toNat
    have b2 := cnt_0 (P := fun x => ∀ v, Pin s v → tr s v ≠ x) x.toNat
    generalize cnt (fun x => ∀ v, Pin s v → tr s v ≠ x) x.toNat = c at *
    rw [sg_X0_emptyTracks_4, et]
    simp (disch := first | omega | assumption) only [↓if_pos, ↓if_neg, Option.bind_some, ob_wr_id, sg_X0_emptyTracks_9]
    refine wp_b (cl_heldOn hV h) (fun v m1 hv => ?_)
    obtain ⟨rfl, hv⟩ := hv
    have z := HB_z hV hv
    rw [sg_X0_emptyTracks_17]
    by_cases e : v = 0
    · rw [if_pos (fun w w1 w2 => z.mp e w w1 w1.1.2 w2)] at hk
      simp (disch := first | omega | assumption) only [↓if_pos, ↓if_neg, Option.bind_some, ob_wr_id, sg_X0_emptyTracks_23]
      exact hk
    · rw [if_neg (fun y => e (z.mpr (fun w w1 w2 w3 => y w w1 w3)))] at hk
      simp (disch := first | omega | assumption) only [↓if_pos, ↓if_neg, Option.bind_some, ob_wr_id, sg_X0_emptyTracks_23]
      exact hk
  · intro _ _
    rw [sg_X0_emptyTracks_4, et]
    simp (disch := first | omega | assumption) only [↓if_pos, ↓if_neg, Option.bind_some, ob_wr_id, sg_X0_emptyTracks_9]
    exact wp_ret ⟨rfl, rfl⟩
theorem md_emptyTracks {W : Int} {m : ob_Mem} {s : Int → Int} (hs : m 40 0 = s) (hV : VV W s) (h : rP m s (Nn s)) : ob_E (211, 0, [(11, 0), (0, 0), (0, 0), (0, 0), (0, 0)], [], (m, none)) = some (emV s, (m, none)) := by
  obtain ⟨⟨v1, v2, v3, -⟩, v8⟩ := id hV
  obtain ⟨c0, c1, c2, -⟩ := cns hV
  have hN : 0 ≤ Nn s ∧ Nn s ≤ 36 := by
    unfold Nn
    omega
  have mb := ob_mulb (show 0 ≤ s 2 by omega) v3.2 (show 0 ≤ s 1 by omega) v2.2
  have h14 := h.1
  have et := md_tracks m (by rw [hs]; exact v3) (by rw [hs]; exact v2)
  rw [hs] at et
  rw [sg_X8_emptyTracks_0]
  refine wp_eq (wp_for (fun x (y : ob_AV × ob_AV) => ob_E (211, 4, [(11, 0), (1, cnt (fun x => ∀ v, Pin s v → tr s v ≠ x) x.toNat), (1, x), y.1, y.2], [], (m, none))) 0 (s 2 * s 1) (fun _ _ => True) ?_ ?_ mb.1 (x := ((0, 0), (0, 0))) trivial)
  · intro x ⟨y1, y2⟩ h1 h2 _ hk
    rw [cnt_s h1] at hk
    have b1 := cnt_le (P := fun x => ∀ v, Pin s v → tr s v ≠ x) x.toNat
    have b2 := cnt_0 (P := fun x => ∀ v, Pin s v → tr s v ≠ x) x.toNat
    show wp (ob_E (211, 4, [(11, 0), (1, cnt (fun x => ∀ v, Pin s v → tr s v ≠ x) x.toNat), (1, x), y1, y2], [], (m, none))) _
    generalize cnt (fun x => ∀ v, Pin s v → tr s v ≠ x) x.toNat = c at *
    rw [sg_X8_emptyTracks_4, et]
    simp (disch := first | omega | assumption) only [↓if_pos, ↓if_neg, Option.bind_some, ob_wr_id, sg_X8_emptyTracks_9]
    refine wp_for (fun p (a : Int) => ob_E (211, 17, [(11, 0), (1, c), (1, x), (1, a), (1, p)], [], (m, none))) 0 (Nn s) (fun p a => BV a (∀ p', 0 ≤ p' → p' < p → tr s (cp s p') ≠ x)) ?_ ?_ hN.1 (x := 1) (Or.inl ⟨rfl, fun p' a b => by omega⟩)
    · intro p a g1 g2 hI hk2
      obtain ⟨q1, q2, q3⟩ := h.2 p g1 g2
      rw [sg_X8_emptyTracks_17, h14, if_pos g2]
      rcases hI with ⟨e1, e2⟩ | ⟨e1, e2⟩
      · subst e1
        rw [if_neg (by omega), if_pos (by omega), q3]
        by_cases k : tr s (cp s p) = x
        · rw [if_pos k]
          simp (disch := first | omega | assumption) only [↓if_pos, ↓if_neg, Option.bind_some, ob_wr_id, sg_X8_emptyTracks_45, sg_X8_emptyTracks_46]
          exact hk2 0 (Or.inr ⟨rfl, fun z => z p g1 (by omega) k⟩)
        · rw [if_neg k]
          simp (disch := first | omega | assumption) only [↓if_pos, ↓if_neg, Option.bind_some, ob_wr_id, sg_X8_emptyTracks_46]
          refine hk2 1 (Or.inl ⟨rfl, fun p' a b => ?_⟩)
          by_cases e : p' = p
          · rw [e]
            exact k
          · exact e2 p' a (by omega)
      · subst e1
        simp (disch := first | omega | assumption) only [↓if_pos, ↓if_neg, Option.bind_some, ob_wr_id, sg_X8_emptyTracks_45, sg_X8_emptyTracks_46]
        exact hk2 0 (Or.inr ⟨rfl, fun z => e2 (fun p' a b => z p' a (by omega))⟩)
    · intro a hI
      have hE : (∀ p', 0 ≤ p' → p' < Nn s → tr s (cp s p') ≠ x) ↔ (∀ v, Pin s v → tr s v ≠ x) := by
        constructor
        · intro z v v1
          obtain ⟨z1, z2, z3⟩ := cp_sur hV v1
          rw [← z1]
          exact z _ z2 z3
        · intro z p' a b
          exact z _ (cp_P hV ⟨a, b⟩)
      rw [sg_X8_emptyTracks_17, h14, if_neg (by omega)]
      rcases hI with ⟨e1, e2⟩ | ⟨e1, e2⟩
      · subst e1
        have hk := hk ((1, 1), (1, Nn s)) trivial
        rw [if_pos (hE.mp e2)] at hk
        simp (disch := first | omega | assumption) only [↓if_pos, ↓if_neg, Option.bind_some, ob_wr_id, sg_X8_emptyTracks_63]
        exact hk
      · subst e1
        have hk := hk ((1, 0), (1, Nn s)) trivial
        rw [if_neg (fun z => e2 (hE.mpr z))] at hk
        simp (disch := first | omega | assumption) only [↓if_pos, ↓if_neg, Option.bind_some, ob_wr_id, sg_X8_emptyTracks_63]
        rw [Int.add_zero]
        exact hk
  · intro ⟨y1, y2⟩ _
    show wp (ob_E (211, 4, [(11, 0), (1, cnt (fun x => ∀ v, Pin s v → tr s v ≠ x) (s 2 * s 1).toNat), (1, s 2 * s 1), y1, y2], [], (m, none))) _
    rw [sg_X8_emptyTracks_4, et]
    simp (disch := first | omega | assumption) only [↓if_pos, ↓if_neg, Option.bind_some, ob_wr_id, sg_X8_emptyTracks_9]
    exact wp_ret ⟨rfl, rfl⟩
def pnV (s : Int → Int) (n : Nat) : Int := fo (fun t b => if s (12 + 116 * t + 39) = 1 then ob_or b (ob_shl 1 t) else b) 0 n
theorem ob_or_0 {v : Int} (h : (Int32.ofInt v).toInt = v) : ob_or v 0 = v := by
  unfold ob_or
  have h0 : (Int32.ofInt 0 : Int32) = 0 := rfl
  have e : Int32.ofInt v ||| 0 = Int32.ofInt v := by
    refine kb_b_ext (fun i hi => ?_)
    rw [kb_b_or, kb_b_0, Bool.or_false]
  rw [h0, e, h]
theorem ob_or_w (a b : Int) : (Int32.ofInt (ob_or a b)).toInt = ob_or a b := by
  unfold ob_or
  rw [oti]
theorem pnV_w (s : Int → Int) (n : Nat) : (Int32.ofInt (pnV s n)).toInt = pnV s n := fo_inv (fun v => (Int32.ofInt v).toInt = v) rfl n (fun j _ _ x hx => by
  show (Int32.ofInt (if _ then _ else _)).toInt = (if _ then _ else _)
  split
  · exact ob_or_w _ _
  · exact hx)
theorem cl_pinned {W : Int} {m : ob_Mem} {j : Int} {s : Int → Int} (hV : VV W s) (h : Rep m j s) : ob_E (18, 0, [(3, j), (0, 0), (0, 0)], [], (m, none)) = some (pnV s (s 2).toNat, (m, none)) := by
  obtain ⟨⟨v1, v2, v3, -⟩, v8⟩ := id hV
  have eT := rpT h
  rw [sg_X0_pinnedTunes_0]
  refine wp_eq (wp_for (α := Unit) (fun t _ => ob_E (18, 4, [(3, j), (1, pnV s t.toNat), (1, t)], [], (m, none))) 0 (s 2) (fun _ _ => True) ?_ ?_ (by omega) (x := ()) trivial)
  · intro t _ h1 h2 _ hk
    have hk := hk () trivial
    have eP := rpP h (t := t) (by omega)
    obtain ⟨-, p1, -⟩ := v8 t h1 (by omega)
    rw [show pnV s (t + 1).toNat = if s (12 + 116 * t + 39) = 1 then ob_or (pnV s t.toNat) (ob_shl 1 t) else pnV s t.toNat from fo_s h1] at hk
    rw [sg_X0_pinnedTunes_4, eT, if_pos h2, if_pos (by omega), eP]
    by_cases c : s (12 + 116 * t + 39) = 1
    · rw [if_pos c] at hk
      rw [if_neg (by omega), sg_X0_pinnedTunes_30, ob_wr_id (by omega) (by omega)]
      exact hk
    · rw [if_neg c] at hk
      rw [if_pos (by omega), sg_X0_pinnedTunes_30, ob_wr_id (by omega) (by omega)]
      exact hk
  · intro _ _
    rw [sg_X0_pinnedTunes_4, eT, if_neg (by omega)]
    exact wp_ret ⟨rfl, rfl⟩
theorem md_pinned {W : Int} {m : ob_Mem} {s : Int → Int} (hs : m 40 0 = s) (hV : VV W s) : ob_E (210, 0, [(11, 0), (0, 0), (0, 0)], [], (m, none)) = some (pnV s (s 2).toNat, (m, none)) := by
  obtain ⟨⟨v1, v2, v3, -⟩, v8⟩ := id hV
  have er2 : m 40 0 2 = s 2 := by rw [hs]
  rw [sg_X8_pinnedSet_0]
  refine wp_eq (wp_for (α := Unit) (fun t _ => ob_E (210, 4, [(11, 0), (1, pnV s t.toNat), (1, t)], [], (m, none))) 0 (s 2) (fun _ _ => True) ?_ ?_ (by omega) (x := ()) trivial)
  · intro t _ h1 h2 _ hk
    have hk := hk () trivial
    have eP : m 40 0 (12 + 116 * t + 39) = s (12 + 116 * t + 39) := by rw [hs]
    rw [show pnV s (t + 1).toNat = if s (12 + 116 * t + 39) = 1 then ob_or (pnV s t.toNat) (ob_shl 1 t) else pnV s t.toNat from fo_s h1] at hk
    rw [sg_X8_pinnedSet_4]
    simp (disch := first | omega | assumption) only [↓if_pos, ↓if_neg, Option.bind_some, ob_wr_id, md_tunes, er2, sg_X8_pinnedSet_9, md_isPinned, eP]
    by_cases c : s (12 + 116 * t + 39) = 1
    · rw [if_pos c] at hk
      simp (disch := first | omega | assumption) only [↓if_pos, ↓if_neg, Option.bind_some, ob_wr_id, sg_X8_pinnedSet_18, sg_X8_pinnedSet_28]
      exact hk
    · rw [if_neg c] at hk
      simp (disch := first | omega | assumption) only [↓if_pos, ↓if_neg, Option.bind_some, ob_wr_id, sg_X8_pinnedSet_18, sg_X8_pinnedSet_28]
      rw [ob_or_0 (pnV_w s _)]
      exact hk
  · intro _ _
    rw [sg_X8_pinnedSet_4]
    simp (disch := first | omega | assumption) only [↓if_pos, ↓if_neg, Option.bind_some, ob_wr_id, md_tunes, er2, sg_X8_pinnedSet_9]
    exact wp_ret ⟨rfl, rfl⟩
theorem cl_pinCount {W : Int} {m : ob_Mem} {j : Int} {s : Int → Int} (hV : VV W s) (h : Rep m j s) : ob_E (19, 0, [(3, j), (0, 0), (0, 0)], [], (m, none)) = some (Nn s, (m, none)) := by
  obtain ⟨⟨v1, v2, v3, -⟩, v8⟩ := id hV
  have eT := rpT h
  rw [sg_X0_pinCount_0]
  refine wp_eq (wp_for (α := Unit) (fun t _ => ob_E (19, 4, [(3, j), (1, offs s t), (1, t)], [], (m, none))) 0 (s 2) (fun _ _ => True) ?_ ?_ (by omega) (x := ()) trivial)
  · intro t _ h1 h2 _ hk
    have hk := hk () trivial
    have ht : 0 ≤ t ∧ t < 3 := by omega
    obtain ⟨o1, o2, o3, o4⟩ := offs_s hV ht
    have cb := cn_b hV ht
    rw [o1] at hk
    rw [sg_X0_pinCount_4, eT, if_pos h2, if_pos ht, cl_howMany hV h ht]
    simp (disch := first | omega | assumption) only [↓if_pos, ↓if_neg, Option.bind_some, ob_wr_id, sg_X0_pinCount_22]
    exact hk
  · intro _ _
    rw [sg_X0_pinCount_4, eT, if_neg (by omega), offs_T hV]
    exact wp_ret ⟨rfl, rfl⟩
noncomputable def shN (q : BS) (n : Nat) : Int := cnt (fun b => 1 < q.2.2.2.2.1 b) n
noncomputable def woN (s : Int → Int) (q : BS) (n : Nat) : Int := cnt (fun b => s 5 ≤ q.2.2.2.2.2.1 b) n
theorem cl_shared {m : ob_Mem} {s : Int → Int} {q : BS} (h : rB m s q) (hq0 : 0 ≤ q.1 ∧ q.1 ≤ 36) : ob_E (30, 0, [(4, 0), (0, 0), (0, 0)], [], (m, none)) = some (shN q q.1.toNat, (m, none)) := by
  rw [sg_X1_countShared_0]
  refine wp_eq (wp_for (α := Unit) (fun b _ => ob_E (30, 4, [(4, 0), (1, shN q b.toNat), (1, b)], [], (m, none))) 0 q.1 (fun _ _ => True) ?_ ?_ hq0.1 (x := ()) trivial)
  · intro b _ h1 h2 _ hk
    have hk := hk () trivial
    obtain ⟨g1, g2, g3, g4, g5⟩ := h.2.1 b h1 h2
    unfold shN at hk ⊢
    rw [cnt_s h1] at hk
    have b1 := cnt_le (P := fun b => 1 < q.2.2.2.2.1 b) b.toNat
    have b2 := cnt_0 (P := fun b => 1 < q.2.2.2.2.1 b) b.toNat
    generalize cnt (fun b => 1 < q.2.2.2.2.1 b) b.toNat = c at *
    rw [sg_X1_countShared_4, h.1, if_pos h2, if_pos (by omega), g4]
    by_cases e : 1 < q.2.2.2.2.1 b
    · rw [if_pos e] at hk
      simp (disch := first | omega | assumption) only [↓if_pos, ↓if_neg, Option.bind_some, ob_wr_id, sg_X1_countShared_25]
      exact hk
    · rw [if_neg e] at hk
      simp (disch := first | omega | assumption) only [↓if_pos, ↓if_neg, Option.bind_some, ob_wr_id, sg_X1_countShared_25]
      exact hk
  · intro _ _
    rw [sg_X1_countShared_4, h.1, if_neg (by omega)]
    exact wp_ret ⟨rfl, rfl⟩
theorem cl_worn {m : ob_Mem} {s : Int → Int} {q : BS} (h : rB m s q) (hq0 : 0 ≤ q.1 ∧ q.1 ≤ 36) : ob_E (31, 0, [(4, 0), (1, s 5), (0, 0), (0, 0)], [], (m, none)) = some (woN s q q.1.toNat, (m, none)) := by
  rw [sg_X1_countWorn_0]
  refine wp_eq (wp_for (α := Unit) (fun b _ => ob_E (31, 4, [(4, 0), (1, s 5), (1, woN s q b.toNat), (1, b)], [], (m, none))) 0 q.1 (fun _ _ => True) ?_ ?_ hq0.1 (x := ()) trivial)
  · intro b _ h1 h2 _ hk
    have hk := hk () trivial
    obtain ⟨g1, g2, g3, g4, g5⟩ := h.2.1 b h1 h2
    unfold woN at hk ⊢
    rw [cnt_s h1] at hk
    have b1 := cnt_le (P := fun b => s 5 ≤ q.2.2.2.2.2.1 b) b.toNat
    have b2 := cnt_0 (P := fun b => s 5 ≤ q.2.2.2.2.2.1 b) b.toNat
    generalize cnt (fun b => s 5 ≤ q.2.2.2.2.2.1 b) b.toNat = c at *
    rw [sg_X1_countWorn_4, h.1, if_pos h2, if_pos (by omega), g5]
    by_cases e : s 5 ≤ q.2.2.2.2.2.1 b
    · rw [if_pos e] at hk
      simp (disch := first | omega | assumption) only [↓if_pos, ↓if_neg, Option.bind_some, ob_wr_id, sg_X1_countWorn_25]
      exact hk
    · rw [if_neg e] at hk
      simp (disch := first | omega | assumption) only [↓if_pos, ↓if_neg, Option.bind_some, ob_wr_id, sg_X1_countWorn_25]
      exact hk
  · intro _ _
    rw [sg_X1_countWorn_4, h.1, if_neg (by omega)]
    exact wp_ret ⟨rfl, rfl⟩
theorem md_isWorn {m : ob_Mem} {s : Int → Int} {q : BS} {b : Int} (hs : m 40 0 = s) (h : rM m s q) (hb : 0 ≤ b ∧ b < q.1) (hq0 : q.1 ≤ 36) : ob_E (203, 0, [(11, 0), (1, b)], [], (m, none)) = some (if s 5 ≤ q.2.2.2.2.2.1 b then 1 else 0, (m, none)) := by
  obtain ⟨g1, g2, g3, g4, g5⟩ := h.2.1 b hb.1 hb.2
  have e5 : m 40 0 5 = s 5 := by rw [hs]
  rw [sg_X8_isWorn_0, if_pos (by omega), if_pos (by omega), g5, e5]
  by_cases e : s 5 ≤ q.2.2.2.2.2.1 b
  · simp (disch := first | omega | assumption) only [↓if_pos, ↓if_neg, Option.bind_some, ob_wr_id]
  · simp (disch := first | omega | assumption) only [↓if_pos, ↓if_neg, Option.bind_some, ob_wr_id]
noncomputable def alV (s : Int → Int) (w : Int) : Int := if w = 0 then pnV s (s 2).toNat else if w = 1 then Nn s else if w = 2 then (br s).1 else if w = 3 then shN (br s) (br s).1.toNat else if w = 4 then woN s (br s) (br s).1.toNat else if w = 5 then emV s else lgV (s 0) (Hd s (fun _ => True) 36)
theorem cl_allValue {W : Int} {m : ob_Mem} {s : Int → Int} {w : Int} (hV : VV W s) (h : Rep m (m 7 0 0) s) (hB : rB m s (br s)) (hw : 0 ≤ w ∧ w ≤ 6) : ob_E (120, 0, [(10, 0), (1, w)], [], (m, none)) = some (alV s w, (m, none)) := by
  obtain ⟨b1, b2⟩ := SI_br hV
  have hR := hV.1.1
  have eL := rpL h
  have eR := rpR h
  unfold alV
  rw [sg_X7_allValue_0]
  by_cases w0 : w = 0
  · simp (disch := first | omega | assumption) only [↓if_pos, ↓if_neg, Option.bind_some, ob_wr_id, cl_pinned hV h, sg_X7_allValue_47]
  · by_cases w1 : w = 1
    · simp (disch := first | omega | assumption) only [↓if_pos, ↓if_neg, Option.bind_some, ob_wr_id, cl_pinCount hV h, sg_X7_allValue_55]
    · by_cases w2 : w = 2
      · simp (disch := first | omega | assumption) only [↓if_pos, ↓if_neg, Option.bind_some, ob_wr_id, hB.1]
      · by_cases w3 : w = 3
        · simp (disch := first | omega | assumption) only [↓if_pos, ↓if_neg, Option.bind_some, ob_wr_id, cl_shared hB b1, sg_X7_allValue_71]
        · by_cases w4 : w = 4
          · simp (disch := first | omega | assumption) only [↓if_pos, ↓if_neg, Option.bind_some, ob_wr_id, eL, cl_worn hB b1, sg_X7_allValue_86]
          · by_cases w5 : w = 5
            · simp (disch := first | omega | assumption) only [↓if_pos, ↓if_neg, Option.bind_some, ob_wr_id, cl_emptyTracks hV h, sg_X7_allValue_94]
            · simp (disch := first | omega | assumption) only [↓if_pos, ↓if_neg, Option.bind_some, ob_wr_id]
              refine wp_eq (wp_b (cl_heldOnAny hV h) (fun v m1 hv => ?_))
              obtain ⟨rfl, hv⟩ := hv
              simp (disch := first | omega | assumption) only [↓if_pos, ↓if_neg, Option.bind_some, ob_wr_id, sg_X7_allValue_102, eR, cl_longest hR hv.1, sg_X7_allValue_112]
              exact wp_ret ⟨rfl, rfl⟩
theorem md_allNow {W : Int} (m : ob_Mem) {w : Int} (hV : VV W (m 40 0)) (hw : 0 ≤ w ∧ w ≤ 6) : wp (ob_E (212, 0, [(11, 0), (1, w), (0, 0), (0, 0), (0, 0)], [], (m, none))) (fun v m' => v = alV (m 40 0) w ∧ rP m' (m 40 0) (Nn (m 40 0)) ∧ rM m' (m 40 0) (br (m 40 0)) ∧ fs m m') := by
  obtain ⟨b1, b2⟩ := SI_br hV
  rw [sg_X8_allNow_0]
  refine wp_b (md_laysBridges m hV) (fun _ m1 h1 => ?_)
  obtain ⟨r1, r2, r3⟩ := h1
  have hs := fs_row r3
  generalize m 40 0 = s at *
  rw [sg_X8_allNow_4]
  refine wp_for (α := Unit) (fun b _ => ob_E (212, 11, [(11, 0), (1, w), (1, shN (br s) b.toNat), (1, woN s (br s) b.toNat), (1, b)], [], (m1, none))) 0 (br s).1 (fun _ _ => True) ?_ ?_ b1.1 (x := ()) trivial
  · intro b _ h1 h2 _ hk
    have hk := hk () trivial
    obtain ⟨g1, g2, g3, g4, g5⟩ := r2.2.1 b h1 h2
    have iw := md_isWorn hs r2 ⟨h1, h2⟩ b1.2
    unfold shN woN at hk ⊢
    rw [cnt_s h1, cnt_s h1] at hk
    have c1 := cnt_le (P := fun b => 1 < (br s).2.2.2.2.1 b) b.toNat
    have c2 := cnt_0 (P := fun b => 1 < (br s).2.2.2.2.1 b) b.toNat
    have c3 := cnt_le (P := fun b => s 5 ≤ (br s).2.2.2.2.2.1 b) b.toNat
    have c4 := cnt_0 (P := fun b => s 5 ≤ (br s).2.2.2.2.2.1 b) b.toNat
    generalize cnt (fun b => 1 < (br s).2.2.2.2.1 b) b.toNat = x at *
    generalize cnt (fun b => s 5 ≤ (br s).2.2.2.2.2.1 b) b.toNat = y at *
    rw [sg_X8_allNow_11, r2.1, if_pos h2, if_pos (by omega), g4]
    by_cases e : 1 < (br s).2.2.2.2.1 b
    · rw [if_pos e] at hk
      by_cases f : s 5 ≤ (br s).2.2.2.2.2.1 b
      · rw [if_pos f] at hk
        simp (disch := first | omega | assumption) only [↓if_pos, ↓if_neg, Option.bind_some, ob_wr_id, sg_X8_allNow_37, iw, sg_X8_allNow_46, sg_X8_allNow_54]
        exact hk
      · rw [if_neg f] at hk
        simp (disch := first | omega | assumption) only [↓if_pos, ↓if_neg, Option.bind_some, ob_wr_id, sg_X8_allNow_37, iw, sg_X8_allNow_46, sg_X8_allNow_54]
        rw [Int.add_zero]
        exact hk
    · rw [if_neg e] at hk
      by_cases f : s 5 ≤ (br s).2.2.2.2.2.1 b
      · rw [if_pos f] at hk
        simp (disch := first | omega | assumption) only [↓if_pos, ↓if_neg, Option.bind_some, ob_wr_id, sg_X8_allNow_37, iw, sg_X8_allNow_46, sg_X8_allNow_54]
        rw [Int.add_zero]
        exact hk
      · rw [if_neg f] at hk
        simp (disch := first | omega | assumption) only [↓if_pos, ↓if_neg, Option.bind_some, ob_wr_id, sg_X8_allNow_37, iw, sg_X8_allNow_46, sg_X8_allNow_54]
        rw [Int.add_zero, Int.add_zero]
        exact hk
  · intro _ _
    have fin : ∀ v, v = alV s w → wp (some (v, (m1, none))) (fun v m' => v = alV s w ∧ rP m' s (Nn s) ∧ rM m' s (br s) ∧ fs m m') := fun v e => wp_ret ⟨e, r1, r2, r3⟩
    rw [sg_X8_allNow_11, r2.1, if_neg (by omega)]
    unfold alV at fin ⊢
    by_cases w0 : w = 0
    · simp (disch := first | omega | assumption) only [↓if_pos, ↓if_neg, Option.bind_some, ob_wr_id, md_pinned hs hV, sg_X8_allNow_104]
      exact wp_ret ⟨rfl, r1, r2, r3⟩
    · by_cases w1 : w = 1
      · simp (disch := first | omega | assumption) only [↓if_pos, ↓if_neg, Option.bind_some, ob_wr_id]
        exact wp_ret ⟨r1.1, r1, r2, r3⟩
      · by_cases w2 : w = 2
        · simp (disch := first | omega | assumption) only [↓if_pos, ↓if_neg, Option.bind_some, ob_wr_id]
          exact wp_ret ⟨rfl, r1, r2, r3⟩
        · by_cases w3 : w = 3
          · simp (disch := first | omega | assumption) only [↓if_pos, ↓if_neg, Option.bind_some, ob_wr_id]
            exact wp_ret ⟨rfl, r1, r2, r3⟩
          · by_cases w4 : w = 4
            · simp (disch := first | omega | assumption) only [↓if_pos, ↓if_neg, Option.bind_some, ob_wr_id]
              exact wp_ret ⟨rfl, r1, r2, r3⟩
            · by_cases w5 : w = 5
              · simp (disch := first | omega | assumption) only [↓if_pos, ↓if_neg, Option.bind_some, ob_wr_id, md_emptyTracks hs hV r1, sg_X8_allNow_123]
                exact wp_ret ⟨rfl, r1, r2, r3⟩
              · have el := md_longest (x := -1) hs hV r1
                have eH : Hd s (fun w => (-1 : Int) = -1 ∨ tr s w = -1) 36 = Hd s (fun _ => True) 36 := by
                  funext k
                  refine propext ⟨fun ⟨v, a, b, _, d⟩ => ⟨v, a, b, trivial, d⟩, fun ⟨v, a, b, _, d⟩ => ⟨v, a, b, Or.inl rfl, d⟩⟩
                rw [eH] at el
                simp (disch := first | omega | assumption) only [↓if_pos, ↓if_neg, Option.bind_some, ob_wr_id, el, sg_X8_allNow_129]
                exact wp_ret ⟨rfl, r1, r2, r3⟩
