-- BRIDGES: the class finds them
def cn (s : Int → Int) (t : Int) : Int := if s (12 + 116 * t + 39) = 1 then s (12 + 116 * t + 43) else 0
theorem cl_howMany {W : Int} {m : ob_Mem} {j t : Int} {s : Int → Int} (hV : VV W s) (h : Rep m j s) (ht : 0 ≤ t ∧ t < 3) : ob_E (65, 0, [(8, 3 * j + t)], [], (m, none)) = some (cn s t, (m, none)) := by
  have eP := rpP h ht
  obtain ⟨-, p1, p2, p3⟩ := hV.2 t ht.1 ht.2
  unfold cn
  rw [sg_X5_howMany_0, eP]
  by_cases c : s (12 + 116 * t + 39) = 1
  · have eN : m 3 (2 * (3 * j + t) + 1) 2 = s (12 + 116 * t + 43) := rqN (rpQ h ht c)
    rw [if_neg (by omega), if_pos c, eN]
  · rw [if_pos (by omega), if_neg c]
theorem cn_b {W : Int} {s : Int → Int} {t : Int} (hV : VV W s) (ht : 0 ≤ t ∧ t < 3) : 0 ≤ cn s t ∧ cn s t ≤ 12 := by
  obtain ⟨-, p1, p2, p3⟩ := hV.2 t ht.1 ht.2
  unfold cn
  split
  · next c =>
    have := (p3 c).2.2.2.1
    omega
  · omega
theorem Pin_c {W : Int} {s : Int → Int} {t i : Int} (hV : VV W s) (ht : 0 ≤ t ∧ t < 3) (hi : 0 ≤ i ∧ i < cn s t) : Pin s (12 * t + i) ∧ s (12 + 116 * t + 39) = 1 ∧ i < s (12 + 116 * t + 43) ∧ t < s 2 := by
  obtain ⟨-, p1, p2, p3⟩ := hV.2 t ht.1 ht.2
  have hb := cn_b hV ht
  have e1 : (12 * t + i) / 12 = t := by omega
  have e2 : (12 * t + i) % 12 = i := by omega
  unfold cn at hi
  by_cases c : s (12 + 116 * t + 39) = 1
  · rw [if_pos c] at hi
    have c2 : t < s 2 := by
      by_cases z : t < s 2
      · exact z
      · have := p2 (by omega)
        omega
    refine ⟨⟨by omega, ?_, ?_, ?_⟩, c, hi.2, c2⟩
    · rw [e1]
      exact c2
    · rw [e1]
      exact c
    · rw [e1, e2]
      exact hi.2
  · rw [if_neg c] at hi
    omega
theorem c_Pin {s : Int → Int} {v : Int} (h : Pin s v) : v % 12 < cn s (v / 12) := by
  unfold cn
  rw [if_pos h.2.2.1]
  exact h.2.2.2
theorem rd_b {s : Int → Int} {t i : Int} (hi : 0 ≤ i ∧ i < 12) : bq s (12 * t + i) = s (12 + 116 * t + (44 + 4 * i + 1)) ∧ hq s (12 * t + i) = s (12 + 116 * t + (44 + 4 * i + 2)) ∧ wq s (12 * t + i) = s (12 + 116 * t + (44 + 4 * i + 3)) ∧ kq s (12 * t + i) = s (12 + 116 * t + (44 + 4 * i + 0)) ∧ tr s (12 * t + i) = s 2 * s (12 + 116 * t + (44 + 4 * i + 0)) + t := by
  unfold tr bq hq wq kq
  rw [show (12 * t + i) / 12 = t by omega, show (12 * t + i) % 12 = i by omega]
  exact ⟨rfl, rfl, rfl, rfl, rfl⟩
/-- of the pins below c each lies in its place -/
def VA (m : ob_Mem) (s : Int → Int) (c : Int) : Prop := ∀ x a, 0 ≤ x → x < 18 → 0 ≤ a → a < 24 → (m 25 0 (x * 24 + a) = -1 ∧ ∀ v, Pin s v → v < c → tr s v = x → bq s v ≠ a) ∨ (Pin s (m 25 0 (x * 24 + a)) ∧ tr s (m 25 0 (x * 24 + a)) = x ∧ bq s (m 25 0 (x * 24 + a)) = a)
theorem cl_placePins {W : Int} {m : ob_Mem} {j : Int} {s : Int → Int} (hV : VV W s) (h : Rep m j s) : wp (ob_E (26, 0, [(4, 0), (3, j), (0, 0), (0, 0), (0, 0), (0, 0)], [], (m, none))) (fun _ m' => (∀ x a, 0 ≤ x → x < 18 → 0 ≤ a → a < 24 → m' 25 0 (x * 24 + a) = pat s x a) ∧ sm (fun k i => k = 25 ∧ i = 0) m m') := by
  obtain ⟨⟨v1, v2, v3, -⟩, v8⟩ := id hV
  rw [sg_X1_placePins_0]
  refine wp_b (Q := fun _ m' => (∀ y, 0 ≤ y → y < 432 → m' 25 0 y = -1) ∧ sm (fun k i => k = 25 ∧ i = 0) m m') ?_ ?_
  · rw [sg_fill25_0]
    refine wp_for (fun y (m' : ob_Mem) => ob_E (239, 5, [(28, 0), (1, -1), (1, y), (1, 432)], [], (m', none))) 0 432 (fun y m' => (∀ z, 0 ≤ z → z < y → m' 25 0 z = -1) ∧ sm (fun k i => k = 25 ∧ i = 0) m m') ?_ ?_ (by omega) ⟨fun z a b => absurd a (by omega), sm_r⟩
    · intro y m1 h1 h2 ⟨i1, i2⟩ hk
      rw [sg_fill25_5]
      simp (disch := first | omega | assumption) only [↓if_pos, ↓if_neg, Option.bind_some, ob_wr_id]
      refine hk _ ⟨fun z a b => ?_, sm_set i2 ⟨rfl, rfl⟩⟩
      by_cases e : z = y
      · rw [rs_e rfl e]
      · rw [rs_s e]
        exact i1 z a (by omega)
    · intro m1 ⟨i1, i2⟩
      rw [sg_fill25_5]
      simp (disch := first | omega | assumption) only [↓if_pos, ↓if_neg, Option.bind_some, ob_wr_id]
      exact wp_ret ⟨i1, i2⟩
  · intro _ m1 ⟨f1, f2⟩
    have hR : ∀ m', sm (fun k i => k = 25 ∧ i = 0) m m' → Rep m' j s := fun m' q => Rep_sm hV h (fun k i p z => q k i p (fun y => by
      have := y.1
      rcases z with ⟨z1, z2⟩ | ⟨z1, z2⟩ | ⟨z1, z2⟩ <;> omega))
    rw [sg_X1_placePins_8]
    refine wp_for (fun t (x : ob_AV × ob_AV × ob_AV × ob_Mem) => ob_E (26, 10, [(4, 0), (3, j), (1, t), x.1, x.2.1, x.2.2.1], [], (x.2.2.2, none))) 0 (s 2) (fun t x => VA x.2.2.2 s (12 * t) ∧ sm (fun k i => k = 25 ∧ i = 0) m x.2.2.2) ?_ ?_ (by omega) (x := ((0, 0), (0, 0), (0, 0), m1)) ⟨fun x a p1 p2 p3 p4 => Or.inl ⟨f1 _ (by omega) (by omega), fun v q1 q2 => by have := q1.1.1; omega⟩, f2⟩
    · intro t ⟨x1, x2, x3, m2⟩ h1 h2 ⟨i1, i2⟩ hk
      have i1 : VA m2 s (12 * t) := i1
      have i2 : sm (fun k i => k = 25 ∧ i = 0) m m2 := i2
      have ht : 0 ≤ t ∧ t < 3 := by omega
      have cb := cn_b hV ht
      have eT := rpT (hR m2 i2)
      show wp (ob_E (26, 10, [(4, 0), (3, j), (1, t), x1, x2, x3], [], (m2, none))) _
      rw [sg_X1_placePins_10, eT, if_pos h2, if_pos ht]
      refine wp_for (fun i (x : ob_AV × ob_Mem) => ob_E (26, 28, [(4, 0), (3, j), (1, t), (8, 3 * j + t), (1, i), x.1], [], (x.2, none))) 0 (cn s t) (fun i x => VA x.2 s (12 * t + i) ∧ sm (fun k i => k = 25 ∧ i = 0) m x.2) ?_ ?_ cb.1 (x := (x3, m2)) ⟨by show VA m2 s (12 * t + 0); rw [Int.add_zero]; exact i1, i2⟩
      · intro i ⟨y1, m3⟩ g1 g2 ⟨j1, j2⟩ hk2
        have j1 : VA m3 s (12 * t + i) := j1
        have j2 : sm (fun k i => k = 25 ∧ i = 0) m m3 := j2
        have R3 := hR m3 j2
        obtain ⟨hp, hc, hi, ht2⟩ := Pin_c hV ht ⟨g1, g2⟩
        obtain ⟨e1, -, -, e4, e5⟩ := rd_b (s := s) (t := t) (i := i) (by omega)
        have pb := Pin_b hV hp
        have eT := rpT R3
        have hQ := rpQ R3 ht hc
        have ek : m3 26 (2 * (3 * j + t) + 1) i = s (12 + 116 * t + (44 + 4 * i + 0)) := rqk hQ i g1 hi
        have eb : m3 32 (3 * j + t) i = s (12 + 116 * t + (44 + 4 * i + 1)) := rqb hQ i g1 hi
        rw [e4] at pb
        have mb := ob_mulb (show 0 ≤ s 2 by omega) v3.2 pb.1.1 (show s (12 + 116 * t + (44 + 4 * i + 0)) ≤ 5 by omega)
        show wp (ob_E (26, 28, [(4, 0), (3, j), (1, t), (8, 3 * j + t), (1, i), y1], [], (m3, none))) _
        rw [sg_X1_placePins_28, cl_howMany hV R3 ht]
        simp (disch := first | omega | assumption) only [↓if_pos, ↓if_neg, Option.bind_some, ob_wr_id, sg_X1_placePins_34, ek, cl_track, eT, sg_X1_placePins_52, eb]
        rw [← e5, ← e1]
        refine hk2 (_, ob_set m3 25 0 (tr s (12 * t + i) * 24 + bq s (12 * t + i)) (t * 12 + i)) ⟨fun x a p1 p2 p3 p4 => ?_, sm_set j2 ⟨rfl, rfl⟩⟩
        show ((ob_set m3 25 0 (tr s (12 * t + i) * 24 + bq s (12 * t + i)) (t * 12 + i)) 25 0 (x * 24 + a) = -1 ∧ _) ∨ (Pin s ((ob_set m3 25 0 (tr s (12 * t + i) * 24 + bq s (12 * t + i)) (t * 12 + i)) 25 0 (x * 24 + a)) ∧ tr s ((ob_set m3 25 0 (tr s (12 * t + i) * 24 + bq s (12 * t + i)) (t * 12 + i)) 25 0 (x * 24 + a)) = x ∧ bq s ((ob_set m3 25 0 (tr s (12 * t + i) * 24 + bq s (12 * t + i)) (t * 12 + i)) 25 0 (x * 24 + a)) = a)
        by_cases ex : x = tr s (12 * t + i) ∧ a = bq s (12 * t + i)
        · rw [rs_e rfl (by rw [ex.1, ex.2]), show t * 12 + i = 12 * t + i by omega]
          exact Or.inr ⟨hp, ex.1.symm, ex.2.symm⟩
        · rw [rs_s (by omega)]
          rcases j1 x a p1 p2 p3 p4 with ⟨z1, z2⟩ | z
          · refine Or.inl ⟨z1, fun v q1 q2 q3 q4 => ?_⟩
            by_cases ev : v = 12 * t + i
            · subst ev
              exact ex ⟨q3.symm, q4.symm⟩
            · exact z2 v q1 (by omega) q3 q4
          · exact Or.inr z
      · intro ⟨y1, m3⟩ ⟨j1, j2⟩
        have j1 : VA m3 s (12 * t + cn s t) := j1
        have j2 : sm (fun k i => k = 25 ∧ i = 0) m m3 := j2
        show wp (ob_E (26, 28, [(4, 0), (3, j), (1, t), (8, 3 * j + t), (1, cn s t), y1], [], (m3, none))) _
        rw [sg_X1_placePins_28, cl_howMany hV (hR m3 j2) ht]
        simp (disch := first | omega | assumption) only [↓if_pos, ↓if_neg, Option.bind_some, ob_wr_id, sg_X1_placePins_34]
        refine hk (_, _, _, m3) ⟨fun x a p1 p2 p3 p4 => ?_, j2⟩
        rcases j1 x a p1 p2 p3 p4 with ⟨z1, z2⟩ | z
        · refine Or.inl ⟨z1, fun v q1 q2 q3 q4 => z2 v q1 ?_ q3 q4⟩
          have := c_Pin q1
          by_cases e : v / 12 = t
          · rw [e] at this
            omega
          · omega
        · exact Or.inr z
    · intro ⟨x1, x2, x3, m2⟩ ⟨i1, i2⟩
      have i1 : VA m2 s (12 * s 2) := i1
      have i2 : sm (fun k i => k = 25 ∧ i = 0) m m2 := i2
      have eT := rpT (hR m2 i2)
      show wp (ob_E (26, 10, [(4, 0), (3, j), (1, s 2), x1, x2, x3], [], (m2, none))) _
      rw [sg_X1_placePins_10, eT, if_neg (by omega)]
      refine wp_ret ⟨fun x a p1 p2 p3 p4 => ?_, i2⟩
      rcases i1 x a p1 p2 p3 p4 with ⟨z1, z2⟩ | ⟨z1, z2, z3⟩
      · rw [z1, pat_n (fun v q1 q2 q3 => z2 v q1 (by have := q1.2.1; have := q1.1; omega) q2 q3)]
      · exact (pat_e hV z1 z2 z3).symm
/-- the class has found these bridges -/
def rB (m : ob_Mem) (s : Int → Int) (q : BS) : Prop := m 1 0 0 = q.1 ∧ (∀ b, 0 ≤ b → b < q.1 → m 20 0 b = q.2.1 b ∧ m 21 0 b = q.2.2.1 b ∧ m 22 0 b = q.2.2.2.1 b ∧ m 23 0 b = q.2.2.2.2.1 b ∧ m 19 0 b = q.2.2.2.2.2.1 b) ∧ ∀ v, Pin s v → 0 ≤ q.2.2.2.2.2.2 v → m 24 0 v = q.2.2.2.2.2.2 v
def gG (k : Nat) (_ : Int) : Prop := k = 1 ∨ (19 ≤ k ∧ k ≤ 24)
/-- a pin is added to the last bridge -/
theorem rB_add {m m' : ob_Mem} {s : Int → Int} {q : BS} {v x : Int} (h : rB m s q) (hn : 1 ≤ q.1 ∧ q.1 ≤ 36) (hv : 0 ≤ v ∧ v < 36) (h24 : m 24 0 v = q.1 - 1) (e : m' = ob_set (ob_set m 23 0 (q.1 - 1) (ob_wr (m 23 0 (q.1 - 1) + 1))) 19 0 (q.1 - 1) (ob_wr (m 19 0 (q.1 - 1) + x))) (hx : x = wq s v) : rB m' s (badd s v q) := by
  obtain ⟨h1, h2, h3⟩ := h
  subst e hx
  refine ⟨?_, fun b a c => ?_, fun w hw hu => ?_⟩
  · simp (disch := omega) only [rs_k, rs_i, rs_s, rs_e, up_e, up_n]
    exact h1
  · have c : b < q.1 := c
    obtain ⟨g1, g2, g3, g4, g5⟩ := h2 b a c
    obtain ⟨l1, l2, l3, l4, l5⟩ := h2 (q.1 - 1) (by omega) (by omega)
    refine ⟨?_, ?_, ?_, ?_, ?_⟩
    · simp (disch := omega) only [rs_k, rs_i, rs_s, rs_e, up_e, up_n]
      exact g1
    · simp (disch := omega) only [rs_k, rs_i, rs_s, rs_e, up_e, up_n]
      exact g2
    · simp (disch := omega) only [rs_k, rs_i, rs_s, rs_e, up_e, up_n]
      exact g3
    · show _ = up q.2.2.2.2.1 (q.1 - 1) _ b
      by_cases eb : b = q.1 - 1
      · rw [up_e eb, ← l4]
        simp (disch := omega) only [rs_k, rs_i, rs_s, rs_e, up_e, up_n]
      · rw [up_n eb, ← g4]
        simp (disch := omega) only [rs_k, rs_i, rs_s, rs_e, up_e, up_n]
    · show _ = up q.2.2.2.2.2.1 (q.1 - 1) _ b
      by_cases eb : b = q.1 - 1
      · rw [up_e eb, ← l5]
        simp (disch := omega) only [rs_k, rs_i, rs_s, rs_e, up_e, up_n]
      · rw [up_n eb, ← g5]
        simp (disch := omega) only [rs_k, rs_i, rs_s, rs_e, up_e, up_n]
  · have hu : 0 ≤ up q.2.2.2.2.2.2 v (q.1 - 1) w := hu
    show _ = up q.2.2.2.2.2.2 v (q.1 - 1) w
    by_cases ew : w = v
    · rw [up_e ew, ew, ← h24]
      simp (disch := omega) only [rs_k, rs_i, rs_s, rs_e, up_e, up_n]
    · rw [up_n ew] at hu ⊢
      rw [← h3 w hw hu]
      simp (disch := omega) only [rs_k, rs_i, rs_s, rs_e, up_e, up_n]
theorem cl_join {W : Int} {m : ob_Mem} {j a x : Int} {s : Int → Int} {q : BS} (hV : VV W s) (h : Rep m j s) (hB0 : rB m s q) (hS : SI s a x q) (hp : pat s x a ≠ -1) : wp (ob_E (27, 0, [(4, 0), (3, j), (1, pat s x a), (1, pat s (x - 1) a), (1, x), (0, 0), (0, 0)], [], (m, none))) (fun _ m' => rB m' s (bstep s a x q) ∧ sm gG m m') := by
  obtain ⟨⟨v1, v2, v3, -⟩, v8⟩ := id hV
  obtain ⟨q1, q2, q3⟩ := id hB0
  obtain ⟨S1, S2, S3, S4⟩ := id hS
  have n35 := SI_35 hS hp
  have eB : bstep s a x q = badd s (pat s x a) (if pat s (x - 1) a ≠ -1 ∧ hq s (pat s (x - 1) a) = hq s (pat s x a) then q else bnew s a x (pat s x a) q) := if_neg hp
  rw [eB]
  rcases pat_i s x a with ⟨p1, p2, p3⟩ | ⟨p1, -⟩
  · generalize hv : pat s x a = v at *
    generalize hb : pat s (x - 1) a = w at *
    have hv36 := p1.1
    have t1 : Int.tdiv v 12 = v / 12 := Int.tdiv_eq_ediv_of_nonneg (by omega)
    have t2 : Int.tmod v 12 = v % 12 := Int.tmod_eq_emod_of_nonneg (by omega)
    have ht : 0 ≤ v / 12 ∧ v / 12 < 3 := by have := p1.2.1; omega
    have hQ := rpQ h ht p1.2.2.1
    have eh : m 33 (3 * j + v / 12) (v % 12) = hq s v := rqh hQ (v % 12) (by omega) p1.2.2.2
    have eb : m 32 (3 * j + v / 12) (v % 12) = bq s v := rqb hQ (v % 12) (by omega) p1.2.2.2
    have ew : m 34 (3 * j + v / 12) (v % 12) = wq s v := rqw hQ (v % 12) (by omega) p1.2.2.2
    have new : ¬ (w ≠ -1 ∧ hq s w = hq s v) → wp (ob_E (27, 59, [(4, 0), (3, j), (1, v), (1, w), (1, x), (8, 3 * j + v / 12), (1, v % 12)], [], (m, none))) (fun _ m' => rB m' s (badd s v (bnew s a x v q)) ∧ sm gG m m') := by
      intro _
      rw [sg_X1_join_59]
      simp (disch := first | omega | assumption) only [↓if_pos, ↓if_neg, Option.bind_some, ob_wr_id, rs_k, rs_i, rs_s, rs_e, q1, eh, eb]
      generalize hM : ob_set (ob_set (ob_set (ob_set (ob_set (ob_set (ob_set m 24 0 v q.1) 20 0 q.1 (bq s v)) 21 0 q.1 (hq s v)) 22 0 q.1 x) 23 0 q.1 0) 19 0 q.1 0) 1 0 0 (q.1 + 1) = m1
      have f24 : m1 24 0 v = q.1 := by
        rw [← hM]
        simp (disch := omega) only [rs_k, rs_i, rs_s, rs_e, up_e, up_n]
      have f34 : m1 34 (3 * j + v / 12) (v % 12) = wq s v := by
        rw [← hM]
        simp (disch := omega) only [rs_k, rs_i, rs_s, rs_e, up_e, up_n]
        exact ew
      have sG : sm gG m m1 := by
        rw [← hM]
        exact sm_set (sm_set (sm_set (sm_set (sm_set (sm_set (sm_set sm_r (Or.inr (by omega))) (Or.inr (by omega))) (Or.inr (by omega))) (Or.inr (by omega))) (Or.inr (by omega))) (Or.inr (by omega))) (Or.inl rfl)
      have rN : rB m1 s (bnew s a x v q) := by
        refine ⟨?_, fun b c1 c2 => ?_, fun u hu hz => ?_⟩
        · rw [← hM]
          simp (disch := omega) only [rs_k, rs_i, rs_s, rs_e, up_e, up_n]
          rfl
        · have c2 : b < q.1 + 1 := c2
          show m1 20 0 b = up q.2.1 q.1 a b ∧ m1 21 0 b = up q.2.2.1 q.1 (hq s v) b ∧ m1 22 0 b = up q.2.2.2.1 q.1 x b ∧ m1 23 0 b = up q.2.2.2.2.1 q.1 0 b ∧ m1 19 0 b = up q.2.2.2.2.2.1 q.1 0 b
          rw [← hM]
          by_cases e : b = q.1
          · simp (disch := omega) only [rs_k, rs_i, rs_s, rs_e, up_e, up_n]
            exact ⟨p3, trivial, trivial, trivial, trivial⟩
          · simp (disch := omega) only [rs_k, rs_i, rs_s, rs_e, up_e, up_n]
            exact q2 b c1 (by omega)
        · have hz : 0 ≤ q.2.2.2.2.2.2 u := hz
          show m1 24 0 u = q.2.2.2.2.2.2 u
          have uv : u ≠ v := fun z => by
            subst z
            have := (S2 u p1).mp hz
            omega
          rw [← hM]
          simp (disch := omega) only [rs_k, rs_i, rs_s, rs_e, up_e, up_n]
          exact q3 u hu hz
      rw [sg_X1_join_144]
      simp (disch := first | omega | assumption) only [↓if_pos, ↓if_neg, Option.bind_some, ob_wr_id, rs_k, rs_i, rs_s, rs_e, f24, f34]
      refine wp_ret ⟨rB_add rN ?_ (by omega) ?_ ?_ rfl, sm_set (sm_set sG (Or.inr (by omega))) (Or.inr (by omega))⟩
      · show 1 ≤ q.1 + 1 ∧ q.1 + 1 ≤ 36
        omega
      · show _ = q.1 + 1 - 1
        rw [f24]
        omega
      · have e1 : (bnew s a x v q).1 - 1 = q.1 := by
          show q.1 + 1 - 1 = q.1
          omega
        rw [e1]
    rw [sg_X1_join_0, t1, t2]
    by_cases c : w = -1
    · simp (disch := first | omega | assumption) only [↓if_pos, ↓if_neg, Option.bind_some, ob_wr_id]
      exact new (fun z => z.1 c)
    · rcases pat_i s (x - 1) a with ⟨w1, w2, w3⟩ | ⟨w1, -⟩
      · rw [hb] at w1 w2 w3
        have hw36 := w1.1
        have uw : 0 ≤ q.2.2.2.2.2.2 w := (S2 w w1).mpr (Or.inr ⟨w3, by omega⟩)
        have e24 := q3 w w1 uw
        have e4 := S4 c
        have hh : q.2.2.1 (q.2.2.2.2.2.2 w) = hq s w := by
          rcases S3 w with z | ⟨-, -, -, z⟩
          · omega
          · exact z
        obtain ⟨g1, g2, g3, g4, g5⟩ := q2 (q.1 - 1) (by omega) (by omega)
        rw [e4] at hh e24
        rw [hh] at g2
        by_cases c2 : hq s w = hq s v
        · rw [if_pos (show w ≠ -1 ∧ hq s w = hq s v from ⟨c, c2⟩)]
          simp (disch := first | omega | assumption) only [↓if_pos, ↓if_neg, Option.bind_some, ob_wr_id, e24, g2, eh]
          rw [sg_X1_join_144]
          simp (disch := first | omega | assumption) only [↓if_pos, ↓if_neg, Option.bind_some, ob_wr_id, rs_k, rs_i, rs_s, rs_e, ew]
          refine wp_ret ⟨rB_add (m := ob_set m 24 0 v (q.1 - 1)) ?_ (by omega) (by omega) (rs_e rfl rfl) ?_ rfl, sm_set (sm_set (sm_set sm_r (Or.inr (by omega))) (Or.inr (by omega))) (Or.inr (by omega))⟩
          · refine ⟨by simp (disch := omega) only [rs_k, rs_i, rs_s, rs_e, up_e, up_n]; exact q1, fun b c1 c2 => ?_, fun u hu hz => ?_⟩
            · simp (disch := omega) only [rs_k, rs_i, rs_s, rs_e, up_e, up_n]
              exact q2 b c1 c2
            · have uv : u ≠ v := fun z => by
                subst z
                have := (S2 u p1).mp hz
                omega
              simp (disch := omega) only [rs_k, rs_i, rs_s, rs_e, up_e, up_n]
              exact q3 u hu hz
          · simp (disch := omega) only [rs_k, rs_i, rs_s, rs_e, up_e, up_n]
        · rw [if_neg (show ¬ (w ≠ -1 ∧ hq s w = hq s v) from fun z => c2 z.2)]
          simp (disch := first | omega | assumption) only [↓if_pos, ↓if_neg, Option.bind_some, ob_wr_id, e24, g2, eh]
          exact new (fun z => c2 z.2)
      · rw [hb] at w1
        exact absurd w1 c
  · exact absurd p1 hp
theorem cl_find {W : Int} {m : ob_Mem} {j : Int} {s : Int → Int} (hV : VV W s) (h : Rep m j s) : wp (ob_E (25, 0, [(4, 0), (3, j), (0, 0), (0, 0), (0, 0), (0, 0)], [], (m, none))) (fun _ m' => rB m' s (br s) ∧ sm (fun k _ => k = 1 ∨ (19 ≤ k ∧ k ≤ 25)) m m') := by
  obtain ⟨⟨v1, v2, v3, -⟩, v8⟩ := id hV
  have mb := ob_mulb (show 0 ≤ s 2 by omega) v3.2 (show 0 ≤ s 1 by omega) v2.2
  have hR : ∀ m', sm (fun k _ => k = 1 ∨ (19 ≤ k ∧ k ≤ 25)) m m' → Rep m' j s := fun m' q => Rep_sm hV h (fun k i p z => q k i p (fun y => by
    rcases z with ⟨z1, z2⟩ | ⟨z1, z2⟩ | ⟨z1, z2⟩ <;> omega))
  have s0 : sm (fun k _ => k = 1 ∨ (19 ≤ k ∧ k ≤ 25)) m (ob_set m 1 0 0 0) := sm_set sm_r (Or.inl rfl)
  rw [sg_X1_find_0]
  refine wp_b (cl_placePins hV (hR _ s0)) (fun _ m1 h1 => ?_)
  obtain ⟨p1, p2⟩ := h1
  have s1 : sm (fun k _ => k = 1 ∨ (19 ≤ k ∧ k ≤ 25)) m m1 := sm_t s0 (sm_m p2 (fun k i z => by have := z.1; omega))
  have e1 : m1 1 0 0 = 0 := by
    rw [p2 1 0 0 (fun z => by have := z.1; omega)]
    exact rs_e rfl rfl
  rw [sg_X1_find_10]
  refine wp_for (fun a (x : ob_AV × ob_AV × ob_AV × ob_Mem) => ob_E (25, 12, [(4, 0), (3, j), (1, a), x.1, x.2.1, x.2.2.1], [], (x.2.2.2, none))) 0 (s 0) (fun a x => rB x.2.2.2 s (bA s a) ∧ sm gG m1 x.2.2.2) ?_ ?_ (by omega) (x := ((0, 0), (0, 0), (0, 0), m1)) ⟨⟨e1, fun b c d => by have d : b < 0 := d; omega, fun v _ z => by have z : (0 : Int) ≤ -1 := z; omega⟩, sm_r⟩
  · intro a ⟨x1, x2, x3, m2⟩ h1 h2 ⟨i1, i2⟩ hk
    have i1 : rB m2 s (bA s a) := i1
    have i2 : sm gG m1 m2 := i2
    have g2 : sm (fun k _ => k = 1 ∨ (19 ≤ k ∧ k ≤ 25)) m m2 := sm_t s1 (sm_m i2 (fun k i z => by rcases z with z | z <;> omega))
    have eR := rpR (hR m2 g2)
    have pm : pat s (0 - 1) a = -1 := pat_n (fun v hv q => by have := Pin_b hV hv; omega)
    show wp (ob_E (25, 12, [(4, 0), (3, j), (1, a), x1, x2, x3], [], (m2, none))) _
    rw [sg_X1_find_12, eR, if_pos h2]
    have start : ob_E (25, 25, [(4, 0), (3, j), (1, a), (1, -1), (1, 0), x3], [], (m2, none)) = ob_E (25, 25, [(4, 0), (3, j), (1, a), (1, pat s (0 - 1) a), (1, 0), x3], [], (m2, none)) := by rw [pm]
    rw [start]
    refine wp_for (fun x (y : ob_AV × ob_Mem) => ob_E (25, 25, [(4, 0), (3, j), (1, a), (1, pat s (x - 1) a), (1, x), y.1], [], (y.2, none))) 0 (s 2 * s 1) (fun x y => rB y.2 s (bX s a x) ∧ sm gG m1 y.2) ?_ ?_ mb.1 (x := (x3, m2)) ⟨i1, i2⟩
    · intro x ⟨y1, m3⟩ k1 k2 ⟨j1, j2⟩ hk2
      have j1 : rB m3 s (bX s a x) := j1
      have j2 : sm gG m1 m3 := j2
      have g3 : sm (fun k _ => k = 1 ∨ (19 ≤ k ∧ k ≤ 25)) m m3 := sm_t s1 (sm_m j2 (fun k i z => by rcases z with z | z <;> omega))
      have R3 := hR m3 g3
      have eT := rpT R3
      have eK := rpK R3
      have e25 : m3 25 0 (x * 24 + a) = pat s x a := by
        rw [j2 25 0 _ (fun z => by rcases z with z | z <;> omega)]
        exact p1 x a k1 (by omega) h1 (by omega)
      have S := SI_all hV h1 k1 (s := s) (a := a) (x := x)
      have hk2' : ∀ z m4, rB m4 s (bX s a (x + 1)) → sm gG m1 m4 → wp (ob_E (25, 25, [(4, 0), (3, j), (1, a), (1, pat s x a), (1, x + 1), z], [], (m4, none))) (fun _ m' => rB m' s (br s) ∧ sm (fun k _ => k = 1 ∨ (19 ≤ k ∧ k ≤ 25)) m m') := fun z m4 a1 a2 => by
        have := hk2 (z, m4) ⟨a1, a2⟩
        rw [show x + 1 - 1 = x by omega] at this
        exact this
      show wp (ob_E (25, 25, [(4, 0), (3, j), (1, a), (1, pat s (x - 1) a), (1, x), y1], [], (m3, none))) _
      rw [sg_X1_find_25, cl_tracks m3 (by omega) (by omega), eT, eK]
      simp (disch := first | omega | assumption) only [↓if_pos, ↓if_neg, Option.bind_some, ob_wr_id, sg_X1_find_31, e25]
      by_cases c : pat s x a = -1
      · rw [if_pos c, sg_X1_find_64, ob_wr_id (by omega) (by omega)]
        refine hk2' _ _ ?_ j2
        rw [bX_s k1, show bstep s a x (bX s a x) = bX s a x from if_pos c]
        exact j1
      · rw [if_neg c]
        refine wp_b (cl_join hV R3 j1 S c) (fun _ m4 h4 => ?_)
        rw [sg_X1_find_64, ob_wr_id (by omega) (by omega)]
        refine hk2' _ _ ?_ (sm_t j2 h4.2)
        rw [bX_s k1]
        exact h4.1
    · intro ⟨y1, m3⟩ ⟨j1, j2⟩
      have j1 : rB m3 s (bX s a (s 2 * s 1)) := j1
      have j2 : sm gG m1 m3 := j2
      have g3 : sm (fun k _ => k = 1 ∨ (19 ≤ k ∧ k ≤ 25)) m m3 := sm_t s1 (sm_m j2 (fun k i z => by rcases z with z | z <;> omega))
      have R3 := hR m3 g3
      have eT := rpT R3
      have eK := rpK R3
      show wp (ob_E (25, 25, [(4, 0), (3, j), (1, a), (1, pat s (s 2 * s 1 - 1) a), (1, s 2 * s 1), y1], [], (m3, none))) _
      rw [sg_X1_find_25, cl_tracks m3 (by omega) (by omega), eT, eK]
      simp (disch := first | omega | assumption) only [↓if_pos, ↓if_neg, Option.bind_some, ob_wr_id, sg_X1_find_31]
      refine hk (_, _, _, m3) ⟨?_, j2⟩
      rw [bA_s h1]
      exact j1
  · intro ⟨x1, x2, x3, m2⟩ ⟨i1, i2⟩
    have i1 : rB m2 s (bA s (s 0)) := i1
    have i2 : sm gG m1 m2 := i2
    have g2 : sm (fun k _ => k = 1 ∨ (19 ≤ k ∧ k ≤ 25)) m m2 := sm_t s1 (sm_m i2 (fun k i z => by rcases z with z | z <;> omega))
    have eR := rpR (hR m2 g2)
    show wp (ob_E (25, 12, [(4, 0), (3, j), (1, s 0), x1, x2, x3], [], (m2, none))) _
    rw [sg_X1_find_12, eR, if_neg (by omega)]
    exact wp_ret ⟨i1, g2⟩
