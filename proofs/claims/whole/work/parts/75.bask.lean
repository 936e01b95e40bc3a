-- BRIDGES ASKED: bridge, pin
def lst (s : Int → Int) (q : BS) (b : Int) : Int := min (ob_wr (Int.tdiv (q.2.2.2.2.2.1 b) (s 5))) (q.2.2.1 b)
def brV (s : Int → Int) (q : BS) (b w : Int) : Int := if w = 0 then q.2.1 b else if w = 1 then q.2.2.1 b else if w = 2 then q.2.2.2.1 b else if w = 3 then q.2.2.2.2.1 b else if w = 4 then q.2.2.2.2.2.1 b else lst s q b
theorem cl_lost {m : ob_Mem} {s : Int → Int} {q : BS} {b : Int} (h : rB m s q) (hL : 1 ≤ s 5) (hb : 0 ≤ b ∧ b < q.1) (hq : q.1 ≤ 36) : ob_E (32, 0, [(4, 0), (1, b), (1, s 5)], [], (m, none)) = some (lst s q b, (m, none)) := by
  obtain ⟨-, g2, -, -, g5⟩ := h.2.1 b hb.1 hb.2
  unfold lst
  rw [sg_X1_lostAtEnd_0, if_neg (by omega), if_pos (by omega), if_pos (by omega), if_pos (by omega), g2, g5]
theorem cl_bvalue {m : ob_Mem} {s : Int → Int} {q : BS} {b w : Int} (h : rB m s q) (hL : 1 ≤ s 5) (hb : 0 ≤ b ∧ b < q.1) (hq : q.1 ≤ 36) (hw : 0 ≤ w ∧ w ≤ 5) : ob_E (33, 0, [(4, 0), (1, b), (1, w), (1, s 5)], [], (m, none)) = some (brV s q b w, (m, none)) := by
  obtain ⟨g1, g2, g3, g4, g5⟩ := h.2.1 b hb.1 hb.2
  unfold brV
  rw [sg_X1_value_0]
  by_cases w0 : w = 0
  · simp (disch := first | omega | assumption) only [↓if_pos, ↓if_neg, Option.bind_some, ob_wr_id, g1]
  · by_cases w1 : w = 1
    · simp (disch := first | omega | assumption) only [↓if_pos, ↓if_neg, Option.bind_some, ob_wr_id, g2]
    · by_cases w2 : w = 2
      · simp (disch := first | omega | assumption) only [↓if_pos, ↓if_neg, Option.bind_some, ob_wr_id, g3]
      · by_cases w3 : w = 3
        · simp (disch := first | omega | assumption) only [↓if_pos, ↓if_neg, Option.bind_some, ob_wr_id, g4]
        · by_cases w4 : w = 4
          · simp (disch := first | omega | assumption) only [↓if_pos, ↓if_neg, Option.bind_some, ob_wr_id, g5]
          · simp (disch := first | omega | assumption) only [↓if_pos, ↓if_neg, Option.bind_some, ob_wr_id, cl_lost h hL hb hq, sg_X1_value_77]
theorem md_dumb {m : ob_Mem} {s : Int → Int} {q : BS} {b : Int} (hs : m 40 0 = s) (h : rM m s q) (hL : 1 ≤ s 5) (hb : 0 ≤ b ∧ b < q.1) (hq : q.1 ≤ 36) : ob_E (204, 0, [(11, 0), (1, b), (0, 0)], [], (m, none)) = some (lst s q b, (m, none)) := by
  obtain ⟨-, g2, -, -, g5⟩ := h.2.1 b hb.1 hb.2
  have e5 : m 40 0 5 = s 5 := by rw [hs]
  unfold lst
  rw [sg_X8_dumb_0, if_pos (by omega), if_pos (by omega), e5, if_pos (by omega), if_pos (by omega), g2, g5]
  by_cases c : ob_wr (Int.tdiv (q.2.2.2.2.2.1 b) (s 5)) < q.2.2.1 b
  · rw [if_pos c, Int.min_eq_left (by omega)]
  · rw [if_neg c, if_pos (by omega), Int.min_eq_right (by omega)]
theorem md_bridgeNow {m : ob_Mem} {s : Int → Int} {q : BS} {b w : Int} (hs : m 40 0 = s) (h : rM m s q) (hL : 1 ≤ s 5) (hb : 0 ≤ b ∧ b < q.1) (hq : q.1 ≤ 36) (hw : 0 ≤ w ∧ w ≤ 5) : ob_E (214, 0, [(11, 0), (1, b), (1, w)], [], (m, none)) = some (brV s q b w, (m, none)) := by
  obtain ⟨g1, g2, g3, g4, g5⟩ := h.2.1 b hb.1 hb.2
  unfold brV
  rw [sg_X8_bridgeNow_0]
  by_cases w0 : w = 0
  · simp (disch := first | omega | assumption) only [↓if_pos, ↓if_neg, Option.bind_some, ob_wr_id, g1]
  · by_cases w1 : w = 1
    · simp (disch := first | omega | assumption) only [↓if_pos, ↓if_neg, Option.bind_some, ob_wr_id, g2]
    · by_cases w2 : w = 2
      · simp (disch := first | omega | assumption) only [↓if_pos, ↓if_neg, Option.bind_some, ob_wr_id, g3]
      · by_cases w3 : w = 3
        · simp (disch := first | omega | assumption) only [↓if_pos, ↓if_neg, Option.bind_some, ob_wr_id, g4]
        · by_cases w4 : w = 4
          · simp (disch := first | omega | assumption) only [↓if_pos, ↓if_neg, Option.bind_some, ob_wr_id, g5]
          · simp (disch := first | omega | assumption) only [↓if_pos, ↓if_neg, Option.bind_some, ob_wr_id, md_dumb hs h hL hb hq, sg_X8_bridgeNow_76]
/-- a question of the bridges, both sides -/
theorem J_br {W : Int} {m : ob_Mem} (h : Inv W m) {V : Int} {cx mx : ob_Mem → ob_Res} (hc : wp (cx m) (fun v m' => v = V ∧ sm (fun k _ => k = 1 ∨ (19 ≤ k ∧ k ≤ 25)) m m')) (hx : ∀ m1, m1 40 0 = m 40 0 → (∀ k i x, 40 ≤ k ∨ k = 8 → m1 k i x = m k i x) → wp (mx m1) (fun v m' => v = V ∧ fq m1 m')) : Agr W W m cx mx := by
  obtain ⟨v, m1, e1, rfl, s1⟩ := hc
  have e40 : m1 40 0 = m 40 0 := by
    funext p
    exact s1 40 0 p (by omega)
  obtain ⟨v', m2, e2, rfl, q2⟩ := hx m1 e40 (fun k i x hk => s1 k i x (by omega))
  obtain ⟨j1, j2⟩ := J_ask h (sm_m s1 (fun k i z => Or.inr z)) q2
  exact ⟨v', m1, m2, e1, e2, j1, fun k i x hk => ⟨s1 k i x (by omega), j2 k i x hk⟩⟩
theorem sb7 {m m1 : ob_Mem} (h : sm (fun k _ => k = 1 ∨ (19 ≤ k ∧ k ≤ 25)) m m1) {k : Nat} {i x : Int} (hk : ¬ (k = 1 ∨ (19 ≤ k ∧ k ≤ 25))) : m1 k i x = m k i x := h k i x hk
theorem Rep_br {W : Int} {m m' : ob_Mem} {j : Int} {s : Int → Int} (hV : VV W s) (h : Rep m j s) (hs : sm (fun k _ => k = 1 ∨ (19 ≤ k ∧ k ≤ 25)) m m') : Rep m' j s := Rep_sm hV h (fun k i p z => hs k i p (fun y => by
    rcases z with ⟨z1, z2⟩ | ⟨z1, z2⟩ | ⟨z1, z2⟩ <;> omega))
theorem ag_bridge {W : Int} {m : ob_Mem} {i w : Int} (h : Inv W m) : Agr W W m (fun m => ob_E (100, 0, [(10, 0), (1, i), (1, w)], [], (m, none))) (fun m => ob_E (215, 0, [(11, 0), (1, i), (1, w)], [], (m, none))) := by
  obtain ⟨hV, hn⟩ := Inv_V h
  have hR := h.1.2.2.1.2
  have hL := hV.1.2.2.2.2.2.1
  obtain ⟨b1, b2⟩ := SI_br hV
  by_cases c : 0 ≤ i ∧ 0 ≤ w ∧ w ≤ 5
  · refine J_br (V := if i < (br (m 40 0)).1 then brV (m 40 0) (br (m 40 0)) i w else -1) h ?_ (fun m1 e40 e1 => ?_)
    · show wp (ob_E (100, 0, [(10, 0), (1, i), (1, w)], [], (m, none))) _
      simp (disch := first | omega | assumption) only [↓if_pos, ↓if_neg, Option.bind_some, ob_wr_id, sg_X7_bridge_0, cl_within, sg_X7_bridge_10]
      refine wp_b (cl_find hV hR) (fun _ m1 h1 => ?_)
      obtain ⟨r1, r2⟩ := h1
      have e7 : m1 7 0 0 = m 7 0 0 := sb7 r2 (by omega)
      have eL := rpL (Rep_br hV hR r2)
      rw [sg_X7_bridge_31, r1.1, e7, eL]
      by_cases c2 : i < (br (m 40 0)).1
      · rw [if_pos c2, if_pos c2, cl_bvalue r1 hL.1 ⟨c.1, c2⟩ b1.2 c.2]
        simp (disch := first | omega | assumption) only [↓if_pos, ↓if_neg, Option.bind_some, ob_wr_id, sg_X7_bridge_60]
        exact wp_ret ⟨rfl, r2⟩
      · rw [if_neg c2, if_neg c2]
        exact wp_ret ⟨rfl, r2⟩
    · show wp (ob_E (215, 0, [(11, 0), (1, i), (1, w)], [], (m1, none))) _
      rw [← e40] at hV hL b1 ⊢
      simp (disch := first | omega | assumption) only [↓if_pos, ↓if_neg, Option.bind_some, ob_wr_id, sg_X8_bridge_0, md_in, sg_X8_bridge_13]
      refine wp_b (md_laysBridges m1 hV) (fun _ m2 h2 => ?_)
      obtain ⟨r1, r2, r3⟩ := h2
      rw [sg_X8_bridge_27, r2.1]
      by_cases c2 : i < (br (m1 40 0)).1
      · rw [if_pos c2, if_pos c2, md_bridgeNow (fs_row r3) r2 hL.1 ⟨c.1, c2⟩ b1.2 c.2]
        simp (disch := first | omega | assumption) only [↓if_pos, ↓if_neg, Option.bind_some, ob_wr_id, sg_X8_bridge_41]
        exact wp_ret ⟨rfl, fs_fq r3⟩
      · rw [if_neg c2, if_neg c2]
        exact wp_ret ⟨rfl, fs_fq r3⟩
  · refine J_badA (v := -2) (w := -2) h (by omega) ?_ (fun m1 e er => ?_)
    · show ob_E (100, 0, [(10, 0), (1, i), (1, w)], [], (m, none)) = _
      by_cases c1 : i < 0
      · simp (disch := first | omega | assumption) only [↓if_pos, ↓if_neg, Option.bind_some, ob_wr_id, sg_X7_bridge_0, sg_X7_bridge_13, sg_X7_bridge_19, sg_X7_bridge_31, sg_X7_bridge_60, cl_within, cl_refused]
      · simp (disch := first | omega | assumption) only [↓if_pos, ↓if_neg, Option.bind_some, ob_wr_id, sg_X7_bridge_0, sg_X7_bridge_10, sg_X7_bridge_13, sg_X7_bridge_19, sg_X7_bridge_31, sg_X7_bridge_60, cl_within, cl_refused]
    · show ob_E (215, 0, [(11, 0), (1, i), (1, w)], [], (m1, none)) = _
      by_cases c1 : i < 0
      · simp (disch := first | omega | assumption) only [↓if_pos, ↓if_neg, Option.bind_some, ob_wr_id, sg_X8_bridge_0, sg_X8_bridge_16, sg_X8_bridge_22, sg_X8_bridge_27, sg_X8_bridge_41, md_in, md_refuses]
      · simp (disch := first | omega | assumption) only [↓if_pos, ↓if_neg, Option.bind_some, ob_wr_id, sg_X8_bridge_0, sg_X8_bridge_13, sg_X8_bridge_16, sg_X8_bridge_22, sg_X8_bridge_27, sg_X8_bridge_41, md_in, md_refuses]
/-- the least of R and of what P's have -/
def MO (R : Int) (P : Int → Prop) (d : Int → Int) (v : Int) : Prop := v ≤ R ∧ (∀ j, P j → v ≤ d j) ∧ (v = R ∨ ∃ j, P j ∧ v = d j)
theorem MO_u {R : Int} {P : Int → Prop} {d : Int → Int} {v w : Int} (h : MO R P d v) (h' : MO R P d w) : v = w := by
  obtain ⟨a1, a2, a3⟩ := h
  obtain ⟨b1, b2, b3⟩ := h'
  rcases a3 with a3 | ⟨j, p, a3⟩
  · rcases b3 with b3 | ⟨j', p', b3⟩
    · omega
    · have := a2 j' p'
      omega
  · rcases b3 with b3 | ⟨j', p', b3⟩
    · have := b2 j p
      omega
    · have := a2 j' p'
      have := b2 j p
      omega
theorem frb_MO {R i : Int} {key bf : Int → Int} : ∀ n : Nat, MO R (fun j => (0 ≤ j ∧ j < (n : Int)) ∧ j ≠ i ∧ key j = key i) (fun j => dist R (bf i) (bf j)) (frb R key bf i n)
  | 0 => ⟨Int.le_refl _, fun j h => by omega, Or.inl rfl⟩
  | n + 1 => by
    obtain ⟨h1, h2, h3⟩ := frb_MO (R := R) (i := i) (key := key) (bf := bf) n
    show MO R _ _ (if (n : Int) ≠ i ∧ key n = key i then min (frb R key bf i n) (dist R (bf i) (bf n)) else frb R key bf i n)
    by_cases c : (n : Int) ≠ i ∧ key n = key i
    · rw [if_pos c]
      refine ⟨by omega, fun j h => ?_, ?_⟩
      · show _ ≤ dist R (bf i) (bf j)
        by_cases e : j = (n : Int)
        · rw [e]
          omega
        · have : frb R key bf i n ≤ dist R (bf i) (bf j) := h2 j ⟨by omega, h.2⟩
          omega
      · by_cases q : frb R key bf i n ≤ dist R (bf i) (bf n)
        · rw [Int.min_eq_left q]
          rcases h3 with h3 | ⟨j, p, h3⟩
          · exact Or.inl h3
          · exact Or.inr ⟨j, ⟨by omega, p.2⟩, h3⟩
        · rw [Int.min_eq_right (by omega)]
          exact Or.inr ⟨n, ⟨by omega, c⟩, rfl⟩
    · rw [if_neg c]
      refine ⟨h1, fun j h => ?_, ?_⟩
      · by_cases e : j = (n : Int)
        · rw [e] at h
          exact absurd h.2 c
        · exact h2 j ⟨by omega, h.2⟩
      · rcases h3 with h3 | ⟨j, p, h3⟩
        · exact Or.inl h3
        · exact Or.inr ⟨j, ⟨by omega, p.2⟩, h3⟩
/-- the free angles behind a pin that lies -/
noncomputable def fpV (s : Int → Int) (v : Int) : Int := frb (s 0) (fun j => s (12 + 116 * (v / 12) + (44 + 4 * j + 0))) (fun j => s (12 + 116 * (v / 12) + (44 + 4 * j + 1))) (v % 12) (s (12 + 116 * (v / 12) + 43)).toNat - hq s v
theorem fp_MO {W : Int} {s : Int → Int} {v x : Int} (hV : VV W s) (h : Pin s v) (hM : MO (s 0) (fun w => Pin s w ∧ w ≠ v ∧ tr s w = tr s v) (fun w => dist (s 0) (bq s v) (bq s w)) x) : fpV s v = x - hq s v := by
  obtain ⟨⟨v1, v2, v3, -⟩, v8⟩ := id hV
  have q := frb_MO (R := s 0) (i := v % 12) (key := fun j => s (12 + 116 * (v / 12) + (44 + 4 * j + 0))) (bf := fun j => s (12 + 116 * (v / 12) + (44 + 4 * j + 1))) (s (12 + 116 * (v / 12) + 43)).toNat
  unfold fpV
  have h36 := h.1
  have hT := h.2.1
  have hp12 := ((v8 (v / 12) (by omega) (by omega)).2.2.2 h.2.2.1).2.2.2.1
  have e : frb (s 0) (fun j => s (12 + 116 * (v / 12) + (44 + 4 * j + 0))) (fun j => s (12 + 116 * (v / 12) + (44 + 4 * j + 1))) (v % 12) (s (12 + 116 * (v / 12) + 43)).toNat = x := by
    obtain ⟨q1, q2, q3⟩ := q
    refine MO_u (R := s 0) (P := fun w => Pin s w ∧ w ≠ v ∧ tr s w = tr s v) (d := fun w => dist (s 0) (bq s v) (bq s w)) ⟨q1, fun w hw => ?_, ?_⟩ hM
    · obtain ⟨w1, w2, w3⟩ := hw
      have d1 := div_T (k := kq s v) v3 (t := v / 12) (by omega)
      have hwT := w1.2.1
      have hw36 := w1.1
      have d2 := div_T (k := kq s w) v3 (t := w / 12) (by omega)
      have et : w / 12 = v / 12 := by
        have z : s 2 * kq s w + w / 12 = s 2 * kq s v + v / 12 := w3
        rw [z] at d2
        omega
      have ek : kq s w = kq s v := by
        have z : s 2 * kq s w + w / 12 = s 2 * kq s v + v / 12 := w3
        rw [z] at d2
        omega
      have hwn := w1.2.2.2
      rw [et] at hwn
      have := q2 (w % 12) ⟨⟨by omega, by omega⟩, by omega, by
        unfold kq at ek
        rw [et] at ek
        exact ek⟩
      show _ ≤ dist (s 0) (bq s v) (bq s w)
      unfold bq
      rw [et]
      exact this
    · rcases q3 with q3 | ⟨j, p, q3⟩
      · exact Or.inl q3
      · have hj : j < s (12 + 116 * (v / 12) + 43) := by omega
        obtain ⟨r1, r2, r3, r4, r5⟩ := rd_b (s := s) (t := v / 12) (i := j) (by omega)
        refine Or.inr ⟨12 * (v / 12) + j, ⟨⟨by omega, by omega, ?_, ?_⟩, by omega, ?_⟩, ?_⟩
        · rw [show (12 * (v / 12) + j) / 12 = v / 12 by omega]
          exact h.2.2.1
        · rw [show (12 * (v / 12) + j) / 12 = v / 12 by omega, show (12 * (v / 12) + j) % 12 = j by omega]
          exact hj
        · have z : s (12 + 116 * (v / 12) + (44 + 4 * j + 0)) = kq s v := p.2.2
          rw [r5, z]
          rfl
        · show _ = dist (s 0) (bq s v) (bq s (12 * (v / 12) + j))
          rw [r1]
          exact q3
  rw [e]
theorem md_indexOf {W : Int} {m : ob_Mem} {s : Int → Int} {t i : Int} (hV : VV W s) (h : rP m s (Nn s)) (ht : 0 ≤ t ∧ t < 3) (hi : 0 ≤ i ∧ i < cn s t) : ob_E (205, 0, [(11, 0), (1, t), (1, i), (0, 0), (0, 0)], [], (m, none)) = some (offs s t + i, (m, none)) := by
  obtain ⟨c0, c1, c2, -⟩ := cns hV
  have hN : 0 ≤ Nn s ∧ Nn s ≤ 36 := by
    unfold Nn
    omega
  have cb := cn_b hV ht
  obtain ⟨o1, o2, o3, -⟩ := cp_o hV ht hi
  have h14 := h.1
  rw [sg_X8_indexOf_0]
  refine wp_eq (wp_for (fun p (y : Int) => ob_E (205, 5, [(11, 0), (1, t), (1, i), (1, y), (1, p)], [], (m, none))) 0 (Nn s) (fun p y => (y = -1 ∧ p ≤ offs s t + i) ∨ (y = offs s t + i ∧ offs s t + i < p)) ?_ ?_ hN.1 (x := -1) (Or.inl ⟨rfl, by omega⟩))
  · intro p y h1 h2 hI hk
    obtain ⟨q1, q2, q3⟩ := h.2 p h1 h2
    have hP := (cp_P hV ⟨h1, h2⟩).1
    rw [sg_X8_indexOf_5, h14, if_pos h2, if_pos (by omega), q1, q2]
    by_cases e : p = offs s t + i
    · rw [e, o1, show (12 * t + i) / 12 = t by omega, show (12 * t + i) % 12 = i by omega]
      simp (disch := first | omega | assumption) only [↓if_pos, ↓if_neg, Option.bind_some, ob_wr_id, sg_X8_indexOf_42]
      rw [e] at hk
      exact hk _ (Or.inr ⟨rfl, by omega⟩)
    · have ne : ¬ (cp s p / 12 = t ∧ cp s p % 12 = i) := fun z => e (cp_i hV ⟨h1, h2⟩ ⟨by omega, o3⟩ (by rw [o1]; omega))
      have go := hk y (by
        rcases hI with ⟨z1, z2⟩ | ⟨z1, z2⟩
        · exact Or.inl ⟨z1, by omega⟩
        · exact Or.inr ⟨z1, by omega⟩)
      by_cases k1 : cp s p / 12 = t
      · rw [if_pos k1, if_pos (by omega), if_neg (fun z => ne ⟨k1, z⟩)]
        simp (disch := first | omega | assumption) only [↓if_pos, ↓if_neg, Option.bind_some, ob_wr_id, sg_X8_indexOf_41, sg_X8_indexOf_42]
        exact go
      · rw [if_neg k1]
        simp (disch := first | omega | assumption) only [↓if_pos, ↓if_neg, Option.bind_some, ob_wr_id, sg_X8_indexOf_41, sg_X8_indexOf_42]
        exact go
  · intro y hI
    rw [sg_X8_indexOf_5, h14, if_neg (by omega)]
    refine wp_ret ⟨?_, rfl⟩
    rcases hI with ⟨z1, z2⟩ | ⟨z1, z2⟩
    · omega
    · exact z1
theorem md_freeNow {W : Int} {m : ob_Mem} {s : Int → Int} {p : Int} (hs : m 40 0 = s) (hV : VV W s) (h : rP m s (Nn s)) (hp : 0 ≤ p ∧ p < Nn s) : ob_E (206, 0, [(11, 0), (1, p), (0, 0), (0, 0), (0, 0)], [], (m, none)) = some (fpV s (cp s p), (m, none)) := by
  obtain ⟨c0, c1, c2, -⟩ := cns hV
  have hN : 0 ≤ Nn s ∧ Nn s ≤ 36 := by
    unfold Nn
    omega
  have hR := hV.1.1
  have hP := cp_P hV hp
  have pb := Pin_b hV hP
  obtain ⟨q1, q2, q3⟩ := h.2 p hp.1 hp.2
  have h14 := h.1
  have er0 : m 40 0 0 = s 0 := by rw [hs]
  have eb : ob_E (198, 0, [(11, 0), (1, p), (1, 1)], [], (m, none)) = some (bq s (cp s p), (m, none)) := md_pinAt hs hV h hp (by omega)
  have eh : ob_E (198, 0, [(11, 0), (1, p), (1, 2)], [], (m, none)) = some (hq s (cp s p), (m, none)) := md_pinAt hs hV h hp (by omega)
  rw [sg_X8_freeNow_0]
  simp (disch := first | omega | assumption) only [↓if_pos, ↓if_neg, Option.bind_some, ob_wr_id, md_round, sg_X8_freeNow_4, er0]
  refine wp_eq (wp_for (fun y (x : Int × ob_AV) => ob_E (206, 7, [(11, 0), (1, p), (1, x.1), (1, y), x.2], [], (m, none))) 0 (Nn s) (fun y x => 0 ≤ x.1 ∧ MO (s 0) (fun w => (∃ p', (0 ≤ p' ∧ p' < y) ∧ p' ≠ p ∧ w = cp s p') ∧ tr s w = tr s (cp s p)) (fun w => dist (s 0) (bq s (cp s p)) (bq s w)) x.1) ?_ ?_ hN.1 (x := (s 0, (0, 0))) ⟨show 0 ≤ s 0 by omega, Int.le_refl _, fun j z => by
    obtain ⟨⟨p', z1, -⟩, -⟩ := z
    omega, Or.inl rfl⟩)
  · intro y ⟨x, x4⟩ h1 h2 ⟨hI0, hI⟩ hk
    have hI0 : 0 ≤ x := hI0
    have hI : MO (s 0) (fun w => (∃ p', (0 ≤ p' ∧ p' < y) ∧ p' ≠ p ∧ w = cp s p') ∧ tr s w = tr s (cp s p)) (fun w => dist (s 0) (bq s (cp s p)) (bq s w)) x := hI
    have hPy := cp_P hV ⟨h1, h2⟩
    have py := Pin_b hV hPy
    obtain ⟨y1, y2, y3⟩ := h.2 y h1 h2
    have d := dist_b pb.2.1 py.2.1
    have same : (y = p ∨ tr s (cp s y) ≠ tr s (cp s p)) → MO (s 0) (fun w => (∃ p', (0 ≤ p' ∧ p' < y + 1) ∧ p' ≠ p ∧ w = cp s p') ∧ tr s w = tr s (cp s p)) (fun w => dist (s 0) (bq s (cp s p)) (bq s w)) x := fun z => by
      obtain ⟨i1, i2, i3⟩ := hI
      refine ⟨i1, fun w hw => i2 w ?_, ?_⟩
      · obtain ⟨⟨p', w1, w2, w3⟩, w4⟩ := hw
        refine ⟨⟨p', ⟨w1.1, ?_⟩, w2, w3⟩, w4⟩
        by_cases e : p' = y
        · rw [e] at w2 w3
          rcases z with z | z
          · exact absurd z w2
          · rw [w3] at w4
            exact absurd w4 z
        · omega
      · rcases i3 with i3 | ⟨w, ⟨⟨p', w1, w2⟩, w4⟩, i3⟩
        · exact Or.inl i3
        · exact Or.inr ⟨w, ⟨⟨p', by omega, w2⟩, w4⟩, i3⟩
    show wp (ob_E (206, 7, [(11, 0), (1, p), (1, x), (1, y), x4], [], (m, none))) _
    rw [sg_X8_freeNow_7, h14, if_pos h2]
    by_cases e : y = p
    · simp (disch := first | omega | assumption) only [↓if_pos, ↓if_neg, Option.bind_some, ob_wr_id, sg_X8_freeNow_66]
      exact hk (_, _) ⟨hI0, same (Or.inl e)⟩
    · rw [if_neg e, if_pos (by omega), if_pos (by omega), y3, q3]
      by_cases e2 : tr s (cp s y) = tr s (cp s p)
      · have eb2 : ob_E (198, 0, [(11, 0), (1, y), (1, 1)], [], (m, none)) = some (bq s (cp s y), (m, none)) := md_pinAt hs hV h ⟨h1, h2⟩ (by omega)
        have fr := md_from m (a := bq s (cp s p)) (b := bq s (cp s y)) (by omega) (by omega) (by omega) (by omega) (by omega) (by omega)
        rw [er0] at fr
        rw [if_pos e2, eb]
        simp (disch := first | omega | assumption) only [↓if_pos, ↓if_neg, Option.bind_some, ob_wr_id, sg_X8_freeNow_42, eb2, sg_X8_freeNow_48, fr, sg_X8_freeNow_51]
        obtain ⟨i1, i2, i3⟩ := hI
        by_cases c : dist (s 0) (bq s (cp s p)) (bq s (cp s y)) < x
        · simp (disch := first | omega | assumption) only [↓if_pos, ↓if_neg, Option.bind_some, ob_wr_id, sg_X8_freeNow_65, sg_X8_freeNow_66]
          refine hk (_, _) ⟨d.1, ?_⟩
          show MO _ _ _ (dist (s 0) (bq s (cp s p)) (bq s (cp s y)))
          refine ⟨by omega, fun w hw => ?_, Or.inr ⟨cp s y, ⟨⟨y, by omega, e, rfl⟩, e2⟩, rfl⟩⟩
          obtain ⟨⟨p', w1, w2, w3⟩, w4⟩ := hw
          by_cases ep : p' = y
          · rw [w3, ep]
            exact Int.le_refl _
          · have := i2 w ⟨⟨p', by omega, w2, w3⟩, w4⟩
            have this : x ≤ dist (s 0) (bq s (cp s p)) (bq s w) := this
            show _ ≤ dist (s 0) (bq s (cp s p)) (bq s w)
            omega
        · simp (disch := first | omega | assumption) only [↓if_pos, ↓if_neg, Option.bind_some, ob_wr_id, sg_X8_freeNow_65, sg_X8_freeNow_66]
          refine hk (_, _) ⟨hI0, ?_⟩
          show MO _ _ _ x
          refine ⟨i1, fun w hw => ?_, ?_⟩
          · obtain ⟨⟨p', w1, w2, w3⟩, w4⟩ := hw
            by_cases ep : p' = y
            · rw [w3, ep]
              show x ≤ dist (s 0) (bq s (cp s p)) (bq s (cp s y))
              omega
            · exact i2 w ⟨⟨p', by omega, w2, w3⟩, w4⟩
          · rcases i3 with i3 | ⟨w, ⟨⟨p', w1, w2⟩, w4⟩, i3⟩
            · exact Or.inl i3
            · exact Or.inr ⟨w, ⟨⟨p', by omega, w2⟩, w4⟩, i3⟩
      · rw [if_neg e2, sg_X8_freeNow_66, ob_wr_id (by omega) (by omega)]
        exact hk (_, _) ⟨hI0, same (Or.inr e2)⟩
  · intro ⟨x, x4⟩ ⟨hI0, hI⟩
    have hI0 : 0 ≤ x := hI0
    have hI : MO (s 0) (fun w => (∃ p', (0 ≤ p' ∧ p' < Nn s) ∧ p' ≠ p ∧ w = cp s p') ∧ tr s w = tr s (cp s p)) (fun w => dist (s 0) (bq s (cp s p)) (bq s w)) x := hI
    show wp (ob_E (206, 7, [(11, 0), (1, p), (1, x), (1, Nn s), x4], [], (m, none))) _
    rw [sg_X8_freeNow_7, h14, if_neg (by omega), eh]
    have xR := hI.1
    simp (disch := first | omega | assumption) only [↓if_pos, ↓if_neg, Option.bind_some, ob_wr_id, sg_X8_freeNow_79]
    refine wp_ret ⟨?_, rfl⟩
    refine (fp_MO hV hP ?_).symm
    obtain ⟨i1, i2, i3⟩ := hI
    refine ⟨i1, fun w hw => i2 w ?_, ?_⟩
    · obtain ⟨w1, w2, w3⟩ := hw
      obtain ⟨z1, z2, z3⟩ := cp_sur hV w1
      refine ⟨⟨_, ⟨z2, z3⟩, fun e => w2 ?_, z1.symm⟩, w3⟩
      rw [← z1, e]
    · rcases i3 with i3 | ⟨w, ⟨⟨p', w1, w2, w3⟩, w4⟩, i3⟩
      · exact Or.inl i3
      · refine Or.inr ⟨w, ⟨by rw [w3]; exact cp_P hV w1, fun e => w2 (cp_i hV w1 hp ?_), w4⟩, i3⟩
        rw [← w3, e]
