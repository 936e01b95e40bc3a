-- READS: the class does an order
theorem cl_count {m : ob_Mem} {k : Int} (hk : 0 ≤ k ∧ k < 120) (h1 : 0 ≤ m 37 0 k ∧ m 37 0 k ≤ 120) (h2 : 0 ≤ m 37 0 (k + 1) ∧ m 37 0 (k + 1) ≤ 120) : ob_E (71, 0, [(9, 0), (1, k)], [], (m, none)) = some (m 37 0 (k + 1) - m 37 0 k, (m, none)) := by
  simp (disch := first | omega | assumption) only [↓if_pos, ↓if_neg, Option.bind_some, ob_wr_id, sg_X6_numberCount_0]
theorem cl_number {m : ob_Mem} {k i : Int} (hk : 0 ≤ k ∧ k < 120) (h1 : 0 ≤ m 37 0 k ∧ m 37 0 k ≤ 120) (h2 : 0 ≤ m 37 0 (k + 1) ∧ m 37 0 (k + 1) ≤ 120) (hi : 0 ≤ i) : ob_E (72, 0, [(9, 0), (1, k), (1, i)], [], (m, none)) = some (if i < m 37 0 (k + 1) - m 37 0 k then m 38 0 (m 37 0 k + i) else 0, (m, none)) := by
  have c := cl_count hk h1 h2
  by_cases z : i < m 37 0 (k + 1) - m 37 0 k
  · simp (disch := first | omega | assumption) only [↓if_pos, ↓if_neg, Option.bind_some, ob_wr_id, sg_X6_number_0, c, sg_X6_number_6]
  · simp (disch := first | omega | assumption) only [↓if_pos, ↓if_neg, Option.bind_some, ob_wr_id, sg_X6_number_0, c, sg_X6_number_6]
theorem nfo_neg {N : Int → Int} {t : Int} {q : Int × (Int → Int)} (a : Nat) (h : (nfo N t q a).1 < 0) : ∀ d : Nat, nfo N t q (a + d) = nfo N t q a
  | 0 => rfl
  | d + 1 => by
    have e := nfo_neg a h d
    show nf N t ((a + d : Nat) : Int) (nfo N t q (a + d)) = _
    rw [e]
    unfold nf
    rw [if_pos h]
/-- the answer of an order -/
def OB (j : Int) (m : ob_Mem) (q : Int × (Int → Int)) (v : Int) (m' : ob_Mem) : Prop := (q.1 < 0 → v = q.1) ∧ (¬ q.1 < 0 → 0 ≤ v) ∧ Rep m' j q.2 ∧ sm (gB j) m m'
theorem OB_CO {W : Int} {j V : Int} {m m' : ob_Mem} {s S : Int → Int} {v : Int} (hV : V < 0 → (-4 ≤ V ∧ V ≤ -2) ∧ S = s) (h : CO m j V S v m') : OB j m (cd V, S) v m' := by
  obtain ⟨rfl, h2, h3⟩ := h
  unfold cd
  by_cases c : v < 0
  · rw [if_pos c]
    exact ⟨fun _ => rfl, fun z => absurd c z, h2, h3⟩
  · rw [if_neg c]
    exact ⟨fun z => absurd z (by show ¬ (0 : Int) < 0; omega), fun _ => by omega, h2, h3⟩
theorem nV_c {W : Int} {s : Int → Int} {t k a l : Int} (hV : VV W s) : cd (nV s t k a l) = cNote s t k a l := by
  unfold nV cd
  have ci := cNote_i s t k a l
  by_cases c : cNote s t k a l < 0
  · rw [if_pos c, if_pos c]
  · rw [if_neg c]
    obtain ⟨⟨o1, -⟩, o2⟩ := cNote_0 (s := s) (t := t) (k := k) (a := a) (l := l) (by omega)
    have hT := hV.1.2.2.1
    have w3 := (hV.2 t (by omega) (by omega)).1.2.2.1
    rw [if_neg (by omega)]
    omega
theorem cl_obeyTicks {W : Int} {m : ob_Mem} {j k t l cnt : Int} {s : Int → Int} (hj : m 7 0 0 = j) (hV : VV W s) (hR : Rep m j s) (hk : 0 ≤ k ∧ k < 120) (h1 : 0 ≤ m 37 0 k) (h2 : m 37 0 (k + 1) ≤ 120) (hc : m 37 0 (k + 1) - m 37 0 k = cnt) (h3 : 2 ≤ cnt ∧ cnt % 3 = 2) : wp (ob_E (126, 0, [(10, 0), (1, k), (1, t), (1, l), (0, 0), (0, 0), (0, 0)], [], (m, none))) (OB j m (nfo (fun y => m 38 0 (m 37 0 k + y)) t (cd (tkV s t l), tkS s t l) ((cnt - 2) / 3).toNat)) := by
  rw [sg_X7_obeyTicks_0, hj]
  refine wp_b (cl_setTicks hV hR) (fun v m1 c1 => ?_)
  have O1 := OB_CO (W := W) (tk_vs hV) c1
  have s1 := O1.2.2.2
  have g7 : ∀ (m' : ob_Mem), sm (gB j) m m' → (∀ x, m' 7 0 x = m 7 0 x) ∧ (∀ x, m' 37 0 x = m 37 0 x) ∧ ∀ x, m' 38 0 x = m 38 0 x := fun m' hm => ⟨fun x => hm 7 0 x (fun z => by rcases z with ⟨z1, z2⟩ | ⟨z1, z2⟩ | ⟨z1, z2⟩ <;> omega), fun x => hm 37 0 x (fun z => by rcases z with ⟨z1, z2⟩ | ⟨z1, z2⟩ | ⟨z1, z2⟩ <;> omega), fun x => hm 38 0 x (fun z => by rcases z with ⟨z1, z2⟩ | ⟨z1, z2⟩ | ⟨z1, z2⟩ <;> omega)⟩
  have e1 := (g7 m1 s1).2.1
  have cc : ob_E (71, 0, [(9, 0), (1, k)], [], (m1, none)) = some (cnt, (m1, none)) := by
    have := cl_count (m := m1) hk (by rw [e1]; omega) (by rw [e1]; omega)
    rw [e1, e1, hc] at this
    exact this
  rw [sg_X7_obeyTicks_9, cc]
  show wp (ob_E (126, 19, [(10, 0), (1, k), (1, t), (1, l), (1, v), (0, 0), (0, 0)], [(1, cnt)], (m1, none))) _
  rw [sg_X7_obeyTicks_19]
  generalize hN : (fun y => m 38 0 (m 37 0 k + y)) = N at *
  have hq2 : VV W (cd (tkV s t l), tkS s t l).2 := VV_tk hV
  generalize hq0 : (cd (tkV s t l), tkS s t l) = q0 at *
  have st := wp_for (P := OB j m (nfo N t q0 ((cnt - 2) / 3).toNat)) (fun y (z : Int × ob_Mem) => ob_E (126, 24, [(10, 0), (1, k), (1, t), (1, l), (1, z.1), (1, cnt), (1, 2 + 3 * y)], [], (z.2, none))) 0 ((cnt - 2) / 3) (fun y z => OB j m (nfo N t q0 y.toNat) z.1 z.2) ?_ ?_ (by omega) (x := (v, m1)) O1
  · rw [show (2 : Int) + 3 * 0 = 2 by omega] at st
    exact st
  · intro y ⟨a, m2⟩ y1 y2 hI hk2
    have hI : OB j m (nfo N t q0 y.toNat) a m2 := hI
    obtain ⟨i1, i2, i3, i4⟩ := id hI
    obtain ⟨e7, e37, e38⟩ := g7 m2 i4
    have VQ := VV_nfo (N := N) (t := t) hq2 y.toNat
    show wp (ob_E (126, 24, [(10, 0), (1, k), (1, t), (1, l), (1, a), (1, cnt), (1, 2 + 3 * y)], [], (m2, none))) _
    rw [sg_X7_obeyTicks_24, ob_wr_id (by omega) (by omega), if_pos (by omega)]
    by_cases c : (nfo N t q0 y.toNat).1 < 0
    · rw [if_pos (by have := i1 c; omega)]
      have := nfo_neg y.toNat c (((cnt - 2) / 3).toNat - y.toNat)
      rw [show y.toNat + (((cnt - 2) / 3).toNat - y.toNat) = ((cnt - 2) / 3).toNat by omega] at this
      rw [this]
      exact wp_ret hI
    · rw [if_neg (by have := i2 c; omega), e7, hj]
      have nb : ∀ i, 0 ≤ i → i < cnt → ob_E (72, 0, [(9, 0), (1, k), (1, i)], [], (m2, none)) = some (N i, (m2, none)) := fun i z1 z2 => by
        have := cl_number (m := m2) (i := i) hk (by rw [e37]; omega) (by rw [e37]; omega) z1
        rw [e37, e37, hc, if_pos z2, e38] at this
        rw [this, ← hN]
      simp (disch := first | omega | assumption) only [↓if_pos, ↓if_neg, Option.bind_some, ob_wr_id, nb, sg_X7_obeyTicks_53, sg_X7_obeyTicks_65, sg_X7_obeyTicks_77]
      refine wp_b (cl_addNote VQ i3) (fun v3 m3 c3 => ?_)
      have O3 := OB_CO (W := W) (n_vs VQ) c3
      rw [nV_c VQ] at O3
      simp (disch := first | omega | assumption) only [↓if_pos, ↓if_neg, Option.bind_some, ob_wr_id, sg_X7_obeyTicks_80, show 2 + 3 * y + 3 = 2 + 3 * (y + 1) by omega]
      refine hk2 (v3, m3) ?_
      rw [nfo_s y1]
      unfold nf
      rw [if_neg c]
      obtain ⟨o1, o2, o3, o4⟩ := O3
      rw [show 2 + 3 * y + 1 = 3 + 3 * y by omega, show 2 + 3 * y + 2 = 4 + 3 * y by omega] at o1 o2 o3
      exact ⟨o1, o2, o3, sm_t i4 o4⟩
  · intro ⟨a, m2⟩ hI
    have hI : OB j m (nfo N t q0 ((cnt - 2) / 3).toNat) a m2 := hI
    show wp (ob_E (126, 24, [(10, 0), (1, k), (1, t), (1, l), (1, a), (1, cnt), (1, 2 + 3 * ((cnt - 2) / 3))], [], (m2, none))) _
    rw [sg_X7_obeyTicks_24, ob_wr_id (by omega) (by omega), if_neg (by omega)]
    exact wp_ret hI
