-- PLAYS and MENDS
theorem PP_c {s : Int → Int} {m m' n n' : ob_Mem} (h : PP s m m') (e1 : n 8 0 3 = m 8 0 3) (e2 : ∀ x, n 41 0 x = m 41 0 x) (e3 : n' 8 0 3 = m' 8 0 3) (e4 : ∀ x, n' 41 0 x = m' 41 0 x) : PP s n n' := by
  obtain ⟨h1, h2, h3⟩ := h
  unfold PP
  rw [e1, e3]
  exact ⟨h1, fun i p a b c d => by rw [e4, e2]; exact h2 i p a b c d, fun p a b => by rw [e4]; exact h3 p a b⟩
theorem Pin_w {s s' : Int → Int} {v : Int} (h : wro s s') : Pin s' v ↔ Pin s v := by
  by_cases r : 0 ≤ v ∧ v < 36
  · have e2 := h 2 (Or.inl (by omega))
    have e39 := wro_t h (t := v / 12) (by omega) (w := 39) (by omega) (by omega)
    have e43 := wro_t h (t := v / 12) (by omega) (w := 43) (by omega) (by omega)
    unfold Pin
    rw [e2, e39, e43]
  · exact ⟨fun z => absurd z.1 r, fun z => absurd z.1 r⟩
theorem cl_bears {m : ob_Mem} {s : Int → Int} {q : BS} {b t : Int} (h : rB m s q) (ht : 0 ≤ t ∧ t < 3) (hc : s (12 + 116 * t + 39) = 1) (htT : t < s 2) (hn : 0 ≤ s (12 + 116 * t + 43) ∧ s (12 + 116 * t + 43) ≤ 12) (hu : ∀ v, Pin s v → 0 ≤ q.2.2.2.2.2.2 v) : wp (ob_E (29, 0, [(4, 0), (1, b), (1, t), (1, s (12 + 116 * t + 43)), (0, 0)], [], (m, none))) (fun v m' => m' = m ∧ BV v (∃ v, Pin s v ∧ v / 12 = t ∧ q.2.2.2.2.2.2 v = b)) := by
  have hp : ∀ i, 0 ≤ i → i < s (12 + 116 * t + 43) → Pin s (12 * t + i) := fun i a c => ⟨by omega, by omega, by rw [show (12 * t + i) / 12 = t by omega]; exact hc, by rw [show (12 * t + i) / 12 = t by omega, show (12 * t + i) % 12 = i by omega]; exact c⟩
  rw [sg_X1_bears_0]
  refine wp_for (fun i (_ : Unit) => ob_E (29, 3, [(4, 0), (1, b), (1, t), (1, s (12 + 116 * t + 43)), (1, i)], [], (m, none))) 0 (s (12 + 116 * t + 43)) (fun i _ => ∀ j, 0 ≤ j → j < i → q.2.2.2.2.2.2 (12 * t + j) ≠ b) ?_ ?_ hn.1 (x := ()) (fun j a c => absurd a (by omega))
  · intro i _ h1 h2 hI hk
    have hpi := hp i h1 h2
    have e := cl_numberOf h ht ⟨h1, by omega⟩ hpi (hu _ hpi)
    rw [sg_X1_bears_3, if_pos h2, e]
    show wp (ob_E (29, 16, [(4, 0), (1, b), (1, t), (1, s (12 + 116 * t + 43)), (1, i)], [(1, q.2.2.2.2.2.2 (12 * t + i))], (m, none))) _
    rw [sg_X1_bears_16]
    by_cases c : q.2.2.2.2.2.2 (12 * t + i) = b
    · simp (disch := first | omega | assumption) only [↓if_pos, ↓if_neg, Option.bind_some, ob_wr_id]
      exact wp_ret ⟨rfl, Or.inl ⟨rfl, _, hpi, by omega, c⟩⟩
    · simp (disch := first | omega | assumption) only [↓if_pos, ↓if_neg, Option.bind_some, ob_wr_id]
      refine hk () (fun j a d => ?_)
      by_cases ej : j = i
      · rw [ej]
        exact c
      · exact hI j a (by omega)
  · intro _ hI
    rw [sg_X1_bears_3]
    simp (disch := first | omega | assumption) only [↓if_pos, ↓if_neg, Option.bind_some, ob_wr_id]
    refine wp_ret ⟨rfl, Or.inr ⟨rfl, fun ⟨v, a, c, d⟩ => ?_⟩⟩
    have := a.2.2.2
    rw [c] at this
    have e : v = 12 * t + v % 12 := by omega
    rw [e] at d
    exact hI (v % 12) (by omega) this d
noncomputable def plS (s : Int → Int) (t n : Int) : Int → Int := wrw s (fun v => v / 12 = t) (fun x => ob_wr (x + n))
noncomputable def plB (s : Int → Int) (t b : Int) : Prop := s 5 ≤ (br s).2.2.2.2.2.1 b ∧ ∃ v, Pin s v ∧ v / 12 = t ∧ (br s).2.2.2.2.2.2 v = b
noncomputable def plV (s : Int → Int) (t : Int) (n : Nat) : Int := cnt (plB s t) n
theorem plV_s {s : Int → Int} {t b : Int} (h : 0 ≤ b) : plV s t (b + 1).toNat = @ite _ (plB s t b) (Classical.propDecidable _) (plV s t b.toNat + 1) (plV s t b.toNat) := cnt_s h
theorem VV_pl {W W' : Int} {s : Int → Int} {t n : Int} (hW : 0 ≤ W ∧ W + 50 ≤ W' ∧ W' ≤ 30000) (hV : VV W s) (hn : 1 ≤ n ∧ n ≤ 50) : VV W' (plS s t n) := VV_w (by omega) hV wrw_wro (fun v hp => by
  have b := (Pin_b hV hp).2.2.2.1
  rw [wq_e] at b
  unfold plS
  by_cases c : v / 12 = t
  · rw [wrw_y hp c, ob_wr_id (by omega) (by omega)]
    omega
  · rw [wrw_x hp c]
    omega)
def gBr (k : Nat) (_ : Int) : Prop := k = 1 ∨ (19 ≤ k ∧ k ≤ 25)
theorem wpo_t {t i : Int} (hi : 0 ≤ i ∧ i < 12) : wpo (12 * t + i) = 12 + 116 * t + (44 + 4 * i + 3) := by
  unfold wpo
  rw [show (12 * t + i) / 12 = t by omega, show (12 * t + i) % 12 = i by omega]
theorem rep_w {W : Int} {m : ob_Mem} {j v : Int} {s : Int → Int} (hV : VV W s) (h : Rep m j s) (hp : Pin s v) : m 34 (3 * j + v / 12) (v % 12) = s (wpo v) := by
  have b := hp.1
  exact rqw (rpQ h (t := v / 12) (by omega) hp.2.2.1) (v % 12) (by omega) hp.2.2.2
theorem cl_goRound {W W' : Int} {m : ob_Mem} {j t n : Int} {s : Int → Int} (hW : 0 ≤ W ∧ W + 50 ≤ W' ∧ W' ≤ 30000) (hj : m 7 0 0 = j) (hV : VV W s) (h : Rep m j s) : wp (ob_E (121, 0, [(10, 0), (1, t), (1, n), (0, 0), (0, 0), (0, 0)], [], (m, none))) (fun v m' => (¬ ((0 ≤ t ∧ t < s 2) ∧ 1 ≤ n ∧ n ≤ 50) ∧ v = -2 ∧ m' = m) ∨ (((0 ≤ t ∧ t < s 2) ∧ 1 ≤ n ∧ n ≤ 50) ∧ s (12 + 116 * t + 39) ≠ 1 ∧ v = -3 ∧ m' = m) ∨ (((0 ≤ t ∧ t < s 2) ∧ 1 ≤ n ∧ n ≤ 50) ∧ s (12 + 116 * t + 39) = 1 ∧ v = plV (plS s t n) t (br (plS s t n)).1.toNat ∧ ∃ m2, sm (gB j) m m2 ∧ Rep m2 j (plS s t n) ∧ sm (fun k _ => k = 1 ∨ (19 ≤ k ∧ k ≤ 25)) m2 m')) := by
  have hT := hV.1.2.2.1
  have r2 := rpT h
  by_cases c : 0 ≤ t ∧ t < s 2
  · by_cases d : 1 ≤ n ∧ n ≤ 50
    · have rP1 := rpP h (t := t) (by omega)
      have pvt := (hV.2 t (by omega) (by omega)).2
      by_cases p : s (12 + 116 * t + 39) = 1
      · have nb := (pvt.2.2 p).2.2.2.1
        have hQ := rpQ h (t := t) (by omega) p
        have hN : m 3 (2 * (3 * j + t) + 1) 2 = s (12 + 116 * t + 43) := rqN hQ
        have go : ob_E (121, 0, [(10, 0), (1, t), (1, n), (0, 0), (0, 0), (0, 0)], [], (m, none)) = ob_E (121, 47, [(10, 0), (1, t), (1, n), (8, 3 * j + t), (1, 0), (0, 0)], [], (m, none)) := by
          simp (disch := first | omega | assumption) only [↓if_pos, ↓if_neg, Option.bind_some, ob_wr_id, sg_X7_goRound_0, sg_X7_goRound_8, sg_X7_goRound_18, hj, r2, cl_hasTune, cl_within, rP1]
        rw [go]
        refine wp_for (fun i m' => ob_E (121, 47, [(10, 0), (1, t), (1, n), (8, 3 * j + t), (1, i), (0, 0)], [], (m', none))) 0 (s (12 + 116 * t + 43)) (fun i m' => (∀ k x y, ¬ (k = 34 ∧ x = 3 * j + t) → m' k x y = m k x y) ∧ (∀ y, 0 ≤ y → y < i → m' 34 (3 * j + t) y = ob_wr (m 34 (3 * j + t) y + n)) ∧ ∀ y, i ≤ y → m' 34 (3 * j + t) y = m 34 (3 * j + t) y) ?_ ?_ (by omega) ⟨fun _ _ _ _ => rfl, fun y a b => absurd a (by omega), fun _ _ => rfl⟩
        · intro i m1 h1 h2 ⟨i1, i2, i3⟩ hk
          have e3 := i1 3 (2 * (3 * j + t) + 1) 2 (by omega)
          have e34 := i3 i (by omega)
          rw [sg_X7_goRound_47]
          simp (disch := first | omega | assumption) only [↓if_pos, ↓if_neg, Option.bind_some, ob_wr_id, e3, hN, e34]
          refine hk _ ⟨fun k x y a => ?_, fun y a b => ?_, fun y a => by rw [rs_s (by omega), i3 y (by omega)]⟩
          · by_cases z : k = 34
            · rw [rs_i (by omega), i1 k x y a]
            · rw [rs_k z, i1 k x y a]
          · by_cases e : y = i
            · rw [rs_e rfl e, e]
            · rw [rs_s e, i2 y a (by omega)]
        · intro m1 ⟨i1, i2, i3⟩
          have e3 := i1 3 (2 * (3 * j + t) + 1) 2 (by omega)
          have e7 := i1 7 0 0 (by omega)
          have hV' : VV W' (plS s t n) := VV_pl hW hV d
          have R1 : Rep m1 j (plS s t n) := Rep_w hV h (fun k i x hk => i1 k i x (by omega)) wrw_wro (fun v hp => by
            have rw0 := rep_w hV h hp
            by_cases e : v / 12 = t
            · have q := hp.2.2.2
              rw [e] at rw0 q
              unfold plS
              rw [wrw_y hp e, e, i2 (v % 12) (by omega) (by omega), rw0]
            · unfold plS
              rw [wrw_x hp e, i1 _ _ _ (by omega), rw0])
          rw [sg_X7_goRound_47]
          simp (disch := first | omega | assumption) only [↓if_pos, ↓if_neg, Option.bind_some, ob_wr_id, e3, hN, e7, hj]
          refine wp_b (cl_find hV' R1) (fun _ m2 h2 => ?_)
          obtain ⟨hB0, s2⟩ := h2
          have R2 := Rep_br hV' R1 s2
          obtain ⟨SB1, SB2⟩ := SI_br hV'
          have wo : wro s (plS s t n) := wrw_wro
          have q2 : plS s t n 2 = s 2 := wo 2 (Or.inl (by omega))
          have q39 : plS s t n (12 + 116 * t + 39) = s (12 + 116 * t + 39) := wro_t wo (by omega) (by omega) (by omega)
          have q43 : plS s t n (12 + 116 * t + 43) = s (12 + 116 * t + 43) := wro_t wo (by omega) (by omega) (by omega)
          have rL := rpL R2
          have rN2 : m2 3 (2 * (3 * j + t) + 1) 2 = plS s t n (12 + 116 * t + 43) := rqN (rpQ R2 (t := t) (by omega) (by omega))
          have f7 : m2 7 0 0 = j := by rw [sb7 s2 (by omega), e7, hj]
          have fin : ∀ v, v = plV (plS s t n) t (br (plS s t n)).1.toNat → (¬ ((0 ≤ t ∧ t < s 2) ∧ 1 ≤ n ∧ n ≤ 50) ∧ v = -2 ∧ m2 = m) ∨ (((0 ≤ t ∧ t < s 2) ∧ 1 ≤ n ∧ n ≤ 50) ∧ s (12 + 116 * t + 39) ≠ 1 ∧ v = -3 ∧ m2 = m) ∨ (((0 ≤ t ∧ t < s 2) ∧ 1 ≤ n ∧ n ≤ 50) ∧ s (12 + 116 * t + 39) = 1 ∧ v = plV (plS s t n) t (br (plS s t n)).1.toNat ∧ ∃ m2', sm (gB j) m m2' ∧ Rep m2' j (plS s t n) ∧ sm (fun k _ => k = 1 ∨ (19 ≤ k ∧ k ≤ 25)) m2' m2) := fun v hv => Or.inr (Or.inr ⟨⟨c, d⟩, p, hv, m1, fun k i x z => i1 k i x (fun y => z (Or.inr (Or.inr ⟨by omega, by omega⟩))), R1, s2⟩)
          generalize plS s t n = S at *
          rw [sg_X7_goRound_87]
          refine wp_for (fun b (_ : Unit) => ob_E (121, 93, [(10, 0), (1, t), (1, n), (8, 3 * j + t), (1, plV S t b.toNat), (1, b)], [], (m2, none))) 0 (br S).1 (fun _ _ => True) ?_ ?_ SB1.1 (x := ()) trivial
          · intro b _ h1 h2 _ hk
            have e19 := (hB0.2.1 b h1 h2).2.2.2.2
            have eb := hk () trivial
            have cb := cnt_le (P := plB S t) b.toNat
            have c0 := cnt_0 (P := plB S t) b.toNat
            have cb : plV S t b.toNat ≤ _ := cb
            have c0 : 0 ≤ plV S t b.toNat := c0
            rw [plV_s h1] at eb
            rw [sg_X7_goRound_93, hB0.1, if_pos h2, if_pos (show 0 ≤ b ∧ b < 36 by omega), e19, f7, rL]
            by_cases k : (br S).2.2.2.2.2.1 b < S 5
            · rw [if_pos k]
              rw [if_neg (show ¬ plB S t b from fun z => by have := z.1; omega)] at eb
              simp (disch := first | omega | assumption) only [↓if_pos, ↓if_neg, Option.bind_some, ob_wr_id, sg_X7_goRound_148]
              exact eb
            · rw [if_neg k, rN2]
              refine wp_b (cl_bears hB0 (by omega) (by omega) (by omega) (by omega) (fun v hv => (SB2 v hv).1)) (fun v m3 h3 => ?_)
              obtain ⟨rfl, hv⟩ := h3
              rw [sg_X7_goRound_142]
              rcases hv with ⟨rfl, z⟩ | ⟨rfl, z⟩
              · rw [if_pos (show plB S t b from ⟨by omega, z⟩)] at eb
                simp (disch := first | omega | assumption) only [↓if_pos, ↓if_neg, Option.bind_some, ob_wr_id, sg_X7_goRound_148]
                exact eb
              · rw [if_neg (show ¬ plB S t b from fun y => z y.2)] at eb
                simp (disch := first | omega | assumption) only [↓if_pos, ↓if_neg, Option.bind_some, ob_wr_id, sg_X7_goRound_148]
                exact eb
          · intro _ _
            rw [sg_X7_goRound_93]
            simp (disch := first | omega | assumption) only [↓if_pos, ↓if_neg, Option.bind_some, ob_wr_id, hB0.1]
            exact wp_ret (fin _ rfl)
      · have p0 : s (12 + 116 * t + 39) = 0 := by have := pvt.1; omega
        have go : ob_E (121, 0, [(10, 0), (1, t), (1, n), (0, 0), (0, 0), (0, 0)], [], (m, none)) = some (-3, (m, none)) := by
          simp (disch := first | omega | assumption) only [↓if_pos, ↓if_neg, Option.bind_some, ob_wr_id, sg_X7_goRound_0, sg_X7_goRound_8, sg_X7_goRound_18, hj, r2, cl_hasTune, cl_within, rP1]
        exact wp_of go (Or.inr (Or.inl ⟨⟨c, d⟩, p, rfl, rfl⟩))
    · have go : ob_E (121, 0, [(10, 0), (1, t), (1, n), (0, 0), (0, 0), (0, 0)], [], (m, none)) = some (-2, (m, none)) := by
        simp (disch := first | omega | assumption) only [↓if_pos, ↓if_neg, Option.bind_some, ob_wr_id, sg_X7_goRound_0, sg_X7_goRound_8, sg_X7_goRound_18, hj, r2, cl_hasTune, cl_within]
      exact wp_of go (Or.inl ⟨fun z => d z.2, rfl, rfl⟩)
  · have go : ob_E (121, 0, [(10, 0), (1, t), (1, n), (0, 0), (0, 0), (0, 0)], [], (m, none)) = some (-2, (m, none)) := by
      simp (disch := first | omega | assumption) only [↓if_pos, ↓if_neg, Option.bind_some, ob_wr_id, sg_X7_goRound_0, sg_X7_goRound_8, hj, r2, cl_hasTune]
    exact wp_of go (Or.inl ⟨fun z => c z.1, rfl, rfl⟩)
