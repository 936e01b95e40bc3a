-- BRIDGES: the model lays them
def Nn (s : Int → Int) : Int := cn s 0 + cn s 1 + cn s 2
/-- the pin with the number p -/
def cp (s : Int → Int) (p : Int) : Int := if p < cn s 0 then p else if p < cn s 0 + cn s 1 then 12 + (p - cn s 0) else 24 + (p - cn s 0 - cn s 1)
def offs (s : Int → Int) (t : Int) : Int := if t = 0 then 0 else if t = 1 then cn s 0 else if t = 2 then cn s 0 + cn s 1 else Nn s
theorem cns {W : Int} {s : Int → Int} (hV : VV W s) : (0 ≤ cn s 0 ∧ cn s 0 ≤ 12) ∧ (0 ≤ cn s 1 ∧ cn s 1 ≤ 12) ∧ (0 ≤ cn s 2 ∧ cn s 2 ≤ 12) ∧ (s 2 ≤ 2 → cn s 2 = 0) := by
  refine ⟨cn_b hV (by omega), cn_b hV (by omega), cn_b hV (by omega), fun h => ?_⟩
  have := (hV.2 2 (by omega) (by omega)).2.2.1 h
  unfold cn
  rw [if_neg (by omega)]
theorem offs_0 {s : Int → Int} : offs s 0 = 0 ∧ offs s 1 = cn s 0 ∧ offs s 2 = cn s 0 + cn s 1 ∧ offs s 3 = cn s 0 + cn s 1 + cn s 2 := ⟨rfl, rfl, rfl, rfl⟩
theorem offs_s {W : Int} {s : Int → Int} {t : Int} (hV : VV W s) (ht : 0 ≤ t ∧ t < 3) : offs s (t + 1) = offs s t + cn s t ∧ 0 ≤ offs s t ∧ offs s t + cn s t ≤ 36 ∧ offs s t + cn s t ≤ Nn s := by
  obtain ⟨c0, c1, c2, -⟩ := cns hV
  obtain ⟨o0, o1, o2, o3⟩ := offs_0 (s := s)
  unfold Nn
  obtain e | e | e : t = 0 ∨ t = 1 ∨ t = 2 := by omega
  · subst e
    rw [show (0 : Int) + 1 = 1 by omega, o0, o1]
    omega
  · subst e
    rw [show (1 : Int) + 1 = 2 by omega, o1, o2]
    omega
  · subst e
    rw [show (2 : Int) + 1 = 3 by omega, o2, o3]
    omega
theorem cp_o {W : Int} {s : Int → Int} {t i : Int} (hV : VV W s) (ht : 0 ≤ t ∧ t < 3) (hi : 0 ≤ i ∧ i < cn s t) : cp s (offs s t + i) = 12 * t + i ∧ 0 ≤ offs s t ∧ offs s t + i < Nn s ∧ offs s (t + 1) = offs s t + cn s t := by
  obtain ⟨c0, c1, c2, -⟩ := cns hV
  obtain ⟨o0, o1, o2, o3⟩ := offs_0 (s := s)
  obtain ⟨q1, q2, q3, q4⟩ := offs_s hV ht
  refine ⟨?_, q2, by omega, q1⟩
  unfold cp
  obtain e | e | e : t = 0 ∨ t = 1 ∨ t = 2 := by omega
  · subst e
    rw [o0, if_pos (by omega)]
    omega
  · subst e
    rw [o1, if_neg (by omega), if_pos (by omega)]
    omega
  · subst e
    rw [o2, if_neg (by omega), if_neg (by omega)]
    omega
theorem offs_T {W : Int} {s : Int → Int} (hV : VV W s) : offs s (s 2) = Nn s := by
  obtain ⟨c0, c1, c2, c3⟩ := cns hV
  have hT := hV.1.2.2.1
  unfold offs
  by_cases e : s 2 = 2
  · have := c3 (by omega)
    rw [if_neg (by omega), if_neg (by omega), if_pos e]
    unfold Nn
    omega
  · rw [if_neg (by omega), if_neg (by omega), if_neg e]
theorem cp_P {W : Int} {s : Int → Int} {p : Int} (hV : VV W s) (h : 0 ≤ p ∧ p < Nn s) : Pin s (cp s p) := by
  obtain ⟨c0, c1, c2, -⟩ := cns hV
  unfold Nn at h
  unfold cp
  by_cases a : p < cn s 0
  · rw [if_pos a]
    have := (Pin_c hV (t := 0) (i := p) (by omega) (by omega)).1
    rw [show 12 * (0 : Int) + p = p by omega] at this
    exact this
  · rw [if_neg a]
    by_cases b : p < cn s 0 + cn s 1
    · rw [if_pos b]
      exact (Pin_c hV (t := 1) (i := p - cn s 0) (by omega) (by omega)).1
    · rw [if_neg b]
      exact (Pin_c hV (t := 2) (i := p - cn s 0 - cn s 1) (by omega) (by omega)).1
theorem cp_i {W : Int} {s : Int → Int} {p p' : Int} (hV : VV W s) (h : 0 ≤ p ∧ p < Nn s) (h' : 0 ≤ p' ∧ p' < Nn s) (e : cp s p = cp s p') : p = p' := by
  obtain ⟨c0, c1, c2, -⟩ := cns hV
  unfold Nn at h h'
  unfold cp at e
  by_cases a : p < cn s 0
  · rw [if_pos a] at e
    by_cases a' : p' < cn s 0
    · rw [if_pos a'] at e
      exact e
    · rw [if_neg a'] at e
      split at e <;> omega
  · rw [if_neg a] at e
    by_cases a' : p' < cn s 0
    · rw [if_pos a'] at e
      split at e <;> omega
    · rw [if_neg a'] at e
      split at e <;> split at e <;> omega
theorem cp_sur {W : Int} {s : Int → Int} {v : Int} (hV : VV W s) (h : Pin s v) : cp s (offs s (v / 12) + v % 12) = v ∧ 0 ≤ offs s (v / 12) + v % 12 ∧ offs s (v / 12) + v % 12 < Nn s := by
  have hT := hV.1.2.2.1
  have h1 := h.1
  have h2 := h.2.1
  have c := c_Pin h
  obtain ⟨e1, e2, e3, -⟩ := cp_o hV (t := v / 12) (i := v % 12) (by omega) (by omega)
  exact ⟨by rw [e1]; omega, by omega, e3⟩
/-- only what laying writes is changed -/
def fs (m m' : ob_Mem) : Prop := ∀ k i x, ¬ ((46 ≤ k ∧ k ≤ 54) ∨ (k = 8 ∧ (x = 14 ∨ x = 20))) → m' k i x = m k i x
theorem fs_r {m : ob_Mem} : fs m m := fun _ _ _ _ => rfl
theorem fs_t {m m' m'' : ob_Mem} (h : fs m m') (h' : fs m' m'') : fs m m'' := fun k i s q => (h' k i s q).trans (h k i s q)
theorem fs_set {m m' : ob_Mem} {k : Nat} {i p x : Int} (h : fs m m') (g : (46 ≤ k ∧ k ≤ 54) ∨ (k = 8 ∧ (p = 14 ∨ p = 20))) : fs m (ob_set m' k i p x) := fun k' i' s' q => by
  refine Eq.trans (if_neg (fun z => q ?_)) (h k' i' s' q)
  rw [z.1, z.2.2]
  exact g
theorem fs_row {m m' : ob_Mem} (h : fs m m') : m' 40 0 = m 40 0 := by
  funext p
  exact h 40 0 p (by omega)
theorem fs_fq {m m' : ob_Mem} (h : fs m m') : fq m m' := fun k i x q => h k i x (by omega)
/-- the pins are laid -/
def rP (m : ob_Mem) (s : Int → Int) (n : Int) : Prop := m 8 0 14 = n ∧ ∀ p, 0 ≤ p → p < n → m 46 0 p = cp s p / 12 ∧ m 47 0 p = cp s p % 12 ∧ m 48 0 p = tr s (cp s p)
theorem md_laysPins {W : Int} (m : ob_Mem) (hV : VV W (m 40 0)) : wp (ob_E (200, 0, [(11, 0), (0, 0), (0, 0)], [], (m, none))) (fun _ m' => rP m' (m 40 0) (Nn (m 40 0)) ∧ fs m m') := by
  obtain ⟨⟨v1, v2, v3, -⟩, v8⟩ := id hV
  generalize hs : m 40 0 = s at *
  rw [sg_X8_laysPins_0]
  refine wp_for (fun t (x : ob_AV × ob_Mem) => ob_E (200, 7, [(11, 0), (1, t), x.1], [], (x.2, none))) 0 (s 2) (fun t x => rP x.2 s (offs s t) ∧ fs m x.2) ?_ ?_ (by omega) (x := ((0, 0), ob_set m 8 0 14 0)) ⟨⟨show (ob_set m 8 0 14 0) 8 0 14 = 0 from rs_e rfl rfl, fun p a b => by have b : p < 0 := b; omega⟩, fs_set fs_r (Or.inr ⟨rfl, Or.inl rfl⟩)⟩
  · intro t ⟨x1, m1⟩ h1 h2 ⟨i1, i2⟩ hk
    have i1 : rP m1 s (offs s t) := i1
    have i2 : fs m m1 := i2
    have ht : 0 ≤ t ∧ t < 3 := by omega
    obtain ⟨o1, o2, o3, -⟩ := offs_s hV ht
    have er := (fs_row i2).trans hs
    have er2 : m1 40 0 2 = s 2 := by rw [er]
    have cb := cn_b hV ht
    show wp (ob_E (200, 7, [(11, 0), (1, t), x1], [], (m1, none))) _
    rw [sg_X8_laysPins_7]
    simp (disch := first | omega | assumption) only [↓if_pos, ↓if_neg, Option.bind_some, ob_wr_id, md_tunes, sg_X8_laysPins_12]
    refine wp_for (fun i (m' : ob_Mem) => ob_E (200, 17, [(11, 0), (1, t), (1, i)], [], (m', none))) 0 (cn s t) (fun i m' => rP m' s (offs s t + i) ∧ fs m m') ?_ ?_ cb.1 ⟨by rw [Int.add_zero]; exact i1, i2⟩
    · intro i m2 g1 g2 ⟨j1, j2⟩ hk2
      obtain ⟨hp, hc, hi, ht2⟩ := Pin_c hV ht ⟨g1, g2⟩
      obtain ⟨q1, q2, q3, -⟩ := cp_o hV ht ⟨g1, g2⟩
      obtain ⟨-, -, -, e4, e5⟩ := rd_b (s := s) (t := t) (i := i) (by omega)
      have pb := Pin_b hV hp
      rw [e4] at pb
      have er := (fs_row j2).trans hs
      have eP : m2 40 0 (12 + 116 * t + 39) = 1 := by rw [er]; exact hc
      have eN : m2 40 0 (12 + 116 * t + 43) = s (12 + 116 * t + 43) := by rw [er]
      have n14 := j1.1
      rw [sg_X8_laysPins_17]
      simp (disch := first | omega | assumption) only [↓if_pos, ↓if_neg, Option.bind_some, ob_wr_id, rs_k, rs_i, rs_s, rs_e, md_isPinned, sg_X8_laysPins_22, md_of, sg_X8_laysPins_33, n14]
      generalize hM3 : ob_set (ob_set m2 46 0 (offs s t + i) t) 47 0 (offs s t + i) i = m3
      have er3 : m3 40 0 = s := by
        rw [← hM3]
        simp (disch := omega) only [rs_k, rs_i, rs_s, rs_e, up_e, up_n, rw_k]
        exact er
      have n3 : m3 8 0 14 = offs s t + i := by
        rw [← hM3]
        simp (disch := omega) only [rs_k, rs_i, rs_s, rs_e, up_e, up_n]
        exact n14
      have eQ : m3 40 0 (12 + 116 * t + (44 + 4 * i + 0)) = s (12 + 116 * t + (44 + 4 * i + 0)) := by rw [er3]
      have e2 : m3 40 0 2 = s 2 := by rw [er3]
      have mb := ob_mulb (show 0 ≤ s 2 by omega) v3.2 pb.1.1 (show s (12 + 116 * t + (44 + 4 * i + 0)) ≤ 5 by omega)
      simp (disch := first | omega | assumption) only [↓if_pos, ↓if_neg, Option.bind_some, ob_wr_id, rs_k, rs_i, rs_s, rs_e, md_pinOf, sg_X8_laysPins_73, eQ, md_track, e2, sg_X8_laysPins_76, n3]
      rw [← e5]
      have f3 : fs m m3 := by
        rw [← hM3]
        exact fs_set (fs_set j2 (Or.inl (by omega))) (Or.inl (by omega))
      rw [Int.add_assoc]
      refine hk2 _ ⟨⟨by simp (disch := omega) only [rs_k, rs_i, rs_s, rs_e, up_e, up_n], fun p a b => ?_⟩, fs_set (fs_set f3 (Or.inl (by omega))) (Or.inr ⟨rfl, Or.inl rfl⟩)⟩
      rw [← hM3]
      by_cases e : p = offs s t + i
      · rw [e, q1, show (12 * t + i) / 12 = t by omega, show (12 * t + i) % 12 = i by omega]
        simp (disch := omega) only [rs_k, rs_i, rs_s, rs_e, up_e, up_n]
        exact ⟨trivial, trivial, trivial⟩
      · simp (disch := omega) only [rs_k, rs_i, rs_s, rs_e, up_e, up_n]
        exact j1.2 p a (by omega)
    · intro m2 ⟨j1, j2⟩
      have er := (fs_row j2).trans hs
      have eN : m2 40 0 (12 + 116 * t + 43) = s (12 + 116 * t + 43) := by rw [er]
      have eP : m2 40 0 (12 + 116 * t + 39) = s (12 + 116 * t + 39) := by rw [er]
      rw [← o1] at j1
      have done := hk ((1, cn s t), m2) ⟨j1, j2⟩
      rw [sg_X8_laysPins_17]
      by_cases c : s (12 + 116 * t + 39) = 1
      · have ec : cn s t = s (12 + 116 * t + 43) := if_pos c
        simp (disch := first | omega | assumption) only [↓if_pos, ↓if_neg, Option.bind_some, ob_wr_id, md_isPinned, sg_X8_laysPins_22, md_of, sg_X8_laysPins_33, sg_X8_laysPins_93]
        exact done
      · simp (disch := first | omega | assumption) only [↓if_pos, ↓if_neg, Option.bind_some, ob_wr_id, md_isPinned, sg_X8_laysPins_22, sg_X8_laysPins_93]
        exact done
  · intro ⟨x1, m1⟩ ⟨i1, i2⟩
    have i1 : rP m1 s (offs s (s 2)) := i1
    have i2 : fs m m1 := i2
    have er := (fs_row i2).trans hs
    have er2 : m1 40 0 2 = s 2 := by rw [er]
    show wp (ob_E (200, 7, [(11, 0), (1, s 2), x1], [], (m1, none))) _
    rw [sg_X8_laysPins_7]
    simp (disch := first | omega | assumption) only [↓if_pos, ↓if_neg, Option.bind_some, ob_wr_id, md_tunes, sg_X8_laysPins_12]
    rw [offs_T hV] at i1
    exact wp_ret ⟨i1, i2⟩
theorem md_pinAt {W : Int} {m : ob_Mem} {s : Int → Int} {p w : Int} (hs : m 40 0 = s) (hV : VV W s) (h : rP m s (Nn s)) (hp : 0 ≤ p ∧ p < Nn s) (hw : 0 ≤ w ∧ w < 4) : ob_E (198, 0, [(11, 0), (1, p), (1, w)], [], (m, none)) = some (s (12 + 116 * (cp s p / 12) + (44 + 4 * (cp s p % 12) + w)), (m, none)) := by
  have hP := cp_P hV hp
  have h36 := hP.1
  obtain ⟨q1, q2, q3⟩ := h.2 p hp.1 hp.2
  obtain ⟨c0, c1, c2, -⟩ := cns hV
  have hN : Nn s ≤ 36 := by
    unfold Nn
    omega
  subst hs
  simp (disch := first | omega | assumption) only [↓if_pos, ↓if_neg, Option.bind_some, ob_wr_id, sg_X8_pinAt_0, sg_X8_pinAt_17, q1, q2, md_pinOf]
theorem md_found {W : Int} {m : ob_Mem} {s : Int → Int} {x a : Int} (hs : m 40 0 = s) (hV : VV W s) (h : rP m s (Nn s)) : wp (ob_E (199, 0, [(11, 0), (1, x), (1, a), (0, 0), (0, 0)], [], (m, none))) (fun v m' => m' = m ∧ ((v = -1 ∧ pat s x a = -1) ∨ ((0 ≤ v ∧ v < Nn s) ∧ cp s v = pat s x a ∧ pat s x a ≠ -1))) := by
  obtain ⟨c0, c1, c2, -⟩ := cns hV
  have hN : 0 ≤ Nn s ∧ Nn s ≤ 36 := by
    unfold Nn
    omega
  have h14 := h.1
  rw [sg_X8_found_0]
  refine wp_for (fun p (y : Int) => ob_E (199, 5, [(11, 0), (1, x), (1, a), (1, y), (1, p)], [], (m, none))) 0 (Nn s) (fun p y => (y = -1 ∧ ∀ p', 0 ≤ p' → p' < p → tr s (cp s p') = x → bq s (cp s p') ≠ a) ∨ ((0 ≤ y ∧ y < Nn s) ∧ tr s (cp s y) = x ∧ bq s (cp s y) = a)) ?_ ?_ hN.1 (x := -1) (Or.inl ⟨rfl, fun p' a b => absurd a (by omega)⟩)
  · intro p y h1 h2 hI hk
    have hP := cp_P hV ⟨h1, h2⟩
    obtain ⟨q1, q2, q3⟩ := h.2 p h1 h2
    have no : ¬ (tr s (cp s p) = x ∧ bq s (cp s p) = a) → wp (ob_E (199, 5, [(11, 0), (1, x), (1, a), (1, y), (1, p + 1)], [], (m, none))) _ := fun z => hk y (by
      rcases hI with ⟨e1, e2⟩ | e
      · refine Or.inl ⟨e1, fun p' a1 a2 a3 a4 => ?_⟩
        by_cases e : p' = p
        · rw [e] at a3 a4
          exact z ⟨a3, a4⟩
        · exact e2 p' a1 (by omega) a3 a4
      · exact Or.inr e)
    rw [sg_X8_found_5, h14, if_pos h2, if_pos (by omega), q3]
    by_cases k1 : tr s (cp s p) = x
    · rw [if_pos k1, md_pinAt hs hV h ⟨h1, h2⟩ (by omega)]
      have eb : s (12 + 116 * (cp s p / 12) + (44 + 4 * (cp s p % 12) + 1)) = bq s (cp s p) := rfl
      rw [eb]
      by_cases k2 : bq s (cp s p) = a
      · simp (disch := first | omega | assumption) only [↓if_pos, ↓if_neg, Option.bind_some, ob_wr_id, sg_X8_found_32, sg_X8_found_42]
        exact hk p (Or.inr ⟨⟨h1, h2⟩, k1, k2⟩)
      · simp (disch := first | omega | assumption) only [↓if_pos, ↓if_neg, Option.bind_some, ob_wr_id, sg_X8_found_32, sg_X8_found_41, sg_X8_found_42]
        exact no (fun z => k2 z.2)
    · rw [if_neg k1]
      simp (disch := first | omega | assumption) only [↓if_pos, ↓if_neg, Option.bind_some, ob_wr_id, sg_X8_found_41, sg_X8_found_42]
      exact no (fun z => k1 z.1)
  · intro y hI
    rw [sg_X8_found_5, h14, if_neg (by omega)]
    refine wp_ret ⟨rfl, ?_⟩
    rcases hI with ⟨e1, e2⟩ | ⟨e1, e2, e3⟩
    · refine Or.inl ⟨e1, pat_n (fun v q1 q2 q3 => ?_)⟩
      obtain ⟨z1, z2, z3⟩ := cp_sur hV q1
      refine e2 _ z2 z3 ?_ ?_
      · rw [z1]
        exact q2
      · rw [z1]
        exact q3
    · have hP := cp_P hV e1
      have e := pat_e hV hP e2 e3
      refine Or.inr ⟨e1, e.symm, ?_⟩
      rw [e]
      have := hP.1
      omega
theorem md_tracks (m : ob_Mem) (h : 2 ≤ m 40 0 2 ∧ m 40 0 2 ≤ 3) (h2 : 1 ≤ m 40 0 1 ∧ m 40 0 1 ≤ 6) : ob_E (201, 0, [(11, 0)], [], (m, none)) = some (m 40 0 2 * m 40 0 1, (m, none)) := by
  have hb := ob_mulb (show 0 ≤ m 40 0 2 by omega) h.2 (show 0 ≤ m 40 0 1 by omega) h2.2
  simp (disch := first | omega | assumption) only [↓if_pos, ↓if_neg, Option.bind_some, ob_wr_id, sg_X8_tracks_0, sg_X8_tracks_4, md_tunes]
/-- the model has laid these bridges -/
def rM (m : ob_Mem) (s : Int → Int) (q : BS) : Prop := m 8 0 20 = q.1 ∧ (∀ b, 0 ≤ b → b < q.1 → m 50 0 b = q.2.1 b ∧ m 51 0 b = q.2.2.1 b ∧ m 52 0 b = q.2.2.2.1 b ∧ m 53 0 b = q.2.2.2.2.1 b ∧ m 54 0 b = q.2.2.2.2.2.1 b) ∧ ∀ p, 0 ≤ p → p < Nn s → 0 ≤ q.2.2.2.2.2.2 (cp s p) → m 49 0 p = q.2.2.2.2.2.2 (cp s p)
theorem rP_c {m m' : ob_Mem} {s : Int → Int} {n : Int} (h : rP m s n) (h14 : m' 8 0 14 = m 8 0 14) (hm : ∀ k x, k = 46 ∨ k = 47 ∨ k = 48 → m' k 0 x = m k 0 x) : rP m' s n := ⟨h14.trans h.1, fun p a b => by
  rw [hm 46 _ (by omega), hm 47 _ (by omega), hm 48 _ (by omega)]
  exact h.2 p a b⟩
