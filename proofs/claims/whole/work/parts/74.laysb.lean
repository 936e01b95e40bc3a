-- BRIDGES: the model lays bridges
theorem rM_add {m m' : ob_Mem} {s : Int → Int} {q : BS} {v p x : Int} (h : rM m s q) (hn : 1 ≤ q.1 ∧ q.1 ≤ 36) (hc : cp s p = v) (hi : ∀ p', 0 ≤ p' → p' < Nn s → cp s p' = v → p' = p) (h49 : m 49 0 p = q.1 - 1) (e : m' = ob_set (ob_set m 53 0 (q.1 - 1) (ob_wr (m 53 0 (q.1 - 1) + 1))) 54 0 (q.1 - 1) (ob_wr (m 54 0 (q.1 - 1) + x))) (hx : x = wq s v) : rM m' s (badd s v q) := by
  obtain ⟨h1, h2, h3⟩ := h
  subst e hx
  refine ⟨?_, fun b a c => ?_, fun w hw hw2 hu => ?_⟩
  · simp (disch := omega) only [rs_k, rs_i, rs_s, rs_e, up_e, up_n]
    exact h1
  · have c : b < q.1 := c
    obtain ⟨g1, g2, g3, g4, g5⟩ := h2 b a c
    obtain ⟨l1, l2, l3, l4, l5⟩ := h2 (q.1 - 1) (by omega) (by omega)
    refine ⟨?_, ?_, ?_, ?_, ?_⟩
    · simp (disch := omega) only [rs_k, rs_i, rs_s, rs_e, up_e, up_n]
      exact g1
    · simp (disch := omega) only [rs_k, rs_i, rs_s, rs_e, up_e, up_n]
      exact g2
    · simp (disch := omega) only [rs_k, rs_i, rs_s, rs_e, up_e, up_n]
      exact g3
    · show _ = up q.2.2.2.2.1 (q.1 - 1) _ b
      by_cases eb : b = q.1 - 1
      · rw [up_e eb, ← l4]
        simp (disch := omega) only [rs_k, rs_i, rs_s, rs_e, up_e, up_n]
      · rw [up_n eb, ← g4]
        simp (disch := omega) only [rs_k, rs_i, rs_s, rs_e, up_e, up_n]
    · show _ = up q.2.2.2.2.2.1 (q.1 - 1) _ b
      by_cases eb : b = q.1 - 1
      · rw [up_e eb, ← l5]
        simp (disch := omega) only [rs_k, rs_i, rs_s, rs_e, up_e, up_n]
      · rw [up_n eb, ← g5]
        simp (disch := omega) only [rs_k, rs_i, rs_s, rs_e, up_e, up_n]
  · have hu : 0 ≤ up q.2.2.2.2.2.2 v (q.1 - 1) (cp s w) := hu
    show _ = up q.2.2.2.2.2.2 v (q.1 - 1) (cp s w)
    by_cases ew : cp s w = v
    · rw [up_e ew, hi w hw hw2 ew, ← h49]
      simp (disch := omega) only [rs_k, rs_i, rs_s, rs_e, up_e, up_n]
    · rw [up_n ew] at hu ⊢
      rw [← h3 w hw hw2 hu]
      simp (disch := omega) only [rs_k, rs_i, rs_s, rs_e, up_e, up_n]
/-- the pin laid last at this angle -/
def LSt (s : Int → Int) (a x l : Int) : Prop := (l = -1 ∧ pat s (x - 1) a = -1) ∨ ((0 ≤ l ∧ l < Nn s) ∧ bq s (cp s l) = a ∧ (pat s (x - 1) a ≠ -1 → cp s l = pat s (x - 1) a))
set_option maxHeartbeats 1000000 in
theorem md_lay1 {W : Int} {m : ob_Mem} {s : Int → Int} {q : BS} {a x l p : Int} {x5 x7 : ob_AV} {K : Int → ob_Mem → Prop} (hs : m 40 0 = s) (hV : VV W s) (h : rP m s (Nn s)) (hB0 : rM m s q) (hS : SI s a x q) (hL : LSt s a x l) (hp : 0 ≤ p ∧ p < Nn s) (hc : cp s p = pat s x a) (ha : 0 ≤ a ∧ a < s 0) (hx : 0 ≤ x ∧ x < 18) (hk : ∀ m' x6, fs m m' → rP m' s (Nn s) → rM m' s (bstep s a x q) → wp (ob_E (202, 208, [(11, 0), (1, a), (1, p), (1, x), (1, p), x6], [], (m', none))) K) : wp (ob_E (202, 37, [(11, 0), (1, a), (1, l), (1, x), x5, x7], [(1, p)], (m, none))) K := by
  obtain ⟨⟨v1, v2, v3, -⟩, v8⟩ := id hV
  obtain ⟨S1, S2, S3, S4⟩ := id hS
  obtain ⟨c0, c1, c2, -⟩ := cns hV
  have hN : 0 ≤ Nn s ∧ Nn s ≤ 36 := by
    unfold Nn
    omega
  have hP := cp_P hV hp
  have hpn : pat s x a ≠ -1 := by
    rw [← hc]
    have := hP.1
    omega
  have n35 := SI_35 hS hpn
  have eB : bstep s a x q = badd s (pat s x a) (if pat s (x - 1) a ≠ -1 ∧ hq s (pat s (x - 1) a) = hq s (pat s x a) then q else bnew s a x (pat s x a) q) := if_neg hpn
  have pv0 : tr s (pat s x a) = x ∧ bq s (pat s x a) = a := by
    rcases pat_i s x a with ⟨-, z2, z3⟩ | ⟨z1, -⟩
    · exact ⟨z2, z3⟩
    · exact absurd z1 hpn
  have uN : ¬ (0 ≤ q.2.2.2.2.2.2 (pat s x a)) := fun z => by
    rw [hc] at hP
    have := (S2 _ hP).mp z
    omega
  have eqn : ∀ w, s (12 + 116 * (cp s p / 12) + (44 + 4 * (cp s p % 12) + w)) = s (12 + 116 * (pat s x a / 12) + (44 + 4 * (pat s x a % 12) + w)) := fun w => by rw [hc]
  -- the tail: the pin joins the last bridge of q'
  have tail : ∀ (q' : BS) (m1 : ob_Mem) (y : Int), fs m m1 → rP m1 s (Nn s) → rM m1 s q' → (1 ≤ q'.1 ∧ q'.1 ≤ 36) → q'.2.2.2.2.2.2 = q.2.2.2.2.2.2 → bstep s a x q = badd s (pat s x a) q' → wp (ob_E (202, 156, [(11, 0), (1, a), (1, l), (1, x), (1, p), (1, y)], [], (m1, none))) K := by
    intro q' m1 y f1 r1 r2 r3 r4 r5
    have n20 := r2.1
    have er1 := (fs_row f1).trans hs
    rw [sg_X8_laysBridges_156]
    simp (disch := first | omega | assumption) only [↓if_pos, ↓if_neg, Option.bind_some, ob_wr_id, rs_k, rs_i, rs_s, rs_e, n20]
    generalize hM2 : ob_set (ob_set m1 49 0 p (q'.1 - 1)) 53 0 (q'.1 - 1) (ob_wr (m1 53 0 (q'.1 - 1) + 1)) = m2
    have er2 : m2 40 0 = s := by
      rw [← hM2]
      simp (disch := omega) only [rs_k, rs_i, rs_s, rs_e, up_e, up_n, rw_k]
      exact er1
    have r12 : rP m2 s (Nn s) := rP_c r1 (by rw [← hM2]; simp (disch := omega) only [rs_k, rs_i, rs_s, rs_e, up_e, up_n]) (fun k x hk => by rw [← hM2]; simp (disch := omega) only [rs_k, rs_i, rs_s, rs_e, up_e, up_n])
    have f2 : fs m m2 := by
      rw [← hM2]
      exact fs_set (fs_set f1 (Or.inl (by omega))) (Or.inl (by omega))
    have e54 : m2 54 0 (q'.1 - 1) = m1 54 0 (q'.1 - 1) := by
      rw [← hM2]
      simp (disch := omega) only [rs_k, rs_i, rs_s, rs_e, up_e, up_n]
    rw [md_pinAt er2 hV r12 hp (by omega)]
    simp (disch := first | omega | assumption) only [↓if_pos, ↓if_neg, Option.bind_some, ob_wr_id, sg_X8_laysBridges_203]
    refine hk _ _ (fs_set f2 (Or.inl (by omega))) (rP_c r12 (rs_k (by omega)) (fun k x hk => rs_k (by omega))) ?_
    rw [r5]
    refine rM_add (m := ob_set m1 49 0 p (q'.1 - 1)) (p := p) (x := s (12 + 116 * (cp s p / 12) + (44 + 4 * (cp s p % 12) + 3))) ⟨by simp (disch := omega) only [rs_k, rs_i, rs_s, rs_e, up_e, up_n]; exact n20, fun b d1 d2 => ?_, fun p' d1 d2 d3 => ?_⟩ r3 hc (fun p' d1 d2 d3 => cp_i hV ⟨d1, d2⟩ hp (by rw [d3, hc])) (rs_e rfl rfl) ?_ ?_
    · simp (disch := omega) only [rs_k, rs_i, rs_s, rs_e, up_e, up_n]
      exact r2.2.1 b d1 d2
    · have np : p' ≠ p := fun z => by
        rw [z, hc, r4] at d3
        exact uN d3
      simp (disch := omega) only [rs_k, rs_i, rs_s, rs_e, up_e, up_n]
      exact r2.2.2 p' d1 d2 d3
    · rw [← hM2]
      simp (disch := omega) only [rs_k, rs_i, rs_s, rs_e, up_e, up_n]
    · rw [hc]
      rfl
  -- a new bridge
  have new : ∀ y7 : ob_AV, ¬ (pat s (x - 1) a ≠ -1 ∧ hq s (pat s (x - 1) a) = hq s (pat s x a)) → wp (ob_E (202, 83, [(11, 0), (1, a), (1, l), (1, x), (1, p), y7], [(1, 0)], (m, none))) K := by
    intro y7 nj
    rw [if_neg nj] at eB
    have n20 := hB0.1
    rw [sg_X8_laysBridges_83]
    simp (disch := first | omega | assumption) only [↓if_pos, ↓if_neg, Option.bind_some, ob_wr_id, rs_k, rs_i, rs_s, rs_e, n20]
    have er1 : (ob_set m 50 0 q.1 a) 40 0 = s := by
      simp (disch := omega) only [rs_k, rs_i, rs_s, rs_e, up_e, up_n, rw_k]
      exact hs
    rw [md_pinAt er1 hV (rP_c h (rs_k (by omega)) (fun k x hk => rs_k (by omega))) hp (by omega)]
    simp (disch := first | omega | assumption) only [↓if_pos, ↓if_neg, Option.bind_some, ob_wr_id, rs_k, rs_i, rs_s, rs_e, sg_X8_laysBridges_115, n20]
    rw [eqn 2]
    refine tail (bnew s a x (pat s x a) q) _ _ (fs_set (fs_set (fs_set (fs_set (fs_set (fs_set fs_r (Or.inl (by omega))) (Or.inl (by omega))) (Or.inl (by omega))) (Or.inl (by omega))) (Or.inl (by omega))) (Or.inr ⟨rfl, Or.inr rfl⟩)) (rP_c h (by simp (disch := omega) only [rs_k, rs_i, rs_s, rs_e, up_e, up_n]) (fun k x hk => by simp (disch := omega) only [rs_k, rs_i, rs_s, rs_e, up_e, up_n])) ⟨?_, fun b d1 d2 => ?_, fun p' d1 d2 d3 => ?_⟩ ?_ rfl eB
    · simp (disch := omega) only [rs_k, rs_i, rs_s, rs_e, up_e, up_n]
      rfl
    · have d2 : b < q.1 + 1 := d2
      show _ = up q.2.1 q.1 a b ∧ _ = up q.2.2.1 q.1 (hq s (pat s x a)) b ∧ _ = up q.2.2.2.1 q.1 x b ∧ _ = up q.2.2.2.2.1 q.1 0 b ∧ _ = up q.2.2.2.2.2.1 q.1 0 b
      by_cases e : b = q.1
      · simp (disch := omega) only [rs_k, rs_i, rs_s, rs_e, up_e, up_n]
        exact ⟨trivial, rfl, trivial, trivial, trivial⟩
      · simp (disch := omega) only [rs_k, rs_i, rs_s, rs_e, up_e, up_n]
        exact hB0.2.1 b d1 (by omega)
    · simp (disch := omega) only [rs_k, rs_i, rs_s, rs_e, up_e, up_n]
      exact hB0.2.2 p' d1 d2 d3
    · show 1 ≤ q.1 + 1 ∧ q.1 + 1 ≤ 36
      omega
  rw [sg_X8_laysBridges_37, if_neg (by omega)]
  rcases hL with ⟨l1, l2⟩ | ⟨l1, l2, l3⟩
  · rw [if_pos l1, sg_X8_laysBridges_82]
    exact new _ (fun z => z.1 l2)
  · have hPl := cp_P hV l1
    obtain ⟨q1, q2, q3⟩ := h.2 l l1.1 l1.2
    rw [if_neg (by omega), if_pos (by omega), q3, ob_wr_id (by omega) (by omega)]
    by_cases c3 : tr s (cp s l) = x - 1
    · have el : pat s (x - 1) a = cp s l := pat_e hV hPl c3 l2
      rw [if_pos c3, md_pinAt hs hV h l1 (by omega)]
      simp (disch := first | omega | assumption) only [↓if_pos, ↓if_neg, Option.bind_some, ob_wr_id, sg_X8_laysBridges_68]
      rw [md_pinAt hs hV h hp (by omega)]
      simp (disch := first | omega | assumption) only [↓if_pos, ↓if_neg, Option.bind_some, ob_wr_id, sg_X8_laysBridges_75]
      have e1 : s (12 + 116 * (cp s l / 12) + (44 + 4 * (cp s l % 12) + 2)) = hq s (pat s (x - 1) a) := by
        rw [el]
        rfl
      have e2 : s (12 + 116 * (cp s p / 12) + (44 + 4 * (cp s p % 12) + 2)) = hq s (pat s x a) := by
        rw [hc]
        rfl
      rw [e1, e2]
      by_cases c4 : hq s (pat s (x - 1) a) = hq s (pat s x a)
      · have nm : pat s (x - 1) a ≠ -1 := by
          rw [el]
          have := hPl.1
          omega
        rw [if_pos c4, sg_X8_laysBridges_83]
        simp (disch := first | omega | assumption) only [↓if_pos, ↓if_neg, Option.bind_some, ob_wr_id]
        rw [if_pos ⟨nm, c4⟩] at eB
        have u1 := S4 nm
        have u2 : 0 ≤ q.2.2.2.2.2.2 (pat s (x - 1) a) := by
          rw [el]
          exact (S2 _ hPl).mpr (Or.inr ⟨l2, by omega⟩)
        exact tail q m 1 fs_r h hB0 (by omega) rfl eB
      · rw [if_neg c4, sg_X8_laysBridges_82]
        exact new _ (fun z => c4 z.2)
    · rw [if_neg c3, sg_X8_laysBridges_82]
      refine new _ (fun z => c3 ?_)
      have e1 := l3 z.1
      rcases pat_i s (x - 1) a with ⟨-, z2, -⟩ | ⟨z1, -⟩
      · rw [e1]
        exact z2
      · exact absurd z1 z.1
theorem md_laysBridges {W : Int} (m : ob_Mem) (hV : VV W (m 40 0)) : wp (ob_E (202, 0, [(11, 0), (0, 0), (0, 0), (0, 0), (0, 0), (0, 0)], [], (m, none))) (fun _ m' => rP m' (m 40 0) (Nn (m 40 0)) ∧ rM m' (m 40 0) (br (m 40 0)) ∧ fs m m') := by
  obtain ⟨⟨v1, v2, v3, -⟩, v8⟩ := id hV
  rw [sg_X8_laysBridges_0]
  refine wp_b (md_laysPins m hV) (fun _ m1 h1 => ?_)
  generalize hs : m 40 0 = s at *
  obtain ⟨p1, p2⟩ := h1
  have mb := ob_mulb (show 0 ≤ s 2 by omega) v3.2 (show 0 ≤ s 1 by omega) v2.2
  rw [sg_X8_laysBridges_4]
  refine wp_for (fun a (x : ob_AV × ob_AV × ob_AV × ob_AV × ob_Mem) => ob_E (202, 11, [(11, 0), (1, a), x.1, x.2.1, x.2.2.1, x.2.2.2.1], [], (x.2.2.2.2, none))) 0 (s 0) (fun a x => rP x.2.2.2.2 s (Nn s) ∧ rM x.2.2.2.2 s (bA s a) ∧ fs m x.2.2.2.2) ?_ ?_ (by omega) (x := ((0, 0), (0, 0), (0, 0), (0, 0), ob_set m1 8 0 20 0)) ⟨rP_c p1 (show (ob_set m1 8 0 20 0) 8 0 14 = m1 8 0 14 from rs_s (by omega)) (fun k x hk => show (ob_set m1 8 0 20 0) k 0 x = m1 k 0 x from rs_k (by omega)), ⟨show (ob_set m1 8 0 20 0) 8 0 20 = 0 from rs_e rfl rfl, fun b c d => by have d : b < 0 := d; omega, fun p _ _ z => by have z : (0 : Int) ≤ -1 := z; omega⟩, fs_set p2 (Or.inr ⟨rfl, Or.inr rfl⟩)⟩
  · intro a ⟨x1, x2, x3, x4, m2⟩ h1 h2 ⟨i1, i2, i3⟩ hk
    have i1 : rP m2 s (Nn s) := i1
    have i2 : rM m2 s (bA s a) := i2
    have i3 : fs m m2 := i3
    have er := (fs_row i3).trans hs
    have er0 : m2 40 0 0 = s 0 := by rw [er]
    have pm : pat s (0 - 1) a = -1 := pat_n (fun v hv q => by have := Pin_b hV hv; omega)
    show wp (ob_E (202, 11, [(11, 0), (1, a), x1, x2, x3, x4], [], (m2, none))) _
    rw [sg_X8_laysBridges_11]
    simp (disch := first | omega | assumption) only [↓if_pos, ↓if_neg, Option.bind_some, ob_wr_id, md_round, sg_X8_laysBridges_16]
    refine wp_for (fun x (y : Int × ob_AV × ob_AV × ob_Mem) => ob_E (202, 23, [(11, 0), (1, a), (1, y.1), (1, x), y.2.1, y.2.2.1], [], (y.2.2.2, none))) 0 (s 2 * s 1) (fun x y => LSt s a x y.1 ∧ rP y.2.2.2 s (Nn s) ∧ rM y.2.2.2 s (bX s a x) ∧ fs m y.2.2.2) ?_ ?_ mb.1 (x := (-1, x3, x4, m2)) ⟨Or.inl ⟨rfl, pm⟩, i1, i2, i3⟩
    · intro x ⟨l, y2, y3, m3⟩ k1 k2 ⟨j0, j1, j2, j3⟩ hk2
      have j0 : LSt s a x l := j0
      have j1 : rP m3 s (Nn s) := j1
      have j2 : rM m3 s (bX s a x) := j2
      have j3 : fs m m3 := j3
      have er := (fs_row j3).trans hs
      have er2 : m3 40 0 2 = s 2 := by rw [er]
      have er1 : m3 40 0 1 = s 1 := by rw [er]
      have S := SI_all hV h1 k1 (s := s) (a := a) (x := x)
      show wp (ob_E (202, 23, [(11, 0), (1, a), (1, l), (1, x), y2, y3], [], (m3, none))) _
      rw [sg_X8_laysBridges_23, md_tracks m3 (by omega) (by omega), er2, er1]
      simp (disch := first | omega | assumption) only [↓if_pos, ↓if_neg, Option.bind_some, ob_wr_id, sg_X8_laysBridges_28]
      refine wp_b (md_found er hV j1) (fun p m4 hf => ?_)
      obtain ⟨rfl, hf⟩ := hf
      rcases hf with ⟨e1, e2⟩ | ⟨e1, e2, e3⟩
      · subst e1
        rw [sg_X8_laysBridges_37, if_pos rfl, sg_X8_laysBridges_208, ob_wr_id (by omega) (by omega)]
        refine hk2 (l, _, _, m4) ⟨?_, j1, ?_, j3⟩
        · show LSt s a (x + 1) l
          unfold LSt
          rw [show x + 1 - 1 = x by omega]
          rcases j0 with ⟨z1, -⟩ | ⟨z1, z2, -⟩
          · exact Or.inl ⟨z1, e2⟩
          · exact Or.inr ⟨z1, z2, fun z => absurd e2 z⟩
        · show rM m4 s (bX s a (x + 1))
          rw [bX_s k1, show bstep s a x (bX s a x) = bX s a x from if_pos e2]
          exact j2
      · refine md_lay1 er hV j1 j2 S j0 e1 e2 ⟨h1, h2⟩ (by omega) (fun m5 x6 g1 g2 g3 => ?_)
        rw [sg_X8_laysBridges_208, ob_wr_id (by omega) (by omega)]
        refine hk2 (p, _, _, m5) ⟨?_, g2, ?_, fs_t j3 g1⟩
        · show LSt s a (x + 1) p
          unfold LSt
          rw [show x + 1 - 1 = x by omega]
          refine Or.inr ⟨e1, ?_, fun _ => e2⟩
          rw [e2]
          rcases pat_i s x a with ⟨-, -, z3⟩ | ⟨z1, -⟩
          · exact z3
          · exact absurd z1 e3
        · show rM m5 s (bX s a (x + 1))
          rw [bX_s k1]
          exact g3
    · intro ⟨l, y2, y3, m3⟩ ⟨j0, j1, j2, j3⟩
      have j1 : rP m3 s (Nn s) := j1
      have j2 : rM m3 s (bX s a (s 2 * s 1)) := j2
      have j3 : fs m m3 := j3
      have er := (fs_row j3).trans hs
      have er2 : m3 40 0 2 = s 2 := by rw [er]
      have er1 : m3 40 0 1 = s 1 := by rw [er]
      show wp (ob_E (202, 23, [(11, 0), (1, a), (1, l), (1, s 2 * s 1), y2, y3], [], (m3, none))) _
      rw [sg_X8_laysBridges_23, md_tracks m3 (by omega) (by omega), er2, er1]
      simp (disch := first | omega | assumption) only [↓if_pos, ↓if_neg, Option.bind_some, ob_wr_id, sg_X8_laysBridges_28]
      refine hk (_, _, _, _, m3) ⟨j1, ?_, j3⟩
      show rM m3 s (bA s (a + 1))
      rw [bA_s h1]
      exact j2
  · intro ⟨x1, x2, x3, x4, m2⟩ ⟨i1, i2, i3⟩
    have i1 : rP m2 s (Nn s) := i1
    have i2 : rM m2 s (bA s (s 0)) := i2
    have i3 : fs m m2 := i3
    have er := (fs_row i3).trans hs
    have er0 : m2 40 0 0 = s 0 := by rw [er]
    show wp (ob_E (202, 11, [(11, 0), (1, s 0), x1, x2, x3, x4], [], (m2, none))) _
    rw [sg_X8_laysBridges_11]
    simp (disch := first | omega | assumption) only [↓if_pos, ↓if_neg, Option.bind_some, ob_wr_id, md_round, sg_X8_laysBridges_16]
    exact wp_ret ⟨i1, i2, i3⟩
