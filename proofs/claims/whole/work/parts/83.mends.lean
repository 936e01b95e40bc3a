-- MENDS: both; joined
theorem Rep_w1 {W : Int} {m : ob_Mem} {j v x : Int} {s : Int → Int} (hV : VV W s) (h : Rep m j s) (hp : Pin s v) : Rep (ob_set m 34 (3 * j + v / 12) (v % 12) x) j (up s (wpo v) x) := by
  refine Rep_w hV h (fun k i y hk => rs_k hk) (fun p hx => up_n (fun e => ?_)) (fun w hw => ?_)
  · have b := hp.1
    subst e
    unfold wpo at hx
    rcases hx with hx | ⟨t, w, h1, h2, h3, h4⟩ <;> omega
  · by_cases e : w = v
    · subst e
      rw [rs_e rfl rfl, up_e rfl]
    · rw [up_n (fun z => e (wpo_i hw.1 hp.1 z)), ← rep_w hV h hw]
      by_cases z : w / 12 = v / 12
      · exact rs_s (by omega)
      · exact rs_i (by omega)
theorem VV_0 {W : Int} {s : Int → Int} {D : Int → Prop} (hV : VV W s) : VV W (wrw s D (fun _ => 0)) := VV_w (by omega) hV wrw_wro (fun v hp => by
  have b := (Pin_b hV hp).2.2.2.1
  rw [wq_e] at b
  by_cases c : D v
  · rw [wrw_y hp c]
    omega
  · rw [wrw_x hp c]
    omega)
noncomputable def meS (s : Int → Int) (b : Int) : Int → Int := wrw s (fun v => (br s).2.2.2.2.2.2 v = b) (fun _ => 0)
noncomputable def meC (s : Int → Int) (b c : Int) : Int → Int := wrw s (fun v => (br s).2.2.2.2.2.2 v = b ∧ v < c) (fun _ => 0)
theorem rB_gB {m m' : ob_Mem} {s : Int → Int} {q : BS} {j : Int} (h : rB m s q) (hs : sm (gB j) m m') : rB m' s q := by
  obtain ⟨h1, h2, h3⟩ := h
  have e : ∀ k i x, k = 1 ∨ (19 ≤ k ∧ k ≤ 24) → m' k i x = m k i x := fun k i x hk => hs k i x (fun z => by rcases z with ⟨z1, z2⟩ | ⟨z1, z2⟩ | ⟨z1, z2⟩ <;> omega)
  refine ⟨by rw [e 1 _ _ (by omega)]; exact h1, fun b a c => ?_, fun v a c => by rw [e 24 _ _ (by omega)]; exact h3 v a c⟩
  rw [e 20 _ _ (by omega), e 21 _ _ (by omega), e 22 _ _ (by omega), e 23 _ _ (by omega), e 19 _ _ (by omega)]
  exact h2 b a c
theorem cl_mendBridge {W : Int} {m : ob_Mem} {j b : Int} {s : Int → Int} (hj : m 7 0 0 = j) (hV : VV W s) (h : Rep m j s) : wp (ob_E (122, 0, [(10, 0), (1, b), (0, 0), (0, 0), (0, 0)], [], (m, none))) (fun v m' => (b < 0 ∧ v = -2 ∧ m' = m) ∨ ((0 ≤ b ∧ (br s).1 ≤ b) ∧ v = -3 ∧ sm (fun k _ => k = 1 ∨ (19 ≤ k ∧ k ≤ 25)) m m') ∨ ((0 ≤ b ∧ b < (br s).1) ∧ v = (br s).2.2.2.2.2.1 b ∧ ∃ m1, sm (fun k _ => k = 1 ∨ (19 ≤ k ∧ k ≤ 25)) m m1 ∧ sm (gB j) m1 m' ∧ Rep m' j (meS s b))) := by
  have hT := hV.1.2.2.1
  rw [sg_X7_mendBridge_0]
  by_cases c : b < 0
  · rw [if_pos c]
    exact wp_ret (Or.inl ⟨c, rfl, rfl⟩)
  · rw [if_neg c, hj]
    refine wp_b (cl_find hV h) (fun _ m1 h1 => ?_)
    obtain ⟨hB0, s1⟩ := h1
    have R1 := Rep_br hV h s1
    obtain ⟨SB1, SB2⟩ := SI_br hV
    have f7 : m1 7 0 0 = j := by rw [sb7 s1 (by omega), hj]
    rw [sg_X7_mendBridge_18, hB0.1]
    by_cases d : b < (br s).1
    · rw [if_pos d]
      refine wp_for (fun t (y : ob_Mem × ob_AV × ob_AV) => ob_E (122, 34, [(10, 0), (1, b), (1, t), y.2.1, y.2.2], [], (y.1, none))) 0 (s 2) (fun t y => Rep y.1 j (meC s b (12 * t)) ∧ sm (gB j) m1 y.1) ?_ ?_ (by omega) (x := (m1, (0, 0), (0, 0))) ⟨?_, sm_r⟩
      · intro t ⟨m2, y1, y2⟩ h1 h2 ⟨i1, i2⟩ hk
        have i1 : Rep m2 j (meC s b (12 * t)) := i1
        have i2 : sm (gB j) m1 m2 := i2
        have e7 : m2 7 0 0 = j := by rw [i2 7 0 0 (fun z => by rcases z with ⟨z1, z2⟩ | ⟨z1, z2⟩ | ⟨z1, z2⟩ <;> omega), f7]
        have e2 : m2 0 j 2 = s 2 := by
          rw [rpT i1]
          exact wrw_o (Or.inl (by omega))
        show wp (ob_E (122, 34, [(10, 0), (1, b), (1, t), y1, y2], [], (m2, none))) _
        rw [sg_X7_mendBridge_34, e7, e2, if_pos h2, if_pos (by omega)]
        refine wp_for (fun i (m' : ob_Mem) => ob_E (122, 58, [(10, 0), (1, b), (1, t), (8, 3 * j + t), (1, i)], [], (m', none))) 0 (cn s t) (fun i m' => Rep m' j (meC s b (12 * t + i)) ∧ sm (gB j) m1 m') ?_ ?_ (cn_b hV (by omega)).1 (by rw [Int.add_zero]; exact ⟨i1, i2⟩)
        · intro i m3 g1 g2 ⟨j1, j2⟩ hk2
          obtain ⟨hp, p1, p2, p3⟩ := Pin_c hV (by omega) ⟨g1, g2⟩
          have cb := cn_b hV (t := t) (by omega)
          have hm := cl_howMany (VV_0 (D := fun v => (br s).2.2.2.2.2.2 v = b ∧ v < 12 * t + i) hV) j1 (t := t) (by omega)
          have ecn : cn (wrw s (fun v => (br s).2.2.2.2.2.2 v = b ∧ v < 12 * t + i) (fun _ => 0)) t = cn s t := by
            have wo : wro s (wrw s (fun v => (br s).2.2.2.2.2.2 v = b ∧ v < 12 * t + i) (fun _ => 0)) := wrw_wro
            have q39 := wro_t wo (t := t) (w := 39) (by omega) (by omega) (by omega)
            have q43 := wro_t wo (t := t) (w := 43) (by omega) (by omega) (by omega)
            unfold cn
            rw [q39, q43]
          rw [ecn] at hm
          have nu := cl_numberOf (rB_gB hB0 j2) (t := t) (i := i) (by omega) (by omega) hp (SB2 _ hp).1
          rw [sg_X7_mendBridge_58]
          simp (disch := first | omega | assumption) only [↓if_pos, ↓if_neg, Option.bind_some, ob_wr_id, hm, sg_X7_mendBridge_64, nu, sg_X7_mendBridge_77]
          by_cases k : (br s).2.2.2.2.2.2 (12 * t + i) = b
          · rw [if_pos k]
            simp (disch := first | omega | assumption) only [↓if_pos, ↓if_neg, Option.bind_some, ob_wr_id, sg_X7_mendBridge_89]
            refine hk2 (ob_set m3 34 (3 * j + t) i 0) ⟨?_, sm_set j2 (Or.inr (Or.inr ⟨by omega, by omega⟩))⟩
            have hp' : Pin (meC s b (12 * t + i)) (12 * t + i) := (Pin_w wrw_wro).mpr hp
            have R := Rep_w1 (x := 0) (VV_0 (D := fun v => (br s).2.2.2.2.2.2 v = b ∧ v < 12 * t + i) hV) j1 hp'
            rw [show (12 * t + i) / 12 = t by omega, show (12 * t + i) % 12 = i by omega] at R
            have e : up (wrw s (fun v => (br s).2.2.2.2.2.2 v = b ∧ v < 12 * t + i) (fun _ => 0)) (wpo (12 * t + i)) 0 = meC s b (12 * t + (i + 1)) := wrw_s (g := fun _ => 0) hp (fun w hw => by
              constructor
              · intro z
                by_cases e : w = 12 * t + i
                · exact Or.inr e
                · exact Or.inl ⟨z.1, by omega⟩
              · rintro (z | z)
                · exact ⟨z.1, by omega⟩
                · rw [z]
                  exact ⟨k, by omega⟩)
            rw [← e]
            exact R
          · rw [if_neg k]
            simp (disch := first | omega | assumption) only [↓if_pos, ↓if_neg, Option.bind_some, ob_wr_id, sg_X7_mendBridge_89]
            refine hk2 m3 ⟨?_, j2⟩
            have e : meC s b (12 * t + i) = meC s b (12 * t + (i + 1)) := wrw_c (fun w hw => by
              constructor
              · intro z
                exact ⟨z.1, by omega⟩
              · intro z
                by_cases e : w = 12 * t + i
                · rw [e] at z
                  exact absurd z.1 k
                · exact ⟨z.1, by omega⟩)
            rw [← e]
            exact j1
        · intro m3 ⟨j1, j2⟩
          have cb := cn_b hV (t := t) (by omega)
          have hm := cl_howMany (VV_0 (D := fun v => (br s).2.2.2.2.2.2 v = b ∧ v < 12 * t + cn s t) hV) j1 (t := t) (by omega)
          have ecn : cn (wrw s (fun v => (br s).2.2.2.2.2.2 v = b ∧ v < 12 * t + cn s t) (fun _ => 0)) t = cn s t := by
            have wo : wro s (wrw s (fun v => (br s).2.2.2.2.2.2 v = b ∧ v < 12 * t + cn s t) (fun _ => 0)) := wrw_wro
            have q39 := wro_t wo (t := t) (w := 39) (by omega) (by omega) (by omega)
            have q43 := wro_t wo (t := t) (w := 43) (by omega) (by omega) (by omega)
            unfold cn
            unfold cn at q39 q43
            rw [q39, q43]
          rw [ecn] at hm
          rw [sg_X7_mendBridge_58]
          simp (disch := first | omega | assumption) only [↓if_pos, ↓if_neg, Option.bind_some, ob_wr_id, hm, sg_X7_mendBridge_64]
          refine hk (m3, (8, 3 * j + t), (1, cn s t)) ⟨?_, j2⟩
          have e : meC s b (12 * t + cn s t) = meC s b (12 * (t + 1)) := wrw_c (fun w hw => by
            constructor
            · intro z
              exact ⟨z.1, by omega⟩
            · intro z
              refine ⟨z.1, ?_⟩
              by_cases e : w < 12 * t
              · omega
              · have q := c_Pin hw
                rw [show w / 12 = t by omega] at q
                omega)
          show Rep m3 j _
          rw [← e]
          exact j1
      · intro ⟨m2, y1, y2⟩ ⟨i1, i2⟩
        have i1 : Rep m2 j (meC s b (12 * s 2)) := i1
        have i2 : sm (gB j) m1 m2 := i2
        have e7 : m2 7 0 0 = j := by rw [i2 7 0 0 (fun z => by rcases z with ⟨z1, z2⟩ | ⟨z1, z2⟩ | ⟨z1, z2⟩ <;> omega), f7]
        have e2 : m2 0 j 2 = s 2 := by
          rw [rpT i1]
          exact wrw_o (Or.inl (by omega))
        have e19 := ((rB_gB hB0 i2).2.1 b (by omega) d).2.2.2.2
        show wp (ob_E (122, 34, [(10, 0), (1, b), (1, s 2), y1, y2], [], (m2, none))) _
        rw [sg_X7_mendBridge_34, e7, e2, if_neg (by omega), if_pos (by omega), e19]
        have e : meC s b (12 * s 2) = meS s b := wrw_c (fun w hw => ⟨fun z => z.1, fun z => ⟨z, by have := hw.2.1; omega⟩⟩)
        refine wp_ret (Or.inr (Or.inr ⟨⟨by omega, d⟩, rfl, m1, s1, i2, ?_⟩))
        rw [← e]
        exact i1
      · have e : meC s b (12 * 0) = s := by
          funext x
          exact wrw_n (fun v hv z => by have := z.2; have := hv.1; omega)
        rw [e]
        exact R1
    · rw [if_neg d]
      exact wp_ret (Or.inr (Or.inl ⟨by omega, rfl, s1⟩))
theorem RF_fs {m m1 : ob_Mem} {c : Int} (h : fs m m1) : RF m c (rfs m1 c) := by
  have e : ∀ (k : Nat) (i : Int), k = 43 ∨ k = 44 ∨ k = 40 ∨ k = 41 → m1 k i = m k i := fun k i hk => by
    funext x
    exact h k i x (by omega)
  obtain ⟨a1, a2, a3, a4, a5, a6⟩ := RF_rfs (m := m1) (c := c)
  rw [e 43 0 (by omega)] at a1
  rw [e 44 0 (by omega)] at a2
  rw [e 40 0 (by omega)] at a3
  rw [e 41 0 (by omega)] at a4
  exact ⟨a1, a2, a3, a4, by rw [a5]; exact h 8 0 3 (by omega), fun k i x q => by rw [a6 k i x q]; exact h k i x (by omega)⟩
theorem md_mends {W : Int} (m : ob_Mem) {b : Int} (hV : VV W (m 40 0)) (hn : 0 ≤ m 8 0 3 ∧ m 8 0 3 ≤ 5) : wp (ob_E (218, 0, [(11, 0), (1, b), (0, 0), (0, 0)], [], (m, none))) (fun v m' => (b < 0 ∧ v = -2 ∧ RF m (-2) m') ∨ ((0 ≤ b ∧ (br (m 40 0)).1 ≤ b) ∧ v = -3 ∧ RF m (-3) m') ∨ ((0 ≤ b ∧ b < (br (m 40 0)).1) ∧ v = (br (m 40 0)).2.2.2.2.2.1 b ∧ Chg m (meS (m 40 0) b) m')) := by
  rw [sg_X8_mends_0]
  by_cases c : b < 0
  · simp (disch := first | omega | assumption) only [↓if_pos, ↓if_neg, Option.bind_some, ob_wr_id, md_refuses, sg_X8_mends_10]
    exact wp_ret (Or.inl ⟨c, rfl, RF_rfs⟩)
  · rw [if_neg c]
    refine wp_b (md_laysBridges m hV) (fun _ m1 h1 => ?_)
    obtain ⟨g1, g2, g3⟩ := h1
    have er := fs_row g3
    obtain ⟨SB1, SB2⟩ := SI_br hV
    generalize hs : m 40 0 = s at *
    have e54 := fun d => (g2.2.1 b (by omega) d).2.2.2.2
    rw [sg_X8_mends_15, g2.1]
    by_cases d : b < (br s).1
    · rw [if_pos d, if_pos (by omega)]
      have h83 := g3 8 0 3 (by omega)
      refine wp_b (md_keepF m1 (by omega)) (fun _ m2 h2 => ?_)
      obtain ⟨k1, k2⟩ := h2
      rw [er] at k2
      have kr := fk_row k1
      have P2 : PP s m m2 := PP_c k2 h83.symm (fun x => (g3 41 0 x (by omega)).symm) rfl (fun _ => rfl)
      have F2 : fa m m2 := fa_t (fun k i x q => g3 k i x (by omega)) (fk_fa k1)
      have g1' : rP m2 s (Nn s) := rP_c g1 (k1 8 0 14 (by omega) (by omega)) (fun k x hk => k1 k 0 x (by omega) (by omega))
      have e49 : ∀ p, 0 ≤ p → p < Nn s → m2 49 0 p = (br s).2.2.2.2.2.2 (cp s p) := fun p a d => by
        rw [k1 49 0 p (by omega) (by omega)]
        exact g2.2.2 p a d (SB2 _ (cp_P hV ⟨a, d⟩)).1
      obtain ⟨c0, c1, c2, -⟩ := cns hV
      have hN : 0 ≤ Nn s ∧ Nn s ≤ 36 := by
        unfold Nn
        omega
      rw [sg_X8_mends_41, e54 d]
      refine wp_for (fun p (m' : ob_Mem) => ob_E (218, 43, [(11, 0), (1, b), (1, (br s).2.2.2.2.2.1 b), (1, p)], [], (m', none))) 0 (Nn s) (fun p m' => m' 40 0 = wrw s (fun v => (br s).2.2.2.2.2.2 v = b ∧ ∃ p', 0 ≤ p' ∧ p' < p ∧ cp s p' = v) (fun _ => 0) ∧ fR m2 m') ?_ ?_ hN.1 ⟨?_, sm_r⟩
      · intro p m3 l1 l2 ⟨i1, i2⟩ hk
        have i2' : ∀ k x, k ≠ 40 → m3 k 0 x = m2 k 0 x := fun k x hk => i2 k 0 x (fun z => hk z.1)
        obtain ⟨q1, q2, q3⟩ := g1'.2 p l1 l2
        have hp := cp_P hV ⟨l1, l2⟩
        have hb := hp.1
        have e14 : m3 8 0 14 = Nn s := (i2' 8 14 (by omega)).trans g1'.1
        have e9 : m3 49 0 p = (br s).2.2.2.2.2.2 (cp s p) := (i2' 49 p (by omega)).trans (e49 p l1 l2)
        have e6 : m3 46 0 p = cp s p / 12 := (i2' 46 p (by omega)).trans q1
        have e7 : m3 47 0 p = cp s p % 12 := (i2' 47 p (by omega)).trans q2
        rw [sg_X8_mends_43]
        by_cases k : (br s).2.2.2.2.2.2 (cp s p) = b
        · simp (disch := first | omega | assumption) only [↓if_pos, ↓if_neg, Option.bind_some, ob_wr_id, e14, e9, e6, e7, k, md_set, sg_X8_mends_85]
          refine hk (ob_set m3 40 0 (12 + 116 * (cp s p / 12) + (44 + 4 * (cp s p % 12) + 3)) 0) ⟨?_, fR_set i2⟩
          rw [rw_e, i1]
          exact wrw_s (g := fun _ => 0) (v := cp s p) hp (fun w hw => by
            constructor
            · intro ⟨z, p', z1, z2, z3⟩
              by_cases e : p' = p
              · rw [e] at z3
                exact Or.inr z3.symm
              · exact Or.inl ⟨z, p', z1, by omega, z3⟩
            · rintro (⟨z, p', z1, z2, z3⟩ | z)
              · exact ⟨z, p', z1, by omega, z3⟩
              · rw [z]
                exact ⟨k, p, l1, by omega, rfl⟩)
        · simp (disch := first | omega | assumption) only [↓if_pos, ↓if_neg, Option.bind_some, ob_wr_id, e14, e9, sg_X8_mends_85]
          refine hk m3 ⟨?_, i2⟩
          rw [i1]
          exact wrw_c (fun w hw => by
            constructor
            · intro ⟨z, p', z1, z2, z3⟩
              exact ⟨z, p', z1, by omega, z3⟩
            · intro ⟨z, p', z1, z2, z3⟩
              by_cases e : p' = p
              · rw [e] at z3
                rw [← z3] at z
                exact absurd z k
              · exact ⟨z, p', z1, by omega, z3⟩)
      · intro m3 ⟨i1, i2⟩
        have e14 : m3 8 0 14 = Nn s := (i2 8 0 14 (fun z => absurd z.1 (by omega))).trans g1'.1
        rw [sg_X8_mends_43, e14, if_neg (by omega)]
        have eS : m3 40 0 = meS s b := by
          rw [i1]
          exact wrw_c (fun w hw => ⟨fun z => z.1, fun z => ⟨z, by
            obtain ⟨z1, z2, z3⟩ := cp_sur hV hw
            exact ⟨_, z2, z3, z1⟩⟩⟩)
        exact wp_ret (Or.inr (Or.inr ⟨⟨by omega, d⟩, rfl, Chg_x F2 (by rw [hs]; exact P2) (fun k i x a _ => i2 k i x (fun z => a z.1)) eS⟩))
      · rw [kr, er]
        funext x
        exact (wrw_n (fun v hv z => by obtain ⟨p', z1, z2, z3⟩ := z.2; omega)).symm
    · simp (disch := first | omega | assumption) only [↓if_pos, ↓if_neg, Option.bind_some, ob_wr_id, md_refuses, sg_X8_mends_29]
      exact wp_ret (Or.inr (Or.inl ⟨by omega, rfl, RF_fs g3⟩))
theorem ag_mends {W : Int} {m : ob_Mem} {b : Int} (hW : 0 ≤ W ∧ W ≤ 30000) (h : Inv W m) : Agr W W m (fun m => ob_E (103, 0, [(10, 0), (1, b)], [], (m, none))) (fun m => ob_E (218, 0, [(11, 0), (1, b), (0, 0), (0, 0)], [], (m, none))) := by
  obtain ⟨hV, hn⟩ := Inv_V h
  have nn : 0 ≤ b → b < (br (m 40 0)).1 → 0 ≤ (br (m 40 0)).2.2.2.2.2.1 b := fun a c => WI_br hW hV ⟨a, c⟩
  have hc : wp (ob_E (103, 0, [(10, 0), (1, b)], [], (m, none))) (fun v m' => lv m m' ∧ (∀ x, m' 2 0 x = m 2 0 x) ∧ ((b < 0 ∧ v = -2 ∧ CR W m (m 40 0) (m 40 0) (m 8 0 3) (fun i p => m 41 0 (360 * i + p)) (-2) m') ∨ ((0 ≤ b ∧ (br (m 40 0)).1 ≤ b) ∧ v = -3 ∧ CR W m (m 40 0) (m 40 0) (m 8 0 3) (fun i p => m 41 0 (360 * i + p)) (-3) m') ∨ ((0 ≤ b ∧ b < (br (m 40 0)).1) ∧ v = (br (m 40 0)).2.2.2.2.2.1 b ∧ CR W m (m 40 0) (meS (m 40 0) b) (m 8 0 3) (fun i p => m 41 0 (360 * i + p)) v m'))) := by
    rw [sg_X7_mends_0]
    refine wp_b (cl_remember h.1) (fun _ m1 h1 => ?_)
    obtain ⟨r1, r2, r3⟩ := h1
    have l1 : lv m m1 := lv_sm (sm_m r3 (fun k i => Or.inr))
    have e1 : ∀ k i x, k = 7 ∨ k = 2 → m1 k i x = m k i x := fun k i x hk => r3 k i x (fun z => by rcases z with ⟨z1, z2⟩ | ⟨z1, z2⟩ | ⟨z1, z2⟩ <;> omega)
    rw [sg_X7_mends_4]
    refine wp_b (cl_mendBridge rfl hV r1.1.2.2.1.2) (fun v m2 h2 => ?_)
    rw [sg_X7_mends_10]
    rcases h2 with ⟨c, rfl, rfl⟩ | ⟨c, rfl, s2⟩ | ⟨c, rfl, m3, s3, s2, R2⟩
    · refine wp_b (cl_changed r1 (fun _ => ⟨by omega, r1.1⟩)) (fun v' m3 h3 => ?_)
      obtain ⟨rfl, c3, c4⟩ := h3
      rw [sg_X7_mends_13]
      refine wp_ret ⟨lv_t l1 (fun k i x hk => c4 k i x (by omega) (by omega)), fun x => by rw [c4 2 0 x (by omega) (by omega), e1 2 0 x (by omega)], Or.inl ⟨c, rfl, ?_⟩⟩
      rcases c3 with ⟨d1, d2, d3, d4⟩ | ⟨d1, -⟩
      · exact Or.inl ⟨d1, d2, d3, fun x p q => by rw [d4 x p q, e1 7 0 x (by omega)]⟩
      · omega
    · have P2 := PC_br r1 s2
      have e3 : ∀ k x, k = 7 ∨ k = 2 → m2 k 0 x = m k 0 x := fun k x hk => by
        rw [s2 k 0 x (by omega), e1 k 0 x (by omega)]
      refine wp_b (cl_changed P2 (fun _ => ⟨by omega, P2.1⟩)) (fun v' m3 h3 => ?_)
      obtain ⟨rfl, c3, c4⟩ := h3
      rw [sg_X7_mends_13]
      refine wp_ret ⟨lv_t (lv_t l1 (lv_br s2)) (fun k i x hk => c4 k i x (by omega) (by omega)), fun x => by rw [c4 2 0 x (by omega) (by omega), e3 2 x (by omega)], Or.inr (Or.inl ⟨c, rfl, ?_⟩)⟩
      rcases c3 with ⟨d1, d2, d3, d4⟩ | ⟨d1, -⟩
      · exact Or.inl ⟨d1, d2, d3, fun x p q => by rw [d4 x p q, e3 7 x (by omega)]⟩
      · omega
    · have P3 := PC_br r1 s3
      have s2' : sm (fun k i => gA k i ∨ gB (m3 7 0 0) k i) m3 m2 := by
        rw [s3 7 0 0 (by omega)]
        exact sm_m s2 (fun k i z => Or.inr z)
      have P2 := PC_sm P3 s2' (VV_0 (D := fun v => (br (m 40 0)).2.2.2.2.2.2 v = b) hV) (by rw [s3 7 0 0 (by omega)]; exact R2)
      have e3 : ∀ k x, k = 7 ∨ k = 2 → m2 k 0 x = m k 0 x := fun k x hk => by
        rw [s2 k 0 x (fun z => by rcases z with ⟨z1, z2⟩ | ⟨z1, z2⟩ | ⟨z1, z2⟩ <;> omega), s3 k 0 x (by omega), e1 k 0 x (by omega)]
      have n0 := nn c.1 c.2
      refine wp_b (cl_changed P2 (fun z => absurd z (by omega))) (fun v' m4 h4 => ?_)
      obtain ⟨rfl, c3, c4⟩ := h4
      rw [sg_X7_mends_13]
      refine wp_ret ⟨lv_t (lv_t (lv_t l1 (lv_br s3)) (lv_sm s2')) (fun k i x hk => c4 k i x (by omega) (by omega)), fun x => by rw [c4 2 0 x (by omega) (by omega), e3 2 x (by omega)], Or.inr (Or.inr ⟨c, rfl, ?_⟩)⟩
      rcases c3 with ⟨d1, -⟩ | ⟨d1, d2, d3⟩
      · omega
      · exact Or.inr ⟨d1, d2, fun x p q => by rw [d3 x p q, e3 7 x (by omega)]⟩
  obtain ⟨v, m1, e1, l1, e2', c1⟩ := hc
  have er : m1 40 0 = m 40 0 := lv_r l1 (by omega)
  obtain ⟨v', m2, e2, d⟩ := md_mends (W := W) m1 (b := b) (by rw [er]; exact hV) (by rw [l1 8 0 3 (by omega)]; exact hn)
  rw [er] at d
  rcases c1 with ⟨a1, rfl, a3⟩ | ⟨a1, rfl, a3⟩ | ⟨a1, rfl, a4⟩
  · rcases d with ⟨b1, rfl, b3⟩ | ⟨b1, -⟩ | ⟨b1, -⟩
    · refine ⟨-2, m1, m2, e1, e2, ?_, fun k i x hk => ⟨l1 k i x (by omega), by rw [b3.2.2.2.2.2 k i x (by omega), l1 k i x (by omega)]⟩⟩
      rcases a3 with ⟨d1, d2, d3, d4⟩ | ⟨d1, -⟩
      · exact J_ref h l1 d2 d3 d4 e2' b3
      · omega
    · omega
    · omega
  · rcases d with ⟨b1, -⟩ | ⟨b1, rfl, b3⟩ | ⟨b1, -⟩
    · omega
    · refine ⟨-3, m1, m2, e1, e2, ?_, fun k i x hk => ⟨l1 k i x (by omega), by rw [b3.2.2.2.2.2 k i x (by omega), l1 k i x (by omega)]⟩⟩
      rcases a3 with ⟨d1, d2, d3, d4⟩ | ⟨d1, -⟩
      · exact J_ref h l1 d2 d3 d4 e2' b3
      · omega
    · omega
  · rcases d with ⟨b1, -⟩ | ⟨b1, -⟩ | ⟨b1, rfl, b4⟩
    · omega
    · omega
    · refine ⟨_, m1, m2, e1, e2, ?_, fun k i x hk => ⟨l1 k i x (by omega), by rw [b4.1 k i x (by omega), l1 k i x (by omega)]⟩⟩
      have n0 := nn b1.1 b1.2
      rcases a4 with ⟨d1, -⟩ | ⟨d1, d2, d3⟩
      · omega
      · exact J_done (Int.le_refl _) h l1 d2 d3 e2' b4
