-- READS: the model's reads
theorem md_keepsAside (m : ob_Mem) (hn : 0 ≤ m 8 0 3 ∧ m 8 0 3 ≤ 5) : wp (ob_E (233, 0, [(11, 0), (0, 0), (0, 0)], [], (m, none))) (fun _ m' => m' 40 0 = m 40 0 ∧ (∀ k i x, k ≠ 40 → k ≠ 41 → k ≠ 42 → ¬ (k = 8 ∧ x = 3) → m' k i x = m k i x) ∧ ∀ S : Int → Int, (∀ p, 0 ≤ p → p < 360 → m 42 0 p = S p) → PP S m m') := by
  rw [sg_X8_keepsAside_0]
  refine wp_for (fun y (z : ob_Mem × ob_AV) => ob_E (233, 2, [(11, 0), (1, y), z.2], [], (z.1, none))) 0 360 (fun y z => (∀ k i x, ¬ ((k = 40 ∨ k = 42) ∧ i = 0 ∧ 0 ≤ x ∧ x < y) → z.1 k i x = m k i x) ∧ ∀ p, 0 ≤ p → p < y → z.1 40 0 p = m 42 0 p ∧ z.1 42 0 p = m 40 0 p) ?_ ?_ (by omega) (x := (m, (0, 0))) ⟨fun _ _ _ _ => rfl, fun p a b => absurd a (by omega)⟩
  · intro y ⟨m1, z⟩ y1 y2 ⟨i1, i2⟩ hk
    have e40 : m1 40 0 y = m 40 0 y := i1 40 0 y (by omega)
    have e42 : m1 42 0 y = m 42 0 y := i1 42 0 y (by omega)
    show wp (ob_E (233, 2, [(11, 0), (1, y), z], [], (m1, none))) _
    rw [sg_X8_keepsAside_2]
    simp (disch := first | omega | assumption) only [↓if_pos, ↓if_neg, Option.bind_some, ob_wr_id, e40, e42]
    refine hk (ob_set (ob_set m1 40 0 y (m 42 0 y)) 42 0 y (m 40 0 y), (1, m 40 0 y)) ⟨fun k i x q => ?_, fun p a b => ?_⟩
    · show ob_set (ob_set m1 40 0 y (m 42 0 y)) 42 0 y (m 40 0 y) k i x = _
      rw [← i1 k i x (by omega)]
      by_cases w1 : k = 42
      · by_cases w2 : i = 0
        · rw [rs_s (by omega), rs_k (by omega)]
        · rw [rs_i w2, rs_k (by omega)]
      · rw [rs_k w1]
        by_cases w3 : k = 40
        · by_cases w2 : i = 0
          · rw [rs_s (by omega)]
          · rw [rs_i w2]
        · rw [rs_k w3]
    · show ob_set (ob_set m1 40 0 y (m 42 0 y)) 42 0 y (m 40 0 y) 40 0 p = _ ∧ ob_set (ob_set m1 40 0 y (m 42 0 y)) 42 0 y (m 40 0 y) 42 0 p = _
      by_cases e : p = y
      · subst e
        exact ⟨by rw [rs_k (by omega), rs_e rfl rfl], rs_e rfl rfl⟩
      · rw [rs_k (by omega), rs_s e, rs_s e, rs_k (by omega)]
        exact i2 p a (by omega)
  · intro ⟨m1, z⟩ ⟨i1, i2⟩
    have i1 : ∀ k i x, ¬ ((k = 40 ∨ k = 42) ∧ i = 0 ∧ 0 ≤ x ∧ x < 360) → m1 k i x = m k i x := i1
    have i2 : ∀ p, 0 ≤ p → p < 360 → m1 40 0 p = m 42 0 p ∧ m1 42 0 p = m 40 0 p := i2
    show wp (ob_E (233, 2, [(11, 0), (1, 360), z], [], (m1, none))) _
    have e83 := i1 8 0 3 (by omega)
    rw [sg_X8_keepsAside_2, if_neg (by omega)]
    refine wp_b (md_keepF m1 (by omega)) (fun _ m2 h2 => ?_)
    obtain ⟨k1, k2⟩ := h2
    rw [sg_X8_keepsAside_45]
    refine wp_for (fun y (m' : ob_Mem) => ob_E (233, 47, [(11, 0), (1, y), z], [], (m', none))) 0 360 (fun y m' => (∀ k i x, ¬ (k = 40 ∧ i = 0 ∧ 0 ≤ x ∧ x < y) → m' k i x = m2 k i x) ∧ ∀ p, 0 ≤ p → p < y → m' 40 0 p = m 40 0 p) ?_ ?_ (by omega) ⟨fun _ _ _ _ => rfl, fun p a b => absurd a (by omega)⟩
    · intro y m3 y1 y2 ⟨j1, j2⟩ hk
      have e42 : m3 42 0 y = m 40 0 y := by rw [j1 42 0 y (by omega), k1 42 0 y (by omega) (by omega), (i2 y y1 y2).2]
      rw [sg_X8_keepsAside_47]
      simp (disch := first | omega | assumption) only [↓if_pos, ↓if_neg, Option.bind_some, ob_wr_id, e42]
      refine hk (ob_set m3 40 0 y (m 40 0 y)) ⟨fun k i x q => ?_, fun p a b => ?_⟩
      · rw [← j1 k i x (by omega)]
        by_cases w3 : k = 40
        · by_cases w2 : i = 0
          · rw [rs_s (by omega)]
          · rw [rs_i w2]
        · rw [rs_k w3]
      · by_cases e : p = y
        · rw [e, rs_e rfl rfl]
        · rw [rs_s e, j2 p a (by omega)]
    · intro m3 ⟨j1, j2⟩
      rw [sg_X8_keepsAside_47, if_neg (by omega)]
      refine wp_ret ⟨?_, fun k i x a b c d => ?_, fun S hS => ?_⟩
      · funext p
        by_cases e : 0 ≤ p ∧ p < 360
        · exact j2 p e.1 e.2
        · rw [j1 40 0 p (by omega), k1 40 0 p (by omega) (by omega), i1 40 0 p (by omega)]
      · rw [j1 k i x (by omega), k1 k i x b d, i1 k i x (by omega)]
      · have c1 := PP_c k2 e83.symm (fun x => (i1 41 0 x (by omega)).symm) (j1 8 0 3 (by omega)) (fun x => j1 41 0 x (by omega))
        obtain ⟨c2, c3, c4⟩ := c1
        exact ⟨c2, c3, fun p a b => by rw [c4 p a b, (i2 p a b).1, hS p a b]⟩
theorem nfo_i {N : Int → Int} {t : Int} {q : Int × (Int → Int)} (h : -4 ≤ q.1 ∧ q.1 ≤ 0 ∧ q.1 ≠ -1) (n : Nat) : -4 ≤ (nfo N t q n).1 ∧ (nfo N t q n).1 ≤ 0 ∧ (nfo N t q n).1 ≠ -1 := fo_inv (fun q : Int × (Int → Int) => -4 ≤ q.1 ∧ q.1 ≤ 0 ∧ q.1 ≠ -1) h n (fun j _ _ x hx => by
  unfold nf
  by_cases c : x.1 < 0
  · rw [if_pos c]
    exact hx
  · rw [if_neg c]
    have := cNote_i x.2 t (N (2 + 3 * j)) (N (3 + 3 * j)) (N (4 + 3 * j))
    show -4 ≤ cNote _ _ _ _ _ ∧ cNote _ _ _ _ _ ≤ 0 ∧ cNote _ _ _ _ _ ≠ -1
    omega)
theorem oF_i {W : Int} {s : Int → Int} {c cnt : Int} {N : Int → Int} (hV : VV W s) : -4 ≤ (oF s c N cnt).1 ∧ (oF s c N cnt).1 ≤ 0 ∧ (oF s c N cnt).1 ≠ -1 := by
  refine nfo_i ?_ _
  show -4 ≤ cd _ ∧ cd _ ≤ 0 ∧ cd _ ≠ -1
  have d := d_vs (c := c) (x := N 0) (y := N 1) hV
  unfold cd
  by_cases z : dV s c (N 0) (N 1) < 0
  · rw [if_pos z]
    have := (d z).1
    omega
  · rw [if_neg z]
    omega
theorem VV_nfo {W : Int} {N : Int → Int} {t : Int} {q : Int × (Int → Int)} (h : VV W q.2) (n : Nat) : VV W (nfo N t q n).2 := fo_inv (fun q : Int × (Int → Int) => VV W q.2) h n (fun j _ _ x hx => by
  unfold nf
  by_cases c : x.1 < 0
  · rw [if_pos c]
    exact hx
  · rw [if_neg c]
    exact VV_n hx)
theorem VV_oF {W : Int} {s : Int → Int} {c cnt : Int} {N : Int → Int} (hW : 0 ≤ W) (hV : VV W s) : VV W (oF s c N cnt).2 := VV_nfo (VV_d hW hV) _
theorem VV_sQ {W : Int} {gF : ob_Mem} {s : Int → Int} (hW : 0 ≤ W) (hV : VV W s) (n : Nat) : VV W (sQ gF s n) := fo_inv (fun r => VV W r) hV n (fun j _ _ x hx => VV_oF hW hx)
/-- the cause of an order that stopped -/
def YK (s : Int → Int) (c x v : Int) (k a b : Int) : Prop := (c = 112 ∧ v = -3 ∧ CP s x k a b) ∨ (¬ (c = 112 ∧ v = -3) ∧ k = (if v = -2 then 5 else if v = -3 then 6 else 7) ∧ a = 0 ∧ b = 0)
def okQ (gF : ob_Mem) (s : Int → Int) (n : Int) : Prop := ∀ k, 0 ≤ k → k < n → ¬ (oR gF (sQ gF s k.toNat) k).1 < 0
theorem md_reads {T : Int → Int} {W L V : Int} {g0 gF μ : ob_Mem} {R : ob_Res} (hW : 0 ≤ W) (hB : TB T L) (hx : TX T L g0) (hM : MT T L μ) (hp : PZ L 0 0 g0) (h : XP 0 0 g0 R) (ho : g0 6 0 7 = 0) (hO : g0 6 0 1 = 0) (hR : R = some (V, (gF, none))) (hV : VV W (μ 40 0)) (hn : 0 ≤ μ 8 0 3 ∧ μ 8 0 3 ≤ 5) : wp (ob_E (232, 0, [(11, 0), (0, 0), (0, 0), (0, 0)], [], (μ, none))) (fun v μ' => (V ≠ -1 ∧ v = ob_wr (-10 - V) ∧ FX μ μ' ∧ μ' 40 0 = μ 40 0) ∨ (V = -1 ∧ 1 ≤ gF 6 0 1 ∧ okQ gF (μ 40 0) (gF 6 0 1) ∧ (∀ k, 0 ≤ k → k < gF 6 0 1 → DK gF k) ∧ v = gF 6 0 1 ∧ Chg μ (sQ gF (μ 40 0) (gF 6 0 1).toNat) μ') ∨ (V = -1 ∧ ∃ k, 0 ≤ k ∧ k < gF 6 0 1 ∧ okQ gF (μ 40 0) k ∧ (∀ k', 0 ≤ k' → k' < k + 1 → DK gF k') ∧ (oR gF (sQ gF (μ 40 0) k.toNat) k).1 < 0 ∧ v = ob_wr (-1000 - k) ∧ (∀ p, 0 ≤ p → p < 360 → μ' 40 0 p = μ 40 0 p) ∧ (∀ k i x, k ≠ 40 → k ≠ 56 → k ≠ 42 → k ≠ 44 → ¬ (k = 8 ∧ (x = 23 ∨ x = 25 ∨ x = 6 ∨ x = 7 ∨ x = 8)) → μ' k i x = μ k i x) ∧ μ' 44 0 3 = k ∧ YK (sQ gF (μ 40 0) k.toNat) (gF 35 0 k) (gF 38 0 (gF 37 0 k + 0)) (oR gF (sQ gF (μ 40 0) k.toNat) k).1 (μ' 44 0 0) (μ' 44 0 1) (μ' 44 0 2))) := by
  obtain ⟨b1, b2⟩ := id hB
  refine md_pass1 hW hB hx hM hp h ho hO (fun μ1 a1 F1 R1 h1 => ?_)
  rw [sg_X8_reads_32]
  rcases h1 with ⟨rfl, z1, g', z2⟩ | ⟨rfl, g', z2⟩
  · rw [hR] at z2
    injection z2 with z2
    injection z2 with z2
    rw [if_pos rfl]
    exact wp_ret (Or.inl ⟨by omega, by rw [z2], F1, R1⟩)
  · rw [hR] at z2
    injection z2 with z2
    injection z2 with z2 z3
    subst z2
    rw [if_neg (by omega)]
    refine wp_for (fun y (m' : ob_Mem) => ob_E (232, 46, [(11, 0), (1, 1), (1, y), (0, 0)], [], (m', none))) 0 360 (fun y m' => (∀ k i x, k ≠ 42 → m' k i x = μ1 k i x) ∧ ∀ p, 0 ≤ p → p < y → m' 42 0 p = μ 40 0 p) ?_ ?_ (by omega) ⟨fun _ _ _ _ => rfl, fun p a b => absurd a (by omega)⟩
    · intro y m3 y1 y2 ⟨j1, j2⟩ hk
      have e40 : m3 40 0 y = μ 40 0 y := by rw [j1 40 0 y (by omega), R1]
      rw [sg_X8_reads_46, if_pos y2, if_pos ⟨y1, y2⟩, if_pos ⟨y1, y2⟩, e40, ob_wr_id (by omega) (by omega)]
      refine hk (ob_set m3 42 0 y (μ 40 0 y)) ⟨fun k i x q => by rw [rs_k q, j1 k i x q], fun p a b => ?_⟩
      by_cases e : p = y
      · rw [e, rs_e rfl rfl]
      · rw [rs_s e, j2 p a (by omega)]
    · intro m3 ⟨j1, j2⟩
      rw [sg_X8_reads_46, if_neg (by omega)]
      have c4 : ∀ k i x, ¬ (k = 8 ∧ (x = 23 ∨ x = 25)) → ob_set (ob_set m3 8 0 23 0) 8 0 25 0 k i x = m3 k i x := fun k i x q => by
        by_cases y : k = 8
        · rw [rs_s (by omega), rs_s (by omega)]
        · rw [rs_k y, rs_k y]
      have p23 : ob_set (ob_set m3 8 0 23 0) 8 0 25 0 8 0 23 = 0 := by rw [rs_s (by omega), rs_e rfl rfl]
      have p25 : ob_set (ob_set m3 8 0 23 0) 8 0 25 0 8 0 25 = 0 := rs_e rfl rfl
      generalize ob_set (ob_set m3 8 0 23 0) 8 0 25 0 = m4 at *
      have F4 : ∀ k i x, k ≠ 40 → k ≠ 56 → k ≠ 42 → ¬ (k = 8 ∧ (x = 23 ∨ x = 25 ∨ x = 6 ∨ x = 7 ∨ x = 8)) → m4 k i x = μ k i x := fun k i x a b c d => by rw [c4 k i x (by omega), j1 k i x c, F1 k i x a b d]
      have r4 : m4 40 0 = μ 40 0 := by
        funext p
        rw [c4 40 0 p (by omega), j1 40 0 p (by omega), R1]
      have a4 : ∀ p, 0 ≤ p → p < 360 → m4 42 0 p = μ 40 0 p := fun p a b => by rw [c4 42 0 p (by omega), j2 p a b]
      have M4 : MT T L m4 := ⟨(F4 8 0 22 (by omega) (by omega) (by omega) (by omega)).trans hM.1, fun i a b => (F4 55 0 i (by omega) (by omega) (by omega) (by omega)).trans (hM.2 i a b)⟩
      refine md_pass2 hW hB hx M4 hp h ho hO hR (by rw [r4]; exact hV) p23 p25 (fun μ2 a1 F2 t1 t2 t3 t4 t5 => ?_) (fun μ2 a1 k F2 k0 k1 t1 t2 t3 t4 t5 => ?_)
      · rw [r4] at t1 t4
        rw [sg_X8_reads_87, if_pos rfl]
        have e83 : μ2 8 0 3 = μ 8 0 3 := by rw [F2 8 0 3 (by omega) (by omega) (by omega), F4 8 0 3 (by omega) (by omega) (by omega) (by omega)]
        refine wp_b (md_keepsAside μ2 (by omega)) (fun _ μ3 h3 => ?_)
        obtain ⟨s1, s2, s3⟩ := h3
        rw [sg_X8_reads_195]
        refine wp_ret (Or.inr (Or.inl ⟨rfl, t3, t4, t5, rfl, fun k i x q => ?_, s1.trans t1, PP_c (s3 (μ 40 0) (fun p a b => ?_)) e83.symm (fun x => ?_) rfl (fun _ => rfl)⟩))
        · rw [s2 k i x (by omega) (by omega) (by omega) (by omega), F2 k i x (by omega) (by omega) (by omega), F4 k i x (by omega) (by omega) (by omega) (by omega)]
        · rw [F2 42 0 p (by omega) (by omega) (by omega), a4 p a b]
        · rw [F2 41 0 x (by omega) (by omega) (by omega), F4 41 0 x (by omega) (by omega) (by omega) (by omega)]
      · rw [r4] at t1 t2 t3 t4
        have ci := oF_i (c := gF 35 0 k) (N := fun y => gF 38 0 (gF 37 0 k + y)) (cnt := gF 37 0 (k + 1) - gF 37 0 k) (VV_sQ (gF := gF) hW hV k.toNat)
        have ci : -4 ≤ (oR gF (sQ gF (μ 40 0) k.toNat) k).1 ∧ (oR gF (sQ gF (μ 40 0) k.toNat) k).1 ≤ 0 ∧ (oR gF (sQ gF (μ 40 0) k.toNat) k).1 ≠ -1 := ci
        refine wp_for (fun y (m' : ob_Mem) => ob_E (232, 106, [(11, 0), (1, a1), (1, k), (1, y)], [], (m', none))) 0 360 (fun y m' => (∀ k i x, k ≠ 40 → m' k i x = μ2 k i x) ∧ ∀ p, 0 ≤ p → p < y → m' 40 0 p = μ 40 0 p) ?_ ?_ (by omega) ⟨fun _ _ _ _ => rfl, fun p a b => absurd a (by omega)⟩
        · intro y m5 y1 y2 ⟨q1, q2⟩ hk
          have e42 : m5 42 0 y = μ 40 0 y := by rw [q1 42 0 y (by omega), F2 42 0 y (by omega) (by omega) (by omega), a4 y y1 y2]
          rw [sg_X8_reads_106, if_pos y2, if_pos ⟨y1, y2⟩, if_pos ⟨y1, y2⟩, e42, ob_wr_id (by omega) (by omega)]
          refine hk (ob_set m5 40 0 y (μ 40 0 y)) ⟨fun k i x q => by rw [rs_k q, q1 k i x q], fun p a b => ?_⟩
          by_cases e : p = y
          · rw [e, rs_e rfl rfl]
          · rw [rs_s e, q2 p a (by omega)]
        · intro m5 ⟨q1, q2⟩
          have e25 := (q1 8 0 25 (by omega)).trans t2
          have e6 := q1 8 0 6 (by omega)
          have e7 := q1 8 0 7 (by omega)
          have e8 := q1 8 0 8 (by omega)
          unfold YO at t4
          rw [t2] at t4
          generalize hcc : (oR gF (sQ gF (μ 40 0) k.toNat) k).1 = cc at *
          -- which cause
          have go : ∃ kk a b, YK (sQ gF (μ 40 0) k.toNat) (gF 35 0 k) (gF 38 0 (gF 37 0 k + 0)) cc kk a b ∧ (if kk < 3 then m5 8 0 7 else 0) = a ∧ (if kk < 3 then m5 8 0 8 else 0) = b ∧ ob_E (232, 106, [(11, 0), (1, a1), (1, k), (1, 360)], [], (m5, none)) = ob_E (232, 175, [(11, 0), (1, a1), (1, k), (1, 360)], [(1, kk), (11, 0)], (m5, none)) := by
            rcases t4 with ⟨y1, y2, kk, a, b, y3, y4, y5, y6⟩ | ⟨y1, y2⟩
            · refine ⟨kk, a, b, Or.inl ⟨y1, y2, y3⟩, ?_, ?_, ?_⟩
              · rcases y3 with ⟨-, w1, w2, w3⟩ | ⟨-, w1, -⟩ | ⟨-, -, w1, -⟩
                · rw [if_neg (by omega)]
                  omega
                · rw [if_pos (by omega)]
                  omega
                · rw [if_pos (by omega)]
                  omega
              · rcases y3 with ⟨-, w1, w2, w3⟩ | ⟨-, w1, -⟩ | ⟨-, -, w1, -⟩
                · rw [if_neg (by omega)]
                  omega
                · rw [if_pos (by omega)]
                  omega
                · rw [if_pos (by omega)]
                  omega
              · have kp : 0 < kk := by
                  rcases y3 with ⟨-, w1, w2, w3⟩ | ⟨-, w1, -⟩ | ⟨-, -, w1, -⟩ <;> omega
                rw [sg_X8_reads_106, e25, e6, y4]
                simp (disch := first | omega | assumption) only [↓if_pos, ↓if_neg, Option.bind_some, ob_wr_id]
            · refine ⟨(if cc = -2 then 5 else if cc = -3 then 6 else 7), 0, 0, Or.inr ⟨y1, rfl, rfl, rfl⟩, ?_, ?_, ?_⟩
              · rw [if_neg (by split <;> (try split) <;> omega)]
              · rw [if_neg (by split <;> (try split) <;> omega)]
              · rw [sg_X8_reads_106, e25, e6, y2]
                by_cases w : cc = -2
                · simp (disch := first | omega | assumption) only [↓if_pos, ↓if_neg, Option.bind_some, ob_wr_id]
                · by_cases w' : cc = -3
                  · simp (disch := first | omega | assumption) only [↓if_pos, ↓if_neg, Option.bind_some, ob_wr_id]
                  · have w'' : cc = -4 := by omega
                    simp (disch := first | omega | assumption) only [↓if_pos, ↓if_neg, Option.bind_some, ob_wr_id]
          obtain ⟨kk, a, b, g1, g2, g3, g4⟩ := go
          rw [g4, sg_X8_reads_175, md_blames, g2, g3]
          show wp (ob_E (232, 179, [(11, 0), (1, a1), (1, k), (1, 360)], [], (bla m5 kk a b k, none))) _
          have bl : ∀ k' i x, k' ≠ 44 → bla m5 kk a b k k' i x = m5 k' i x := fun k' i x z => by
            unfold bla
            simp (disch := omega) only [rs_k, rs_i, rs_s, rs_e, up_e, up_n]
          have z0 : bla m5 kk a b k 44 0 0 = kk := by
            unfold bla
            simp (disch := omega) only [rs_k, rs_i, rs_s, rs_e, up_e, up_n]
          have z1 : bla m5 kk a b k 44 0 1 = a := by
            unfold bla
            simp (disch := omega) only [rs_k, rs_i, rs_s, rs_e, up_e, up_n]
          have z2 : bla m5 kk a b k 44 0 2 = b := by
            unfold bla
            simp (disch := omega) only [rs_k, rs_i, rs_s, rs_e, up_e, up_n]
          have z3 : bla m5 kk a b k 44 0 3 = k := by
            unfold bla
            simp (disch := omega) only [rs_k, rs_i, rs_s, rs_e, up_e, up_n]
          rw [sg_X8_reads_179]
          refine wp_ret (Or.inr (Or.inr ⟨rfl, k, k0, k1, t1, t5, by rw [hcc]; exact t3, rfl, fun p a b => ?_, fun k' i x c1 c2 c3 c4 c5 => ?_, z3, ?_⟩))
          · rw [bl 40 0 p (by omega), q2 p a b]
          · rw [bl k' i x c4, q1 k' i x c1, F2 k' i x c1 c2 c5, F4 k' i x c1 c2 c3 c5]
          · rw [z0, z1, z2, hcc]
            exact g1
