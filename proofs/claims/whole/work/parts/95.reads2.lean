-- READS: the class's loop; joined
theorem cl_run {W n N : Int} {gF m1 : ob_Mem} {s : Int → Int} {P : Int → Int → Int} {K : Int → ob_Mem → Prop} (hW : 0 ≤ W) (hP : PC W m1 s s n P) (hT : TF gF m1) (h2 : ∀ x, m1 2 0 x = gF 2 0 x) (hN : 0 ≤ N ∧ N ≤ gF 6 0 1 ∧ N ≤ 120) (hD : ∀ k, 0 ≤ k → k < N → DK gF k) (hok : okQ gF s N) (hk : ∀ m2 a3, PC W m2 s (sQ gF s N.toNat) n P → TF gF m2 → (∀ x, m2 2 0 x = gF 2 0 x) → wp (ob_E (109, 24, [(10, 0), (1, -1), (1, N), a3], [], (m2, none))) K) : wp (ob_E (109, 24, [(10, 0), (1, -1), (1, 0), (0, 0)], [], (m1, none))) K := by
  refine wp_for (fun k (y : ob_Mem × ob_AV) => ob_E (109, 24, [(10, 0), (1, -1), (1, k), y.2], [], (y.1, none))) 0 N (fun k y => PC W y.1 s (sQ gF s k.toNat) n P ∧ TF gF y.1 ∧ ∀ x, y.1 2 0 x = gF 2 0 x) ?_ ?_ hN.1 (x := (m1, (0, 0))) ⟨hP, hT, h2⟩
  · intro k ⟨m2, y3⟩ k1 k2 ⟨i1, i2, i3⟩ hk2
    have i1 : PC W m2 s (sQ gF s k.toNat) n P := i1
    have i2 : TF gF m2 := i2
    have i3 : ∀ x, m2 2 0 x = gF 2 0 x := i3
    have ea : ∀ k x, k = 35 ∨ k = 37 ∨ k = 38 → m2 k 0 x = gF k 0 x := fun k x hk => i2 k 0 x (by omega)
    have VQ := VV_sQ (gF := gF) hW i1.2.1 k.toNat
    have b0 := i1.1.2.1.1 0 (by omega) (by omega)
    show wp (ob_E (109, 24, [(10, 0), (1, -1), (1, k), y3], [], (m2, none))) _
    rw [sg_X7_reads_24, i2 6 0 1 (by omega), if_pos (by omega)]
    refine wp_b (cl_obey rfl b0 hW VQ i1.1.2.2.1.2 (DK_c ea (hD k k1 k2)) k1) (fun v m3 h3 => ?_)
    unfold OY at h3
    rw [oR_c ea] at h3
    obtain ⟨o1, o2, o3, o4, o5⟩ := h3
    have nk := hok k k1 k2
    have v0 := o2 nk
    rw [sg_X7_reads_40, if_neg (by omega), ob_wr_id (by omega) (by omega)]
    refine hk2 (m3, (1, v)) ⟨?_, TF_A i2 o4, fun x => ?_⟩
    · rw [sQ_s k1]
      exact PC_sm i1 o4 (VV_oF hW VQ) o3
    · rcases o5 with ⟨-, z, -⟩ | ⟨-, z⟩
      · omega
      · exact (z x).trans (i3 x)
  · intro ⟨m2, y3⟩ ⟨i1, i2, i3⟩
    exact hk m2 y3 i1 i2 i3
theorem TF_lv {g m : ob_Mem} (h : TF g m) : lv g m := fun k i x hk => h k i x (by omega)
theorem J_fx {W : Int} {gF mE m2 : ob_Mem} (h : Inv W gF) (hC : CH W mE (gF 40 0) (gF 8 0 3) (fun i p => gF 41 0 (360 * i + p))) (hl : lv gF mE) (h7 : ∀ x, 8 ≤ x → x ≤ 10 → mE 7 0 x = gF 7 0 x) (hf : ∀ k i x, k ≠ 40 → k ≠ 56 → k ≠ 42 → k ≠ 44 → ¬ (k = 8 ∧ (x = 23 ∨ x = 25 ∨ x = 6 ∨ x = 7 ∨ x = 8)) → m2 k i x = mE k i x) (hr : ∀ p, 0 ≤ p → p < 360 → m2 40 0 p = mE 40 0 p) (hc : m2 2 0 1 = m2 44 0 0 ∧ m2 2 0 2 = m2 44 0 1 ∧ m2 2 0 3 = m2 44 0 2 ∧ m2 2 0 0 = m2 44 0 3) : Inv W m2 ∧ ∀ k i x, k = 14 ∨ k = 15 → m2 k i x = gF k i x := by
  obtain ⟨-, i2, i3, i4, i5, i6⟩ := id h
  have e83 : m2 8 0 3 = gF 8 0 3 := by rw [hf 8 0 3 (by omega) (by omega) (by omega) (by omega) (by omega), hl 8 0 3 (by omega)]
  have e22 : m2 8 0 22 = gF 8 0 22 := by rw [hf 8 0 22 (by omega) (by omega) (by omega) (by omega) (by omega), hl 8 0 22 (by omega)]
  refine ⟨⟨?_, fun x a b => ?_, hc, ?_, ?_, fun i a b => ?_⟩, fun k i x hk => by rw [hf k i x (by omega) (by omega) (by omega) (by omega) (by omega), hl k i x (by omega)]⟩
  · rw [e83]
    exact CH_m (Int.le_refl _) hC (fun k i x hk => hf k i x (by omega) (by omega) (by omega) (by omega) (by omega)) (fun p a b => by rw [hr p a b, hl 40 0 p (by omega)]) (fun i a b p _ _ => by rw [hf 41 0 _ (by omega) (by omega) (by omega) (by omega) (by omega), hl 41 0 _ (by omega)])
  · rw [hf 7 0 x (by omega) (by omega) (by omega) (by omega) (by omega), h7 x a b, hf 43 0 _ (by omega) (by omega) (by omega) (by omega) (by omega), hl 43 0 _ (by omega)]
    exact i2 x a b
  · rw [e22, hf 6 0 0 (by omega) (by omega) (by omega) (by omega) (by omega), hl 6 0 0 (by omega)]
    exact i4
  · rw [e22]
    exact i5
  · rw [e22] at b
    rw [hf 36 0 i (by omega) (by omega) (by omega) (by omega) (by omega), hl 36 0 i (by omega), hf 55 0 i (by omega) (by omega) (by omega) (by omega) (by omega), hl 55 0 i (by omega)]
    exact i6 i a b
theorem YK_u {s : Int → Int} {c x v k a b k' a' b' : Int} (h : YK s c x v k a b) (h' : YK s c x v k' a' b') : k = k' ∧ a = a' ∧ b = b' := by
  rcases h with ⟨h1, h2, h3⟩ | ⟨h1, h2, h3, h4⟩
  · rcases h' with ⟨-, -, h3'⟩ | ⟨h1', -⟩
    · exact CP_u h3 h3'
    · exact absurd ⟨h1, h2⟩ h1'
  · rcases h' with ⟨h1', h2', -⟩ | ⟨-, h2', h3', h4'⟩
    · exact absurd ⟨h1', h2'⟩ h1
    · exact ⟨h2.trans h2'.symm, h3.trans h3'.symm, h4.trans h4'.symm⟩
theorem cl_all {W n N : Int} {gF m1 : ob_Mem} {s : Int → Int} {P : Int → Int → Int} (hW : 0 ≤ W) (hP : PC W m1 s s n P) (hT : TF gF m1) (h2 : ∀ x, m1 2 0 x = gF 2 0 x) (hN : 0 ≤ N ∧ N = gF 6 0 1 ∧ N ≤ 120) (hD : ∀ k, 0 ≤ k → k < N → DK gF k) (hok : okQ gF s N) : wp (ob_E (109, 24, [(10, 0), (1, -1), (1, 0), (0, 0)], [], (m1, none))) (fun v mE => v = N ∧ CH W mE (sQ gF s N.toNat) (if n = 5 then 5 else n + 1) (psh s n P) ∧ lv gF mE ∧ (∀ x, 8 ≤ x → x ≤ 10 → mE 7 0 x = gF 7 0 x) ∧ ∀ x, mE 2 0 x = gF 2 0 x) := by
  refine cl_run hW hP hT h2 (by omega) hD hok (fun m2 a3 p1 p2 p3 => ?_)
  rw [sg_X7_reads_24, p2 6 0 1 (by omega), if_neg (by omega)]
  refine wp_b (cl_keepSpare p1) (fun _ m3 h3 => ?_)
  obtain ⟨q1, q2⟩ := h3
  rw [sg_X7_reads_78, q2 6 0 1 (by omega), p2 6 0 1 (by omega)]
  exact wp_ret ⟨hN.2.1.symm, q1, fun k i x hk => by rw [q2 k i x (by omega), p2 k i x (by omega)], fun x a b => by rw [q2 7 0 x (by omega), p2 7 0 x (by omega)], fun x => by rw [q2 2 0 x (by omega), p3 x]⟩
theorem cl_stop {W n k : Int} {gF m1 : ob_Mem} {s : Int → Int} {P : Int → Int → Int} (hW : 0 ≤ W) (hP : PC W m1 s s n P) (hT : TF gF m1) (h2 : ∀ x, m1 2 0 x = gF 2 0 x) (hN : 0 ≤ k ∧ k < gF 6 0 1) (hD : ∀ k', 0 ≤ k' → k' < k + 1 → DK gF k') (hok : okQ gF s k) (hc : (oR gF (sQ gF s k.toNat) k).1 < 0) : wp (ob_E (109, 24, [(10, 0), (1, -1), (1, 0), (0, 0)], [], (m1, none))) (fun v mE => v = ob_wr (-1000 - k) ∧ CH W mE s n P ∧ lv gF mE ∧ (∀ x, 8 ≤ x → x ≤ 10 → mE 7 0 x = gF 7 0 x) ∧ mE 2 0 0 = k ∧ YK (sQ gF s k.toNat) (gF 35 0 k) (gF 38 0 (gF 37 0 k + 0)) (oR gF (sQ gF s k.toNat) k).1 (mE 2 0 1) (mE 2 0 2) (mE 2 0 3)) := by
  have k120 := (hD k hN.1 (by omega)).2.2.2
  refine cl_run hW hP hT h2 (by omega) (fun k' a b => hD k' a (by omega)) hok (fun m2 a3 p1 p2 p3 => ?_)
  have ea : ∀ k x, k = 35 ∨ k = 37 ∨ k = 38 → m2 k 0 x = gF k 0 x := fun k x hk => p2 k 0 x (by omega)
  have VQ := VV_sQ (gF := gF) hW p1.2.1 k.toNat
  have b0 := p1.1.2.1.1 0 (by omega) (by omega)
  rw [sg_X7_reads_24, p2 6 0 1 (by omega), if_pos hN.2]
  refine wp_b (cl_obey rfl b0 hW VQ p1.1.2.2.1.2 (DK_c ea (hD k hN.1 (by omega))) hN.1) (fun v m3 h3 => ?_)
  unfold OY at h3
  rw [oR_c ea, ea 35 _ (by omega), ea 37 _ (by omega), ea 38 _ (by omega)] at h3
  obtain ⟨o1, o2, o3, o4, o5⟩ := h3
  have ev := o1 hc
  have T3 := TF_A p2 o4
  have P3 := PC_sm p1 o4 (VV_oF hW VQ) o3
  rw [sg_X7_reads_40, if_pos (by omega)]
  obtain ⟨m4, b1, b2, b3, b4, b5⟩ := cl_blame (m := m3) (k := k) (v := v) ⟨hN.1, k120⟩ (by omega)
  rw [b1]
  show wp (ob_E (109, 51, [(10, 0), (1, -1), (1, k), (1, v)], [], (m4, none))) _
  have s4 : sm gA m3 m4 := fun k' i x z => b2 k' i x (fun y => z (Or.inr y))
  have b03 := P3.1.2.1.1 0 (by omega) (by omega)
  have P4 := PC_sm P3 (sm_m s4 (fun k i => Or.inl)) P3.1.2.2.1.1 (Rep_gA b03 P3.1.2.2.1.1 P3.1.2.2.1.2 s4)
  have T4 : TF gF m4 := fun k' i x hk => by rw [b2 k' i x (by omega), T3 k' i x hk]
  have ne : m4 7 0 0 ≠ m4 7 0 1 := P4.1.2.1.2 0 1 (by omega) (by omega) (by omega) (by omega) (by omega)
  rw [sg_X7_reads_51]
  refine wp_b (cl_copyB P4.2.1 P4.2.2 ne) (fun _ m5 h5 => ?_)
  obtain ⟨c1, c2⟩ := h5
  have s5 : sm (fun k i => gA k i ∨ gB (m4 7 0 0) k i) m4 m5 := sm_m c2 (fun k i => Or.inr)
  have C5 := CH_sm P4.1 s5 P4.2.1 c1
  have T5 := TF_A T4 s5
  have e2 : ∀ x, m5 2 0 x = m4 2 0 x := fun x => c2 2 0 x (fun z => by rcases z with ⟨z1, z2⟩ | ⟨z1, z2⟩ | ⟨z1, z2⟩ <;> omega)
  rw [sg_X7_reads_62]
  refine wp_ret ⟨rfl, C5, TF_lv T5, fun x a b => T5 7 0 x (by omega), by rw [e2, b3], ?_⟩
  rw [e2, e2, e2, ← ev]
  rw [T3 35 0 k (by omega)] at b4 b5
  rcases o5 with ⟨d1, d2, kk, a, b, d3, d4⟩ | ⟨d1, d2⟩
  · obtain ⟨f1, f2, f3⟩ := b4 ⟨d1, d2⟩
    obtain ⟨g1, g2, g3, g4⟩ := d4
    rw [f1, f2, f3, g1, g2, g3]
    exact Or.inl ⟨d1, d2, d3⟩
  · exact Or.inr ⟨d1, b5 d1⟩
set_option maxHeartbeats 1000000 in
theorem ag_reads {W : Int} {m : ob_Mem} (hW : 0 ≤ W) (h : Inv W m) : Agr W W m (fun m => ob_E (109, 0, [(10, 0), (0, 0), (0, 0), (0, 0)], [], (m, none))) (fun m => ob_E (232, 0, [(11, 0), (0, 0), (0, 0), (0, 0)], [], (m, none))) := by
  obtain ⟨hV, hn⟩ := Inv_V h
  obtain ⟨hC, i2, i3, i4, i5, i6⟩ := id h
  generalize hg0 : ob_set (ob_set (ob_set m 6 0 1 0) 6 0 6 0) 6 0 7 0 = g0
  have hB : TB (m 55 0) (m 8 0 22) := ⟨i5, fun i a b => (i6 i a b).2⟩
  have F0 : FG m g0 := by
    rw [← hg0]
    exact ⟨fun k i x a _ _ _ => by simp (disch := omega) only [rs_k, rs_i, rs_s, rs_e, up_e, up_n], by simp (disch := omega) only [rs_k, rs_i, rs_s, rs_e, up_e, up_n]⟩
  have hx : TX (m 55 0) (m 8 0 22) g0 := by
    refine TX_F ⟨i4, fun i a b => (i6 i a b).1⟩ F0
  have z1 : g0 6 0 1 = 0 := by
    rw [← hg0]
    simp (disch := omega) only [rs_k, rs_i, rs_s, rs_e, up_e, up_n]
  have z6 : g0 6 0 6 = 0 := by
    rw [← hg0]
    simp (disch := omega) only [rs_k, rs_i, rs_s, rs_e, up_e, up_n]
  have z7 : g0 6 0 7 = 0 := by
    rw [← hg0]
    simp (disch := omega) only [rs_k, rs_i, rs_s, rs_e, up_e, up_n]
  have hp : PZ (m 8 0 22) 0 0 g0 := ⟨by omega, by omega, by omega, by omega, fun z => absurd z (by omega), fun z => absurd z (by omega)⟩
  generalize hR : ob_E (73, 0, [(9, 0), (0, 0), (0, 0), (0, 0), (0, 0)], [], (m, none)) = R
  have hX : XP 0 0 g0 R := by
    refine ⟨(0, 0), (0, 0), ?_⟩
    rw [← hR, sg_X6_parse_0, if_pos (by omega), hg0]
  obtain ⟨V, gF, r1, r2, r3⟩ := sp_mono hB (m 8 0 22).toNat 0 0 g0 (by omega) hx hp (fun z => absurd z7 z) hX
  have FF : FG m gF := FG_t F0 r2
  have hI := Inv_F h FF
  have e8 : ∀ k i x, k ≠ 6 → k ≠ 35 → k ≠ 37 → k ≠ 38 → gF k i x = m k i x := FF.1
  have row : gF 40 0 = m 40 0 := by
    funext x
    exact e8 40 0 x (by omega) (by omega) (by omega) (by omega)
  have MTm : ∀ μ : ob_Mem, (∀ k i x, k = 8 ∧ x = 22 ∨ k = 55 → μ k i x = m k i x) → MT (m 55 0) (m 8 0 22) μ := fun μ hμ => ⟨hμ 8 0 22 (by omega), fun i a b => hμ 55 0 i (by omega)⟩
  have facts := md_reads (W := W) (μ := m) hW hB hx (MTm m (fun _ _ _ _ => rfl)) hp hX z7 z1 r1 hV hn
  obtain ⟨_, _, _, facts⟩ := facts
  have c0 : ob_E (109, 0, [(10, 0), (0, 0), (0, 0), (0, 0)], [], (m, none)) = ob_E (109, 7, [(10, 0), (0, 0), (0, 0), (0, 0)], [(1, V)], (gF, none)) := by
    rw [sg_X7_reads_0, hR, r1]
    rfl
  have e14 : ∀ k i x, k = 14 ∨ k = 15 → gF k i x = m k i x := fun k i x hk => e8 k i x (by omega) (by omega) (by omega) (by omega)
  by_cases cV : V = -1
  · subst cV
    have hc1 : ∀ (Q : Int → ob_Mem → Prop), (∀ m1, PC W m1 (m 40 0) (m 40 0) (gF 8 0 3) (fun i p => gF 41 0 (360 * i + p)) → TF gF m1 → (∀ x, m1 2 0 x = gF 2 0 x) → wp (ob_E (109, 24, [(10, 0), (1, -1), (1, 0), (0, 0)], [], (m1, none))) Q) → wp (ob_E (109, 0, [(10, 0), (0, 0), (0, 0), (0, 0)], [], (m, none))) Q := fun Q hQ => by
      rw [c0, sg_X7_reads_7, if_pos rfl]
      refine wp_b (cl_remember hI.1) (fun _ m1 h1 => ?_)
      obtain ⟨q1, q2, q3⟩ := h1
      rw [sg_X7_reads_22]
      rw [row] at q1
      exact hQ m1 q1 (fun k i x hk => q3 k i x (fun z => by rcases z with ⟨z1, z2⟩ | ⟨z1, z2⟩ | ⟨z1, z2⟩ <;> omega)) (fun x => q3 2 0 x (fun z => by rcases z with ⟨z1, z2⟩ | ⟨z1, z2⟩ | ⟨z1, z2⟩ <;> omega))
    rcases facts with ⟨f1, -⟩ | ⟨-, f1, f2, f3, -⟩ | ⟨-, k, f1, f2, f3, f4, f5, -⟩
    · exact absurd rfl f1
    · have n120 := (f3 (gF 6 0 1 - 1) (by omega) (by omega)).2.2.2
      obtain ⟨v, mE, e1, rfl, a1, a2, a3, a4⟩ := hc1 _ (fun m1 q1 q2 q3 => cl_all hW q1 q2 q3 ⟨by omega, rfl, by omega⟩ f3 f2)
      have rE : mE 40 0 = m 40 0 := (lv_r a2 (by omega)).trans row
      obtain ⟨v', m2, e2, d⟩ := md_reads (W := W) (μ := mE) hW hB hx (MTm mE (fun k i x hk => by rw [a2 k i x (by omega), e8 k i x (by omega) (by omega) (by omega) (by omega)])) hp hX z7 z1 r1 (by rw [rE]; exact hV) (by rw [a2 8 0 3 (by omega), e8 8 0 3 (by omega) (by omega) (by omega) (by omega)]; exact hn)
      rw [rE] at d
      rcases d with ⟨d1, -⟩ | ⟨-, -, -, -, rfl, d5⟩ | ⟨-, k, d1, d2, -, -, d3, -⟩
      · exact absurd rfl d1
      · refine ⟨_, mE, m2, e1, e2, ?_, fun k i x hk => ⟨by rw [a2 k i x (by omega), e14 k i x hk], by rw [d5.1 k i x (by omega), a2 k i x (by omega), e14 k i x hk]⟩⟩
        rw [← row] at a1
        exact J_done (Int.le_refl _) hI a2 a1 a3 a4 (by rw [row]; exact d5)
      · exact absurd d3 (f2 k d1 d2)
    · obtain ⟨v, mE, e1, rfl, a1, a2, a3, a4, a5⟩ := hc1 _ (fun m1 q1 q2 q3 => cl_stop hW q1 q2 q3 ⟨f1, f2⟩ f4 f3 f5)
      have rE : mE 40 0 = m 40 0 := (lv_r a2 (by omega)).trans row
      obtain ⟨v', m2, e2, d⟩ := md_reads (W := W) (μ := mE) hW hB hx (MTm mE (fun k i x hk => by rw [a2 k i x (by omega), e8 k i x (by omega) (by omega) (by omega) (by omega)])) hp hX z7 z1 r1 (by rw [rE]; exact hV) (by rw [a2 8 0 3 (by omega), e8 8 0 3 (by omega) (by omega) (by omega) (by omega)]; exact hn)
      rw [rE] at d
      rcases d with ⟨d1, -⟩ | ⟨-, -, d1, -⟩ | ⟨-, k', d1, d2, d3, -, d4, rfl, d5, d6, d7, d8⟩
      · exact absurd rfl d1
      · exact absurd f5 (d1 k f1 f2)
      · have ek : k' = k := by
          by_cases l1 : k' < k
          · exact absurd d4 (f3 k' d1 l1)
          · by_cases l2 : k < k'
            · exact absurd f5 (d3 k f1 l2)
            · omega
        subst ek
        obtain ⟨u1, u2, u3⟩ := YK_u a5 d8
        have m22 : ∀ x, m2 2 0 x = mE 2 0 x := fun x => d6 2 0 x (by omega) (by omega) (by omega) (by omega) (by omega)
        rw [← row] at a1
        obtain ⟨w1, w2⟩ := J_fx (m2 := m2) hI a1 a2 a3 d6 (fun p a b => by rw [d5 p a b, rE]) ⟨by rw [m22]; exact u1, by rw [m22]; exact u2, by rw [m22]; exact u3, by rw [m22, a4, d7]⟩
        exact ⟨_, mE, m2, e1, e2, w1, fun k i x hk => ⟨by rw [a2 k i x (by omega), e14 k i x hk], by rw [w2 k i x hk, e14 k i x hk]⟩⟩
  · have cc : ob_E (109, 0, [(10, 0), (0, 0), (0, 0), (0, 0)], [], (m, none)) = some (ob_wr (-10 - V), (gF, none)) := by
      rw [c0, sg_X7_reads_7, if_neg cV]
    obtain ⟨v, m2, e2, d⟩ := md_reads (W := W) (μ := gF) hW hB hx (MTm gF (fun k i x hk => e8 k i x (by omega) (by omega) (by omega) (by omega))) hp hX z7 z1 r1 (by rw [row]; exact hV) (by rw [e8 8 0 3 (by omega) (by omega) (by omega) (by omega)]; exact hn)
    rcases d with ⟨-, rfl, d1, d2⟩ | ⟨d1, -⟩ | ⟨d1, -⟩
    · have m2e : ∀ k x, k = 2 ∨ k = 44 → m2 k 0 x = gF k 0 x := fun k x hk => d1 k 0 x (by omega) (by omega) (by omega)
      obtain ⟨w1, w2⟩ := J_fx (m2 := m2) (mE := gF) hI hI.1 (fun _ _ _ _ => rfl) (fun _ _ _ => rfl) (fun k i x a b _ _ c => d1 k i x a b c) (fun p _ _ => by rw [d2]) (by
        rw [m2e 2 _ (by omega), m2e 2 _ (by omega), m2e 2 _ (by omega), m2e 2 _ (by omega), m2e 44 _ (by omega), m2e 44 _ (by omega), m2e 44 _ (by omega), m2e 44 _ (by omega)]
        exact hI.2.2.1)
      exact ⟨_, gF, m2, cc, e2, w1, fun k i x hk => ⟨e14 k i x hk, by rw [w2 k i x hk, e14 k i x hk]⟩⟩
    · exact absurd d1 cV
    · exact absurd d1 cV
