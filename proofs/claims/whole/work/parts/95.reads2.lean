-- READS: the class's loop; joined
theorem cl_run {W n N : Int} {gF m1 : ob_Mem} {s : Int → Int} {P : Int → Int → Int} {K : Int → ob_Mem → Prop} (hW : 0 ≤ W) (hP : PC W m1 s s n P) (hT : TF gF m1) (h2 : ∀ x, m1 2 0 x = gF 2 0 x) (hN : 0 ≤ N ∧ N ≤ gF 6 0 1 ∧ N ≤ 120) (hD : ∀ k, 0 ≤ k → k < N → DK gF k) (hok : okQ gF s N) (hk : ∀ m2 a3, PC W m2 s (sQ gF s N.toNat) n P → TF gF m2 → (∀ x, m2 2 0 x = gF 2 0 x) → wp (ob_E (109, 24, [(10, 0), (1, -1), (1, N), a3], [], (m2, none))) K) : wp (ob_E (109, 24, [(10, 0), (1, -1), (1, 0), (0, 0)], [], (m1, none))) K := by
  refine wp_for (fun k (y : ob_Mem × ob_AV) => ob_E (109, 24, [(10, 0), (1, -1), (1, k), y.2], [], (y.1, none))) 0 N (fun k y => PC W y.1 s (sQ gF s k.toNat) n P ∧ TF gF y.1 ∧ ∀ x, y.1 2 0 x = gF 2 0 x) ?_ ?_ hN.1 (x := (m1, (0, 0))) ⟨hP, hT, h2⟩
  · intro k ⟨m2, y3⟩ k1 k2 ⟨i1, i2, i3⟩ hk2
    have i1 : PC W m2 s (sQ gF s k.toNat) n P := i1
    have i2 : TF gF m2 := i2
    have i3 : ∀ x, m2 2 0 x = gF 2 0 x := i3
    have ea : ∀ k x, k = 35 ∨ k = 37 ∨ k = 38 → m2 k 0 x = gF k 0 x := fun k x hk => i2 k 0 x (by omega)
    have VQ := VV_sQ (gF := gF) hW i1.2.1 k.toNat
    have b0 := i1.1.2.1.1 0 (by omega) (by omega)
    show wp (ob_E (109, 24, [(10, 0), (1, -1), (1, k), y3], [], (m2, none))) _
    rw [sg_X7_reads_24, i2 6 0 1 (by omega), if_pos (by omega)]
    refine wp_b (cl_obey rfl b0 hW VQ i1.1.2.2.1.2 (DK_c ea (hD k k1 k2)) k1) (fun v m3 h3 => ?_)
    unfold OY at h3
    rw [oR_c ea] at h3
    obtain ⟨o1, o2, o3, o4, o5⟩ := h3
    have nk := hok k k1 k2
    have v0 := o2 nk
    rw [sg_X7_reads_40, if_neg (by omega), ob_wr_id (by omega) (by omega)]
    refine hk2 (m3, (1, v)) ⟨?_, TF_A i2 o4, fun x => ?_⟩
    · rw [sQ_s k1]
      exact PC_sm i1 o4 (VV_oF hW VQ) o3
    · rcases o5 with ⟨-, z, -⟩ | ⟨-, z⟩
      · omega
      · exact (z x).trans (i3 x)
  · intro ⟨m2, y3⟩ ⟨i1, i2, i3⟩
    exact hk m2 y3 i1 i2 i3
theorem TF_lv {g m : ob_Mem} (h : TF g m) : lv g m := fun k i x hk => h k i x (by omega)
set_option maxHeartbeats 1000000 in
theorem ag_reads {W : Int} {m : ob_Mem} (hW : 0 ≤ W) (h : Inv W m) : Agr W W m (fun m => ob_E (109, 0, [(10, 0), (0, 0), (0, 0), (0, 0)], [], (m, none))) (fun m => ob_E (232, 0, [(11, 0), (0, 0), (0, 0), (0, 0)], [], (m, none))) := by
  obtain ⟨hV, hn⟩ := Inv_V h
  obtain ⟨hC, i2, i3, i4, i5, i6⟩ := id h
  generalize hg0 : ob_set (ob_set (ob_set m 6 0 1 0) 6 0 6 0) 6 0 7 0 = g0
  have hB : TB (m 55 0) (m 8 0 22) := ⟨i5, fun i a b => (i6 i a b).2⟩
  have F0 : FG m g0 := by
    rw [← hg0]
    exact ⟨fun k i x a _ _ _ => by simp (disch := omega) only [rs_k, rs_i, rs_s, rs_e, up_e, up_n], by simp (disch := omega) only [rs_k, rs_i, rs_s, rs_e, up_e, up_n]⟩
  have hx : TX (m 55 0) (m 8 0 22) g0 := by
    refine TX_F ⟨i4, fun i a b => (i6 i a b).1⟩ F0
  have z1 : g0 6 0 1 = 0 := by
    rw [← hg0]
    simp (disch := omega) only [rs_k, rs_i, rs_s, rs_e, up_e, up_n]
  have z6 : g0 6 0 6 = 0 := by
    rw [← hg0]
    simp (disch := omega) only [rs_k, rs_i, rs_s, rs_e, up_e, up_n]
  have z7 : g0 6 0 7 = 0 := by
    rw [← hg0]
    simp (disch := omega) only [rs_k, rs_i, rs_s, rs_e, up_e, up_n]
  have hp : PZ (m 8 0 22) 0 0 g0 := ⟨by omega, by omega, by omega, by omega, fun z => absurd z (by omega), fun z => absurd z (by omega)⟩
  generalize hR : ob_E (73, 0, [(9, 0), (0, 0), (0, 0), (0, 0), (0, 0)], [], (m, none)) = R
  have hX : XP 0 0 g0 R := by
    refine ⟨(0, 0), (0, 0), ?_⟩
    rw [← hR, sg_X6_parse_0, if_pos (by omega), hg0]
  obtain ⟨V, gF, r1, r2, r3⟩ := sp_mono hB (m 8 0 22).toNat 0 0 g0 (by omega) hx hp (fun z => absurd z7 z) hX
  have FF : FG m gF := FG_t F0 r2
  have hI := Inv_F h FF
  have e8 : ∀ k i x, k ≠ 6 → k ≠ 35 → k ≠ 37 → k ≠ 38 → gF k i x = m k i x := FF.1
  have row : gF 40 0 = m 40 0 := by
    funext x
    exact e8 40 0 x (by omega) (by omega) (by omega) (by omega)
  have MTm : ∀ μ : ob_Mem, (∀ k i x, k = 8 ∧ x = 22 ∨ k = 55 → μ k i x = m k i x) → MT (m 55 0) (m 8 0 22) μ := fun μ hμ => ⟨hμ 8 0 22 (by omega), fun i a b => hμ 55 0 i (by omega)⟩
  have facts := md_reads (W := W) (μ := m) hW hB hx (MTm m (fun _ _ _ _ => rfl)) hp hX z7 z1 r1 hV hn
  obtain ⟨_, _, _, facts⟩ := facts
  have c0 : ob_E (109, 0, [(10, 0), (0, 0), (0, 0), (0, 0)], [], (m, none)) = ob_E (109, 7, [(10, 0), (0, 0), (0, 0), (0, 0)], [(1, V)], (gF, none)) := by
    rw [sg_X7_reads_0, hR, r1]
    rfl
  by_cases cV : V = -1
  · subst cV
    have g83 := e8 8 0 3 (by omega) (by omega) (by omega) (by omega)
    -- the class's run
    have e6 := i6
    sorry
  · have cc : ob_E (109, 0, [(10, 0), (0, 0), (0, 0), (0, 0)], [], (m, none)) = some (ob_wr (-10 - V), (gF, none)) := by
      rw [c0, sg_X7_reads_7, if_neg cV]
    obtain ⟨v, m2, e2, d⟩ := md_reads (W := W) (μ := gF) hW hB hx (MTm gF (fun k i x hk => e8 k i x (by omega) (by omega) (by omega) (by omega))) hp hX z7 z1 r1 (by rw [row]; exact hV) (by rw [e8 8 0 3 (by omega) (by omega) (by omega) (by omega)]; exact hn)
    rcases d with ⟨-, rfl, d1, d2⟩ | ⟨d1, -⟩ | ⟨d1, -⟩
    · have fq' : fq gF m2 := fun k i x q => by
        by_cases z : k = 40
        · subst z
          by_cases y : i = 0
          · subst y
            rw [d2]
          · sorry
        · exact d1 k i x z (by omega) (by omega)
      sorry
    · exact absurd d1 cV
    · exact absurd d1 cV
