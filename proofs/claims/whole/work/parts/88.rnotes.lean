-- READS: the model reads notes
noncomputable def nf (N : Int → Int) (t : Int) (j : Int) (q : Int × (Int → Int)) : Int × (Int → Int) := if q.1 < 0 then q else (cNote q.2 t (N (2 + 3 * j)) (N (3 + 3 * j)) (N (4 + 3 * j)), nS q.2 t (N (2 + 3 * j)) (N (3 + 3 * j)) (N (4 + 3 * j)))
noncomputable def nfo (N : Int → Int) (t : Int) (q : Int × (Int → Int)) (n : Nat) : Int × (Int → Int) := fo (nf N t) q n
theorem nfo_s {N : Int → Int} {t j : Int} {q : Int × (Int → Int)} (h : 0 ≤ j) : nfo N t q (j + 1).toNat = nf N t j (nfo N t q j.toNat) := fo_s h
theorem nfo_c {N N' : Int → Int} {t : Int} {q : Int × (Int → Int)} (n : Nat) (h : ∀ y, 0 ≤ y → y < 2 + 3 * (n : Int) → N y = N' y) : nfo N t q n = nfo N' t q n := fo_c n (fun j a b x => by
  unfold nf
  rw [h (2 + 3 * j) (by omega) (by omega), h (3 + 3 * j) (by omega) (by omega), h (4 + 3 * j) (by omega) (by omega)])
def FX (μ μ' : ob_Mem) : Prop := ∀ k i x, k ≠ 40 → k ≠ 56 → ¬ (k = 8 ∧ (x = 23 ∨ x = 25 ∨ x = 6 ∨ x = 7 ∨ x = 8)) → μ' k i x = μ k i x
theorem FX_r {μ : ob_Mem} : FX μ μ := fun _ _ _ _ _ _ => rfl
theorem FX_t {μ μ' μ'' : ob_Mem} (h : FX μ μ') (h' : FX μ' μ'') : FX μ μ'' := fun k i x a b c => (h' k i x a b c).trans (h k i x a b c)
theorem FH_X {μ μ' : ob_Mem} (h : FH μ μ') : FX μ μ' := fun k i x _ b c => h k i x (by omega) b
theorem FD_X {μ μ' : ob_Mem} (h : FD μ μ') : FX μ μ' := fun k i x a _ c => h k i x a (by omega)
theorem MT_X {T : Int → Int} {L : Int} {μ μ' : ob_Mem} (h : MT T L μ) (hf : FX μ μ') : MT T L μ' := ⟨(hf 8 0 22 (by omega) (by omega) (by omega)).trans h.1, fun i a b => (hf 55 0 i (by omega) (by omega) (by omega)).trans (h.2 i a b)⟩
/-- what the second walk did to code and row; the first one: nothing -/
def EX (W fl : Int) (μ0 μ : ob_Mem) (q : Int × (Int → Int)) : Prop := (fl = 0 → μ 40 0 = μ0 40 0 ∧ μ 8 0 25 = μ0 8 0 25) ∧ (fl ≠ 0 → μ 8 0 25 = q.1 ∧ μ 40 0 = q.2 ∧ VV W (μ 40 0) ∧ q.1 ≤ 0)
theorem FH_row {μ μ' : ob_Mem} (h : FH μ μ') : μ' 40 0 = μ 40 0 := by
  funext x
  exact h 40 0 x (by omega) (by omega)
theorem EX_H {W fl : Int} {μ0 μ μ' : ob_Mem} {q : Int × (Int → Int)} (h : EX W fl μ0 μ q) (hf : FH μ μ') : EX W fl μ0 μ' q := by
  have e1 := FH_row hf
  have e2 := hf 8 0 25 (by omega) (by omega)
  unfold EX
  rw [e1, e2]
  exact h
theorem md_readsNotes {T : Int → Int} {W L a f fl t U : Int} {g μ : ob_Mem} {R : ob_Res} {q : Int × (Int → Int)} (hB : TB T L) (hx : TX T L g) (hM : MT T L μ) (hp : PZ L a f g) (h : XP a f g R) (he : μ 8 0 23 = a) (ho : g 6 0 7 ≠ 0) (hw : g 6 0 9 = 0) (ha : a < L) (hn : nts g (T a)) (hU : 0 ≤ U ∧ g 6 0 6 = U + 2) (hE : EX W fl μ μ q) : wp (ob_E (230, 0, [(11, 0), (1, t), (1, fl), (0, 0), (0, 0)], [], (μ, none))) (fun v μ' => FX μ μ' ∧ μ' 8 0 6 = μ 8 0 6 ∧ (fl = 0 → μ' 40 0 = μ 40 0) ∧ ((v = 0 ∧ 0 ≤ μ' 8 0 23 ∧ ∃ g', R = some (μ' 8 0 23, (g', none))) ∨ (v = 1 ∧ ∃ b f' g' j, 1 ≤ j ∧ XP b f' g' R ∧ PZ L b f' g' ∧ frs T L b f' ∧ μ' 8 0 23 = b ∧ g' 6 0 7 ≠ 0 ∧ g' 6 0 9 = 0 ∧ g' 6 0 8 ≠ 0 ∧ (b < L → T b ≠ 32 ∧ T b ≠ 44) ∧ g' 6 0 6 = U + 2 + 3 * j ∧ (∀ k i x, ¬ (k = 6 ∧ (x = 6 ∨ x = 8 ∨ x = 9)) → ¬ (k = 38 ∧ U + 2 ≤ x) → g' k i x = g k i x) ∧ EX W fl μ μ' (nfo (fun y => g' 38 0 (U + y)) t q j.toNat)))) := by
  obtain ⟨b1, b2⟩ := id hB
  rw [sg_X8_readsNotes_0]
  refine wp_for (fun (_ : Int) (y : ob_Mem × ob_AV) => ob_E (230, 2, [(11, 0), (1, t), (1, fl), (1, 1), y.2], [], (y.1, none))) 0 121 (fun w y => FX μ y.1 ∧ y.1 8 0 6 = μ 8 0 6 ∧ ∃ a1 f1 g1 j, 0 ≤ j ∧ w ≤ j ∧ a1 < L ∧ XP a1 f1 g1 R ∧ PZ L a1 f1 g1 ∧ y.1 8 0 23 = a1 ∧ g1 6 0 7 ≠ 0 ∧ g1 6 0 9 = 0 ∧ nts g1 (T a1) ∧ g1 6 0 6 = U + 2 + 3 * j ∧ (∀ k i x, ¬ (k = 6 ∧ (x = 6 ∨ x = 8 ∨ x = 9)) → ¬ (k = 38 ∧ U + 2 ≤ x) → g1 k i x = g k i x) ∧ EX W fl μ y.1 (nfo (fun y => g1 38 0 (U + y)) t q j.toNat)) ?_ ?_ (by omega) (x := (μ, (0, 0))) ⟨FX_r, rfl, a, f, g, 0, by omega, by omega, ha, h, hp, he, ho, hw, hn, by omega, fun _ _ _ _ _ => rfl, hE⟩
  · intro w ⟨μ1, y4⟩ w1 w2 ⟨F1, e61, a1, f1, g1, j, j0, i1, i2, i3, i4, i5, i6, i7, i8, i9, i10, i11⟩ hk
    have F1 : FX μ μ1 := F1
    have e61 : μ1 8 0 6 = μ 8 0 6 := e61
    have i5 : μ1 8 0 23 = a1 := i5
    have i11 : EX W fl μ μ1 (nfo (fun y => g1 38 0 (U + y)) t q j.toNat) := i11
    have f16 : FG g g1 := ⟨fun k i x a b c d => i10 k i x (by omega) (by omega), i10 6 0 0 (by omega) (by omega)⟩
    have hx1 := TX_F hx f16
    have nc : ¬ fig (T a1) ∧ T a1 ≠ 32 := by
      unfold fig
      rcases i8 with ⟨z, -⟩ | ⟨z, -⟩ <;> omega
    obtain ⟨p1, p2, p3, p4, p5, p6⟩ := id i4
    obtain ⟨g2, r0, r1, r2, r3⟩ := tm_notes i6 (by omega) (by omega) i8
    have x2 := (sp_mark hB hx1 i4 i3 i2 nc.1 nc.2 (Or.inr rfl) r0).1 rfl
    have f12 : FG g1 g2 := ⟨fun k i x a b c d => r3 k i x (by omega), r3 6 0 0 (by omega)⟩
    have hx2 := TX_F hx1 f12
    have u1 := r3 6 0 1 (by omega)
    have u6 := r3 6 0 6 (by omega)
    have u7 := r3 6 0 7 (by omega)
    have z2 : PZ L (a1 + 1) 0 g2 := ⟨by omega, by omega, by omega, by omega, fun z => absurd z (by omega), fun z => absurd z (by omega)⟩
    show wp (ob_E (230, 2, [(11, 0), (1, t), (1, fl), (1, 1), y4], [], (μ1, none))) _
    rw [sg_X8_readsNotes_2, if_neg (by omega), i5, ob_wr_id (by omega) (by omega)]
    have H2 : FH μ1 (ob_set μ1 8 0 23 (a1 + 1)) := fun k i x z _ => by
      by_cases y : k = 8
      · exact rs_s (by omega)
      · exact rs_k y
    have p23 : ob_set μ1 8 0 23 (a1 + 1) 8 0 23 = a1 + 1 := rs_e rfl rfl
    generalize ob_set μ1 8 0 23 (a1 + 1) = μ2 at *
    refine wp_b (md_takes (by omega) hB hx2 (MT_X hM (FX_t F1 (FH_X H2))) z2 x2 p23 (by omega) r2 (Or.inl rfl)) (fun v μ3 h3 => ?_)
    obtain ⟨H3, h3⟩ := h3
    have H13 := FH_t H2 H3
    have F3 : FX μ μ3 := FX_t F1 (FH_X H13)
    have e63 : μ3 8 0 6 = μ 8 0 6 := (H13 8 0 6 (by omega) (by omega)).trans e61
    rw [sg_X8_readsNotes_21]
    rcases h3 with ⟨rfl, hz, g3, hr⟩ | ⟨rfl, b, f3, g3, t1, t2, t3, t4, t5, t6, t7, t8⟩
    · simp (disch := first | omega | assumption) only [↓if_pos, ↓if_neg, Option.bind_some, ob_wr_id]
      exact wp_ret ⟨F3, e63, fun z => ((EX_H i11 H13).1 z).1, Or.inl ⟨rfl, hz, g3, hr⟩⟩
    · rw [if_neg (by omega)]
      have E3 := EX_H i11 H13
      have g3f : ∀ k i x, ¬ (k = 6 ∧ (x = 6 ∨ x = 8 ∨ x = 9)) → ¬ (k = 38 ∧ U + 2 + 3 * j ≤ x) → g3 k i x = g1 k i x := fun k i x c1 c2 => by
        rw [t8 k i x (by omega) (by omega), r3 k i x (by omega)]
      have hx3 := TX_F hx2 (GT_F t8)
      have N0 := t7 0 (by omega) (by omega)
      have N1 := t7 1 (by omega) (by omega)
      have N2 := t7 2 (by omega) (by omega)
      rw [u6, i9] at N0 N1 N2
      have Qc : nfo (fun y => g1 38 0 (U + y)) t q j.toNat = nfo (fun y => g3 38 0 (U + y)) t q j.toNat := nfo_c j.toNat (fun y y0 y1 => (g3f 38 0 (U + y) (by omega) (by omega)).symm)
      rw [Qc] at E3
      -- behind the note: the rest of the body
      have rest : ∀ (μ4 : ob_Mem) (z4 : ob_AV), FX μ μ4 → μ4 8 0 6 = μ 8 0 6 → μ4 8 0 23 = b → EX W fl μ μ4 (nfo (fun y => g3 38 0 (U + y)) t q (j + 1).toNat) → wp (ob_E (230, 100, [(11, 0), (1, t), (1, fl), (1, 1), z4], [], (μ4, none))) (fun v μ' => FX μ μ' ∧ μ' 8 0 6 = μ 8 0 6 ∧ (fl = 0 → μ' 40 0 = μ 40 0) ∧ ((v = 0 ∧ 0 ≤ μ' 8 0 23 ∧ ∃ g', R = some (μ' 8 0 23, (g', none))) ∨ (v = 1 ∧ ∃ b f' g' j, 1 ≤ j ∧ XP b f' g' R ∧ PZ L b f' g' ∧ frs T L b f' ∧ μ' 8 0 23 = b ∧ g' 6 0 7 ≠ 0 ∧ g' 6 0 9 = 0 ∧ g' 6 0 8 ≠ 0 ∧ (b < L → T b ≠ 32 ∧ T b ≠ 44) ∧ g' 6 0 6 = U + 2 + 3 * j ∧ (∀ k i x, ¬ (k = 6 ∧ (x = 6 ∨ x = 8 ∨ x = 9)) → ¬ (k = 38 ∧ U + 2 ≤ x) → g' k i x = g k i x) ∧ EX W fl μ μ' (nfo (fun y => g' 38 0 (U + y)) t q j.toNat)))) := by
        intro μ4 z4 F4 e64 p4 E4
        rw [sg_X8_readsNotes_100]
        refine wp_b (md_here hB hx3 (MT_X hM F4) t2 t1 p4) (fun v μ5 h5 => ?_)
        obtain ⟨b', f5, s1, s2, s3, s4, s5, s6, s7, -⟩ := h5
        have H5 : FH μ4 μ5 := fun k i x z _ => s6 k i x z
        have F5 := FX_t F4 (FH_X H5)
        have e65 : μ5 8 0 6 = μ 8 0 6 := (s6 8 0 6 (by omega)).trans e64
        have E5 := EX_H E4 H5
        have o3 : g3 6 0 7 ≠ 0 := by
          rw [g3f 6 0 7 (by omega) (by omega)]
          exact i6
        have n3 : g3 6 0 8 ≠ 0 := by
          rw [t8 6 0 8 (by omega) (by omega), r1]
          omega
        have gg : ∀ k i x, ¬ (k = 6 ∧ (x = 6 ∨ x = 8 ∨ x = 9)) → ¬ (k = 38 ∧ U + 2 ≤ x) → g3 k i x = g k i x := fun k i x c1 c2 => by
          rw [g3f k i x c1 (by omega), i10 k i x c1 c2]
        have gn : g3 6 0 6 = U + 2 + 3 * (j + 1) := by omega
        rw [sg_X8_readsNotes_104]
        by_cases cm : v = 44
        · rw [if_pos cm]
          rcases s7 with ⟨q1, q2⟩ | ⟨q1, q2, q3⟩
          · omega
          · simp (disch := first | omega | assumption) only [↓if_pos, ↓if_neg, Option.bind_some, ob_wr_id, sg_X8_readsNotes_114]
            exact hk (μ5, z4) ⟨F5, e65, b', f5, g3, j + 1, by omega, by omega, q1, s3, s4, s5, o3, by omega, Or.inr ⟨by omega, n3⟩, gn, gg, E5⟩
        · rw [if_neg cm, sg_X8_readsNotes_114, sg_X8_readsNotes_2]
          simp (disch := first | omega | assumption) only [↓if_pos, ↓if_neg, Option.bind_some, ob_wr_id]
          refine wp_ret ⟨F5, e65, fun z => (E5.1 z).1, Or.inr ⟨rfl, b', f5, g3, j + 1, by omega, s3, s4, frs_h t3 s2, s5, o3, by omega, n3, fun z => ?_, gn, gg, E5⟩⟩
          rcases s7 with ⟨q1, q2⟩ | ⟨q1, q2, q3⟩
          · omega
          · exact ⟨q3, fun y => cm (by omega)⟩
      by_cases c0 : fl = 0
      · rw [if_pos c0]
        refine rest μ3 y4 F3 e63 t4 ⟨fun z => E3.1 z, fun z => absurd c0 z⟩
      · rw [if_neg c0]
        obtain ⟨x1, x2', x3, x4⟩ := E3.2 c0
        by_cases c1 : μ3 8 0 25 = 0
        · rw [if_pos c1]
          have cn := md_canNote μ3 (t := t) (k := μ3 56 0 0) (a := μ3 56 0 1) (l := μ3 56 0 2) x3
          have ci := cNote_i (μ3 40 0) t (μ3 56 0 0) (μ3 56 0 1) (μ3 56 0 2)
          have en : nfo (fun y => g3 38 0 (U + y)) t q (j + 1).toNat = (cNote (μ3 40 0) t (μ3 56 0 0) (μ3 56 0 1) (μ3 56 0 2), nS (μ3 40 0) t (μ3 56 0 0) (μ3 56 0 1) (μ3 56 0 2)) := by
            rw [nfo_s j0]
            unfold nf
            rw [if_neg (by omega), ← x2']
            dsimp only
            rw [show U + (2 + 3 * j) = U + 2 + 3 * j + 0 by omega, show U + (3 + 3 * j) = U + 2 + 3 * j + 1 by omega, show U + (4 + 3 * j) = U + 2 + 3 * j + 2 by omega, N0, N1, N2]
          rw [if_pos (by omega), if_pos (by omega), if_pos (by omega), cn]
          show wp (ob_E (230, 61, [(11, 0), (1, t), (1, fl), (1, 1), y4], [(1, cNote (μ3 40 0) t (μ3 56 0 0) (μ3 56 0 1) (μ3 56 0 2)), (11, 0)], (μ3, none))) _
          rw [sg_X8_readsNotes_61]
          generalize hV' : cNote (μ3 40 0) t (μ3 56 0 0) (μ3 56 0 1) (μ3 56 0 2) = V at *
          have k4 : ∀ k i x, ¬ (k = 8 ∧ x = 25) → ob_set μ3 8 0 25 V k i x = μ3 k i x := fun k i x z => by
            by_cases y : k = 8
            · exact rs_s (by omega)
            · exact rs_k y
          have k25 : ob_set μ3 8 0 25 V 8 0 25 = V := rs_e rfl rfl
          have kr : ob_set μ3 8 0 25 V 40 0 = μ3 40 0 := rw_k (by omega)
          have w0 : ob_set μ3 8 0 25 V 56 0 0 = μ3 56 0 0 := rs_k (by omega)
          have w1 : ob_set μ3 8 0 25 V 56 0 1 = μ3 56 0 1 := rs_k (by omega)
          have w2 : ob_set μ3 8 0 25 V 56 0 2 = μ3 56 0 2 := rs_k (by omega)
          rw [k25, w0, w1, w2]
          generalize ob_set μ3 8 0 25 V = μ4 at *
          have F4 : FX μ μ4 := FX_t F3 (fun k i x _ _ z => k4 k i x (by omega))
          by_cases c2 : V = 0
          · rw [if_pos c2, if_pos (by omega), if_pos (by omega), if_pos (by omega)]
            obtain ⟨⟨o1, -⟩, o2⟩ := cNote_0 (hV'.trans c2)
            have hT := x3.1.2.2.1
            have w3 := (x3.2 t (by omega) (by omega)).1.2.2.1
            have nn := md_noteNow μ4 (t := t) (k := μ3 56 0 0) (a := μ3 56 0 1) (l := μ3 56 0 2) (by omega) (by rw [kr]; omega)
            rw [nn, kr]
            have ens : nS (μ3 40 0) t (μ3 56 0 0) (μ3 56 0 1) (μ3 56 0 2) = up (up (up (up (μ3 40 0) (12 + 116 * t + (3 + 3 * μ3 40 0 (12 + 116 * t + 2))) (μ3 56 0 0)) (12 + 116 * t + (3 + 3 * μ3 40 0 (12 + 116 * t + 2) + 1)) (μ3 56 0 1)) (12 + 116 * t + (3 + 3 * μ3 40 0 (12 + 116 * t + 2) + 2)) (μ3 56 0 2)) (12 + 116 * t + 2) (μ3 40 0 (12 + 116 * t + 2) + 1) := by
              unfold nS
              rw [if_neg (by omega)]
            have fr : ∀ A B C D : Int, ∀ P1 P2 P3 P4 : Int, fR μ4 (ob_set (ob_set (ob_set (ob_set μ4 40 0 P1 A) 40 0 P2 B) 40 0 P3 C) 40 0 P4 D) := fun A B C D P1 P2 P3 P4 => fR_set (fR_set (fR_set (fR_set sm_r)))
            have fr' := fr (μ3 56 0 0) (μ3 56 0 1) (μ3 56 0 2) (μ3 40 0 (12 + 116 * t + 2) + 1) (12 + 116 * t + (3 + 3 * μ3 40 0 (12 + 116 * t + 2))) (12 + 116 * t + (3 + 3 * μ3 40 0 (12 + 116 * t + 2) + 1)) (12 + 116 * t + (3 + 3 * μ3 40 0 (12 + 116 * t + 2) + 2)) (12 + 116 * t + 2)
            have er : (ob_set (ob_set (ob_set (ob_set μ4 40 0 (12 + 116 * t + (3 + 3 * μ3 40 0 (12 + 116 * t + 2))) (μ3 56 0 0)) 40 0 (12 + 116 * t + (3 + 3 * μ3 40 0 (12 + 116 * t + 2) + 1)) (μ3 56 0 1)) 40 0 (12 + 116 * t + (3 + 3 * μ3 40 0 (12 + 116 * t + 2) + 2)) (μ3 56 0 2)) 40 0 (12 + 116 * t + 2) (μ3 40 0 (12 + 116 * t + 2) + 1)) 40 0 = nS (μ3 40 0) t (μ3 56 0 0) (μ3 56 0 1) (μ3 56 0 2) := by
              rw [rw_e, rw_e, rw_e, rw_e, kr, ens]
            generalize ob_set (ob_set (ob_set (ob_set μ4 40 0 (12 + 116 * t + (3 + 3 * μ3 40 0 (12 + 116 * t + 2))) (μ3 56 0 0)) 40 0 (12 + 116 * t + (3 + 3 * μ3 40 0 (12 + 116 * t + 2) + 1)) (μ3 56 0 1)) 40 0 (12 + 116 * t + (3 + 3 * μ3 40 0 (12 + 116 * t + 2) + 2)) (μ3 56 0 2)) 40 0 (12 + 116 * t + 2) (μ3 40 0 (12 + 116 * t + 2) + 1) = μ5 at *
            have f5 : ∀ k i x, k ≠ 40 → μ5 k i x = μ4 k i x := fun k i x z => fr' k i x (fun y => z y.1)
            show wp (ob_E (230, 94, [(11, 0), (1, t), (1, fl), (1, 1), y4], [(1, μ3 40 0 (12 + 116 * t + 2))], (μ5, none))) _
            rw [sg_X8_readsNotes_94, sg_X8_readsNotes_98]
            refine rest μ5 _ (FX_t F4 (fun k i x z _ _ => f5 k i x z)) ?_ ?_ ⟨fun z => absurd z c0, fun _ => ⟨?_, ?_, ?_, ?_⟩⟩
            · rw [f5 8 0 6 (by omega), k4 8 0 6 (by omega), e63]
            · rw [f5 8 0 23 (by omega), k4 8 0 23 (by omega), t4]
            · rw [en, f5 8 0 25 (by omega), k25]
            · rw [en, er]
            · rw [er]
              exact VV_n x3
            · rw [en]
              show V ≤ 0
              omega
          · rw [if_neg c2, sg_X8_readsNotes_98]
            have ens : nS (μ3 40 0) t (μ3 56 0 0) (μ3 56 0 1) (μ3 56 0 2) = μ3 40 0 := by
              unfold nS
              rw [if_pos (by omega)]
            refine rest μ4 _ F4 ?_ ?_ ⟨fun z => absurd z c0, fun _ => ⟨?_, ?_, ?_, ?_⟩⟩
            · rw [k4 8 0 6 (by omega), e63]
            · rw [k4 8 0 23 (by omega), t4]
            · rw [en, k25]
            · rw [en, kr, ens]
            · rw [kr]
              exact x3
            · rw [en]
              show V ≤ 0
              omega
        · rw [if_neg c1]
          have en : nfo (fun y => g3 38 0 (U + y)) t q (j + 1).toNat = nfo (fun y => g3 38 0 (U + y)) t q j.toNat := by
            rw [nfo_s j0]
            unfold nf
            rw [if_pos (by omega)]
          refine rest μ3 y4 F3 e63 t4 ?_
          rw [en]
          exact E3
  · intro ⟨μ1, y4⟩ hI
    obtain ⟨F1, e61, a1, f1, g1, j, j0, i1, i2, i3, i4, i5, i6, i7, i8, i9, i10, i11⟩ := hI
    have := i4.2.2.2.1
    omega
