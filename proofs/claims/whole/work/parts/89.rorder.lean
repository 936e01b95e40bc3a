-- READS: the model reads an order
def cd (v : Int) : Int := if v < 0 then v else 0
noncomputable def oF (s : Int → Int) (c : Int) (N : Int → Int) (cnt : Int) : Int × (Int → Int) := nfo N (N 0) (cd (dV s c (N 0) (N 1)), dS s c (N 0) (N 1)) ((cnt - 2) / 3).toNat
def CF (c cnt : Int) : Prop := (nbr c = 1 ∧ cnt = 1) ∨ (nbr c = 2 ∧ 2 ≤ cnt ∧ cnt % 3 = 2 ∧ (c ≠ 116 → cnt = 2))
def OD (O U : Int) (g g' : ob_Mem) : Prop := g' 6 0 7 = 0 ∧ g' 6 0 1 = O + 1 ∧ g' 6 0 9 ≤ 3 ∧ g' 37 0 O = U ∧ g' 37 0 (O + 1) = g' 6 0 6 ∧ nbr (g' 35 0 O) ≠ 0 ∧ FG g g' ∧ CF (g' 35 0 O) (g' 6 0 6 - U)
/-- why the order that was read stopped -/
def YO (s : Int → Int) (c x : Int) (μ' : ob_Mem) : Prop := (c = 112 ∧ μ' 8 0 25 = -3 ∧ ∃ k a b, CP s x k a b ∧ μ' 8 0 6 = k ∧ μ' 8 0 7 = a ∧ μ' 8 0 8 = b) ∨ (¬ (c = 112 ∧ μ' 8 0 25 = -3) ∧ μ' 8 0 6 = 0)
theorem nbr_l {c : Int} (h : nbr c ≠ 0) : c = 116 ∨ c = 104 ∨ c = 112 ∨ c = 111 ∨ c = 103 ∨ c = 101 := by
  unfold nbr at h
  by_cases h1 : c = 116 ∨ c = 104 ∨ c = 103
  · omega
  · rw [if_neg h1] at h
    by_cases h2 : c = 112 ∨ c = 111 ∨ c = 101
    · omega
    · rw [if_neg h2] at h
      omega
theorem nbr_n {c : Int} (h : nbr c = 0) : c ≠ 116 ∧ c ≠ 104 ∧ c ≠ 112 ∧ c ≠ 111 ∧ c ≠ 103 ∧ c ≠ 101 := by
  refine ⟨?_, ?_, ?_, ?_, ?_, ?_⟩ <;> (rintro rfl; exact absurd h (by decide))
theorem oF_c {s : Int → Int} {c cnt : Int} {N N' : Int → Int} (hc : CF c cnt) (h : ∀ y, 0 ≤ y → y < cnt → N y = N' y) : oF s c N cnt = oF s c N' cnt := by
  unfold oF
  have h0 : N 0 = N' 0 := h 0 (by omega) (by rcases hc with hc | hc <;> omega)
  have h1 : dV s c (N 0) (N 1) = dV s c (N' 0) (N' 1) ∧ dS s c (N 0) (N 1) = dS s c (N' 0) (N' 1) := by
    rw [h0]
    rcases hc with ⟨hc, -⟩ | ⟨-, hc, -⟩
    · exact dV_y hc
    · rw [h 1 (by omega) (by omega)]
      exact ⟨rfl, rfl⟩
  rw [h1.1, h1.2, h0]
  rcases hc with ⟨-, hc⟩ | ⟨-, h2, h3, -⟩
  · subst hc
    rfl
  · exact nfo_c _ (fun y a b => h y a (by omega))
theorem oF_0 {s : Int → Int} {c cnt : Int} {N : Int → Int} (h : cnt ≤ 2) : oF s c N cnt = (cd (dV s c (N 0) (N 1)), dS s c (N 0) (N 1)) := by
  unfold oF
  rw [show ((cnt - 2) / 3).toNat = 0 by omega]
  rfl
theorem cd_i (v : Int) : cd v ≤ 0 := by
  unfold cd
  split <;> omega
def RO (W L fl O U : Int) (R : ob_Res) (g μ : ob_Mem) (v : Int) (μ' : ob_Mem) : Prop := FX μ μ' ∧ (fl = 0 → μ' 40 0 = μ 40 0) ∧ ((v = 0 ∧ 0 ≤ μ' 8 0 23 ∧ ∃ g', R = some (μ' 8 0 23, (g', none))) ∨ (v = 1 ∧ ∃ b g', XP b 0 g' R ∧ PZ L b 0 g' ∧ μ' 8 0 23 = b ∧ OD O U g g' ∧ EX W fl μ μ' (oF (μ 40 0) (g' 35 0 O) (fun y => g' 38 0 (U + y)) (g' 6 0 6 - U)) ∧ (fl ≠ 0 → μ' 8 0 25 < 0 → YO (μ 40 0) (g' 35 0 O) (g' 38 0 (U + 0)) μ')))
/-- the end of the order -/
theorem ro_fin {T : Int → Int} {W L fl O U c x3 b5 f5 : Int} {g μ μ5 g5 : ob_Mem} {R : ob_Res} (hB : TB T L) (hx : TX T L g) (hM : MT T L μ) (n : nbr c ≠ 0) (F5 : FX μ μ5) (X5 : XP b5 f5 g5 R) (P5 : PZ L b5 f5 g5) (fr5 : frs T L b5 f5) (e5 : μ5 8 0 23 = b5) (o7 : g5 6 0 7 ≠ 0) (w0 : g5 6 0 9 = 0) (FG5 : FG g g5) (O5 : g5 6 0 1 = O) (c5 : g5 35 0 O = c) (U5 : g5 37 0 O = U) (cf : CF c (g5 6 0 6 - U)) (hN : ∀ b6, b5 ≤ b6 → b6 < L → (b5 < L → T b5 ≠ 32 → b6 = b5) → ¬ nts g5 (T b6)) (E5 : EX W fl μ μ5 (oF (μ 40 0) c (fun y => g5 38 0 (U + y)) (g5 6 0 6 - U))) (Y5 : fl ≠ 0 → μ5 8 0 25 < 0 → YO (μ 40 0) c (g5 38 0 (U + 0)) μ5) : wp (ob_E (231, 144, [(11, 0), (1, fl), (1, c), (1, x3)], [], (μ5, none))) (RO W L fl O U R g μ) := by
  obtain ⟨b1, b2⟩ := id hB
  have hx5 := TX_F hx FG5
  rw [sg_X8_readsOrder_144]
  refine wp_b (md_here hB hx5 (MT_X hM F5) P5 X5 e5) (fun v6 μ6 h6 => ?_)
  obtain ⟨b6, f6, s1, s2, s3, s4, s5, s6, s7, s8⟩ := h6
  have H6 : FH μ5 μ6 := fun k i x z _ => s6 k i x z
  have F6 := FX_t F5 (FH_X H6)
  obtain ⟨m1, m2, m3, m4, m5, m6⟩ := id s4
  rw [sg_X8_readsOrder_148]
  rcases s7 with ⟨k1, k2⟩ | ⟨k1, k2, k3⟩
  · simp (disch := first | omega | assumption) only [↓if_pos, ↓if_neg, Option.bind_some, ob_wr_id]
    rw [k1] at s3 s5
    have rr := sp_end hx5 s3
    rw [if_neg (fun z => o7 z.1)] at rr
    exact wp_ret ⟨F6, fun z => ((EX_H E5 H6).1 z).1, Or.inl ⟨rfl, by omega, g5, by rw [s5]; exact rr⟩⟩
  · by_cases k4 : T b6 = 59
    · rw [if_pos (by omega), if_pos (by omega), s5, ob_wr_id (by omega) (by omega)]
      have nf6 : ¬ fig (T b6) := by
        unfold fig
        omega
      obtain ⟨g7, e0, e1, e2, e3, e4⟩ := tm_end o7 (by omega) (show 0 ≤ g5 6 0 1 ∧ g5 6 0 1 < 120 by omega)
      rw [← k4] at e0
      have x7 := (sp_mark hB hx5 s4 s3 k1 nf6 k3 (Or.inr rfl) e0).1 rfl
      rw [O5] at e1 e3 e4
      have y6 := e4 6 0 6 (by omega) (by omega)
      have y9 := e4 6 0 9 (by omega) (by omega)
      have y35 := e4 35 0 O (by omega) (by omega)
      have y37 := e4 37 0 O (by omega) (by omega)
      have y38 : ∀ x, g7 38 0 x = g5 38 0 x := fun x => e4 38 0 x (by omega) (by omega)
      have H7 : FH μ6 (ob_set μ6 8 0 23 (b6 + 1)) := fun k i x z _ => by
        by_cases y : k = 8
        · exact rs_s (by omega)
        · exact rs_k y
      have p7 : ob_set μ6 8 0 23 (b6 + 1) 8 0 23 = b6 + 1 := rs_e rfl rfl
      generalize ob_set μ6 8 0 23 (b6 + 1) = μ7 at *
      have H57 := FH_t H6 H7
      have F7 := FX_t F5 (FH_X H57)
      have v25 := H57 8 0 25 (by omega) (by omega)
      have v6' := H57 8 0 6 (by omega) (by omega)
      have v7 := H57 8 0 7 (by omega) (by omega)
      have v8 := H57 8 0 8 (by omega) (by omega)
      refine wp_ret ⟨F7, fun z => ((EX_H E5 H57).1 z).1, Or.inr ⟨rfl, b6 + 1, g7, x7, ⟨by omega, by omega, by omega, by omega, fun z => absurd z (by omega), fun z => absurd z (by omega)⟩, p7, ⟨e2, e1, by omega, by rw [y37, U5], by rw [e3, y6], by rw [y35, c5]; exact n, FG_t FG5 ⟨fun k i x a b c d => e4 k i x (by omega) (by omega), e4 6 0 0 (by omega) (by omega)⟩, by rw [y35, c5, y6]; exact cf⟩, ?_, fun z1 z2 => ?_⟩⟩
      · have ef : (fun y => g7 38 0 (U + y)) = (fun y => g5 38 0 (U + y)) := by
          funext y
          exact y38 _
        rw [ef, y35, c5, y6]
        exact EX_H E5 H57
      · rw [v25] at z2
        have := Y5 z1 z2
        unfold YO at this ⊢
        rw [v25, v6', v7, v8, y35, c5, y38]
        exact this
    · rw [if_neg (by omega)]
      simp (disch := first | omega | assumption) only [↓if_pos, ↓if_neg, Option.bind_some, ob_wr_id]
      refine wp_ret ⟨F6, fun z => ((EX_H E5 H6).1 z).1, Or.inl ⟨rfl, by omega, ?_⟩⟩
      rw [s5]
      by_cases cg : fig (T b6)
      · have f0 : f6 = 0 := by
          rcases frs_h fr5 s2 with z | z | z
          · exact z
          · omega
          · exact absurd cg z
        subst f0
        exact ⟨g5, sp_nonum hB hx5 s4 s3 k1 cg (Or.inr (by omega))⟩
      · exact ⟨g5, (sp_mark hB hx5 s4 s3 k1 cg k3 (Or.inl rfl) (tm_bad o7 (by omega) (by omega) k4 (hN b6 s1 k1 s8))).2 rfl⟩
/-- behind the first call of the order -/
theorem ro_mid {T : Int → Int} {W L fl O U c x0 b3 f3 : Int} {g μ μ4 g3 : ob_Mem} {R : ob_Res} (hB : TB T L) (hx : TX T L g) (hM : MT T L μ) (n : nbr c ≠ 0) (t1 : XP b3 f3 g3 R) (t2 : PZ L b3 f3 g3) (t3 : frs T L b3 f3) (q7 : g3 6 0 7 = 1) (q8 : g3 6 0 8 = 0) (q1 : g3 6 0 1 = O) (q35 : g3 35 0 O = c) (q37 : g3 37 0 O = U) (w9 : g3 6 0 9 = 0) (FG3 : FG g g3) (t6 : g3 6 0 6 = U + nbr c) (U0 : 0 ≤ U) (N0 : g3 38 0 (U + 0) = x0) (F4 : FX μ μ4) (e4 : μ4 8 0 23 = b3) (E4 : EX W fl μ μ4 (cd (dV (μ 40 0) c (g3 38 0 (U + 0)) (g3 38 0 (U + 1))), dS (μ 40 0) c (g3 38 0 (U + 0)) (g3 38 0 (U + 1)))) (Y4 : fl ≠ 0 → μ4 8 0 25 < 0 → YO (μ 40 0) c (g3 38 0 (U + 0)) μ4) (Y6 : c = 116 → fl ≠ 0 → μ4 8 0 6 = 0) : wp (ob_E (231, 118, [(11, 0), (1, fl), (1, c), (1, x0)], [], (μ4, none))) (RO W L fl O U R g μ) := by
  obtain ⟨b1, b2⟩ := id hB
  have nb := nbr_b c
  have hx3 := TX_F hx FG3
  have cf3 : CF c (g3 6 0 6 - U) := by
    by_cases z : nbr c = 1
    · exact Or.inl ⟨z, by omega⟩
    · exact Or.inr ⟨by omega, by omega, by omega, fun _ => by omega⟩
  have E4' : EX W fl μ μ4 (oF (μ 40 0) c (fun y => g3 38 0 (U + y)) (g3 6 0 6 - U)) := by
    rw [oF_0 (by omega)]
    exact E4
  rw [sg_X8_readsOrder_118]
  by_cases c6 : c = 116
  · rw [if_pos c6]
    have n2 : nbr c = 2 := by rw [c6]; rfl
    refine wp_b (md_here hB hx3 (MT_X hM F4) t2 t1 e4) (fun v7 μ7 h7 => ?_)
    obtain ⟨b7, f7, s1, s2, s3, s4, s5, s6, s7, s8⟩ := h7
    have H7 : FH μ4 μ7 := fun k i x z _ => s6 k i x z
    have F7 := FX_t F4 (FH_X H7)
    rw [sg_X8_readsOrder_128]
    by_cases k : v7 = 58
    · rw [if_pos k]
      rcases s7 with ⟨k1, k2⟩ | ⟨k1, k2, k3⟩
      · omega
      · have E7 := EX_H E4 H7
        refine wp_b (md_readsNotes (W := W) (U := U) hB hx3 (MT_X hM F7) s4 s3 s5 (by omega) w9 k1 (Or.inl ⟨by omega, by rw [q1, q35]; exact c6, q8⟩) (by omega) (q := (cd (dV (μ 40 0) c (g3 38 0 (U + 0)) (g3 38 0 (U + 1))), dS (μ 40 0) c (g3 38 0 (U + 0)) (g3 38 0 (U + 1)))) ⟨fun _ => ⟨rfl, rfl⟩, E7.2⟩) (fun v8 μ8 h8 => ?_)
        obtain ⟨F78, e68, r8, h8⟩ := h8
        have F8 := FX_t F7 F78
        rw [sg_X8_readsOrder_139]
        rcases h8 with ⟨rfl, hz, g8, hr⟩ | ⟨rfl, b8, f8, g8, j, j1, d1, d2, d3, d4, d5, d6, d7, d8, d9, d10, d11⟩
        · simp (disch := first | omega | assumption) only [↓if_pos, ↓if_neg, Option.bind_some, ob_wr_id]
          exact wp_ret ⟨F8, fun z => (r8 z).trans (E7.1 z).1, Or.inl ⟨rfl, hz, g8, hr⟩⟩
        · rw [if_neg (by omega)]
          have a0 := d10 38 0 (U + 0) (by omega) (by omega)
          have a1 := d10 38 0 (U + 1) (by omega) (by omega)
          have h1' := d10 6 0 1 (by omega) (by omega)
          have h35 := d10 35 0 O (by omega) (by omega)
          have h37 := d10 37 0 O (by omega) (by omega)
          refine ro_fin (c := c) hB hx hM n F8 d1 d2 d3 d4 d5 d6 (FG_t FG3 ⟨fun k i x a b c d => d10 k i x (by omega) (by omega), d10 6 0 0 (by omega) (by omega)⟩) (by omega) (by omega) (by omega) (Or.inr ⟨n2, by omega, by omega, fun z => absurd c6 z⟩) (fun b6 m1 m2 m3 => ?_) ⟨fun z => ?_, fun z => ?_⟩ (fun z1 z2 => Or.inr ⟨fun z => by have := z.1; omega, ?_⟩)
          · obtain ⟨z1, z2⟩ := d8 (by omega)
            have z3 := m3 (by omega) z1
            rintro (⟨-, -, y⟩ | ⟨y, -⟩)
            · exact d7 y
            · rw [z3] at y
              exact z2 y
          · obtain ⟨y1, y2⟩ := d11.1 z
            obtain ⟨y3, y4⟩ := E7.1 z
            exact ⟨y1.trans y3, y2.trans y4⟩
          · have y := d11.2 z
            have eo : oF (μ 40 0) c (fun y => g8 38 0 (U + y)) (g8 6 0 6 - U) = nfo (fun y => g8 38 0 (U + y)) (x0) (cd (dV (μ 40 0) c (g3 38 0 (U + 0)) (g3 38 0 (U + 1))), dS (μ 40 0) c (g3 38 0 (U + 0)) (g3 38 0 (U + 1))) j.toNat := by
              unfold oF
              dsimp only
              rw [a0, a1, ← N0, show ((g8 6 0 6 - U - 2) / 3) = j by omega]
            rw [eo]
            exact y
          · rw [e68, s6 8 0 6 (by omega)]
            exact Y6 c6 z1
    · rw [if_neg k]
      refine ro_fin (c := c) hB hx hM n F7 s3 s4 (frs_h t3 s2) s5 (by omega) w9 FG3 q1 q35 q37 cf3 (fun b6 m1 m2 m3 => ?_) (EX_H E4' H7) (fun z1 z2 => ?_)
      · rcases s7 with ⟨k1, k2⟩ | ⟨k1, k2, k3⟩
        · omega
        · have z3 := m3 k1 k3
          rw [z3]
          rintro (⟨y, -⟩ | ⟨-, y⟩)
          · omega
          · exact y q8
      · have v25 := s6 8 0 25 (by omega)
        have v6' := s6 8 0 6 (by omega)
        have v7 := s6 8 0 7 (by omega)
        have v8 := s6 8 0 8 (by omega)
        rw [v25] at z2
        have := Y4 z1 z2
        unfold YO at this ⊢
        rw [v25, v6', v7, v8]
        exact this
  · rw [if_neg c6]
    refine ro_fin (c := c) hB hx hM n F4 t1 t2 t3 e4 (by omega) w9 FG3 q1 q35 q37 cf3 (fun b6 m1 m2 m3 => ?_) E4' Y4
    rintro (⟨-, y, -⟩ | ⟨-, y⟩)
    · rw [q1, q35] at y
      exact c6 y
    · exact y q8
theorem md_readsOrder {T : Int → Int} {W L a f fl : Int} {g μ : ob_Mem} {R : ob_Res} (hW : 0 ≤ W) (hB : TB T L) (hx : TX T L g) (hM : MT T L μ) (hp : PZ L a f g) (h : XP a f g R) (he : μ 8 0 23 = a) (ho : g 6 0 7 = 0) (hf : frs T L a f) (hO : g 6 0 1 = 0 ∨ (a < L ∧ T a ≠ 32)) (hfl : fl ≠ 0 → VV W (μ 40 0) ∧ μ 8 0 25 = 0) : wp (ob_E (231, 0, [(11, 0), (1, fl), (0, 0), (0, 0)], [], (μ, none))) (RO W L fl (g 6 0 1) (g 6 0 6) R g μ) := by
  obtain ⟨b1, b2⟩ := id hB
  rw [sg_X8_readsOrder_0]
  refine wp_b (md_here hB hx hM hp h he) (fun v μ1 h1 => ?_)
  obtain ⟨b, f1, r1, r2, r3, r4, r5, r6, r7, r8⟩ := h1
  have H1 : FH μ μ1 := fun k i x z _ => r6 k i x z
  obtain ⟨p1, p2, p3, p4, p5, p6⟩ := id r4
  rcases r7 with ⟨l1, l2⟩ | ⟨l1, l2, l3⟩
  · have O0 : g 6 0 1 = 0 := by
      rcases hO with z | ⟨z1, z2⟩
      · exact z
      · have := r8 z1 z2
        omega
    simp (disch := first | omega | assumption) only [↓if_pos, ↓if_neg, Option.bind_some, ob_wr_id, sg_X8_readsOrder_4]
    rw [l1] at r3 r5
    have rr := sp_end hx r3
    rw [if_neg (fun z => z.2 O0)] at rr
    exact wp_ret ⟨FH_X H1, fun _ => FH_row H1, Or.inl ⟨rfl, by omega, g, by rw [r5]; exact rr⟩⟩
  · have tb := b2 b (by omega) l1
    by_cases n : nbr (T b) = 0
    · obtain ⟨n1, n2, n3, n4, n5, n6⟩ := nbr_n n
      have st : ob_E (231, 4, [(11, 0), (1, fl), (0, 0), (0, 0)], [(1, v)], (μ1, none)) = some (0, (μ1, none)) := by
        simp (disch := first | omega | assumption) only [↓if_pos, ↓if_neg, Option.bind_some, ob_wr_id, sg_X8_readsOrder_4]
      show wp (ob_E (231, 4, [(11, 0), (1, fl), (0, 0), (0, 0)], [(1, v)], (μ1, none))) _
      rw [st]
      refine wp_ret ⟨FH_X H1, fun _ => FH_row H1, Or.inl ⟨rfl, by omega, ?_⟩⟩
      rw [r5]
      by_cases c : fig (T b)
      · have f0 : f1 = 0 := by
          rcases frs_h hf r2 with z | z | z
          · exact z
          · omega
          · exact absurd c z
        subst f0
        exact ⟨g, sp_nonum hB hx r4 r3 l1 c (Or.inl ho)⟩
      · exact ⟨_, (sp_mark hB hx r4 r3 l1 c l3 (Or.inl rfl) (tm_noopen ho n)).2 rfl⟩
    · have nb := nbr_b (T b)
      have nl := nbr_l n
      have nf : ¬ fig (T b) := by
        unfold fig
        omega
      obtain ⟨g2, o0, o1, o2, o3, o4, o5, o6⟩ := tm_open (c := T b) ho (by omega) n
      have x2 := (sp_mark hB hx r4 r3 l1 nf l3 (Or.inr rfl) o0).1 rfl
      have u1 := o6 6 0 1 (by omega) (by omega)
      have u6 := o6 6 0 6 (by omega) (by omega)
      have F2 : FG g g2 := ⟨fun k i x a b c d => o6 k i x (by omega) (by omega), o6 6 0 0 (by omega) (by omega)⟩
      have hx2 := TX_F hx F2
      have z2 : PZ L (b + 1) 0 g2 := ⟨by omega, by omega, by omega, by omega, fun z => absurd z (by omega), fun z => absurd z (by omega)⟩
      have st : ob_E (231, 4, [(11, 0), (1, fl), (0, 0), (0, 0)], [(1, v)], (μ1, none)) = ob_E (231, 77, [(11, 0), (1, fl), (1, T b), (0, 0)], [(1, nbr (T b)), (11, 0)], (ob_set μ1 8 0 23 (b + 1), none)) := by
        rw [l2]
        generalize T b = c at nl
        rcases nl with rfl | rfl | rfl | rfl | rfl | rfl
        · rw [show nbr 116 = 2 from rfl]
          simp (disch := first | omega | assumption) only [↓if_pos, ↓if_neg, Option.bind_some, ob_wr_id, sg_X8_readsOrder_4, sg_X8_readsOrder_43, sg_X8_readsOrder_72, r5]
        · rw [show nbr 104 = 2 from rfl]
          simp (disch := first | omega | assumption) only [↓if_pos, ↓if_neg, Option.bind_some, ob_wr_id, sg_X8_readsOrder_4, sg_X8_readsOrder_43, sg_X8_readsOrder_72, r5]
        · rw [show nbr 112 = 1 from rfl]
          simp (disch := first | omega | assumption) only [↓if_pos, ↓if_neg, Option.bind_some, ob_wr_id, sg_X8_readsOrder_4, sg_X8_readsOrder_43, sg_X8_readsOrder_72, r5]
        · rw [show nbr 111 = 1 from rfl]
          simp (disch := first | omega | assumption) only [↓if_pos, ↓if_neg, Option.bind_some, ob_wr_id, sg_X8_readsOrder_4, sg_X8_readsOrder_43, sg_X8_readsOrder_72, r5]
        · rw [show nbr 103 = 2 from rfl]
          simp (disch := first | omega | assumption) only [↓if_pos, ↓if_neg, Option.bind_some, ob_wr_id, sg_X8_readsOrder_4, sg_X8_readsOrder_43, sg_X8_readsOrder_72, r5]
        · rw [show nbr 101 = 1 from rfl]
          simp (disch := first | omega | assumption) only [↓if_pos, ↓if_neg, Option.bind_some, ob_wr_id, sg_X8_readsOrder_4, sg_X8_readsOrder_43, sg_X8_readsOrder_72, r5]
      clear nl
      show wp (ob_E (231, 4, [(11, 0), (1, fl), (0, 0), (0, 0)], [(1, v)], (μ1, none))) _
      rw [st]
      have H2 : FH μ1 (ob_set μ1 8 0 23 (b + 1)) := fun k i x z _ => by
        by_cases y : k = 8
        · exact rs_s (by omega)
        · exact rs_k y
      have p23 : ob_set μ1 8 0 23 (b + 1) 8 0 23 = b + 1 := rs_e rfl rfl
      generalize ob_set μ1 8 0 23 (b + 1) = μ2 at *
      have H02 := FH_t H1 H2
      generalize hc : T b = c at *
      generalize hU : g 6 0 6 = U at *
      generalize hOO : g 6 0 1 = O at *
      rw [sg_X8_readsOrder_77]
      refine wp_b (md_takes (by omega) hB hx2 (MT_F hM H02) z2 x2 p23 (by omega) o1 (Or.inl rfl)) (fun v' μ3 h3 => ?_)
      obtain ⟨H3, h3⟩ := h3
      have H03 := FH_t H02 H3
      rw [sg_X8_readsOrder_80]
      rcases h3 with ⟨rfl, hz, g3, hr⟩ | ⟨rfl, b3, f3, g3, t1, t2, t3, t4, t5, t6, t7, t8⟩
      · simp (disch := first | omega | assumption) only [↓if_pos, ↓if_neg, Option.bind_some, ob_wr_id]
        exact wp_ret ⟨FH_X H03, fun _ => FH_row H03, Or.inl ⟨rfl, hz, g3, hr⟩⟩
      · rw [if_neg (by omega), if_pos (by omega)]
        rw [u6] at t6 t7 t8
        have hx3 := TX_F hx2 (GT_F t8)
        have N0 := t7 0 (by omega) (by omega)
        have q7 : g3 6 0 7 = 1 := by rw [t8 6 0 7 (by omega) (by omega), o2]
        have q8 : g3 6 0 8 = 0 := by rw [t8 6 0 8 (by omega) (by omega), o3]
        have q1 : g3 6 0 1 = O := by rw [t8 6 0 1 (by omega) (by omega), u1]
        have q35 : g3 35 0 O = c := by rw [t8 35 0 O (by omega) (by omega), o4]
        have q37 : g3 37 0 O = U := by rw [t8 37 0 O (by omega) (by omega), o5]
        have FG3 : FG g g3 := FG_t F2 (GT_F t8)
        by_cases c0 : fl = 0
        · rw [if_pos c0]
          refine ro_mid hB hx hM n t1 t2 t3 q7 q8 q1 q35 q37 (by omega) FG3 t6 (by omega) N0 (FH_X H03) t4 ⟨fun _ => ⟨FH_row H03, H03 8 0 25 (by omega) (by omega)⟩, fun z => absurd c0 z⟩ (fun z => absurd c0 z) (fun _ z => absurd c0 z)
        · obtain ⟨hV, hz⟩ := hfl c0
          rw [if_neg c0, if_pos (by omega), if_pos (by omega)]
          have H4 : ∀ k i x, ¬ (k = 8 ∧ x = 6) → ob_set μ3 8 0 6 0 k i x = μ3 k i x := fun k i x z => by
            by_cases y : k = 8
            · exact rs_s (by omega)
            · exact rs_k y
          have z6 : ob_set μ3 8 0 6 0 8 0 6 = 0 := rs_e rfl rfl
          have w0 := H4 56 0 0 (by omega)
          have w1 := H4 56 0 1 (by omega)
          rw [w0, w1]
          have rw4 : ob_set μ3 8 0 6 0 40 0 = μ 40 0 := by rw [rw_k (by omega), FH_row H03]
          generalize ob_set μ3 8 0 6 0 = μ4 at *
          have F4 : FX μ μ4 := FX_t (FH_X H03) (fun k i x _ _ z => H4 k i x (by omega))
          refine wp_b (md_does μ4 (c := c) (x := μ3 56 0 0) (y := μ3 56 0 1) (by rw [rw4]; exact hV)) (fun _ μ5 h5 => ?_)
          unfold DO at h5
          rw [rw4] at h5
          obtain ⟨d1, d2, d3⟩ := h5
          have ed : dV (μ 40 0) c (μ3 56 0 0) (μ3 56 0 1) = dV (μ 40 0) c (g3 38 0 (U + 0)) (g3 38 0 (U + 1)) ∧ dS (μ 40 0) c (μ3 56 0 0) (μ3 56 0 1) = dS (μ 40 0) c (g3 38 0 (U + 0)) (g3 38 0 (U + 1)) := by
            rw [N0]
            by_cases z : nbr c = 1
            · exact dV_y z
            · rw [t7 1 (by omega) (by omega)]
              exact ⟨rfl, rfl⟩
          rw [ed.1] at d3
          rw [ed.2] at d1
          have e25 : μ4 8 0 25 = 0 := by rw [H4 8 0 25 (by omega), H03 8 0 25 (by omega) (by omega), hz]
          refine ro_mid hB hx hM n t1 t2 t3 q7 q8 q1 q35 q37 (by omega) FG3 t6 (by omega) N0 (FX_t F4 (FD_X d2)) (by rw [d2 8 0 23 (by omega) (by omega), H4 8 0 23 (by omega), t4]) ⟨fun z => absurd z c0, fun _ => ⟨?_, d1, by rw [d1]; exact VV_d hW hV, cd_i _⟩⟩ (fun _ z2 => ?_) (fun z1 _ => ?_)
          · show μ5 8 0 25 = cd _
            unfold cd
            rcases d3 with ⟨y1, y2, -⟩ | ⟨y1, y2, -⟩
            · rw [if_neg (by omega), y2, e25]
            · rw [if_pos y1, y2]
          · rcases d3 with ⟨y1, y2, -⟩ | ⟨y1, y2, y3⟩
            · omega
            · unfold YW at y3
              unfold YO
              rw [← N0] at y3
              rw [y2]
              rcases y3 with y3 | ⟨y3, y4⟩
              · exact Or.inl y3
              · exact Or.inr ⟨y3, by rw [y4, z6]⟩
          · rcases d3 with ⟨y1, y2, y3⟩ | ⟨y1, y2, y3⟩
            · rw [y3, z6]
            · unfold YW at y3
              rcases y3 with ⟨y3, -⟩ | ⟨y3, y4⟩
              · omega
              · rw [y4, z6]
