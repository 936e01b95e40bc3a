-- READS: the model's two walks through the text
theorem md_pass1 {T : Int → Int} {W L : Int} {g0 μ : ob_Mem} {R : ob_Res} {P : Int → ob_Mem → Prop} (hW : 0 ≤ W) (hB : TB T L) (hx : TX T L g0) (hM : MT T L μ) (hp : PZ L 0 0 g0) (h : XP 0 0 g0 R) (ho : g0 6 0 7 = 0) (hO : g0 6 0 1 = 0) (hk : ∀ μ1 a1, FX μ μ1 → μ1 40 0 = μ 40 0 → ((a1 = 0 ∧ 0 ≤ μ1 8 0 23 ∧ ∃ g', R = some (μ1 8 0 23, (g', none))) ∨ (a1 = 1 ∧ ∃ g', R = some (-1, (g', none)))) → wp (ob_E (232, 32, [(11, 0), (1, a1), (0, 0), (0, 0)], [], (μ1, none))) P) : wp (ob_E (232, 0, [(11, 0), (0, 0), (0, 0), (0, 0)], [], (μ, none))) P := by
  obtain ⟨b1, b2⟩ := id hB
  rw [sg_X8_reads_0]
  have Fa : FX μ (ob_set μ 8 0 23 0) := fun k i x z1 z2 z3 => by
    by_cases y : k = 8
    · exact rs_s (by omega)
    · exact rs_k y
  have ra : ob_set μ 8 0 23 0 40 0 = μ 40 0 := rw_k (by omega)
  have pa : ob_set μ 8 0 23 0 8 0 23 = 0 := rs_e rfl rfl
  generalize ob_set μ 8 0 23 0 = μa at *
  refine wp_b (md_readsOrder (W := W) (fl := 0) hW hB hx (MT_X hM Fa) hp h pa ho (Or.inl rfl) (Or.inl hO) (fun z => absurd rfl z)) (fun v μ1 h1 => ?_)
  obtain ⟨F1, R1, h1⟩ := h1
  rw [sg_X8_reads_10]
  have R1 := (R1 rfl).trans ra
  have F1 := FX_t Fa F1
  have I1 : (v = 0 ∧ 0 ≤ μ1 8 0 23 ∧ ∃ g', R = some (μ1 8 0 23, (g', none))) ∨ (v = 1 ∧ ∃ a g, 1 ≤ g 6 0 1 ∧ XP a 0 g R ∧ PZ L a 0 g ∧ μ1 8 0 23 = a ∧ g 6 0 7 = 0 ∧ FG g0 g) := by
    rcases h1 with h1 | ⟨rfl, b, g', d1, d2, d3, d4, d5, d6⟩
    · exact Or.inl h1
    · refine Or.inr ⟨rfl, b, g', ?_, d1, d2, d3, d4.1, d4.2.2.2.2.2.2.1⟩
      have := d4.2.1
      omega
  have bad : ∀ μ2, FX μ μ2 → μ2 40 0 = μ 40 0 → (0 ≤ μ2 8 0 23 ∧ ∃ g', R = some (μ2 8 0 23, (g', none))) → wp (ob_E (232, 11, [(11, 0), (1, 0), (0, 0), (0, 0)], [], (μ2, none))) P := fun μ2 z1 z2 z3 => by
    rw [sg_X8_reads_11, if_pos rfl]
    exact hk μ2 0 z1 z2 (Or.inl ⟨rfl, z3⟩)
  refine wp_for (fun (_ : Int) (y : Int × ob_Mem) => ob_E (232, 11, [(11, 0), (1, y.1), (0, 0), (0, 0)], [], (y.2, none))) 1 122 (fun w y => FX μ y.2 ∧ y.2 40 0 = μ 40 0 ∧ ((y.1 = 0 ∧ 0 ≤ y.2 8 0 23 ∧ ∃ g', R = some (y.2 8 0 23, (g', none))) ∨ (y.1 = 1 ∧ ∃ a g, w ≤ g 6 0 1 ∧ XP a 0 g R ∧ PZ L a 0 g ∧ y.2 8 0 23 = a ∧ g 6 0 7 = 0 ∧ FG g0 g))) ?_ ?_ (by omega) (x := (v, μ1)) ⟨F1, R1, I1⟩
  · intro w ⟨x, μ2⟩ w1 w2 ⟨i1, i2, i3⟩ hk2
    have i1 : FX μ μ2 := i1
    have i2 : μ2 40 0 = μ 40 0 := i2
    show wp (ob_E (232, 11, [(11, 0), (1, x), (0, 0), (0, 0)], [], (μ2, none))) _
    rcases i3 with ⟨e, i3⟩ | ⟨e, a, g, j1, j2, j3, j4, j5, j6⟩
    · have e : x = 0 := e
      subst e
      exact bad μ2 i1 i2 i3
    · have e : x = 1 := e
      have j4 : μ2 8 0 23 = a := j4
      subst e
      have hxg := TX_F hx j6
      rw [sg_X8_reads_11, if_neg (by omega)]
      refine wp_b (md_here hB hxg (MT_X hM i1) j3 j2 j4) (fun v3 μ3 h3 => ?_)
      obtain ⟨b, f3, r1, r2, r3, r4, r5, r6, r7, r8⟩ := h3
      have H3 : FH μ2 μ3 := fun k i x z _ => r6 k i x z
      have F3 := FX_t i1 (FH_X H3)
      have R3 := (FH_row H3).trans i2
      have f0 : f3 = 0 := by
        rcases r2 with ⟨-, z⟩ | z
        · exact z
        · exact z
      subst f0
      rw [sg_X8_reads_19]
      rcases r7 with ⟨l1, l2⟩ | ⟨l1, l2, l3⟩
      · rw [if_pos l2]
        rw [l1] at r3
        have rr := sp_end hxg r3
        rw [if_pos ⟨j5, by omega⟩] at rr
        exact hk μ3 1 F3 R3 (Or.inr ⟨rfl, g, rr⟩)
      · have tb := b2 b (by have := r4.1; omega) l1
        rw [if_neg (by omega)]
        refine wp_b (md_readsOrder (W := W) (fl := 0) hW hB hxg (MT_X hM F3) r4 r3 r5 j5 (Or.inl rfl) (Or.inr ⟨l1, l3⟩) (fun z => absurd rfl z)) (fun v4 μ4 h4 => ?_)
        obtain ⟨F4, R4, h4⟩ := h4
        rw [sg_X8_reads_28]
        refine hk2 (v4, μ4) ⟨FX_t F3 F4, (R4 rfl).trans R3, ?_⟩
        rcases h4 with h4 | ⟨rfl, b4, g4, d1, d2, d3, d4, d5, d6⟩
        · exact Or.inl h4
        · refine Or.inr ⟨rfl, b4, g4, ?_, d1, d2, d3, d4.1, FG_t j6 d4.2.2.2.2.2.2.1⟩
          have := d4.2.1
          omega
  · intro ⟨x, μ2⟩ ⟨i1, i2, i3⟩
    have i1 : FX μ μ2 := i1
    have i2 : μ2 40 0 = μ 40 0 := i2
    show wp (ob_E (232, 11, [(11, 0), (1, x), (0, 0), (0, 0)], [], (μ2, none))) _
    rcases i3 with ⟨e, i3⟩ | ⟨e, a, g, j1, j2, j3, j4, j5, j6⟩
    · have e : x = 0 := e
      subst e
      exact bad μ2 i1 i2 i3
    · have := j3.1
      have := j3.2.2.1
      omega
/-- order k of those that were found, done on a row -/
noncomputable def oR (gF : ob_Mem) (s : Int → Int) (k : Int) : Int × (Int → Int) := oF s (gF 35 0 k) (fun y => gF 38 0 (gF 37 0 k + y)) (gF 37 0 (k + 1) - gF 37 0 k)
noncomputable def sQ (gF : ob_Mem) (s : Int → Int) (n : Nat) : Int → Int := fo (fun k s => (oR gF s k).2) s n
theorem sQ_s {gF : ob_Mem} {s : Int → Int} {k : Int} (h : 0 ≤ k) : sQ gF s (k + 1).toNat = (oR gF (sQ gF s k.toNat) k).2 := fo_s h
/-- order k as the parse leaves it -/
def DK (gF : ob_Mem) (k : Int) : Prop := 0 ≤ gF 37 0 k ∧ gF 37 0 (k + 1) ≤ 120 ∧ CF (gF 35 0 k) (gF 37 0 (k + 1) - gF 37 0 k) ∧ k < 120
theorem md_pass2 {T : Int → Int} {W L : Int} {g0 gF μ : ob_Mem} {R : ob_Res} {P : Int → ob_Mem → Prop} (hW : 0 ≤ W) (hB : TB T L) (hx : TX T L g0) (hM : MT T L μ) (hp : PZ L 0 0 g0) (h : XP 0 0 g0 R) (ho : g0 6 0 7 = 0) (hO : g0 6 0 1 = 0) (hR : R = some (-1, (gF, none))) (hV : VV W (μ 40 0)) (h23 : μ 8 0 23 = 0) (h25 : μ 8 0 25 = 0) (hd : ∀ μ2 a1, FX μ μ2 → μ2 40 0 = sQ gF (μ 40 0) (gF 6 0 1).toNat → VV W (μ2 40 0) → 1 ≤ gF 6 0 1 → (∀ k, 0 ≤ k → k < gF 6 0 1 → ¬ (oR gF (sQ gF (μ 40 0) k.toNat) k).1 < 0) → (∀ k, 0 ≤ k → k < gF 6 0 1 → DK gF k) → wp (ob_E (232, 87, [(11, 0), (1, a1), (1, gF 6 0 1), (0, 0)], [(1, -1)], (μ2, none))) P) (hs : ∀ μ2 a1 k, FX μ μ2 → 0 ≤ k → k < gF 6 0 1 → (∀ k', 0 ≤ k' → k' < k → ¬ (oR gF (sQ gF (μ 40 0) k'.toNat) k').1 < 0) → μ2 8 0 25 = (oR gF (sQ gF (μ 40 0) k.toNat) k).1 → (oR gF (sQ gF (μ 40 0) k.toNat) k).1 < 0 → YO (sQ gF (μ 40 0) k.toNat) (gF 35 0 k) (gF 38 0 (gF 37 0 k + 0)) μ2 → (∀ k', 0 ≤ k' → k' < k + 1 → DK gF k') → wp (ob_E (232, 106, [(11, 0), (1, a1), (1, k), (1, 0)], [], (μ2, none))) P) : wp (ob_E (232, 83, [(11, 0), (1, 1), (1, 0), (0, 0)], [], (μ, none))) P := by
  obtain ⟨b1, b2⟩ := id hB
  refine wp_for (fun (k : Int) (y : Int × ob_Mem) => ob_E (232, 83, [(11, 0), (1, y.1), (1, k), (0, 0)], [], (y.2, none))) 0 122 (fun k y => FX μ y.2 ∧ y.2 8 0 25 = 0 ∧ y.2 40 0 = sQ gF (μ 40 0) k.toNat ∧ VV W (y.2 40 0) ∧ (∀ k', 0 ≤ k' → k' < k → ¬ (oR gF (sQ gF (μ 40 0) k'.toNat) k').1 < 0) ∧ (∀ k', 0 ≤ k' → k' < k → DK gF k') ∧ ∃ a g, g 6 0 1 = k ∧ XP a 0 g R ∧ PZ L a 0 g ∧ y.2 8 0 23 = a ∧ g 6 0 7 = 0 ∧ FG g0 g) ?_ ?_ (by omega) (x := (1, μ)) ⟨FX_r, h25, rfl, hV, fun k' a b => absurd a (by omega), fun k' a b => absurd a (by omega), 0, g0, hO, h, hp, h23, ho, FG_r⟩
  · intro k ⟨x, μ2⟩ k1 k2 ⟨i1, i2, i3, i4, i5, i6, a, g, j1, j2, j3, j4, j5, j6⟩ hk2
    have i1 : FX μ μ2 := i1
    have i2 : μ2 8 0 25 = 0 := i2
    have i3 : μ2 40 0 = sQ gF (μ 40 0) k.toNat := i3
    have i4 : VV W (μ2 40 0) := i4
    have j4 : μ2 8 0 23 = a := j4
    show wp (ob_E (232, 83, [(11, 0), (1, x), (1, k), (0, 0)], [], (μ2, none))) _
    have hxg := TX_F hx j6
    rw [sg_X8_reads_83]
    refine wp_b (md_here hB hxg (MT_X hM i1) j3 j2 j4) (fun v3 μ3 h3 => ?_)
    obtain ⟨b, f3, r1, r2, r3, r4, r5, r6, r7, r8⟩ := h3
    have H3 : FH μ2 μ3 := fun k i x z _ => r6 k i x z
    have F3 := FX_t i1 (FH_X H3)
    have R3 := FH_row H3
    have f0 : f3 = 0 := by
      rcases r2 with ⟨-, z⟩ | z
      · exact z
      · exact z
    subst f0
    rcases r7 with ⟨l1, l2⟩ | ⟨l1, l2, l3⟩
    · rw [l1] at r3
      have rr := sp_end hxg r3
      rw [hR] at rr
      by_cases z : g 6 0 1 = 0
      · rw [if_neg (fun y => y.2 z)] at rr
        injection rr with rr
        injection rr with rr
        omega
      · rw [if_pos ⟨j5, z⟩] at rr
        injection rr with rr
        injection rr with _ rr
        injection rr with rr
        subst rr
        subst l2
        rw [← j1] at i3 i5 i6
        rw [← j1]
        exact hd μ3 x F3 (R3.trans i3) (by rw [R3]; exact i4) (by omega) i5 i6
    · have tb := b2 b (by have := r4.1; omega) l1
      rw [sg_X8_reads_87, if_neg (by omega)]
      refine wp_b (md_readsOrder (W := W) (fl := 1) hW hB hxg (MT_X hM F3) r4 r3 r5 j5 (Or.inl rfl) (Or.inr ⟨l1, l3⟩) (fun _ => ⟨by rw [R3]; exact i4, by rw [r6 8 0 25 (by omega), i2]⟩)) (fun v4 μ4 h4 => ?_)
      obtain ⟨F4, R4, h4⟩ := h4
      rcases h4 with ⟨-, y1, g', y2⟩ | ⟨rfl, b4, g4, d1, d2, d3, d4, d5, d6⟩
      · rw [hR] at y2
        injection y2 with y2
        injection y2 with y2
        omega
      · obtain ⟨e1, e2, e3, e4, e5, e6, e7, e8⟩ := d4
        obtain ⟨V, gF', m1, m2, m3⟩ := sp_mono hB (L - b4).toNat b4 0 g4 (by have := d2.1; omega) (TX_F hxg e7) d2 (fun z => absurd e1 z) d1
        rw [hR] at m1
        injection m1 with m1
        injection m1 with _ m1
        injection m1 with m1
        subst m1
        obtain ⟨o1, o2, o3, o4, o5⟩ := m3
        rw [e2] at o1 o3 o5
        have q := o1 (g 6 0 1) (by omega) (by omega)
        have q37 := o3 e1 e5
        rw [e4] at q
        rw [j1] at q q37 e4 e5 e6 e8 o5
        have eo : oF (μ3 40 0) (g4 35 0 (g 6 0 1)) (fun y => g4 38 0 (g 6 0 6 + y)) (g4 6 0 6 - g 6 0 6) = oR gF (sQ gF (μ 40 0) k.toNat) k := by
          unfold oR
          rw [R3, i3, j1, q.1, q.2, q37]
          refine oF_c e8 (fun y y0 y1 => (o2 (g 6 0 6 + y) ?_ ?_ (Or.inl rfl)).symm)
          · have := r4.2.2.2.1
            omega
          · omega
        have dk : DK gF k := ⟨by rw [q.2]; have := r4.2.2.2.1; omega, by rw [q37]; have := d2.2.2.2.1; have := d2.1; omega, by rw [q.1, q.2, q37]; exact e8, by have := d2.2.2.1; have := d2.1; omega⟩
        have i6' : ∀ k', 0 ≤ k' → k' < k + 1 → DK gF k' := fun k' z1 z2 => by
          by_cases e : k' = k
          · rw [e]
            exact dk
          · exact i6 k' z1 (by omega)
        rw [eo] at d5
        obtain ⟨t1, t2, t3, t4⟩ := d5.2 (by omega)
        rw [sg_X8_reads_96]
        have F4 := FX_t F3 F4
        by_cases c : μ4 8 0 25 < 0
        · rw [if_pos c]
          have yo := d6 (by omega) c
          rw [R3, i3, j1, ← q.1, ← o2 (g 6 0 6 + 0) (by have := r4.2.2.2.1; omega) (by rcases e8 with e8 | e8 <;> omega) (Or.inl rfl), ← q.2] at yo
          exact hs μ4 1 k F4 k1 (by omega) i5 t1 (by omega) yo i6'
        · rw [if_neg c, ob_wr_id (by omega) (by omega)]
          refine hk2 (1, μ4) ⟨F4, by show μ4 8 0 25 = 0; omega, by show μ4 40 0 = _; rw [sQ_s k1]; exact t2, t3, fun k' z1 z2 => ?_, i6', b4, g4, by omega, d1, d2, d3, e1, FG_t j6 e7⟩
          by_cases e : k' = k
          · rw [e]
            omega
          · exact i5 k' z1 (by omega)
  · intro ⟨x, μ2⟩ ⟨i1, i2, i3, i4, i5, i6, a, g, j1, j2, j3, j4, j5, j6⟩
    have := j3.1
    have := j3.2.2.1
    omega
