-- WEAR: rows with other wear; keeping; bridges' wear
def wpo (v : Int) : Int := 12 + 116 * (v / 12) + (44 + 4 * (v % 12) + 3)
theorem wpo_i {v w : Int} (hv : 0 ≤ v ∧ v < 36) (hw : 0 ≤ w ∧ w < 36) (e : wpo v = wpo w) : v = w := by
  unfold wpo at e
  omega
theorem wq_e (s : Int → Int) (v : Int) : wq s v = s (wpo v) := rfl
/-- the wear of the pins of D is changed by g -/
noncomputable def wrw (s : Int → Int) (D : Int → Prop) (g : Int → Int) : Int → Int := fun p => @ite _ (∃ v, Pin s v ∧ D v ∧ p = wpo v) (Classical.propDecidable _) (g (s p)) (s p)
theorem wrw_n {s : Int → Int} {D : Int → Prop} {g : Int → Int} {p : Int} (h : ∀ v, Pin s v → D v → p ≠ wpo v) : wrw s D g p = s p := if_neg (fun ⟨v, a, b, c⟩ => h v a b c)
theorem wrw_y {s : Int → Int} {D : Int → Prop} {g : Int → Int} {v : Int} (h : Pin s v) (hD : D v) : wrw s D g (wpo v) = g (s (wpo v)) := if_pos ⟨v, h, hD, rfl⟩
theorem wrw_x {s : Int → Int} {D : Int → Prop} {g : Int → Int} {v : Int} (h : Pin s v) (hD : ¬ D v) : wrw s D g (wpo v) = s (wpo v) := wrw_n (fun w a b c => hD (by rw [wpo_i h.1 a.1 c]; exact b))
theorem wrw_c {s : Int → Int} {D D' : Int → Prop} {g : Int → Int} (h : ∀ v, Pin s v → (D v ↔ D' v)) : wrw s D g = wrw s D' g := by
  funext p
  by_cases c : ∃ v, Pin s v ∧ D v ∧ p = wpo v
  · have c' : ∃ v, Pin s v ∧ D' v ∧ p = wpo v := by
      obtain ⟨v, a, b, d⟩ := c
      exact ⟨v, a, (h v a).mp b, d⟩
    unfold wrw
    rw [if_pos c, if_pos c']
  · have c' : ¬ ∃ v, Pin s v ∧ D' v ∧ p = wpo v := fun ⟨v, a, b, d⟩ => c ⟨v, a, (h v a).mpr b, d⟩
    unfold wrw
    rw [if_neg c, if_neg c']
theorem wrw_s {s : Int → Int} {D D' : Int → Prop} {g : Int → Int} {v : Int} (h : Pin s v) (hD : ∀ w, Pin s w → (D' w ↔ (D w ∨ w = v))) : up (wrw s D g) (wpo v) (g (s (wpo v))) = wrw s D' g := by
  funext p
  by_cases e : p = wpo v
  · rw [up_e e, e, wrw_y h ((hD v h).mpr (Or.inr rfl))]
  · rw [up_n e]
    by_cases c : ∃ w, Pin s w ∧ D w ∧ p = wpo w
    · obtain ⟨w, a, b, d⟩ := c
      rw [d, wrw_y a b, wrw_y a ((hD w a).mpr (Or.inl b))]
    · rw [wrw_n (fun w a b d => c ⟨w, a, b, d⟩), wrw_n (fun w a b d => ?_)]
      rcases (hD w a).mp b with z | z
      · exact c ⟨w, a, z, d⟩
      · rw [z] at d
        exact e d
theorem wrw_o {s : Int → Int} {D : Int → Prop} {g : Int → Int} {p : Int} (h : p < 12 ∨ (∃ t w, (0 ≤ t ∧ t < 3) ∧ (0 ≤ w ∧ w < 116) ∧ p = 12 + 116 * t + w ∧ (w < 44 ∨ 92 ≤ w ∨ (w - 44) % 4 ≠ 3))) : wrw s D g p = s p := wrw_n (fun v a _ d => by
  have := a.1
  unfold wpo at d
  rcases h with h | ⟨t, w, h1, h2, h3, h4⟩ <;> omega)
/-- a row changed in wear alone -/
def wro (s s' : Int → Int) : Prop := ∀ p, (p < 12 ∨ (∃ t w, (0 ≤ t ∧ t < 3) ∧ (0 ≤ w ∧ w < 116) ∧ p = 12 + 116 * t + w ∧ (w < 44 ∨ 92 ≤ w ∨ (w - 44) % 4 ≠ 3))) → s' p = s p
theorem wro_t {s s' : Int → Int} (h : wro s s') {t w : Int} (ht : 0 ≤ t ∧ t < 3) (hw : 0 ≤ w ∧ w < 116) (hx : w < 44 ∨ 92 ≤ w ∨ (w - 44) % 4 ≠ 3) : s' (12 + 116 * t + w) = s (12 + 116 * t + w) := h _ (Or.inr ⟨t, w, ht, hw, rfl, hx⟩)
theorem VV_w {W W' : Int} {s s' : Int → Int} (hW : W ≤ W') (hV : VV W s) (h : wro s s') (hw : ∀ v, Pin s v → 0 ≤ s' (wpo v) ∧ s' (wpo v) ≤ W') : VV W' s' := by
  refine ⟨hv_c hV.1 (fun p a b => h p (Or.inl b)), fun t a b => ?_⟩
  obtain ⟨h1, h2⟩ := hV.2 t a b
  have hT := hV.1.2.2.1
  have e0 := h 0 (Or.inl (by omega))
  have e1 := h 1 (Or.inl (by omega))
  have e2 := h 2 (Or.inl (by omega))
  refine ⟨tv_c h1 e0 e1 e2 (fun w c d => wro_t h ⟨a, b⟩ (by omega) (by omega)), ?_⟩
  obtain ⟨a1, a2, a3⟩ := h2
  have e39 := wro_t h ⟨a, b⟩ (w := 39) (by omega) (by omega)
  have e40 := wro_t h ⟨a, b⟩ (w := 40) (by omega) (by omega)
  have e41 := wro_t h ⟨a, b⟩ (w := 41) (by omega) (by omega)
  have e42 := wro_t h ⟨a, b⟩ (w := 42) (by omega) (by omega)
  have e43 := wro_t h ⟨a, b⟩ (w := 43) (by omega) (by omega)
  refine ⟨by omega, fun z => ?_, fun z => ?_⟩
  · have := a2 (by omega)
    omega
  · have z' : s (12 + 116 * t + 39) = 1 := by omega
    obtain ⟨b1, b2, b3, b4, b5, b6⟩ := a3 z'
    have tT : t < s 2 := by
      by_cases q : t < s 2
      · exact q
      · have := a2 (by omega)
        omega
    refine ⟨by omega, by omega, by omega, by omega, fun i c1 c2 => ?_, fun i i' c1 c2 c3 c4 c5 c6 => ?_⟩
    · have f0 := wro_t h ⟨a, b⟩ (w := 44 + 4 * i + 0) (by omega) (by omega)
      have f1 := wro_t h ⟨a, b⟩ (w := 44 + 4 * i + 1) (by omega) (by omega)
      have f2 := wro_t h ⟨a, b⟩ (w := 44 + 4 * i + 2) (by omega) (by omega)
      obtain ⟨d1, d2, d3, d4⟩ := b5 i c1 (by omega)
      have hp : Pin s (12 * t + i) := ⟨by omega, by omega, by rw [show (12 * t + i) / 12 = t by omega]; exact z', by rw [show (12 * t + i) / 12 = t by omega, show (12 * t + i) % 12 = i by omega]; omega⟩
      have f3 := hw _ hp
      unfold wpo at f3
      rw [show (12 * t + i) / 12 = t by omega, show (12 * t + i) % 12 = i by omega] at f3
      exact ⟨by omega, by omega, by omega, f3⟩
    · have f0 := wro_t h ⟨a, b⟩ (w := 44 + 4 * i + 0) (by omega) (by omega)
      have f1 := wro_t h ⟨a, b⟩ (w := 44 + 4 * i + 1) (by omega) (by omega)
      have g0 := wro_t h ⟨a, b⟩ (w := 44 + 4 * i' + 0) (by omega) (by omega)
      have g1 := wro_t h ⟨a, b⟩ (w := 44 + 4 * i' + 1) (by omega) (by omega)
      have := b6 i i' c1 (by omega) c3 (by omega) c5 (by omega)
      omega
theorem Rep_w {W : Int} {m m' : ob_Mem} {j : Int} {s s' : Int → Int} (hV : VV W s) (h : Rep m j s) (hm : ∀ k i x, k ≠ 34 → m' k i x = m k i x) (hs : wro s s') (hw : ∀ v, Pin s v → m' 34 (3 * j + v / 12) (v % 12) = s' (wpo v)) : Rep m' j s' := by
  obtain ⟨⟨h1, h2, h3, h4, h5, h6⟩, h7, h8⟩ := h
  have z : ∀ p, p < 12 → s' p = s p := fun p a => hs p (Or.inl a)
  refine ⟨⟨?_, ?_, ?_, ?_, ?_, ?_⟩, fun k a b => ?_, fun t a b => ?_⟩
  · rw [hm _ _ _ (by omega), h1, z _ (by omega)]
  · rw [hm _ _ _ (by omega), h2, z _ (by omega)]
  · rw [hm _ _ _ (by omega), h3, z _ (by omega)]
  · rw [hm _ _ _ (by omega), h4, z _ (by omega)]
  · rw [hm _ _ _ (by omega), h5, z _ (by omega)]
  · rw [hm _ _ _ (by omega), h6, z _ (by omega)]
  · rw [hm _ _ _ (by omega), h7 k a b, z _ (by omega)]
  · obtain ⟨g1, g2, g3⟩ := h8 t a b
    obtain ⟨v1, v2⟩ := hV.2 t a b
    have e39 := wro_t hs ⟨a, b⟩ (w := 39) (by omega) (by omega)
    refine ⟨rN_c g1 (fun k i p q => hm k i p (by have := q.1; omega)) (fun w c d => wro_t hs ⟨a, b⟩ (by omega) (by omega)) v1.2.2.1.2, by rw [hm _ _ _ (by omega), g2, e39], fun hp => ?_⟩
    rw [e39] at hp
    obtain ⟨q1, q2, q3, q4, q5⟩ := g3 hp
    have n12 := (v2.2.2 hp).2.2.2.1
    have tT : t < s 2 := by
      by_cases q : t < s 2
      · exact q
      · have := v2.2.1 (by omega)
        omega
    have e43 := wro_t hs ⟨a, b⟩ (w := 43) (by omega) (by omega)
    refine ⟨?_, ?_, ?_, ?_, fun i c1 c2 => ?_⟩
    · rw [hm _ _ _ (by omega), q1]
      exact (wro_t hs ⟨a, b⟩ (by omega) (by omega)).symm
    · rw [hm _ _ _ (by omega), q2]
      exact (wro_t hs ⟨a, b⟩ (by omega) (by omega)).symm
    · rw [hm _ _ _ (by omega), q3]
      exact (wro_t hs ⟨a, b⟩ (by omega) (by omega)).symm
    · rw [hm _ _ _ (by omega), q4]
      exact e43.symm
    · have c2 : i < s' (12 + 116 * t + 43) := c2
      rw [e43] at c2
      obtain ⟨d1, d2, d3, d4, d5, d6⟩ := q5 i c1 c2
      have hpn : Pin s (12 * t + i) := ⟨by omega, by omega, by rw [show (12 * t + i) / 12 = t by omega]; exact hp, by rw [show (12 * t + i) / 12 = t by omega, show (12 * t + i) % 12 = i by omega]; exact c2⟩
      have f3 := hw _ hpn
      unfold wpo at f3
      rw [show (12 * t + i) / 12 = t by omega, show (12 * t + i) % 12 = i by omega] at f3
      refine ⟨?_, ?_, ?_, f3, ?_, ?_⟩
      · rw [hm _ _ _ (by omega), d1]
        exact (wro_t hs ⟨a, b⟩ (by omega) (by omega)).symm
      · rw [hm _ _ _ (by omega), d2]
        exact (wro_t hs ⟨a, b⟩ (by omega) (by omega)).symm
      · rw [hm _ _ _ (by omega), d3]
        exact (wro_t hs ⟨a, b⟩ (by omega) (by omega)).symm
      · rw [hm _ _ _ (by omega), d5]
        exact (wro_t hs ⟨a, b⟩ (by omega) (by omega)).symm
      · rw [hm _ _ _ (by omega), d6]
        exact (wro_t hs ⟨a, b⟩ (by omega) (by omega)).symm
theorem wrw_wro {s : Int → Int} {D : Int → Prop} {g : Int → Int} : wro s (wrw s D g) := fun _ h => wrw_o h
/-- keeping changes the states alone -/
def fk (m m' : ob_Mem) : Prop := ∀ k i x, k ≠ 41 → ¬ (k = 8 ∧ x = 3) → m' k i x = m k i x
theorem md_keepF (m : ob_Mem) (hn : 0 ≤ m 8 0 3 ∧ m 8 0 3 ≤ 5) : wp (ob_E (136, 0, [(11, 0), (0, 0)], [], (m, none))) (fun _ m' => fk m m' ∧ PP (m 40 0) m m') := by
  have key : ∀ (n : Int) (x : ob_AV) (m1 : ob_Mem), 0 ≤ n → n < 5 → m1 8 0 3 = n → fk m m1 → wp (ob_E (136, 49, [(11, 0), x], [], (m1, none))) (fun _ m' => fk m m' ∧ m' 8 0 3 = n + 1 ∧ (∀ q, 0 ≤ q → q < 360 * n → m' 41 0 q = m1 41 0 q) ∧ ∀ p, 0 ≤ p → p < 360 → m' 41 0 (360 * n + p) = (m 40 0) p) := by
    intro n x m1 hn1 hn2 hn3 hf
    rw [sg_X8_keep_49]
    refine wp_for (fun y (m' : ob_Mem) => ob_E (136, 51, [(11, 0), (1, y)], [], (m', none))) 0 360 (fun y m' => fk m m' ∧ m' 8 0 3 = n ∧ (∀ q, 0 ≤ q → q < 360 * n → m' 41 0 q = m1 41 0 q) ∧ ∀ p, 0 ≤ p → p < y → m' 41 0 (360 * n + p) = (m 40 0) p) ?_ ?_ (by omega) ⟨hf, hn3, fun _ _ _ => rfl, fun p a b => absurd a (by omega)⟩
    · intro y m2 h1 h2 ⟨i1, i3, i4, i5⟩ hk
      have e40 := i1 40 0 y (by omega) (by omega)
      rw [sg_X8_keep_51]
      simp (disch := first | omega | assumption) only [↓if_pos, ↓if_neg, Option.bind_some, ob_wr_id, i3]
      refine hk _ ⟨fun k i x a b => by rw [rs_k a, i1 k i x a b], by rw [rs_k (by omega), i3], fun q a b => by rw [rs_s (by omega), i4 q a b], fun p a b => ?_⟩
      by_cases e : p = y
      · rw [rs_e rfl (by omega), e40, e]
      · rw [rs_s (by omega), i5 p a (by omega)]
    · intro m2 ⟨i1, i3, i4, i5⟩
      rw [sg_X8_keep_51]
      simp (disch := first | omega | assumption) only [↓if_pos, ↓if_neg, Option.bind_some, ob_wr_id, i3]
      refine wp_ret ⟨fun k i x a b => ?_, rs_e rfl rfl, fun q a b => by rw [rs_k (by omega), i4 q a b], fun p a b => by rw [rs_k (by omega), i5 p a b]⟩
      by_cases z : k = 8
      · rw [rs_s (by omega), i1 k i x a b]
      · rw [rs_k z, i1 k i x a b]
  rw [sg_X8_keep_0]
  by_cases c : m 8 0 3 = 5
  · rw [if_pos c]
    refine wp_for (fun y (m' : ob_Mem) => ob_E (136, 10, [(11, 0), (1, y)], [], (m', none))) 0 1440 (fun y m' => fk m m' ∧ m' 8 0 3 = 5 ∧ (∀ q, 0 ≤ q → q < y → m' 41 0 q = m 41 0 (q + 360)) ∧ ∀ q, y ≤ q → m' 41 0 q = m 41 0 q) ?_ ?_ (by omega) ⟨fun _ _ _ _ _ => rfl, c, fun q a b => absurd a (by omega), fun _ _ => rfl⟩
    · intro y m2 h1 h2 ⟨i1, i3, i4, i5⟩ hk
      rw [sg_X8_keep_10]
      simp (disch := first | omega | assumption) only [↓if_pos, ↓if_neg, Option.bind_some, ob_wr_id]
      refine hk _ ⟨fun k i x a b => by rw [rs_k a, i1 k i x a b], by rw [rs_k (by omega), i3], fun q a b => ?_, fun q a => by rw [rs_s (by omega), i5 q (by omega)]⟩
      by_cases e : q = y
      · rw [rs_e rfl e, i5 _ (by omega), e]
      · rw [rs_s e, i4 q a (by omega)]
    · intro m2 ⟨i1, i3, i4, i5⟩
      rw [sg_X8_keep_10]
      simp (disch := first | omega | assumption) only [↓if_pos, ↓if_neg, Option.bind_some, ob_wr_id, i3]
      refine wp_mono (key 4 _ _ (by omega) (by omega) (rs_e rfl rfl) (fun k i x a b => ?_)) (fun v m' h => ?_)
      · by_cases z : k = 8
        · rw [rs_s (by omega), i1 k i x a b]
        · rw [rs_k z, i1 k i x a b]
      · obtain ⟨j1, j3, j4, j5⟩ := h
        refine ⟨j1, ?_, fun i p a b e f => ?_, fun p a b => ?_⟩
        · rw [if_pos c, j3]
          omega
        · rw [if_pos c] at b
          rw [if_pos c, j4 _ (by omega) (by omega), rs_k (by omega), i4 _ (by omega) (by omega), show 360 * i + p + 360 = 360 * (i + 1) + p by omega]
        · rw [if_pos c, j5 p a b]
  · rw [if_neg c]
    refine wp_mono (key (m 8 0 3) _ m (by omega) (by omega) rfl (fun _ _ _ _ _ => rfl)) (fun v m' h => ?_)
    obtain ⟨j1, j3, j4, j5⟩ := h
    refine ⟨j1, ?_, fun i p a b e f => ?_, fun p a b => ?_⟩
    · rw [if_neg c, j3]
    · rw [if_neg c] at b
      rw [if_neg c, j4 _ (by omega) (by omega)]
    · rw [if_neg c, j5 p a b]
theorem fk_fa {m m' : ob_Mem} (h : fk m m') : fa m m' := fun k i x q => h k i x (by omega) (by omega)
theorem fk_row {m m' : ob_Mem} (h : fk m m') : m' 40 0 = m 40 0 := by
  funext p
  exact h 40 0 p (by omega) (by omega)
theorem PC_br {W : Int} {m m' : ob_Mem} {s s' : Int → Int} {n : Int} {P : Int → Int → Int} (h : PC W m s s' n P) (hs : sm (fun k _ => k = 1 ∨ (19 ≤ k ∧ k ≤ 25)) m m') : PC W m' s s' n P := by
  obtain ⟨⟨⟨h0, h1⟩, h2, ⟨h3, h3'⟩, h4⟩, h5, h6⟩ := h
  have e7 : ∀ k i x, k = 7 ∨ k = 39 → m' k i x = m k i x := fun k i x hk => hs k i x (by omega)
  refine ⟨⟨⟨h0, by rw [e7 7 _ _ (by omega)]; exact h1⟩, bij_c h2 (e7 7 _ _ (by omega)) (e7 7 _ _ (by omega)) (fun i => e7 39 _ _ (by omega)), ⟨h3, by rw [e7 7 _ _ (by omega)]; exact Rep_br h3 h3' hs⟩, fun i a b => ?_⟩, h5, by rw [e7 7 _ _ (by omega)]; exact Rep_br h5 h6 hs⟩
  obtain ⟨g1, g2⟩ := h4 i a b
  rw [e7 39 _ _ (by omega)]
  exact ⟨g1, Rep_br g1 g2 hs⟩
theorem CH_W {W W' : Int} {m : ob_Mem} {s : Int → Int} {n : Int} {P : Int → Int → Int} (hW : W ≤ W') (h : CH W m s n P) : CH W' m s n P := CH_m hW h (fun _ _ _ _ => rfl) (fun _ _ _ => rfl) (fun _ _ _ _ _ _ => rfl)
theorem Inv_W {W W' : Int} {m : ob_Mem} (hW : W ≤ W') (h : Inv W m) : Inv W' m := ⟨CH_W hW h.1, h.2⟩
theorem Agr_W {W W' : Int} {m : ob_Mem} {cx mx : ob_Mem → ob_Res} (hW : W ≤ W') (h : Agr W W m cx mx) : Agr W W' m cx mx := by
  obtain ⟨v, m1, m2, a, b, c, d⟩ := h
  exact ⟨v, m1, m2, a, b, Inv_W hW c, d⟩
/-- a bridge's wear is not below 0 -/
def WI (W : Int) (q : BS) : Prop := ∀ b, 0 ≤ b → b < q.1 → 0 ≤ q.2.2.2.2.2.1 b ∧ q.2.2.2.2.2.1 b ≤ W * cnt (fun v => 0 ≤ q.2.2.2.2.2.2 v) 36
theorem WI_step {W : Int} {s : Int → Int} {a x : Int} {q : BS} (hW : 0 ≤ W ∧ W ≤ 30000) (hV : VV W s) (hS : SI s a x q) (h : WI W q) : WI W (bstep s a x q) := by
  unfold bstep
  by_cases c : pat s x a = -1
  · rw [if_pos c]
    exact h
  · rw [if_neg c]
    rcases pat_i s x a with ⟨p1, p2, p3⟩ | ⟨p1, -⟩
    · have pb := Pin_b hV p1
      have n35 := SI_35 hS c
      obtain ⟨S1, S2, S3, S4⟩ := id hS
      have uN : ¬ (0 ≤ q.2.2.2.2.2.2 (pat s x a)) := fun z => by
        have := (S2 _ p1).mp z
        omega
      have c36 := cnt_le (P := fun v => 0 ≤ q.2.2.2.2.2.2 v) 36
      have c36 : cnt (fun v => 0 ≤ q.2.2.2.2.2.2 v) 36 ≤ 36 := c36
      have c00 := cnt_0 (P := fun v => 0 ≤ q.2.2.2.2.2.2 v) 36
      have wc := ob_mulb hW.1 hW.2 c00 c36
      have add : ∀ q' : BS, 1 ≤ q'.1 → q'.2.2.2.2.2.2 = q.2.2.2.2.2.2 → (∀ b, 0 ≤ b → b < q'.1 → 0 ≤ q'.2.2.2.2.2.1 b ∧ q'.2.2.2.2.2.1 b ≤ W * cnt (fun v => 0 ≤ q.2.2.2.2.2.2 v) 36) → WI W (badd s (pat s x a) q') := by
        intro q' k1 k2 k3 b b1 b2
        have b2 : b < q'.1 := b2
        have c1 := cnt_add (P := fun v => 0 ≤ q.2.2.2.2.2.2 v) (Q := fun v => 0 ≤ up q.2.2.2.2.2.2 (pat s x a) (q'.1 - 1) v) (v0 := pat s x a) uN (by show 0 ≤ up q.2.2.2.2.2.2 (pat s x a) (q'.1 - 1) (pat s x a); rw [up_e rfl]; omega) (fun v hv => by
            show _ ↔ 0 ≤ up q.2.2.2.2.2.2 (pat s x a) (q'.1 - 1) v
            rw [up_n hv]) 36 p1.1.1 (by have := p1.1.2; omega)
        show 0 ≤ up q'.2.2.2.2.2.1 (q'.1 - 1) (ob_wr (q'.2.2.2.2.2.1 (q'.1 - 1) + wq s (pat s x a))) b ∧ up q'.2.2.2.2.2.1 (q'.1 - 1) (ob_wr (q'.2.2.2.2.2.1 (q'.1 - 1) + wq s (pat s x a))) b ≤ W * cnt (fun v => 0 ≤ up q'.2.2.2.2.2.2 (pat s x a) (q'.1 - 1) v) 36
        rw [k2, c1, Int.mul_add, Int.mul_one]
        have l := k3 (q'.1 - 1) (by omega) (by omega)
        have k := k3 b b1 b2
        by_cases e : b = q'.1 - 1
        · rw [up_e e, ob_wr_id (by omega) (by omega)]
          omega
        · rw [up_n e]
          omega
      by_cases j : pat s (x - 1) a ≠ -1 ∧ hq s (pat s (x - 1) a) = hq s (pat s x a)
      · rw [if_pos j]
        refine add q ?_ rfl h
        have u1 := S4 j.1
        have u2 : 0 ≤ q.2.2.2.2.2.2 (pat s (x - 1) a) := by
          rcases pat_i s (x - 1) a with ⟨z1, z2, z3⟩ | ⟨z, -⟩
          · exact (S2 _ z1).mpr (Or.inr ⟨z3, by omega⟩)
          · exact absurd z j.1
        omega
      · rw [if_neg j]
        refine add (bnew s a x (pat s x a) q) ?_ rfl (fun b b1 b2 => ?_)
        · show 1 ≤ q.1 + 1
          omega
        · have b2 : b < q.1 + 1 := b2
          show 0 ≤ up q.2.2.2.2.2.1 q.1 0 b ∧ up q.2.2.2.2.2.1 q.1 0 b ≤ _
          by_cases e : b = q.1
          · rw [up_e e]
            omega
          · rw [up_n e]
            exact h b b1 (by omega)
    · exact absurd p1 c
theorem WI_X {W : Int} {s : Int → Int} (hW : 0 ≤ W ∧ W ≤ 30000) (hV : VV W s) {a : Int} (ha : 0 ≤ a) (hA : WI W (bA s a)) : ∀ n : Nat, WI W (bX s a n)
  | 0 => hA
  | n + 1 => by
    have := WI_step hW hV (SI_all hV ha (show (0 : Int) ≤ n by omega)) (WI_X hW hV ha hA n)
    rw [← bX_s (by omega)] at this
    exact this
theorem WI_A {W : Int} {s : Int → Int} (hW : 0 ≤ W ∧ W ≤ 30000) (hV : VV W s) : ∀ n : Nat, WI W (bA s n)
  | 0 => fun b b1 b2 => by
    have b2 : b < 0 := b2
    omega
  | n + 1 => by
    have h := WI_X hW hV (show (0 : Int) ≤ n by omega) (WI_A hW hV n) (s 2 * s 1).toNat
    have hm := Int.mul_nonneg (show 0 ≤ s 2 by have := hV.1.2.2.1; omega) (show 0 ≤ s 1 by have := hV.1.2.1; omega)
    rw [show (((s 2 * s 1).toNat : Nat) : Int) = s 2 * s 1 by omega, ← bA_s (by omega)] at h
    exact h
theorem WI_br {W : Int} {s : Int → Int} (hW : 0 ≤ W ∧ W ≤ 30000) (hV : VV W s) {b : Int} (hb : 0 ≤ b ∧ b < (br s).1) : 0 ≤ (br s).2.2.2.2.2.1 b := by
  have h := WI_A hW hV (s 0).toNat
  rw [show (((s 0).toNat : Nat) : Int) = s 0 by have := hV.1.1; omega] at h
  exact (h b hb.1 hb.2).1
