-- ROWS STAY AS THEY MUST BE
theorem tv_c {s s' : Int → Int} {t : Int} (h : tv s t) (h0 : s' 0 = s 0) (h1 : s' 1 = s 1) (h2 : s' 2 = s 2) (hp : ∀ w, 0 ≤ w → w < 39 → s' (12 + 116 * t + w) = s (12 + 116 * t + w)) : tv s' t := by
  obtain ⟨a1, a2, a3, a4, a5⟩ := h
  have e0 := hp 0 (by omega) (by omega)
  have e1 := hp 1 (by omega) (by omega)
  have e2 := hp 2 (by omega) (by omega)
  refine ⟨by omega, by omega, by omega, fun z => ?_, fun i b1 b2 => ?_⟩
  · have := a4 (by omega)
    omega
  · have f1 := hp (3 + 3 * i) (by omega) (by omega)
    have f2 := hp (3 + 3 * i + 1) (by omega) (by omega)
    have f3 := hp (3 + 3 * i + 2) (by omega) (by omega)
    obtain ⟨c1, c2⟩ := a5 i b1 (by omega)
    exact ⟨by omega, by omega⟩
theorem pv_c {W W' : Int} {s s' : Int → Int} {t : Int} (h : pv W s t) (hW : W ≤ W') (h0 : s' 0 = s 0) (h1 : s' 1 = s 1) (h2 : s' 2 = s 2) (hp : ∀ w, 39 ≤ w → w < 116 → s' (12 + 116 * t + w) = s (12 + 116 * t + w)) : pv W' s' t := by
  obtain ⟨a1, a2, a3⟩ := h
  have e39 := hp 39 (by omega) (by omega)
  have e40 := hp 40 (by omega) (by omega)
  have e41 := hp 41 (by omega) (by omega)
  have e42 := hp 42 (by omega) (by omega)
  have e43 := hp 43 (by omega) (by omega)
  refine ⟨by omega, fun z => ?_, fun z => ?_⟩
  · have := a2 (by omega)
    omega
  · obtain ⟨b1, b2, b3, b4, b5, b6⟩ := a3 (by omega)
    refine ⟨by omega, by omega, by omega, by omega, fun i c1 c2 => ?_, fun i i' c1 c2 c3 c4 c5 c6 => ?_⟩
    · have f0 := hp (44 + 4 * i + 0) (by omega) (by omega)
      have f1 := hp (44 + 4 * i + 1) (by omega) (by omega)
      have f2 := hp (44 + 4 * i + 2) (by omega) (by omega)
      have f3 := hp (44 + 4 * i + 3) (by omega) (by omega)
      obtain ⟨d1, d2, d3, d4⟩ := b5 i c1 (by omega)
      exact ⟨by omega, by omega, by omega, by omega⟩
    · have f0 := hp (44 + 4 * i + 0) (by omega) (by omega)
      have f1 := hp (44 + 4 * i + 1) (by omega) (by omega)
      have g0 := hp (44 + 4 * i' + 0) (by omega) (by omega)
      have g1 := hp (44 + 4 * i' + 1) (by omega) (by omega)
      have := b6 i i' c1 (by omega) c3 (by omega) c5 (by omega)
      omega
theorem hv_c {s s' : Int → Int} (h : hv s) (hp : ∀ p, 0 ≤ p → p < 12 → s' p = s p) : hv s' := by
  obtain ⟨a1, a2, a3, a4, a5, a6, a7⟩ := h
  have e0 := hp 0 (by omega) (by omega)
  have e1 := hp 1 (by omega) (by omega)
  have e2 := hp 2 (by omega) (by omega)
  have e3 := hp 3 (by omega) (by omega)
  have e4 := hp 4 (by omega) (by omega)
  have e5 := hp 5 (by omega) (by omega)
  refine ⟨by omega, by omega, by omega, by omega, by omega, by omega, fun k b1 b2 => ?_⟩
  have f := hp (6 + k) (by omega) (by omega)
  have := a7 k b1 b2
  omega
/-- rows alike where a state is -/
theorem VV_rc {W W' : Int} {s s' : Int → Int} (h : VV W s) (hW : W ≤ W') (hp : ∀ p, 0 ≤ p → p < 360 → s' p = s p) : VV W' s' := by
  refine ⟨hv_c h.1 (fun p a b => hp p a (by omega)), fun t a b => ?_⟩
  obtain ⟨h1, h2⟩ := h.2 t a b
  exact ⟨tv_c h1 (hp _ (by omega) (by omega)) (hp _ (by omega) (by omega)) (hp _ (by omega) (by omega)) (fun w c d => hp _ (by omega) (by omega)), pv_c h2 hW (hp _ (by omega) (by omega)) (hp _ (by omega) (by omega)) (hp _ (by omega) (by omega)) (fun w c d => hp _ (by omega) (by omega))⟩
theorem Rep_rc {W : Int} {m : ob_Mem} {j : Int} {s s' : Int → Int} (hV : VV W s) (h : Rep m j s) (hp : ∀ p, 0 ≤ p → p < 360 → s' p = s p) : Rep m j s' := by
  obtain ⟨⟨h1, h2, h3, h4, h5, h6⟩, h7, h8⟩ := h
  refine ⟨⟨?_, ?_, ?_, ?_, ?_, ?_⟩, fun k a b => ?_, fun u a b => ?_⟩
  · rw [h1, hp _ (by omega) (by omega)]
  · rw [h2, hp _ (by omega) (by omega)]
  · rw [h3, hp _ (by omega) (by omega)]
  · rw [h4, hp _ (by omega) (by omega)]
  · rw [h5, hp _ (by omega) (by omega)]
  · rw [h6, hp _ (by omega) (by omega)]
  · rw [h7 k a b, hp _ (by omega) (by omega)]
  · obtain ⟨g1, g2, g3⟩ := h8 u a b
    obtain ⟨v1, v2⟩ := hV.2 u a b
    refine ⟨rN_c g1 (fun k i p q => rfl) (fun w c d => hp _ (by omega) (by omega)) v1.2.2.1.2, ?_, fun hq => ?_⟩
    · rw [g2, hp _ (by omega) (by omega)]
    · rw [hp _ (by omega) (by omega)] at hq
      exact rQ_c (g3 hq) (fun k i q y => rfl) (fun w c d => hp _ (by omega) (by omega)) (v2.2.2 hq).2.2.2.1.2
theorem VV_N {W : Int} {s s' : Int → Int} {t : Int} (h : VV W s) (ht : 0 ≤ t ∧ t < 3) (hs : ∀ p, ¬ (12 + 116 * t ≤ p ∧ p < 12 + 116 * t + 39) → s' p = s p) (hn : tv s' t) : VV W s' := by
  refine ⟨hv_c h.1 (fun p a b => hs p (by omega)), fun u a b => ?_⟩
  obtain ⟨h1, h2⟩ := h.2 u a b
  refine ⟨?_, pv_c h2 (Int.le_refl _) (hs _ (by omega)) (hs _ (by omega)) (hs _ (by omega)) (fun w c d => hs _ (by omega))⟩
  by_cases e : u = t
  · rw [e]
    exact hn
  · exact tv_c h1 (hs _ (by omega)) (hs _ (by omega)) (hs _ (by omega)) (fun w c d => hs _ (by omega))
theorem VV_P {W : Int} {s s' : Int → Int} {t : Int} (h : VV W s) (ht : 0 ≤ t ∧ t < 3) (hs : ∀ p, ¬ (12 + 116 * t + 39 ≤ p ∧ p < 12 + 116 * t + 116) → s' p = s p) (hn : pv W s' t) : VV W s' := by
  refine ⟨hv_c h.1 (fun p a b => hs p (by omega)), fun u a b => ?_⟩
  obtain ⟨h1, h2⟩ := h.2 u a b
  refine ⟨tv_c h1 (hs _ (by omega)) (hs _ (by omega)) (hs _ (by omega)) (fun w c d => hs _ (by omega)), ?_⟩
  by_cases e : u = t
  · rw [e]
    exact hn
  · exact pv_c h2 (Int.le_refl _) (hs _ (by omega)) (hs _ (by omega)) (hs _ (by omega)) (fun w c d => hs _ (by omega))
theorem VV_H {W : Int} {s s' : Int → Int} (h : VV W s) (hs : ∀ p, p < 3 ∨ 12 ≤ p → s' p = s p) (hh : hv s') : VV W s' := by
  refine ⟨hh, fun u a b => ?_⟩
  obtain ⟨h1, h2⟩ := h.2 u a b
  exact ⟨tv_c h1 (hs _ (by omega)) (hs _ (by omega)) (hs _ (by omega)) (fun w c d => hs _ (by omega)), pv_c h2 (Int.le_refl _) (hs _ (by omega)) (hs _ (by omega)) (hs _ (by omega)) (fun w c d => hs _ (by omega))⟩
theorem VV_a {W : Int} {s : Int → Int} {w v : Int} (h : VV W s) : VV W (aS s w v) := by
  unfold aS
  by_cases c : (w = 0 ∧ 0 ≤ v ∧ v ≤ 2) ∨ (w = 1 ∧ 0 ≤ v ∧ v ≤ 3) ∨ (w = 2 ∧ 1 ≤ v ∧ v ≤ 99)
  · rw [if_pos c]
    obtain ⟨a1, a2, a3, a4, a5, a6, a7⟩ := h.1
    refine VV_H h (fun p hp => up_n (by omega)) ⟨?_, ?_, ?_, ?_, ?_, ?_, fun k b1 b2 => ?_⟩
    · rw [up_n (by omega)]
      exact a1
    · rw [up_n (by omega)]
      exact a2
    · rw [up_n (by omega)]
      exact a3
    · by_cases e : w = 0
      · rw [up_e (by omega)]
        omega
      · rw [up_n (by omega)]
        exact a4
    · by_cases e : w = 1
      · rw [up_e (by omega)]
        omega
      · rw [up_n (by omega)]
        exact a5
    · by_cases e : w = 2
      · rw [up_e (by omega)]
        omega
      · rw [up_n (by omega)]
        exact a6
    · rw [up_n (by omega)]
      exact a7 k b1 b2
  · rw [if_neg c]
    exact h
theorem VV_g {W : Int} {s : Int → Int} {k v : Int} (h : VV W s) : VV W (gS s k v) := by
  unfold gS
  by_cases c : (0 ≤ k ∧ k < s 1) ∧ 0 ≤ v ∧ v ≤ 6
  · rw [if_pos c]
    obtain ⟨a1, a2, a3, a4, a5, a6, a7⟩ := h.1
    refine VV_H h (fun p hp => up_n (by omega)) ⟨?_, ?_, ?_, ?_, ?_, ?_, fun k' b1 b2 => ?_⟩
    · rw [up_n (by omega)]
      exact a1
    · rw [up_n (by omega)]
      exact a2
    · rw [up_n (by omega)]
      exact a3
    · rw [up_n (by omega)]
      exact a4
    · rw [up_n (by omega)]
      exact a5
    · rw [up_n (by omega)]
      exact a6
    · by_cases e : k' = k
      · rw [up_e (by omega)]
        omega
      · rw [up_n (by omega)]
        exact a7 k' b1 b2
  · rw [if_neg c]
    exact h
theorem VV_tk {W : Int} {s : Int → Int} {t l : Int} (h : VV W s) : VV W (tkS s t l) := by
  unfold tkS
  by_cases c : (0 ≤ t ∧ t < s 2) ∧ 1 ≤ l ∧ l ≤ s 0
  · rw [if_pos c]
    obtain ⟨a1, a2, a3, a4, a5, a6, a7⟩ := h.1
    obtain ⟨⟨b1, b2, b3, b4, b5⟩, -⟩ := h.2 t (by omega) (by omega)
    refine VV_N (t := t) h (by omega) (fun p hp => ?_) ⟨?_, ?_, ?_, ?_, fun i c1 c2 => ?_⟩
    · simp (disch := omega) only [rs_k, rs_i, rs_s, rs_e, up_e, up_n]
    · simp (disch := omega) only [rs_k, rs_i, rs_s, rs_e, up_e, up_n]
      omega
    · simp (disch := omega) only [rs_k, rs_i, rs_s, rs_e, up_e, up_n]
      exact b2
    · simp (disch := omega) only [rs_k, rs_i, rs_s, rs_e, up_e, up_n]
      omega
    · simp (disch := omega) only [rs_k, rs_i, rs_s, rs_e, up_e, up_n]
      exact fun _ => trivial
    · rw [up_e rfl] at c2
      omega
  · rw [if_neg c]
    exact h
theorem VV_sh {W : Int} {s : Int → Int} {t d : Int} (h : VV W s) : VV W (shS s t d) := by
  unfold shS
  by_cases c : (0 ≤ t ∧ t < s 2) ∧ 0 ≤ d ∧ d < s 0
  · rw [if_pos c]
    obtain ⟨a1, a2, a3, a4, a5, a6, a7⟩ := h.1
    obtain ⟨⟨b1, b2, b3, b4, b5⟩, -⟩ := h.2 t (by omega) (by omega)
    refine VV_N (t := t) h (by omega) (fun p hp => up_n (by omega)) ⟨?_, ?_, ?_, ?_, fun i c1 c2 => ?_⟩
    · simp (disch := omega) only [rs_k, rs_i, rs_s, rs_e, up_e, up_n]
      exact b1
    · simp (disch := omega) only [rs_k, rs_i, rs_s, rs_e, up_e, up_n]
      omega
    · simp (disch := omega) only [rs_k, rs_i, rs_s, rs_e, up_e, up_n]
      exact b3
    · simp (disch := omega) only [rs_k, rs_i, rs_s, rs_e, up_e, up_n]
      exact b4
    · rw [up_n (by omega)] at c2
      simp (disch := omega) only [rs_k, rs_i, rs_s, rs_e, up_e, up_n]
      exact b5 i c1 c2
  · rw [if_neg c]
    exact h
theorem VV_n {W : Int} {s : Int → Int} {t k a l : Int} (h : VV W s) : VV W (nS s t k a l) := by
  unfold nS
  by_cases c : cNote s t k a l < 0
  · rw [if_pos c]
    exact h
  · rw [if_neg c]
    by_cases ok : okN s t k a l
    · by_cases tk : Tkn s t k a l
      · exact absurd (cNote_no ok tk) (by omega)
      · have e := cNote_ok ok tk
        by_cases c4 : s (12 + 116 * t + 2) = 12
        · rw [if_pos c4] at e
          omega
        · obtain ⟨o1, o2, o3, o4⟩ := ok
          obtain ⟨a1, a2, a3, a4, a5, a6, a7⟩ := h.1
          obtain ⟨⟨b1, b2, b3, b4, b5⟩, -⟩ := h.2 t (by omega) (by omega)
          refine VV_N (t := t) h (by omega) (fun p hp => ?_) ⟨?_, ?_, ?_, ?_, fun i c1 c2 => ?_⟩
          · simp (disch := omega) only [rs_k, rs_i, rs_s, rs_e, up_e, up_n]
          · simp (disch := omega) only [rs_k, rs_i, rs_s, rs_e, up_e, up_n]
            exact b1
          · simp (disch := omega) only [rs_k, rs_i, rs_s, rs_e, up_e, up_n]
            exact b2
          · simp (disch := omega) only [rs_k, rs_i, rs_s, rs_e, up_e, up_n]
            omega
          · intro z
            exfalso
            rw [up_n (by omega), up_n (by omega), up_n (by omega), up_n (by omega)] at z
            omega
          · rw [up_e rfl] at c2
            by_cases ei : i = s (12 + 116 * t + 2)
            · subst ei
              refine ⟨?_, ?_⟩
              · simp (disch := omega) only [rs_k, rs_i, rs_s, rs_e, up_e, up_n]
                omega
              · simp (disch := omega) only [rs_k, rs_i, rs_s, rs_e, up_e, up_n]
                omega
            · simp (disch := omega) only [rs_k, rs_i, rs_s, rs_e, up_e, up_n]
              exact b5 i c1 (by omega)
    · exact absurd (cNote_bad ok) (by omega)
theorem VV_dr {W : Int} {s : Int → Int} {t i : Int} (h : VV W s) : VV W (drS s t i) := by
  unfold drS
  by_cases c : (0 ≤ t ∧ t < s 2) ∧ 0 ≤ i ∧ i < s (12 + 116 * t + 2)
  · rw [if_pos c]
    obtain ⟨a1, a2, a3, a4, a5, a6, a7⟩ := h.1
    obtain ⟨⟨b1, b2, b3, b4, b5⟩, -⟩ := h.2 t (by omega) (by omega)
    generalize hf : (fun p => if 12 + 116 * t + (3 + 3 * i) ≤ p ∧ p < 12 + 116 * t + (3 + 3 * (s (12 + 116 * t + 2) - 1)) then s (p + 3) else if p = 12 + 116 * t + 2 then s (12 + 116 * t + 2) - 1 else s p) = f
    have fA : ∀ p, 12 + 116 * t + (3 + 3 * i) ≤ p ∧ p < 12 + 116 * t + (3 + 3 * (s (12 + 116 * t + 2) - 1)) → f p = s (p + 3) := fun p hp => by
      rw [← hf]
      exact if_pos hp
    have fB : f (12 + 116 * t + 2) = s (12 + 116 * t + 2) - 1 := by
      rw [← hf]
      show (if _ then _ else _) = _
      rw [if_neg (by omega), if_pos (by omega)]
    have fC : ∀ p, ¬ (12 + 116 * t + (3 + 3 * i) ≤ p ∧ p < 12 + 116 * t + (3 + 3 * (s (12 + 116 * t + 2) - 1))) → p ≠ 12 + 116 * t + 2 → f p = s p := fun p h1 h2 => by
      rw [← hf]
      show (if _ then _ else _) = _
      rw [if_neg h1, if_neg h2]
    have f0 := fC 0 (by omega) (by omega)
    have f1 := fC 1 (by omega) (by omega)
    have f2 := fC 2 (by omega) (by omega)
    have g0 := fC (12 + 116 * t + 0) (by omega) (by omega)
    have g1 := fC (12 + 116 * t + 1) (by omega) (by omega)
    refine VV_N (t := t) h (by omega) (fun p hp => fC p (by omega) (by omega)) ⟨by omega, by omega, by omega, fun z => by omega, fun y c1 c2 => ?_⟩
    by_cases e : i ≤ y
    · obtain ⟨d1, d2⟩ := b5 (y + 1) (by omega) (by omega)
      have k1 := fA (12 + 116 * t + (3 + 3 * y)) (by omega)
      have k2 := fA (12 + 116 * t + (3 + 3 * y + 1)) (by omega)
      have k3 := fA (12 + 116 * t + (3 + 3 * y + 2)) (by omega)
      rw [show 12 + 116 * t + (3 + 3 * y) + 3 = 12 + 116 * t + (3 + 3 * (y + 1)) by omega] at k1
      rw [show 12 + 116 * t + (3 + 3 * y + 1) + 3 = 12 + 116 * t + (3 + 3 * (y + 1) + 1) by omega] at k2
      rw [show 12 + 116 * t + (3 + 3 * y + 2) + 3 = 12 + 116 * t + (3 + 3 * (y + 1) + 2) by omega] at k3
      exact ⟨by omega, by omega⟩
    · obtain ⟨d1, d2⟩ := b5 y (by omega) (by omega)
      have k1 := fC (12 + 116 * t + (3 + 3 * y)) (by omega) (by omega)
      have k2 := fC (12 + 116 * t + (3 + 3 * y + 1)) (by omega) (by omega)
      have k3 := fC (12 + 116 * t + (3 + 3 * y + 2)) (by omega) (by omega)
      exact ⟨by omega, by omega⟩
  · rw [if_neg c]
    exact h
theorem VV_ofX {W : Int} {s : Int → Int} {t : Int} (h : VV W s) (ht : 0 ≤ t ∧ t < 3) : VV W (ofX s t) := by
  have e : ofX s t (12 + 116 * t + 39) = 0 := if_pos (by omega)
  refine VV_P h ht (fun p hp => if_neg hp) ⟨Or.inl e, fun _ => e, fun z => ?_⟩
  rw [e] at z
  omega
theorem VV_of {W : Int} {s : Int → Int} {t : Int} (h : VV W s) : VV W (ofS s t) := by
  obtain ⟨a1, a2, a3, a4, a5, a6, a7⟩ := h.1
  unfold ofS
  by_cases c : (0 ≤ t ∧ t < s 2) ∧ s (12 + 116 * t + 39) = 1
  · rw [if_pos c]
    exact VV_ofX h (by omega)
  · rw [if_neg c]
    exact h
theorem VV_beR {W : Int} {f : Int → Int} {r k t : Int} (c : (6 ≤ r ∧ r ≤ 24) ∧ (1 ≤ k ∧ k ≤ 6) ∧ 2 ≤ t ∧ t ≤ 3) (hf : ∀ p, 0 ≤ p → p < 360 → f p = beR r k t p) : VV W f := by
  have e0 : f 0 = r := hf 0 (by omega) (by omega)
  have e1 : f 1 = k := hf 1 (by omega) (by omega)
  have e2 : f 2 = t := hf 2 (by omega) (by omega)
  have e3 : f 3 = 0 := hf 3 (by omega) (by omega)
  have e4 : f 4 = 1 := hf 4 (by omega) (by omega)
  have e5 : f 5 = 20 := hf 5 (by omega) (by omega)
  refine ⟨⟨by omega, by omega, by omega, by omega, by omega, by omega, fun k' b1 b2 => ?_⟩, fun u a b => ?_⟩
  · rw [hf _ (by omega) (by omega)]
    unfold beR
    simp (disch := first | omega | assumption) only [↓if_pos, ↓if_neg, Option.bind_some, ob_wr_id]
    omega
  · have g : ∀ w, 0 ≤ w → w < 116 → f (12 + 116 * u + w) = if w = 0 then r else 0 := fun w x y => by
      rw [hf _ (by omega) (by omega), beR_0 ⟨a, b⟩ ⟨x, y⟩]
    have g0 := g 0 (by omega) (by omega)
    have g1 := g 1 (by omega) (by omega)
    have g2 := g 2 (by omega) (by omega)
    have g39 := g 39 (by omega) (by omega)
    simp (disch := first | omega | assumption) only [↓if_pos, ↓if_neg, Option.bind_some, ob_wr_id] at g0 g1 g2 g39
    exact ⟨⟨by omega, by omega, by omega, fun _ => by omega, fun i x y => by omega⟩, Or.inl g39, fun _ => g39, fun z => by omega⟩
theorem VV_be {W : Int} {s : Int → Int} {r k t : Int} (h : VV W s) : VV W (beS s r k t) := by
  unfold beS
  by_cases c : (6 ≤ r ∧ r ≤ 24) ∧ (1 ≤ k ∧ k ≤ 6) ∧ 2 ≤ t ∧ t ≤ 3
  · rw [if_pos c]
    exact VV_beR c (fun p a b => if_pos ⟨a, b⟩)
  · rw [if_neg c]
    exact h
theorem frb_le {R i j : Int} {key bf : Int → Int} : ∀ n : Nat, 0 ≤ j → j < (n : Int) → j ≠ i → key j = key i → frb R key bf i n ≤ dist R (bf i) (bf j)
  | 0, h1, h2, _, _ => by omega
  | n + 1, h1, h2, h3, h4 => by
    show (if (n : Int) ≠ i ∧ key n = key i then min (frb R key bf i n) (dist R (bf i) (bf n)) else frb R key bf i n) ≤ _
    by_cases e : j = (n : Int)
    · subst e
      rw [if_pos ⟨h3, h4⟩]
      omega
    · have q := frb_le (R := R) (i := i) (j := j) (key := key) (bf := bf) n h1 (by omega) h3 h4
      split
      · omega
      · exact q
theorem VV_pi {W : Int} {s : Int → Int} {t : Int} (hW : 0 ≤ W) (h : VV W s) (ht : 0 ≤ t ∧ t < s 2) (hm : s (12 + 116 * t + 2) ≠ 0) (hF : Fst (fun i => fre s t i < s (6 + s (12 + 116 * t + (3 + 3 * i)))) (s (12 + 116 * t + 2)) (-1)) : VV W (piS s t) := by
  obtain ⟨a1, a2, a3, a4, a5, a6, a7⟩ := h.1
  have ht3 : 0 ≤ t ∧ t < 3 := by omega
  obtain ⟨⟨b1, b2, b3, b4, b5⟩, -⟩ := h.2 t ht3.1 ht3.2
  have e : ∀ w, (39 ≤ w ∧ w < 44 + 4 * s (12 + 116 * t + 2)) ∨ (92 ≤ w ∧ w < 92 + 2 * s (12 + 116 * t + 2)) → piS s t (12 + 116 * t + w) = pic s t (s (12 + 116 * t + 1)) w := fun w hw => by
    unfold piS piX
    rw [if_pos (by omega), show 12 + 116 * t + w - (12 + 116 * t) = w by omega]
  have eo : ∀ p, ¬ (12 + 116 * t + 39 ≤ p ∧ p < 12 + 116 * t + 116) → piS s t p = s p := fun p hp => piX_o b3.2 hp
  have e0 := eo 0 (by omega)
  have e1 := eo 1 (by omega)
  have e2 := eo 2 (by omega)
  have e39 : piS s t (12 + 116 * t + 39) = 1 := e 39 (by omega)
  have e40 : piS s t (12 + 116 * t + 40) = s (12 + 116 * t + 0) := e 40 (by omega)
  have e41 : piS s t (12 + 116 * t + 41) = s (12 + 116 * t + 1) := e 41 (by omega)
  have e42 : piS s t (12 + 116 * t + 42) = s 3 := e 42 (by omega)
  have e43 : piS s t (12 + 116 * t + 43) = s (12 + 116 * t + 2) := e 43 (by omega)
  refine VV_P h ht3 eo ⟨Or.inr e39, fun z => by omega, fun _ => ⟨by omega, by omega, by omega, by omega, fun i c1 c2 => ?_, fun i i' c1 c2 c3 c4 c5 c6 => ?_⟩⟩
  · have hi : 0 ≤ i ∧ i < 12 := by omega
    have hN := VV_NV h ht3 (i := i) (by omega)
    have hb := bg_b hN b2.1 b2.2
    have hh := hd_b hN
    obtain ⟨-, d2⟩ := b5 i c1 (by omega)
    rw [e _ (by omega), e _ (by omega), e _ (by omega), e _ (by omega), pic_k hi, pic_b hi, pic_h hi, pic_w hi, e0, e1]
    exact ⟨d2, hb, hh, by omega⟩
  · have hi : 0 ≤ i ∧ i < 12 := by omega
    have hi' : 0 ≤ i' ∧ i' < 12 := by omega
    have hN := VV_NV h ht3 (i := i) (by omega)
    have hN' := VV_NV h ht3 (i := i') (by omega)
    have hh := hd_b hN
    rw [e _ (by omega), e _ (by omega), pic_k hi, pic_k hi'] at c6
    rw [e _ (by omega), e _ (by omega), pic_b hi, pic_b hi']
    intro z
    have hd0 := bg_dist hN hN' b2
    rw [z] at hd0
    have z0 : dist (s 0) (bg s t i' (s (12 + 116 * t + 1))) (bg s t i' (s (12 + 116 * t + 1))) = 0 := by
      unfold dist
      rw [if_pos (Int.le_refl _)]
      omega
    have hle := frb_le (R := s 0) (i := i) (j := i') (key := fun j => s (12 + 116 * t + (3 + 3 * j))) (bf := fun j => bg s t j 0) (s (12 + 116 * t + 2)).toNat c3 (by omega) (fun q => c5 q.symm) c6.symm
    have hle : frb (s 0) (fun j => s (12 + 116 * t + (3 + 3 * j))) (fun j => bg s t j 0) i (s (12 + 116 * t + 2)).toNat ≤ dist (s 0) (bg s t i 0) (bg s t i' 0) := hle
    obtain ⟨-, d2⟩ := b5 i c1 (by omega)
    have g := a7 (s (12 + 116 * t + (3 + 3 * i))) (by omega) (by omega)
    rcases hF with ⟨f1, -⟩ | ⟨-, f2⟩
    · omega
    · have := f2 i c1 (by omega)
      unfold fre at this
      omega
