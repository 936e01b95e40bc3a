-- JOINS: calls that change, class and model together
theorem cl_refused (m : ob_Mem) {v : Int} (h : -4 ≤ v ∧ v ≤ -2) : ob_E (116, 0, [(10, 0), (1, v)], [], (m, none)) = some (v, (ob_set m 7 0 (6 - v) (ob_wr (m 7 0 (6 - v) + 1)), none)) := by
  rw [sg_X7_refused_0]
  obtain e | e | e : v = -2 ∨ v = -3 ∨ v = -4 := by omega
  · subst e
    rfl
  · subst e
    rfl
  · subst e
    rfl
theorem CH_7 {W : Int} {m : ob_Mem} {s : Int → Int} {n x y : Int} {P : Int → Int → Int} (h : CH W m s n P) (hx : 8 ≤ x) : CH W (ob_set m 7 0 x y) s n P := by
  obtain ⟨⟨h0, h1⟩, h2, ⟨h3, h3'⟩, h4⟩ := h
  have fR : ∀ j q, VV W q → Rep m j q → Rep (ob_set m 7 0 x y) j q := fun j q a b => Rep_sm a b (fun k i p z => rs_k (by rcases z with ⟨z1, z2⟩ | ⟨z1, z2⟩ | ⟨z1, z2⟩ <;> omega))
  refine ⟨⟨h0, by rw [rs_s (by omega), h1]⟩, bij_c h2 (rs_s (by omega)) (rs_s (by omega)) (fun i => rs_k (by omega)), ⟨h3, by rw [rs_s (by omega)]; exact fR _ _ h3 h3'⟩, fun i a b => ?_⟩
  obtain ⟨g1, g2⟩ := h4 i a b
  rw [rs_k (by omega)]
  exact ⟨g1, fR _ _ g1 g2⟩
/-- a refusal, or a change, in the class -/
def CR (W : Int) (m : ob_Mem) (s s' : Int → Int) (n : Int) (P : Int → Int → Int) (v : Int) (m' : ob_Mem) : Prop := (v < 0 ∧ (-4 ≤ v ∧ v ≤ -2) ∧ CH W m' s n P ∧ ∀ x, 8 ≤ x → x ≤ 10 → m' 7 0 x = if x = 6 - v then ob_wr (m 7 0 x + 1) else m 7 0 x) ∨ (0 ≤ v ∧ CH W m' s' (if n = 5 then 5 else n + 1) (psh s n P) ∧ ∀ x, 8 ≤ x → x ≤ 10 → m' 7 0 x = m 7 0 x)
theorem cl_changed {W : Int} {m : ob_Mem} {s s' : Int → Int} {n v : Int} {P : Int → Int → Int} (h : PC W m s s' n P) (hv : v < 0 → (-4 ≤ v ∧ v ≤ -2) ∧ CH W m s n P) : wp (ob_E (115, 0, [(10, 0), (1, v)], [], (m, none))) (fun v' m' => v' = v ∧ CR W m s s' n P v m' ∧ ∀ k i x, k ≠ 39 → k ≠ 7 → m' k i x = m k i x) := by
  rw [sg_X7_changed_0]
  by_cases c : v < 0
  · obtain ⟨h1, h2⟩ := hv c
    rw [if_pos c, cl_refused m h1]
    simp (disch := first | omega | assumption) only [↓if_pos, ↓if_neg, Option.bind_some, ob_wr_id, sg_X7_changed_9]
    refine wp_ret ⟨rfl, Or.inl ⟨c, h1, CH_7 h2 (by omega), fun x a b => ?_⟩, fun k i x a b => rs_k b⟩
    by_cases e : x = 6 - v
    · rw [rs_e rfl e, if_pos e, e]
    · rw [rs_s e, if_neg e]
  · rw [if_neg c]
    refine wp_b (cl_keepSpare h) (fun _ m1 h1 => ?_)
    rw [sg_X7_changed_14]
    exact wp_ret ⟨rfl, Or.inr ⟨by omega, h1.1, fun x a b => h1.2 7 0 x (by omega)⟩, fun k i x a b => h1.2 k i x (by omega)⟩
/-- what holds between calls -/
def Inv (W : Int) (m : ob_Mem) : Prop := CH W m (m 40 0) (m 8 0 3) (fun i p => m 41 0 (360 * i + p)) ∧ (∀ x, 8 ≤ x → x ≤ 10 → m 7 0 x = m 43 0 (x - 8)) ∧ (m 2 0 1 = m 44 0 0 ∧ m 2 0 2 = m 44 0 1 ∧ m 2 0 3 = m 44 0 2 ∧ m 2 0 0 = m 44 0 3) ∧ (m 6 0 0 = m 8 0 22 ∧ (0 ≤ m 8 0 22 ∧ m 8 0 22 ≤ 120) ∧ ∀ i, 0 ≤ i → i < m 8 0 22 → m 36 0 i = m 55 0 i ∧ 0 ≤ m 55 0 i ∧ m 55 0 i ≤ 127)
/-- class and model answer alike, and what holds between calls holds behind them -/
def Agr (W W' : Int) (m : ob_Mem) (cx mx : ob_Mem → ob_Res) : Prop := ∃ v m1 m2, cx m = some (v, (m1, none)) ∧ mx m1 = some (v, (m2, none)) ∧ Inv W' m2 ∧ ∀ k i x, k = 14 ∨ k = 15 → m1 k i x = m k i x ∧ m2 k i x = m k i x
theorem CH_m {W W' : Int} {m m' : ob_Mem} {s s' : Int → Int} {n : Int} {P P' : Int → Int → Int} (hW : W ≤ W') (h : CH W m s n P) (hm : ∀ k i x, k ≠ 8 ∧ k < 40 → m' k i x = m k i x) (hs : ∀ p, 0 ≤ p → p < 360 → s' p = s p) (hP : ∀ i, 0 ≤ i → i < n → ∀ p, 0 ≤ p → p < 360 → P' i p = P i p) : CH W' m' s' n P' := by
  obtain ⟨⟨h0, h1⟩, h2, ⟨h3, h3'⟩, h4⟩ := h
  have fR : ∀ j q, VV W q → Rep m j q → Rep m' j q := fun j q a b => Rep_sm a b (fun k i p z => hm k i p (by rcases z with ⟨z1, z2⟩ | ⟨z1, z2⟩ | ⟨z1, z2⟩ <;> omega))
  refine ⟨⟨h0, by rw [hm _ _ _ (by omega), h1]⟩, bij_c h2 (hm _ _ _ (by omega)) (hm _ _ _ (by omega)) (fun i => hm _ _ _ (by omega)), ⟨VV_rc h3 hW hs, by rw [hm _ _ _ (by omega)]; exact Rep_rc h3 (fR _ _ h3 h3') hs⟩, fun i a b => ?_⟩
  obtain ⟨g1, g2⟩ := h4 i a b
  rw [hm _ _ _ (by omega)]
  exact ⟨VV_rc g1 hW (hP i a b), Rep_rc g1 (fR _ _ g1 g2) (hP i a b)⟩
/-- what a call of the class leaves -/
def lv (m m1 : ob_Mem) : Prop := ∀ k i x, k = 6 ∨ k = 36 ∨ k = 8 ∨ 40 ≤ k ∨ k = 14 ∨ k = 15 → m1 k i x = m k i x
theorem lv_r {m m1 : ob_Mem} (h : lv m m1) {k : Nat} {i : Int} (hk : 40 ≤ k) : m1 k i = m k i := by
  funext x
  exact h k i x (by omega)
theorem J_ref {W : Int} {m m1 m2 : ob_Mem} {v : Int} (h : Inv W m) (hl : lv m m1) (hv : -4 ≤ v ∧ v ≤ -2) (hC : CH W m1 (m 40 0) (m 8 0 3) (fun i p => m 41 0 (360 * i + p))) (h7 : ∀ x, 8 ≤ x → x ≤ 10 → m1 7 0 x = if x = 6 - v then ob_wr (m 7 0 x + 1) else m 7 0 x) (h2 : ∀ x, m1 2 0 x = m 2 0 x) (hR : RF m1 v m2) : Inv W m2 := by
  obtain ⟨i1, i2, i3, i4, i5, i6⟩ := h
  obtain ⟨r1, r2, r3, r4, r5, r6⟩ := hR
  have e40 : m2 40 0 = m 40 0 := r3.trans (lv_r hl (by omega))
  have e41 : m2 41 0 = m 41 0 := r4.trans (lv_r hl (by omega))
  have e83 : m2 8 0 3 = m 8 0 3 := r5.trans (hl 8 0 3 (by omega))
  have e44 : m2 44 0 = m 44 0 := r2.trans (lv_r hl (by omega))
  have e822 : m2 8 0 22 = m 8 0 22 := (r6 8 0 22 (by omega)).trans (hl 8 0 22 (by omega))
  have e55 : ∀ i, m2 55 0 i = m 55 0 i := fun i => (r6 55 0 i (by omega)).trans (hl 55 0 i (by omega))
  have hm : ∀ k i x, k ≠ 8 ∧ k < 40 → m2 k i x = m1 k i x := fun k i x hk => r6 k i x (by omega)
  refine ⟨?_, fun x a b => ?_, ?_, ?_, ?_, fun i a b => ?_⟩
  · rw [e40, e41, e83]
    exact CH_m (Int.le_refl _) hC hm (fun _ _ _ => rfl) (fun _ _ _ _ _ _ => rfl)
  · rw [hm 7 0 x (by omega), h7 x a b, r1]
    have e43 : ∀ y, m1 43 0 y = m 43 0 y := fun y => hl 43 0 y (by omega)
    by_cases e : x = 6 - v
    · rw [if_pos e, up_e (by omega), e43, i2 x a b, show x - 8 = -2 - v by omega]
    · rw [if_neg e, up_n (by omega), e43, i2 x a b]
  · rw [hm 2 0 1 (by omega), hm 2 0 2 (by omega), hm 2 0 3 (by omega), hm 2 0 0 (by omega), h2, h2, h2, h2, e44]
    exact i3
  · rw [hm 6 0 0 (by omega), hl 6 0 0 (by omega), e822]
    exact i4
  · rw [e822]
    exact i5
  · rw [e822] at b
    rw [hm 36 0 i (by omega), hl 36 0 i (by omega), e55]
    exact i6 i a b
theorem J_refc {W : Int} {m m1 m2 : ob_Mem} {v k a b o : Int} (h : Inv W m) (hl : lv m m1) (hv : -4 ≤ v ∧ v ≤ -2) (hC : CH W m1 (m 40 0) (m 8 0 3) (fun i p => m 41 0 (360 * i + p))) (h7 : ∀ x, 8 ≤ x → x ≤ 10 → m1 7 0 x = if x = 6 - v then ob_wr (m 7 0 x + 1) else m 7 0 x) (h2 : cs m1 k a b o) (hR : RC m1 v k a b o m2) : Inv W m2 := by
  obtain ⟨i1, i2, i3, i4, i5, i6⟩ := h
  obtain ⟨r1, ⟨q1, q2, q3, q4⟩, r3, r4, r5, r6⟩ := hR
  have e40 : m2 40 0 = m 40 0 := r3.trans (lv_r hl (by omega))
  have e41 : m2 41 0 = m 41 0 := r4.trans (lv_r hl (by omega))
  have e83 : m2 8 0 3 = m 8 0 3 := r5.trans (hl 8 0 3 (by omega))
  have e822 : m2 8 0 22 = m 8 0 22 := (r6 8 0 22 (by omega)).trans (hl 8 0 22 (by omega))
  have e55 : ∀ i, m2 55 0 i = m 55 0 i := fun i => (r6 55 0 i (by omega)).trans (hl 55 0 i (by omega))
  have hm : ∀ k i x, k ≠ 8 ∧ k < 40 → m2 k i x = m1 k i x := fun k i x hk => r6 k i x (by omega)
  refine ⟨?_, fun x a b => ?_, ?_, ?_, ?_, fun i a b => ?_⟩
  · rw [e40, e41, e83]
    exact CH_m (Int.le_refl _) hC hm (fun _ _ _ => rfl) (fun _ _ _ _ _ _ => rfl)
  · rw [hm 7 0 x (by omega), h7 x a b, r1]
    have e43 : ∀ y, m1 43 0 y = m 43 0 y := fun y => hl 43 0 y (by omega)
    by_cases e : x = 6 - v
    · rw [if_pos e, up_e (by omega), e43, i2 x a b, show x - 8 = -2 - v by omega]
    · rw [if_neg e, up_n (by omega), e43, i2 x a b]
  · rw [hm 2 0 1 (by omega), hm 2 0 2 (by omega), hm 2 0 3 (by omega), hm 2 0 0 (by omega), q1, q2, q3, q4]
    exact h2
  · rw [hm 6 0 0 (by omega), hl 6 0 0 (by omega), e822]
    exact i4
  · rw [e822]
    exact i5
  · rw [e822] at b
    rw [hm 36 0 i (by omega), hl 36 0 i (by omega), e55]
    exact i6 i a b
theorem J_done {W W' : Int} {m m1 m2 : ob_Mem} {s' : Int → Int} (hW : W ≤ W') (h : Inv W m) (hl : lv m m1) (hC : CH W' m1 s' (if m 8 0 3 = 5 then 5 else m 8 0 3 + 1) (psh (m 40 0) (m 8 0 3) (fun i p => m 41 0 (360 * i + p)))) (h7 : ∀ x, 8 ≤ x → x ≤ 10 → m1 7 0 x = m 7 0 x) (h2 : ∀ x, m1 2 0 x = m 2 0 x) (hR : Chg m1 s' m2) : Inv W' m2 := by
  obtain ⟨i1, i2, i3, i4, i5, i6⟩ := h
  obtain ⟨r1, r2, p1, p2, p3⟩ := hR
  have e83 : m1 8 0 3 = m 8 0 3 := hl 8 0 3 (by omega)
  have e40 : m1 40 0 = m 40 0 := lv_r hl (by omega)
  rw [e83] at p1 p2 p3
  rw [e40] at p3
  have hm : ∀ k i x, k ≠ 8 ∧ k < 40 → m2 k i x = m1 k i x := fun k i x hk => r1 k i x (by omega)
  have e822 : m2 8 0 22 = m 8 0 22 := (r1 8 0 22 (by omega)).trans (hl 8 0 22 (by omega))
  refine ⟨?_, fun x a b => ?_, ?_, ?_, ?_, fun i a b => ?_⟩
  · rw [r2, p1]
    refine CH_m (Int.le_refl _) hC hm (fun _ _ _ => rfl) (fun i a b p c d => ?_)
    have hn := i1.1.1
    unfold psh
    by_cases e : i < (if m 8 0 3 = 5 then 4 else m 8 0 3)
    · rw [if_pos e]
      show m2 41 0 (360 * i + p) = m 41 0 (360 * (if m 8 0 3 = 5 then i + 1 else i) + p)
      rw [p2 i p a e c d, hl 41 0 _ (by omega)]
    · rw [if_neg e]
      have q := p3 p c d
      by_cases c5 : m 8 0 3 = 5
      · rw [if_pos c5] at q b e
        rw [← q, show i = 4 by omega]
      · rw [if_neg c5] at q b e
        rw [← q, show i = m 8 0 3 by omega]
  · rw [hm 7 0 x (by omega), h7 x a b, r1 43 0 _ (by omega), hl 43 0 _ (by omega)]
    exact i2 x a b
  · rw [hm 2 0 1 (by omega), hm 2 0 2 (by omega), hm 2 0 3 (by omega), hm 2 0 0 (by omega), h2, h2, h2, h2, r1 44 0 _ (by omega), r1 44 0 _ (by omega), r1 44 0 _ (by omega), r1 44 0 _ (by omega), hl 44 0 _ (by omega), hl 44 0 _ (by omega), hl 44 0 _ (by omega), hl 44 0 _ (by omega)]
    exact i3
  · rw [hm 6 0 0 (by omega), hl 6 0 0 (by omega), e822]
    exact i4
  · rw [e822]
    exact i5
  · rw [e822] at b
    rw [hm 36 0 i (by omega), hl 36 0 i (by omega), r1 55 0 _ (by omega), hl 55 0 _ (by omega)]
    exact i6 i a b
theorem lv_sm {m m1 : ob_Mem} {j : Int} (h : sm (fun k i => gA k i ∨ gB j k i) m m1) : lv m m1 := fun k i x hk => h k i x (fun z => by
  rcases z with ((⟨z1, z2⟩ | ⟨z1, z2⟩ | z1) | z1) | ⟨z1, z2⟩ | ⟨z1, z2⟩ | ⟨z1, z2⟩ <;> omega)
theorem lv_t {m m1 m2 : ob_Mem} (h : lv m m1) (h' : lv m1 m2) : lv m m2 := fun k i x hk => (h' k i x hk).trans (h k i x hk)
/-- remember, a change of the barrel, changed -/
theorem cl_wrap {W : Int} {m m1 m2 : ob_Mem} {s S : Int → Int} {n V v : Int} {P : Int → Int → Int} (hP : PC W m1 s s n P) (hr : sm (gB (m 7 0 1)) m m1) (hO : CO m1 (m1 7 0 0) V S v m2) (hS : VV W S) (hV : V < 0 → (-4 ≤ V ∧ V ≤ -2) ∧ S = s) : wp (ob_E (115, 0, [(10, 0), (1, v)], [], (m2, none))) (fun v' m' => v' = V ∧ CR W m s S n P V m' ∧ lv m m' ∧ ∀ x, m' 2 0 x = m 2 0 x) := by
  obtain ⟨rfl, o2, o3⟩ := hO
  have h2 : PC W m2 s S n P := PC_sm hP (sm_m o3 (fun k i => Or.inr)) hS o2
  have e27 : ∀ k i x, k = 7 ∨ k = 2 → m2 k i x = m k i x := fun k i x hk => by
    rw [o3 k i x (fun z => by rcases z with ⟨z1, z2⟩ | ⟨z1, z2⟩ | ⟨z1, z2⟩ <;> omega), hr k i x (fun z => by rcases z with ⟨z1, z2⟩ | ⟨z1, z2⟩ | ⟨z1, z2⟩ <;> omega)]
  have l2 : lv m m2 := lv_t (lv_sm (sm_m hr (fun k i => Or.inr))) (lv_sm (sm_m o3 (fun k i => Or.inr)))
  refine wp_mono (cl_changed h2 (fun c => ⟨(hV c).1, by have := h2.1; rw [(hV c).2] at this; exact this⟩)) (fun v' m' h => ?_)
  obtain ⟨rfl, h3, h4⟩ := h
  refine ⟨rfl, ?_, lv_t l2 (fun k i x hk => h4 k i x (by omega) (by omega)), fun x => by rw [h4 2 0 x (by omega) (by omega), e27 2 0 x (by omega)]⟩
  rcases h3 with ⟨c1, c2, c3, c4⟩ | ⟨c1, c2, c3⟩
  · exact Or.inl ⟨c1, c2, c3, fun x a b => by rw [c4 x a b, e27 7 0 x (by omega)]⟩
  · exact Or.inr ⟨c1, c2, fun x a b => by rw [c3 x a b, e27 7 0 x (by omega)]⟩
/-- class and model, where both change by V and S -/
theorem J_std {W : Int} {m : ob_Mem} {V : Int} {S : Int → Int} {cx mx : ob_Mem → ob_Res} (h : Inv W m) (hc : wp (cx m) (fun v' m' => v' = V ∧ CR W m (m 40 0) S (m 8 0 3) (fun i p => m 41 0 (360 * i + p)) V m' ∧ lv m m' ∧ ∀ x, m' 2 0 x = m 2 0 x)) (hx : ∀ m1, lv m m1 → wp (mx m1) (fun v' m' => v' = V ∧ (v' < 0 ∧ RF m1 v' m' ∨ 0 ≤ v' ∧ Chg m1 S m'))) : Agr W W m cx mx := by
  obtain ⟨v, m1, e1, rfl, c1, c2, c3⟩ := hc
  obtain ⟨v', m2, e2, rfl, d1⟩ := hx m1 c2
  have sc : ∀ k i x, k = 14 ∨ k = 15 → m2 k i x = m k i x := fun k i x hk => by
    rw [← c2 k i x (by omega)]
    rcases d1 with ⟨-, d⟩ | ⟨-, d⟩
    · exact d.2.2.2.2.2 k i x (by omega)
    · exact d.1 k i x (by omega)
  refine ⟨v', m1, m2, e1, e2, ?_, fun k i x hk => ⟨c2 k i x (by omega), sc k i x hk⟩⟩
  rcases c1 with ⟨b1, b2, b3, b4⟩ | ⟨b1, b2, b3⟩
  · rcases d1 with ⟨-, d⟩ | ⟨d, -⟩
    · exact J_ref h c2 b2 b3 b4 c3 d
    · omega
  · rcases d1 with ⟨d, -⟩ | ⟨-, d⟩
    · omega
    · exact J_done (Int.le_refl _) h c2 b2 b3 c3 d
theorem Inv_V {W : Int} {m : ob_Mem} (h : Inv W m) : VV W (m 40 0) ∧ 0 ≤ m 8 0 3 ∧ m 8 0 3 ≤ 5 := ⟨h.1.2.2.1.1, h.1.1.1.1, h.1.1.1.2⟩
theorem a_vs {W : Int} {s : Int → Int} {w v : Int} (h : VV W s) : aV s w v < 0 → (-4 ≤ aV s w v ∧ aV s w v ≤ -2) ∧ aS s w v = s := by
  obtain ⟨⟨v1, v2, v3, v4, v5, v6, v7⟩, v8⟩ := h
  unfold aV aS
  by_cases c : (w = 0 ∧ 0 ≤ v ∧ v ≤ 2) ∨ (w = 1 ∧ 0 ≤ v ∧ v ≤ 3) ∨ (w = 2 ∧ 1 ≤ v ∧ v ≤ 99)
  · rw [if_pos c, if_pos c]
    obtain ⟨rfl, -⟩ | ⟨rfl, -⟩ | ⟨rfl, -⟩ := c
    · intro (z : s 3 < 0)
      omega
    · intro (z : s 4 < 0)
      omega
    · intro (z : s 5 < 0)
      omega
  · rw [if_neg c, if_neg c]
    exact fun _ => ⟨by omega, rfl⟩
theorem g_vs {W : Int} {s : Int → Int} {k v : Int} (h : VV W s) : gV s k v < 0 → (-4 ≤ gV s k v ∧ gV s k v ≤ -2) ∧ gS s k v = s := by
  obtain ⟨⟨v1, v2, v3, v4, v5, v6, v7⟩, v8⟩ := h
  unfold gV gS
  by_cases c : (0 ≤ k ∧ k < s 1) ∧ 0 ≤ v ∧ v ≤ 6
  · rw [if_pos c, if_pos c]
    have := v7 k (by omega) (by omega)
    intro z
    omega
  · rw [if_neg c, if_neg c]
    exact fun _ => ⟨by omega, rfl⟩
theorem tk_vs {W : Int} {s : Int → Int} {t l : Int} (h : VV W s) : tkV s t l < 0 → (-4 ≤ tkV s t l ∧ tkV s t l ≤ -2) ∧ tkS s t l = s := by
  obtain ⟨⟨v1, v2, v3, v4, v5, v6, v7⟩, v8⟩ := h
  unfold tkV tkS
  by_cases c : (0 ≤ t ∧ t < s 2) ∧ 1 ≤ l ∧ l ≤ s 0
  · rw [if_pos c, if_pos c]
    have := (v8 t (by omega) (by omega)).1.2.2.1
    intro z
    omega
  · rw [if_neg c, if_neg c]
    exact fun _ => ⟨by omega, rfl⟩
theorem sh_vs {W : Int} {s : Int → Int} {t l : Int} (h : VV W s) : shV s t l < 0 → (-4 ≤ shV s t l ∧ shV s t l ≤ -2) ∧ shS s t l = s := by
  obtain ⟨⟨v1, v2, v3, v4, v5, v6, v7⟩, v8⟩ := h
  unfold shV shS
  by_cases c : (0 ≤ t ∧ t < s 2) ∧ 0 ≤ l ∧ l < s 0
  · rw [if_pos c, if_pos c]
    have := (v8 t (by omega) (by omega)).1.2.1
    intro z
    omega
  · rw [if_neg c, if_neg c]
    exact fun _ => ⟨by omega, rfl⟩
theorem n_vs {W : Int} {s : Int → Int} {t k a l : Int} (h : VV W s) : nV s t k a l < 0 → (-4 ≤ nV s t k a l ∧ nV s t k a l ≤ -2) ∧ nS s t k a l = s := by
  obtain ⟨⟨v1, v2, v3, v4, v5, v6, v7⟩, v8⟩ := h
  have ci := cNote_i s t k a l
  unfold nV nS
  by_cases c : cNote s t k a l < 0
  · rw [if_pos c, if_pos c]
    exact fun _ => ⟨by omega, rfl⟩
  · obtain ⟨⟨o1, -⟩, o2⟩ := cNote_0 (s := s) (t := t) (k := k) (a := a) (l := l) (by omega)
    have := (v8 t (by omega) (by omega)).1.2.2.1
    rw [if_neg c]
    intro z
    omega
theorem dr_vs {W : Int} {s : Int → Int} {t i : Int} (h : VV W s) : drV s t i < 0 → (-4 ≤ drV s t i ∧ drV s t i ≤ -2) ∧ drS s t i = s := by
  unfold drV drS
  by_cases c : (0 ≤ t ∧ t < s 2) ∧ 0 ≤ i ∧ i < s (12 + 116 * t + 2)
  · rw [if_pos c, if_pos c]
    intro z
    omega
  · rw [if_neg c, if_neg c]
    exact fun _ => ⟨by omega, rfl⟩
theorem of_vs {W : Int} {s : Int → Int} {t : Int} (h : VV W s) : ofV s t < 0 → (-4 ≤ ofV s t ∧ ofV s t ≤ -2) ∧ ofS s t = s := by
  obtain ⟨⟨v1, v2, v3, v4, v5, v6, v7⟩, v8⟩ := h
  unfold ofV ofS
  by_cases c : 0 ≤ t ∧ t < s 2
  · by_cases c2 : s (12 + 116 * t + 39) = 1
    · have := (((v8 t (by omega) (by omega)).2).2.2 c2).2.2.2.1
      rw [if_pos c, if_pos c2]
      intro z
      omega
    · rw [if_pos c, if_neg c2, if_neg (fun z => c2 z.2)]
      exact fun _ => ⟨by omega, rfl⟩
  · rw [if_neg c, if_neg (fun z => c z.1)]
    exact fun _ => ⟨by omega, rfl⟩
theorem be_vs {W : Int} {s : Int → Int} {r k t : Int} (h : VV W s) : beV s r k t < 0 → (-4 ≤ beV s r k t ∧ beV s r k t ≤ -2) ∧ beS s r k t = s := by
  obtain ⟨⟨v1, v2, v3, v4, v5, v6, v7⟩, v8⟩ := h
  unfold beV beS
  by_cases c : (6 ≤ r ∧ r ≤ 24) ∧ (1 ≤ k ∧ k ≤ 6) ∧ 2 ≤ t ∧ t ≤ 3
  · rw [if_pos c, if_pos c]
    intro z
    omega
  · rw [if_neg c, if_neg c]
    exact fun _ => ⟨by omega, rfl⟩
theorem ag_barrel {W : Int} {m : ob_Mem} {r k t : Int} (h : Inv W m) : Agr W W m (fun m => ob_E (83, 0, [(10, 0), (1, r), (1, k), (1, t)], [], (m, none))) (fun m => ob_E (154, 0, [(11, 0), (1, r), (1, k), (1, t), (0, 0)], [], (m, none))) := by
  obtain ⟨hV, hn⟩ := Inv_V h
  refine J_std (V := beV (m 40 0) r k t) (S := beS (m 40 0) r k t) h ?_ (fun m1 hl => ?_)
  · show wp (ob_E (83, 0, [(10, 0), (1, r), (1, k), (1, t)], [], (m, none))) _
    rw [sg_X7_barrel_0]
    refine wp_b (cl_remember h.1) (fun _ m1 h1 => ?_)
    obtain ⟨r1, r2, r3⟩ := h1
    rw [sg_X7_barrel_4]
    refine wp_b (cl_build hV r1.1.2.2.1.2) (fun v m2 h2 => ?_)
    rw [sg_X7_barrel_15]
    refine wp_b (cl_wrap r1 r3 h2 (VV_be hV) (be_vs hV)) (fun v' m3 h3 => ?_)
    rw [sg_X7_barrel_18]
    exact wp_ret h3
  · have e := lv_r hl (k := 40) (i := 0) (by omega)
    rw [← e] at hV ⊢
    exact md_barrel m1 hV (by rw [hl 8 0 3 (by omega)]; exact hn)
theorem ag_sets {W : Int} {m : ob_Mem} {w v : Int} (h : Inv W m) : Agr W W m (fun m => ob_E (84, 0, [(10, 0), (1, w), (1, v)], [], (m, none))) (fun m => ob_E (156, 0, [(11, 0), (1, w), (1, v)], [], (m, none))) := by
  obtain ⟨hV, hn⟩ := Inv_V h
  refine J_std (V := aV (m 40 0) w v) (S := aS (m 40 0) w v) h ?_ (fun m1 hl => ?_)
  · show wp (ob_E (84, 0, [(10, 0), (1, w), (1, v)], [], (m, none))) _
    rw [sg_X7_sets_0]
    refine wp_b (cl_remember h.1) (fun _ m1 h1 => ?_)
    obtain ⟨r1, r2, r3⟩ := h1
    rw [sg_X7_sets_4]
    refine wp_b (cl_adjust hV r1.1.2.2.1.2) (fun v m2 h2 => ?_)
    rw [sg_X7_sets_14]
    refine wp_b (cl_wrap r1 r3 h2 (VV_a hV) (a_vs hV)) (fun v' m3 h3 => ?_)
    rw [sg_X7_sets_17]
    exact wp_ret h3
  · have e := lv_r hl (k := 40) (i := 0) (by omega)
    rw [← e] at hV ⊢
    exact md_sets m1 hV (by rw [hl 8 0 3 (by omega)]; exact hn)
theorem ag_gap {W : Int} {m : ob_Mem} {k v : Int} (h : Inv W m) : Agr W W m (fun m => ob_E (85, 0, [(10, 0), (1, k), (1, v)], [], (m, none))) (fun m => ob_E (158, 0, [(11, 0), (1, k), (1, v)], [], (m, none))) := by
  obtain ⟨hV, hn⟩ := Inv_V h
  refine J_std (V := gV (m 40 0) k v) (S := gS (m 40 0) k v) h ?_ (fun m1 hl => ?_)
  · show wp (ob_E (85, 0, [(10, 0), (1, k), (1, v)], [], (m, none))) _
    rw [sg_X7_gap_0]
    refine wp_b (cl_remember h.1) (fun _ m1 h1 => ?_)
    obtain ⟨r1, r2, r3⟩ := h1
    rw [sg_X7_gap_4]
    refine wp_b (cl_setGap hV r1.1.2.2.1.2) (fun v m2 h2 => ?_)
    rw [sg_X7_gap_14]
    refine wp_b (cl_wrap r1 r3 h2 (VV_g hV) (g_vs hV)) (fun v' m3 h3 => ?_)
    rw [sg_X7_gap_17]
    exact wp_ret h3
  · have e := lv_r hl (k := 40) (i := 0) (by omega)
    rw [← e] at hV ⊢
    exact md_gap m1 hV (by rw [hl 8 0 3 (by omega)]; exact hn)
theorem ag_side {W : Int} {m : ob_Mem} {v : Int} (h : Inv W m) : Agr W W m (fun m => ob_E (86, 0, [(10, 0), (1, v)], [], (m, none))) (fun m => ob_E (160, 0, [(11, 0), (1, v)], [], (m, none))) := by
  obtain ⟨hV, hn⟩ := Inv_V h
  refine J_std (V := aV (m 40 0) 1 v) (S := aS (m 40 0) 1 v) h ?_ (fun m1 hl => ?_)
  · show wp (ob_E (86, 0, [(10, 0), (1, v)], [], (m, none))) _
    rw [sg_X7_side_0]
    refine wp_b (cl_remember h.1) (fun _ m1 h1 => ?_)
    obtain ⟨r1, r2, r3⟩ := h1
    rw [sg_X7_side_4]
    refine wp_b (cl_adjust hV r1.1.2.2.1.2) (fun v m2 h2 => ?_)
    rw [sg_X7_side_14]
    refine wp_b (cl_wrap r1 r3 h2 (VV_a hV) (a_vs hV)) (fun v' m3 h3 => ?_)
    rw [sg_X7_side_17]
    exact wp_ret h3
  · have e := lv_r hl (k := 40) (i := 0) (by omega)
    rw [← e] at hV ⊢
    exact md_side m1 hV (by rw [hl 8 0 3 (by omega)]; exact hn)
theorem ag_ticks {W : Int} {m : ob_Mem} {t l : Int} (h : Inv W m) : Agr W W m (fun m => ob_E (87, 0, [(10, 0), (1, t), (1, l)], [], (m, none))) (fun m => ob_E (163, 0, [(11, 0), (1, t), (1, l)], [], (m, none))) := by
  obtain ⟨hV, hn⟩ := Inv_V h
  refine J_std (V := tkV (m 40 0) t l) (S := tkS (m 40 0) t l) h ?_ (fun m1 hl => ?_)
  · show wp (ob_E (87, 0, [(10, 0), (1, t), (1, l)], [], (m, none))) _
    rw [sg_X7_ticks_0]
    refine wp_b (cl_remember h.1) (fun _ m1 h1 => ?_)
    obtain ⟨r1, r2, r3⟩ := h1
    rw [sg_X7_ticks_4]
    refine wp_b (cl_setTicks hV r1.1.2.2.1.2) (fun v m2 h2 => ?_)
    rw [sg_X7_ticks_14]
    refine wp_b (cl_wrap r1 r3 h2 (VV_tk hV) (tk_vs hV)) (fun v' m3 h3 => ?_)
    rw [sg_X7_ticks_17]
    exact wp_ret h3
  · have e := lv_r hl (k := 40) (i := 0) (by omega)
    rw [← e] at hV ⊢
    exact md_ticks m1 hV (by rw [hl 8 0 3 (by omega)]; exact hn)
theorem ag_note {W : Int} {m : ob_Mem} {t k a l : Int} (h : Inv W m) : Agr W W m (fun m => ob_E (88, 0, [(10, 0), (1, t), (1, k), (1, a), (1, l)], [], (m, none))) (fun m => ob_E (166, 0, [(11, 0), (1, t), (1, k), (1, a), (1, l), (0, 0)], [], (m, none))) := by
  obtain ⟨hV, hn⟩ := Inv_V h
  refine J_std (V := nV (m 40 0) t k a l) (S := nS (m 40 0) t k a l) h ?_ (fun m1 hl => ?_)
  · show wp (ob_E (88, 0, [(10, 0), (1, t), (1, k), (1, a), (1, l)], [], (m, none))) _
    rw [sg_X7_note_0]
    refine wp_b (cl_remember h.1) (fun _ m1 h1 => ?_)
    obtain ⟨r1, r2, r3⟩ := h1
    rw [sg_X7_note_4]
    refine wp_b (cl_addNote hV r1.1.2.2.1.2) (fun v m2 h2 => ?_)
    rw [sg_X7_note_17]
    refine wp_b (cl_wrap r1 r3 h2 (VV_n hV) (n_vs hV)) (fun v' m3 h3 => ?_)
    rw [sg_X7_note_20]
    exact wp_ret h3
  · have e := lv_r hl (k := 40) (i := 0) (by omega)
    rw [← e] at hV ⊢
    exact md_note m1 hV (by rw [hl 8 0 3 (by omega)]; exact hn)
theorem ag_drop {W : Int} {m : ob_Mem} {t i : Int} (h : Inv W m) : Agr W W m (fun m => ob_E (89, 0, [(10, 0), (1, t), (1, i)], [], (m, none))) (fun m => ob_E (168, 0, [(11, 0), (1, t), (1, i), (0, 0)], [], (m, none))) := by
  obtain ⟨hV, hn⟩ := Inv_V h
  refine J_std (V := drV (m 40 0) t i) (S := drS (m 40 0) t i) h ?_ (fun m1 hl => ?_)
  · show wp (ob_E (89, 0, [(10, 0), (1, t), (1, i)], [], (m, none))) _
    rw [sg_X7_drop_0]
    refine wp_b (cl_remember h.1) (fun _ m1 h1 => ?_)
    obtain ⟨r1, r2, r3⟩ := h1
    rw [sg_X7_drop_4]
    refine wp_b (cl_removeNote hV r1.1.2.2.1.2) (fun v m2 h2 => ?_)
    rw [sg_X7_drop_14]
    refine wp_b (cl_wrap r1 r3 h2 (VV_dr hV) (dr_vs hV)) (fun v' m3 h3 => ?_)
    rw [sg_X7_drop_17]
    exact wp_ret h3
  · have e := lv_r hl (k := 40) (i := 0) (by omega)
    rw [← e] at hV ⊢
    exact md_drop m1 hV (by rw [hl 8 0 3 (by omega)]; exact hn)
theorem ag_shift {W : Int} {m : ob_Mem} {t l : Int} (h : Inv W m) : Agr W W m (fun m => ob_E (90, 0, [(10, 0), (1, t), (1, l)], [], (m, none))) (fun m => ob_E (171, 0, [(11, 0), (1, t), (1, l)], [], (m, none))) := by
  obtain ⟨hV, hn⟩ := Inv_V h
  refine J_std (V := shV (m 40 0) t l) (S := shS (m 40 0) t l) h ?_ (fun m1 hl => ?_)
  · show wp (ob_E (90, 0, [(10, 0), (1, t), (1, l)], [], (m, none))) _
    rw [sg_X7_shift_0]
    refine wp_b (cl_remember h.1) (fun _ m1 h1 => ?_)
    obtain ⟨r1, r2, r3⟩ := h1
    rw [sg_X7_shift_4]
    refine wp_b (cl_setShift hV r1.1.2.2.1.2) (fun v m2 h2 => ?_)
    rw [sg_X7_shift_14]
    refine wp_b (cl_wrap r1 r3 h2 (VV_sh hV) (sh_vs hV)) (fun v' m3 h3 => ?_)
    rw [sg_X7_shift_17]
    exact wp_ret h3
  · have e := lv_r hl (k := 40) (i := 0) (by omega)
    rw [← e] at hV ⊢
    exact md_shift m1 hV (by rw [hl 8 0 3 (by omega)]; exact hn)
theorem ag_off {W : Int} {m : ob_Mem} {t : Int} (h : Inv W m) : Agr W W m (fun m => ob_E (94, 0, [(10, 0), (1, t)], [], (m, none))) (fun m => ob_E (190, 0, [(11, 0), (1, t), (0, 0)], [], (m, none))) := by
  obtain ⟨hV, hn⟩ := Inv_V h
  refine J_std (V := ofV (m 40 0) t) (S := ofS (m 40 0) t) h ?_ (fun m1 hl => ?_)
  · show wp (ob_E (94, 0, [(10, 0), (1, t)], [], (m, none))) _
    rw [sg_X7_off_0]
    refine wp_b (cl_remember h.1) (fun _ m1 h1 => ?_)
    obtain ⟨r1, r2, r3⟩ := h1
    rw [sg_X7_off_4]
    refine wp_b (cl_takeOff hV r1.1.2.2.1.2) (fun v m2 h2 => ?_)
    rw [sg_X7_off_13]
    refine wp_b (cl_wrap r1 r3 h2 (VV_of hV) (of_vs hV)) (fun v' m3 h3 => ?_)
    rw [sg_X7_off_16]
    exact wp_ret h3
  · have e := lv_r hl (k := 40) (i := 0) (by omega)
    rw [← e] at hV ⊢
    exact md_off m1 hV (by rw [hl 8 0 3 (by omega)]; exact hn)
