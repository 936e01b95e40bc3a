-- BRIDGES: what they are (pure)
def bq (s : Int → Int) (v : Int) : Int := s (12 + 116 * (v / 12) + (44 + 4 * (v % 12) + 1))
def hq (s : Int → Int) (v : Int) : Int := s (12 + 116 * (v / 12) + (44 + 4 * (v % 12) + 2))
def wq (s : Int → Int) (v : Int) : Int := s (12 + 116 * (v / 12) + (44 + 4 * (v % 12) + 3))
def kq (s : Int → Int) (v : Int) : Int := s (12 + 116 * (v / 12) + (44 + 4 * (v % 12) + 0))
def tr (s : Int → Int) (v : Int) : Int := s 2 * kq s v + v / 12
/-- v = 12 t + i is a pin -/
def Pin (s : Int → Int) (v : Int) : Prop := (0 ≤ v ∧ v < 36) ∧ v / 12 < s 2 ∧ s (12 + 116 * (v / 12) + 39) = 1 ∧ v % 12 < s (12 + 116 * (v / 12) + 43)
theorem Pin_b {W : Int} {s : Int → Int} {v : Int} (hV : VV W s) (h : Pin s v) : (0 ≤ kq s v ∧ kq s v < s 1) ∧ (0 ≤ bq s v ∧ bq s v < s 0) ∧ (1 ≤ hq s v ∧ hq s v ≤ s 0) ∧ (0 ≤ wq s v ∧ wq s v ≤ W) ∧ (0 ≤ tr s v ∧ tr s v < s 2 * s 1) := by
  obtain ⟨⟨v1, v2, v3, -⟩, v8⟩ := id hV
  obtain ⟨h1, h2, h3, h4⟩ := h
  obtain ⟨-, p1, p2, p3⟩ := v8 (v / 12) (by omega) (by omega)
  obtain ⟨p4, p5, p6, p7, p8, p9⟩ := p3 h3
  obtain ⟨q1, q2, q3, q4⟩ := p8 (v % 12) (by omega) h4
  refine ⟨q1, q2, q3, q4, ?_⟩
  unfold tr
  have q1 : 0 ≤ kq s v ∧ kq s v < s 1 := q1
  have e1 := Int.mul_nonneg (show 0 ≤ s 2 by omega) q1.1
  have e2 : s 2 * (kq s v + 1) ≤ s 2 * s 1 := Int.mul_le_mul_of_nonneg_left (by omega) (by omega)
  rw [Int.mul_add, Int.mul_one] at e2
  omega
theorem div_T {T k t : Int} (hT : 2 ≤ T ∧ T ≤ 3) (ht : 0 ≤ t ∧ t < T) : (T * k + t) / T = k ∧ (T * k + t) % T = t := by
  rcases (show T = 2 ∨ T = 3 by omega) with e | e
  · subst e
    omega
  · subst e
    omega
theorem Pin_u {W : Int} {s : Int → Int} {v w : Int} (hV : VV W s) (h : Pin s v) (h' : Pin s w) (e1 : tr s v = tr s w) (e2 : bq s v = bq s w) : v = w := by
  obtain ⟨⟨v1, v2, v3, -⟩, v8⟩ := id hV
  obtain ⟨h1, h2, h3, h4⟩ := id h
  obtain ⟨g1, g2, g3, g4⟩ := id h'
  unfold tr at e1
  have d1 := div_T (k := kq s v) v3 (t := v / 12) (by omega)
  have d2 := div_T (k := kq s w) v3 (t := w / 12) (by omega)
  rw [e1, d2.1, d2.2] at d1
  have et : w / 12 = v / 12 := d1.2
  have ek : kq s w = kq s v := d1.1
  obtain ⟨-, p1, p2, p3⟩ := v8 (v / 12) (by omega) (by omega)
  obtain ⟨p4, p5, p6, p7, p8, p9⟩ := p3 h3
  rw [et] at g4
  by_cases c : v % 12 = w % 12
  · omega
  · exfalso
    refine p9 (v % 12) (w % 12) (by omega) h4 (by omega) g4 c ?_ ?_
    · unfold kq at ek
      rw [et] at ek
      exact ek.symm
    · unfold bq at e2
      rw [et] at e2
      exact e2
/-- the pin that begins on a track at an angle, or -1 -/
noncomputable def pat (s : Int → Int) (x a : Int) : Int := @dite _ (∃ v, Pin s v ∧ tr s v = x ∧ bq s v = a) (Classical.propDecidable _) (fun h => h.choose) (fun _ => -1)
theorem pat_i (s : Int → Int) (x a : Int) : (Pin s (pat s x a) ∧ tr s (pat s x a) = x ∧ bq s (pat s x a) = a) ∨ (pat s x a = -1 ∧ ∀ v, Pin s v → tr s v = x → bq s v ≠ a) := by
  by_cases h : ∃ v, Pin s v ∧ tr s v = x ∧ bq s v = a
  · have e : pat s x a = h.choose := dif_pos h
    rw [e]
    exact Or.inl h.choose_spec
  · refine Or.inr ⟨dif_neg h, fun v h1 h2 h3 => h ⟨v, h1, h2, h3⟩⟩
theorem pat_e {W : Int} {s : Int → Int} {v x a : Int} (hV : VV W s) (h : Pin s v) (e1 : tr s v = x) (e2 : bq s v = a) : pat s x a = v := by
  rcases pat_i s x a with ⟨h1, h2, h3⟩ | ⟨h1, h2⟩
  · exact Pin_u hV h1 h (h2.trans e1.symm) (h3.trans e2.symm)
  · exact absurd e2 (h2 v h e1)
theorem pat_n {s : Int → Int} {x a : Int} (h : ∀ v, Pin s v → tr s v = x → bq s v ≠ a) : pat s x a = -1 := by
  rcases pat_i s x a with ⟨h1, h2, h3⟩ | ⟨h1, h2⟩
  · exact absurd h3 (h _ h1 h2)
  · exact h1
abbrev BS : Type := Int × (Int → Int) × (Int → Int) × (Int → Int) × (Int → Int) × (Int → Int) × (Int → Int)
def bnew (s : Int → Int) (a x v : Int) (q : BS) : BS := (q.1 + 1, up q.2.1 q.1 a, up q.2.2.1 q.1 (hq s v), up q.2.2.2.1 q.1 x, up q.2.2.2.2.1 q.1 0, up q.2.2.2.2.2.1 q.1 0, q.2.2.2.2.2.2)
def badd (s : Int → Int) (v : Int) (q : BS) : BS := (q.1, q.2.1, q.2.2.1, q.2.2.2.1, up q.2.2.2.2.1 (q.1 - 1) (ob_wr (q.2.2.2.2.1 (q.1 - 1) + 1)), up q.2.2.2.2.2.1 (q.1 - 1) (ob_wr (q.2.2.2.2.2.1 (q.1 - 1) + wq s v)), up q.2.2.2.2.2.2 v (q.1 - 1))
noncomputable def bstep (s : Int → Int) (a x : Int) (q : BS) : BS := if pat s x a = -1 then q else badd s (pat s x a) (if pat s (x - 1) a ≠ -1 ∧ hq s (pat s (x - 1) a) = hq s (pat s x a) then q else bnew s a x (pat s x a) q)
def b0 : BS := (0, fun _ => 0, fun _ => 0, fun _ => 0, fun _ => 0, fun _ => 0, fun _ => -1)
noncomputable def bA (s : Int → Int) (a : Int) : BS := fo (fun a q => fo (fun x q => bstep s a x q) q (s 2 * s 1).toNat) b0 a.toNat
noncomputable def bX (s : Int → Int) (a x : Int) : BS := fo (fun x q => bstep s a x q) (bA s a) x.toNat
theorem bX_s {s : Int → Int} {a x : Int} (h : 0 ≤ x) : bX s a (x + 1) = bstep s a x (bX s a x) := fo_s h
theorem bA_s {s : Int → Int} {a : Int} (h : 0 ≤ a) : bA s (a + 1) = bX s a (s 2 * s 1) := fo_s h
theorem bX_0 {s : Int → Int} {a : Int} : bX s a 0 = bA s a := rfl
/-- all bridges -/
noncomputable def br (s : Int → Int) : BS := bA s (s 0)
noncomputable def cnt (P : Int → Prop) (n : Nat) : Int := fo (fun v c => @ite _ (P v) (Classical.propDecidable _) (c + 1) c) 0 n
theorem cnt_le {P : Int → Prop} : ∀ n : Nat, cnt P n ≤ n
  | 0 => Int.le_refl _
  | n + 1 => by
    have := cnt_le (P := P) n
    show @ite _ (P n) (Classical.propDecidable _) (cnt P n + 1) (cnt P n) ≤ _
    split <;> omega
theorem cnt_c {P Q : Int → Prop} : ∀ n : Nat, (∀ v : Int, 0 ≤ v → v < n → (P v ↔ Q v)) → cnt P n = cnt Q n
  | 0, _ => rfl
  | n + 1, h => by
    have q := cnt_c (P := P) (Q := Q) n (fun v a b => h v a (by omega))
    show @ite _ (P n) (Classical.propDecidable _) (cnt P n + 1) (cnt P n) = @ite _ (Q n) (Classical.propDecidable _) (cnt Q n + 1) (cnt Q n)
    have e := h n (by omega) (by omega)
    rw [q]
    by_cases c : P n
    · rw [if_pos c, if_pos (e.mp c)]
    · rw [if_neg c, if_neg (fun z => c (e.mpr z))]
theorem cnt_add {P Q : Int → Prop} {v0 : Int} (h0 : ¬ P v0) (h1 : Q v0) (hq : ∀ v, v ≠ v0 → (P v ↔ Q v)) : ∀ n : Nat, 0 ≤ v0 → v0 < n → cnt Q n = cnt P n + 1
  | 0, a, b => by omega
  | n + 1, a, b => by
    show @ite _ (Q n) (Classical.propDecidable _) (cnt Q n + 1) (cnt Q n) = @ite _ (P n) (Classical.propDecidable _) (cnt P n + 1) (cnt P n) + 1
    by_cases e : v0 = (n : Int)
    · subst e
      rw [if_pos h1, if_neg h0, cnt_c (P := Q) (Q := P) n (fun v x y => (hq v (by omega)).symm)]
    · have q := cnt_add h0 h1 hq n a (by omega)
      have z := hq n (fun w => e w.symm)
      rw [q]
      by_cases c : P n
      · rw [if_pos c, if_pos (z.mp c)]
      · rw [if_neg c, if_neg (fun w => c (z.mpr w))]
/-- what holds of the bridges found ahead of (a, x) -/
def SI (s : Int → Int) (a x : Int) (q : BS) : Prop := (0 ≤ q.1 ∧ q.1 ≤ cnt (fun v => 0 ≤ q.2.2.2.2.2.2 v) 36) ∧ (∀ v, Pin s v → (0 ≤ q.2.2.2.2.2.2 v ↔ (bq s v < a ∨ (bq s v = a ∧ tr s v < x)))) ∧ (∀ v, q.2.2.2.2.2.2 v = -1 ∨ (0 ≤ q.2.2.2.2.2.2 v ∧ q.2.2.2.2.2.2 v < q.1 ∧ Pin s v ∧ q.2.2.1 (q.2.2.2.2.2.2 v) = hq s v)) ∧ (pat s (x - 1) a ≠ -1 → q.2.2.2.2.2.2 (pat s (x - 1) a) = q.1 - 1)
theorem SI_36 {s : Int → Int} {a x : Int} {q : BS} (h : SI s a x q) : q.1 ≤ 36 := by
  have h1 := h.1.2
  have h2 := cnt_le (P := fun v => 0 ≤ q.2.2.2.2.2.2 v) 36
  exact Int.le_trans h1 h2
/-- where a pin is met, there is room for one more -/
theorem SI_35 {s : Int → Int} {a x : Int} {q : BS} (h : SI s a x q) (hp : pat s x a ≠ -1) : q.1 < 36 := by
  rcases pat_i s x a with ⟨h1, h2, h3⟩ | ⟨h1, -⟩
  · have hn : ¬ (0 ≤ q.2.2.2.2.2.2 (pat s x a)) := fun z => by
      have := (h.2.1 _ h1).mp z
      omega
    have c1 := cnt_add (P := fun v => 0 ≤ q.2.2.2.2.2.2 v) (Q := fun v => 0 ≤ q.2.2.2.2.2.2 v ∨ v = pat s x a) hn (Or.inr rfl) (fun v hv => ⟨Or.inl, fun z => by
      rcases z with z | z
      · exact z
      · exact absurd z hv⟩) 36 h1.1.1 (by have := h1.1.2; omega)
    have c2 := cnt_le (P := fun v => 0 ≤ q.2.2.2.2.2.2 v ∨ v = pat s x a) 36
    have c3 := h.1.2
    have c2 : cnt (fun v => 0 ≤ q.2.2.2.2.2.2 v ∨ v = pat s x a) 36 ≤ 36 := c2
    omega
  · exact absurd h1 hp
theorem SI_0 {s : Int → Int} {W : Int} (hV : VV W s) : SI s 0 0 b0 := by
  refine ⟨⟨Int.le_refl _, ?_⟩, fun v hv => ?_, fun v => Or.inl rfl, fun h => ?_⟩
  · show (0 : Int) ≤ cnt _ 36
    exact fo_inv (fun c => 0 ≤ c) (Int.le_refl _) 36 (fun j _ _ x hx => by split <;> omega)
  · have := Pin_b hV hv
    exact ⟨fun z => by have z : (0 : Int) ≤ -1 := z; omega, fun z => by omega⟩
  · rcases pat_i s (0 - 1) 0 with ⟨h1, h2, h3⟩ | ⟨h1, -⟩
    · have := Pin_b hV h1
      omega
    · exact absurd h1 h
theorem SI_row {s : Int → Int} {a : Int} {q : BS} {W : Int} (hV : VV W s) (h : SI s a (s 2 * s 1) q) : SI s (a + 1) 0 q := by
  obtain ⟨h1, h2, h3, h4⟩ := h
  refine ⟨h1, fun v hv => ?_, h3, fun hp => ?_⟩
  · have := Pin_b hV hv
    rw [h2 v hv]
    omega
  · rcases pat_i s (0 - 1) (a + 1) with ⟨g1, g2, g3⟩ | ⟨g1, -⟩
    · have := Pin_b hV g1
      omega
    · exact absurd g1 hp
theorem SI_step {s : Int → Int} {a x : Int} {q : BS} {W : Int} (hV : VV W s) (h : SI s a x q) : SI s a (x + 1) (bstep s a x q) := by
  obtain ⟨h1, h2, h3, h4⟩ := id h
  unfold bstep
  by_cases c : pat s x a = -1
  · rw [if_pos c]
    refine ⟨h1, fun v hv => ?_, h3, fun hp => ?_⟩
    · rw [h2 v hv]
      constructor
      · intro z
        omega
      · intro z
        by_cases e : bq s v = a ∧ tr s v = x
        · have := pat_e hV hv e.2 e.1
          rw [c] at this
          have := hv.1.1
          omega
        · omega
    · rw [show x + 1 - 1 = x by omega] at hp
      exact absurd c hp
  · rw [if_neg c]
    rcases pat_i s x a with ⟨p1, p2, p3⟩ | ⟨p1, -⟩
    · have n35 := SI_35 h c
      have nU : q.2.2.2.2.2.2 (pat s x a) = -1 := by
        rcases h3 (pat s x a) with z | ⟨z, -⟩
        · exact z
        · have := (h2 _ p1).mp z
          omega
      -- adding a pin to the last of q'
      have add : ∀ q' : BS, 1 ≤ q'.1 → q'.1 ≤ cnt (fun v => 0 ≤ q.2.2.2.2.2.2 v) 36 + 1 → q'.2.2.2.2.2.2 = q.2.2.2.2.2.2 → (∀ v, q.2.2.2.2.2.2 v = -1 ∨ (0 ≤ q.2.2.2.2.2.2 v ∧ q.2.2.2.2.2.2 v < q'.1 ∧ Pin s v ∧ q'.2.2.1 (q.2.2.2.2.2.2 v) = hq s v)) → q'.2.2.1 (q'.1 - 1) = hq s (pat s x a) → SI s a (x + 1) (badd s (pat s x a) q') := by
        intro q' k1 k2 k3 k4 k5
        have eu : (badd s (pat s x a) q').2.2.2.2.2.2 = up q.2.2.2.2.2.2 (pat s x a) (q'.1 - 1) := by
          show up q'.2.2.2.2.2.2 _ _ = _
          rw [k3]
        have en : (badd s (pat s x a) q').1 = q'.1 := rfl
        have eh : (badd s (pat s x a) q').2.2.1 = q'.2.2.1 := rfl
        unfold SI
        rw [eu, en, eh]
        refine ⟨⟨by omega, ?_⟩, fun v hv => ?_, fun v => ?_, fun _ => ?_⟩
        · have c1 := cnt_add (P := fun v => 0 ≤ q.2.2.2.2.2.2 v) (Q := fun v => 0 ≤ up q.2.2.2.2.2.2 (pat s x a) (q'.1 - 1) v) (v0 := pat s x a) (by show ¬ (0 ≤ q.2.2.2.2.2.2 (pat s x a)); omega) (by show 0 ≤ up q.2.2.2.2.2.2 (pat s x a) (q'.1 - 1) (pat s x a); rw [up_e rfl]; omega) (fun v hv => by
            show _ ↔ 0 ≤ up q.2.2.2.2.2.2 (pat s x a) (q'.1 - 1) v
            rw [up_n hv]) 36 p1.1.1 (by have := p1.1.2; omega)
          rw [c1]
          exact k2
        · by_cases e : v = pat s x a
          · rw [up_e e, e]
            exact ⟨fun _ => by omega, fun _ => by omega⟩
          · rw [up_n e, h2 v hv]
            constructor
            · intro z
              omega
            · intro z
              by_cases e2 : bq s v = a ∧ tr s v = x
              · exact absurd (pat_e hV hv e2.2 e2.1).symm e
              · omega
        · by_cases e : v = pat s x a
          · rw [up_e e, e]
            exact Or.inr ⟨by omega, by omega, p1, k5⟩
          · rw [up_n e]
            exact k4 v
        · rw [show x + 1 - 1 = x by omega, up_e rfl]
      by_cases j : pat s (x - 1) a ≠ -1 ∧ hq s (pat s (x - 1) a) = hq s (pat s x a)
      · rw [if_pos j]
        have e4 := h4 j.1
        have e5 := h3 (pat s (x - 1) a)
        have pp : Pin s (pat s (x - 1) a) := by
          rcases pat_i s (x - 1) a with ⟨z, -⟩ | ⟨z, -⟩
          · exact z
          · exact absurd z j.1
        have zz : 0 ≤ q.2.2.2.2.2.2 (pat s (x - 1) a) := by
          rcases pat_i s (x - 1) a with ⟨z1, z2, z3⟩ | ⟨z, -⟩
          · exact (h2 _ z1).mpr (Or.inr ⟨z3, by omega⟩)
          · exact absurd z j.1
        refine add q (by omega) (by omega) rfl h3 ?_
        rcases e5 with z | ⟨z1, z2, z3, z4⟩
        · omega
        · rw [e4] at z4
          rw [z4, j.2]
      · rw [if_neg j]
        refine add (bnew s a x (pat s x a) q) ?_ ?_ rfl (fun v => ?_) ?_
        · show 1 ≤ q.1 + 1
          omega
        · show q.1 + 1 ≤ _
          omega
        · rcases h3 v with z | ⟨z1, z2, z3, z4⟩
          · exact Or.inl z
          · refine Or.inr ⟨z1, ?_, z3, ?_⟩
            · show _ < q.1 + 1
              omega
            · show up q.2.2.1 q.1 _ _ = _
              rw [up_n (by omega)]
              exact z4
        · show up q.2.2.1 q.1 _ (q.1 + 1 - 1) = _
          rw [up_e (by omega)]
    · exact absurd p1 c
theorem SI_X {s : Int → Int} {W : Int} (hV : VV W s) {a : Int} (hA : SI s a 0 (bA s a)) : ∀ n : Nat, SI s a n (bX s a n)
  | 0 => hA
  | n + 1 => by
    have := SI_step hV (SI_X hV hA n)
    rw [← bX_s (by omega)] at this
    exact this
theorem SI_A {s : Int → Int} {W : Int} (hV : VV W s) : ∀ n : Nat, SI s n 0 (bA s n)
  | 0 => SI_0 hV
  | n + 1 => by
    have h := SI_X hV (SI_A hV n) (s 2 * s 1).toNat
    have hm := Int.mul_nonneg (show 0 ≤ s 2 by have := hV.1.2.2.1; omega) (show 0 ≤ s 1 by have := hV.1.2.1; omega)
    rw [show (((s 2 * s 1).toNat : Nat) : Int) = s 2 * s 1 by omega] at h
    have := SI_row hV h
    rw [← bA_s (by omega)] at this
    exact this
theorem SI_all {s : Int → Int} {W : Int} (hV : VV W s) {a x : Int} (ha : 0 ≤ a) (hx : 0 ≤ x) : SI s a x (bX s a x) := by
  have h1 := SI_A hV a.toNat
  rw [show ((a.toNat : Nat) : Int) = a by omega] at h1
  have h2 := SI_X hV h1 x.toNat
  rw [show ((x.toNat : Nat) : Int) = x by omega] at h2
  exact h2
/-- of all bridges -/
theorem SI_br {s : Int → Int} {W : Int} (hV : VV W s) : (0 ≤ (br s).1 ∧ (br s).1 ≤ 36) ∧ ∀ v, Pin s v → 0 ≤ (br s).2.2.2.2.2.2 v ∧ (br s).2.2.2.2.2.2 v < (br s).1 := by
  have h1 := SI_A hV (s 0).toNat
  have hR := hV.1.1
  rw [show (((s 0).toNat : Nat) : Int) = s 0 by omega] at h1
  refine ⟨⟨h1.1.1, SI_36 h1⟩, fun v hv => ?_⟩
  have hb := Pin_b hV hv
  have z : 0 ≤ (bA s (s 0)).2.2.2.2.2.2 v := (h1.2.1 v hv).mpr (by omega)
  rcases h1.2.2.1 v with y | ⟨y1, y2, -⟩
  · omega
  · exact ⟨y1, y2⟩
