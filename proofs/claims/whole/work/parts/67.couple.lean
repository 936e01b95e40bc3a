-- THE COUPLING of class and model; calls of the class that change
/-- the barrels' numbers: now, spare, kept -/
def bi (m : ob_Mem) (x : Int) : Int := if x = 0 then m 7 0 0 else if x = 1 then m 7 0 1 else m 39 0 (x - 2)
def bij (m : ob_Mem) : Prop := (∀ x, 0 ≤ x → x < 7 → 0 ≤ bi m x ∧ bi m x < 7) ∧ ∀ x y, 0 ≤ x → x < 7 → 0 ≤ y → y < 7 → x ≠ y → bi m x ≠ bi m y
/-- the class holds the row s, and n rows P of states -/
def CH (W : Int) (m : ob_Mem) (s : Int → Int) (n : Int) (P : Int → Int → Int) : Prop := ((0 ≤ n ∧ n ≤ 5) ∧ m 7 0 3 = n) ∧ bij m ∧ (VV W s ∧ Rep m (m 7 0 0) s) ∧ ∀ i, 0 ≤ i → i < n → VV W (P i) ∧ Rep m (m 39 0 i) (P i)
/-- so does it in the midst of a call: the spare barrel holds what was -/
def PC (W : Int) (m : ob_Mem) (s s' : Int → Int) (n : Int) (P : Int → Int → Int) : Prop := CH W m s' n P ∧ VV W s ∧ Rep m (m 7 0 1) s
theorem bi0 {m : ob_Mem} : bi m 0 = m 7 0 0 := rfl
theorem bi1 {m : ob_Mem} : bi m 1 = m 7 0 1 := rfl
theorem bi2 {m : ob_Mem} {i : Int} (h : 0 ≤ i) : bi m (2 + i) = m 39 0 i := by
  unfold bi
  rw [if_neg (by omega), if_neg (by omega), show 2 + i - 2 = i by omega]
theorem gB_ne {a b : Int} (h : a ≠ b) {k : Nat} {i : Int} (ha : gB a k i) : ¬ gB b k i := by
  intro hb
  rcases ha with ⟨q1, q2⟩ | ⟨q1, q2⟩ | ⟨q1, q2⟩ <;> rcases hb with ⟨z1, z2⟩ | ⟨z1, z2⟩ | ⟨z1, z2⟩ <;> omega
theorem gB_gA {j : Int} (hj : 0 ≤ j ∧ j < 7) {k : Nat} {i : Int} (h : gB j k i) : ¬ gA k i := by
  intro z
  rcases h with ⟨q1, q2⟩ | ⟨q1, q2⟩ | ⟨q1, q2⟩ <;> rcases z with (⟨z1, z2⟩ | ⟨z1, z2⟩ | z1) | z1 <;> omega
theorem bij_c {m m' : ob_Mem} (h : bij m) (h7 : m' 7 0 0 = m 7 0 0) (h8 : m' 7 0 1 = m 7 0 1) (h9 : ∀ i, m' 39 0 i = m 39 0 i) : bij m' := by
  have e : ∀ x, bi m' x = bi m x := fun x => by
    unfold bi
    rw [h7, h8, h9]
  exact ⟨fun x a b => by rw [e]; exact h.1 x a b, fun x y a b c d f => by rw [e, e]; exact h.2 x y a b c d f⟩
/-- one barrel is changed, and what belongs to none -/
theorem CH_sm {W : Int} {m m' : ob_Mem} {s s' : Int → Int} {n : Int} {P : Int → Int → Int} (h : CH W m s n P) (hs : sm (fun k i => gA k i ∨ gB (m 7 0 0) k i) m m') (hV : VV W s') (hR : Rep m' (m 7 0 0) s') : CH W m' s' n P := by
  obtain ⟨⟨h0, h1⟩, h2, h3, h4⟩ := h
  have e7 : ∀ k i x, k = 7 ∨ k = 39 → m' k i x = m k i x := fun k i x hk => hs k i x (fun z => by
    rcases z with ((⟨z1, z2⟩ | ⟨z1, z2⟩ | z1) | z1) | ⟨z1, z2⟩ | ⟨z1, z2⟩ | ⟨z1, z2⟩ <;> omega)
  refine ⟨⟨h0, by rw [e7 7 0 3 (by omega), h1]⟩, bij_c h2 (e7 7 _ _ (by omega)) (e7 7 _ _ (by omega)) (fun i => e7 39 _ _ (by omega)), ⟨hV, by rw [e7 7 _ _ (by omega)]; exact hR⟩, fun i a b => ?_⟩
  obtain ⟨g1, g2⟩ := h4 i a b
  refine ⟨g1, ?_⟩
  rw [e7 39 _ _ (by omega)]
  have b1 := h2.1 (2 + i) (by omega) (by omega)
  have b2 := h2.2 (2 + i) 0 (by omega) (by omega) (by omega) (by omega) (by omega)
  rw [bi2 a] at b1 b2
  exact Rep_sm g1 g2 (fun k ii p q => hs k ii p (fun z => by
    rcases z with z | z
    · exact gB_gA b1 q z
    · exact gB_ne b2 q z))
theorem PC_sm {W : Int} {m m' : ob_Mem} {s s' s'' : Int → Int} {n : Int} {P : Int → Int → Int} (h : PC W m s s' n P) (hs : sm (fun k i => gA k i ∨ gB (m 7 0 0) k i) m m') (hV : VV W s'') (hR : Rep m' (m 7 0 0) s'') : PC W m' s s'' n P := by
  obtain ⟨h1, h2, h3⟩ := h
  refine ⟨CH_sm h1 hs hV hR, h2, ?_⟩
  have e7 : ∀ k i x, k = 7 ∨ k = 39 → m' k i x = m k i x := fun k i x hk => hs k i x (fun z => by
    rcases z with ((⟨z1, z2⟩ | ⟨z1, z2⟩ | z1) | z1) | ⟨z1, z2⟩ | ⟨z1, z2⟩ | ⟨z1, z2⟩ <;> omega)
  rw [e7 7 _ _ (by omega)]
  have b1 := h1.2.1.1 1 (by omega) (by omega)
  have b2 := h1.2.1.2 1 0 (by omega) (by omega) (by omega) (by omega) (by omega)
  exact Rep_sm h2 h3 (fun k ii p q => hs k ii p (fun z => by
    rcases z with z | z
    · exact gB_gA b1 q z
    · exact gB_ne b2 q z))
theorem cl_remember {W : Int} {m : ob_Mem} {s : Int → Int} {n : Int} {P : Int → Int → Int} (h : CH W m s n P) : wp (ob_E (114, 0, [(10, 0)], [], (m, none))) (fun _ m' => PC W m' s s n P ∧ m' 7 0 0 = m 7 0 0 ∧ sm (gB (m 7 0 1)) m m') := by
  obtain ⟨⟨h0, h1⟩, h2, ⟨h3, h3'⟩, h4⟩ := id h
  have b0 := h2.1 0 (by omega) (by omega)
  have b1 := h2.1 1 (by omega) (by omega)
  have b2 := h2.2 1 0 (by omega) (by omega) (by omega) (by omega) (by omega)
  rw [sg_X7_remember_0]
  refine wp_b (cl_copyB h3 h3' b2) (fun _ m1 hm => ?_)
  obtain ⟨r1, r2⟩ := hm
  rw [sg_X7_remember_11]
  have e7 : ∀ k i x, k = 7 ∨ k = 39 → m1 k i x = m k i x := fun k i x hk => r2 k i x (fun z => by
    rcases z with ⟨z1, z2⟩ | ⟨z1, z2⟩ | ⟨z1, z2⟩ <;> omega)
  refine wp_ret ⟨⟨⟨⟨h0, by rw [e7 7 0 3 (by omega), h1]⟩, bij_c h2 (e7 7 _ _ (by omega)) (e7 7 _ _ (by omega)) (fun i => e7 39 _ _ (by omega)), ⟨h3, ?_⟩, fun i a b => ?_⟩, h3, by rw [e7 7 _ _ (by omega)]; exact r1⟩, e7 7 _ _ (by omega), r2⟩
  · rw [e7 7 _ _ (by omega)]
    exact Rep_sm h3 h3' (fun k ii p q => r2 k ii p (fun z => gB_ne (Ne.symm b2) q z))
  · obtain ⟨g1, g2⟩ := h4 i a b
    refine ⟨g1, ?_⟩
    rw [e7 39 _ _ (by omega)]
    have b3 := h2.2 (2 + i) 1 (by omega) (by omega) (by omega) (by omega) (by omega)
    rw [bi2 a] at b3
    exact Rep_sm g1 g2 (fun k ii p q => r2 k ii p (fun z => gB_ne b3 q z))
/-- the states with one more -/
def psh (s : Int → Int) (n : Int) (P : Int → Int → Int) : Int → Int → Int := fun i => if i < (if n = 5 then 4 else n) then P (if n = 5 then i + 1 else i) else s
theorem cl_keepSpare {W : Int} {m : ob_Mem} {s s' : Int → Int} {n : Int} {P : Int → Int → Int} (h : PC W m s s' n P) : wp (ob_E (117, 0, [(10, 0), (0, 0), (0, 0)], [], (m, none))) (fun _ m' => CH W m' s' (if n = 5 then 5 else n + 1) (psh s n P) ∧ ∀ k i x, ¬ (k = 39 ∨ (k = 7 ∧ (x = 1 ∨ x = 3))) → m' k i x = m k i x) := by
  obtain ⟨⟨⟨h0, h1⟩, h2, ⟨h3, h3'⟩, h4⟩, h5, h6⟩ := id h
  rw [sg_X7_keepSpare_0, h1]
  by_cases c : n = 5
  · rw [if_neg (by omega), if_pos (by omega), if_pos c]
    refine wp_for (fun y (m' : ob_Mem) => ob_E (117, 56, [(10, 0), (3, m 39 0 0), (1, y)], [], (m', none))) 1 5 (fun y m' => (∀ k i x, k ≠ 39 → m' k i x = m k i x) ∧ ∀ i, m' 39 0 i = if 0 ≤ i ∧ i < y - 1 then m 39 0 (i + 1) else m 39 0 i) ?_ ?_ (by omega) ⟨fun _ _ _ _ => rfl, fun i => (if_neg (by omega)).symm⟩
    · intro y m1 g1 g2 ⟨i1, i2⟩ hk
      rw [sg_X7_keepSpare_56]
      simp (disch := first | omega | assumption) only [↓if_pos, ↓if_neg, Option.bind_some, ob_wr_id]
      refine hk _ ⟨fun k i x hk => by rw [rs_k hk, i1 k i x hk], fun i => ?_⟩
      have q2 := i2 y
      rw [if_neg (by omega)] at q2
      by_cases e : i = y - 1
      · rw [rs_e rfl e, if_pos (by omega), q2, e, show y - 1 + 1 = y by omega]
      · rw [rs_s e, i2]
        by_cases q : 0 ≤ i ∧ i < y - 1
        · rw [if_pos q, if_pos (by omega)]
        · rw [if_neg q, if_neg (by omega)]
    · intro m1 ⟨i1, i2⟩
      have e71 := i1 7 0 1 (by omega)
      rw [sg_X7_keepSpare_56]
      simp (disch := first | omega | assumption) only [↓if_pos, ↓if_neg, Option.bind_some, ob_wr_id, e71]
      generalize hM : ob_set (ob_set m1 39 0 4 (m 7 0 1)) 7 0 1 (m 39 0 0) = m2
      have f70 : m2 7 0 0 = m 7 0 0 := by
        rw [← hM]
        simp (disch := omega) only [rs_k, rs_i, rs_s, rs_e, up_e, up_n, i1]
      have f71 : m2 7 0 1 = m 39 0 0 := by
        rw [← hM]
        simp (disch := omega) only [rs_k, rs_i, rs_s, rs_e, up_e, up_n]
      have f73 : m2 7 0 3 = m 7 0 3 := by
        rw [← hM]
        simp (disch := omega) only [rs_k, rs_i, rs_s, rs_e, up_e, up_n, i1]
      have f39 : ∀ i, 0 ≤ i → i < 5 → m2 39 0 i = if i = 4 then m 7 0 1 else m 39 0 (i + 1) := fun i a b => by
        rw [← hM]
        by_cases e : i = 4
        · rw [if_pos e]
          simp (disch := omega) only [rs_k, rs_i, rs_s, rs_e, up_e, up_n]
        · rw [if_neg e]
          simp (disch := omega) only [rs_k, rs_i, rs_s, rs_e, up_e, up_n]
          rw [i2, if_pos (by omega)]
      have fk : ∀ k i x, k ≠ 39 → k ≠ 7 → m2 k i x = m k i x := fun k i x a b => by
        rw [← hM]
        simp (disch := omega) only [rs_k, rs_i, rs_s, rs_e, up_e, up_n, i1]
      have fB : ∀ x, 0 ≤ x → x < 7 → ∃ y, (0 ≤ y ∧ y < 7) ∧ bi m2 x = bi m y ∧ y = (if x = 0 then 0 else if x = 1 then 2 else if x = 6 then 1 else x + 1) := fun x a b => by
        obtain e | e | e : x = 0 ∨ x = 1 ∨ 2 ≤ x := by omega
        · subst e
          exact ⟨0, by omega, f70, rfl⟩
        · subst e
          exact ⟨2, by omega, f71, rfl⟩
        · have q : bi m2 x = m2 39 0 (x - 2) := by
            unfold bi
            rw [if_neg (by omega), if_neg (by omega)]
          rw [f39 _ (by omega) (by omega)] at q
          by_cases e6 : x = 6
          · subst e6
            rw [if_pos (by omega)] at q
            exact ⟨1, by omega, q, rfl⟩
          · rw [if_neg (by omega)] at q
            refine ⟨x + 1, by omega, ?_, ?_⟩
            · rw [q, show x + 1 = 2 + (x - 2 + 1) by omega, bi2 (by omega)]
            · rw [if_neg (by omega), if_neg (by omega), if_neg e6]
      have hb2 : bij m2 := by
        refine ⟨fun x a b => ?_, fun x y a b c' d f => ?_⟩
        · obtain ⟨z, z1, z2, -⟩ := fB x a b
          rw [z2]
          exact h2.1 z z1.1 z1.2
        · obtain ⟨z, z1, z2, z3⟩ := fB x a b
          obtain ⟨w, w1, w2, w3⟩ := fB y c' d
          rw [z2, w2]
          refine h2.2 z w z1.1 z1.2 w1.1 w1.2 ?_
          rw [z3, w3]
          split <;> split <;> (try split) <;> (try split) <;> (try split) <;> (try split) <;> omega
      have fR : ∀ j q, VV W q → Rep m j q → Rep m2 j q := fun j q a b => Rep_sm a b (fun k i p z => fk k i p (by rcases z with ⟨z1, z2⟩ | ⟨z1, z2⟩ | ⟨z1, z2⟩ <;> omega) (by rcases z with ⟨z1, z2⟩ | ⟨z1, z2⟩ | ⟨z1, z2⟩ <;> omega))
      refine wp_ret ⟨⟨⟨by omega, by omega⟩, hb2, ⟨h3, by rw [f70]; exact fR _ _ h3 h3'⟩, fun i a b => ?_⟩, fun k i x hk => ?_⟩
      · unfold psh
        rw [if_pos c, f39 i a (by omega)]
        by_cases e : i = 4
        · rw [if_neg (by omega), if_pos e]
          exact ⟨h5, fR _ _ h5 h6⟩
        · rw [if_pos (by omega), if_neg e, if_pos c]
          obtain ⟨g1, g2⟩ := h4 (i + 1) (by omega) (by omega)
          exact ⟨g1, fR _ _ g1 g2⟩
      · by_cases e7 : k = 7
        · rw [← hM, rs_s (by omega), rs_k (by omega), i1 _ _ _ (by omega)]
        · exact fk k i x (by omega) e7
  · rw [if_pos (by omega), if_pos (by omega), if_pos (by omega), if_neg c]
    simp (disch := first | omega | assumption) only [↓if_pos, ↓if_neg, Option.bind_some, ob_wr_id, rs_k, rs_i, rs_s, rs_e]
    generalize hM : ob_set (ob_set (ob_set m 39 0 n (m 7 0 1)) 7 0 1 (m 39 0 n)) 7 0 3 (m 7 0 3 + 1) = m2
    have hM' : m2 = ob_set (ob_set (ob_set m 39 0 n (m 7 0 1)) 7 0 1 (m 39 0 n)) 7 0 3 (m 7 0 3 + 1) := hM.symm
    have f70 : m2 7 0 0 = m 7 0 0 := by
      rw [← hM]
      simp (disch := omega) only [rs_k, rs_i, rs_s, rs_e, up_e, up_n]
    have f71 : m2 7 0 1 = m 39 0 n := by
      rw [← hM]
      simp (disch := omega) only [rs_k, rs_i, rs_s, rs_e, up_e, up_n]
    have f73 : m2 7 0 3 = m 7 0 3 + 1 := by
      rw [← hM]
      simp (disch := omega) only [rs_k, rs_i, rs_s, rs_e, up_e, up_n]
    have f39 : ∀ i, m2 39 0 i = if i = n then m 7 0 1 else m 39 0 i := fun i => by
      rw [← hM]
      by_cases e : i = n
      · rw [if_pos e]
        simp (disch := omega) only [rs_k, rs_i, rs_s, rs_e, up_e, up_n]
      · rw [if_neg e]
        simp (disch := omega) only [rs_k, rs_i, rs_s, rs_e, up_e, up_n]
    have fk : ∀ k i x, k ≠ 39 → k ≠ 7 → m2 k i x = m k i x := fun k i x a b => by
      rw [← hM]
      simp (disch := omega) only [rs_k, rs_i, rs_s, rs_e, up_e, up_n]
    have fB : ∀ x, 0 ≤ x → x < 7 → ∃ y, (0 ≤ y ∧ y < 7) ∧ bi m2 x = bi m y ∧ y = (if x = 1 then 2 + n else if x = 2 + n then 1 else x) := fun x a b => by
      obtain e | e | e : x = 0 ∨ x = 1 ∨ 2 ≤ x := by omega
      · subst e
        refine ⟨0, by omega, f70, ?_⟩
        rw [if_neg (by omega), if_neg (by omega)]
      · subst e
        refine ⟨2 + n, by omega, ?_, rfl⟩
        rw [bi2 h0.1]
        exact f71
      · have q : bi m2 x = m2 39 0 (x - 2) := by
          unfold bi
          rw [if_neg (by omega), if_neg (by omega)]
        rw [f39] at q
        by_cases e6 : x - 2 = n
        · rw [if_pos e6] at q
          refine ⟨1, by omega, q, ?_⟩
          rw [if_neg (by omega), if_pos (by omega)]
        · rw [if_neg e6] at q
          refine ⟨x, by omega, ?_, ?_⟩
          · rw [q, show bi m x = bi m (2 + (x - 2)) by rw [show 2 + (x - 2) = x by omega], bi2 (by omega)]
          · rw [if_neg (by omega), if_neg (by omega)]
    have hb2 : bij m2 := by
      refine ⟨fun x a b => ?_, fun x y a b c' d f => ?_⟩
      · obtain ⟨z, z1, z2, -⟩ := fB x a b
        rw [z2]
        exact h2.1 z z1.1 z1.2
      · obtain ⟨z, z1, z2, z3⟩ := fB x a b
        obtain ⟨w, w1, w2, w3⟩ := fB y c' d
        rw [z2, w2]
        refine h2.2 z w z1.1 z1.2 w1.1 w1.2 ?_
        rw [z3, w3]
        split <;> split <;> (try split) <;> (try split) <;> omega
    have fR : ∀ j q, VV W q → Rep m j q → Rep m2 j q := fun j q a b => Rep_sm a b (fun k i p z => fk k i p (by rcases z with ⟨z1, z2⟩ | ⟨z1, z2⟩ | ⟨z1, z2⟩ <;> omega) (by rcases z with ⟨z1, z2⟩ | ⟨z1, z2⟩ | ⟨z1, z2⟩ <;> omega))
    refine wp_ret ⟨⟨⟨by omega, by omega⟩, hb2, ⟨h3, by rw [f70]; exact fR _ _ h3 h3'⟩, fun i a b => ?_⟩, fun k i x hk => ?_⟩
    · unfold psh
      rw [if_neg c, f39]
      by_cases e : i = n
      · rw [if_neg (by omega), if_pos e]
        exact ⟨h5, fR _ _ h5 h6⟩
      · rw [if_pos (by omega), if_neg e, if_neg c]
        obtain ⟨g1, g2⟩ := h4 i (by omega) (by omega)
        exact ⟨g1, fR _ _ g1 g2⟩
    · by_cases e7 : k = 7
      · rw [← hM, rs_s (by omega), rs_s (by omega), rs_k (by omega)]
      · exact fk k i x (by omega) e7
