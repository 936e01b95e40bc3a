-- BITS (the first eight rows are turned from the kit's laws/BITS.to-paste), ANGLES HELD
def kb_bt (x : Int32) (i : Nat) : Bool := x.toBitVec.getLsbD i
theorem kb_b_ext {x y : Int32} (h : ∀ i, i < 32 → kb_bt x i = kb_bt y i) : x = y := Int32.toBitVec_inj.mp (BitVec.eq_of_getLsbD_eq (fun i hi => h i hi))
theorem kb_b_or (x y : Int32) (i : Nat) : kb_bt (x ||| y) i = (kb_bt x i || kb_bt y i) := by unfold kb_bt; rw [Int32.toBitVec_or, BitVec.getLsbD_or]
theorem kb_b_and (x y : Int32) (i : Nat) : kb_bt (x &&& y) i = (kb_bt x i && kb_bt y i) := by unfold kb_bt; rw [Int32.toBitVec_and, BitVec.getLsbD_and]
theorem kb_b_0 (i : Nat) : kb_bt 0 i = false := BitVec.getLsbD_zero
theorem kb_s_l : ∀ n, n < 32 → ((nI n &&& 31).toBitVec.smod 32).toNat = n := by decide +kernel
theorem kb_b_shl (n : Nat) (hn : n < 32) (x : Int32) {i : Nat} (hi : i < 32) : kb_bt (x <<< (nI n &&& 31)) i = (decide (n ≤ i) && kb_bt x (i - n)) := by
  unfold kb_bt
  rw [Int32.toBitVec_shiftLeft]
  show (x.toBitVec <<< ((nI n &&& 31).toBitVec.smod 32).toNat).getLsbD i = _
  rw [kb_s_l n hn, BitVec.getLsbD_shiftLeft]
  rcases Nat.lt_or_ge i n with h | h
  · simp [h, Nat.not_le.mpr h]
  · simp [hi, h, Nat.not_lt.mpr h]
theorem kb_b_sshr (n : Nat) (hn : n < 32) (x : Int32) {i : Nat} (hi : i < 32) : kb_bt (x >>> (nI n &&& 31)) i = if n + i < 32 then kb_bt x (n + i) else kb_bt x 31 := by
  unfold kb_bt
  rw [Int32.toBitVec_shiftRight]
  show (x.toBitVec.sshiftRight ((nI n &&& 31).toBitVec.smod 32).toNat).getLsbD i = _
  rw [kb_s_l n hn, BitVec.getLsbD_sshiftRight, BitVec.msb_eq_getLsbD_last]
  simp [hi]
def bit (v k : Int) : Bool := kb_bt (Int32.ofInt v) k.toNat
theorem ofi (n : Nat) : Int32.ofInt (n : Int) = nI n := by
  unfold nI
  first | rfl | exact Int32.ofInt_eq_ofNat | simp
theorem oti (x : Int32) : Int32.ofInt x.toInt = x := by
  first | exact Int32.ofInt_toInt x | simp
theorem bit_0 (k : Int) : bit 0 k = false := kb_b_0 k.toNat
theorem bit_or (v w k : Int) : bit (ob_or v w) k = (bit v k || bit w k) := by
  unfold bit ob_or
  rw [oti, kb_b_or]
theorem bt_1 : ∀ i, i < 32 → kb_bt 1 i = decide (i = 0) := by decide +kernel
theorem bit_shl {j k : Int} (hj : 0 ≤ j ∧ j < 31) (hk : 0 ≤ k ∧ k < 31) : bit (ob_shl 1 j) k = decide (j = k) := by
  unfold bit ob_shl
  rw [oti, show j = ((j.toNat : Nat) : Int) by omega, ofi]
  have h1 : (Int32.ofInt 1 : Int32) = 1 := rfl
  rw [h1, kb_b_shl j.toNat (by omega) 1 (by omega)]
  by_cases c : j.toNat ≤ k.toNat
  · rw [decide_eq_true c, Bool.true_and, bt_1 _ (by omega)]
    by_cases e : j = k
    · rw [decide_eq_true (by omega), decide_eq_true (by omega)]
    · rw [decide_eq_false (by omega), decide_eq_false (by omega)]
  · rw [decide_eq_false c, Bool.false_and, decide_eq_false (by omega)]
theorem bit_test {v k : Int} (hk : 0 ≤ k ∧ k < 31) : (ob_and (ob_shr v k) 1 = 0) ↔ bit v k = false := by
  unfold bit ob_and ob_shr
  rw [oti]
  have h1 : (Int32.ofInt 1 : Int32) = 1 := rfl
  rw [h1]
  have hofi : Int32.ofInt k = nI k.toNat := by
    rw [← ofi, show ((k.toNat : Nat) : Int) = k by omega]
  rw [hofi]
  generalize hz : Int32.ofInt v >>> (nI k.toNat &&& 31) = z
  have hb : kb_bt z 0 = kb_bt (Int32.ofInt v) k.toNat := by
    rw [← hz, kb_b_sshr k.toNat (by omega) _ (by omega), if_pos (by omega), Nat.add_zero]
  rw [← hb]
  have h0 : (z &&& 1).toInt = 0 ↔ z &&& 1 = 0 := by
    constructor
    · intro h
      have := oti (z &&& 1)
      rw [h] at this
      exact this.symm
    · intro h
      rw [h]
      rfl
  rw [h0]
  constructor
  · intro h
    have q := kb_b_and z 1 0
    rw [h, kb_b_0, bt_1 0 (by omega)] at q
    simpa using q.symm
  · intro h
    refine kb_b_ext (fun i hi => ?_)
    rw [kb_b_and, kb_b_0, bt_1 i hi]
    by_cases c : i = 0
    · rw [c, h]
      rfl
    · rw [decide_eq_false c, Bool.and_false]
theorem bit_ne {v k : Int} (h : bit v k = true) : v ≠ 0 := fun z => by
  rw [z, bit_0] at h
  cases h
/-- a pin holds the angle k -/
theorem dist_next {R b k y : Int} (hb : 0 ≤ b ∧ b < R) (hk : 0 ≤ k ∧ k < R) (hy : 0 ≤ y ∧ y < R) : (dist R b k < y + 1) ↔ (dist R b k < y ∨ rnd R (b + y) = k) := by
  unfold dist rnd
  by_cases c1 : b ≤ k <;> by_cases c2 : R ≤ b + y <;> simp (disch := first | omega | assumption) only [↓if_pos, ↓if_neg, Option.bind_some, ob_wr_id] <;> omega
theorem cl_held {W : Int} {m : ob_Mem} {j t i : Int} {s : Int → Int} (hV : VV W s) (h : Rep m j s) (ht : 0 ≤ t ∧ t < 3) (hi : 0 ≤ i ∧ i < cn s t) : wp (ob_E (68, 0, [(8, 3 * j + t), (1, i), (1, s 0), (0, 0), (0, 0)], [], (m, none))) (fun v m' => m' = m ∧ ∀ k, 0 ≤ k → k < s 0 → (bit v k = true ↔ dist (s 0) (bq s (12 * t + i)) k < hq s (12 * t + i))) := by
  have hR := hV.1.1
  have cb := cn_b hV ht
  obtain ⟨hp, hc, hi2, ht2⟩ := Pin_c hV ht hi
  obtain ⟨e1, e2, -, -, -⟩ := rd_b (s := s) (t := t) (i := i) (by omega)
  have pb := Pin_b hV hp
  have hQ := rpQ h ht hc
  have eb : m 32 (3 * j + t) i = bq s (12 * t + i) := (rqb hQ i hi.1 hi2).trans e1.symm
  have eh : m 33 (3 * j + t) i = hq s (12 * t + i) := (rqh hQ i hi.1 hi2).trans e2.symm
  rw [sg_X5_held_0]
  refine wp_for (fun y (x : Int) => ob_E (68, 5, [(8, 3 * j + t), (1, i), (1, s 0), (1, x), (1, y)], [], (m, none))) 0 (hq s (12 * t + i)) (fun y x => ∀ k, 0 ≤ k → k < s 0 → (bit x k = true ↔ dist (s 0) (bq s (12 * t + i)) k < y)) ?_ ?_ (by omega) (x := 0) (fun k a b => ?_)
  · intro y x h1 h2 hI hk
    have rb := rnd_b (R := s 0) (a := bq s (12 * t + i) + y) (by omega) (by omega)
    rw [sg_X5_held_5]
    simp (disch := first | omega | assumption) only [↓if_pos, ↓if_neg, Option.bind_some, ob_wr_id, eb, eh, cl_round, sg_X5_held_31]
    refine hk _ (fun k a b => ?_)
    rw [bit_or, bit_shl (by omega) (by omega), dist_next (by omega) ⟨a, b⟩ (by omega), ← hI k a b]
    simp
  · intro x hI
    rw [sg_X5_held_5]
    simp (disch := first | omega | assumption) only [↓if_pos, ↓if_neg, Option.bind_some, ob_wr_id, eh]
    exact wp_ret ⟨rfl, hI⟩
  · have d := dist_b (R := s 0) (a := bq s (12 * t + i)) (b := k) (by omega) ⟨a, b⟩
    rw [bit_0]
    exact ⟨fun z => (by cases z), fun z => by omega⟩
/-- some pin of P below c holds the angle k -/
def Hd (s : Int → Int) (P : Int → Prop) (c k : Int) : Prop := ∃ v, Pin s v ∧ v < c ∧ P v ∧ dist (s 0) (bq s v) k < hq s v
/-- these bits are what is held by pins of P below c -/
def HB (s : Int → Int) (P : Int → Prop) (c x : Int) : Prop := (∀ k, 0 ≤ k → k < s 0 → (bit x k = true ↔ Hd s P c k)) ∧ ((∀ v, Pin s v → v < c → ¬ P v) → x = 0)
theorem HB_n {s : Int → Int} {P : Int → Prop} {c c' x : Int} (hc : c ≤ c') (h : HB s P c x) (hn : ∀ v, Pin s v → v < c' → P v → v < c) : HB s P c' x := by
  refine ⟨fun k a b => (h.1 k a b).trans ⟨fun ⟨v, v1, v2, v3, v4⟩ => ⟨v, v1, by omega, v3, v4⟩, fun ⟨v, v1, v2, v3, v4⟩ => ⟨v, v1, hn v v1 v2 v3, v3, v4⟩⟩, fun z => h.2 (fun v v1 v2 v3 => z v v1 (by omega) v3)⟩
theorem HB_a {s : Int → Int} {P : Int → Prop} {c x y : Int} (h : HB s P c x) (hp : Pin s c) (hP : P c) (hy : ∀ k, 0 ≤ k → k < s 0 → (bit y k = true ↔ dist (s 0) (bq s c) k < hq s c)) : HB s P (c + 1) (ob_or x y) := by
  refine ⟨fun k a b => ?_, fun z => absurd hP (z c hp (by omega))⟩
  rw [bit_or, Bool.or_eq_true, h.1 k a b, hy k a b]
  constructor
  · rintro (⟨v, v1, v2, v3, v4⟩ | z)
    · exact ⟨v, v1, by omega, v3, v4⟩
    · exact ⟨c, hp, by omega, hP, z⟩
  · rintro ⟨v, v1, v2, v3, v4⟩
    by_cases e : v = c
    · rw [e] at v4
      exact Or.inr v4
    · exact Or.inl ⟨v, v1, by omega, v3, v4⟩
theorem HB_0 {s : Int → Int} {P : Int → Prop} : HB s P 0 0 := ⟨fun k a b => by
  rw [bit_0]
  exact ⟨fun z => (by cases z), fun ⟨v, v1, v2, _⟩ => by have := v1.1.1; omega⟩, fun _ => rfl⟩
theorem HB_z {W : Int} {s : Int → Int} {P : Int → Prop} {c x : Int} (hV : VV W s) (h : HB s P c x) : x = 0 ↔ ∀ v, Pin s v → v < c → ¬ P v := by
  refine ⟨fun z v v1 v2 v3 => ?_, h.2⟩
  have pb := Pin_b hV v1
  have : bit x (bq s v) = true := (h.1 _ pb.2.1.1 pb.2.1.2).mpr ⟨v, v1, v2, v3, by
    unfold dist
    rw [if_pos (Int.le_refl _)]
    omega⟩
  exact bit_ne this z
theorem cl_heldOn {W : Int} {m : ob_Mem} {j x : Int} {s : Int → Int} (hV : VV W s) (h : Rep m j s) : wp (ob_E (21, 0, [(3, j), (1, x), (0, 0), (0, 0), (0, 0)], [], (m, none))) (fun v m' => m' = m ∧ HB s (fun w => tr s w = x) 36 v) := by
  obtain ⟨⟨v1, v2, v3, -⟩, v8⟩ := id hV
  have eT := rpT h
  have eR := rpR h
  rw [sg_X0_heldOn_0]
  refine wp_for (fun t (y : Int × ob_AV) => ob_E (21, 4, [(3, j), (1, x), (1, y.1), (1, t), y.2], [], (m, none))) 0 (s 2) (fun t y => HB s (fun w => tr s w = x) (12 * t) y.1) ?_ ?_ (by omega) (x := (0, (0, 0))) HB_0
  · intro t ⟨y, y2⟩ h1 h2 hI hk
    have hI : HB s (fun w => tr s w = x) (12 * t) y := hI
    have ht : 0 ≤ t ∧ t < 3 := by omega
    have cb := cn_b hV ht
    show wp (ob_E (21, 4, [(3, j), (1, x), (1, y), (1, t), y2], [], (m, none))) _
    rw [sg_X0_heldOn_4, eT, if_pos h2]
    refine wp_for (fun i (y : Int) => ob_E (21, 15, [(3, j), (1, x), (1, y), (1, t), (1, i)], [], (m, none))) 0 (cn s t) (fun i y => HB s (fun w => tr s w = x) (12 * t + i) y) ?_ ?_ cb.1 (x := y) (by rw [Int.add_zero]; exact hI)
    · intro i z g1 g2 hJ hk2
      obtain ⟨hp, hc, hi2, ht2⟩ := Pin_c hV ht ⟨g1, g2⟩
      obtain ⟨e1, e2, -, e4, e5⟩ := rd_b (s := s) (t := t) (i := i) (by omega)
      have pb := Pin_b hV hp
      rw [e4] at pb
      have hQ := rpQ h ht hc
      have ek : m 26 (2 * (3 * j + t) + 1) i = s (12 + 116 * t + (44 + 4 * i + 0)) := rqk hQ i g1 hi2
      rw [sg_X0_heldOn_15, if_pos ht, cl_howMany hV h ht]
      simp (disch := first | omega | assumption) only [↓if_pos, ↓if_neg, Option.bind_some, ob_wr_id, sg_X0_heldOn_26, ek, cl_track, eT]
      rw [← e5]
      by_cases c : tr s (12 * t + i) = x
      · rw [sg_X0_heldOn_49, if_pos c, if_pos ht, eR]
        refine wp_b (cl_held hV h ht ⟨g1, g2⟩) (fun v m1 hv => ?_)
        obtain ⟨rfl, hv⟩ := hv
        simp (disch := first | omega | assumption) only [↓if_pos, ↓if_neg, Option.bind_some, ob_wr_id, sg_X0_heldOn_69, sg_X0_heldOn_71]
        have := HB_a hJ hp c hv
        rw [Int.add_assoc] at this
        exact hk2 _ this
      · rw [sg_X0_heldOn_49, if_neg c]
        simp (disch := first | omega | assumption) only [↓if_pos, ↓if_neg, Option.bind_some, ob_wr_id, sg_X0_heldOn_71]
        refine hk2 _ (HB_n (by omega) hJ (fun v v1 v2 v3 => ?_))
        by_cases e : v = 12 * t + i
        · rw [e] at v3
          exact absurd v3 c
        · omega
    · intro z hJ
      rw [sg_X0_heldOn_15, if_pos ht, cl_howMany hV h ht]
      simp (disch := first | omega | assumption) only [↓if_pos, ↓if_neg, Option.bind_some, ob_wr_id, sg_X0_heldOn_26]
      refine hk (_, _) (HB_n (by omega) hJ (fun v v1 v2 v3 => ?_))
      have := c_Pin v1
      by_cases e : v / 12 = t
      · rw [e] at this
        omega
      · omega
  · intro ⟨y, y2⟩ hI
    have hI : HB s (fun w => tr s w = x) (12 * s 2) y := hI
    show wp (ob_E (21, 4, [(3, j), (1, x), (1, y), (1, s 2), y2], [], (m, none))) _
    rw [sg_X0_heldOn_4, eT, if_neg (by omega)]
    exact wp_ret ⟨rfl, HB_n (by omega) hI (fun v v1 v2 v3 => by have := v1.2.1; have := v1.1; omega)⟩
theorem cl_heldOnAny {W : Int} {m : ob_Mem} {j : Int} {s : Int → Int} (hV : VV W s) (h : Rep m j s) : wp (ob_E (22, 0, [(3, j), (0, 0), (0, 0), (0, 0)], [], (m, none))) (fun v m' => m' = m ∧ HB s (fun _ => True) 36 v) := by
  obtain ⟨⟨v1, v2, v3, -⟩, v8⟩ := id hV
  have eT := rpT h
  have eR := rpR h
  rw [sg_X0_heldOnAny_0]
  refine wp_for (fun t (y : Int × ob_AV) => ob_E (22, 4, [(3, j), (1, y.1), (1, t), y.2], [], (m, none))) 0 (s 2) (fun t y => HB s (fun _ => True) (12 * t) y.1) ?_ ?_ (by omega) (x := (0, (0, 0))) HB_0
  · intro t ⟨y, y2⟩ h1 h2 hI hk
    have hI : HB s (fun _ => True) (12 * t) y := hI
    have ht : 0 ≤ t ∧ t < 3 := by omega
    have cb := cn_b hV ht
    show wp (ob_E (22, 4, [(3, j), (1, y), (1, t), y2], [], (m, none))) _
    rw [sg_X0_heldOnAny_4, eT, if_pos h2]
    refine wp_for (fun i (y : Int) => ob_E (22, 14, [(3, j), (1, y), (1, t), (1, i)], [], (m, none))) 0 (cn s t) (fun i y => HB s (fun _ => True) (12 * t + i) y) ?_ ?_ cb.1 (x := y) (by rw [Int.add_zero]; exact hI)
    · intro i z g1 g2 hJ hk2
      obtain ⟨hp, hc, hi2, ht2⟩ := Pin_c hV ht ⟨g1, g2⟩
      rw [sg_X0_heldOnAny_14, if_pos ht, cl_howMany hV h ht]
      simp (disch := first | omega | assumption) only [↓if_pos, ↓if_neg, Option.bind_some, ob_wr_id, sg_X0_heldOnAny_24]
      rw [eR]
      refine wp_b (cl_held hV h ht ⟨g1, g2⟩) (fun v m1 hv => ?_)
      obtain ⟨rfl, hv⟩ := hv
      simp (disch := first | omega | assumption) only [↓if_pos, ↓if_neg, Option.bind_some, ob_wr_id, sg_X0_heldOnAny_42]
      have := HB_a hJ hp trivial hv
      rw [Int.add_assoc] at this
      exact hk2 _ this
    · intro z hJ
      rw [sg_X0_heldOnAny_14, if_pos ht, cl_howMany hV h ht]
      simp (disch := first | omega | assumption) only [↓if_pos, ↓if_neg, Option.bind_some, ob_wr_id, sg_X0_heldOnAny_24]
      refine hk (_, _) (HB_n (by omega) hJ (fun v v1 v2 v3 => ?_))
      have := c_Pin v1
      by_cases e : v / 12 = t
      · rw [e] at this
        omega
      · omega
  · intro ⟨y, y2⟩ hI
    have hI : HB s (fun _ => True) (12 * s 2) y := hI
    show wp (ob_E (22, 4, [(3, j), (1, y), (1, s 2), y2], [], (m, none))) _
    rw [sg_X0_heldOnAny_4, eT, if_neg (by omega)]
    exact wp_ret ⟨rfl, HB_n (by omega) hI (fun v v1 v2 v3 => by have := v1.2.1; have := v1.1; omega)⟩
noncomputable def lgN (R : Int) (H : Int → Prop) (i : Int) (r : Int) : Int := @ite _ (H (rnd R i)) (Classical.propDecidable _) 0 (r + 1)
noncomputable def lgS (R : Int) (H : Int → Prop) (n : Nat) : Int × Int := fo (fun i q => (lgN R H i q.1, max q.2 (lgN R H i q.1))) (0, 0) n
noncomputable def lgV (R : Int) (H : Int → Prop) : Int := min (lgS R H (2 * R).toNat).2 R
theorem lgS_b {R : Int} {H : Int → Prop} : ∀ n : Nat, (0 ≤ (lgS R H n).1 ∧ (lgS R H n).1 ≤ n) ∧ (0 ≤ (lgS R H n).2 ∧ (lgS R H n).2 ≤ n)
  | 0 => ⟨⟨Int.le_refl _, Int.le_refl _⟩, ⟨Int.le_refl _, Int.le_refl _⟩⟩
  | n + 1 => by
    obtain ⟨h1, h2⟩ := lgS_b (R := R) (H := H) n
    have e1 : (lgS R H (n + 1)).1 = lgN R H n (lgS R H n).1 := rfl
    have e2 : (lgS R H (n + 1)).2 = max (lgS R H n).2 (lgN R H n (lgS R H n).1) := rfl
    rw [e1, e2]
    have : 0 ≤ lgN R H n (lgS R H n).1 ∧ lgN R H n (lgS R H n).1 ≤ n + 1 := by
      unfold lgN
      split <;> omega
    omega
theorem lgS_s {R i : Int} {H : Int → Prop} (h : 0 ≤ i) : lgS R H (i + 1).toNat = (lgN R H i (lgS R H i.toNat).1, max (lgS R H i.toNat).2 (lgN R H i (lgS R H i.toNat).1)) := fo_s h
theorem cl_longest {m : ob_Mem} {v R : Int} {H : Int → Prop} (hR : 6 ≤ R ∧ R ≤ 24) (hv : ∀ k, 0 ≤ k → k < R → (bit v k = true ↔ H k)) : ob_E (132, 0, [(1, v), (1, R), (0, 0), (0, 0), (0, 0)], [], (m, none)) = some (lgV R H, (m, none)) := by
  rw [sg_X7_longestFree_0]
  refine wp_eq (wp_for (α := Unit) (fun i _ => ob_E (132, 7, [(1, v), (1, R), (1, (lgS R H i.toNat).1), (1, (lgS R H i.toNat).2), (1, i)], [], (m, none))) 0 (2 * R) (fun _ _ => True) ?_ ?_ (by omega) (x := ()) trivial)
  · intro i _ h1 h2 _ hk
    have hk := hk () trivial
    rw [lgS_s h1] at hk
    have b := lgS_b (R := R) (H := H) i.toNat
    have rb := rnd_b (R := R) (a := i) h1 (by omega)
    have ht := bit_test (v := v) (k := rnd R i) (by omega)
    have hh := hv _ rb.1 rb.2
    rw [sg_X7_longestFree_7]
    simp (disch := first | omega | assumption) only [↓if_pos, ↓if_neg, Option.bind_some, ob_wr_id, cl_round, sg_X7_longestFree_22]
    unfold lgN at hk
    by_cases c : H (rnd R i)
    · rw [if_pos c] at hk
      have c2 := hh.mpr c
      rw [if_neg (fun z => by rw [ht.mp z] at c2; cases c2)]
      simp (disch := first | omega | assumption) only [↓if_pos, ↓if_neg, Option.bind_some, ob_wr_id, sg_X7_longestFree_35]
      exact hk
    · rw [if_neg c] at hk
      have c2 : bit v (rnd R i) = false := Bool.eq_false_iff.mpr (fun z => c (hh.mp z))
      rw [if_pos (ht.mpr c2)]
      simp (disch := first | omega | assumption) only [↓if_pos, ↓if_neg, Option.bind_some, ob_wr_id, sg_X7_longestFree_35]
      exact hk
  · intro _ _
    rw [sg_X7_longestFree_7]
    simp (disch := first | omega | assumption) only [↓if_pos, ↓if_neg, Option.bind_some, ob_wr_id]
    exact wp_ret ⟨rfl, rfl⟩
