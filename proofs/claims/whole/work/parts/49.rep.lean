-- THE CLASS'S BARRELS HELD AGAINST ROWS
/-- the notes' object c tells what the row q (of a tune) tells -/
def rN (m : ob_Mem) (c : Int) (q : Int → Int) : Prop := m 3 c 0 = q 0 ∧ m 3 c 1 = q 1 ∧ m 3 c 2 = q 2 ∧ ∀ i, 0 ≤ i → i < q 2 → m 26 c i = q (3 + 3 * i) ∧ m 27 c i = q (3 + 3 * i + 1) ∧ m 28 c i = q (3 + 3 * i + 2)
/-- the pins' object p tells what the row q tells of a pinned tune -/
def rQ (m : ob_Mem) (p : Int) (q : Int → Int) : Prop := m 5 p 1 = q 42 ∧ m 3 (2 * p + 1) 0 = q 40 ∧ m 3 (2 * p + 1) 1 = q 41 ∧ m 3 (2 * p + 1) 2 = q 43 ∧ ∀ i, 0 ≤ i → i < q 43 → m 26 (2 * p + 1) i = q (44 + 4 * i + 0) ∧ m 32 p i = q (44 + 4 * i + 1) ∧ m 33 p i = q (44 + 4 * i + 2) ∧ m 34 p i = q (44 + 4 * i + 3) ∧ m 27 (2 * p + 1) i = q (92 + 2 * i) ∧ m 28 (2 * p + 1) i = q (92 + 2 * i + 1)
def rT (m : ob_Mem) (j : Int) (s : Int → Int) (t : Int) : Prop := rN m (2 * (3 * j + t)) (fun w => s (12 + 116 * t + w)) ∧ m 5 (3 * j + t) 0 = s (12 + 116 * t + 39) ∧ (s (12 + 116 * t + 39) = 1 → rQ m (3 * j + t) (fun w => s (12 + 116 * t + w)))
def Rep (m : ob_Mem) (j : Int) (s : Int → Int) : Prop := (m 0 j 0 = s 0 ∧ m 0 j 1 = s 1 ∧ m 0 j 2 = s 2 ∧ m 0 j 3 = s 3 ∧ m 0 j 4 = s 4 ∧ m 0 j 5 = s 5) ∧ (∀ k, 0 ≤ k → k < 6 → m 16 j k = s (6 + k)) ∧ ∀ t, 0 ≤ t → t < 3 → rT m j s t
theorem rpR {m : ob_Mem} {j : Int} {s : Int → Int} (h : Rep m j s) : m 0 j 0 = s 0 := h.1.1
theorem rpK {m : ob_Mem} {j : Int} {s : Int → Int} (h : Rep m j s) : m 0 j 1 = s 1 := h.1.2.1
theorem rpT {m : ob_Mem} {j : Int} {s : Int → Int} (h : Rep m j s) : m 0 j 2 = s 2 := h.1.2.2.1
theorem rpW {m : ob_Mem} {j : Int} {s : Int → Int} (h : Rep m j s) : m 0 j 3 = s 3 := h.1.2.2.2.1
theorem rpD {m : ob_Mem} {j : Int} {s : Int → Int} (h : Rep m j s) : m 0 j 4 = s 4 := h.1.2.2.2.2.1
theorem rpL {m : ob_Mem} {j : Int} {s : Int → Int} (h : Rep m j s) : m 0 j 5 = s 5 := h.1.2.2.2.2.2
theorem rpG {m : ob_Mem} {j : Int} {s : Int → Int} (h : Rep m j s) : ∀ k, 0 ≤ k → k < 6 → m 16 j k = s (6 + k) := h.2.1
theorem rpt {m : ob_Mem} {j : Int} {s : Int → Int} {t : Int} (h : Rep m j s) (ht : 0 ≤ t ∧ t < 3) : m 3 (2 * (3 * j + t)) 0 = s (12 + 116 * t + 0) := (h.2.2 t ht.1 ht.2).1.1
theorem rps {m : ob_Mem} {j : Int} {s : Int → Int} {t : Int} (h : Rep m j s) (ht : 0 ≤ t ∧ t < 3) : m 3 (2 * (3 * j + t)) 1 = s (12 + 116 * t + 1) := (h.2.2 t ht.1 ht.2).1.2.1
theorem rpm {m : ob_Mem} {j : Int} {s : Int → Int} {t : Int} (h : Rep m j s) (ht : 0 ≤ t ∧ t < 3) : m 3 (2 * (3 * j + t)) 2 = s (12 + 116 * t + 2) := (h.2.2 t ht.1 ht.2).1.2.2.1
theorem rpk {m : ob_Mem} {j : Int} {s : Int → Int} {t : Int} (h : Rep m j s) (ht : 0 ≤ t ∧ t < 3) : ∀ i, 0 ≤ i → i < s (12 + 116 * t + 2) → m 26 (2 * (3 * j + t)) i = s (12 + 116 * t + (3 + 3 * i)) := fun i h1 h2 => ((h.2.2 t ht.1 ht.2).1.2.2.2 i h1 h2).1
theorem rpa {m : ob_Mem} {j : Int} {s : Int → Int} {t : Int} (h : Rep m j s) (ht : 0 ≤ t ∧ t < 3) : ∀ i, 0 ≤ i → i < s (12 + 116 * t + 2) → m 27 (2 * (3 * j + t)) i = s (12 + 116 * t + (3 + 3 * i + 1)) := fun i h1 h2 => ((h.2.2 t ht.1 ht.2).1.2.2.2 i h1 h2).2.1
theorem rpl {m : ob_Mem} {j : Int} {s : Int → Int} {t : Int} (h : Rep m j s) (ht : 0 ≤ t ∧ t < 3) : ∀ i, 0 ≤ i → i < s (12 + 116 * t + 2) → m 28 (2 * (3 * j + t)) i = s (12 + 116 * t + (3 + 3 * i + 2)) := fun i h1 h2 => ((h.2.2 t ht.1 ht.2).1.2.2.2 i h1 h2).2.2
theorem rpP {m : ob_Mem} {j : Int} {s : Int → Int} {t : Int} (h : Rep m j s) (ht : 0 ≤ t ∧ t < 3) : m 5 (3 * j + t) 0 = s (12 + 116 * t + 39) := (h.2.2 t ht.1 ht.2).2.1
theorem rpQ {m : ob_Mem} {j : Int} {s : Int → Int} {t : Int} (h : Rep m j s) (ht : 0 ≤ t ∧ t < 3) (hp : s (12 + 116 * t + 39) = 1) : rQ m (3 * j + t) (fun w => s (12 + 116 * t + w)) := (h.2.2 t ht.1 ht.2).2.2 hp
theorem rqW {m : ob_Mem} {p : Int} {q : Int → Int} (h : rQ m p q) : m 5 p 1 = q 42 := h.1
theorem rqT {m : ob_Mem} {p : Int} {q : Int → Int} (h : rQ m p q) : m 3 (2 * p + 1) 0 = q 40 := h.2.1
theorem rqS {m : ob_Mem} {p : Int} {q : Int → Int} (h : rQ m p q) : m 3 (2 * p + 1) 1 = q 41 := h.2.2.1
theorem rqN {m : ob_Mem} {p : Int} {q : Int → Int} (h : rQ m p q) : m 3 (2 * p + 1) 2 = q 43 := h.2.2.2.1
theorem rqk {m : ob_Mem} {p : Int} {q : Int → Int} (h : rQ m p q) : ∀ i, 0 ≤ i → i < q 43 → m 26 (2 * p + 1) i = q (44 + 4 * i + 0) := fun i h1 h2 => (h.2.2.2.2 i h1 h2).1
theorem rqb {m : ob_Mem} {p : Int} {q : Int → Int} (h : rQ m p q) : ∀ i, 0 ≤ i → i < q 43 → m 32 p i = q (44 + 4 * i + 1) := fun i h1 h2 => (h.2.2.2.2 i h1 h2).2.1
theorem rqh {m : ob_Mem} {p : Int} {q : Int → Int} (h : rQ m p q) : ∀ i, 0 ≤ i → i < q 43 → m 33 p i = q (44 + 4 * i + 2) := fun i h1 h2 => (h.2.2.2.2 i h1 h2).2.2.1
theorem rqw {m : ob_Mem} {p : Int} {q : Int → Int} (h : rQ m p q) : ∀ i, 0 ≤ i → i < q 43 → m 34 p i = q (44 + 4 * i + 3) := fun i h1 h2 => (h.2.2.2.2 i h1 h2).2.2.2.1
theorem rqa {m : ob_Mem} {p : Int} {q : Int → Int} (h : rQ m p q) : ∀ i, 0 ≤ i → i < q 43 → m 27 (2 * p + 1) i = q (92 + 2 * i) := fun i h1 h2 => (h.2.2.2.2 i h1 h2).2.2.2.2.1
theorem rql {m : ob_Mem} {p : Int} {q : Int → Int} (h : rQ m p q) : ∀ i, 0 ≤ i → i < q 43 → m 28 (2 * p + 1) i = q (92 + 2 * i + 1) := fun i h1 h2 => (h.2.2.2.2 i h1 h2).2.2.2.2.2
/-- the cells of a barrel -/
def gB (j : Int) (k : Nat) (i : Int) : Prop := (k = 0 ∨ k = 16) ∧ i = j ∨ (k = 3 ∨ k = 26 ∨ k = 27 ∨ k = 28) ∧ 6 * j ≤ i ∧ i < 6 * j + 6 ∨ (k = 5 ∨ k = 32 ∨ k = 33 ∨ k = 34) ∧ 3 * j ≤ i ∧ i < 3 * j + 3
/-- the cells of a pins' object -/
def gP (p : Int) (k : Nat) (i : Int) : Prop := (k = 3 ∨ k = 26 ∨ k = 27 ∨ k = 28) ∧ i = 2 * p + 1 ∨ (k = 5 ∨ k = 32 ∨ k = 33 ∨ k = 34) ∧ i = p
def gN (c : Int) (k : Nat) (i : Int) : Prop := (k = 3 ∨ k = 26 ∨ k = 27 ∨ k = 28) ∧ i = c
theorem rN_c {m m' : ob_Mem} {c : Int} {q q' : Int → Int} (h : rN m c q) (hm : ∀ k i p, gN c k i → m' k i p = m k i p) (hq : ∀ w, 0 ≤ w → w < 39 → q' w = q w) (h12 : q 2 ≤ 12) : rN m' c q' := by
  obtain ⟨h1, h2, h3, h4⟩ := h
  have e2 := hq 2 (by omega) (by omega)
  refine ⟨?_, ?_, ?_, fun i a b => ?_⟩
  · rw [hm 3 c 0 (Or.inl rfl |> fun z => ⟨z, rfl⟩), h1, hq 0 (by omega) (by omega)]
  · rw [hm 3 c 1 (Or.inl rfl |> fun z => ⟨z, rfl⟩), h2, hq 1 (by omega) (by omega)]
  · rw [hm 3 c 2 (Or.inl rfl |> fun z => ⟨z, rfl⟩), h3, e2]
  · obtain ⟨b1, b2, b3⟩ := h4 i a (by omega)
    refine ⟨?_, ?_, ?_⟩
    · rw [hm 26 c i ⟨by omega, rfl⟩, b1, hq _ (by omega) (by omega)]
    · rw [hm 27 c i ⟨by omega, rfl⟩, b2, hq _ (by omega) (by omega)]
    · rw [hm 28 c i ⟨by omega, rfl⟩, b3, hq _ (by omega) (by omega)]
theorem rQ_c {m m' : ob_Mem} {p : Int} {q q' : Int → Int} (h : rQ m p q) (hm : ∀ k i x, gP p k i → m' k i x = m k i x) (hq : ∀ w, 39 ≤ w → w < 116 → q' w = q w) (h12 : q 43 ≤ 12) : rQ m' p q' := by
  obtain ⟨h1, h2, h3, h4, h5⟩ := h
  have e2 := hq 43 (by omega) (by omega)
  refine ⟨?_, ?_, ?_, ?_, fun i a b => ?_⟩
  · rw [hm 5 p 1 (Or.inr ⟨by omega, rfl⟩), h1, hq 42 (by omega) (by omega)]
  · rw [hm 3 _ 0 (Or.inl ⟨by omega, rfl⟩), h2, hq 40 (by omega) (by omega)]
  · rw [hm 3 _ 1 (Or.inl ⟨by omega, rfl⟩), h3, hq 41 (by omega) (by omega)]
  · rw [hm 3 _ 2 (Or.inl ⟨by omega, rfl⟩), h4, e2]
  · obtain ⟨b1, b2, b3, b4, b5, b6⟩ := h5 i a (by omega)
    refine ⟨?_, ?_, ?_, ?_, ?_, ?_⟩
    · rw [hm 26 _ i (Or.inl ⟨by omega, rfl⟩), b1, hq _ (by omega) (by omega)]
    · rw [hm 32 _ i (Or.inr ⟨by omega, rfl⟩), b2, hq _ (by omega) (by omega)]
    · rw [hm 33 _ i (Or.inr ⟨by omega, rfl⟩), b3, hq _ (by omega) (by omega)]
    · rw [hm 34 _ i (Or.inr ⟨by omega, rfl⟩), b4, hq _ (by omega) (by omega)]
    · rw [hm 27 _ i (Or.inl ⟨by omega, rfl⟩), b5, hq _ (by omega) (by omega)]
    · rw [hm 28 _ i (Or.inl ⟨by omega, rfl⟩), b6, hq _ (by omega) (by omega)]
-- ROWS AS THEY MUST BE
def hv (s : Int → Int) : Prop := (6 ≤ s 0 ∧ s 0 ≤ 24) ∧ (1 ≤ s 1 ∧ s 1 ≤ 6) ∧ (2 ≤ s 2 ∧ s 2 ≤ 3) ∧ (0 ≤ s 3 ∧ s 3 ≤ 2) ∧ (0 ≤ s 4 ∧ s 4 ≤ 3) ∧ (1 ≤ s 5 ∧ s 5 ≤ 99) ∧ ∀ k, 0 ≤ k → k < 6 → 0 ≤ s (6 + k) ∧ s (6 + k) ≤ 6
def tv (s : Int → Int) (t : Int) : Prop := (1 ≤ s (12 + 116 * t + 0) ∧ s (12 + 116 * t + 0) ≤ s 0) ∧ (0 ≤ s (12 + 116 * t + 1) ∧ s (12 + 116 * t + 1) < s 0) ∧ (0 ≤ s (12 + 116 * t + 2) ∧ s (12 + 116 * t + 2) ≤ 12) ∧ (s 2 ≤ t → s (12 + 116 * t + 2) = 0) ∧ ∀ i, 0 ≤ i → i < s (12 + 116 * t + 2) → (0 ≤ s (12 + 116 * t + (3 + 3 * i + 1)) ∧ 1 ≤ s (12 + 116 * t + (3 + 3 * i + 2)) ∧ s (12 + 116 * t + (3 + 3 * i + 1)) + s (12 + 116 * t + (3 + 3 * i + 2)) ≤ s (12 + 116 * t + 0)) ∧ (0 ≤ s (12 + 116 * t + (3 + 3 * i)) ∧ s (12 + 116 * t + (3 + 3 * i)) < s 1)
def pv (W : Int) (s : Int → Int) (t : Int) : Prop := (s (12 + 116 * t + 39) = 0 ∨ s (12 + 116 * t + 39) = 1) ∧ (s 2 ≤ t → s (12 + 116 * t + 39) = 0) ∧ (s (12 + 116 * t + 39) = 1 → (1 ≤ s (12 + 116 * t + 40) ∧ s (12 + 116 * t + 40) ≤ s 0) ∧ (0 ≤ s (12 + 116 * t + 41) ∧ s (12 + 116 * t + 41) < s 0) ∧ (0 ≤ s (12 + 116 * t + 42) ∧ s (12 + 116 * t + 42) ≤ 2) ∧ (1 ≤ s (12 + 116 * t + 43) ∧ s (12 + 116 * t + 43) ≤ 12) ∧ (∀ i, 0 ≤ i → i < s (12 + 116 * t + 43) → (0 ≤ s (12 + 116 * t + (44 + 4 * i + 0)) ∧ s (12 + 116 * t + (44 + 4 * i + 0)) < s 1) ∧ (0 ≤ s (12 + 116 * t + (44 + 4 * i + 1)) ∧ s (12 + 116 * t + (44 + 4 * i + 1)) < s 0) ∧ (1 ≤ s (12 + 116 * t + (44 + 4 * i + 2)) ∧ s (12 + 116 * t + (44 + 4 * i + 2)) ≤ s 0) ∧ (0 ≤ s (12 + 116 * t + (44 + 4 * i + 3)) ∧ s (12 + 116 * t + (44 + 4 * i + 3)) ≤ W)) ∧ ∀ i i', 0 ≤ i → i < s (12 + 116 * t + 43) → 0 ≤ i' → i' < s (12 + 116 * t + 43) → i ≠ i' → s (12 + 116 * t + (44 + 4 * i + 0)) = s (12 + 116 * t + (44 + 4 * i' + 0)) → s (12 + 116 * t + (44 + 4 * i + 1)) ≠ s (12 + 116 * t + (44 + 4 * i' + 1)))
def VV (W : Int) (s : Int → Int) : Prop := hv s ∧ ∀ t, 0 ≤ t → t < 3 → tv s t ∧ pv W s t
theorem tv_TV {s : Int → Int} {t : Int} (hh : hv s) (ht : 0 ≤ t ∧ t < 3) (h : tv s t) : TV s t := by
  obtain ⟨a1, a2, a3, -⟩ := hh
  obtain ⟨b1, b2, b3, b4, b5⟩ := h
  refine ⟨ht, a1, b3, fun i h1 h2 => ?_⟩
  obtain ⟨c1, c2⟩ := b5 i h1 h2
  exact ⟨ht, by omega, a1, b1, c1, by omega⟩
theorem VV_SV {W : Int} {s : Int → Int} (h : VV W s) : SV s := by
  obtain ⟨hh, ht⟩ := h
  obtain ⟨a1, a2, a3, a4, a5, a6, a7⟩ := id hh
  refine ⟨a1, a2, a3, a4, a5, a6, fun t h1 h2 => tv_TV hh ⟨h1, h2⟩ (ht t h1 h2).1, fun u h1 h2 hp => ?_⟩
  obtain ⟨-, -, c⟩ := (ht u h1 h2).2
  obtain ⟨c1, c2, c3, c4, c5, c6⟩ := c hp
  refine ⟨⟨h1, h2⟩, c4, fun i g1 g2 => ?_⟩
  obtain ⟨d1, d2, d3, d4⟩ := c5 i g1 g2
  exact ⟨by omega, d2, d3⟩
theorem Rep_sm {W : Int} {m m' : ob_Mem} {j : Int} {s : Int → Int} (hV : VV W s) (h : Rep m j s) (hm : ∀ k i p, gB j k i → m' k i p = m k i p) : Rep m' j s := by
  obtain ⟨⟨h1, h2, h3, h4, h5, h6⟩, h7, h8⟩ := h
  have z : ∀ p, m' 0 j p = m 0 j p := fun p => hm 0 j p (Or.inl ⟨Or.inl rfl, rfl⟩)
  refine ⟨⟨?_, ?_, ?_, ?_, ?_, ?_⟩, fun k a b => ?_, fun t a b => ?_⟩
  · rw [z, h1]
  · rw [z, h2]
  · rw [z, h3]
  · rw [z, h4]
  · rw [z, h5]
  · rw [z, h6]
  · rw [hm 16 j k (Or.inl ⟨Or.inr rfl, rfl⟩), h7 k a b]
  · obtain ⟨g1, g2, g3⟩ := h8 t a b
    obtain ⟨v1, v2⟩ := hV.2 t a b
    refine ⟨rN_c g1 (fun k i p q => hm k i p ?_) (fun _ _ _ => rfl) v1.2.2.1.2, ?_, fun hp => rQ_c (g3 hp) (fun k i p q => hm k i p ?_) (fun _ _ _ => rfl) (v2.2.2 hp).2.2.2.1.2⟩
    · exact Or.inr (Or.inl ⟨q.1, by have := q.2; omega⟩)
    · rw [hm 5 _ 0 (Or.inr (Or.inr ⟨by omega, by omega⟩)), g2]
    · rcases q with q | q
      · exact Or.inr (Or.inl ⟨q.1, by have := q.2; omega⟩)
      · exact Or.inr (Or.inr ⟨q.1, by have := q.2; omega⟩)
/-- only a tune's notes are changed -/
theorem Rep_N {W : Int} {m m' : ob_Mem} {j t : Int} {s s' : Int → Int} (hV : VV W s) (h : Rep m j s) (ht : 0 ≤ t ∧ t < 3) (hm : sm (gN (2 * (3 * j + t))) m m') (hs : ∀ p, ¬ (12 + 116 * t ≤ p ∧ p < 12 + 116 * t + 39) → s' p = s p) (hn : rN m' (2 * (3 * j + t)) (fun w => s' (12 + 116 * t + w))) : Rep m' j s' := by
  obtain ⟨⟨h1, h2, h3, h4, h5, h6⟩, h7, h8⟩ := h
  have z : ∀ p, m' 0 j p = m 0 j p := fun p => hm 0 j p (fun q => by have := q.1; omega)
  refine ⟨⟨?_, ?_, ?_, ?_, ?_, ?_⟩, fun k a b => ?_, fun u a b => ?_⟩
  · rw [z, h1, hs _ (by omega)]
  · rw [z, h2, hs _ (by omega)]
  · rw [z, h3, hs _ (by omega)]
  · rw [z, h4, hs _ (by omega)]
  · rw [z, h5, hs _ (by omega)]
  · rw [z, h6, hs _ (by omega)]
  · rw [hm 16 j k (fun q => by have := q.1; omega), h7 k a b, hs _ (by omega)]
  · obtain ⟨g1, g2, g3⟩ := h8 u a b
    obtain ⟨v1, v2⟩ := hV.2 u a b
    refine ⟨?_, ?_, fun hp => ?_⟩
    · by_cases e : u = t
      · rw [e]
        exact hn
      · refine rN_c g1 (fun k i p q => hm k i p (fun z => ?_)) (fun w _ _ => hs _ (by omega)) v1.2.2.1.2
        have := z.2
        have := q.2
        omega
    · rw [hm 5 _ 0 (fun q => by have := q.1; omega), g2, hs _ (by omega)]
    · rw [hs _ (by omega)] at hp
      refine rQ_c (g3 hp) (fun k i p q => hm k i p (fun z => ?_)) (fun w _ _ => hs _ (by omega)) (v2.2.2 hp).2.2.2.1.2
      have := z.2
      have := z.1
      rcases q with ⟨q1, q2⟩ | ⟨q1, q2⟩ <;> omega
/-- only a tune's pins are changed -/
theorem Rep_P {W : Int} {m m' : ob_Mem} {j t : Int} {s s' : Int → Int} (hV : VV W s) (h : Rep m j s) (ht : 0 ≤ t ∧ t < 3) (hm : sm (gP (3 * j + t)) m m') (hs : ∀ p, ¬ (12 + 116 * t + 39 ≤ p ∧ p < 12 + 116 * t + 116) → s' p = s p) (hl : m' 5 (3 * j + t) 0 = s' (12 + 116 * t + 39)) (hq : s' (12 + 116 * t + 39) = 1 → rQ m' (3 * j + t) (fun w => s' (12 + 116 * t + w))) : Rep m' j s' := by
  obtain ⟨⟨h1, h2, h3, h4, h5, h6⟩, h7, h8⟩ := h
  have z : ∀ p, m' 0 j p = m 0 j p := fun p => hm 0 j p (fun q => by rcases q with ⟨q, -⟩ | ⟨q, -⟩ <;> omega)
  refine ⟨⟨?_, ?_, ?_, ?_, ?_, ?_⟩, fun k a b => ?_, fun u a b => ?_⟩
  · rw [z, h1, hs _ (by omega)]
  · rw [z, h2, hs _ (by omega)]
  · rw [z, h3, hs _ (by omega)]
  · rw [z, h4, hs _ (by omega)]
  · rw [z, h5, hs _ (by omega)]
  · rw [z, h6, hs _ (by omega)]
  · rw [hm 16 j k (fun q => by rcases q with ⟨q, -⟩ | ⟨q, -⟩ <;> omega), h7 k a b, hs _ (by omega)]
  · obtain ⟨g1, g2, g3⟩ := h8 u a b
    obtain ⟨v1, v2⟩ := hV.2 u a b
    refine ⟨?_, ?_, fun hp => ?_⟩
    · refine rN_c g1 (fun k i p q => hm k i p (fun z => ?_)) (fun w _ _ => hs _ (by omega)) v1.2.2.1.2
      obtain ⟨q1, q2⟩ := q
      rcases z with ⟨z1, z2⟩ | ⟨z1, z2⟩ <;> omega
    · by_cases e : u = t
      · rw [e, hl]
      · rw [hm 5 _ 0 (fun q => by rcases q with ⟨q1, q2⟩ | ⟨q1, q2⟩ <;> omega), g2, hs _ (by omega)]
    · by_cases e : u = t
      · rw [e] at hp ⊢
        exact hq hp
      · rw [hs _ (by omega)] at hp
        refine rQ_c (g3 hp) (fun k i p q => hm k i p (fun z => ?_)) (fun w _ _ => hs _ (by omega)) (v2.2.2 hp).2.2.2.1.2
        rcases q with ⟨q1, q2⟩ | ⟨q1, q2⟩ <;> rcases z with ⟨z1, z2⟩ | ⟨z1, z2⟩ <;> omega
theorem Rep_H {W : Int} {m m' : ob_Mem} {j p x : Int} {s : Int → Int} (hV : VV W s) (h : Rep m j s) (hp : 0 ≤ p ∧ p < 6) (e : m' = ob_set m 0 j p x) : Rep m' j (up s p x) := by
  obtain ⟨h0, h7, h8⟩ := h
  have z : ∀ q, 0 ≤ q → q < 6 → m 0 j q = s q → m' 0 j q = up s p x q := fun q a b c => by
    rw [e]
    by_cases y : q = p
    · rw [rs_e rfl y, up_e y]
    · rw [rs_s y, up_n y, c]
  have zk : ∀ k i q, k ≠ 0 → m' k i q = m k i q := fun k i q y => by
    rw [e, rs_k y]
  refine ⟨⟨z 0 (by omega) (by omega) h0.1, z 1 (by omega) (by omega) h0.2.1, z 2 (by omega) (by omega) h0.2.2.1, z 3 (by omega) (by omega) h0.2.2.2.1, z 4 (by omega) (by omega) h0.2.2.2.2.1, z 5 (by omega) (by omega) h0.2.2.2.2.2⟩, fun k a b => ?_, fun u a b => ?_⟩
  · rw [zk _ _ _ (by omega), h7 k a b, up_n (by omega)]
  · obtain ⟨g1, g2, g3⟩ := h8 u a b
    obtain ⟨v1, v2⟩ := hV.2 u a b
    refine ⟨rN_c g1 (fun k i q y => zk _ _ _ (by have := y.1; omega)) (fun w _ _ => up_n (by omega)) v1.2.2.1.2, ?_, fun hp => ?_⟩
    · rw [zk _ _ _ (by omega), g2, up_n (by omega)]
    · rw [up_n (by omega)] at hp
      exact rQ_c (g3 hp) (fun k i q y => zk _ _ _ (by rcases y with ⟨q1, q2⟩ | ⟨q1, q2⟩ <;> omega)) (fun w _ _ => up_n (by omega)) (v2.2.2 hp).2.2.2.1.2
theorem Rep_G {W : Int} {m m' : ob_Mem} {j p x : Int} {s : Int → Int} (hV : VV W s) (h : Rep m j s) (hp : 0 ≤ p ∧ p < 6) (e : m' = ob_set m 16 j p x) : Rep m' j (up s (6 + p) x) := by
  obtain ⟨h0, h7, h8⟩ := h
  have zk : ∀ k i q, k ≠ 16 → m' k i q = m k i q := fun k i q y => by
    rw [e, rs_k y]
  refine ⟨⟨?_, ?_, ?_, ?_, ?_, ?_⟩, fun k a b => ?_, fun u a b => ?_⟩
  · rw [zk _ _ _ (by omega), h0.1, up_n (by omega)]
  · rw [zk _ _ _ (by omega), h0.2.1, up_n (by omega)]
  · rw [zk _ _ _ (by omega), h0.2.2.1, up_n (by omega)]
  · rw [zk _ _ _ (by omega), h0.2.2.2.1, up_n (by omega)]
  · rw [zk _ _ _ (by omega), h0.2.2.2.2.1, up_n (by omega)]
  · rw [zk _ _ _ (by omega), h0.2.2.2.2.2, up_n (by omega)]
  · rw [e]
    by_cases y : k = p
    · rw [rs_e rfl y, up_e (by omega)]
    · rw [rs_s y, up_n (by omega), h7 k a b]
  · obtain ⟨g1, g2, g3⟩ := h8 u a b
    obtain ⟨v1, v2⟩ := hV.2 u a b
    refine ⟨rN_c g1 (fun k i q y => zk _ _ _ (by have := y.1; omega)) (fun w _ _ => up_n (by omega)) v1.2.2.1.2, ?_, fun hp => ?_⟩
    · rw [zk _ _ _ (by omega), g2, up_n (by omega)]
    · rw [up_n (by omega)] at hp
      exact rQ_c (g3 hp) (fun k i q y => zk _ _ _ (by rcases y with ⟨q1, q2⟩ | ⟨q1, q2⟩ <;> omega)) (fun w _ _ => up_n (by omega)) (v2.2.2 hp).2.2.2.1.2
