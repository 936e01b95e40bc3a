-- READS: the class's parse, byte by byte
theorem cl_isFigure (m : ob_Mem) (c : Int) : ob_E (74, 0, [(1, c)], [], (m, none)) = some (if 48 ≤ c ∧ c ≤ 57 then 1 else 0, (m, none)) := by
  by_cases h1 : c < 48
  · simp (disch := first | omega | assumption) only [↓if_pos, ↓if_neg, Option.bind_some, ob_wr_id, sg_X6_isFigure_0]
  · by_cases h2 : 57 < c
    · simp (disch := first | omega | assumption) only [↓if_pos, ↓if_neg, Option.bind_some, ob_wr_id, sg_X6_isFigure_0]
    · simp (disch := first | omega | assumption) only [↓if_pos, ↓if_neg, Option.bind_some, ob_wr_id, sg_X6_isFigure_0]
def nbr (c : Int) : Int := if c = 116 ∨ c = 104 ∨ c = 103 then 2 else if c = 112 ∨ c = 111 ∨ c = 101 then 1 else 0
theorem nbr_b (c : Int) : 0 ≤ nbr c ∧ nbr c ≤ 2 := by
  unfold nbr
  split
  · omega
  · split <;> omega
theorem cl_numbersOf (m : ob_Mem) (c : Int) : ob_E (81, 0, [(1, c)], [], (m, none)) = some (nbr c, (m, none)) := by
  unfold nbr
  by_cases h : c = 116 ∨ c = 104 ∨ c = 103
  · rcases h with rfl | rfl | rfl <;> simp (disch := first | omega | assumption) only [↓if_pos, ↓if_neg, Option.bind_some, ob_wr_id, sg_X6_numbersOf_0]
  · by_cases h' : c = 112 ∨ c = 111 ∨ c = 101
    · rcases h' with rfl | rfl | rfl <;> simp (disch := first | omega | assumption) only [↓if_pos, ↓if_neg, Option.bind_some, ob_wr_id, sg_X6_numbersOf_0]
    · rw [if_neg h, if_neg h', sg_X6_numbersOf_0]
      simp (disch := first | omega | assumption) only [↓if_pos, ↓if_neg, Option.bind_some, ob_wr_id]
      simp only [ite_self]
def XP (a f : Int) (g : ob_Mem) (R : ob_Res) : Prop := ∃ x3 x4, R = ob_E (73, 19, [(9, 0), (1, f), (1, a), x3, x4], [], (g, none))
def TX (T : Int → Int) (L : Int) (g : ob_Mem) : Prop := g 6 0 0 = L ∧ ∀ i, 0 ≤ i → i < L → g 36 0 i = T i
def TB (T : Int → Int) (L : Int) : Prop := (0 ≤ L ∧ L ≤ 120) ∧ ∀ i, 0 ≤ i → i < L → 0 ≤ T i ∧ T i ≤ 127
def PZ (L a f : Int) (g : ob_Mem) : Prop := (0 ≤ a ∧ a ≤ L) ∧ (0 ≤ f ∧ f ≤ 2) ∧ (0 ≤ g 6 0 1 ∧ g 6 0 1 ≤ a) ∧ (0 ≤ g 6 0 6 ∧ g 6 0 6 ≤ a) ∧ (1 ≤ f → 1 ≤ g 6 0 6) ∧ (f = 1 → 0 ≤ g 38 0 (g 6 0 6 - 1) ∧ g 38 0 (g 6 0 6 - 1) ≤ 9)
def FG (g g' : ob_Mem) : Prop := (∀ k i x, k ≠ 6 → k ≠ 35 → k ≠ 37 → k ≠ 38 → g' k i x = g k i x) ∧ g' 6 0 0 = g 6 0 0
theorem FG_r {g : ob_Mem} : FG g g := ⟨fun _ _ _ _ _ _ _ => rfl, rfl⟩
theorem FG_t {g g' g'' : ob_Mem} (h : FG g g') (h' : FG g' g'') : FG g g'' := ⟨fun k i x a b c d => (h'.1 k i x a b c d).trans (h.1 k i x a b c d), h'.2.trans h.2⟩
theorem TX_F {T : Int → Int} {L : Int} {g g' : ob_Mem} (h : TX T L g) (hf : FG g g') : TX T L g' := ⟨hf.2.trans h.1, fun i a b => (hf.1 36 0 i (by omega) (by omega) (by omega) (by omega)).trans (h.2 i a b)⟩
def fig (c : Int) : Prop := 48 ≤ c ∧ c ≤ 57
theorem sp_blank {T : Int → Int} {L a f : Int} {g : ob_Mem} {R : ob_Res} (hB : TB T L) (hx : TX T L g) (hp : PZ L a f g) (h : XP a f g R) (ha : a < L) (hc : T a = 32) : XP (a + 1) 0 g R ∧ PZ L (a + 1) 0 g := by
  obtain ⟨x3, x4, rfl⟩ := h
  obtain ⟨p1, p2, p3, p4, p5, p6⟩ := hp
  obtain ⟨b1, b2⟩ := hB
  have e36 := hx.2 a (by omega) ha
  have e0 := hx.1
  refine ⟨⟨(1, 32), (1, 1), ?_⟩, by omega, by omega, by omega, by omega, fun z => absurd z (by omega), fun z => absurd z (by omega)⟩
  rw [sg_X6_parse_19]
  simp (disch := first | omega | assumption) only [↓if_pos, ↓if_neg, Option.bind_some, ob_wr_id, e0, e36, hc, cl_isFigure, sg_X6_parse_38, sg_X6_parse_48, sg_X6_parse_92, sg_X6_parse_97, sg_X6_parse_118]
theorem sp_new {T : Int → Int} {L a : Int} {g : ob_Mem} {R : ob_Res} (hB : TB T L) (hx : TX T L g) (hp : PZ L a 0 g) (h : XP a 0 g R) (ha : a < L) (hc : fig (T a)) (ho : g 6 0 7 ≠ 0) (hw : 1 ≤ g 6 0 9 ∧ g 6 0 9 ≤ 3) : ∃ g', XP (a + 1) 1 g' R ∧ PZ L (a + 1) 1 g' ∧ g' 6 0 9 = g 6 0 9 - 1 ∧ g' 6 0 6 = g 6 0 6 + 1 ∧ g' 38 0 (g 6 0 6) = T a - 48 ∧ ∀ k i x, ¬ (k = 6 ∧ (x = 9 ∨ x = 6)) → ¬ (k = 38 ∧ x = g 6 0 6) → g' k i x = g k i x := by
  obtain ⟨x3, x4, rfl⟩ := h
  obtain ⟨p1, p2, p3, p4, p5, p6⟩ := hp
  obtain ⟨b1, b2⟩ := hB
  obtain ⟨c1, c2⟩ := hc
  have e36 := hx.2 a (by omega) ha
  have e0 := hx.1
  generalize hU : g 6 0 6 = U at *
  generalize hN : g 6 0 9 = N at *
  refine ⟨ob_set (ob_set (ob_set (ob_set g 6 0 9 (N - 1)) 38 0 U 0) 6 0 6 (U + 1)) 38 0 U (T a - 48), ⟨(1, T a), (1, 1), ?_⟩, ⟨by omega, by omega, ?_, ?_, ?_, ?_⟩, ?_, ?_, ?_, fun k i x h1 h2 => ?_⟩
  · have op : ob_E (75, 0, [(9, 0)], [], (g, none)) = some (1, (ob_set (ob_set (ob_set g 6 0 9 (N - 1)) 38 0 U 0) 6 0 6 (U + 1), none)) := by
      simp (disch := first | omega | assumption) only [↓if_pos, ↓if_neg, Option.bind_some, ob_wr_id, rs_k, rs_i, rs_s, rs_e, sg_X6_opensNumber_0, hU, hN]
    have ad : ob_E (76, 0, [(9, 0), (1, T a - 48)], [], (ob_set (ob_set (ob_set g 6 0 9 (N - 1)) 38 0 U 0) 6 0 6 (U + 1), none)) = some (0, (ob_set (ob_set (ob_set (ob_set g 6 0 9 (N - 1)) 38 0 U 0) 6 0 6 (U + 1)) 38 0 U (T a - 48), none)) := by
      simp (disch := first | omega | assumption) only [↓if_pos, ↓if_neg, Option.bind_some, ob_wr_id, rs_k, rs_i, rs_s, rs_e, sg_X6_addFigure_0, show U + 1 - 1 = U by omega, show (10 : Int) * 0 = 0 by omega, Int.zero_add]
    rw [sg_X6_parse_19]
    simp (disch := first | omega | assumption) only [↓if_pos, ↓if_neg, Option.bind_some, ob_wr_id, e0, e36, cl_isFigure, sg_X6_parse_38, sg_X6_parse_48, op, sg_X6_parse_78, sg_X6_parse_92, sg_X6_parse_97, ad, sg_X6_parse_118, show (0 : Int) + 1 = 1 by omega]
  · simp (disch := omega) only [rs_k, rs_i, rs_s, rs_e, up_e, up_n]
    omega
  · simp (disch := omega) only [rs_k, rs_i, rs_s, rs_e, up_e, up_n]
    omega
  · intro _
    simp (disch := omega) only [rs_k, rs_i, rs_s, rs_e, up_e, up_n]
    omega
  · intro _
    simp (disch := omega) only [rs_k, rs_i, rs_s, rs_e, up_e, up_n, show U + 1 - 1 = U by omega]
    omega
  · simp (disch := omega) only [rs_k, rs_i, rs_s, rs_e, up_e, up_n]
  · simp (disch := omega) only [rs_k, rs_i, rs_s, rs_e, up_e, up_n]
  · simp (disch := omega) only [rs_k, rs_i, rs_s, rs_e, up_e, up_n]
  · by_cases z : k = 6
    · simp (disch := omega) only [rs_k, rs_i, rs_s, rs_e, up_e, up_n]
    · by_cases y : k = 38
      · simp (disch := omega) only [rs_k, rs_i, rs_s, rs_e, up_e, up_n]
      · simp (disch := omega) only [rs_k, rs_i, rs_s, rs_e, up_e, up_n]
theorem sp_more {T : Int → Int} {L a : Int} {g : ob_Mem} {R : ob_Res} (hB : TB T L) (hx : TX T L g) (hp : PZ L a 1 g) (h : XP a 1 g R) (ha : a < L) (hc : fig (T a)) : ∃ g', XP (a + 1) 2 g' R ∧ PZ L (a + 1) 2 g' ∧ g' 38 0 (g 6 0 6 - 1) = 10 * g 38 0 (g 6 0 6 - 1) + (T a - 48) ∧ ∀ k i x, ¬ (k = 38 ∧ x = g 6 0 6 - 1) → g' k i x = g k i x := by
  obtain ⟨x3, x4, rfl⟩ := h
  obtain ⟨p1, p2, p3, p4, p5, p6⟩ := hp
  obtain ⟨b1, b2⟩ := hB
  obtain ⟨c1, c2⟩ := hc
  have p5 := p5 (by omega)
  have p6 := p6 rfl
  have e36 := hx.2 a (by omega) ha
  have e0 := hx.1
  generalize hU : g 6 0 6 = U at *
  refine ⟨ob_set g 38 0 (U - 1) (10 * g 38 0 (U - 1) + (T a - 48)), ⟨(1, T a), (1, 1), ?_⟩, ⟨by omega, by omega, ?_, ?_, ?_, fun z => absurd z (by omega)⟩, ?_, fun k i x h2 => ?_⟩
  · have ad : ob_E (76, 0, [(9, 0), (1, T a - 48)], [], (g, none)) = some (0, (ob_set g 38 0 (U - 1) (10 * g 38 0 (U - 1) + (T a - 48)), none)) := by
      simp (disch := first | omega | assumption) only [↓if_pos, ↓if_neg, Option.bind_some, ob_wr_id, sg_X6_addFigure_0, hU]
    rw [sg_X6_parse_19]
    simp (disch := first | omega | assumption) only [↓if_pos, ↓if_neg, Option.bind_some, ob_wr_id, e0, e36, cl_isFigure, sg_X6_parse_38, sg_X6_parse_48, show (1 : Int) + 1 = 2 by omega, sg_X6_parse_92, sg_X6_parse_97, ad, sg_X6_parse_118]
  · simp (disch := omega) only [rs_k, rs_i, rs_s, rs_e, up_e, up_n]
    omega
  · simp (disch := omega) only [rs_k, rs_i, rs_s, rs_e, up_e, up_n]
    omega
  · intro _
    simp (disch := omega) only [rs_k, rs_i, rs_s, rs_e, up_e, up_n]
    omega
  · simp (disch := omega) only [rs_k, rs_i, rs_s, rs_e, up_e, up_n]
  · by_cases y : k = 38
    · simp (disch := omega) only [rs_k, rs_i, rs_s, rs_e, up_e, up_n]
    · simp (disch := omega) only [rs_k, rs_i, rs_s, rs_e, up_e, up_n]
theorem sp_third {T : Int → Int} {L a : Int} {g : ob_Mem} {R : ob_Res} (hB : TB T L) (hx : TX T L g) (hp : PZ L a 2 g) (h : XP a 2 g R) (ha : a < L) (hc : fig (T a)) : R = some (a - 2, (g, none)) := by
  obtain ⟨x3, x4, rfl⟩ := h
  obtain ⟨p1, p2, p3, p4, p5, p6⟩ := hp
  obtain ⟨b1, b2⟩ := hB
  obtain ⟨c1, c2⟩ := hc
  have e36 := hx.2 a (by omega) ha
  have e0 := hx.1
  rw [sg_X6_parse_19]
  simp (disch := first | omega | assumption) only [↓if_pos, ↓if_neg, Option.bind_some, ob_wr_id, e0, e36, cl_isFigure, sg_X6_parse_38, sg_X6_parse_48]
theorem sp_nonum {T : Int → Int} {L a : Int} {g : ob_Mem} {R : ob_Res} (hB : TB T L) (hx : TX T L g) (hp : PZ L a 0 g) (h : XP a 0 g R) (ha : a < L) (hc : fig (T a)) (ho : g 6 0 7 = 0 ∨ g 6 0 9 < 1) : R = some (a, (g, none)) := by
  obtain ⟨x3, x4, rfl⟩ := h
  obtain ⟨p1, p2, p3, p4, p5, p6⟩ := hp
  obtain ⟨b1, b2⟩ := hB
  obtain ⟨c1, c2⟩ := hc
  have e36 := hx.2 a (by omega) ha
  have e0 := hx.1
  have op : ob_E (75, 0, [(9, 0)], [], (g, none)) = some (0, (g, none)) := by
    by_cases z : g 6 0 7 = 0
    · simp (disch := first | omega | assumption) only [↓if_pos, ↓if_neg, Option.bind_some, ob_wr_id, sg_X6_opensNumber_0]
    · simp (disch := first | omega | assumption) only [↓if_pos, ↓if_neg, Option.bind_some, ob_wr_id, sg_X6_opensNumber_0]
  rw [sg_X6_parse_19]
  simp (disch := first | omega | assumption) only [↓if_pos, ↓if_neg, Option.bind_some, ob_wr_id, e0, e36, cl_isFigure, sg_X6_parse_38, sg_X6_parse_48, op, sg_X6_parse_78, sg_X6_parse_96, sg_X6_parse_97]
/-- a mark that stands, and one that does not -/
theorem sp_mark {T : Int → Int} {L a f v : Int} {g g' : ob_Mem} {R : ob_Res} (hB : TB T L) (hx : TX T L g) (hp : PZ L a f g) (h : XP a f g R) (ha : a < L) (hc : ¬ fig (T a)) (hb : T a ≠ 32) (hv : v = 0 ∨ v = 1) (hm : ob_E (77, 0, [(9, 0), (1, T a)], [], (g, none)) = some (v, (g', none))) : (v = 1 → XP (a + 1) 0 g' R) ∧ (v = 0 → R = some (a, (g', none))) := by
  obtain ⟨x3, x4, rfl⟩ := h
  obtain ⟨p1, p2, p3, p4, p5, p6⟩ := hp
  obtain ⟨b1, b2⟩ := hB
  have e36 := hx.2 a (by omega) ha
  have e0 := hx.1
  unfold fig at hc
  refine ⟨fun z => ⟨(1, T a), (1, 1), ?_⟩, fun z => ?_⟩
  · subst z
    rw [sg_X6_parse_19]
    simp (disch := first | omega | assumption) only [↓if_pos, ↓if_neg, Option.bind_some, ob_wr_id, e0, e36, cl_isFigure, sg_X6_parse_38, sg_X6_parse_48, hm, sg_X6_parse_89, sg_X6_parse_92, sg_X6_parse_97, sg_X6_parse_118]
  · subst z
    rw [sg_X6_parse_19]
    simp (disch := first | omega | assumption) only [↓if_pos, ↓if_neg, Option.bind_some, ob_wr_id, e0, e36, cl_isFigure, sg_X6_parse_38, sg_X6_parse_48, hm, sg_X6_parse_89, sg_X6_parse_96, sg_X6_parse_97]
theorem sp_end {T : Int → Int} {L f : Int} {g : ob_Mem} {R : ob_Res} (hx : TX T L g) (h : XP L f g R) : R = some (if g 6 0 7 = 0 ∧ g 6 0 1 ≠ 0 then -1 else L, (g, none)) := by
  obtain ⟨x3, x4, rfl⟩ := h
  have e0 := hx.1
  by_cases z : g 6 0 7 = 0
  · by_cases y : g 6 0 1 = 0
    · rw [sg_X6_parse_19]
      simp (disch := first | omega | assumption) only [↓if_pos, ↓if_neg, Option.bind_some, ob_wr_id, e0]
    · rw [sg_X6_parse_19]
      simp (disch := first | omega | assumption) only [↓if_pos, ↓if_neg, Option.bind_some, ob_wr_id, e0]
  · rw [sg_X6_parse_19]
    simp (disch := first | omega | assumption) only [↓if_pos, ↓if_neg, Option.bind_some, ob_wr_id, e0]
/-- what the marks do -/
theorem tm_open {g : ob_Mem} {c : Int} (ho : g 6 0 7 = 0) (hO : 0 ≤ g 6 0 1 ∧ g 6 0 1 < 120) (hn : nbr c ≠ 0) : ∃ g', ob_E (77, 0, [(9, 0), (1, c)], [], (g, none)) = some (1, (g', none)) ∧ g' 6 0 9 = nbr c ∧ g' 6 0 7 = 1 ∧ g' 6 0 8 = 0 ∧ g' 35 0 (g 6 0 1) = c ∧ g' 37 0 (g 6 0 1) = g 6 0 6 ∧ ∀ k i x, ¬ (k = 6 ∧ (x = 9 ∨ x = 7 ∨ x = 8)) → ¬ ((k = 35 ∨ k = 37) ∧ x = g 6 0 1) → g' k i x = g k i x := by
  generalize hO' : g 6 0 1 = O at *
  generalize hU : g 6 0 6 = U at *
  generalize hN : nbr c = N at *
  refine ⟨ob_set (ob_set (ob_set (ob_set (ob_set g 6 0 9 N) 6 0 7 1) 6 0 8 0) 35 0 O c) 37 0 O U, ?_, ?_, ?_, ?_, ?_, ?_, fun k i x h1 h2 => ?_⟩
  · have nn := cl_numbersOf g c
    rw [hN] at nn
    simp (disch := first | omega | assumption) only [↓if_pos, ↓if_neg, Option.bind_some, ob_wr_id, rs_k, rs_i, rs_s, rs_e, sg_X6_takesMark_0, ho, sg_X6_opensOrder_0, nn, sg_X6_opensOrder_5, hO', hU, sg_X6_takesMark_12]
  · simp (disch := omega) only [rs_k, rs_i, rs_s, rs_e, up_e, up_n]
  · simp (disch := omega) only [rs_k, rs_i, rs_s, rs_e, up_e, up_n]
  · simp (disch := omega) only [rs_k, rs_i, rs_s, rs_e, up_e, up_n]
  · simp (disch := omega) only [rs_k, rs_i, rs_s, rs_e, up_e, up_n]
  · simp (disch := omega) only [rs_k, rs_i, rs_s, rs_e, up_e, up_n]
  · by_cases z : k = 6
    · simp (disch := omega) only [rs_k, rs_i, rs_s, rs_e, up_e, up_n]
    · by_cases y : k = 35
      · simp (disch := omega) only [rs_k, rs_i, rs_s, rs_e, up_e, up_n]
      · by_cases w : k = 37
        · simp (disch := omega) only [rs_k, rs_i, rs_s, rs_e, up_e, up_n]
        · simp (disch := omega) only [rs_k, rs_i, rs_s, rs_e, up_e, up_n]
theorem tm_noopen {g : ob_Mem} {c : Int} (ho : g 6 0 7 = 0) (hn : nbr c = 0) : ob_E (77, 0, [(9, 0), (1, c)], [], (g, none)) = some (0, (ob_set g 6 0 9 0, none)) := by
  have nn := cl_numbersOf g c
  rw [hn] at nn
  simp (disch := first | omega | assumption) only [↓if_pos, ↓if_neg, Option.bind_some, ob_wr_id, rs_k, rs_i, rs_s, rs_e, sg_X6_takesMark_0, ho, sg_X6_opensOrder_0, nn, sg_X6_opensOrder_5, sg_X6_takesMark_12, if_true]
theorem tm_want {g : ob_Mem} {c : Int} (ho : g 6 0 7 ≠ 0) (hw : 0 < g 6 0 9) : ob_E (77, 0, [(9, 0), (1, c)], [], (g, none)) = some (0, (g, none)) := by
  simp (disch := first | omega | assumption) only [↓if_pos, ↓if_neg, Option.bind_some, ob_wr_id, sg_X6_takesMark_0]
theorem tm_end {g : ob_Mem} (ho : g 6 0 7 ≠ 0) (hw : g 6 0 9 ≤ 0) (hO : 0 ≤ g 6 0 1 ∧ g 6 0 1 < 120) : ∃ g', ob_E (77, 0, [(9, 0), (1, 59)], [], (g, none)) = some (1, (g', none)) ∧ g' 6 0 1 = g 6 0 1 + 1 ∧ g' 6 0 7 = 0 ∧ g' 37 0 (g 6 0 1 + 1) = g 6 0 6 ∧ ∀ k i x, ¬ (k = 6 ∧ (x = 1 ∨ x = 7)) → ¬ (k = 37 ∧ x = g 6 0 1 + 1) → g' k i x = g k i x := by
  generalize hO' : g 6 0 1 = O at *
  generalize hU : g 6 0 6 = U at *
  refine ⟨ob_set (ob_set (ob_set g 6 0 1 (O + 1)) 37 0 (O + 1) U) 6 0 7 0, ?_, ?_, ?_, ?_, fun k i x h1 h2 => ?_⟩
  · simp (disch := first | omega | assumption) only [↓if_pos, ↓if_neg, Option.bind_some, ob_wr_id, rs_k, rs_i, rs_s, rs_e, sg_X6_takesMark_0, sg_X6_endOrder_0, hO', hU, sg_X6_takesMark_32]
  · simp (disch := omega) only [rs_k, rs_i, rs_s, rs_e, up_e, up_n]
  · simp (disch := omega) only [rs_k, rs_i, rs_s, rs_e, up_e, up_n]
  · simp (disch := omega) only [rs_k, rs_i, rs_s, rs_e, up_e, up_n]
  · by_cases z : k = 6
    · simp (disch := omega) only [rs_k, rs_i, rs_s, rs_e, up_e, up_n]
    · by_cases w : k = 37
      · simp (disch := omega) only [rs_k, rs_i, rs_s, rs_e, up_e, up_n]
      · simp (disch := omega) only [rs_k, rs_i, rs_s, rs_e, up_e, up_n]
def nts (g : ob_Mem) (c : Int) : Prop := (c = 58 ∧ g 35 0 (g 6 0 1) = 116 ∧ g 6 0 8 = 0) ∨ (c = 44 ∧ g 6 0 8 ≠ 0)
theorem tm_notes {g : ob_Mem} {c : Int} (ho : g 6 0 7 ≠ 0) (hw : g 6 0 9 ≤ 0) (hO : 0 ≤ g 6 0 1 ∧ g 6 0 1 < 120) (hn : nts g c) : ∃ g', ob_E (77, 0, [(9, 0), (1, c)], [], (g, none)) = some (1, (g', none)) ∧ g' 6 0 8 = 1 ∧ g' 6 0 9 = 3 ∧ ∀ k i x, ¬ (k = 6 ∧ (x = 8 ∨ x = 9)) → g' k i x = g k i x := by
  refine ⟨ob_set (ob_set g 6 0 8 1) 6 0 9 3, ?_, ?_, ?_, fun k i x h1 => ?_⟩
  · rcases hn with ⟨rfl, h1, h2⟩ | ⟨rfl, h2⟩
    · simp (disch := first | omega | assumption) only [↓if_pos, ↓if_neg, Option.bind_some, ob_wr_id, sg_X6_takesMark_0, sg_X6_takesNotes_0, sg_X6_takesNotes_31, sg_X6_takesNotes_32, sg_X6_takesNotes_50, sg_X6_takesNotes_51, sg_X6_takesNotes_62, h1, h2, sg_X6_takesMark_39]
    · simp (disch := first | omega | assumption) only [↓if_pos, ↓if_neg, Option.bind_some, ob_wr_id, sg_X6_takesMark_0, sg_X6_takesNotes_0, sg_X6_takesNotes_31, sg_X6_takesNotes_32, sg_X6_takesNotes_50, sg_X6_takesNotes_51, sg_X6_takesNotes_62, sg_X6_takesMark_39]
  · simp (disch := omega) only [rs_k, rs_i, rs_s, rs_e, up_e, up_n]
  · simp (disch := omega) only [rs_k, rs_i, rs_s, rs_e, up_e, up_n]
  · by_cases z : k = 6
    · simp (disch := omega) only [rs_k, rs_i, rs_s, rs_e, up_e, up_n]
    · simp (disch := omega) only [rs_k, rs_i, rs_s, rs_e, up_e, up_n]
theorem tm_bad {g : ob_Mem} {c : Int} (ho : g 6 0 7 ≠ 0) (hw : g 6 0 9 ≤ 0) (hO : 0 ≤ g 6 0 1 ∧ g 6 0 1 < 120) (hc : c ≠ 59) (hn : ¬ nts g c) : ob_E (77, 0, [(9, 0), (1, c)], [], (g, none)) = some (0, (g, none)) := by
  have tn : ob_E (80, 0, [(9, 0), (1, c), (0, 0), (0, 0)], [], (g, none)) = some (0, (g, none)) := by
    have h51 : ob_E (80, 32, [(9, 0), (1, c), (0, 0), (0, 0)], [(1, 0)], (g, none)) = some (0, (g, none)) := by
      by_cases z : c = 44
      · have : g 6 0 8 = 0 := by
          by_cases y : g 6 0 8 = 0
          · exact y
          · exact absurd (Or.inr ⟨z, y⟩) hn
        simp (disch := first | omega | assumption) only [↓if_pos, ↓if_neg, Option.bind_some, ob_wr_id, sg_X6_takesNotes_32, sg_X6_takesNotes_50, sg_X6_takesNotes_51]
      · simp (disch := first | omega | assumption) only [↓if_pos, ↓if_neg, Option.bind_some, ob_wr_id, sg_X6_takesNotes_32, sg_X6_takesNotes_50, sg_X6_takesNotes_51]
    rw [sg_X6_takesNotes_0]
    by_cases z : c = 58
    · rw [if_pos z, if_pos hO]
      by_cases y : g 35 0 (g 6 0 1) = 116
      · have : g 6 0 8 ≠ 0 := fun w => hn (Or.inl ⟨z, y, w⟩)
        rw [if_pos y, if_neg this, sg_X6_takesNotes_31, h51]
      · rw [if_neg y, sg_X6_takesNotes_31, h51]
    · rw [if_neg z, sg_X6_takesNotes_31, h51]
  simp (disch := first | omega | assumption) only [↓if_pos, ↓if_neg, Option.bind_some, ob_wr_id, sg_X6_takesMark_0, tn, sg_X6_takesMark_39]
/-- ended orders stay -/
def OL (f : Int) (g gF : ob_Mem) : Prop := (∀ x, 0 ≤ x → x < g 6 0 1 → gF 35 0 x = g 35 0 x ∧ gF 37 0 x = g 37 0 x) ∧ (∀ x, 0 ≤ x → x < g 6 0 6 → (f = 0 ∨ x < g 6 0 6 - 1) → gF 38 0 x = g 38 0 x) ∧ (g 6 0 7 = 0 → g 37 0 (g 6 0 1) = g 6 0 6 → gF 37 0 (g 6 0 1) = g 6 0 6) ∧ (g 6 0 7 ≠ 0 → gF 37 0 (g 6 0 1) = g 37 0 (g 6 0 1) ∧ gF 35 0 (g 6 0 1) = g 35 0 (g 6 0 1)) ∧ g 6 0 1 ≤ gF 6 0 1
theorem OL_r {f : Int} {g : ob_Mem} : OL f g g := ⟨fun _ _ _ => ⟨rfl, rfl⟩, fun _ _ _ _ => rfl, fun _ h => h, fun _ => ⟨rfl, rfl⟩, Int.le_refl _⟩
theorem sp_step {T : Int → Int} {L a f : Int} {g : ob_Mem} {R : ob_Res} (hB : TB T L) (hx : TX T L g) (hp : PZ L a f g) (h : XP a f g R) (ha : a < L) (hw3 : g 6 0 7 ≠ 0 → g 6 0 9 ≤ 3) : (∃ v g', R = some (v, (g', none)) ∧ FG g g' ∧ OL f g g') ∨ (∃ f' g', XP (a + 1) f' g' R ∧ PZ L (a + 1) f' g' ∧ FG g g' ∧ (g' 6 0 7 ≠ 0 → g' 6 0 9 ≤ 3) ∧ ∀ gF, OL f' g' gF → OL f g gF) := by
  obtain ⟨p1, p2, p3, p4, p5, p6⟩ := id hp
  obtain ⟨b1, b2⟩ := id hB
  by_cases c1 : fig (T a)
  · obtain e | e | e : f = 0 ∨ f = 1 ∨ f = 2 := by omega
    · subst e
      by_cases c2 : g 6 0 7 = 0 ∨ g 6 0 9 < 1
      · exact Or.inl ⟨a, g, sp_nonum hB hx hp h ha c1 c2, FG_r, OL_r⟩
      · have hw3 := hw3 (by omega)
        obtain ⟨g', q1, q2, q3, q4, q5, q6⟩ := sp_new hB hx hp h ha c1 (by omega) (by omega)
        refine Or.inr ⟨1, g', q1, q2, ⟨fun k i x a b c d => q6 k i x (by omega) (by omega), q6 6 0 0 (by omega) (by omega)⟩, fun _ => by omega, fun gF ⟨o1, o2, o3, o4, o5⟩ => ?_⟩
        have e1 := q6 6 0 1 (by omega) (by omega)
        have e7 := q6 6 0 7 (by omega) (by omega)
        have f35 : ∀ x, g' 35 0 x = g 35 0 x := fun x => q6 35 0 x (by omega) (by omega)
        have f37 : ∀ x, g' 37 0 x = g 37 0 x := fun x => q6 37 0 x (by omega) (by omega)
        rw [e1] at o1 o3 o4
        rw [e7] at o3 o4
        refine ⟨fun x a b => ?_, fun x a b _ => ?_, fun z => absurd z (by omega), fun z => ?_, by omega⟩
        · rw [← f35, ← f37]
          exact o1 x a b
        · rw [o2 x a (by omega) (Or.inr (by omega)), q6 38 0 x (by omega) (by omega)]
        · rw [← f35, ← f37]
          exact o4 z
    · subst e
      obtain ⟨g', q1, q2, q5, q6⟩ := sp_more hB hx hp h ha c1
      have f6 : ∀ x, g' 6 0 x = g 6 0 x := fun x => q6 6 0 x (by omega)
      refine Or.inr ⟨2, g', q1, q2, ⟨fun k i x a b c d => q6 k i x (by omega), f6 0⟩, by rw [f6, f6]; exact hw3, fun gF ⟨o1, o2, o3, o4, o5⟩ => ?_⟩
      have f35 : ∀ x, g' 35 0 x = g 35 0 x := fun x => q6 35 0 x (by omega)
      have f37 : ∀ x, g' 37 0 x = g 37 0 x := fun x => q6 37 0 x (by omega)
      rw [f6] at o1 o2 o3 o4
      rw [f6] at o3 o4
      refine ⟨fun x a b => ?_, fun x a b d => ?_, fun z y => ?_, fun z => ?_, by rw [← f6 1]; exact o5⟩
      · rw [← f35, ← f37]
        exact o1 x a b
      · rw [o2 x a b (Or.inr (by omega)), q6 38 0 x (by omega)]
      · rw [o3 z (by rw [f37, f6]; exact y), f6]
      · rw [← f35, ← f37]
        exact o4 z
    · subst e
      exact Or.inl ⟨a - 2, g, sp_third hB hx hp h ha c1, FG_r, OL_r⟩
  · by_cases c2 : T a = 32
    · obtain ⟨q1, q2⟩ := sp_blank hB hx hp h ha c2
      exact Or.inr ⟨0, g, q1, q2, FG_r, hw3, fun gF ⟨o1, o2, o3, o4, o5⟩ => ⟨o1, fun x a b _ => o2 x a b (Or.inl rfl), o3, o4, o5⟩⟩
    · by_cases o : g 6 0 7 = 0
      · by_cases n : nbr (T a) = 0
        · have := (sp_mark hB hx hp h ha c1 c2 (Or.inl rfl) (tm_noopen o n)).2 rfl
          refine Or.inl ⟨a, _, this, ⟨fun k i x a _ _ _ => rs_k a, rs_s (by omega)⟩, ⟨fun x a b => ⟨rs_k (by omega), rs_k (by omega)⟩, fun x a b _ => rs_k (by omega), fun _ z => by rw [rs_k (by omega)]; exact z, fun z => absurd o z, by rw [rs_s (by omega)]; exact Int.le_refl _⟩⟩
        · obtain ⟨g', r0, r1, r2, r3, r4, r5, r6⟩ := tm_open (c := T a) o (by omega) n
          have f6 : ∀ x, x ≠ 9 → x ≠ 7 → x ≠ 8 → g' 6 0 x = g 6 0 x := fun x a b c => r6 6 0 x (by omega) (by omega)
          have q1 := (sp_mark hB hx hp h ha c1 c2 (Or.inr rfl) r0).1 rfl
          have nb := nbr_b (T a)
          have e1 := f6 1 (by omega) (by omega) (by omega)
          have e6 := f6 6 (by omega) (by omega) (by omega)
          refine Or.inr ⟨0, g', q1, ⟨by omega, by omega, by omega, by omega, fun z => absurd z (by omega), fun z => absurd z (by omega)⟩, ⟨fun k i x a b c d => r6 k i x (by omega) (by omega), f6 0 (by omega) (by omega) (by omega)⟩, fun _ => by omega, fun gF ⟨o1, o2, o3, o4, o5⟩ => ?_⟩
          rw [e1] at o1 o4
          rw [e6] at o2
          refine ⟨fun x a b => ?_, fun x a b _ => ?_, fun _ z => ?_, fun z => absurd o z, by omega⟩
          · obtain ⟨y1, y2⟩ := o1 x a b
            rw [y1, y2]
            exact ⟨r6 35 0 x (by omega) (by omega), r6 37 0 x (by omega) (by omega)⟩
          · rw [o2 x a b (Or.inl rfl), r6 38 0 x (by omega) (by omega)]
          · rw [(o4 (by omega)).1, r5]
      · by_cases w : 0 < g 6 0 9
        · have := (sp_mark hB hx hp h ha c1 c2 (Or.inl rfl) (tm_want o w)).2 rfl
          exact Or.inl ⟨a, g, this, FG_r, OL_r⟩
        · by_cases e : T a = 59
          · obtain ⟨g', r0, r1, r2, r3, r4⟩ := tm_end o (by omega) (by omega)
            rw [← e] at r0
            have q1 := (sp_mark hB hx hp h ha c1 c2 (Or.inr rfl) r0).1 rfl
            have f6 : ∀ x, x ≠ 1 → x ≠ 7 → g' 6 0 x = g 6 0 x := fun x a b => r4 6 0 x (by omega) (by omega)
            have e6 := f6 6 (by omega) (by omega)
            have e9 := f6 9 (by omega) (by omega)
            refine Or.inr ⟨0, g', q1, ⟨by omega, by omega, by omega, by omega, fun z => absurd z (by omega), fun z => absurd z (by omega)⟩, ⟨fun k i x a b c d => r4 k i x (by omega) (by omega), f6 0 (by omega) (by omega)⟩, fun _ => by omega, fun gF ⟨o1, o2, o3, o4, o5⟩ => ?_⟩
            rw [r1] at o1
            rw [e6] at o2
            refine ⟨fun x a b => ?_, fun x a b _ => ?_, fun z => absurd z o, fun z => ?_, by omega⟩
            · obtain ⟨y1, y2⟩ := o1 x a (by omega)
              rw [y1, y2]
              exact ⟨r4 35 0 x (by omega) (by omega), r4 37 0 x (by omega) (by omega)⟩
            · rw [o2 x a b (Or.inl rfl), r4 38 0 x (by omega) (by omega)]
            · obtain ⟨y1, y2⟩ := o1 (g 6 0 1) (by omega) (by omega)
              rw [y1, y2]
              exact ⟨r4 37 0 _ (by omega) (by omega), r4 35 0 _ (by omega) (by omega)⟩
          · by_cases n : nts g (T a)
            · obtain ⟨g', r0, r1, r2, r4⟩ := tm_notes o (by omega) (by omega) n
              have q1 := (sp_mark hB hx hp h ha c1 c2 (Or.inr rfl) r0).1 rfl
              have f6 : ∀ x, x ≠ 8 → x ≠ 9 → g' 6 0 x = g 6 0 x := fun x a b => r4 6 0 x (by omega)
              have e1 := f6 1 (by omega) (by omega)
              have e6 := f6 6 (by omega) (by omega)
              have e7 := f6 7 (by omega) (by omega)
              have fk : ∀ k x, k ≠ 6 → g' k 0 x = g k 0 x := fun k x a => r4 k 0 x (by omega)
              refine Or.inr ⟨0, g', q1, ⟨by omega, by omega, by omega, by omega, fun z => absurd z (by omega), fun z => absurd z (by omega)⟩, ⟨fun k i x a b c d => r4 k i x (by omega), f6 0 (by omega) (by omega)⟩, fun _ => by omega, fun gF ⟨o1, o2, o3, o4, o5⟩ => ?_⟩
              rw [e1] at o1 o3 o4
              rw [e6] at o2
              rw [e7] at o4
              refine ⟨fun x a b => ?_, fun x a b _ => ?_, fun z => absurd z o, fun z => ?_, by omega⟩
              · rw [← fk 35 x (by omega), ← fk 37 x (by omega)]
                exact o1 x a b
              · rw [o2 x a b (Or.inl rfl), fk 38 x (by omega)]
              · rw [← fk 35 _ (by omega), ← fk 37 _ (by omega)]
                exact o4 z
            · have := (sp_mark hB hx hp h ha c1 c2 (Or.inl rfl) (tm_bad o (by omega) (by omega) e n)).2 rfl
              exact Or.inl ⟨a, g, this, FG_r, OL_r⟩
theorem sp_mono {T : Int → Int} {L : Int} {R : ob_Res} (hB : TB T L) : ∀ (n : Nat) (a f : Int) (g : ob_Mem), L - a = n → TX T L g → PZ L a f g → (g 6 0 7 ≠ 0 → g 6 0 9 ≤ 3) → XP a f g R → ∃ v gF, R = some (v, (gF, none)) ∧ FG g gF ∧ OL f g gF
  | 0, a, f, g, e, hx, hp, hw, h => by
    have : a = L := by omega
    subst this
    exact ⟨_, g, sp_end hx h, FG_r, OL_r⟩
  | n + 1, a, f, g, e, hx, hp, hw, h => by
    rcases sp_step hB hx hp h (by omega) hw with ⟨v, g', q1, q2, q3⟩ | ⟨f', g', q1, q2, q3, q4, q5⟩
    · exact ⟨v, g', q1, q2, q3⟩
    · obtain ⟨v, gF, z1, z2, z3⟩ := sp_mono hB n (a + 1) f' g' (by omega) (TX_F hx q3) q2 q4 q1
      exact ⟨v, gF, z1, FG_t q3 z2, q5 gF z3⟩
