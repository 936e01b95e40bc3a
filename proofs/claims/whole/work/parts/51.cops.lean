-- THE CLASS: changes of a barrel, held against rows
/-- the answer is V, and barrel j tells the row S then -/
def CO (m : ob_Mem) (j V : Int) (S : Int → Int) (v : Int) (m' : ob_Mem) : Prop := v = V ∧ Rep m' j S ∧ sm (gB j) m m'
theorem gB_H {j : Int} : gB j 0 j := Or.inl ⟨Or.inl rfl, rfl⟩
theorem gB_G {j : Int} : gB j 16 j := Or.inl ⟨Or.inr rfl, rfl⟩
theorem gN_gB {j t : Int} (ht : 0 ≤ t ∧ t < 3) {k : Nat} {i : Int} (h : gN (2 * (3 * j + t)) k i) : gB j k i := by
  obtain ⟨h1, h2⟩ := h
  exact Or.inr (Or.inl ⟨h1, by omega⟩)
theorem gP_gB {j t : Int} (ht : 0 ≤ t ∧ t < 3) {k : Nat} {i : Int} (h : gP (3 * j + t) k i) : gB j k i := by
  rcases h with ⟨h1, h2⟩ | ⟨h1, h2⟩
  · exact Or.inr (Or.inl ⟨h1, by omega⟩)
  · exact Or.inr (Or.inr ⟨h1, by omega⟩)
def aV (s : Int → Int) (w v : Int) : Int := if (w = 0 ∧ 0 ≤ v ∧ v ≤ 2) ∨ (w = 1 ∧ 0 ≤ v ∧ v ≤ 3) ∨ (w = 2 ∧ 1 ≤ v ∧ v ≤ 99) then s (3 + w) else -2
def aS (s : Int → Int) (w v : Int) : Int → Int := if (w = 0 ∧ 0 ≤ v ∧ v ≤ 2) ∨ (w = 1 ∧ 0 ≤ v ∧ v ≤ 3) ∨ (w = 2 ∧ 1 ≤ v ∧ v ≤ 99) then up s (3 + w) v else s
theorem cl_adjust {W : Int} {m : ob_Mem} {j w v : Int} {s : Int → Int} (hV : VV W s) (h : Rep m j s) : wp (ob_E (9, 0, [(3, j), (1, w), (1, v), (0, 0)], [], (m, none))) (CO m j (aV s w v) (aS s w v)) := by
  unfold aV aS
  by_cases c0 : w = 0 ∧ 0 ≤ v ∧ v ≤ 2
  · simp (disch := first | omega | assumption) only [↓if_pos, ↓if_neg, Option.bind_some, ob_wr_id, sg_X0_adjust_0, sg_X0_adjust_10, sg_X0_adjust_25, sg_X0_adjust_36, sg_X0_adjust_51, sg_X0_adjust_63, cl_within]
    obtain ⟨rfl, -⟩ := c0
    exact wp_ret ⟨rpW h, Rep_H hV h (by omega) rfl, sm_set sm_r gB_H⟩
  · by_cases c1 : w = 1 ∧ 0 ≤ v ∧ v ≤ 3
    · simp (disch := first | omega | assumption) only [↓if_pos, ↓if_neg, Option.bind_some, ob_wr_id, sg_X0_adjust_0, sg_X0_adjust_10, sg_X0_adjust_25, sg_X0_adjust_36, sg_X0_adjust_51, sg_X0_adjust_63, cl_within]
      obtain ⟨rfl, -⟩ := c1
      exact wp_ret ⟨rpD h, Rep_H hV h (by omega) rfl, sm_set sm_r gB_H⟩
    · by_cases c2 : w = 2 ∧ 1 ≤ v ∧ v ≤ 99
      · simp (disch := first | omega | assumption) only [↓if_pos, ↓if_neg, Option.bind_some, ob_wr_id, sg_X0_adjust_0, sg_X0_adjust_10, sg_X0_adjust_25, sg_X0_adjust_36, sg_X0_adjust_51, sg_X0_adjust_63, cl_within]
        obtain ⟨rfl, -⟩ := c2
        exact wp_ret ⟨rpL h, Rep_H hV h (by omega) rfl, sm_set sm_r gB_H⟩
      · have e : wp (some (-2, (m, none))) (CO m j (-2) s) := wp_ret ⟨rfl, h, sm_r⟩
        by_cases w0 : w = 0
        · simp (disch := first | omega | assumption) only [↓if_pos, ↓if_neg, Option.bind_some, ob_wr_id, sg_X0_adjust_0, sg_X0_adjust_10, sg_X0_adjust_25, sg_X0_adjust_36, sg_X0_adjust_51, sg_X0_adjust_63, cl_within]
          exact e
        · by_cases w1 : w = 1
          · simp (disch := first | omega | assumption) only [↓if_pos, ↓if_neg, Option.bind_some, ob_wr_id, sg_X0_adjust_0, sg_X0_adjust_10, sg_X0_adjust_25, sg_X0_adjust_36, sg_X0_adjust_51, sg_X0_adjust_63, cl_within]
            exact e
          · by_cases w2 : w = 2
            · simp (disch := first | omega | assumption) only [↓if_pos, ↓if_neg, Option.bind_some, ob_wr_id, sg_X0_adjust_0, sg_X0_adjust_10, sg_X0_adjust_25, sg_X0_adjust_36, sg_X0_adjust_51, sg_X0_adjust_63, cl_within]
              exact e
            · simp (disch := first | omega | assumption) only [↓if_pos, ↓if_neg, Option.bind_some, ob_wr_id, sg_X0_adjust_0, sg_X0_adjust_10, sg_X0_adjust_25, sg_X0_adjust_36, sg_X0_adjust_51, sg_X0_adjust_63, cl_within]
              exact e
def gV (s : Int → Int) (k v : Int) : Int := if (0 ≤ k ∧ k < s 1) ∧ 0 ≤ v ∧ v ≤ 6 then s (6 + k) else -2
def gS (s : Int → Int) (k v : Int) : Int → Int := if (0 ≤ k ∧ k < s 1) ∧ 0 ≤ v ∧ v ≤ 6 then up s (6 + k) v else s
theorem cl_setGap {W : Int} {m : ob_Mem} {j k v : Int} {s : Int → Int} (hV : VV W s) (h : Rep m j s) : wp (ob_E (10, 0, [(3, j), (1, k), (1, v), (0, 0)], [], (m, none))) (CO m j (gV s k v) (gS s k v)) := by
  obtain ⟨⟨-, v2, -⟩, -⟩ := id hV
  have e1 := rpK h
  unfold gV gS
  have e : wp (some (-2, (m, none))) (CO m j (-2) s) := wp_ret ⟨rfl, h, sm_r⟩
  by_cases c0 : 0 ≤ k ∧ k < s 1
  · by_cases c1 : 0 ≤ v ∧ v ≤ 6
    · simp (disch := first | omega | assumption) only [↓if_pos, ↓if_neg, Option.bind_some, ob_wr_id, sg_X0_setGap_0, sg_X0_setGap_5, sg_X0_setGap_15, cl_hasKey, cl_within]
      exact wp_ret ⟨rpG h k (by omega) (by omega), Rep_G hV h (by omega) rfl, sm_set sm_r gB_G⟩
    · simp (disch := first | omega | assumption) only [↓if_pos, ↓if_neg, Option.bind_some, ob_wr_id, sg_X0_setGap_0, sg_X0_setGap_5, sg_X0_setGap_15, cl_hasKey, cl_within]
      exact e
  · simp (disch := first | omega | assumption) only [↓if_pos, ↓if_neg, Option.bind_some, ob_wr_id, sg_X0_setGap_0, sg_X0_setGap_5, sg_X0_setGap_15, cl_hasKey, cl_within]
    exact e
def tkV (s : Int → Int) (t l : Int) : Int := if (0 ≤ t ∧ t < s 2) ∧ 1 ≤ l ∧ l ≤ s 0 then s (12 + 116 * t + 2) else -2
def tkS (s : Int → Int) (t l : Int) : Int → Int := if (0 ≤ t ∧ t < s 2) ∧ 1 ≤ l ∧ l ≤ s 0 then up (up s (12 + 116 * t + 0) l) (12 + 116 * t + 2) 0 else s
theorem cl_setTicks {W : Int} {m : ob_Mem} {j t l : Int} {s : Int → Int} (hV : VV W s) (h : Rep m j s) : wp (ob_E (11, 0, [(3, j), (1, t), (1, l), (0, 0)], [], (m, none))) (CO m j (tkV s t l) (tkS s t l)) := by
  obtain ⟨⟨v1, v2, v3, -⟩, -⟩ := id hV
  have e1 := rpT h
  have e2 := rpR h
  unfold tkV tkS
  have e : wp (some (-2, (m, none))) (CO m j (-2) s) := wp_ret ⟨rfl, h, sm_r⟩
  by_cases c0 : 0 ≤ t ∧ t < s 2
  · by_cases c1 : 1 ≤ l ∧ l ≤ s 0
    · have ht : 0 ≤ t ∧ t < 3 := by omega
      simp (disch := first | omega | assumption) only [↓if_pos, ↓if_neg, Option.bind_some, ob_wr_id, sg_X0_setTicks_0, sg_X0_setTicks_5, sg_X0_setTicks_17, cl_hasTune, cl_within]
      have z : sm (gN (2 * (3 * j + t))) m (ob_set (ob_set m 3 (2 * (3 * j + t)) 0 l) 3 (2 * (3 * j + t)) 2 0) := sm_set (sm_set sm_r ⟨Or.inl rfl, rfl⟩) ⟨Or.inl rfl, rfl⟩
      refine wp_ret ⟨rpm h ht, Rep_N hV h ht z (fun p hp => ?_) ⟨?_, ?_, ?_, fun i h1 h2 => ?_⟩, sm_m z (fun k i => gN_gB ht)⟩
      · rw [up_n (by omega), up_n (by omega)]
      · simp (disch := omega) only [rs_k, rs_i, rs_s, rs_e, up_e, up_n]
      · simp (disch := omega) only [rs_k, rs_i, rs_s, rs_e, up_e, up_n]
        exact rps h ht
      · simp (disch := omega) only [rs_k, rs_i, rs_s, rs_e, up_e, up_n]
      · exfalso
        have h2 : i < up (up s (12 + 116 * t + 0) l) (12 + 116 * t + 2) 0 (12 + 116 * t + 2) := h2
        rw [up_e rfl] at h2
        omega
    · simp (disch := first | omega | assumption) only [↓if_pos, ↓if_neg, Option.bind_some, ob_wr_id, sg_X0_setTicks_0, sg_X0_setTicks_5, sg_X0_setTicks_17, cl_hasTune, cl_within]
      exact e
  · simp (disch := first | omega | assumption) only [↓if_pos, ↓if_neg, Option.bind_some, ob_wr_id, sg_X0_setTicks_0, sg_X0_setTicks_5, sg_X0_setTicks_17, cl_hasTune, cl_within]
    exact e
def shV (s : Int → Int) (t d : Int) : Int := if (0 ≤ t ∧ t < s 2) ∧ 0 ≤ d ∧ d < s 0 then s (12 + 116 * t + 1) else -2
def shS (s : Int → Int) (t d : Int) : Int → Int := if (0 ≤ t ∧ t < s 2) ∧ 0 ≤ d ∧ d < s 0 then up s (12 + 116 * t + 1) d else s
theorem rN_shift {m m' : ob_Mem} {c d : Int} {q q' : Int → Int} (h : rN m c q) (h12 : q 2 ≤ 12) (e : m' = ob_set m 3 c 1 d) (hq : ∀ w, 0 ≤ w → w < 39 → w ≠ 1 → q' w = q w) (hd : q' 1 = d) : rN m' c q' := by
  obtain ⟨h1, h2, h3, h4⟩ := h
  subst e
  refine ⟨?_, ?_, ?_, fun i a b => ?_⟩
  · rw [rs_s (by omega), h1, hq 0 (by omega) (by omega) (by omega)]
  · rw [rs_e rfl rfl, hd]
  · rw [rs_s (by omega), h3, hq 2 (by omega) (by omega) (by omega)]
  · rw [hq 2 (by omega) (by omega) (by omega)] at b
    obtain ⟨b1, b2, b3⟩ := h4 i a b
    refine ⟨?_, ?_, ?_⟩
    · rw [rs_k (by omega), b1, hq _ (by omega) (by omega) (by omega)]
    · rw [rs_k (by omega), b2, hq _ (by omega) (by omega) (by omega)]
    · rw [rs_k (by omega), b3, hq _ (by omega) (by omega) (by omega)]
theorem cl_setShift {W : Int} {m : ob_Mem} {j t d : Int} {s : Int → Int} (hV : VV W s) (h : Rep m j s) : wp (ob_E (14, 0, [(3, j), (1, t), (1, d), (0, 0)], [], (m, none))) (CO m j (shV s t d) (shS s t d)) := by
  obtain ⟨⟨v1, v2, v3, -⟩, v8⟩ := id hV
  have e1 := rpT h
  have e2 := rpR h
  unfold shV shS
  have e : wp (some (-2, (m, none))) (CO m j (-2) s) := wp_ret ⟨rfl, h, sm_r⟩
  by_cases c0 : 0 ≤ t ∧ t < s 2
  · by_cases c1 : 0 ≤ d ∧ d < s 0
    · have ht : 0 ≤ t ∧ t < 3 := by omega
      obtain ⟨⟨w1, w2, w3, w4, w5⟩, -⟩ := v8 t ht.1 ht.2
      simp (disch := first | omega | assumption) only [↓if_pos, ↓if_neg, Option.bind_some, ob_wr_id, sg_X0_setShift_0, sg_X0_setShift_5, sg_X0_setShift_19, cl_hasTune, cl_within]
      have z : sm (gN (2 * (3 * j + t))) m (ob_set m 3 (2 * (3 * j + t)) 1 d) := sm_set sm_r ⟨Or.inl rfl, rfl⟩
      refine wp_ret ⟨rps h ht, Rep_N hV h ht z (fun p hp => ?_) (rN_shift (h.2.2 t ht.1 ht.2).1 w3.2 rfl (fun w h1 h2 h3 => up_n (by omega)) (up_e rfl)), sm_m z (fun k i => gN_gB ht)⟩
      rw [up_n (by omega)]
    · simp (disch := first | omega | assumption) only [↓if_pos, ↓if_neg, Option.bind_some, ob_wr_id, sg_X0_setShift_0, sg_X0_setShift_5, sg_X0_setShift_19, cl_hasTune, cl_within]
      exact e
  · simp (disch := first | omega | assumption) only [↓if_pos, ↓if_neg, Option.bind_some, ob_wr_id, sg_X0_setShift_0, sg_X0_setShift_5, sg_X0_setShift_19, cl_hasTune, cl_within]
    exact e
theorem cl_isTaken {W : Int} {m : ob_Mem} {j t k a l : Int} {s : Int → Int} (hV : VV W s) (h : Rep m j s) (hok : okN s t k a l) : wp (ob_E (39, 0, [(6, 2 * (3 * j + t)), (1, k), (1, a), (1, l), (0, 0)], [], (m, none))) (fun v m' => m' = m ∧ (v = 1 ∧ Tkn s t k a l ∨ v = 0 ∧ ¬ Tkn s t k a l)) := by
  obtain ⟨⟨v1, v2, v3, -⟩, v8⟩ := id hV
  obtain ⟨o1, o2, o3, o4⟩ := id hok
  have ht : 0 ≤ t ∧ t < 3 := by omega
  obtain ⟨⟨w1, w2, w3, w4, w5⟩, -⟩ := v8 t ht.1 ht.2
  have em := rpm h ht
  have ek := rpk h ht
  have ea := rpa h ht
  have el := rpl h ht
  rw [sg_X3_isTaken_0]
  refine wp_for (α := Unit) (fun i _ => ob_E (39, 3, [(6, 2 * (3 * j + t)), (1, k), (1, a), (1, l), (1, i)], [], (m, none))) 0 (s (12 + 116 * t + 2)) (fun j _ => ∀ i, 0 ≤ i → i < j → ¬ tkB s t k a l i) ?_ ?_ (by omega) (x := ()) (fun i h1 h2 => absurd h1 (by omega))
  · intro i _ h1 h2 hI hk
    obtain ⟨n1, n2⟩ := w5 i h1 h2
    have ek := ek i h1 h2
    have ea := ea i h1 h2
    have el := el i h1 h2
    have hk' := fun (z : ¬ tkB s t k a l i) => hk () (fun i' g1 g2 => by
      by_cases e : i' = i
      · rw [e]
        exact z
      · exact hI i' g1 (by omega))
    rw [sg_X3_isTaken_3]
    by_cases c1 : s (12 + 116 * t + (3 + 3 * i)) = k
    · by_cases c2 : a < s (12 + 116 * t + (3 + 3 * i + 1)) + s (12 + 116 * t + (3 + 3 * i + 2))
      · by_cases c3 : s (12 + 116 * t + (3 + 3 * i + 1)) < a + l
        · simp (disch := first | omega | assumption) only [↓if_pos, ↓if_neg, Option.bind_some, ob_wr_id, sg_X3_isTaken_0, sg_X3_isTaken_57]
          exact wp_ret ⟨rfl, Or.inl ⟨rfl, i, h1, h2, c1, c2, c3⟩⟩
        · simp (disch := first | omega | assumption) only [↓if_pos, ↓if_neg, Option.bind_some, ob_wr_id, sg_X3_isTaken_0, sg_X3_isTaken_57]
          exact hk' (fun z => c3 z.2.2)
      · simp (disch := first | omega | assumption) only [↓if_pos, ↓if_neg, Option.bind_some, ob_wr_id, sg_X3_isTaken_0, sg_X3_isTaken_57]
        exact hk' (fun z => c2 z.2.1)
    · simp (disch := first | omega | assumption) only [↓if_pos, ↓if_neg, Option.bind_some, ob_wr_id, sg_X3_isTaken_0, sg_X3_isTaken_57]
      exact hk' (fun z => c1 z.1)
  · intro _ hI
    rw [sg_X3_isTaken_3]
    simp (disch := first | omega | assumption) only [↓if_pos, ↓if_neg, Option.bind_some, ob_wr_id]
    exact wp_ret ⟨rfl, Or.inr ⟨rfl, fun ⟨i, g1, g2, g3⟩ => hI i g1 g2 g3⟩⟩
noncomputable def nV (s : Int → Int) (t k a l : Int) : Int := if cNote s t k a l < 0 then cNote s t k a l else s (12 + 116 * t + 2)
noncomputable def nS (s : Int → Int) (t k a l : Int) : Int → Int := if cNote s t k a l < 0 then s else up (up (up (up s (12 + 116 * t + (3 + 3 * s (12 + 116 * t + 2))) k) (12 + 116 * t + (3 + 3 * s (12 + 116 * t + 2) + 1)) a) (12 + 116 * t + (3 + 3 * s (12 + 116 * t + 2) + 2)) l) (12 + 116 * t + 2) (s (12 + 116 * t + 2) + 1)
theorem cl_addNote {W : Int} {m : ob_Mem} {j t k a l : Int} {s : Int → Int} (hV : VV W s) (h : Rep m j s) : wp (ob_E (12, 0, [(3, j), (1, t), (1, k), (1, a), (1, l)], [], (m, none))) (CO m j (nV s t k a l) (nS s t k a l)) := by
  obtain ⟨⟨v1, v2, v3, -⟩, v8⟩ := id hV
  have e1 := rpT h
  have e2 := rpR h
  have e3 := rpK h
  unfold nV nS
  have e : ∀ c : Int, c < 0 → cNote s t k a l = c → wp (some (c, (m, none))) (CO m j (if cNote s t k a l < 0 then cNote s t k a l else s (12 + 116 * t + 2)) (if cNote s t k a l < 0 then s else up (up (up (up s (12 + 116 * t + (3 + 3 * s (12 + 116 * t + 2))) k) (12 + 116 * t + (3 + 3 * s (12 + 116 * t + 2) + 1)) a) (12 + 116 * t + (3 + 3 * s (12 + 116 * t + 2) + 2)) l) (12 + 116 * t + 2) (s (12 + 116 * t + 2) + 1))) := fun c h1 h2 => by
    rw [if_pos (by omega), if_pos (by omega), h2]
    exact wp_ret ⟨rfl, h, sm_r⟩
  by_cases c0 : 0 ≤ t ∧ t < s 2
  · have ht : 0 ≤ t ∧ t < 3 := by omega
    obtain ⟨⟨w1, w2, w3, w4, w5⟩, -⟩ := v8 t ht.1 ht.2
    have et := rpt h ht
    have em := rpm h ht
    by_cases c1 : 0 ≤ k ∧ k < s 1
    · by_cases c2 : 0 ≤ a ∧ a < s (12 + 116 * t + 0)
      · by_cases c3 : 1 ≤ l ∧ l ≤ s (12 + 116 * t + 0) - a
        · have ok : okN s t k a l := ⟨c0, c1, c2, c3⟩
          rw [sg_X0_addNote_0]
          simp (disch := first | omega | assumption) only [↓if_pos, ↓if_neg, Option.bind_some, ob_wr_id, sg_X0_addNote_5, sg_X0_addNote_13, sg_X0_addNote_32, sg_X0_addNote_52, cl_hasTune, cl_hasKey, cl_within]
          refine wp_b (cl_isTaken hV h ok) (fun v m' hv => ?_)
          obtain ⟨rfl, ⟨rfl, hT⟩ | ⟨rfl, hT⟩⟩ := hv
          · simp (disch := first | omega | assumption) only [↓if_pos, ↓if_neg, Option.bind_some, ob_wr_id, sg_X0_addNote_71]
            exact e (-3) (by omega) (cNote_no ok hT)
          · have ec := cNote_ok ok hT
            by_cases c4 : s (12 + 116 * t + 2) = 12
            · rw [if_pos c4] at ec
              simp (disch := first | omega | assumption) only [↓if_pos, ↓if_neg, Option.bind_some, ob_wr_id, sg_X0_addNote_71, sg_X3_add_0, sg_X0_addNote_90]
              have := e (-4) (by omega) ec
              simp (disch := first | omega | assumption) only [↓if_pos, ↓if_neg, Option.bind_some, ob_wr_id] at this
              exact this
            · rw [if_neg c4] at ec
              simp (disch := first | omega | assumption) only [↓if_pos, ↓if_neg, Option.bind_some, ob_wr_id, rs_k, rs_i, rs_s, rs_e, sg_X0_addNote_71, sg_X3_add_0, sg_X0_addNote_90, em]
              have z : sm (gN (2 * (3 * j + t))) m' (ob_set (ob_set (ob_set (ob_set m' 26 (2 * (3 * j + t)) (s (12 + 116 * t + 2)) k) 27 (2 * (3 * j + t)) (s (12 + 116 * t + 2)) a) 28 (2 * (3 * j + t)) (s (12 + 116 * t + 2)) l) 3 (2 * (3 * j + t)) 2 (s (12 + 116 * t + 2) + 1)) := sm_set (sm_set (sm_set (sm_set sm_r ⟨by omega, rfl⟩) ⟨by omega, rfl⟩) ⟨by omega, rfl⟩) ⟨by omega, rfl⟩
              refine wp_ret ⟨by omega, Rep_N hV h ht z (fun p hp => ?_) ⟨?_, ?_, ?_, fun i h1 h2 => ?_⟩, sm_m z (fun k i => gN_gB ht)⟩
              · simp (disch := omega) only [rs_k, rs_i, rs_s, rs_e, up_e, up_n]
              · simp (disch := omega) only [rs_k, rs_i, rs_s, rs_e, up_e, up_n]
                exact et
              · simp (disch := omega) only [rs_k, rs_i, rs_s, rs_e, up_e, up_n]
                exact rps h ht
              · simp (disch := omega) only [rs_k, rs_i, rs_s, rs_e, up_e, up_n]
              · have h2 : i < up (up (up (up s (12 + 116 * t + (3 + 3 * s (12 + 116 * t + 2))) k) (12 + 116 * t + (3 + 3 * s (12 + 116 * t + 2) + 1)) a) (12 + 116 * t + (3 + 3 * s (12 + 116 * t + 2) + 2)) l) (12 + 116 * t + 2) (s (12 + 116 * t + 2) + 1) (12 + 116 * t + 2) := h2
                rw [up_e rfl] at h2
                by_cases ei : i = s (12 + 116 * t + 2)
                · refine ⟨?_, ?_, ?_⟩
                  · simp (disch := omega) only [rs_k, rs_i, rs_s, rs_e, up_e, up_n]
                  · simp (disch := omega) only [rs_k, rs_i, rs_s, rs_e, up_e, up_n]
                  · simp (disch := omega) only [rs_k, rs_i, rs_s, rs_e, up_e, up_n]
                · refine ⟨?_, ?_, ?_⟩
                  · simp (disch := omega) only [rs_k, rs_i, rs_s, rs_e, up_e, up_n]
                    exact rpk h ht i h1 (by omega)
                  · simp (disch := omega) only [rs_k, rs_i, rs_s, rs_e, up_e, up_n]
                    exact rpa h ht i h1 (by omega)
                  · simp (disch := omega) only [rs_k, rs_i, rs_s, rs_e, up_e, up_n]
                    exact rpl h ht i h1 (by omega)
        · have ec := cNote_bad (s := s) (t := t) (k := k) (a := a) (l := l) (fun z => c3 z.2.2.2)
          have := e (-2) (by omega) ec
          rw [sg_X0_addNote_0]
          simp (disch := first | omega | assumption) only [↓if_pos, ↓if_neg, Option.bind_some, ob_wr_id, sg_X0_addNote_5, sg_X0_addNote_13, sg_X0_addNote_32, sg_X0_addNote_52, cl_hasTune, cl_hasKey, cl_within]
          exact wp_ret ⟨by omega, h, sm_r⟩
      · have ec := cNote_bad (s := s) (t := t) (k := k) (a := a) (l := l) (fun z => c2 z.2.2.1)
        rw [sg_X0_addNote_0]
        simp (disch := first | omega | assumption) only [↓if_pos, ↓if_neg, Option.bind_some, ob_wr_id, sg_X0_addNote_5, sg_X0_addNote_13, sg_X0_addNote_32, cl_hasTune, cl_hasKey, cl_within]
        exact wp_ret ⟨by omega, h, sm_r⟩
    · have ec := cNote_bad (s := s) (t := t) (k := k) (a := a) (l := l) (fun z => c1 z.2.1)
      rw [sg_X0_addNote_0]
      simp (disch := first | omega | assumption) only [↓if_pos, ↓if_neg, Option.bind_some, ob_wr_id, sg_X0_addNote_5, sg_X0_addNote_13, cl_hasTune, cl_hasKey, cl_within]
      exact wp_ret ⟨by omega, h, sm_r⟩
  · have ec := cNote_bad (s := s) (t := t) (k := k) (a := a) (l := l) (fun z => c0 z.1)
    rw [sg_X0_addNote_0]
    simp (disch := first | omega | assumption) only [↓if_pos, ↓if_neg, Option.bind_some, ob_wr_id, sg_X0_addNote_5, cl_hasTune, cl_hasKey, cl_within]
    exact wp_ret ⟨by omega, h, sm_r⟩
