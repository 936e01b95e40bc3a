-- SETTLING: pinning all
def agS (s s' : Int → Int) (t : Int) : Prop := (∀ p, 0 ≤ p → p < 12 → s' p = s p) ∧ ∀ w, 0 ≤ w → w < 39 → w ≠ 1 → s' (12 + 116 * t + w) = s (12 + 116 * t + w)
theorem agS_bg {s s' : Int → Int} {t i d : Int} (h : agS s s' t) (hi : 0 ≤ i ∧ i < 12) : bg s' t i d = bg s t i d := by
  unfold bg
  rw [h.1 0 (by omega) (by omega), h.2 (3 + 3 * i + 1) (by omega) (by omega) (by omega), h.2 0 (by omega) (by omega) (by omega), h.1 3 (by omega) (by omega)]
theorem agS_hd {s s' : Int → Int} {t i : Int} (h : agS s s' t) (hi : 0 ≤ i ∧ i < 12) : hd s' t i = hd s t i := by
  unfold hd
  rw [h.1 0 (by omega) (by omega), h.2 (3 + 3 * i + 1) (by omega) (by omega) (by omega), h.2 (3 + 3 * i + 2) (by omega) (by omega) (by omega), h.2 0 (by omega) (by omega) (by omega), h.1 3 (by omega) (by omega)]
theorem agS_fre {s s' : Int → Int} {t i : Int} (h : agS s s' t) (hn : s (12 + 116 * t + 2) ≤ 12) (hi : 0 ≤ i ∧ i < s (12 + 116 * t + 2)) : fre s' t i = fre s t i := by
  unfold fre
  rw [h.1 0 (by omega) (by omega), h.2 2 (by omega) (by omega) (by omega), agS_hd h (by omega), frb_c (key' := fun j => s (12 + 116 * t + (3 + 3 * j))) (bf' := fun j => bg s t j 0) (s (12 + 116 * t + 2)).toNat (fun j a b => ?_)]
  show (s' (12 + 116 * t + (3 + 3 * j)) = s' (12 + 116 * t + (3 + 3 * i)) ↔ _) ∧ (_ → _ → dist _ (bg s' t i 0) (bg s' t j 0) = _)
  rw [agS_bg h (by omega), agS_bg h (by omega), h.2 (3 + 3 * j) (by omega) (by omega) (by omega), h.2 (3 + 3 * i) (by omega) (by omega) (by omega)]
  exact ⟨Iff.rfl, fun _ _ => rfl⟩
theorem agS_Fst {W : Int} {s s' : Int → Int} {t v : Int} (hV : VV W s) (ht : 0 ≤ t ∧ t < 3) (h : agS s s' t) (hF : Fst (fun i => fre s t i < s (6 + s (12 + 116 * t + (3 + 3 * i)))) (s (12 + 116 * t + 2)) v) : Fst (fun i => fre s' t i < s' (6 + s' (12 + 116 * t + (3 + 3 * i)))) (s' (12 + 116 * t + 2)) v := by
  obtain ⟨⟨v1, v2, v3, -⟩, v8⟩ := id hV
  obtain ⟨⟨-, -, w3, -, w5⟩, -⟩ := v8 t ht.1 ht.2
  rw [h.2 2 (by omega) (by omega) (by omega)]
  refine Fst_c (fun i a b => ?_) hF
  obtain ⟨-, n2⟩ := w5 i a b
  rw [agS_fre h w3.2 ⟨a, b⟩, h.2 (3 + 3 * i) (by omega) (by omega) (by omega), h.1 (6 + s (12 + 116 * t + (3 + 3 * i))) (by omega) (by omega)]
theorem pic_ag {s s' : Int → Int} {t d w : Int} (h : agS s s' t) (hw : 39 ≤ w ∧ w < 116) : pic s' t d w = pic s t d w := by
  by_cases c1 : w < 44
  · obtain rfl | rfl | rfl | rfl | rfl : w = 39 ∨ w = 40 ∨ w = 41 ∨ w = 42 ∨ w = 43 := by omega
    · rfl
    · exact h.2 0 (by omega) (by omega) (by omega)
    · rfl
    · exact h.1 3 (by omega) (by omega)
    · exact h.2 2 (by omega) (by omega) (by omega)
  · by_cases c2 : w < 92
    · obtain ⟨i, hi, e | e | e | e⟩ : ∃ i, (0 ≤ i ∧ i < 12) ∧ (w = 44 + 4 * i + 0 ∨ w = 44 + 4 * i + 1 ∨ w = 44 + 4 * i + 2 ∨ w = 44 + 4 * i + 3) := ⟨(w - 44) / 4, by omega, by omega⟩
      · rw [e, pic_k hi, pic_k hi, h.2 (3 + 3 * i) (by omega) (by omega) (by omega)]
      · rw [e, pic_b hi, pic_b hi, agS_bg h hi]
      · rw [e, pic_h hi, pic_h hi, agS_hd h hi]
      · rw [e, pic_w hi, pic_w hi]
    · obtain ⟨i, hi, e | e⟩ : ∃ i, (0 ≤ i ∧ i < 12) ∧ (w = 92 + 2 * i ∨ w = 92 + 2 * i + 1) := ⟨(w - 92) / 2, by omega, by omega⟩
      · rw [e, pic_a hi, pic_a hi, h.2 (3 + 3 * i + 1) (by omega) (by omega) (by omega)]
      · rw [e, pic_l hi, pic_l hi, h.2 (3 + 3 * i + 2) (by omega) (by omega) (by omega)]
/-- a tune is shifted and pinned, if it has notes -/
def pnF (x t : Int) (r : Int → Int) : Int → Int := if 0 < r (12 + 116 * t + 2) then piS (up r (12 + 116 * t + 1) x) t else r
theorem piS_o {s : Int → Int} {t p : Int} (hn : s (12 + 116 * t + 2) ≤ 12) (h : ¬ (12 + 116 * t + 39 ≤ p ∧ p < 12 + 116 * t + 116)) : piS s t p = s p := piX_o hn h
theorem pnF_o {r : Int → Int} {x t p : Int} (hn : r (12 + 116 * t + 2) ≤ 12) (h : ¬ (12 + 116 * t ≤ p ∧ p < 12 + 116 * t + 116)) : pnF x t r p = r p := by
  unfold pnF
  split
  · rw [piS_o (by simp (disch := omega) only [rs_k, rs_i, rs_s, rs_e, up_e, up_n]; exact hn) (by omega), up_n (by omega)]
  · rfl
theorem pn_of {r : Int → Int} {x t u : Int} (hn : r (12 + 116 * t + 2) ≤ 12) (ht : 0 ≤ t ∧ t < 3) (hu : 0 ≤ u ∧ u < 3) (h : t ≠ u) : pnF x t (ofX r u) = ofX (pnF x t r) u := by
  have e0 : ∀ p, ¬ (12 + 116 * u + 39 ≤ p ∧ p < 12 + 116 * u + 116) → ofX r u p = r p := fun p hp => if_neg hp
  have em := e0 (12 + 116 * t + 2) (by omega)
  funext p
  by_cases c : 12 + 116 * u + 39 ≤ p ∧ p < 12 + 116 * u + 116
  · rw [pnF_o (by omega) (by omega), show ofX r u p = 0 from if_pos c, show ofX (pnF x t r) u p = 0 from if_pos c]
  · rw [show ofX (pnF x t r) u p = pnF x t r p from if_neg c]
    unfold pnF
    rw [em]
    by_cases c2 : 0 < r (12 + 116 * t + 2)
    · rw [if_pos c2, if_pos c2]
      have eM : up (ofX r u) (12 + 116 * t + 1) x (12 + 116 * t + 2) = r (12 + 116 * t + 2) := by rw [up_n (by omega), em]
      have eM2 : up r (12 + 116 * t + 1) x (12 + 116 * t + 2) = r (12 + 116 * t + 2) := up_n (by omega)
      have ag : agS (up r (12 + 116 * t + 1) x) (up (ofX r u) (12 + 116 * t + 1) x) t := ⟨fun q a b => by rw [up_n (by omega), up_n (by omega), e0 q (by omega)], fun w a b d => by rw [up_n (by omega), up_n (by omega), e0 _ (by omega)]⟩
      unfold piS piX
      rw [eM, eM2, up_e rfl, up_e rfl]
      by_cases c3 : (12 + 116 * t + 39 ≤ p ∧ p < 12 + 116 * t + 44 + 4 * r (12 + 116 * t + 2)) ∨ (12 + 116 * t + 92 ≤ p ∧ p < 12 + 116 * t + 92 + 2 * r (12 + 116 * t + 2))
      · rw [if_pos c3, if_pos c3, pic_ag ag (by omega)]
      · rw [if_neg c3, if_neg c3]
        by_cases c4 : p = 12 + 116 * t + 1
        · rw [up_e c4, up_e c4]
        · rw [up_n c4, up_n c4, e0 p c]
    · rw [if_neg c2, if_neg c2, e0 p c]
/-- the class's order: each tune is taken off and pinned -/
def seC (s : Int → Int) (x : Int → Int) (n : Nat) : Int → Int := fo (fun t r => pnF (x t) t (ofX r t)) s n
/-- the model's order: all are taken off; then all are pinned -/
def seO (s : Int → Int) (n : Nat) : Int → Int := fo (fun t r => ofX r t) s n
def seP (s : Int → Int) (x : Int → Int) (n : Nat) : Int → Int := fo (fun t r => pnF (x t) t r) s n
theorem ofX_n {r : Int → Int} {t p : Int} (h : ¬ (12 + 116 * t + 39 ≤ p ∧ p < 12 + 116 * t + 116)) : ofX r t p = r p := if_neg h
theorem se_eq {W : Int} {s x : Int → Int} (hV : VV W s) : seP (seO s (s 2).toNat) x (s 2).toNat = seC s x (s 2).toNat := by
  obtain ⟨⟨v1, v2, v3, -⟩, v8⟩ := id hV
  have m0 := (v8 0 (by omega) (by omega)).1.2.2.1.2
  have m1 := (v8 1 (by omega) (by omega)).1.2.2.1.2
  obtain e | e : (s 2).toNat = 2 ∨ (s 2).toNat = 3 := by omega
  · rw [e]
    show pnF (x 1) 1 (pnF (x 0) 0 (ofX (ofX s 0) 1)) = pnF (x 1) 1 (ofX (pnF (x 0) 0 (ofX s 0)) 1)
    rw [pn_of (by rw [ofX_n (by omega)]; exact m0) (by omega) (by omega) (by omega)]
  · rw [e]
    show pnF (x 2) 2 (pnF (x 1) 1 (pnF (x 0) 0 (ofX (ofX (ofX s 0) 1) 2))) = pnF (x 2) 2 (ofX (pnF (x 1) 1 (ofX (pnF (x 0) 0 (ofX s 0)) 1)) 2)
    rw [pn_of (t := 0) (u := 2) (by rw [ofX_n (by omega), ofX_n (by omega)]; exact m0) (by omega) (by omega) (by omega), pn_of (t := 0) (u := 1) (by rw [ofX_n (by omega)]; exact m0) (by omega) (by omega) (by omega), pn_of (t := 1) (u := 2) ?_ (by omega) (by omega) (by omega)]
    rw [ofX_n (by omega), pnF_o (by rw [ofX_n (by omega)]; exact m0) (by omega), ofX_n (by omega)]
    exact m1
theorem up_sh {s : Int → Int} {t d : Int} (h : (0 ≤ t ∧ t < s 2) ∧ 0 ≤ d ∧ d < s 0) : up s (12 + 116 * t + 1) d = shS s t d := (if_pos h).symm
theorem VV_pn {W : Int} {s r : Int → Int} {x t : Int} (hW : 0 ≤ W) (hV : VV W s) (hr : VV W r) (ht : 0 ≤ t ∧ t < r 2) (ht3 : 0 ≤ t ∧ t < 3) (hx : 0 < r (12 + 116 * t + 2) → 0 ≤ x ∧ x < r 0) (ag : agS s r t) (hF : Fst (fun i => fre s t i < s (6 + s (12 + 116 * t + (3 + 3 * i)))) (s (12 + 116 * t + 2)) (-1)) : VV W (pnF x t r) := by
  unfold pnF
  by_cases c : 0 < r (12 + 116 * t + 2)
  · rw [if_pos c]
    have hx := hx c
    have hu : VV W (up r (12 + 116 * t + 1) x) := by
      rw [up_sh ⟨ht, hx⟩]
      exact VV_sh hr
    refine VV_pi hW hu (by rw [up_n (by omega)]; exact ht) (by rw [up_n (by omega)]; omega) (agS_Fst hV ht3 ⟨fun p a b => ?_, fun w a b d => ?_⟩ hF)
    · rw [up_n (by omega), ag.1 p a b]
    · rw [up_n (by omega), ag.2 w a b d]
  · rw [if_neg c]
    exact hr
theorem cl_pinAll {W : Int} {m : ob_Mem} {j : Int} {s x : Int → Int} (hj : 0 ≤ j ∧ j < 7) (hW : 0 ≤ W) (hV : VV W s) (h : Rep m j s) (hx : ∀ t, 0 ≤ t → t < 3 → m 31 0 t = x t) (hb : ∀ t, 0 ≤ t → t < 3 → 0 ≤ x t ∧ x t < s 0) (hF : ∀ t', 0 ≤ t' → t' < s 2 → Fst (fun i => fre s t' i < s (6 + s (12 + 116 * t' + (3 + 3 * i)))) (s (12 + 116 * t' + 2)) (-1)) : wp (ob_E (61, 0, [(7, 0), (3, j), (0, 0)], [], (m, none))) (fun _ m' => Rep m' j (seC s x (s 2).toNat) ∧ VV W (seC s x (s 2).toNat) ∧ sm (gB j) m m') := by
  obtain ⟨⟨v1, v2, v3, v4, v5, -⟩, v8⟩ := id hV
  rw [sg_X4_pinAll_0]
  refine wp_for (fun t (m' : ob_Mem) => ob_E (61, 2, [(7, 0), (3, j), (1, t)], [], (m', none))) 0 (s 2) (fun t m' => Rep m' j (seC s x t.toNat) ∧ VV W (seC s x t.toNat) ∧ sm (gB j) m m' ∧ ∀ p, (0 ≤ p ∧ p < 12) ∨ 12 + 116 * t ≤ p → seC s x t.toNat p = s p) ?_ ?_ (by omega) ⟨h, hV, sm_r, fun _ _ => rfl⟩
  · intro t m1 h1 h2 ⟨i1, i2, i3, i4⟩ hk
    have ht : 0 ≤ t ∧ t < 3 := by omega
    have hs1 : seC s x (t + 1).toNat = pnF (x t) t (ofX (seC s x t.toNat) t) := fo_s h1
    rw [hs1] at hk
    generalize seC s x t.toNat = r at *
    have r0 := i4 0 (by omega)
    have r2 := i4 2 (by omega)
    have rM := i4 (12 + 116 * t + 2) (by omega)
    obtain ⟨⟨-, -, w3, -, -⟩, -⟩ := v8 t ht.1 ht.2
    have eT := rpT i1
    have em := rpm i1 ht
    have e31 : m1 31 0 t = x t := by
      rw [i3 31 0 t (fun z => by rcases z with ⟨z1, z2⟩ | ⟨z1, z2⟩ | ⟨z1, z2⟩ <;> omega)]
      exact hx t ht.1 ht.2
    have z1 : sm (gP (3 * j + t)) m1 (ob_set m1 5 (3 * j + t) 0 0) := sm_set sm_r (Or.inr ⟨by omega, rfl⟩)
    have V1 : VV W (ofX r t) := VV_ofX i2 ht
    have R1 : Rep (ob_set m1 5 (3 * j + t) 0 0) j (ofX r t) := by
      refine Rep_P i2 i1 ht z1 (fun p hp => if_neg hp) ?_ (fun hp => ?_)
      · rw [rs_e rfl rfl, show ofX r t (12 + 116 * t + 39) = 0 from if_pos (by omega)]
      · rw [show ofX r t (12 + 116 * t + 39) = 0 from if_pos (by omega)] at hp
        omega
    have oM : ofX r t (12 + 116 * t + 2) = r (12 + 116 * t + 2) := ofX_n (by omega)
    have oT : ofX r t 2 = r 2 := ofX_n (by omega)
    have oR : ofX r t 0 = r 0 := ofX_n (by omega)
    have ag : agS s (ofX r t) t := ⟨fun p a b => by rw [ofX_n (by omega), i4 p (by omega)], fun w a b d => by rw [ofX_n (by omega), i4 _ (by omega)]⟩
    have Vn : VV W (pnF (x t) t (ofX r t)) := VV_pn hW hV V1 (by omega) ht (fun _ => by have := hb t ht.1 ht.2; omega) ag (hF t h1 h2)
    have io : ∀ p, (0 ≤ p ∧ p < 12) ∨ 12 + 116 * (t + 1) ≤ p → pnF (x t) t (ofX r t) p = s p := fun p hp => by
      rw [pnF_o (by omega) (by omega), ofX_n (by omega), i4 p (by omega)]
    have zB : sm (gB j) m (ob_set m1 5 (3 * j + t) 0 0) := sm_t i3 (sm_m z1 (fun k i => gP_gB ht))
    rw [sg_X4_pinAll_2, eT, r2, if_pos h2, if_pos ht, if_pos (by omega), if_pos ht]
    by_cases c : 0 < r (12 + 116 * t + 2)
    · have z2 : sm (gN (2 * (3 * j + t))) (ob_set m1 5 (3 * j + t) 0 0) (ob_set (ob_set m1 5 (3 * j + t) 0 0) 3 (2 * (3 * j + t)) 1 (x t)) := sm_set sm_r ⟨Or.inl rfl, rfl⟩
      have V2 : VV W (up (ofX r t) (12 + 116 * t + 1) (x t)) := by
        rw [up_sh ⟨by omega, by have := hb t ht.1 ht.2; omega⟩]
        exact VV_sh V1
      have R2 : Rep (ob_set (ob_set m1 5 (3 * j + t) 0 0) 3 (2 * (3 * j + t)) 1 (x t)) j (up (ofX r t) (12 + 116 * t + 1) (x t)) := Rep_N V1 R1 ht z2 (fun p hp => up_n (by omega)) (rN_shift (R1.2.2 t ht.1 ht.2).1 (by show ofX r t (12 + 116 * t + 2) ≤ 12; omega) rfl (fun w a b d => up_n (by omega)) (up_e rfl))
      have eR2 := rpR R2
      have eW2 := rpW R2
      rw [if_pos (show 0 < ob_set m1 5 (3 * j + t) 0 0 3 (2 * (3 * j + t)) 2 by rw [rs_k (by omega)]; omega), if_pos ht, if_pos ht, if_pos ht, if_pos ht, if_pos ht]
      rw [show ob_set m1 5 (3 * j + t) 0 0 31 0 t = x t by rw [rs_k (by omega), e31], show (ob_set (ob_set m1 5 (3 * j + t) 0 0) 3 (2 * (3 * j + t)) 1 (x t)) 31 0 t = x t by rw [rs_k (by omega), rs_k (by omega), e31], eR2, eW2]
      generalize ob_set (ob_set m1 5 (3 * j + t) 0 0) 3 (2 * (3 * j + t)) 1 (x t) = m2 at *
      have hpn : pnF (x t) t (ofX r t) = piS (up (ofX r t) (12 + 116 * t + 1) (x t)) t := if_pos (by omega)
      rw [hpn] at hk Vn io
      generalize hr2 : up (ofX r t) (12 + 116 * t + 1) (x t) = q at *
      have qM : q (12 + 116 * t + 2) = r (12 + 116 * t + 2) := by rw [← hr2, up_n (by omega), oM]
      have qS : q (12 + 116 * t + 1) = x t := by rw [← hr2, up_e rfl]
      have q0 : q 0 = s 0 := by rw [← hr2, up_n (by omega), oR, r0]
      refine wp_b (cl_lay V2 (R2.2.2 t ht.1 ht.2).1 ht (d := x t) (by have := hb t ht.1 ht.2; omega)) (fun _ m3 h3 => ?_)
      obtain ⟨l1, l2, l3⟩ := h3
      rw [sg_X4_pinAll_76, ob_wr_id (by omega) (by omega)]
      refine hk m3 ⟨?_, Vn, sm_t (sm_t zB (sm_m z2 (fun k i => gN_gB ht))) (sm_m l3 (fun k i => gP_gB ht)), io⟩
      refine Rep_P V2 R2 ht l3 (fun p hp => piS_o (by omega) hp) ?_ (fun _ => ?_)
      · rw [l1]
        exact (piX_P (by omega)).symm
      · have := rQ_pi l2 (by omega)
        unfold piS
        rw [qS]
        exact this
    · rw [if_neg (show ¬ 0 < ob_set m1 5 (3 * j + t) 0 0 3 (2 * (3 * j + t)) 2 by rw [rs_k (by omega)]; omega), sg_X4_pinAll_76, ob_wr_id (by omega) (by omega)]
      refine hk _ ⟨?_, Vn, zB, io⟩
      rw [show pnF (x t) t (ofX r t) = ofX r t from if_neg (by omega)]
      exact R1
  · intro m1 ⟨i1, i2, i3, i4⟩
    have eT := rpT i1
    rw [i4 2 (by omega)] at eT
    rw [sg_X4_pinAll_2, eT, if_neg (by omega)]
    exact wp_ret ⟨i1, i2, i3⟩
