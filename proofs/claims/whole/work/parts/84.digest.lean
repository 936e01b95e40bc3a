-- DIGEST
def hF (f : Int → Int) (h : Int) (n : Nat) : Int := fo (fun i h => ob_wl (ob_wl (31 * h) + f i)) h n
theorem hF_s {f : Int → Int} {h j : Int} (hj : 0 ≤ j) : hF f h (j + 1).toNat = ob_wl (ob_wl (31 * hF f h j.toNat) + f j) := fo_s hj
theorem hF_0 {f : Int → Int} {h : Int} : hF f h (0 : Int).toNat = h := rfl
def dN (s : Int → Int) (t k : Int) : Int := noV s t (k / 5) (k % 5)
def dT (s : Int → Int) (t h : Int) : Int := hF (dN s t) (hF (tuV s t) h (8 : Int).toNat) (5 * s (12 + 116 * t + 2)).toNat
def dA (s : Int → Int) (h : Int) (n : Nat) : Int := fo (fun t h => dT s t h) h n
theorem dA_s {s : Int → Int} {h t : Int} (ht : 0 ≤ t) : dA s h (t + 1).toNat = dT s t (dA s h t.toNat) := fo_s ht
noncomputable def dB (s : Int → Int) (h : Int) (n : Nat) : Int := fo (fun b h => hF (brV s (br s) b) h (6 : Int).toNat) h n
theorem dB_s {s : Int → Int} {h b : Int} (hb : 0 ≤ b) : dB s h (b + 1).toNat = hF (brV s (br s) b) (dB s h b.toNat) (6 : Int).toNat := fo_s hb
def dg3 (tv ca s : Int → Int) : Int := hF (fun k => s (6 + k)) (hF ca (hF tv 2243 (11 : Int).toNat) (4 : Int).toNat) (s 1).toNat
noncomputable def dgV (tv ca s : Int → Int) : Int := dB s (hF (alV s) (dA s (dg3 tv ca s) (s 2).toNat) (7 : Int).toNat) (br s).1.toNat
theorem cl_digestOfTune {W : Int} {m : ob_Mem} {j t h : Int} {s : Int → Int} (hj : m 7 0 0 = j) (hV : VV W s) (hR : Rep m j s) (ht : 0 ≤ t ∧ t < 3) : ob_E (113, 0, [(10, 0), (2, h), (0, 0), (1, t), (0, 0), (0, 0), (0, 0), (0, 0)], [], (m, none)) = some (dT s t h, (m, none)) := by
  have hM := (hV.2 t ht.1 ht.2).1.2.2.1
  have rm := rpm hR ht
  rw [sg_X7_digestOfTune_0]
  refine wp_eq (wp_for (fun w (_ : Unit) => ob_E (113, 6, [(10, 0), (2, h), (0, 0), (1, t), (2, hF (tuV s t) h w.toNat), (0, 0), (1, w), (0, 0)], [], (m, none))) 0 8 (fun _ _ => True) ?_ ?_ (by omega) (x := ()) trivial)
  · intro w _ h1 h2 _ hk
    have e := cl_tuneValue hV hR ht (w := w) (by omega)
    have hk := hk () trivial
    rw [hF_s h1] at hk
    rw [sg_X7_digestOfTune_6, if_neg (by omega), hj, e]
    simp (disch := first | omega | assumption) only [↓if_pos, ↓if_neg, Option.bind_some, ob_wr_id, sg_X7_digestOfTune_29]
    exact hk
  · intro _ _
    rw [sg_X7_digestOfTune_6, if_pos (by omega)]
    unfold dT
    generalize hF (tuV s t) h (8 : Int).toNat = B
    refine wp_for (fun i (y : ob_AV) => ob_E (113, 42, [(10, 0), (2, h), (0, 0), (1, t), (2, hF (dN s t) B (5 * i).toNat), (0, 0), (1, i), y], [], (m, none))) 0 (s (12 + 116 * t + 2)) (fun _ _ => True) ?_ ?_ (by omega) (x := (0, 0)) trivial
    · intro i y h1 h2 _ hk
      rw [sg_X7_digestOfTune_42, if_pos ht, hj, rm, if_pos h2]
      have st := wp_for (P := fun v m' => v = hF (dN s t) B (5 * s (12 + 116 * t + 2)).toNat ∧ m' = m) (fun w (_ : Unit) => ob_E (113, 62, [(10, 0), (2, h), (0, 0), (1, t), (2, hF (dN s t) B (5 * i + w).toNat), (0, 0), (1, i), (1, w)], [], (m, none))) 0 5 (fun _ _ => True) ?_ ?_ (by omega) (x := ()) trivial
      · rw [Int.add_zero] at st
        exact st
      · intro w _ g1 g2 _ hk2
        have e := cl_noteValue hV hR ht ⟨h1, h2⟩ (w := w) (by omega)
        have hk2 := hk2 () trivial
        rw [show 5 * i + (w + 1) = 5 * i + w + 1 by omega, hF_s (by omega), show dN s t (5 * i + w) = noV s t i w by unfold dN; rw [show (5 * i + w) / 5 = i by omega, show (5 * i + w) % 5 = w by omega]] at hk2
        rw [sg_X7_digestOfTune_62, if_neg (by omega), hj, e]
        simp (disch := first | omega | assumption) only [↓if_pos, ↓if_neg, Option.bind_some, ob_wr_id, sg_X7_digestOfTune_86]
        exact hk2
      · intro _ _
        rw [sg_X7_digestOfTune_62, if_pos (by omega), ob_wr_id (by omega) (by omega), show 5 * i + 5 = 5 * (i + 1) by omega]
        exact hk _ trivial
    · intro y _
      rw [sg_X7_digestOfTune_42, if_pos ht, hj, rm, if_neg (by omega)]
      exact wp_ret ⟨rfl, rfl⟩
theorem cl_digest {W : Int} {m : ob_Mem} (h0 : Inv W m) : wp (ob_E (112, 0, [(10, 0), (0, 0), (0, 0), (0, 0), (0, 0)], [], (m, none))) (fun v m' => v = dgV (toV m) (m 44 0) (m 40 0) ∧ sm (fun k _ => k = 1 ∨ (19 ≤ k ∧ k ≤ 25)) m m') := by
  obtain ⟨hV, hn⟩ := Inv_V h0
  rw [sg_X7_digest_0]
  refine wp_b (cl_find hV h0.1.2.2.1.2) (fun _ m1 h1 => ?_)
  obtain ⟨hB0, s1⟩ := h1
  have h := (J_ask h0 (sm_m s1 (fun k i z => Or.inr z)) fq_r).1
  have et : toV m1 = toV m := by
    funext w
    unfold toV
    rw [s1 43 0 w (by omega), s1 8 0 22 (by omega), s1 40 0 (w - 4) (by omega), s1 8 0 3 (by omega)]
  have e44 : m1 44 0 = m 44 0 := by
    funext w
    exact s1 44 0 w (by omega)
  have e40 : m1 40 0 = m 40 0 := by
    funext w
    exact s1 40 0 w (by omega)
  rw [← et, ← e44, ← e40]
  rw [← e40] at hB0
  have fin : ∀ v, v = dgV (toV m1) (m1 44 0) (m1 40 0) → v = dgV (toV m1) (m1 44 0) (m1 40 0) ∧ sm (fun k _ => k = 1 ∨ (19 ≤ k ∧ k ≤ 25)) m m1 := fun v hv => ⟨hv, s1⟩
  clear et e44 e40 s1 h0 hV hn
  obtain ⟨hV, hn⟩ := Inv_V h
  have hR := h.1.2.2.1.2
  have hK := hV.1.2.1
  have hT := hV.1.2.2.1
  have rK := rpK hR
  have rT2 := rpT hR
  have rG := rpG hR
  have rL := rpL hR
  have hL := hV.1.2.2.2.2.2.1
  obtain ⟨SB1, SB2⟩ := SI_br hV
  unfold dgV dg3 at *
  rw [sg_X7_digest_11]
  refine wp_for (fun w (_ : Unit) => ob_E (112, 17, [(10, 0), (2, hF (toV m1) 2243 w.toNat), (0, 0), (1, w), (0, 0)], [], (m1, none))) 0 11 (fun _ _ => True) ?_ ?_ (by omega) (x := ()) trivial
  · intro w _ g1 g2 _ hk
    have e := cl_toldValue h (w := w) (by omega)
    have hk := hk () trivial
    rw [hF_s g1] at hk
    rw [sg_X7_digest_17, if_neg (by omega), e]
    simp (disch := first | omega | assumption) only [↓if_pos, ↓if_neg, Option.bind_some, ob_wr_id, sg_X7_digest_33]
    exact hk
  intro _ _
  rw [sg_X7_digest_17, if_pos (by omega)]
  generalize hF (toV m1) 2243 (11 : Int).toNat = H1 at *
  refine wp_for (fun w (_ : Unit) => ob_E (112, 44, [(10, 0), (2, hF (m1 44 0) H1 w.toNat), (0, 0), (1, w), (0, 0)], [], (m1, none))) 0 4 (fun _ _ => True) ?_ ?_ (by omega) (x := ()) trivial
  · intro w _ g1 g2 _ hk
    have e := cl_value m1 (w := w) (by omega) h.2.2.1
    have hk := hk () trivial
    rw [hF_s g1] at hk
    rw [sg_X7_digest_44, if_neg (by omega), e]
    simp (disch := first | omega | assumption) only [↓if_pos, ↓if_neg, Option.bind_some, ob_wr_id, sg_X7_digest_62]
    exact hk
  intro _ _
  rw [sg_X7_digest_44, if_pos (by omega)]
  generalize hF (m1 44 0) H1 (4 : Int).toNat = H2 at *
  refine wp_for (fun w (_ : Unit) => ob_E (112, 73, [(10, 0), (2, hF (fun k => m1 40 0 (6 + k)) H2 w.toNat), (0, 0), (1, w), (0, 0)], [], (m1, none))) 0 (m1 40 0 1) (fun _ _ => True) ?_ ?_ (by omega) (x := ()) trivial
  · intro w _ g1 g2 _ hk
    have e := rG w g1 (by omega)
    have hk := hk () trivial
    rw [hF_s g1] at hk
    rw [sg_X7_digest_73, rK, if_pos g2, if_pos (by omega), e]
    simp (disch := first | omega | assumption) only [↓if_pos, ↓if_neg, Option.bind_some, ob_wr_id]
    exact hk
  intro _ _
  rw [sg_X7_digest_73, rK, if_neg (by omega)]
  generalize hF (fun k => m1 40 0 (6 + k)) H2 (m1 40 0 1).toNat = H3 at *
  refine wp_for (fun w (_ : Unit) => ob_E (112, 109, [(10, 0), (2, dA (m1 40 0) H3 w.toNat), (0, 0), (1, w), (0, 0)], [], (m1, none))) 0 (m1 40 0 2) (fun _ _ => True) ?_ ?_ (by omega) (x := ()) trivial
  · intro w _ g1 g2 _ hk
    have e := cl_digestOfTune (t := w) (h := dA (m1 40 0) H3 w.toNat) rfl hV hR (by omega)
    have hk := hk () trivial
    rw [dA_s g1] at hk
    rw [sg_X7_digest_109, rT2, if_pos g2, e]
    simp (disch := first | omega | assumption) only [↓if_pos, ↓if_neg, Option.bind_some, ob_wr_id, sg_X7_digest_126]
    exact hk
  intro _ _
  rw [sg_X7_digest_109, rT2, if_neg (by omega)]
  generalize dA (m1 40 0) H3 (m1 40 0 2).toNat = H4 at *
  refine wp_for (fun w (_ : Unit) => ob_E (112, 135, [(10, 0), (2, hF (alV (m1 40 0)) H4 w.toNat), (0, 0), (1, w), (0, 0)], [], (m1, none))) 0 7 (fun _ _ => True) ?_ ?_ (by omega) (x := ()) trivial
  · intro w _ g1 g2 _ hk
    have e := cl_allValue hV hR hB0 (w := w) (by omega)
    have hk := hk () trivial
    rw [hF_s g1] at hk
    rw [sg_X7_digest_135, if_neg (by omega), e]
    simp (disch := first | omega | assumption) only [↓if_pos, ↓if_neg, Option.bind_some, ob_wr_id, sg_X7_digest_151]
    exact hk
  intro _ _
  rw [sg_X7_digest_135, if_pos (by omega)]
  generalize hF (alV (m1 40 0)) H4 (7 : Int).toNat = H5 at *
  refine wp_for (fun b (y : ob_AV) => ob_E (112, 162, [(10, 0), (2, dB (m1 40 0) H5 b.toNat), (0, 0), (1, b), y], [], (m1, none))) 0 (br (m1 40 0)).1 (fun _ _ => True) ?_ ?_ SB1.1 (x := (0, 0)) trivial
  · intro b y g1 g2 _ hk
    have hk := hk (1, 6) trivial
    rw [dB_s g1] at hk
    generalize dB (m1 40 0) H5 b.toNat = B at *
    rw [sg_X7_digest_162, hB0.1, if_pos g2]
    refine wp_for (fun w (_ : Unit) => ob_E (112, 176, [(10, 0), (2, hF (brV (m1 40 0) (br (m1 40 0)) b) B w.toNat), (0, 0), (1, b), (1, w)], [], (m1, none))) 0 6 (fun _ _ => True) ?_ ?_ (by omega) (x := ()) trivial
    · intro w _ l1 l2 _ hk2
      have e := cl_bvalue hB0 hL.1 ⟨g1, g2⟩ SB1.2 (w := w) (by omega)
      have hk2 := hk2 () trivial
      rw [hF_s l1] at hk2
      rw [sg_X7_digest_176, if_neg (by omega), rL, e]
      simp (disch := first | omega | assumption) only [↓if_pos, ↓if_neg, Option.bind_some, ob_wr_id, sg_X7_digest_204]
      exact hk2
    · intro _ _
      rw [sg_X7_digest_176, if_pos (by omega), ob_wr_id (by omega) (by omega)]
      exact hk
  intro y _
  rw [sg_X7_digest_162, hB0.1, if_neg (by omega)]
  exact wp_ret (fin _ rfl)
theorem md_digest {W : Int} (m : ob_Mem) (hV : VV W (m 40 0)) : wp (ob_E (237, 0, [(11, 0), (0, 0), (0, 0), (0, 0), (0, 0)], [], (m, none))) (fun v m' => v = dgV (toV m) (m 44 0) (m 40 0) ∧ fq m m') := by
  have hK := hV.1.2.1
  have hT := hV.1.2.2.1
  have hR := hV.1.1
  have hL := hV.1.2.2.2.2.2.1
  obtain ⟨SB1, SB2⟩ := SI_br hV
  have fin : ∀ m1 v, fs m m1 → v = dgV (toV m) (m 44 0) (m 40 0) → v = dgV (toV m) (m 44 0) (m 40 0) ∧ fq m m1 := fun m1 v a hv => ⟨hv, fs_fq a⟩
  unfold dgV dg3 at *
  rw [sg_X8_digest_0]
  refine wp_for (fun w (_ : Unit) => ob_E (237, 6, [(11, 0), (2, hF (toV m) 2243 w.toNat), (0, 0), (1, w), (0, 0)], [], (m, none))) 0 11 (fun _ _ => True) ?_ ?_ (by omega) (x := ()) trivial
  · intro w _ g1 g2 _ hk
    have e := md_toldOf m (w := w) (by omega)
    have hk := hk () trivial
    rw [hF_s g1] at hk
    rw [sg_X8_digest_6, if_pos g2, e]
    simp (disch := first | omega | assumption) only [↓if_pos, ↓if_neg, Option.bind_some, ob_wr_id, sg_X8_digest_22]
    exact hk
  intro _ _
  rw [sg_X8_digest_6, if_neg (by omega)]
  generalize hF (toV m) 2243 (11 : Int).toNat = H1 at *
  refine wp_for (fun w (_ : Unit) => ob_E (237, 33, [(11, 0), (2, hF (m 44 0) H1 w.toNat), (0, 0), (1, w), (0, 0)], [], (m, none))) 0 4 (fun _ _ => True) ?_ ?_ (by omega) (x := ()) trivial
  · intro w _ g1 g2 _ hk
    have hk := hk () trivial
    rw [hF_s g1] at hk
    rw [sg_X8_digest_33, if_pos g2, if_pos ⟨g1, g2⟩, ob_wr_id (by omega) (by omega)]
    exact hk
  intro _ _
  rw [sg_X8_digest_33, if_neg (by omega)]
  generalize hF (m 44 0) H1 (4 : Int).toNat = H2 at *
  refine wp_for (fun w (_ : Unit) => ob_E (237, 60, [(11, 0), (2, hF (fun k => m 40 0 (6 + k)) H2 w.toNat), (0, 0), (1, w), (0, 0)], [], (m, none))) 0 (m 40 0 1) (fun _ _ => True) ?_ ?_ (by omega) (x := ()) trivial
  · intro w _ g1 g2 _ hk
    have hk := hk () trivial
    rw [hF_s g1] at hk
    rw [sg_X8_digest_60]
    simp (disch := first | omega | assumption) only [↓if_pos, ↓if_neg, Option.bind_some, ob_wr_id]
    exact hk
  intro _ _
  rw [sg_X8_digest_60, if_pos (by omega), if_neg (by omega)]
  generalize hF (fun k => m 40 0 (6 + k)) H2 (m 40 0 1).toNat = H3 at *
  have tn : ob_E (139, 0, [(11, 0)], [], (m, none)) = some (m 40 0 2, (m, none)) := by
    simp (disch := first | omega | assumption) only [↓if_pos, ↓if_neg, Option.bind_some, ob_wr_id, sg_X8_tunes_0]
  refine wp_for (fun t (y : ob_AV) => ob_E (237, 95, [(11, 0), (2, dA (m 40 0) H3 t.toNat), (0, 0), (1, t), y], [], (m, none))) 0 (m 40 0 2) (fun _ _ => True) ?_ ?_ (by omega) (x := (0, 0)) trivial
  · intro t y g1 g2 _ hk
    have hk := hk (1, 5 * m 40 0 (12 + 116 * t + 2)) trivial
    rw [dA_s g1] at hk
    generalize dA (m 40 0) H3 t.toNat = B at *
    have hM := (hV.2 t g1 (by omega)).1.2.2.1
    have hS := (hV.2 t g1 (by omega)).1.2.1
    unfold dT at hk
    rw [sg_X8_digest_95, tn]
    simp (disch := first | omega | assumption) only [↓if_pos, ↓if_neg, Option.bind_some, ob_wr_id, sg_X8_digest_100]
    refine wp_for (fun w (_ : Unit) => ob_E (237, 106, [(11, 0), (2, hF (tuV (m 40 0) t) B w.toNat), (0, 0), (1, t), (1, w)], [], (m, none))) 0 8 (fun _ _ => True) ?_ ?_ (by omega) (x := ()) trivial
    · intro w _ l1 l2 _ hk2
      have e := md_tuneNow m (t := t) (w := w) (by omega) (by omega)
      have hk2 := hk2 () trivial
      rw [hF_s l1] at hk2
      rw [sg_X8_digest_106, if_pos l2, e]
      simp (disch := first | omega | assumption) only [↓if_pos, ↓if_neg, Option.bind_some, ob_wr_id, sg_X8_digest_125]
      exact hk2
    intro _ _
    rw [sg_X8_digest_106, if_neg (by omega)]
    generalize hF (tuV (m 40 0) t) B (8 : Int).toNat = B2 at *
    refine wp_for (fun k (_ : Unit) => ob_E (237, 137, [(11, 0), (2, hF (dN (m 40 0) t) B2 k.toNat), (0, 0), (1, t), (1, k)], [], (m, none))) 0 (5 * m 40 0 (12 + 116 * t + 2)) (fun _ _ => True) ?_ ?_ (by omega) (x := ()) trivial
    · intro k _ l1 l2 _ hk2
      have d5 : Int.tdiv k 5 = k / 5 := Int.tdiv_eq_ediv_of_nonneg l1
      have r5 : Int.tmod k 5 = k % 5 := Int.tmod_eq_emod_of_nonneg l1
      have e := md_noteTold m (t := t) (i := k / 5) (w := k % 5) (VV_NV hV (by omega) (by omega)) (by omega) (by omega)
      have hk2 := hk2 () trivial
      rw [hF_s l1] at hk2
      unfold dN at hk2 ⊢
      rw [sg_X8_digest_137]
      simp (disch := first | omega | assumption) only [↓if_pos, ↓if_neg, Option.bind_some, ob_wr_id, md_of, sg_X8_digest_146, d5, r5, e, sg_X8_digest_168]
      exact hk2
    intro _ _
    rw [sg_X8_digest_137]
    simp (disch := first | omega | assumption) only [↓if_pos, ↓if_neg, Option.bind_some, ob_wr_id, md_of, sg_X8_digest_146]
    exact hk
  intro y _
  rw [sg_X8_digest_95, tn]
  simp (disch := first | omega | assumption) only [↓if_pos, ↓if_neg, Option.bind_some, ob_wr_id, sg_X8_digest_100]
  generalize dA (m 40 0) H3 (m 40 0 2).toNat = H4 at *
  refine wp_for (fun w (m1 : ob_Mem) => ob_E (237, 185, [(11, 0), (2, hF (alV (m 40 0)) H4 w.toNat), (0, 0), (1, w), y], [], (m1, none))) 0 7 (fun w m1 => fs m m1 ∧ (0 < w → rP m1 (m 40 0) (Nn (m 40 0)) ∧ rM m1 (m 40 0) (br (m 40 0)))) ?_ ?_ (by omega) ⟨fs_r, fun z => absurd z (by omega)⟩
  · intro w m1 g1 g2 ⟨i1, i2⟩ hk
    have er := fs_row i1
    rw [sg_X8_digest_185, if_pos g2]
    refine wp_b (md_allNow m1 (w := w) (by rw [er]; exact hV) (by omega)) (fun v m2 h2 => ?_)
    rw [er] at h2
    obtain ⟨rfl, j1, j2, j3⟩ := h2
    have hk := hk m2 ⟨fs_t i1 j3, fun _ => ⟨j1, j2⟩⟩
    rw [hF_s g1] at hk
    simp (disch := first | omega | assumption) only [↓if_pos, ↓if_neg, Option.bind_some, ob_wr_id, sg_X8_digest_201]
    exact hk
  intro m1 ⟨i1, i2⟩
  have er := fs_row i1
  obtain ⟨j1, j2⟩ := i2 (by omega)
  rw [sg_X8_digest_185, if_neg (by omega)]
  generalize hF (alV (m 40 0)) H4 (7 : Int).toNat = H5 at *
  refine wp_for (fun b (y : ob_AV) => ob_E (237, 212, [(11, 0), (2, dB (m 40 0) H5 b.toNat), (0, 0), (1, b), y], [], (m1, none))) 0 (br (m 40 0)).1 (fun _ _ => True) ?_ ?_ SB1.1 (x := y) trivial
  · intro b y g1 g2 _ hk
    have hk := hk (1, 6) trivial
    rw [dB_s g1] at hk
    generalize dB (m 40 0) H5 b.toNat = B at *
    rw [sg_X8_digest_212, j2.1, if_pos g2]
    refine wp_for (fun w (_ : Unit) => ob_E (237, 223, [(11, 0), (2, hF (brV (m 40 0) (br (m 40 0)) b) B w.toNat), (0, 0), (1, b), (1, w)], [], (m1, none))) 0 6 (fun _ _ => True) ?_ ?_ (by omega) (x := ()) trivial
    · intro w _ l1 l2 _ hk2
      have e := md_bridgeNow er j2 hL.1 ⟨g1, g2⟩ SB1.2 (w := w) (by omega)
      have hk2 := hk2 () trivial
      rw [hF_s l1] at hk2
      rw [sg_X8_digest_223, if_pos l2, e]
      simp (disch := first | omega | assumption) only [↓if_pos, ↓if_neg, Option.bind_some, ob_wr_id, sg_X8_digest_242]
      exact hk2
    · intro _ _
      rw [sg_X8_digest_223, if_neg (by omega), ob_wr_id (by omega) (by omega)]
      exact hk
  intro y _
  rw [sg_X8_digest_212, j2.1, if_neg (by omega)]
  exact wp_ret (fin _ _ i1 rfl)
theorem ag_digest {W : Int} {m : ob_Mem} (h : Inv W m) : Agr W W m (fun m => ob_E (112, 0, [(10, 0), (0, 0), (0, 0), (0, 0), (0, 0)], [], (m, none))) (fun m => ob_E (237, 0, [(11, 0), (0, 0), (0, 0), (0, 0), (0, 0)], [], (m, none))) := by
  obtain ⟨hV, hn⟩ := Inv_V h
  refine J_br h (cl_digest h) (fun m1 er e => ?_)
  have et : toV m1 = toV m := by
    funext w
    unfold toV
    rw [e 43 0 w (by omega), e 8 0 22 (by omega), e 40 0 (w - 4) (by omega), e 8 0 3 (by omega)]
  have e44 : m1 44 0 = m 44 0 := by
    funext w
    exact e 44 0 w (by omega)
  have := md_digest (W := W) m1 (by rw [er]; exact hV)
  rw [et, e44, er] at this
  exact this
