theorem te_hold (m : ob_Mem) {t i : Int} (h : NV (m 40 0) t i) : ob_E (152, 0, [(11, 0), (1, t), (1, i)], [], (m, none)) = some (hd (m 40 0) t i, (m, none)) := by
  have hb := hd_b h
  obtain ⟨h3, h4, h5, h6, h7, h8⟩ := id h
  unfold hd at hb ⊢
  simp (disch := omega) only [sg_X8_hold_0, sg_X8_hold_8, sg_X8_hold_14, sg_X8_hold_18, sg_X8_hold_26, sg_X8_hold_29, md_start, md_length, md_angleNow, Option.bind_some, ob_wr_id]
