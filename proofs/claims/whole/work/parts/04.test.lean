set_option maxRecDepth 100000 in
theorem te_a0 (m : ob_Mem) (t w : Int) : ob_act (142, 0, [(11, 0), (1, t), (1, w)], [], (m, none)) = ob_go (142, 1, [(11, 0), (1, t), (1, w)], [(11, 0)], (m, none)) := rfl
set_option maxRecDepth 100000 in
theorem te_a1 (m : ob_Mem) (t w : Int) : ob_act (142, 1, [(11, 0), (1, t), (1, w)], [(11, 0)], (m, none)) = ob_go (142, 4, [(11, 0), (1, t), (1, w)], [(43, 0)], (m, none)) := rfl
set_option maxRecDepth 100000 in
theorem te_r2 (m : ob_Mem) (t w : Int) : ob_rs [] ob_E 2 (142, 0, [(11, 0), (1, t), (1, w)], [], (m, none)) = ob_E (142, 4, [(11, 0), (1, t), (1, w)], [(43, 0)], (m, none)) := rfl
set_option maxRecDepth 100000 in
theorem te_of (m : ob_Mem) (t w : Int) : ob_E (142, 0, [(11, 0), (1, t), (1, w)], [], (m, none)) = if 0 ≤ ob_wr (ob_wr (12 + ob_wr (116 * t)) + w) ∧ ob_wr (ob_wr (12 + ob_wr (116 * t)) + w) < 360 then some (m 40 0 (ob_wr (ob_wr (12 + ob_wr (116 * t)) + w)), (m, none)) else none := ob_E_rs [] 40 _
