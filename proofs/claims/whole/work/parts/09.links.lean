-- THE TABLES' WORDS BEHIND THE LINKS
def ob_gt : List Cond := lw_tbl.filter goodWord
theorem ob_gin : GoodIn ob_gt ob_gt := fun w h => ⟨h, good_of_word (List.mem_filter.mp h).2⟩
set_option maxRecDepth 1000000 in
theorem ob_FLk : ∀ q ∈ ob_FL, lw_tbl[q.2.2.2.2]? = some (Cond.fieldLink (ob_cn q.1) q.2.1 (ob_TT q.2.2.1 q.2.2.2.1).1 (ob_TT q.2.2.1 q.2.2.2.1).2.1 (ob_TT q.2.2.1 q.2.2.2.1).2.2.1) := by decide +kernel
set_option maxRecDepth 1000000 in
theorem ob_MLk : ∀ q ∈ ob_ML, lw_tbl[q.2.2.2]? = some (Cond.methodLink (ob_cn q.1) q.2.1 (ob_y q.2.2.1)) := by decide +kernel
set_option maxRecDepth 1000000 in
theorem ob_MNk : ∀ q ∈ ob_MN, lw_tbl[q.2.2.2]? = some (Cond.methodLinkNest (ob_cn q.1) q.2.1 (ob_y q.2.2.1) "OrganBarrel") := by decide +kernel
def ob_spn (k : Nat) : MethodName := match k with
  | 0 => objectInit
  | 1 => arraycopyName
  | 2 => Lib.Math.min.name
  | 3 => Lib.Math.max.name
  | _ => Lib.Math.abs.name
set_option maxRecDepth 1000000 in
theorem ob_SPk : ∀ q ∈ ob_SP, lw_tbl[q.2.2.2]? = some (Cond.methodLink (ob_cn q.1) q.2.1 (ob_spn q.2.2.1)) := by decide +kernel
set_option maxRecDepth 1000000 in
theorem ob_CKk : ∀ q ∈ ob_CK, lw_tbl[q.2.2.2]? = some (Cond.classLink (ob_cn q.1) q.2.1 (ob_cn q.2.2.1)) := by decide +kernel
set_option maxRecDepth 1000000 in
theorem ob_COk : ∀ q ∈ ob_CO, lw_tbl[q.2.2.2.1]? = some (cond (Nat.beq q.2.2.2.2 0) (Cond.constant (ob_cn q.1) q.2.1 (Int32.ofInt (Int.ofNat q.2.2.1))) (Cond.constantLong (ob_cn q.1) q.2.1 (Int64.ofInt (Int.ofNat q.2.2.1)))) := by decide +kernel
set_option maxRecDepth 1000000 in
theorem ob_MPi : ∀ q ∈ ob_MP, lw_tbl[q.2.2.1]? = some (cond (Nat.beq (ob_sc q.1) 0) (Cond.instanceMethod (ob_y q.1)) (Cond.static (ob_y q.1))) := by decide +kernel
set_option maxRecDepth 1000000 in
theorem ob_MPs : ∀ q ∈ ob_MP, (Nat.beq (ob_sc q.1) 0 && !decide ((ob_y q.1).name = "<init>")) = true → lw_tbl[q.2.2.2]? = some (Cond.selects (ob_y q.1).cls (ob_y q.1) (ob_y q.1)) := by decide +kernel
set_option maxRecDepth 1000000 in
theorem ob_INk : ∀ q ∈ ob_IN, lw_tbl[q.2]? = some (Cond.initialized (ob_cn q.1)) := by decide +kernel
set_option maxRecDepth 1000000 in
theorem ob_ISk : ∀ q ∈ ob_IS, lw_tbl[q.2.2]? = some (Cond.instantiable (ob_cn q.1) q.2.1) ∧ q.2.1 = (ob_nth ob_ft q.1 []).length := by decide +kernel
set_option maxRecDepth 1000000 in
theorem ob_INa : ∀ c, c < 11 → ob_IN.any (fun q => Nat.beq q.1 c) = true := by decide +kernel
set_option maxRecDepth 1000000 in
theorem ob_ISa : ∀ c, c < 9 → ob_IS.any (fun q => Nat.beq q.1 c) = true := by decide +kernel
set_option maxRecDepth 1000000 in
theorem ob_MPa : ∀ f, f < 240 → f ≠ 238 → ob_MP.any (fun q => Nat.beq q.1 f) = true ∧ (ob_y f).cls = ob_cn (ob_ow f) ∧ ob_ow f < 11 := by decide +kernel
set_option maxRecDepth 1000000 in
theorem ob_laysk : ∀ c, c < 9 → ∀ w ∈ u_ws (ob_cn c) (ob_TT c) (ob_nth ob_ft c []).length, w ∈ ob_gt := by decide +kernel
