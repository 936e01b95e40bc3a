set_option maxRecDepth 1000000 in
theorem ob_cl0 : (List.range' 0 8).all (fun i => ob_ckR 238 (16 * i) (ob_nth ob_c_L_law i [])) = true := by decide +kernel
set_option maxRecDepth 1000000 in
theorem ob_cl1 : (List.range' 8 8).all (fun i => ob_ckR 238 (16 * i) (ob_nth ob_c_L_law i [])) = true := by decide +kernel
set_option maxRecDepth 1000000 in
theorem ob_cl2 : (List.range' 16 8).all (fun i => ob_ckR 238 (16 * i) (ob_nth ob_c_L_law i [])) = true := by decide +kernel
set_option maxRecDepth 1000000 in
theorem ob_cl3 : (List.range' 24 8).all (fun i => ob_ckR 238 (16 * i) (ob_nth ob_c_L_law i [])) = true := by decide +kernel
set_option maxRecDepth 1000000 in
theorem ob_cl4 : (List.range' 32 8).all (fun i => ob_ckR 238 (16 * i) (ob_nth ob_c_L_law i [])) = true := by decide +kernel
set_option maxRecDepth 1000000 in
theorem ob_cl5 : (List.range' 40 8).all (fun i => ob_ckR 238 (16 * i) (ob_nth ob_c_L_law i [])) = true := by decide +kernel
set_option maxRecDepth 1000000 in
theorem ob_cl6 : (List.range' 48 8).all (fun i => ob_ckR 238 (16 * i) (ob_nth ob_c_L_law i [])) = true := by decide +kernel
set_option maxRecDepth 1000000 in
theorem ob_cl7 : (List.range' 56 7).all (fun i => ob_ckR 238 (16 * i) (ob_nth ob_c_L_law i [])) = true := by decide +kernel
