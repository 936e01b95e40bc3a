set_option maxRecDepth 1000000 in
theorem ob_ck0 : (List.range' 0 16).all ob_ckF = true := by decide +kernel
set_option maxRecDepth 1000000 in
theorem ob_ck1 : (List.range' 16 16).all ob_ckF = true := by decide +kernel
set_option maxRecDepth 1000000 in
theorem ob_ck2 : (List.range' 32 16).all ob_ckF = true := by decide +kernel
set_option maxRecDepth 1000000 in
theorem ob_ck3 : (List.range' 48 16).all ob_ckF = true := by decide +kernel
set_option maxRecDepth 1000000 in
theorem ob_ck4 : (List.range' 64 16).all ob_ckF = true := by decide +kernel
set_option maxRecDepth 1000000 in
theorem ob_ck5 : (List.range' 80 16).all ob_ckF = true := by decide +kernel
