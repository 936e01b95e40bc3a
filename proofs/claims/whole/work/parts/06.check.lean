set_option maxRecDepth 1000000 in
theorem ob_ck6 : (List.range' 96 16).all ob_ckF = true := by decide +kernel
set_option maxRecDepth 1000000 in
theorem ob_ck7 : (List.range' 112 16).all ob_ckF = true := by decide +kernel
set_option maxRecDepth 1000000 in
theorem ob_ck8 : (List.range' 128 16).all ob_ckF = true := by decide +kernel
set_option maxRecDepth 1000000 in
theorem ob_ck9 : (List.range' 144 16).all ob_ckF = true := by decide +kernel
set_option maxRecDepth 1000000 in
theorem ob_ck10 : (List.range' 160 16).all ob_ckF = true := by decide +kernel
