set_option maxRecDepth 1000000 in
theorem ob_ck11 : (List.range' 176 16).all ob_ckF = true := by decide +kernel
set_option maxRecDepth 1000000 in
theorem ob_ck12 : (List.range' 192 16).all ob_ckF = true := by decide +kernel
set_option maxRecDepth 1000000 in
theorem ob_ck13 : (List.range' 208 16).all ob_ckF = true := by decide +kernel
set_option maxRecDepth 1000000 in
theorem ob_ck14 : (List.range' 224 14).all ob_ckF = true := by decide +kernel
set_option maxRecDepth 1000000 in
theorem ob_ck15 : ob_ckF 239 = true := by decide +kernel
