/-! ===== every instruction of the program is its bytes' (written by wip/gen/checks2.py) ===== -/
set_option maxRecDepth 100000 in
theorem okM_0 : (List.range' 0 18).all okM = true := by decide +kernel
set_option maxRecDepth 100000 in
theorem okM_1 : (List.range' 18 14).all okM = true := by decide +kernel
set_option maxRecDepth 100000 in
theorem okM_2 : (List.range' 32 16).all okM = true := by decide +kernel
set_option maxRecDepth 100000 in
theorem okM_3 : (List.range' 48 21).all okM = true := by decide +kernel
set_option maxRecDepth 100000 in
theorem okM_4 : (List.range' 69 19).all okM = true := by decide +kernel
set_option maxRecDepth 100000 in
theorem okM_5 : (List.range' 88 13).all okM = true := by decide +kernel
set_option maxRecDepth 100000 in
theorem okM_6 : (List.range' 101 20).all okM = true := by decide +kernel
set_option maxRecDepth 100000 in
theorem okM_7 : (List.range' 121 24).all okM = true := by decide +kernel
set_option maxRecDepth 100000 in
theorem okM_8 : (List.range' 145 23).all okM = true := by decide +kernel
set_option maxRecDepth 100000 in
theorem okM_9 : (List.range' 168 38).all okM = true := by decide +kernel
