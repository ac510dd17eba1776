/-! ===== every instruction of the law's body is its bytes' (written by wip/gen/checks2.py) ===== -/
set_option maxRecDepth 100000 in
theorem okLw_5 : okL true K_Ws_law__5 r_Ws_law__5 (okE code "LastCatchLaw" false pcL) = true := by decide +kernel
set_option maxRecDepth 100000 in
theorem okLw_6 : okL true K_Ws_law__6 r_Ws_law__6 (okE code "LastCatchLaw" false pcL) = true := by decide +kernel
set_option maxRecDepth 100000 in
theorem okLw_7 : okL true K_Ws_law__7 r_Ws_law__7 (okE code "LastCatchLaw" false pcL) = true := by decide +kernel
set_option maxRecDepth 100000 in
theorem okLw_8 : okL true K_Ws_law__8 r_Ws_law__8 (okE code "LastCatchLaw" false pcL) = true := by decide +kernel
set_option maxRecDepth 100000 in
theorem okLw_9 : okL true K_Ws_law__9 r_Ws_law__9 (okE code "LastCatchLaw" false pcL) = true := by decide +kernel
