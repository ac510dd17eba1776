/-! ===== every instruction of the law's body is its bytes' ===== -/
set_option maxRecDepth 100000 in
theorem okLw_6_2 : okL true (((K_Ws_law__6.drop 40).drop 40).take 40) (((r_Ws_law__6.drop 40).drop 40).take 40) (okE code "LastCatchLaw" false pcL) = true := by decide +kernel
set_option maxRecDepth 100000 in
theorem okLw_7_0 : okL true ((K_Ws_law__7.drop 0).take 40) ((r_Ws_law__7.drop 0).take 40) (okE code "LastCatchLaw" false pcL) = true := by decide +kernel
set_option maxRecDepth 100000 in
theorem okLw_7_1 : okL true ((K_Ws_law__7.drop 40).take 40) ((r_Ws_law__7.drop 40).take 40) (okE code "LastCatchLaw" false pcL) = true := by decide +kernel
set_option maxRecDepth 100000 in
theorem okLw_7_2 : okL true (((K_Ws_law__7.drop 40).drop 40).take 40) (((r_Ws_law__7.drop 40).drop 40).take 40) (okE code "LastCatchLaw" false pcL) = true := by decide +kernel
set_option maxRecDepth 100000 in
theorem okLw_8_0 : okL true ((K_Ws_law__8.drop 0).take 40) ((r_Ws_law__8.drop 0).take 40) (okE code "LastCatchLaw" false pcL) = true := by decide +kernel
