/-! ===== every instruction of the law's body is its bytes' ===== -/
set_option maxRecDepth 100000 in
theorem okLw_8_1 : okL true ((K_Ws_law__8.drop 40).take 40) ((r_Ws_law__8.drop 40).take 40) (okE code "LastCatchLaw" false pcL) = true := by decide +kernel
set_option maxRecDepth 100000 in
theorem okLw_8_2 : okL true (((K_Ws_law__8.drop 40).drop 40).take 40) (((r_Ws_law__8.drop 40).drop 40).take 40) (okE code "LastCatchLaw" false pcL) = true := by decide +kernel
set_option maxRecDepth 100000 in
theorem okLw_9_0 : okL true ((K_Ws_law__9.drop 0).take 40) ((r_Ws_law__9.drop 0).take 40) (okE code "LastCatchLaw" false pcL) = true := by decide +kernel
set_option maxRecDepth 100000 in
theorem okLw_9_1 : okL true ((K_Ws_law__9.drop 40).take 40) ((r_Ws_law__9.drop 40).take 40) (okE code "LastCatchLaw" false pcL) = true := by decide +kernel
set_option maxRecDepth 100000 in
theorem okLw_9_2 : okL true (((K_Ws_law__9.drop 40).drop 40).take 40) (((r_Ws_law__9.drop 40).drop 40).take 40) (okE code "LastCatchLaw" false pcL) = true := by decide +kernel
