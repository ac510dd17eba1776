/-! ===== every instruction of the law's body is its bytes' ===== -/
set_option maxRecDepth 100000 in
theorem okLw_13_1 : okL true ((K_Ws_law__13.drop 40).take 40) ((r_Ws_law__13.drop 40).take 40) (okE code "LastCatchLaw" false pcL) = true := by decide +kernel
set_option maxRecDepth 100000 in
theorem okLw_13_2 : okL true (((K_Ws_law__13.drop 40).drop 40).take 40) (((r_Ws_law__13.drop 40).drop 40).take 40) (okE code "LastCatchLaw" false pcL) = true := by decide +kernel
set_option maxRecDepth 100000 in
theorem okLw_14_0 : okL true ((K_Ws_law__14.drop 0).take 40) ((r_Ws_law__14.drop 0).take 40) (okE code "LastCatchLaw" false pcL) = true := by decide +kernel
set_option maxRecDepth 100000 in
theorem okLw_14_1 : okL true ((K_Ws_law__14.drop 40).take 40) ((r_Ws_law__14.drop 40).take 40) (okE code "LastCatchLaw" false pcL) = true := by decide +kernel
