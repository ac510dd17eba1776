/-! ===== every instruction of the law's body is its bytes' ===== -/
set_option maxRecDepth 100000 in
theorem okLw_10_0 : okL true ((K_Ws_law__10.drop 0).take 40) ((r_Ws_law__10.drop 0).take 40) (okE code "LastCatchLaw" false pcL) = true := by decide +kernel
set_option maxRecDepth 100000 in
theorem okLw_10_1 : okL true ((K_Ws_law__10.drop 40).take 40) ((r_Ws_law__10.drop 40).take 40) (okE code "LastCatchLaw" false pcL) = true := by decide +kernel
set_option maxRecDepth 100000 in
theorem okLw_10_2 : okL true (((K_Ws_law__10.drop 40).drop 40).take 40) (((r_Ws_law__10.drop 40).drop 40).take 40) (okE code "LastCatchLaw" false pcL) = true := by decide +kernel
set_option maxRecDepth 100000 in
theorem okLw_11_0 : okL true ((K_Ws_law__11.drop 0).take 40) ((r_Ws_law__11.drop 0).take 40) (okE code "LastCatchLaw" false pcL) = true := by decide +kernel
set_option maxRecDepth 100000 in
theorem okLw_11_1 : okL true ((K_Ws_law__11.drop 40).take 40) ((r_Ws_law__11.drop 40).take 40) (okE code "LastCatchLaw" false pcL) = true := by decide +kernel
