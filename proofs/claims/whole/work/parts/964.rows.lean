/-! ===== every instruction of the law's body is its bytes' ===== -/
set_option maxRecDepth 100000 in
theorem okLw_5_0 : okL true ((K_Ws_law__5.drop 0).take 40) ((r_Ws_law__5.drop 0).take 40) (okE code "LastCatchLaw" false pcL) = true := by decide +kernel
set_option maxRecDepth 100000 in
theorem okLw_5_1 : okL true ((K_Ws_law__5.drop 40).take 40) ((r_Ws_law__5.drop 40).take 40) (okE code "LastCatchLaw" false pcL) = true := by decide +kernel
set_option maxRecDepth 100000 in
theorem okLw_5_2 : okL true (((K_Ws_law__5.drop 40).drop 40).take 40) (((r_Ws_law__5.drop 40).drop 40).take 40) (okE code "LastCatchLaw" false pcL) = true := by decide +kernel
set_option maxRecDepth 100000 in
theorem okLw_6_0 : okL true ((K_Ws_law__6.drop 0).take 40) ((r_Ws_law__6.drop 0).take 40) (okE code "LastCatchLaw" false pcL) = true := by decide +kernel
set_option maxRecDepth 100000 in
theorem okLw_6_1 : okL true ((K_Ws_law__6.drop 40).take 40) ((r_Ws_law__6.drop 40).take 40) (okE code "LastCatchLaw" false pcL) = true := by decide +kernel
