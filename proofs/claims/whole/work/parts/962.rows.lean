/-! ===== every instruction of the law's body is its bytes' ===== -/
set_option maxRecDepth 100000 in
theorem okLw_1_2 : okL true (((K_Ws_law__1.drop 40).drop 40).take 40) (((r_Ws_law__1.drop 40).drop 40).take 40) (okE code "LastCatchLaw" false pcL) = true := by decide +kernel
set_option maxRecDepth 100000 in
theorem okLw_2_0 : okL true ((K_Ws_law__2.drop 0).take 40) ((r_Ws_law__2.drop 0).take 40) (okE code "LastCatchLaw" false pcL) = true := by decide +kernel
set_option maxRecDepth 100000 in
theorem okLw_2_1 : okL true ((K_Ws_law__2.drop 40).take 40) ((r_Ws_law__2.drop 40).take 40) (okE code "LastCatchLaw" false pcL) = true := by decide +kernel
set_option maxRecDepth 100000 in
theorem okLw_2_2 : okL true (((K_Ws_law__2.drop 40).drop 40).take 40) (((r_Ws_law__2.drop 40).drop 40).take 40) (okE code "LastCatchLaw" false pcL) = true := by decide +kernel
set_option maxRecDepth 100000 in
theorem okLw_3_0 : okL true ((K_Ws_law__3.drop 0).take 40) ((r_Ws_law__3.drop 0).take 40) (okE code "LastCatchLaw" false pcL) = true := by decide +kernel
