/-! ===== every instruction of the law's body is its bytes' ===== -/
set_option maxRecDepth 100000 in
theorem okLw_3_1 : okL true ((K_Ws_law__3.drop 40).take 40) ((r_Ws_law__3.drop 40).take 40) (okE code "LastCatchLaw" false pcL) = true := by decide +kernel
set_option maxRecDepth 100000 in
theorem okLw_3_2 : okL true (((K_Ws_law__3.drop 40).drop 40).take 40) (((r_Ws_law__3.drop 40).drop 40).take 40) (okE code "LastCatchLaw" false pcL) = true := by decide +kernel
set_option maxRecDepth 100000 in
theorem okLw_4_0 : okL true ((K_Ws_law__4.drop 0).take 40) ((r_Ws_law__4.drop 0).take 40) (okE code "LastCatchLaw" false pcL) = true := by decide +kernel
set_option maxRecDepth 100000 in
theorem okLw_4_1 : okL true ((K_Ws_law__4.drop 40).take 40) ((r_Ws_law__4.drop 40).take 40) (okE code "LastCatchLaw" false pcL) = true := by decide +kernel
set_option maxRecDepth 100000 in
theorem okLw_4_2 : okL true (((K_Ws_law__4.drop 40).drop 40).take 40) (((r_Ws_law__4.drop 40).drop 40).take 40) (okE code "LastCatchLaw" false pcL) = true := by decide +kernel
