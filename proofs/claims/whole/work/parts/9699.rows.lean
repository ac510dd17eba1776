/-! ===== law_rows: the law's own body is its bytes ===== -/
theorem okL_app {f : mE → (Nat × Instr × Nat × Nat) → Bool} : ∀ (es1 : List mE) (rs1 : List (Nat × Instr × Nat × Nat)) (es2 : List mE) (rs2 : List (Nat × Instr × Nat × Nat)), okL true es1 rs1 f = true → okL true es2 rs2 f = true → okL true (es1 ++ es2) (rs1 ++ rs2) f = true
  | [], [], _, _, _, h => h
  | [], _ :: _, _, _, h, _ => by simp [okL] at h
  | _ :: _, [], _, _, h, _ => by simp [okL] at h
  | _ :: es, _ :: rs, es2, rs2, h, h2 => by
    simp only [List.cons_append, okL, Bool.and_eq_true] at h ⊢
    exact ⟨h.1, okL_app es rs es2 rs2 h.2 h2⟩
theorem okL_cut {f : mE → (Nat × Instr × Nat × Nat) → Bool} (es : List mE) (rs : List (Nat × Instr × Nat × Nat)) (k : Nat) (h1 : okL true (es.take k) (rs.take k) f = true) (h2 : okL true (es.drop k) (rs.drop k) f = true) : okL true es rs f = true := by
  have h := okL_app _ _ _ _ h1 h2
  rwa [List.take_append_drop, List.take_append_drop] at h
theorem okL_nil {f : mE → (Nat × Instr × Nat × Nat) → Bool} : okL true [] [] f = true := rfl
theorem okLv_0 : okL true K_Ws_law__0 r_Ws_law__0 (okE code "LastCatchLaw" false pcL) = true := by
  refine okL_cut _ _ 40 okLw_0_0 (okL_cut _ _ 40 okLw_0_1 (okL_cut _ _ 40 okLw_0_2 ?_))
  decide +kernel
theorem okLv_1 : okL true K_Ws_law__1 r_Ws_law__1 (okE code "LastCatchLaw" false pcL) = true := by
  refine okL_cut _ _ 40 okLw_1_0 (okL_cut _ _ 40 okLw_1_1 (okL_cut _ _ 40 okLw_1_2 ?_))
  decide +kernel
theorem okLv_2 : okL true K_Ws_law__2 r_Ws_law__2 (okE code "LastCatchLaw" false pcL) = true := by
  refine okL_cut _ _ 40 okLw_2_0 (okL_cut _ _ 40 okLw_2_1 (okL_cut _ _ 40 okLw_2_2 ?_))
  decide +kernel
theorem okLv_3 : okL true K_Ws_law__3 r_Ws_law__3 (okE code "LastCatchLaw" false pcL) = true := by
  refine okL_cut _ _ 40 okLw_3_0 (okL_cut _ _ 40 okLw_3_1 (okL_cut _ _ 40 okLw_3_2 ?_))
  decide +kernel
theorem okLv_4 : okL true K_Ws_law__4 r_Ws_law__4 (okE code "LastCatchLaw" false pcL) = true := by
  refine okL_cut _ _ 40 okLw_4_0 (okL_cut _ _ 40 okLw_4_1 (okL_cut _ _ 40 okLw_4_2 ?_))
  decide +kernel
theorem okLv_5 : okL true K_Ws_law__5 r_Ws_law__5 (okE code "LastCatchLaw" false pcL) = true := by
  refine okL_cut _ _ 40 okLw_5_0 (okL_cut _ _ 40 okLw_5_1 (okL_cut _ _ 40 okLw_5_2 ?_))
  decide +kernel
theorem okLv_6 : okL true K_Ws_law__6 r_Ws_law__6 (okE code "LastCatchLaw" false pcL) = true := by
  refine okL_cut _ _ 40 okLw_6_0 (okL_cut _ _ 40 okLw_6_1 (okL_cut _ _ 40 okLw_6_2 ?_))
  decide +kernel
theorem okLv_7 : okL true K_Ws_law__7 r_Ws_law__7 (okE code "LastCatchLaw" false pcL) = true := by
  refine okL_cut _ _ 40 okLw_7_0 (okL_cut _ _ 40 okLw_7_1 (okL_cut _ _ 40 okLw_7_2 ?_))
  decide +kernel
theorem okLv_8 : okL true K_Ws_law__8 r_Ws_law__8 (okE code "LastCatchLaw" false pcL) = true := by
  refine okL_cut _ _ 40 okLw_8_0 (okL_cut _ _ 40 okLw_8_1 (okL_cut _ _ 40 okLw_8_2 ?_))
  decide +kernel
theorem okLv_9 : okL true K_Ws_law__9 r_Ws_law__9 (okE code "LastCatchLaw" false pcL) = true := by
  refine okL_cut _ _ 40 okLw_9_0 (okL_cut _ _ 40 okLw_9_1 (okL_cut _ _ 40 okLw_9_2 ?_))
  decide +kernel
theorem okLv_10 : okL true K_Ws_law__10 r_Ws_law__10 (okE code "LastCatchLaw" false pcL) = true := by
  refine okL_cut _ _ 40 okLw_10_0 (okL_cut _ _ 40 okLw_10_1 (okL_cut _ _ 40 okLw_10_2 ?_))
  decide +kernel
theorem okLv_11 : okL true K_Ws_law__11 r_Ws_law__11 (okE code "LastCatchLaw" false pcL) = true := by
  refine okL_cut _ _ 40 okLw_11_0 (okL_cut _ _ 40 okLw_11_1 (okL_cut _ _ 40 okLw_11_2 ?_))
  decide +kernel
theorem okLv_12 : okL true K_Ws_law__12 r_Ws_law__12 (okE code "LastCatchLaw" false pcL) = true := by
  refine okL_cut _ _ 40 okLw_12_0 (okL_cut _ _ 40 okLw_12_1 (okL_cut _ _ 40 okLw_12_2 ?_))
  decide +kernel
theorem okLv_13 : okL true K_Ws_law__13 r_Ws_law__13 (okE code "LastCatchLaw" false pcL) = true := by
  refine okL_cut _ _ 40 okLw_13_0 (okL_cut _ _ 40 okLw_13_1 (okL_cut _ _ 40 okLw_13_2 ?_))
  decide +kernel
theorem okLv_14 : okL true K_Ws_law__14 r_Ws_law__14 (okE code "LastCatchLaw" false pcL) = true := by
  refine okL_cut _ _ 40 okLw_14_0 (okL_cut _ _ 40 okLw_14_1 ?_)
  decide +kernel
theorem law_pg : pgM 407 = K_Ws_law_ := rfl
theorem law_mW : mW 407 = r_Ws_law_ := rfl
theorem law_okL : okL true (pgM 407).1 (mW 407) (okE code "LastCatchLaw" false pcL) = true := by
  rw [law_pg, law_mW]
  exact okL_app _ _ _ _ okLv_0 (okL_app _ _ _ _ okLv_1 (okL_app _ _ _ _ okLv_2 (okL_app _ _ _ _ okLv_3 (okL_app _ _ _ _ okLv_4 (okL_app _ _ _ _ okLv_5 (okL_app _ _ _ _ okLv_6 (okL_app _ _ _ _ okLv_7 (okL_app _ _ _ _ okLv_8 (okL_app _ _ _ _ okLv_9 (okL_app _ _ _ _ okLv_10 (okL_app _ _ _ _ okLv_11 (okL_app _ _ _ _ okLv_12 (okL_app _ _ _ _ okLv_13 okLv_14)))))))))))))
theorem law_nm : (mN 407).cls = "LastCatchLaw" ∧ decide ((mN 407).name = "<init>") = false := by decide +kernel
theorem law_rows : ∀ (i : Nat) (e : mE), (pgM 407).1[i]? = some e → ∃ r, (mW 407)[i]? = some r ∧ okE (mB 407) (mN 407).cls (decide ((mN 407).name = "<init>")) ((mW 407).map fun r => r.1) e r = true := by
  intro i e he
  obtain ⟨e1, e2⟩ := law_nm
  rw [pcL_ok, mB_407, e1, e2]
  exact okL_at _ _ _ law_okL i e he
