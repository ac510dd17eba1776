/-! ===== every instruction of the law's body is its bytes' (written by wip/gen/checks2.py) ===== -/
set_option maxRecDepth 100000 in
theorem okLw_10 : okL true K_Ws_law__10 r_Ws_law__10 (okE code "LastCatchLaw" false pcL) = true := by decide +kernel
set_option maxRecDepth 100000 in
theorem okLw_11 : okL true K_Ws_law__11 r_Ws_law__11 (okE code "LastCatchLaw" false pcL) = true := by decide +kernel
set_option maxRecDepth 100000 in
theorem okLw_12 : okL true K_Ws_law__12 r_Ws_law__12 (okE code "LastCatchLaw" false pcL) = true := by decide +kernel
set_option maxRecDepth 100000 in
theorem okLw_13 : okL true K_Ws_law__13 r_Ws_law__13 (okE code "LastCatchLaw" false pcL) = true := by decide +kernel
set_option maxRecDepth 100000 in
theorem okLw_14 : okL true K_Ws_law__14 r_Ws_law__14 (okE code "LastCatchLaw" false pcL) = true := by decide +kernel

theorem okL_app {f : mE → (Nat × Instr × Nat × Nat) → Bool} : ∀ (es1 : List mE) (rs1 : List (Nat × Instr × Nat × Nat)) (es2 : List mE) (rs2 : List (Nat × Instr × Nat × Nat)), okL true es1 rs1 f = true → okL true es2 rs2 f = true → okL true (es1 ++ es2) (rs1 ++ rs2) f = true
  | [], [], _, _, _, h => h
  | [], _ :: _, _, _, h, _ => by simp [okL] at h
  | _ :: _, [], _, _, h, _ => by simp [okL] at h
  | _ :: es, _ :: rs, es2, rs2, h, h2 => by
    simp only [List.cons_append, okL, Bool.and_eq_true] at h ⊢
    exact ⟨h.1, okL_app es rs es2 rs2 h.2 h2⟩
theorem law_pg : pgM 407 = K_Ws_law_ := rfl
theorem law_mW : mW 407 = r_Ws_law_ := rfl
theorem law_okL : okL true (pgM 407).1 (mW 407) (okE code "LastCatchLaw" false pcL) = true := by
  rw [law_pg, law_mW]
  exact okL_app _ _ _ _ okLw_0 (okL_app _ _ _ _ okLw_1 (okL_app _ _ _ _ okLw_2 (okL_app _ _ _ _ okLw_3 (okL_app _ _ _ _ okLw_4 (okL_app _ _ _ _ okLw_5 (okL_app _ _ _ _ okLw_6 (okL_app _ _ _ _ okLw_7 (okL_app _ _ _ _ okLw_8 (okL_app _ _ _ _ okLw_9 (okL_app _ _ _ _ okLw_10 (okL_app _ _ _ _ okLw_11 (okL_app _ _ _ _ okLw_12 (okL_app _ _ _ _ okLw_13 okLw_14)))))))))))))
theorem law_nm : (mN 407).cls = "LastCatchLaw" ∧ decide ((mN 407).name = "<init>") = false := by decide +kernel
theorem law_rows : ∀ (i : Nat) (e : mE), (pgM 407).1[i]? = some e → ∃ r, (mW 407)[i]? = some r ∧ okE (mB 407) (mN 407).cls (decide ((mN 407).name = "<init>")) ((mW 407).map fun r => r.1) e r = true := by
  intro i e he
  obtain ⟨e1, e2⟩ := law_nm
  rw [pcL_ok, mB_407, e1, e2]
  exact okL_at _ _ _ law_okL i e he
