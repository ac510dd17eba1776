/-! ===== every instruction of the program is its bytes' (written by wip/gen/checks2.py) ===== -/
set_option maxRecDepth 100000 in
theorem okM_10 : (List.range' 206 32).all okM = true := by decide +kernel
set_option maxRecDepth 100000 in
theorem okM_11 : (List.range' 238 13).all okM = true := by decide +kernel
set_option maxRecDepth 100000 in
theorem okM_12 : (List.range' 251 12).all okM = true := by decide +kernel
set_option maxRecDepth 100000 in
theorem okM_13 : (List.range' 263 15).all okM = true := by decide +kernel
set_option maxRecDepth 100000 in
theorem okM_14 : (List.range' 278 19).all okM = true := by decide +kernel
set_option maxRecDepth 100000 in
theorem okM_15 : (List.range' 297 16).all okM = true := by decide +kernel
set_option maxRecDepth 100000 in
theorem okM_16 : (List.range' 313 12).all okM = true := by decide +kernel
set_option maxRecDepth 100000 in
theorem okM_17 : (List.range' 325 13).all okM = true := by decide +kernel
set_option maxRecDepth 100000 in
theorem okM_18 : (List.range' 338 26).all okM = true := by decide +kernel
set_option maxRecDepth 100000 in
theorem okM_19 : (List.range' 364 43).all okM = true := by decide +kernel
theorem okM_all (y : Nat) (hy : y < 407) : okM y = true := by
  have f : ∀ a n, (List.range' a n).all okM = true → a ≤ y → y < a + n → okM y = true := fun a n h h1 h2 => List.all_eq_true.mp h y (List.mem_range'_1.mpr ⟨h1, h2⟩)
  by_cases h0 : y < 18
  · exact f 0 18 okM_0 (by omega) (by omega)
  by_cases h1 : y < 32
  · exact f 18 14 okM_1 (by omega) (by omega)
  by_cases h2 : y < 48
  · exact f 32 16 okM_2 (by omega) (by omega)
  by_cases h3 : y < 69
  · exact f 48 21 okM_3 (by omega) (by omega)
  by_cases h4 : y < 88
  · exact f 69 19 okM_4 (by omega) (by omega)
  by_cases h5 : y < 101
  · exact f 88 13 okM_5 (by omega) (by omega)
  by_cases h6 : y < 121
  · exact f 101 20 okM_6 (by omega) (by omega)
  by_cases h7 : y < 145
  · exact f 121 24 okM_7 (by omega) (by omega)
  by_cases h8 : y < 168
  · exact f 145 23 okM_8 (by omega) (by omega)
  by_cases h9 : y < 206
  · exact f 168 38 okM_9 (by omega) (by omega)
  by_cases h10 : y < 238
  · exact f 206 32 okM_10 (by omega) (by omega)
  by_cases h11 : y < 251
  · exact f 238 13 okM_11 (by omega) (by omega)
  by_cases h12 : y < 263
  · exact f 251 12 okM_12 (by omega) (by omega)
  by_cases h13 : y < 278
  · exact f 263 15 okM_13 (by omega) (by omega)
  by_cases h14 : y < 297
  · exact f 278 19 okM_14 (by omega) (by omega)
  by_cases h15 : y < 313
  · exact f 297 16 okM_15 (by omega) (by omega)
  by_cases h16 : y < 325
  · exact f 313 12 okM_16 (by omega) (by omega)
  by_cases h17 : y < 338
  · exact f 325 13 okM_17 (by omega) (by omega)
  by_cases h18 : y < 364
  · exact f 338 26 okM_18 (by omega) (by omega)
  · exact f 364 43 okM_19 (by omega) (by omega)
/-- whatever the abstract machine answers, the machine answers -/
theorem sound {l : Launch} {s0 : State} {D : va_G} {ρ : Nat → Nat} {z : Value} (G : Gho l s0 D ρ z) (d : Nat) : SND l s0 D ρ z d := snd_all G okM_all d
