/-! ===== one more boat, buyer, dead one ===== -/
def sbo (S : SS) (v1 v2 v3 : Int32) : SS := su (su (su (su S 3 (nb S) 0 v1) 3 (nb S) 1 v2) 3 (nb S) 2 v3) 0 0 1 (nI (nb S + 1))
theorem sbo_o {S : SS} {v1 v2 v3 : Int32} {x y v : Nat} (h : ¬ (x = 3 ∧ y = nb S)) (h2 : ¬ (x = 0 ∧ y = 0 ∧ v = 1)) : sbo S v1 v2 v3 x y v = S x y v := by
  unfold sbo
  rw [su_o h2, su_o (by omega), su_o (by omega), su_o (by omega)]
theorem sbo_0 {S : SS} {v1 v2 v3 : Int32} : sbo S v1 v2 v3 3 (nb S) 0 = v1 := by
  unfold sbo
  rw [su_o (by omega), su_o (by omega), su_o (by omega), su_s]
theorem sbo_1 {S : SS} {v1 v2 v3 : Int32} : sbo S v1 v2 v3 3 (nb S) 1 = v2 := by
  unfold sbo
  rw [su_o (by omega), su_o (by omega), su_s]
theorem sbo_2 {S : SS} {v1 v2 v3 : Int32} : sbo S v1 v2 v3 3 (nb S) 2 = v3 := by
  unfold sbo
  rw [su_o (by omega), su_s]
theorem sbo_n {S : SS} {v1 v2 v3 : Int32} (h : nb S < 3) : sbo S v1 v2 v3 0 0 1 = nI (nb S + 1) ∧ nf (sbo S v1 v2 v3) = nf S ∧ nb (sbo S v1 v2 v3) = nb S + 1 ∧ ny (sbo S v1 v2 v3) = ny S ∧ nd (sbo S v1 v2 v3) = nd S ∧ nl (sbo S v1 v2 v3) = nl S := by
  have e1 : sbo S v1 v2 v3 0 0 1 = nI (nb S + 1) := by unfold sbo; rw [su_s]
  refine ⟨e1, ?_, ?_, ?_, ?_, ?_⟩
  · unfold nf; rw [sbo_o (by omega) (by omega)]
  · show (sbo S v1 v2 v3 0 0 1).toNatClampNeg = _; rw [e1, nI_clamp (by omega)]
  · unfold ny; rw [sbo_o (by omega) (by omega)]
  · unfold nd; rw [sbo_o (by omega) (by omega)]
  · unfold nl; rw [sbo_o (by omega) (by omega)]
theorem CV_sbo {i i' : MI} {a : Nat} {S : SS} (h : CV i a S) (hmx : nb S < 3) {v1 v2 v3 : Int32} (hi : ∀ b j, b ≠ a + 12 + nb S → ¬ (b = a ∧ j = 8) → i' b j = i b j) (hn : i' a 8 = nI (nb S + 1)) (r0 : i' (a + 12 + nb S) 0 = v1) (r1 : i' (a + 12 + nb S) 1 = v2) (r2 : i' (a + 12 + nb S) 2 = v3) (hc : Cnt S) : CV i' a (sbo S v1 v2 v3) := by
  obtain ⟨⟨a1, a2, a3, a4, a5, a6, a7, a8, a9⟩, h2, h3, h4, h5, h6, h7, x, hx, h8, h9⟩ := h
  have w0 := hc.f8; have w1 := hc.b3; have w2 := hc.y5; have w3 := hc.d6
  obtain ⟨e1, n0, n1, n2, n3, n4⟩ := sbo_n (S := S) (v1 := v1) (v2 := v2) (v3 := v3) hmx
  refine ⟨⟨?_, ?_, ?_, ?_, ?_, ?_, ?_, ?_, ?_⟩, fun c hc => ?_, fun g hg => ?_, fun b hb => ?_, fun y hy => ?_, fun d hd => ?_, ?_, x, hx, ?_, fun g hg k hk => ?_⟩
  · rw [hi _ _ (by omega) (by omega), sbo_o (by omega) (by omega)]; exact a1
  · rw [hn, e1]
  · rw [hi _ _ (by omega) (by omega), sbo_o (by omega) (by omega)]; exact a3
  · rw [hi _ _ (by omega) (by omega), sbo_o (by omega) (by omega)]; exact a4
  · rw [hi _ _ (by omega) (by omega), sbo_o (by omega) (by omega)]; exact a5
  · rw [hi _ _ (by omega) (by omega), sbo_o (by omega) (by omega)]; exact a6
  · rw [hi _ _ (by omega) (by omega), sbo_o (by omega) (by omega)]; exact a7
  · rw [hi _ _ (by omega) (by omega), sbo_o (by omega) (by omega)]; exact a8
  · rw [hi _ _ (by omega) (by omega), sbo_o (by omega) (by omega)]; exact a9
  · rw [hi _ _ (by omega) (by omega), sbo_o (by omega) (by omega)]; exact h2 c hc
  · rw [n0] at hg
    have e3 : ∀ v, sbo S v1 v2 v3 2 g v = S 2 g v := fun v => sbo_o (by omega) (by omega)
    have e4 : ∀ j, i' (a + 3 + g) j = i (a + 3 + g) j := fun j => hi _ _ (by omega) (by omega)
    simp only [e3, e4]; exact h3 g (by omega)
  · rw [n1] at hb
    by_cases e : b = nb S
    · subst e
      rw [sbo_0, sbo_1, sbo_2]
      exact ⟨r0, r1, r2⟩
    · have e3 : ∀ v, sbo S v1 v2 v3 3 b v = S 3 b v := fun v => sbo_o (by omega) (by omega)
      have e4 : ∀ j, i' (a + 12 + b) j = i (a + 12 + b) j := fun j => hi _ _ (by omega) (by omega)
      simp only [e3, e4]; exact h4 b (by omega)
  · rw [n2] at hy
    have e3 : ∀ v, sbo S v1 v2 v3 4 y v = S 4 y v := fun v => sbo_o (by omega) (by omega)
    have e4 : ∀ j, i' (a + 16 + y) j = i (a + 16 + y) j := fun j => hi _ _ (by omega) (by omega)
    simp only [e3, e4]; exact h5 y (by omega)
  · rw [n3] at hd
    have e3 : ∀ v, sbo S v1 v2 v3 5 d v = S 5 d v := fun v => sbo_o (by omega) (by omega)
    have e4 : ∀ j, i' (a + 22 + d) j = i (a + 22 + d) j := fun j => hi _ _ (by omega) (by omega)
    simp only [e3, e4]; exact h6 d (by omega)
  · rw [hi _ _ (by omega) (by omega), sbo_o (by omega) (by omega)]; exact h7
  · rw [hi _ _ (by omega) (by omega)]; exact h8
  · rw [n4] at hg
    rw [hi _ _ (by omega) (by omega), sbo_o (by omega) (by omega)]; exact h9 g hg k hk
theorem Wf_sbo {S : SS} (hw : Wf S) (hmx : nb S < 3) {v1 v2 v3 : Int32} (hc : ∃ c', c' < 25 ∧ v1 = nI c') (hh : v2 = -1 ∨ ∃ c', c' < 25 ∧ v2 = nI c') (hz : ∃ z', 1 ≤ z' ∧ z' ≤ 9 ∧ v3 = nI z') : Wf (sbo S v1 v2 v3) := by
  obtain ⟨e1, n0, n1, n2, n3, n4⟩ := sbo_n (S := S) (v1 := v1) (v2 := v2) (v3 := v3) hmx
  obtain ⟨w0, w1, w2, w3, w4, w5, w6, w7, w8, w9⟩ := hw
  obtain ⟨c0, c1, c2, c3, c4⟩ := w0
  refine ⟨⟨?_, ?_, ?_, ?_, ?_⟩, fun j hj => ?_, fun f hf => ?_, fun f hf => ?_, fun f hf => ?_, fun f hf => ?_, ?_, ?_, ?_, ?_⟩
  · rw [n0, sbo_o (by omega) (by omega)]; exact c0
  · rw [n1, e1]; exact ⟨rfl, by omega⟩
  · rw [n2, sbo_o (by omega) (by omega)]; exact c2
  · rw [n3, sbo_o (by omega) (by omega)]; exact c3
  · rw [n4, sbo_o (by omega) (by omega)]; exact c4
  · rw [sbo_o (by omega) (by omega)]; exact w1 j hj
  · rw [n0] at hf
    have e3 : ∀ v, sbo S v1 v2 v3 2 f v = S 2 f v := fun v => sbo_o (by omega) (by omega)
    simp only [e3]
    obtain ⟨g1, g2, g3, g4⟩ := w2 f hf
    refine ⟨g1, g2, g3, ?_⟩
    rcases g4 with g | ⟨g5, b, hb, g6⟩ | g | g
    · exact Or.inl g
    · exact Or.inr (Or.inl ⟨g5, b, by omega, g6⟩)
    · exact Or.inr (Or.inr (Or.inl g))
    · exact Or.inr (Or.inr (Or.inr g))
  · rw [n1] at hf
    by_cases e : f = nb S
    · subst e
      rw [sbo_0, sbo_1, sbo_2]
      exact ⟨hc, hh, hz⟩
    · have e3 : ∀ v, sbo S v1 v2 v3 3 f v = S 3 f v := fun v => sbo_o (by omega) (by omega)
      simp only [e3]; exact w3 f (by omega)
  · rw [n2] at hf
    have e3 : ∀ v, sbo S v1 v2 v3 4 f v = S 4 f v := fun v => sbo_o (by omega) (by omega)
    simp only [e3]; exact w4 f (by omega)
  · rw [n3] at hf
    have e3 : ∀ v, sbo S v1 v2 v3 5 f v = S 5 f v := fun v => sbo_o (by omega) (by omega)
    simp only [e3]; exact w5 f (by omega)
  · rw [sbo_o (by omega) (by omega)]; exact w6
  · rw [sbo_o (by omega) (by omega)]; exact w7
  · rw [sbo_o (by omega) (by omega)]; exact w8
  · rw [sbo_o (by omega) (by omega)]; exact w9
def syo (S : SS) (v1 v2 v3 v4 : Int32) : SS := su (su (su (su (su S 4 (ny S) 0 v1) 4 (ny S) 1 v2) 4 (ny S) 2 v3) 4 (ny S) 3 v4) 0 0 2 (nI (ny S + 1))
theorem syo_o {S : SS} {v1 v2 v3 v4 : Int32} {x y v : Nat} (h : ¬ (x = 4 ∧ y = ny S)) (h2 : ¬ (x = 0 ∧ y = 0 ∧ v = 2)) : syo S v1 v2 v3 v4 x y v = S x y v := by
  unfold syo
  rw [su_o h2, su_o (by omega), su_o (by omega), su_o (by omega), su_o (by omega)]
theorem syo_0 {S : SS} {v1 v2 v3 v4 : Int32} : syo S v1 v2 v3 v4 4 (ny S) 0 = v1 := by
  unfold syo
  rw [su_o (by omega), su_o (by omega), su_o (by omega), su_o (by omega), su_s]
theorem syo_1 {S : SS} {v1 v2 v3 v4 : Int32} : syo S v1 v2 v3 v4 4 (ny S) 1 = v2 := by
  unfold syo
  rw [su_o (by omega), su_o (by omega), su_o (by omega), su_s]
theorem syo_2 {S : SS} {v1 v2 v3 v4 : Int32} : syo S v1 v2 v3 v4 4 (ny S) 2 = v3 := by
  unfold syo
  rw [su_o (by omega), su_o (by omega), su_s]
theorem syo_3 {S : SS} {v1 v2 v3 v4 : Int32} : syo S v1 v2 v3 v4 4 (ny S) 3 = v4 := by
  unfold syo
  rw [su_o (by omega), su_s]
theorem syo_n {S : SS} {v1 v2 v3 v4 : Int32} (h : ny S < 5) : syo S v1 v2 v3 v4 0 0 2 = nI (ny S + 1) ∧ nf (syo S v1 v2 v3 v4) = nf S ∧ nb (syo S v1 v2 v3 v4) = nb S ∧ ny (syo S v1 v2 v3 v4) = ny S + 1 ∧ nd (syo S v1 v2 v3 v4) = nd S ∧ nl (syo S v1 v2 v3 v4) = nl S := by
  have e1 : syo S v1 v2 v3 v4 0 0 2 = nI (ny S + 1) := by unfold syo; rw [su_s]
  refine ⟨e1, ?_, ?_, ?_, ?_, ?_⟩
  · unfold nf; rw [syo_o (by omega) (by omega)]
  · unfold nb; rw [syo_o (by omega) (by omega)]
  · show (syo S v1 v2 v3 v4 0 0 2).toNatClampNeg = _; rw [e1, nI_clamp (by omega)]
  · unfold nd; rw [syo_o (by omega) (by omega)]
  · unfold nl; rw [syo_o (by omega) (by omega)]
theorem CV_syo {i i' : MI} {a : Nat} {S : SS} (h : CV i a S) (hmx : ny S < 5) {v1 v2 v3 v4 : Int32} (hi : ∀ b j, b ≠ a + 16 + ny S → ¬ (b = a ∧ j = 9) → i' b j = i b j) (hn : i' a 9 = nI (ny S + 1)) (r0 : i' (a + 16 + ny S) 0 = v1) (r1 : i' (a + 16 + ny S) 1 = v2) (r2 : i' (a + 16 + ny S) 2 = v3) (r3 : i' (a + 16 + ny S) 3 = v4) (hc : Cnt S) : CV i' a (syo S v1 v2 v3 v4) := by
  obtain ⟨⟨a1, a2, a3, a4, a5, a6, a7, a8, a9⟩, h2, h3, h4, h5, h6, h7, x, hx, h8, h9⟩ := h
  have w0 := hc.f8; have w1 := hc.b3; have w2 := hc.y5; have w3 := hc.d6
  obtain ⟨e1, n0, n1, n2, n3, n4⟩ := syo_n (S := S) (v1 := v1) (v2 := v2) (v3 := v3) (v4 := v4) hmx
  refine ⟨⟨?_, ?_, ?_, ?_, ?_, ?_, ?_, ?_, ?_⟩, fun c hc => ?_, fun g hg => ?_, fun b hb => ?_, fun y hy => ?_, fun d hd => ?_, ?_, x, hx, ?_, fun g hg k hk => ?_⟩
  · rw [hi _ _ (by omega) (by omega), syo_o (by omega) (by omega)]; exact a1
  · rw [hi _ _ (by omega) (by omega), syo_o (by omega) (by omega)]; exact a2
  · rw [hn, e1]
  · rw [hi _ _ (by omega) (by omega), syo_o (by omega) (by omega)]; exact a4
  · rw [hi _ _ (by omega) (by omega), syo_o (by omega) (by omega)]; exact a5
  · rw [hi _ _ (by omega) (by omega), syo_o (by omega) (by omega)]; exact a6
  · rw [hi _ _ (by omega) (by omega), syo_o (by omega) (by omega)]; exact a7
  · rw [hi _ _ (by omega) (by omega), syo_o (by omega) (by omega)]; exact a8
  · rw [hi _ _ (by omega) (by omega), syo_o (by omega) (by omega)]; exact a9
  · rw [hi _ _ (by omega) (by omega), syo_o (by omega) (by omega)]; exact h2 c hc
  · rw [n0] at hg
    have e3 : ∀ v, syo S v1 v2 v3 v4 2 g v = S 2 g v := fun v => syo_o (by omega) (by omega)
    have e4 : ∀ j, i' (a + 3 + g) j = i (a + 3 + g) j := fun j => hi _ _ (by omega) (by omega)
    simp only [e3, e4]; exact h3 g (by omega)
  · rw [n1] at hb
    have e3 : ∀ v, syo S v1 v2 v3 v4 3 b v = S 3 b v := fun v => syo_o (by omega) (by omega)
    have e4 : ∀ j, i' (a + 12 + b) j = i (a + 12 + b) j := fun j => hi _ _ (by omega) (by omega)
    simp only [e3, e4]; exact h4 b (by omega)
  · rw [n2] at hy
    by_cases e : y = ny S
    · subst e
      rw [syo_0, syo_1, syo_2, syo_3]
      exact ⟨r0, r1, r2, r3⟩
    · have e3 : ∀ v, syo S v1 v2 v3 v4 4 y v = S 4 y v := fun v => syo_o (by omega) (by omega)
      have e4 : ∀ j, i' (a + 16 + y) j = i (a + 16 + y) j := fun j => hi _ _ (by omega) (by omega)
      simp only [e3, e4]; exact h5 y (by omega)
  · rw [n3] at hd
    have e3 : ∀ v, syo S v1 v2 v3 v4 5 d v = S 5 d v := fun v => syo_o (by omega) (by omega)
    have e4 : ∀ j, i' (a + 22 + d) j = i (a + 22 + d) j := fun j => hi _ _ (by omega) (by omega)
    simp only [e3, e4]; exact h6 d (by omega)
  · rw [hi _ _ (by omega) (by omega), syo_o (by omega) (by omega)]; exact h7
  · rw [hi _ _ (by omega) (by omega)]; exact h8
  · rw [n4] at hg
    rw [hi _ _ (by omega) (by omega), syo_o (by omega) (by omega)]; exact h9 g hg k hk
theorem Wf_syo {S : SS} (hw : Wf S) (hmx : ny S < 5) {v1 v2 v3 v4 : Int32} (hk : ∃ k', k' < 4 ∧ v1 = nI k') (hm : ∃ z', z' ≤ 999 ∧ v2 = nI z') (hl : ∃ z', z' ≤ 99 ∧ v3 = nI z') (he : ∃ z', z' ≤ 100 ∧ v4 = nI z') : Wf (syo S v1 v2 v3 v4) := by
  obtain ⟨e1, n0, n1, n2, n3, n4⟩ := syo_n (S := S) (v1 := v1) (v2 := v2) (v3 := v3) (v4 := v4) hmx
  obtain ⟨w0, w1, w2, w3, w4, w5, w6, w7, w8, w9⟩ := hw
  obtain ⟨c0, c1, c2, c3, c4⟩ := w0
  refine ⟨⟨?_, ?_, ?_, ?_, ?_⟩, fun j hj => ?_, fun f hf => ?_, fun f hf => ?_, fun f hf => ?_, fun f hf => ?_, ?_, ?_, ?_, ?_⟩
  · rw [n0, syo_o (by omega) (by omega)]; exact c0
  · rw [n1, syo_o (by omega) (by omega)]; exact c1
  · rw [n2, e1]; exact ⟨rfl, by omega⟩
  · rw [n3, syo_o (by omega) (by omega)]; exact c3
  · rw [n4, syo_o (by omega) (by omega)]; exact c4
  · rw [syo_o (by omega) (by omega)]; exact w1 j hj
  · rw [n0] at hf
    rw [n1]
    have e3 : ∀ v, syo S v1 v2 v3 v4 2 f v = S 2 f v := fun v => syo_o (by omega) (by omega)
    simp only [e3]; exact w2 f (by omega)
  · rw [n1] at hf
    have e3 : ∀ v, syo S v1 v2 v3 v4 3 f v = S 3 f v := fun v => syo_o (by omega) (by omega)
    simp only [e3]; exact w3 f (by omega)
  · rw [n2] at hf
    by_cases e : f = ny S
    · subst e
      rw [syo_0, syo_1, syo_2, syo_3]
      exact ⟨hk, hm, hl, he⟩
    · have e3 : ∀ v, syo S v1 v2 v3 v4 4 f v = S 4 f v := fun v => syo_o (by omega) (by omega)
      simp only [e3]; exact w4 f (by omega)
  · rw [n3] at hf
    have e3 : ∀ v, syo S v1 v2 v3 v4 5 f v = S 5 f v := fun v => syo_o (by omega) (by omega)
    simp only [e3]; exact w5 f (by omega)
  · rw [syo_o (by omega) (by omega)]; exact w6
  · rw [syo_o (by omega) (by omega)]; exact w7
  · rw [syo_o (by omega) (by omega)]; exact w8
  · rw [syo_o (by omega) (by omega)]; exact w9
def sdo (S : SS) (v1 v2 : Int32) : SS := su (su (su S 5 (nd S) 0 v1) 5 (nd S) 1 v2) 0 0 3 (nI (nd S + 1))
theorem sdo_o {S : SS} {v1 v2 : Int32} {x y v : Nat} (h : ¬ (x = 5 ∧ y = nd S)) (h2 : ¬ (x = 0 ∧ y = 0 ∧ v = 3)) : sdo S v1 v2 x y v = S x y v := by
  unfold sdo
  rw [su_o h2, su_o (by omega), su_o (by omega)]
theorem sdo_0 {S : SS} {v1 v2 : Int32} : sdo S v1 v2 5 (nd S) 0 = v1 := by
  unfold sdo
  rw [su_o (by omega), su_o (by omega), su_s]
theorem sdo_1 {S : SS} {v1 v2 : Int32} : sdo S v1 v2 5 (nd S) 1 = v2 := by
  unfold sdo
  rw [su_o (by omega), su_s]
theorem sdo_n {S : SS} {v1 v2 : Int32} (h : nd S < 6) : sdo S v1 v2 0 0 3 = nI (nd S + 1) ∧ nf (sdo S v1 v2) = nf S ∧ nb (sdo S v1 v2) = nb S ∧ ny (sdo S v1 v2) = ny S ∧ nd (sdo S v1 v2) = nd S + 1 ∧ nl (sdo S v1 v2) = nl S := by
  have e1 : sdo S v1 v2 0 0 3 = nI (nd S + 1) := by unfold sdo; rw [su_s]
  refine ⟨e1, ?_, ?_, ?_, ?_, ?_⟩
  · unfold nf; rw [sdo_o (by omega) (by omega)]
  · unfold nb; rw [sdo_o (by omega) (by omega)]
  · unfold ny; rw [sdo_o (by omega) (by omega)]
  · show (sdo S v1 v2 0 0 3).toNatClampNeg = _; rw [e1, nI_clamp (by omega)]
  · unfold nl; rw [sdo_o (by omega) (by omega)]
theorem CV_sdo {i i' : MI} {a : Nat} {S : SS} (h : CV i a S) (hmx : nd S < 6) {v1 v2 : Int32} (hi : ∀ b j, b ≠ a + 22 + nd S → ¬ (b = a ∧ j = 10) → i' b j = i b j) (hn : i' a 10 = nI (nd S + 1)) (r0 : i' (a + 22 + nd S) 0 = v1) (r1 : i' (a + 22 + nd S) 1 = v2) (hc : Cnt S) : CV i' a (sdo S v1 v2) := by
  obtain ⟨⟨a1, a2, a3, a4, a5, a6, a7, a8, a9⟩, h2, h3, h4, h5, h6, h7, x, hx, h8, h9⟩ := h
  have w0 := hc.f8; have w1 := hc.b3; have w2 := hc.y5; have w3 := hc.d6
  obtain ⟨e1, n0, n1, n2, n3, n4⟩ := sdo_n (S := S) (v1 := v1) (v2 := v2) hmx
  refine ⟨⟨?_, ?_, ?_, ?_, ?_, ?_, ?_, ?_, ?_⟩, fun c hc => ?_, fun g hg => ?_, fun b hb => ?_, fun y hy => ?_, fun d hd => ?_, ?_, x, hx, ?_, fun g hg k hk => ?_⟩
  · rw [hi _ _ (by omega) (by omega), sdo_o (by omega) (by omega)]; exact a1
  · rw [hi _ _ (by omega) (by omega), sdo_o (by omega) (by omega)]; exact a2
  · rw [hi _ _ (by omega) (by omega), sdo_o (by omega) (by omega)]; exact a3
  · rw [hn, e1]
  · rw [hi _ _ (by omega) (by omega), sdo_o (by omega) (by omega)]; exact a5
  · rw [hi _ _ (by omega) (by omega), sdo_o (by omega) (by omega)]; exact a6
  · rw [hi _ _ (by omega) (by omega), sdo_o (by omega) (by omega)]; exact a7
  · rw [hi _ _ (by omega) (by omega), sdo_o (by omega) (by omega)]; exact a8
  · rw [hi _ _ (by omega) (by omega), sdo_o (by omega) (by omega)]; exact a9
  · rw [hi _ _ (by omega) (by omega), sdo_o (by omega) (by omega)]; exact h2 c hc
  · rw [n0] at hg
    have e3 : ∀ v, sdo S v1 v2 2 g v = S 2 g v := fun v => sdo_o (by omega) (by omega)
    have e4 : ∀ j, i' (a + 3 + g) j = i (a + 3 + g) j := fun j => hi _ _ (by omega) (by omega)
    simp only [e3, e4]; exact h3 g (by omega)
  · rw [n1] at hb
    have e3 : ∀ v, sdo S v1 v2 3 b v = S 3 b v := fun v => sdo_o (by omega) (by omega)
    have e4 : ∀ j, i' (a + 12 + b) j = i (a + 12 + b) j := fun j => hi _ _ (by omega) (by omega)
    simp only [e3, e4]; exact h4 b (by omega)
  · rw [n2] at hy
    have e3 : ∀ v, sdo S v1 v2 4 y v = S 4 y v := fun v => sdo_o (by omega) (by omega)
    have e4 : ∀ j, i' (a + 16 + y) j = i (a + 16 + y) j := fun j => hi _ _ (by omega) (by omega)
    simp only [e3, e4]; exact h5 y (by omega)
  · rw [n3] at hd
    by_cases e : d = nd S
    · subst e
      rw [sdo_0, sdo_1]
      exact ⟨r0, r1⟩
    · have e3 : ∀ v, sdo S v1 v2 5 d v = S 5 d v := fun v => sdo_o (by omega) (by omega)
      have e4 : ∀ j, i' (a + 22 + d) j = i (a + 22 + d) j := fun j => hi _ _ (by omega) (by omega)
      simp only [e3, e4]; exact h6 d (by omega)
  · rw [hi _ _ (by omega) (by omega), sdo_o (by omega) (by omega)]; exact h7
  · rw [hi _ _ (by omega) (by omega)]; exact h8
  · rw [n4] at hg
    rw [hi _ _ (by omega) (by omega), sdo_o (by omega) (by omega)]; exact h9 g hg k hk
theorem Wf_sdo {S : SS} (hw : Wf S) (hmx : nd S < 6) {v1 v2 : Int32} (hm : ∃ m', m' < 16 ∧ v1 = nI m') (hb : ∃ z', z' ≤ 99 ∧ v2 = nI z') : Wf (sdo S v1 v2) := by
  obtain ⟨e1, n0, n1, n2, n3, n4⟩ := sdo_n (S := S) (v1 := v1) (v2 := v2) hmx
  obtain ⟨w0, w1, w2, w3, w4, w5, w6, w7, w8, w9⟩ := hw
  obtain ⟨c0, c1, c2, c3, c4⟩ := w0
  refine ⟨⟨?_, ?_, ?_, ?_, ?_⟩, fun j hj => ?_, fun f hf => ?_, fun f hf => ?_, fun f hf => ?_, fun f hf => ?_, ?_, ?_, ?_, ?_⟩
  · rw [n0, sdo_o (by omega) (by omega)]; exact c0
  · rw [n1, sdo_o (by omega) (by omega)]; exact c1
  · rw [n2, sdo_o (by omega) (by omega)]; exact c2
  · rw [n3, e1]; exact ⟨rfl, by omega⟩
  · rw [n4, sdo_o (by omega) (by omega)]; exact c4
  · rw [sdo_o (by omega) (by omega)]; exact w1 j hj
  · rw [n0] at hf
    rw [n1]
    have e3 : ∀ v, sdo S v1 v2 2 f v = S 2 f v := fun v => sdo_o (by omega) (by omega)
    simp only [e3]; exact w2 f (by omega)
  · rw [n1] at hf
    have e3 : ∀ v, sdo S v1 v2 3 f v = S 3 f v := fun v => sdo_o (by omega) (by omega)
    simp only [e3]; exact w3 f (by omega)
  · rw [n2] at hf
    have e3 : ∀ v, sdo S v1 v2 4 f v = S 4 f v := fun v => sdo_o (by omega) (by omega)
    simp only [e3]; exact w4 f (by omega)
  · rw [n3] at hf
    by_cases e : f = nd S
    · subst e
      rw [sdo_0, sdo_1]
      exact ⟨hm, hb⟩
    · have e3 : ∀ v, sdo S v1 v2 5 f v = S 5 f v := fun v => sdo_o (by omega) (by omega)
      simp only [e3]; exact w5 f (by omega)
  · rw [sdo_o (by omega) (by omega)]; exact w6
  · rw [sdo_o (by omega) (by omega)]; exact w7
  · rw [sdo_o (by omega) (by omega)]; exact w8
  · rw [sdo_o (by omega) (by omega)]; exact w9
theorem MV.dead {i : MI} {S : SS} (h : MV i S) {f k : Nat} (hf : f < 6) (hk : k < 2) (v : Int32) : MV (wr i 1639 (105 + 2 * f + k) v) (su S 5 f k v) := by
  obtain ⟨h1, h2, h3, h4, h5, h6, h7⟩ := h
  refine ⟨fun q a b => ?_, fun c hc => ?_, fun g hg q hq => ?_, fun g hg q hq => ?_, fun g hg q hq => ?_, fun g hg q hq => ?_, fun g hg q hq => ?_⟩
  · rw [wr_k (by omega), su_o (by omega)]; exact h1 q a b
  · rw [wr_k (by omega), su_o (by omega)]; exact h2 c hc
  · rw [wr_k (by omega), su_o (by omega)]; exact h3 g hg q hq
  · rw [wr_k (by omega), su_o (by omega)]; exact h4 g hg q hq
  · rw [wr_k (by omega), su_o (by omega)]; exact h5 g hg q hq
  · by_cases e : g = f ∧ q = k
    · obtain ⟨rfl, rfl⟩ := e
      rw [wr_s, su_s]
    · rw [wr_k (by omega), su_o (by omega)]; exact h6 g hg q hq
  · rw [wr_k (by omega), su_o (by omega)]; exact h7 g hg q hq
/-- one more fish, as fresh as told -/
def sfi (S : SS) (k z c f : Int32) : SS := su (sad S k z c) 2 (nf S) 2 f
theorem sfi_wf {S : SS} (hw : Wf S) (h8 : nf S < 8) {k z c f : Nat} (hk : k < 4) (hz1 : 1 ≤ z) (hz : z ≤ 9) (hc : c < 25) (hf : f ≤ 99) : Wf (sfi S (nI k) (nI z) (nI c) (nI f)) := by
  have h1 := sad_wf hw h8 hk hz1 hz hc
  refine h1.fish (nf S) (fun x y z hn => su_o (by omega)) (fun hlt => ?_)
  obtain ⟨g1, g2, g3, g4⟩ := h1.2.2.1 (nf S) hlt
  unfold sfi fOK
  rw [su_o (by omega), su_o (by omega), su_s, su_o (by omega), su_o (by omega)]
  exact ⟨g1, g2, ⟨f, hf, rfl⟩, g4⟩
