/-! ===== small changes of the state, on both sides ===== -/
theorem rm_nI {a b : Nat} (ha : a < 2 ^ 31) (h0 : 0 < b) (hb : b < 2 ^ 31) : rm (nI a) (nI b) = nI (a % b) := pk_rem ha h0 hb
def sfp (S : SS) (f : Nat) (st pl : Int32) : SS := su (su S 2 f 3 st) 2 f 4 pl
def tld (S : SS) (fi what who fresh : Int32) : SS := fun x y z => if x = 6 then (if y = 0 then (if z = 0 then S 0 0 8 else if z = 1 then fi else if z = 2 then what else if z = 3 then who else fresh) else S 6 (y - 1) z) else if x = 0 ∧ y = 0 ∧ z = 9 then jmin 60 (S 0 0 9 + 1) else S x y z
section UPD
variable {i : MI} {a : Nat} {S : SS}
theorem su_o {x y z x' y' z' : Nat} {v : Int32} (h : ¬ (x' = x ∧ y' = y ∧ z' = z)) : su S x y z v x' y' z' = S x' y' z' := if_neg h
theorem su_s {x y z : Nat} {v : Int32} : su S x y z v x y z = v := if_pos ⟨rfl, rfl, rfl⟩
/-- a change that leaves counts alone keeps them -/
theorem Cnt.keep {S' : SS} (hc : Cnt S) (h0 : S' 0 0 0 = S 0 0 0) (h1 : S' 0 0 1 = S 0 0 1) (h2 : S' 0 0 2 = S 0 0 2) (h3 : S' 0 0 3 = S 0 0 3) (h9 : S' 0 0 9 = S 0 0 9) : Cnt S' := by
  unfold Cnt nf nb ny nd nl at *
  rw [h0, h1, h2, h3, h9]
  exact hc
theorem cnt_su {x y z : Nat} {v : Int32} (hc : Cnt S) (h : x ≠ 0 ∨ (z ≠ 0 ∧ z ≠ 1 ∧ z ≠ 2 ∧ z ≠ 3 ∧ z ≠ 9)) : Cnt (su S x y z v) :=
  hc.keep (su_o (by omega)) (su_o (by omega)) (su_o (by omega)) (su_o (by omega)) (su_o (by omega))
theorem nf_su {x y z : Nat} {v : Int32} (h : x ≠ 0 ∨ z ≠ 0) : nf (su S x y z v) = nf S := by unfold nf; rw [su_o (by omega)]
theorem nb_su {x y z : Nat} {v : Int32} (h : x ≠ 0 ∨ z ≠ 1) : nb (su S x y z v) = nb S := by unfold nb; rw [su_o (by omega)]
theorem ny_su {x y z : Nat} {v : Int32} (h : x ≠ 0 ∨ z ≠ 2) : ny (su S x y z v) = ny S := by unfold ny; rw [su_o (by omega)]
theorem nd_su {x y z : Nat} {v : Int32} (h : x ≠ 0 ∨ z ≠ 3) : nd (su S x y z v) = nd S := by unfold nd; rw [su_o (by omega)]
theorem nl_su {x y z : Nat} {v : Int32} (h : x ≠ 0 ∨ z ≠ 9) : nl (su S x y z v) = nl S := by unfold nl; rw [su_o (by omega)]
/-- one entry of a scalar that isn't a count: ice, till, day, seed -/
theorem CV.scal (hc : Cnt S) (h : CV i a S) {k z : Nat} (hk : (k = 12 ∧ z = 6) ∨ (k = 13 ∧ z = 7) ∨ (k = 14 ∧ z = 8) ∨ (k = 15 ∧ z = 10)) (v : Int32) : CV (wr i a k v) a (su S 0 0 z v) := by
  obtain ⟨⟨a1, a2, a3, a4, a5, a6, a7, a8, a9⟩, h2, h3, h4, h5, h6, h7, x, hx, h8, h9⟩ := h
  have q0 : nf (su S 0 0 z v) = nf S := nf_su (by omega)
  have q1 : nb (su S 0 0 z v) = nb S := nb_su (by omega)
  have q2 : ny (su S 0 0 z v) = ny S := ny_su (by omega)
  have q3 : nd (su S 0 0 z v) = nd S := nd_su (by omega)
  have q4 : nl (su S 0 0 z v) = nl S := nl_su (by omega)
  refine ⟨⟨?_, ?_, ?_, ?_, ?_, ?_, ?_, ?_, ?_⟩, fun c hc => ?_, fun f hf => ?_, fun b hb => ?_, fun y hy => ?_, fun d hd => ?_, ?_, x, hx, ?_, fun g hg k hk => ?_⟩
  · rw [wr_k (by omega), su_o (by omega)]; exact a1
  · rw [wr_k (by omega), su_o (by omega)]; exact a2
  · rw [wr_k (by omega), su_o (by omega)]; exact a3
  · rw [wr_k (by omega), su_o (by omega)]; exact a4
  · rw [wr_k (by omega), su_o (by omega)]; exact a5
  · by_cases e : k = 12
    · obtain rfl : z = 6 := by omega
      subst e; rw [wr_s, su_s]
    · rw [wr_k (by omega), su_o (by omega)]; exact a6
  · by_cases e : k = 13
    · obtain rfl : z = 7 := by omega
      subst e; rw [wr_s, su_s]
    · rw [wr_k (by omega), su_o (by omega)]; exact a7
  · by_cases e : k = 14
    · obtain rfl : z = 8 := by omega
      subst e; rw [wr_s, su_s]
    · rw [wr_k (by omega), su_o (by omega)]; exact a8
  · by_cases e : k = 15
    · obtain rfl : z = 10 := by omega
      subst e; rw [wr_s, su_s]
    · rw [wr_k (by omega), su_o (by omega)]; exact a9
  · rw [wr_a (by omega), su_o (by omega)]; exact h2 c hc
  · rw [q0] at hf
    simp only [wr_a (show a + 3 + f ≠ a by omega)]
    simpa [su] using h3 f hf
  · rw [q1] at hb
    simp only [wr_a (show a + 12 + b ≠ a by omega)]
    simpa [su] using h4 b hb
  · rw [q2] at hy
    simp only [wr_a (show a + 16 + y ≠ a by omega)]
    simpa [su] using h5 y hy
  · rw [q3] at hd
    simp only [wr_a (show a + 22 + d ≠ a by omega)]
    simpa [su] using h6 d hd
  · rw [wr_a (by omega), su_o (by omega)]; exact h7
  · rw [wr_a (by omega)]; exact h8
  · rw [q4] at hg
    rw [wr_a (by omega), su_o (by omega)]; exact h9 g hg k hk
/-- one entry of a table: boats (12, 3), buyers (16, 4) -/
theorem CV.boat (hc : Cnt S) (h : CV i a S) {b k : Nat} (hb : b < 3) (hk : k < 3) (v : Int32) : CV (wr i (a + 12 + b) k v) a (su S 3 b k v) := by
  obtain ⟨⟨a1, a2, a3, a4, a5, a6, a7, a8, a9⟩, h2, h3, h4, h5, h6, h7, x, hx, h8, h9⟩ := h
  have w0 := hc.f8; have w1 := hc.b3
  have q0 : nf (su S 3 b k v) = nf S := nf_su (by omega)
  have q1 : nb (su S 3 b k v) = nb S := nb_su (by omega)
  have q2 : ny (su S 3 b k v) = ny S := ny_su (by omega)
  have q3 : nd (su S 3 b k v) = nd S := nd_su (by omega)
  have q4 : nl (su S 3 b k v) = nl S := nl_su (by omega)
  refine ⟨⟨?_, ?_, ?_, ?_, ?_, ?_, ?_, ?_, ?_⟩, fun c hc => ?_, fun f hf => ?_, fun b' hb' => ?_, fun y hy => ?_, fun d hd => ?_, ?_, x, hx, ?_, fun g hg k hk => ?_⟩
  · rw [wr_a (by omega), su_o (by omega)]; exact a1
  · rw [wr_a (by omega), su_o (by omega)]; exact a2
  · rw [wr_a (by omega), su_o (by omega)]; exact a3
  · rw [wr_a (by omega), su_o (by omega)]; exact a4
  · rw [wr_a (by omega), su_o (by omega)]; exact a5
  · rw [wr_a (by omega), su_o (by omega)]; exact a6
  · rw [wr_a (by omega), su_o (by omega)]; exact a7
  · rw [wr_a (by omega), su_o (by omega)]; exact a8
  · rw [wr_a (by omega), su_o (by omega)]; exact a9
  · rw [wr_a (by omega), su_o (by omega)]; exact h2 c hc
  · rw [q0] at hf
    simp only [wr_a (show a + 3 + f ≠ a + 12 + b by omega)]
    simpa [su] using h3 f hf
  · rw [q1] at hb'
    obtain ⟨p0, p1, p2⟩ := h4 b' hb'
    have key : ∀ k', k' < 3 → i (a + 12 + b') k' = S 3 b' k' → wr i (a + 12 + b) k v (a + 12 + b') k' = su S 3 b k v 3 b' k' := by
      intro k' hk' hp
      by_cases e : b' = b ∧ k' = k
      · obtain ⟨rfl, rfl⟩ := e; rw [wr_s, su_s]
      · rw [su_o (by omega)]
        by_cases e2 : b' = b
        · rw [e2, wr_k (by omega), ← e2]; exact hp
        · rw [wr_a (by omega)]; exact hp
    exact ⟨key 0 (by decide) p0, key 1 (by decide) p1, key 2 (by decide) p2⟩
  · rw [q2] at hy
    simp only [wr_a (show a + 16 + y ≠ a + 12 + b by omega)]
    simpa [su] using h5 y hy
  · rw [q3] at hd
    simp only [wr_a (show a + 22 + d ≠ a + 12 + b by omega)]
    simpa [su] using h6 d hd
  · rw [wr_a (by omega), su_o (by omega)]; exact h7
  · rw [wr_a (by omega)]; exact h8
  · rw [q4] at hg
    rw [wr_a (by omega), su_o (by omega)]; exact h9 g hg k hk
theorem CV.buyer (hc : Cnt S) (h : CV i a S) {b k : Nat} (hb : b < 5) (hk : k < 4) (v : Int32) : CV (wr i (a + 16 + b) k v) a (su S 4 b k v) := by
  obtain ⟨⟨a1, a2, a3, a4, a5, a6, a7, a8, a9⟩, h2, h3, h4, h5, h6, h7, x, hx, h8, h9⟩ := h
  have w0 := hc.f8; have w1 := hc.b3; have w2 := hc.y5
  have q0 : nf (su S 4 b k v) = nf S := nf_su (by omega)
  have q1 : nb (su S 4 b k v) = nb S := nb_su (by omega)
  have q2 : ny (su S 4 b k v) = ny S := ny_su (by omega)
  have q3 : nd (su S 4 b k v) = nd S := nd_su (by omega)
  have q4 : nl (su S 4 b k v) = nl S := nl_su (by omega)
  refine ⟨⟨?_, ?_, ?_, ?_, ?_, ?_, ?_, ?_, ?_⟩, fun c hc => ?_, fun f hf => ?_, fun b' hb' => ?_, fun y hy => ?_, fun d hd => ?_, ?_, x, hx, ?_, fun g hg k hk => ?_⟩
  · rw [wr_a (by omega), su_o (by omega)]; exact a1
  · rw [wr_a (by omega), su_o (by omega)]; exact a2
  · rw [wr_a (by omega), su_o (by omega)]; exact a3
  · rw [wr_a (by omega), su_o (by omega)]; exact a4
  · rw [wr_a (by omega), su_o (by omega)]; exact a5
  · rw [wr_a (by omega), su_o (by omega)]; exact a6
  · rw [wr_a (by omega), su_o (by omega)]; exact a7
  · rw [wr_a (by omega), su_o (by omega)]; exact a8
  · rw [wr_a (by omega), su_o (by omega)]; exact a9
  · rw [wr_a (by omega), su_o (by omega)]; exact h2 c hc
  · rw [q0] at hf
    simp only [wr_a (show a + 3 + f ≠ a + 16 + b by omega)]
    simpa [su] using h3 f hf
  · rw [q1] at hb'
    simp only [wr_a (show a + 12 + b' ≠ a + 16 + b by omega)]
    simpa [su] using h4 b' hb'
  · rw [q2] at hy
    obtain ⟨p0, p1, p2, p3⟩ := h5 y hy
    have key : ∀ k', k' < 4 → i (a + 16 + y) k' = S 4 y k' → wr i (a + 16 + b) k v (a + 16 + y) k' = su S 4 b k v 4 y k' := by
      intro k' hk' hp
      by_cases e : y = b ∧ k' = k
      · obtain ⟨rfl, rfl⟩ := e; rw [wr_s, su_s]
      · rw [su_o (by omega)]
        by_cases e2 : y = b
        · rw [e2, wr_k (by omega), ← e2]; exact hp
        · rw [wr_a (by omega)]; exact hp
    exact ⟨key 0 (by decide) p0, key 1 (by decide) p1, key 2 (by decide) p2, key 3 (by decide) p3⟩
  · rw [q3] at hd
    simp only [wr_a (show a + 22 + d ≠ a + 16 + b by omega)]
    simpa [su] using h6 d hd
  · rw [wr_a (by omega), su_o (by omega)]; exact h7
  · rw [wr_a (by omega)]; exact h8
  · rw [q4] at hg
    rw [wr_a (by omega), su_o (by omega)]; exact h9 g hg k hk
theorem CV.cur (hc : Cnt S) (h : CV i a S) {c : Nat} (hc25 : c < 25) (v : Int32) : CV (wr i (a + 1) c v) a (su S 1 0 c v) := by
  obtain ⟨⟨a1, a2, a3, a4, a5, a6, a7, a8, a9⟩, h2, h3, h4, h5, h6, h7, x, hx, h8, h9⟩ := h
  have w0 := hc.f8; have w1 := hc.b3; have w2 := hc.y5
  have q0 : nf (su S 1 0 c v) = nf S := nf_su (by omega)
  have q1 : nb (su S 1 0 c v) = nb S := nb_su (by omega)
  have q2 : ny (su S 1 0 c v) = ny S := ny_su (by omega)
  have q3 : nd (su S 1 0 c v) = nd S := nd_su (by omega)
  have q4 : nl (su S 1 0 c v) = nl S := nl_su (by omega)
  refine ⟨⟨?_, ?_, ?_, ?_, ?_, ?_, ?_, ?_, ?_⟩, fun c' hc' => ?_, fun f hf => ?_, fun b' hb' => ?_, fun y hy => ?_, fun d hd => ?_, ?_, x, hx, ?_, fun g hg k hk => ?_⟩
  · rw [wr_a (by omega), su_o (by omega)]; exact a1
  · rw [wr_a (by omega), su_o (by omega)]; exact a2
  · rw [wr_a (by omega), su_o (by omega)]; exact a3
  · rw [wr_a (by omega), su_o (by omega)]; exact a4
  · rw [wr_a (by omega), su_o (by omega)]; exact a5
  · rw [wr_a (by omega), su_o (by omega)]; exact a6
  · rw [wr_a (by omega), su_o (by omega)]; exact a7
  · rw [wr_a (by omega), su_o (by omega)]; exact a8
  · rw [wr_a (by omega), su_o (by omega)]; exact a9
  · by_cases e : c' = c
    · subst e; rw [wr_s, su_s]
    · rw [wr_k e, su_o (by omega)]; exact h2 c' hc'
  · rw [q0] at hf
    simp only [wr_a (show a + 3 + f ≠ a + 1 by omega)]
    simpa [su] using h3 f hf
  · rw [q1] at hb'
    simp only [wr_a (show a + 12 + b' ≠ a + 1 by omega)]
    simpa [su] using h4 b' hb'
  · rw [q2] at hy
    simp only [wr_a (show a + 16 + y ≠ a + 1 by omega)]
    simpa [su] using h5 y hy
  · rw [q3] at hd
    simp only [wr_a (show a + 22 + d ≠ a + 1 by omega)]
    simpa [su] using h6 d hd
  · rw [wr_a (by omega), su_o (by omega)]; exact h7
  · rw [wr_a (by omega)]; exact h8
  · rw [q4] at hg
    rw [wr_a (by omega), su_o (by omega)]; exact h9 g hg k hk
/-- a fish's row is changed: told by its new entries -/
theorem CV.fish {i' : MI} {S' : SS} (hc : Cnt S) (h : CV i a S) {f : Nat} (hf8 : f < 8) (hi : ∀ b j, b ≠ a + 3 + f → i' b j = i b j) (hS : ∀ x y z, ¬ (x = 2 ∧ y = f) → S' x y z = S x y z)
    (hn : f < nf S → i' (a + 3 + f) 0 = S' 2 f 0 ∧ i' (a + 3 + f) 1 = S' 2 f 1 ∧ i' (a + 3 + f) 2 = S' 2 f 2 ∧ i' (a + 3 + f) 3 = S' 2 f 3 ∧ i' (a + 3 + f) 4 = spo (S' 2 f 3) (S' 2 f 4) ∧ i' (a + 3 + f) 5 = abo (S' 2 f 3) (S' 2 f 4)) : CV i' a S' ∧ Cnt S' := by
  obtain ⟨⟨a1, a2, a3, a4, a5, a6, a7, a8, a9⟩, h2, h3, h4, h5, h6, h7, x, hx, h8, h9⟩ := h
  have w0 := hc.f8; have w1 := hc.b3; have w2 := hc.y5; have w3 := hc.d6
  have e0 : ∀ z, S' 0 0 z = S 0 0 z := fun z => hS 0 0 z (by omega)
  have q0 : nf S' = nf S := by unfold nf; rw [e0]
  have q1 : nb S' = nb S := by unfold nb; rw [e0]
  have q2 : ny S' = ny S := by unfold ny; rw [e0]
  have q3 : nd S' = nd S := by unfold nd; rw [e0]
  have q4 : nl S' = nl S := by unfold nl; rw [e0]
  refine ⟨⟨⟨?_, ?_, ?_, ?_, ?_, ?_, ?_, ?_, ?_⟩, fun c hc => ?_, fun g hg => ?_, fun b hb => ?_, fun y hy => ?_, fun d hd => ?_, ?_, x, hx, ?_, fun g hg k hk => ?_⟩, hc.keep (e0 0) (e0 1) (e0 2) (e0 3) (e0 9)⟩
  · rw [hi _ _ (by omega), e0]; exact a1
  · rw [hi _ _ (by omega), e0]; exact a2
  · rw [hi _ _ (by omega), e0]; exact a3
  · rw [hi _ _ (by omega), e0]; exact a4
  · rw [hi _ _ (by omega), e0]; exact a5
  · rw [hi _ _ (by omega), e0]; exact a6
  · rw [hi _ _ (by omega), e0]; exact a7
  · rw [hi _ _ (by omega), e0]; exact a8
  · rw [hi _ _ (by omega), e0]; exact a9
  · rw [hi _ _ (by omega), hS _ _ _ (by omega)]; exact h2 c hc
  · rw [q0] at hg
    by_cases e : g = f
    · subst e; exact hn hg
    · simp only [hi (a + 3 + g) _ (by omega), hS 2 g _ (by omega)]; exact h3 g hg
  · rw [q1] at hb
    simp only [hi (a + 12 + b) _ (by omega), hS 3 b _ (by omega)]; exact h4 b hb
  · rw [q2] at hy
    simp only [hi (a + 16 + y) _ (by omega), hS 4 y _ (by omega)]; exact h5 y hy
  · rw [q3] at hd
    simp only [hi (a + 22 + d) _ (by omega), hS 5 d _ (by omega)]; exact h6 d hd
  · rw [hi _ _ (by omega), e0]; exact h7
  · rw [hi _ _ (by omega)]; exact h8
  · rw [q4] at hg
    rw [hi _ _ (by omega), hS _ _ _ (by omega)]; exact h9 g hg k hk
/-! the reference's row -/
theorem MV.fish (h : MV i S) {f k : Nat} (hf : f < 8) (hk : k < 5) (v : Int32) : MV (wr i 1639 (36 + 5 * f + k) v) (su S 2 f k v) := by
  obtain ⟨h1, h2, h3, h4, h5, h6, h7⟩ := h
  refine ⟨fun q a b => ?_, fun c hc => ?_, fun f' hf' k' hk' => ?_, fun b hb q hq => ?_, fun b hb q hq => ?_, fun b hb q hq => ?_, fun b hb q hq => ?_⟩
  · rw [wr_k (by omega), su_o (by omega)]; exact h1 q a b
  · rw [wr_k (by omega), su_o (by omega)]; exact h2 c hc
  · by_cases e : f' = f ∧ k' = k
    · obtain ⟨rfl, rfl⟩ := e; rw [wr_s, su_s]
    · rw [wr_k (by omega), su_o (by omega)]; exact h3 f' hf' k' hk'
  · rw [wr_k (by omega), su_o (by omega)]; exact h4 b hb q hq
  · rw [wr_k (by omega), su_o (by omega)]; exact h5 b hb q hq
  · rw [wr_k (by omega), su_o (by omega)]; exact h6 b hb q hq
  · rw [wr_k (by omega), su_o (by omega)]; exact h7 b hb q hq
theorem MV.boat (h : MV i S) {f k : Nat} (hf : f < 3) (hk : k < 3) (v : Int32) : MV (wr i 1639 (76 + 3 * f + k) v) (su S 3 f k v) := by
  obtain ⟨h1, h2, h3, h4, h5, h6, h7⟩ := h
  refine ⟨fun q a b => ?_, fun c hc => ?_, fun b hb q hq => ?_, fun f' hf' k' hk' => ?_, fun b hb q hq => ?_, fun b hb q hq => ?_, fun b hb q hq => ?_⟩
  · rw [wr_k (by omega), su_o (by omega)]; exact h1 q a b
  · rw [wr_k (by omega), su_o (by omega)]; exact h2 c hc
  · rw [wr_k (by omega), su_o (by omega)]; exact h3 b hb q hq
  · by_cases e : f' = f ∧ k' = k
    · obtain ⟨rfl, rfl⟩ := e; rw [wr_s, su_s]
    · rw [wr_k (by omega), su_o (by omega)]; exact h4 f' hf' k' hk'
  · rw [wr_k (by omega), su_o (by omega)]; exact h5 b hb q hq
  · rw [wr_k (by omega), su_o (by omega)]; exact h6 b hb q hq
  · rw [wr_k (by omega), su_o (by omega)]; exact h7 b hb q hq
theorem MV.buyer (h : MV i S) {f k : Nat} (hf : f < 5) (hk : k < 4) (v : Int32) : MV (wr i 1639 (85 + 4 * f + k) v) (su S 4 f k v) := by
  obtain ⟨h1, h2, h3, h4, h5, h6, h7⟩ := h
  refine ⟨fun q a b => ?_, fun c hc => ?_, fun b hb q hq => ?_, fun b hb q hq => ?_, fun f' hf' k' hk' => ?_, fun b hb q hq => ?_, fun b hb q hq => ?_⟩
  · rw [wr_k (by omega), su_o (by omega)]; exact h1 q a b
  · rw [wr_k (by omega), su_o (by omega)]; exact h2 c hc
  · rw [wr_k (by omega), su_o (by omega)]; exact h3 b hb q hq
  · rw [wr_k (by omega), su_o (by omega)]; exact h4 b hb q hq
  · by_cases e : f' = f ∧ k' = k
    · obtain ⟨rfl, rfl⟩ := e; rw [wr_s, su_s]
    · rw [wr_k (by omega), su_o (by omega)]; exact h5 f' hf' k' hk'
  · rw [wr_k (by omega), su_o (by omega)]; exact h6 b hb q hq
  · rw [wr_k (by omega), su_o (by omega)]; exact h7 b hb q hq
theorem MV.scal (h : MV i S) {z : Nat} (hz : z < 11) (h5 : z ≠ 5) (v : Int32) : MV (wr i 1639 z v) (su S 0 0 z v) := by
  obtain ⟨h1, h2, h3, h4, h5, h6, h7⟩ := h
  refine ⟨fun q a b => ?_, fun c hc => ?_, fun b hb q hq => ?_, fun b hb q hq => ?_, fun b hb q hq => ?_, fun b hb q hq => ?_, fun b hb q hq => ?_⟩
  · by_cases e : q = z
    · subst e; rw [wr_s, su_s]
    · rw [wr_k (by omega), su_o (by omega)]; exact h1 q a b
  · rw [wr_k (by omega), su_o (by omega)]; exact h2 c hc
  · rw [wr_k (by omega), su_o (by omega)]; exact h3 b hb q hq
  · rw [wr_k (by omega), su_o (by omega)]; exact h4 b hb q hq
  · rw [wr_k (by omega), su_o (by omega)]; exact h5 b hb q hq
  · rw [wr_k (by omega), su_o (by omega)]; exact h6 b hb q hq
  · rw [wr_k (by omega), su_o (by omega)]; exact h7 b hb q hq
theorem MV.cur (h : MV i S) {c : Nat} (hc : c < 25) (v : Int32) : MV (wr i 1639 (11 + c) v) (su S 1 0 c v) := by
  obtain ⟨h1, h2, h3, h4, h5, h6, h7⟩ := h
  refine ⟨fun q a b => ?_, fun c' hc' => ?_, fun b hb q hq => ?_, fun b hb q hq => ?_, fun b hb q hq => ?_, fun b hb q hq => ?_, fun b hb q hq => ?_⟩
  · rw [wr_k (by omega), su_o (by omega)]; exact h1 q a b
  · by_cases e : c' = c
    · subst e; rw [wr_s, su_s]
    · rw [wr_k (by omega), su_o (by omega)]; exact h2 c' hc'
  · rw [wr_k (by omega), su_o (by omega)]; exact h3 b hb q hq
  · rw [wr_k (by omega), su_o (by omega)]; exact h4 b hb q hq
  · rw [wr_k (by omega), su_o (by omega)]; exact h5 b hb q hq
  · rw [wr_k (by omega), su_o (by omega)]; exact h6 b hb q hq
  · rw [wr_k (by omega), su_o (by omega)]; exact h7 b hb q hq
end UPD
