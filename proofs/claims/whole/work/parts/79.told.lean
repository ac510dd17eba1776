/-! ===== the log, and where a fish is, on both sides ===== -/
section TOLD
variable {i : MI} {a : Nat} {S : SS}
theorem tld_o {fi what who fresh : Int32} {x y z : Nat} (h6 : x ≠ 6) (h9 : ¬ (x = 0 ∧ y = 0 ∧ z = 9)) : tld S fi what who fresh x y z = S x y z := by
  unfold tld
  rw [if_neg h6, if_neg h9]
theorem tld_9 {fi what who fresh : Int32} : tld S fi what who fresh 0 0 9 = jmin 60 (S 0 0 9 + 1) := rfl
theorem tld_6 {fi what who fresh : Int32} {g k : Nat} (hg : 1 ≤ g) : tld S fi what who fresh 6 g k = S 6 (g - 1) k := by
  unfold tld
  rw [if_pos rfl, if_neg (by omega)]
theorem tld_nl (hc : Cnt S) {fi what who fresh : Int32} : tld S fi what who fresh 0 0 9 = nI (min 60 (nl S + 1)) ∧ nl (tld S fi what who fresh) = min 60 (nl S + 1) := by
  have h := hc.l60
  have e : tld S fi what who fresh 0 0 9 = nI (min 60 (nl S + 1)) := by
    rw [tld_9, hc.l, nI_1, lit_nI 60, jmin_nI (by omega) (by omega)]
  refine ⟨e, ?_⟩
  have : (tld S fi what who fresh 0 0 9).toNatClampNeg = min 60 (nl S + 1) := by rw [e, nI_clamp (by omega)]
  exact this
theorem tld_cnt (hc : Cnt S) {fi what who fresh : Int32} : Cnt (tld S fi what who fresh) := by
  obtain ⟨e1, e2⟩ := tld_nl hc (fi := fi) (what := what) (who := who) (fresh := fresh)
  have h := hc.l60
  refine ⟨?_, ?_, ?_, ?_, ?_⟩
  · unfold nf; rw [tld_o (by decide) (by decide)]; exact hc.1
  · unfold nb; rw [tld_o (by decide) (by decide)]; exact hc.2.1
  · unfold ny; rw [tld_o (by decide) (by decide)]; exact hc.2.2.1
  · unfold nd; rw [tld_o (by decide) (by decide)]; exact hc.2.2.2.1
  · rw [e2]; exact ⟨e1, by omega⟩
/-- the class's row is laid -/
theorem v_add (hc : Cnt S) (h : CV i a S) (fi what who fresh : Int32) : Tt (f_Lo_add i a (S 0 0 8) fi what who fresh) (fun i' => CV i' a (tld S fi what who fresh) ∧ ∀ b j, b ≠ a + 28 → b ≠ a + 29 → i' b j = i b j) := by
  obtain ⟨⟨a1, a2, a3, a4, a5, a6, a7, a8, a9⟩, h2, h3, h4, h5, h6, h7, x, hx, h8, h9⟩ := h
  have hl := hc.l60
  have w0 := hc.f8; have w1 := hc.b3; have w2 := hc.y5; have w3 := hc.d6
  have ex : i (a + 28) 2 * (5 : Int32) = nI (x * 5) := by rw [h8, lit_nI 5, mul_nI]
  have ee : ∀ k : Nat, nI (x * 5) + nI k = nI (x * 5 + k) := fun k => nI_add _ _
  unfold f_Lo_add
  simp only [ex]
  rw [if_neg (nI_pos (by omega)), if_neg (by rw [lit_nI 5, ee]; exact nI_nlt (by omega) (by omega))]
  simp only [lit_nI 1, lit_nI 2, lit_nI 3, lit_nI 4, ee]
  rw [grd_nI (show x * 5 < 300 by omega) (by decide), ix_nI (by omega)]
  refine tt_bnd ?_
  rw [grd_nI (show x * 5 + 1 < 300 by omega) (by decide), ix_nI (by omega)]
  refine tt_bnd ?_
  rw [grd_nI (show x * 5 + 2 < 300 by omega) (by decide), ix_nI (by omega)]
  refine tt_bnd ?_
  rw [grd_nI (show x * 5 + 3 < 300 by omega) (by decide), ix_nI (by omega)]
  refine tt_bnd ?_
  rw [grd_nI (show x * 5 + 4 < 300 by omega) (by decide), ix_nI (by omega)]
  refine tt_bnd ?_
  refine tt_bnd ?_
  rw [j_min, Option.bind_some]
  refine tt_bnd (tt_some ?_)
  obtain ⟨e1, e2⟩ := tld_nl hc (fi := fi) (what := what) (who := who) (fresh := fresh)
  have hrow : ∀ k, k < 5 → ∀ p, (wr (wr (wr (wr (wr i (a + 29) (x * 5) (S 0 0 8)) (a + 29) (x * 5 + 1) fi) (a + 29) (x * 5 + 2) what) (a + 29) (x * 5 + 3) who) (a + 29) (x * 5 + 4) fresh) (a + 29) p = if p = x * 5 then S 0 0 8 else if p = x * 5 + 1 then fi else if p = x * 5 + 2 then what else if p = x * 5 + 3 then who else if p = x * 5 + 4 then fresh else i (a + 29) p := by
    intro k hk p
    by_cases q0 : p = x * 5
    · rw [if_pos q0, wr_k (by omega), wr_k (by omega), wr_k (by omega), wr_k (by omega), q0, wr_s]
    rw [if_neg q0]
    by_cases q1 : p = x * 5 + 1
    · rw [if_pos q1, wr_k (by omega), wr_k (by omega), wr_k (by omega), q1, wr_s]
    rw [if_neg q1]
    by_cases q2 : p = x * 5 + 2
    · rw [if_pos q2, wr_k (by omega), wr_k (by omega), q2, wr_s]
    rw [if_neg q2]
    by_cases q3 : p = x * 5 + 3
    · rw [if_pos q3, wr_k (by omega), q3, wr_s]
    rw [if_neg q3]
    by_cases q4 : p = x * 5 + 4
    · rw [if_pos q4, q4, wr_s]
    rw [if_neg q4, wr_k (by omega), wr_k (by omega), wr_k (by omega), wr_k (by omega), wr_k (by omega)]
  generalize hj : wr (wr (wr (wr (wr i (a + 29) (x * 5) (S 0 0 8)) (a + 29) (x * 5 + 1) fi) (a + 29) (x * 5 + 2) what) (a + 29) (x * 5 + 3) who) (a + 29) (x * 5 + 4) fresh = j at hrow ⊢
  have ho : ∀ b q, b ≠ a + 29 → j b q = i b q := fun b q hb => by rw [← hj, wr_a hb, wr_a hb, wr_a hb, wr_a hb, wr_a hb]
  have j1 : j (a + 28) 1 = nI (nl S) := by rw [ho _ _ (by omega), h7, hc.l]
  have j2 : j (a + 28) 2 = nI x := by rw [ho _ _ (by omega), h8]
  have k1 : wr j (a + 28) 2 (rm (j (a + 28) 2 + nI 1) 60) (a + 28) 1 = nI (nl S) := by rw [wr_k (by decide), j1]
  have k2 : rm (j (a + 28) 2 + nI 1) 60 = nI ((x + 1) % 60) := by rw [j2, nI_add, lit_nI 60, rm_nI (by omega) (by decide) (by decide)]
  rw [k1, k2, nI_add, lit_nI 60, jmin_nI (by omega) (by omega)]
  refine ⟨?_, fun b q hb1 hb2 => by rw [wr_a hb1, wr_a hb1, ho _ _ hb2]⟩
  have hoo : ∀ b q, b ≠ a + 28 → b ≠ a + 29 → wr (wr j (a + 28) 2 (nI ((x + 1) % 60))) (a + 28) 1 (nI (min 60 (nl S + 1))) b q = i b q := fun b q hb1 hb2 => by rw [wr_a hb1, wr_a hb1, ho _ _ hb2]
  have q0 : nf (tld S fi what who fresh) = nf S := by unfold nf; rw [tld_o (by decide) (by decide)]
  have q1 : nb (tld S fi what who fresh) = nb S := by unfold nb; rw [tld_o (by decide) (by decide)]
  have q2 : ny (tld S fi what who fresh) = ny S := by unfold ny; rw [tld_o (by decide) (by decide)]
  have q3 : nd (tld S fi what who fresh) = nd S := by unfold nd; rw [tld_o (by decide) (by decide)]
  refine ⟨⟨?_, ?_, ?_, ?_, ?_, ?_, ?_, ?_, ?_⟩, fun c hc => ?_, fun f hf => ?_, fun b hb => ?_, fun y hy => ?_, fun d hd => ?_, ?_, (x + 1) % 60, Nat.mod_lt _ (by decide), ?_, fun g hg k hk => ?_⟩
  · rw [hoo _ _ (by omega) (by omega), tld_o (by decide) (by decide)]; exact a1
  · rw [hoo _ _ (by omega) (by omega), tld_o (by decide) (by decide)]; exact a2
  · rw [hoo _ _ (by omega) (by omega), tld_o (by decide) (by decide)]; exact a3
  · rw [hoo _ _ (by omega) (by omega), tld_o (by decide) (by decide)]; exact a4
  · rw [hoo _ _ (by omega) (by omega), tld_o (by decide) (by decide)]; exact a5
  · rw [hoo _ _ (by omega) (by omega), tld_o (by decide) (by decide)]; exact a6
  · rw [hoo _ _ (by omega) (by omega), tld_o (by decide) (by decide)]; exact a7
  · rw [hoo _ _ (by omega) (by omega), tld_o (by decide) (by decide)]; exact a8
  · rw [hoo _ _ (by omega) (by omega), tld_o (by decide) (by decide)]; exact a9
  · rw [hoo _ _ (by omega) (by omega), tld_o (by decide) (by omega)]; exact h2 c hc
  · rw [q0] at hf
    simp only [hoo (a + 3 + f) _ (by omega) (by omega)]
    have t2 : ∀ z, tld S fi what who fresh 2 f z = S 2 f z := fun z => tld_o (by decide) (by omega)
    rw [t2, t2, t2, t2, t2]; exact h3 f hf
  · rw [q1] at hb
    simp only [hoo (a + 12 + b) _ (by omega) (by omega)]
    have t2 : ∀ z, tld S fi what who fresh 3 b z = S 3 b z := fun z => tld_o (by decide) (by omega)
    rw [t2, t2, t2]; exact h4 b hb
  · rw [q2] at hy
    simp only [hoo (a + 16 + y) _ (by omega) (by omega)]
    have t2 : ∀ z, tld S fi what who fresh 4 y z = S 4 y z := fun z => tld_o (by decide) (by omega)
    rw [t2, t2, t2, t2]; exact h5 y hy
  · rw [q3] at hd
    simp only [hoo (a + 22 + d) _ (by omega) (by omega)]
    have t2 : ∀ z, tld S fi what who fresh 5 d z = S 5 d z := fun z => tld_o (by decide) (by omega)
    rw [t2, t2]; exact h6 d hd
  · rw [wr_s, e1]
  · rw [wr_k (by decide), wr_s]
  · rw [e2] at hg
    rw [wr_a (by omega), wr_a (by omega), hrow k hk]
    by_cases g0 : g = 0
    · subst g0
      have em : ((x + 1) % 60 + 59 - 0) % 60 = x := by omega
      rw [em]
      unfold tld
      rw [if_pos rfl, if_pos rfl]
      rcases (show k = 0 ∨ k = 1 ∨ k = 2 ∨ k = 3 ∨ k = 4 by omega) with rfl | rfl | rfl | rfl | rfl
      · rw [if_pos (by omega), if_pos rfl]
      · rw [if_neg (by omega), if_pos (by omega), if_neg (by decide), if_pos rfl]
      · rw [if_neg (by omega), if_neg (by omega), if_pos (by omega), if_neg (by decide), if_neg (by decide), if_pos rfl]
      · rw [if_neg (by omega), if_neg (by omega), if_neg (by omega), if_pos (by omega), if_neg (by decide), if_neg (by decide), if_neg (by decide), if_pos rfl]
      · rw [if_neg (by omega), if_neg (by omega), if_neg (by omega), if_neg (by omega), if_pos (by omega), if_neg (by decide), if_neg (by decide), if_neg (by decide), if_neg (by decide)]
    · have em : ((x + 1) % 60 + 59 - g) % 60 = (x + 59 - (g - 1)) % 60 := by omega
      have en : (x + 59 - (g - 1)) % 60 ≠ x := by omega
      rw [em, tld_6 (by omega), ← h9 (g - 1) (by omega) k hk]
      rw [if_neg (by omega), if_neg (by omega), if_neg (by omega), if_neg (by omega), if_neg (by omega)]
set_option maxHeartbeats 1000000 in
theorem m_told (hc : Cnt S) (h : MV i S) {f : Nat} (hf : f < 8) (what who : Int32) : Tt (f_Mo_isTold i (nI f) what who) (fun i' => MV i' (tld S (nI f) what who (S 2 f 2)) ∧ (∀ b j, b ≠ 1639 → i' b j = i b j) ∧ ∀ j, 417 ≤ j ∨ j = 5 → i' 1639 j = i 1639 j) := by
  have hl := hc.l60
  unfold f_Mo_isTold
  refine tt_bind (P1 := fun i' => (∀ b j, b ≠ 1639 → i' b j = i b j) ∧ ∀ j, i' 1639 j = if 122 ≤ j ∧ j < 417 then i 1639 (j - 5) else i 1639 j)
    (tt_loop (fun q (s : Int32 × MI) => s.1 = nI (299 - q) ∧ (∀ b j, b ≠ 1639 → s.2 b j = i b j) ∧ ∀ j, s.2 1639 j = if 117 + 299 - q < j ∧ j < 417 then i 1639 (j - 5) else i 1639 j) 295 (by omega) ?_ ?_ ?_) ?_
  · rintro q hq ⟨x, i5⟩ ⟨e1, e2, e3⟩
    dsimp only at e1 e2 e3 ⊢
    subst e1
    have b1 : (117 : Int32) + nI (299 - q) = nI (117 + (299 - q)) := by rw [lit_nI 117, nI_add]
    have b2 : nI (117 + (299 - q)) - (5 : Int32) = nI (117 + (299 - q) - 5) := sub_nI (b := 5) (by omega)
    rw [b1, b2, lit_nI 5, if_neg (nI_nlt (by omega) (by omega)), grd_nI (by omega) (by omega), grd_nI (by omega) (by omega), ix_nI (by omega), ix_nI (by omega)]
    refine tt_bnd (tt_some ⟨?_, fun b j hb => by show wr _ _ _ _ b j = _; rw [wr_a hb, e2 b j hb], fun j => ?_⟩)
    · show nI (299 - q) + (-1 : Int32) = nI (299 - (q + 1))
      rw [addm1 (by omega)]
      congr 1
    · show wr _ _ _ _ 1639 j = _
      by_cases e : j = 117 + (299 - q)
      · subst e
        rw [wr_s, e3, if_neg (by omega), if_pos (by omega)]
      · rw [wr_k e, e3]
        by_cases hh : 117 + 299 - q < j ∧ j < 417
        · rw [if_pos hh, if_pos (by omega)]
        · rw [if_neg hh, if_neg (by omega)]
  · rintro ⟨x, i5⟩ ⟨e1, e2, e3⟩
    dsimp only at e1 e2 e3 ⊢
    subst e1
    rw [if_pos (by decide)]
    refine tt_some ⟨e2, fun j => ?_⟩
    rw [e3]
    by_cases hh : 122 ≤ j ∧ j < 417
    · rw [if_pos hh, if_pos (by omega)]
    · rw [if_neg hh, if_neg (by omega)]
  · refine ⟨rfl, fun b j _ => rfl, fun j => ?_⟩
    rw [if_neg (by omega)]
  · rintro i3 ⟨e2, e3⟩
    refine tt_bnd (tt_bnd (tt_bnd (tt_bnd ?_)))
    have e8 : i3 1639 8 = S 0 0 8 := by rw [e3, if_neg (by omega), h.1 8 (by decide) (by decide)]
    rw [e8]
    generalize hj : wr (wr (wr (wr i3 1639 117 (S 0 0 8)) 1639 118 (nI f)) 1639 119 what) 1639 120 who = j
    have ho : ∀ p, (p < 117 ∨ 121 ≤ p) → j 1639 p = i3 1639 p := fun p hp => by rw [← hj, wr_k (by omega), wr_k (by omega), wr_k (by omega), wr_k (by omega)]
    have hb : ∀ b p, b ≠ 1639 → j b p = i b p := fun b p hb => by rw [← hj, wr_a hb, wr_a hb, wr_a hb, wr_a hb, e2 b p hb]
    have hof : f_Mo_of j (nI f) 2 = some (S 2 f 2) := by
      unfold f_Mo_of f_Mo_fishAt
      have e : (36 : Int32) + (5 : Int32) * nI f + (2 : Int32) = nI (36 + 5 * f + 2) := by rw [lit_nI 36, lit_nI 5, lit_nI 2, mul_nI, nI_add, nI_add]
      simp only [Option.bind_some, e]
      rw [grd_nI (by omega) (by omega), ix_nI (by omega), ho _ (by omega), e3, if_neg (by omega), h.2.2.1 f hf 2 (by decide)]
    rw [hof, Option.bind_some]
    refine tt_bnd ?_
    rw [j_min, Option.bind_some, wr_k (by decide), ho 9 (by decide), e3 9, if_neg (by decide), h.1 9 (by decide) (by decide)]
    refine tt_bnd (tt_some ?_)
    have hx : ∀ p, wr (wr j 1639 121 (S 2 f 2)) 1639 9 (jmin 60 (S 0 0 9 + 1)) 1639 p = if p = 9 then jmin 60 (S 0 0 9 + 1) else if p = 117 then S 0 0 8 else if p = 118 then nI f else if p = 119 then what else if p = 120 then who else if p = 121 then S 2 f 2 else if 122 ≤ p ∧ p < 417 then i 1639 (p - 5) else i 1639 p := by
      intro p
      by_cases p9 : p = 9
      · rw [if_pos p9, p9, wr_s]
      rw [if_neg p9, wr_k p9]
      by_cases p121 : p = 121
      · subst p121; rw [wr_s]; rfl
      rw [wr_k p121]
      by_cases p117 : p = 117
      · rw [if_pos p117, p117, ← hj, wr_k (by decide), wr_k (by decide), wr_k (by decide), wr_s]
      rw [if_neg p117]
      by_cases p118 : p = 118
      · rw [if_pos p118, p118, ← hj, wr_k (by decide), wr_k (by decide), wr_s]
      rw [if_neg p118]
      by_cases p119 : p = 119
      · rw [if_pos p119, p119, ← hj, wr_k (by decide), wr_s]
      rw [if_neg p119]
      by_cases p120 : p = 120
      · rw [if_pos p120, p120, ← hj, wr_s]
      rw [if_neg p120, if_neg p121, ho p (by omega), e3]
    refine ⟨?_, fun b p hb9 => by rw [wr_a hb9, wr_a hb9, hb b p hb9], fun p hp => ?_⟩
    · obtain ⟨h1, h2, h3, h4, h5, h6, h7⟩ := h
      refine ⟨fun q a b => ?_, fun c hc => ?_, fun f hf k hk => ?_, fun b hb q hq => ?_, fun b hb q hq => ?_, fun b hb q hq => ?_, fun g hg k hk => ?_⟩
      · rw [hx]
        by_cases q9 : q = 9
        · subst q9; rfl
        · rw [if_neg q9, if_neg (by omega), if_neg (by omega), if_neg (by omega), if_neg (by omega), if_neg (by omega), if_neg (by omega), tld_o (by decide) (by omega)]; exact h1 q a b
      · rw [hx, if_neg (by omega), if_neg (by omega), if_neg (by omega), if_neg (by omega), if_neg (by omega), if_neg (by omega), if_neg (by omega), tld_o (by decide) (by omega)]; exact h2 c hc
      · rw [hx, if_neg (by omega), if_neg (by omega), if_neg (by omega), if_neg (by omega), if_neg (by omega), if_neg (by omega), if_neg (by omega), tld_o (by decide) (by omega)]; exact h3 f hf k hk
      · rw [hx, if_neg (by omega), if_neg (by omega), if_neg (by omega), if_neg (by omega), if_neg (by omega), if_neg (by omega), if_neg (by omega), tld_o (by decide) (by omega)]; exact h4 b hb q hq
      · rw [hx, if_neg (by omega), if_neg (by omega), if_neg (by omega), if_neg (by omega), if_neg (by omega), if_neg (by omega), if_neg (by omega), tld_o (by decide) (by omega)]; exact h5 b hb q hq
      · rw [hx, if_neg (by omega), if_neg (by omega), if_neg (by omega), if_neg (by omega), if_neg (by omega), if_neg (by omega), if_neg (by omega), tld_o (by decide) (by omega)]; exact h6 b hb q hq
      · rw [hx, if_neg (by omega)]
        by_cases g0 : g = 0
        · subst g0
          rcases (show k = 0 ∨ k = 1 ∨ k = 2 ∨ k = 3 ∨ k = 4 by omega) with rfl | rfl | rfl | rfl | rfl <;> rfl
        · rw [if_neg (by omega), if_neg (by omega), if_neg (by omega), if_neg (by omega), if_neg (by omega), if_pos (by omega), tld_6 (by omega), ← h7 (g - 1) (by omega) k hk]
          congr 1
          omega
    · rw [hx, if_neg (by omega), if_neg (by omega), if_neg (by omega), if_neg (by omega), if_neg (by omega), if_neg (by omega), if_neg (by omega)]
/-- where a fish is -/
theorem v_put (hc : Cnt S) (h : CV i a S) {f : Nat} (hf : f < 8) {st pl p4 p5 : Int32} (h4 : p4 = spo st pl) (h5 : p5 = abo st pl) : Tt (f_Se_put i a (nI f) st p4 p5) (fun i' => (CV i' a (sfp S f st pl) ∧ Cnt (sfp S f st pl)) ∧ ∀ b j, b ≠ a + 3 + f → i' b j = i b j) := by
  unfold f_Se_put
  rw [grd_nI hf (by decide), ix_nI (by omega)]
  refine tt_bnd (tt_bnd (tt_bnd (tt_some ⟨h.fish hc hf ?_ ?_ ?_, ?_⟩)))
  · intro b j hb; rw [wr_a hb, wr_a hb, wr_a hb]
  · intro x y z hn
    unfold sfp
    rw [su_o (by omega), su_o (by omega)]
  · intro hfn
    obtain ⟨f0, f1, f2, f3, f4, f5⟩ := h.2.2.1 f hfn
    have s3 : sfp S f st pl 2 f 3 = st := by unfold sfp; rw [su_o (by omega), su_s]
    have s4 : sfp S f st pl 2 f 4 = pl := by unfold sfp; rw [su_s]
    have so : ∀ z, z < 3 → sfp S f st pl 2 f z = S 2 f z := fun z hz => by unfold sfp; rw [su_o (by omega), su_o (by omega)]
    rw [s3, s4, so 0 (by decide), so 1 (by decide), so 2 (by decide)]
    refine ⟨?_, ?_, ?_, ?_, ?_, ?_⟩
    · rw [wr_k (by decide), wr_k (by decide), wr_k (by decide)]; exact f0
    · rw [wr_k (by decide), wr_k (by decide), wr_k (by decide)]; exact f1
    · rw [wr_k (by decide), wr_k (by decide), wr_k (by decide)]; exact f2
    · rw [wr_k (by decide), wr_k (by decide), wr_s]
    · rw [wr_k (by decide), wr_s]; exact h4
    · rw [wr_s]; exact h5
  · intro b j hb; rw [wr_a hb, wr_a hb, wr_a hb]
theorem m_nowIn (h : MV i S) {f : Nat} (hf : f < 8) (st pl : Int32) : Tt (f_Mo_isNowIn i (nI f) st pl) (fun i' => MV i' (sfp S f st pl) ∧ (∀ b j, b ≠ 1639 → i' b j = i b j) ∧ ∀ j, 417 ≤ j ∨ j = 5 → i' 1639 j = i 1639 j) := by
  have e3 : (36 : Int32) + (5 : Int32) * nI f + (3 : Int32) = nI (36 + 5 * f + 3) := by rw [lit_nI 36, lit_nI 5, lit_nI 3, mul_nI, nI_add, nI_add]
  have e4 : (36 : Int32) + (5 : Int32) * nI f + (4 : Int32) = nI (36 + 5 * f + 4) := by rw [lit_nI 36, lit_nI 5, lit_nI 4, mul_nI, nI_add, nI_add]
  unfold f_Mo_isNowIn f_Mo_fishAt
  simp only [Option.bind_some, e3, e4]
  rw [grd_nI (by omega) (by omega), ix_nI (by omega)]
  refine tt_bnd ?_
  rw [grd_nI (by omega) (by omega), ix_nI (by omega)]
  refine tt_bnd (tt_some ⟨(h.fish hf (show 3 < 5 by decide) st).fish hf (show 4 < 5 by decide) pl, fun b j hb => by rw [wr_a hb, wr_a hb], fun j hj => by rw [wr_k (by omega), wr_k (by omega)]⟩)
end TOLD
