/-! ===== image, back ===== -/
theorem ML.cong12 {i i' : MI} {L : LW} (hL : WL L) (h : ML i L) (he : ∀ k, k < 1266 → i' 1639 k = i 1639 k) : ML i' L := by
  obtain ⟨h1, h2, h3⟩ := h
  refine ⟨(he 5 (by decide)).trans h1, fun c => (he 417 (by decide)).trans (h2 c), fun k hk => ?_⟩
  obtain ⟨a1, a2, g, a3, a4, a5, a6⟩ := h3 k hk
  have hk12 : k < 12 := by have := hL.1; omega
  exact ⟨(he _ (by omega)).trans a1, (he _ (by omega)).trans a2, g, (he _ (by omega)).trans a3, (he _ (by omega)).trans a4, a5, fun q hq => ⟨(he _ (by omega)).trans (a6 q hq).1, fun c => (he _ (by omega)).trans ((a6 q hq).2 c)⟩⟩
section IMAGE
variable {i : MI} {t : MT} {r : MR} {lw lk : Nat} {S Sk : SS} {L Lk : LW} {W : PW}
theorem v_image (hw : Wf S) (h : CV i 1001 S) : Tt (f_Lc_image r i) (fun y => CV y.1 1112 S ∧ y.2 = wrR r 1112 16 (r 1001 16) ∧ y.1 1000 4 = 1 ∧ (∀ b j, (b < 1112 ∨ 1143 ≤ b) → b ≠ 1000 → y.1 b j = i b j) ∧ ∀ j, j ≠ 4 → y.1 1000 j = i 1000 j) := by
  unfold f_Lc_image
  refine tt_bind (v_copyFrom (a := 1112) (b := 1001) hw.1 h (by omega)) ?_
  rintro ⟨i1, r2⟩ ⟨c1, c2, c3⟩
  dsimp only at c1 c2 c3 ⊢
  refine tt_bnd (tt_some ⟨c1.congr (fun b j hb _ => wr_a (by omega)) hw.1, c2, show wr i1 1000 4 1 1000 4 = 1 from wr_s, fun b j hb hb2 => ?_, fun j hj => ?_⟩)
  · show wr i1 1000 4 1 b j = _
    rw [wr_a hb2]; exact c3 b j (by omega)
  · show wr i1 1000 4 1 1000 j = _
    rw [wr_k hj]; exact c3 1000 j (by omega)
theorem m_image : Tt (f_Mo_image i) (fun y => y 1638 0 = 0 ∧ y 1638 6 = 1 ∧ (∀ j, j < 1266 → y 1640 j = i 1639 j) ∧ (∀ b j, b ≠ 1638 → b ≠ 1640 → y b j = i b j) ∧ ∀ j, j ≠ 0 → j ≠ 6 → y 1638 j = i 1638 j) := by
  unfold f_Mo_image
  refine tt_bnd ?_
  refine tt_bind (m_copy (A := 1639) (B := 1640) (N := 1266) (by decide) (by decide) (by decide) (by decide) (by decide)) ?_
  intro i1 hi
  refine tt_bnd (tt_some ⟨?_, ?_, fun j hj => ?_, fun b j hb hb2 => ?_, fun j h0 h6 => ?_⟩)
  · rw [wr_k (by decide), hi, if_neg (by omega), wr_s]
  · exact wr_s
  · rw [wr_a (by decide), hi, if_pos ⟨rfl, hj⟩, wr_a (by decide)]
  · rw [wr_a hb, hi, if_neg (fun q => hb2 q.1), wr_a hb]
  · rw [wr_k h6, hi, if_neg (by omega), wr_k h0]
theorem v_back0 (h0 : i 1000 4 = 0) : f_Lc_back r i = some (0, i, r) := by
  unfold f_Lc_back
  rw [if_pos h0]
theorem v_back (hw : Wf Sk) (h1 : i 1000 4 = 1) (h : CV i 1112 Sk) (hk : r 1112 16 = lk) (hp : ∃ p, p < 12 ∧ i 1149 2 = nI p) (H : Nat → SS) : Tt (f_Lc_back r i) (fun y => y.1 = 1 ∧ CV y.2.1 1001 Sk ∧ y.2.2 = wrR r 1001 16 lk ∧ CP y.2.1 y.2.2 lk 0 H ∧ ∀ b j, (b < 1001 ∨ 1032 ≤ b) → ¬ (b = 1149 ∧ j = 1) → y.2.1 b j = i b j) := by
  unfold f_Lc_back f_Pa_forget
  refine tt_ifn (by rw [h1]; decide) ?_
  refine tt_bind (v_copyFrom (a := 1001) (b := 1112) hw.1 h (by omega)) ?_
  rintro ⟨i1, r2⟩ ⟨c1, c2, c3⟩
  dsimp only at c1 c2 c3 ⊢
  rw [hk] at c2
  refine tt_bind (P1 := fun i' => i' = wr i1 1149 1 0) (tt_bnd (tt_some rfl)) ?_
  rintro _ rfl
  obtain ⟨p, hp1, hp2⟩ := hp
  refine tt_some ⟨rfl, c1.congr (fun b j hb _ => wr_a (by omega)) hw.1, c2, ⟨show wr i1 1149 1 0 1149 1 = nI 0 from wr_s, p, hp1, ?_, fun k hk => absurd hk (Nat.not_lt_zero k)⟩, fun b j hb hb2 => ?_⟩
  · show wr i1 1149 1 0 1149 2 = nI p
    rw [wr_k (by decide), c3 1149 2 (by omega)]; exact hp2
  · show wr i1 1149 1 0 b j = i b j
    unfold wr
    rw [if_neg hb2]; exact c3 b j (by omega)
theorem m_back0 (h0 : i 1638 6 = 0) : f_Mo_back i = some (0, wr i 1638 0 0) := by
  have : wr i 1638 0 0 1638 6 = 0 := by rw [wr_k (by decide)]; exact h0
  unfold f_Mo_back
  show (if wr i 1638 0 0 1638 6 = 0 then _ else _) = _
  rw [if_pos this]
theorem m_back (hL : WL Lk) (h1 : i 1638 6 = 1) (h : MV (fun _ j => i 1640 j) Sk) (hl : ML (fun _ j => i 1640 j) Lk) (H : Nat → SS) : Tt (f_Mo_back i) (fun y => (y.2 1638 0 = 0 ∧ y.1 = 1) ∧ MV y.2 Sk ∧ ML y.2 Lk ∧ MP y.2 0 H ∧ (∀ b j, b ≠ 1638 → b ≠ 1639 → y.2 b j = i b j) ∧ ∀ j, j ≠ 0 → j ≠ 7 → y.2 1638 j = i 1638 j) := by
  unfold f_Mo_back
  refine tt_bnd ?_
  refine tt_ifn (by rw [wr_k (by decide), h1]; decide) ?_
  refine tt_bind (m_copy (A := 1640) (B := 1639) (N := 1266) (by decide) (by decide) (by decide) (by decide) (by decide)) ?_
  intro i1 hi
  have hx : ∀ j, j < 1266 → wr i1 1638 7 0 1639 j = i 1640 j := fun j hj => by
    rw [wr_a (by decide), hi, if_pos ⟨rfl, hj⟩, wr_a (by decide)]
  refine tt_bnd (tt_some ⟨⟨?_, rfl⟩, h.cong4 (fun j hj => hx j (by omega)), hl.cong12 hL (fun j hj => hx j hj), ⟨show wr i1 1638 7 0 1638 7 = nI 0 from wr_s, fun k hk => absurd hk (Nat.not_lt_zero k)⟩, fun b j hb hb2 => ?_, fun j h0 h7 => ?_⟩)
  · show wr i1 1638 7 0 1638 0 = 0
    rw [wr_k (by decide), hi, if_neg (by omega), wr_s]
  · show wr i1 1638 7 0 b j = i b j
    rw [wr_a hb, hi, if_neg (fun q => hb2 q.1), wr_a hb]
  · show wr i1 1638 7 0 1638 j = i 1638 j
    rw [wr_k h7, hi, if_neg (by omega), wr_k h0]
end IMAGE
