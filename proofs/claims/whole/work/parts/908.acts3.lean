/-! ===== acts, 3: undo ===== -/
theorem slt_0 (p : Nat) : slt p 0 = 1151 + 37 * ((p + 11) % 12) := rfl
theorem slt_1 {p k : Nat} (hp : p < 12) (hk : k < 11) : slt ((p + 11) % 12) k = slt p (k + 1) := by unfold slt; omega
section ACTS3
variable {i : MI} {t : MT} {r : MR} {lw : Nat} {W : PW} {L : LW}
theorem v_undo (hw : WW W) (h : CW i r lw W) : Tt (f_Lc_undo r i) (fun y => y.1 = (spUndo W).1.2 ∧ (WW (spUndo W).2 ∧ CW y.2.1 y.2.2 lw (spUndo W).2) ∧ fa lw i y.2.1 ∧ fR r y.2.2) := by
  obtain ⟨S, n, H⟩ := W
  have h0 := h
  obtain ⟨h1, h2, h3, p, hp, h4, h5⟩ := h
  obtain ⟨w1, w2, w3⟩ := hw
  dsimp only at h1 h2 h3 h4 h5 w1 w2 w3
  have er : rm (i 1149 2 + 12 - 1) 12 = nI ((p + 11) % 12) := by
    rw [h4, lit_nI 12, nI_add, show p + 12 = (p + 11) + 1 from rfl, nI_pred, rm_nI (by omega) (by decide) (by decide)]
  unfold f_Lc_undo f_Pa_bringBack
  rw [er, h3, grd_nI (Nat.mod_lt _ (by decide)) (by decide), ix_nI (by omega)]
  cases n with
  | zero =>
    have hs : spUndo (S, 0, H) = ((0, 0), (S, 0, H)) := if_pos rfl
    rw [hs]
    refine tt_bind (P1 := fun y => y = ((0 : Int32), i, r)) (tt_ifp rfl (tt_some rfl)) ?_
    rintro _ rfl
    exact tt_grd2 (by simp) (tt_some ⟨rfl, ⟨⟨w1, w2, w3⟩, h0⟩, fa.refl _ _, fun _ _ _ _ => rfl⟩)
  | succ m =>
    have hs : spUndo (S, m + 1, H) = ((0, 1), (H 0, m, fun k => H (k + 1))) := if_neg (Nat.succ_ne_zero m)
    rw [hs]
    obtain ⟨g1, g2⟩ := h5 0 (by omega)
    rw [slt_0] at g1 g2
    refine tt_bind (P1 := fun y => y.1 = 1 ∧ (WW (H 0, m, fun k => H (k + 1)) ∧ CW y.2.1 y.2.2 lw (H 0, m, fun k => H (k + 1))) ∧ fa lw i y.2.1 ∧ fR r y.2.2) ?_ ?_
    · refine tt_ifn (fun q => absurd ((nI_z (by omega)).mp q) (Nat.succ_ne_zero m)) ?_
      refine tt_bnd (tt_bnd ?_)
      rw [nI_pred]
      have hi : ∀ b j, b ≠ 1149 → wr (wr i 1149 1 (nI m)) 1149 2 (nI ((p + 11) % 12)) b j = i b j := fun b j hb => by rw [wr_a hb, wr_a hb]
      refine tt_bind (v_copyFrom (a := 1001) (b := 1151 + 37 * ((p + 11) % 12)) (w3 0 (by omega)).1 (g1.congr (fun b j hb _ => hi b j (by omega)) (w3 0 (by omega)).1) (by omega)) ?_
      rintro ⟨i7, r8⟩ ⟨c1, c2, c3⟩
      dsimp only at c1 c2 c3 ⊢
      rw [g2] at c2
      have hr : ∀ b k, r8 b k = r b k := by
        intro b k
        rw [c2]
        by_cases e : b = 1001 ∧ k = 16
        · rw [e.1, e.2, wrR_s]; exact h2.symm
        · exact wrR_o e
      refine tt_some ⟨rfl, ⟨⟨w3 0 (by omega), show m ≤ 12 by omega, fun k hk => w3 (k + 1) (show k + 1 < m + 1 from Nat.succ_lt_succ hk)⟩, c1, (hr 1001 16).trans h2, ?_, (p + 11) % 12, Nat.mod_lt _ (by decide), ?_, fun k hk => ?_⟩, fun b j hb1 hb2 _ _ => ?_, fun b k _ _ => hr b k⟩
      · show i7 1149 1 = nI m
        rw [c3 1149 1 (by omega), wr_k (by decide), wr_s]
      · show i7 1149 2 = _
        rw [c3 1149 2 (by omega), wr_s]
      · have hk : k < m := hk
        dsimp only
        obtain ⟨k1, k2⟩ := h5 (k + 1) (by omega)
        rw [slt_1 hp (by omega)]
        have hs : 1151 ≤ slt p (k + 1) := by unfold slt; omega
        exact ⟨k1.congr (fun b j hb _ => (c3 b j (by omega)).trans (hi b j (by omega))) (w3 (k + 1) (by omega)).1, (hr _ _).trans k2⟩
      · show i7 b j = _
        exact (c3 b j (by omega)).trans (hi b j (by omega))
    · rintro ⟨v, i2, r2⟩ ⟨e1, e2⟩
      dsimp only at e1 e2 ⊢
      subst e1
      exact tt_grd2 (by simp) (tt_some ⟨rfl, e2⟩)
theorem m_undo (hw : WW W) (h : MW i W) : Tt (f_Mo_undo i) (MA i (spUndo W)) := by
  obtain ⟨S, n, H⟩ := W
  have h1 := h.t 0
  obtain ⟨h1, h2, h3⟩ := h1
  obtain ⟨w1, w2, w3⟩ := hw
  dsimp only at h1 h2 h3 w1 w2 w3
  unfold f_Mo_undo
  refine tt_bnd ?_
  rw [h2]
  cases n with
  | zero =>
    have hs : spUndo (S, 0, H) = ((0, 0), (S, 0, H)) := if_pos rfl
    rw [hs]
    exact tt_ifp rfl (tt_some (ma_ok wr_s rfl (h.t 0) (fA.refl _)))
  | succ m =>
    have hs : spUndo (S, m + 1, H) = ((0, 1), (H 0, m, fun k => H (k + 1))) := if_neg (Nat.succ_ne_zero m)
    rw [hs]
    refine tt_ifn (fun q => absurd ((nI_z (by omega)).mp q) (Nat.succ_ne_zero m)) (tt_bnd ?_)
    rw [nI_pred]
    refine tt_bind (P1 := fun i' => ∀ c j, i' c j = if c = 1639 ∧ j < 417 then i 1643 (417 * m + j) else wr (wr i 1638 0 0) 1638 7 (nI m) c j)
      (tt_loop (fun q (s : Int32 × MI) => s.1 = nI q ∧ ∀ c j, s.2 c j = if c = 1639 ∧ j < q then i 1643 (417 * m + j) else wr (wr i 1638 0 0) 1638 7 (nI m) c j) 417 (by omega) ?_ ?_ ⟨rfl, fun c j => (if_neg (by omega)).symm⟩) ?_
    · rintro q hq ⟨z, i5⟩ ⟨e1, e2⟩
      dsimp only at e1 e2 ⊢
      subst e1
      have e7 : i5 1638 7 = nI m := by rw [e2, if_neg (by omega), wr_s]
      have e4 : i5 1643 (417 * m + q) = i 1643 (417 * m + q) := by rw [e2, if_neg (by omega), wr_a (by decide), wr_a (by decide)]
      rw [e7, lit_nI 417, mul_nI, nI_add, if_pos (nI_lt hq (by omega)), grd_nI (show 417 * m + q < 5004 by omega) (by omega), grd_nI (show q < 2115 by omega) (by omega), ix_nI (by omega), ix_nI (by omega), e4]
      refine tt_bnd (tt_some ⟨nI_1 q, fun c j => ?_⟩)
      show wr i5 1639 q (i 1643 (417 * m + q)) c j = _
      by_cases e : c = 1639 ∧ j = q
      · rw [e.1, e.2, wr_s, if_pos ⟨rfl, by omega⟩]
      · unfold wr
        rw [if_neg e, e2]
        by_cases e3 : c = 1639 ∧ j < q
        · rw [if_pos e3, if_pos ⟨e3.1, by omega⟩]
        · rw [if_neg e3, if_neg (by omega)]
          rfl
    · rintro ⟨z, i5⟩ ⟨e1, e2⟩
      dsimp only at e1 e2 ⊢
      subst e1
      rw [lit_nI 417, if_neg (nI_nlt (Nat.le_refl _) (by omega))]
      exact tt_some e2
    · intro i6 hi
      have ho : ∀ b j, b ≠ 1639 → b ≠ 1638 → i6 b j = wr i 1638 0 0 b j := fun b j hb hb2 => by rw [hi, if_neg (fun q => hb q.1), wr_a hb2]
      have h38 : ∀ j, j ≠ 7 → i6 1638 j = wr i 1638 0 0 1638 j := fun j hj => by rw [hi, if_neg (by omega), wr_k hj]
      obtain ⟨k1, k2⟩ := h3 0 (by omega)
      have hx : ∀ j, j < 417 → i6 1639 j = wr i 1638 0 0 1643 (417 * (m + 1 - 1 - 0) + j) := fun j hj => by
        rw [hi, if_pos ⟨rfl, hj⟩, wr_a (by decide)]
        rfl
      have e5 : i6 1639 5 = wr i 1638 0 0 1639 5 := (hx 5 (by decide)).trans k2
      refine tt_some (ma_ok ((h38 0 (by decide)).trans wr_s) rfl ⟨k1.cong4 (fun j hj => hx j hj), ?_, fun k hk => ?_⟩ ⟨fun b j hb => ho b j (by omega) (by omega), fun j _ h7 => h38 j h7, fun j hj => ?_⟩)
      · show i6 1638 7 = nI m
        rw [hi, if_neg (by omega), wr_s]
      · have hk : k < m := hk
        obtain ⟨q1, q2⟩ := h3 (k + 1) (by omega)
        have hy : ∀ j, i6 1643 (417 * (m - 1 - k) + j) = wr i 1638 0 0 1643 (417 * (m + 1 - 1 - (k + 1)) + j) := fun j => by
          rw [ho _ _ (by decide) (by decide), show m + 1 - 1 - (k + 1) = m - 1 - k by omega]
        exact ⟨q1.cong4 (fun j _ => hy j), (hy 5).trans (q2.trans e5.symm)⟩
      · rcases hj with hj | hj
        · rw [hi, if_neg (by omega), wr_a (by decide)]
        · rw [hj]; exact e5
end ACTS3
