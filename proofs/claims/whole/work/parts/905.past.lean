/-! ===== what is remembered, on both sides ===== -/
/-- now, how many are remembered, the remembered from the newest on -/
abbrev PW : Type := SS × Nat × (Nat → SS)
def phi (S : SS) (H : Nat → SS) : Nat → SS := fun k => if k = 0 then S else H (k - 1)
def psh (W : PW) (S' : SS) : PW := (S', min 12 (W.2.1 + 1), phi W.1 W.2.2)
def WW (W : PW) : Prop := Wf W.1 ∧ W.2.1 ≤ 12 ∧ ∀ k, k < W.2.1 → Wf (W.2.2 k)
def slt (p k : Nat) : Nat := 1151 + 37 * ((p + 11 - k) % 12)
def CP (i : MI) (r : MR) (lw n : Nat) (H : Nat → SS) : Prop := i 1149 1 = nI n ∧ ∃ p, p < 12 ∧ i 1149 2 = nI p ∧ ∀ k, k < n → CV i (slt p k) (H k) ∧ r (slt p k) 16 = lw
def MP (i : MI) (n : Nat) (H : Nat → SS) : Prop := i 1638 7 = nI n ∧ ∀ k, k < n → MV (fun _ j => i 1643 (417 * (n - 1 - k) + j)) (H k) ∧ i 1643 (417 * (n - 1 - k) + 5) = i 1639 5
def CW (i : MI) (r : MR) (lw : Nat) (W : PW) : Prop := CV i 1001 W.1 ∧ r 1001 16 = lw ∧ CP i r lw W.2.1 W.2.2
def MW (i : MI) (W : PW) : Prop := MV i W.1 ∧ MP i W.2.1 W.2.2
/-- what an act of the class leaves alone -/
def fa (lw : Nat) (i i' : MI) : Prop := ∀ b j, (b < 1001 ∨ 1032 ≤ b) → (b < 1149 ∨ 1595 ≤ b) → b ≠ lw + 1 → ¬ cqs b → i' b j = i b j
def fR (r r' : MR) : Prop := ∀ b k, (b < 1149 ∨ 1595 ≤ b) → ¬ cqs b → r' b k = r b k
def CA (tg : List Nat) (lw : Nat) (i : MI) (r : MR) (p : (Int32 × Int32) × PW) : (Int32 ⊕ Nat) × MI × MR → Prop := fun y => y.1 = toC tg p.1 ∧ (WW p.2 ∧ CW y.2.1 y.2.2 lw p.2) ∧ fa lw i y.2.1 ∧ fR r y.2.2
def fA (i i' : MI) : Prop := (∀ b j, (b < 1638 ∨ b = 1640 ∨ b = 1644 ∨ 1658 ≤ b) → i' b j = i b j) ∧ (∀ j, j ≠ 0 → j ≠ 7 → i' 1638 j = i 1638 j) ∧ ∀ j, (417 ≤ j ∨ j = 5) → i' 1639 j = i 1639 j
def MA (i : MI) (p : (Int32 × Int32) × PW) : Int32 × MI → Prop := fun y => y.2 1638 0 = p.1.1 ∧ (p.1.1 = 0 → y.1 = p.1.2) ∧ MW y.2 p.2 ∧ fA i y.2
theorem fA.refl (i : MI) : fA i i := ⟨fun _ _ _ => rfl, fun _ _ _ => rfl, fun _ _ => rfl⟩
theorem fA.trans {i j k : MI} (h : fA i j) (h2 : fA j k) : fA i k := ⟨fun b q hb => (h2.1 b q hb).trans (h.1 b q hb), fun q h1 h3 => (h2.2.1 q h1 h3).trans (h.2.1 q h1 h3), fun q hq => (h2.2.2 q hq).trans (h.2.2 q hq)⟩
theorem fa.refl (lw : Nat) (i : MI) : fa lw i i := fun _ _ _ _ _ _ => rfl
theorem fa.trans {lw : Nat} {i j k : MI} (h : fa lw i j) (h2 : fa lw j k) : fa lw i k := fun b q h1 h3 h4 h5 => (h2 b q h1 h3 h4 h5).trans (h b q h1 h3 h4 h5)
theorem MV.cong4 {i i' : MI} {S : SS} (h : MV i S) (he : ∀ k, k < 417 → i' 1639 k = i 1639 k) : MV i' S := by
  obtain ⟨h1, h2, h3, h4, h5, h6, h7⟩ := h
  exact ⟨fun k hk q => (he k (by omega)).trans (h1 k hk q), fun c hc => (he _ (by omega)).trans (h2 c hc), fun f hf k hk => (he _ (by omega)).trans (h3 f hf k hk), fun f hf k hk => (he _ (by omega)).trans (h4 f hf k hk), fun f hf k hk => (he _ (by omega)).trans (h5 f hf k hk), fun f hf k hk => (he _ (by omega)).trans (h6 f hf k hk), fun f hf k hk => (he _ (by omega)).trans (h7 f hf k hk)⟩
theorem CP.congr {i i' : MI} {r r' : MR} {lw n : Nat} {H : Nat → SS} (hH : ∀ k, k < n → Wf (H k)) (h : CP i r lw n H) (he : ∀ b j, 1149 ≤ b → b < 1595 → i' b j = i b j) (hr : ∀ b k, 1149 ≤ b → b < 1595 → r' b k = r b k) : CP i' r' lw n H := by
  obtain ⟨h1, p, hp, h2, h3⟩ := h
  refine ⟨(he _ _ (by omega) (by omega)).trans h1, p, hp, (he _ _ (by omega) (by omega)).trans h2, fun k hk => ?_⟩
  obtain ⟨g1, g2⟩ := h3 k hk
  have hs : 1151 ≤ slt p k ∧ slt p k + 31 < 1595 := by unfold slt; omega
  exact ⟨g1.congr (fun b j hb1 hb2 => he b j (by omega) (by omega)) (hH k hk).1, (hr _ _ (by omega) (by omega)).trans g2⟩
theorem MP.congr {i i' : MI} {n : Nat} {H : Nat → SS} (h : MP i n H) (he : ∀ j, i' 1643 j = i 1643 j) (h7 : i' 1638 7 = i 1638 7) (h5 : i' 1639 5 = i 1639 5) : MP i' n H :=
  ⟨h7.trans h.1, fun k hk => ⟨(h.2 k hk).1.cong4 (fun j _ => he _), (he _).trans ((h.2 k hk).2.trans h5.symm)⟩⟩
theorem WW.psh {W : PW} {S' : SS} (h : WW W) (hS : Wf S') : WW (psh W S') := by
  obtain ⟨h1, h2, h3⟩ := h
  refine ⟨hS, show min 12 (W.2.1 + 1) ≤ 12 by omega, fun k hk => ?_⟩
  have hk : k < min 12 (W.2.1 + 1) := hk
  show Wf (phi W.1 W.2.2 k)
  unfold phi
  by_cases e : k = 0
  · rw [if_pos e]; exact h1
  · rw [if_neg e]; exact h3 _ (by omega)
section PAST
variable {i : MI} {t : MT} {r : MR} {a lw : Nat} {W : PW}
theorem v_remember (hw : WW W) (h : CW i r lw W) : Tt (f_Pa_remember r i 1001) (fun y => CP y.1 y.2 lw (min 12 (W.2.1 + 1)) (phi W.1 W.2.2) ∧ (∀ b j, (b < 1149 ∨ 1595 ≤ b) → y.1 b j = i b j) ∧ ∀ b k, (b < 1149 ∨ 1595 ≤ b) → y.2 b k = r b k) := by
  obtain ⟨h1, h2, h3, p, hp, h4, h5⟩ := h
  obtain ⟨w1, w2, w3⟩ := hw
  unfold f_Pa_remember
  rw [h4, grd_nI hp (by decide), ix_nI (by omega)]
  refine tt_bind (v_copyFrom (a := 1151 + 37 * p) (b := 1001) w1.1 h1 (by omega)) ?_
  rintro ⟨i3, r4⟩ ⟨c1, c2, c3⟩
  dsimp only at c1 c2 c3 ⊢
  have e2 : i3 1149 2 = nI p := (c3 1149 2 (by omega)).trans h4
  have e1 : i3 1149 1 = nI W.2.1 := (c3 1149 1 (by omega)).trans h3
  have er : rm (nI p + 1) 12 = nI ((p + 1) % 12) := by rw [nI_1, lit_nI 12, rm_nI (by omega) (by decide) (by decide)]
  rw [e2, er]
  refine tt_bnd ?_
  rw [wr_k (by decide), e1, j_min, Option.bind_some, nI_1, lit_nI 12, jmin_nI (by omega) (by omega)]
  refine tt_bnd (tt_some ?_)
  have hfr : ∀ b j, b ≠ 1149 → wr (wr i3 1149 2 (nI ((p + 1) % 12))) 1149 1 (nI (min 12 (W.2.1 + 1))) b j = i3 b j := fun b j hb => by rw [wr_a hb, wr_a hb]
  refine ⟨⟨?_, (p + 1) % 12, Nat.mod_lt _ (by decide), ?_, fun k hk => ?_⟩, fun b j hb => ?_, fun b k hb => ?_⟩
  · show wr (wr i3 1149 2 (nI ((p + 1) % 12))) 1149 1 (nI (min 12 (W.2.1 + 1))) 1149 1 = nI (min 12 (W.2.1 + 1))
    exact wr_s
  · show wr (wr i3 1149 2 (nI ((p + 1) % 12))) 1149 1 (nI (min 12 (W.2.1 + 1))) 1149 2 = nI ((p + 1) % 12)
    rw [wr_k (by decide), wr_s]
  · dsimp only
    unfold phi
    by_cases e : k = 0
    · rw [if_pos e, e, show slt ((p + 1) % 12) 0 = 1151 + 37 * p by unfold slt; omega]
      refine ⟨c1.congr (fun b j hb1 hb2 => hfr b j (by omega)) w1.1, ?_⟩
      rw [c2, wrR_s]; exact h2
    · have es : slt ((p + 1) % 12) k = slt p (k - 1) := by unfold slt; omega
      have hne : slt p (k - 1) + 37 ≤ 1151 + 37 * p ∨ 1151 + 37 * p + 37 ≤ slt p (k - 1) := by unfold slt; omega
      have hge : 1151 ≤ slt p (k - 1) := by unfold slt; omega
      obtain ⟨g1, g2⟩ := h5 (k - 1) (by omega)
      rw [if_neg e, es]
      refine ⟨g1.congr (fun b j hb1 hb2 => ?_) (w3 _ (by omega)).1, ?_⟩
      · rw [hfr b j (by omega)]; exact c3 b j (by omega)
      · rw [c2, wrR_o (by omega)]; exact g2
  · show wr (wr i3 1149 2 (nI ((p + 1) % 12))) 1149 1 (nI (min 12 (W.2.1 + 1))) b j = _
    rw [hfr b j (by omega)]; exact c3 b j (by omega)
  · show r4 b k = _
    rw [c2]; exact wrR_o (by omega)
theorem m_remembers (hw : WW W) (h : MW i W) : Tt (f_Mo_remembers i) (fun i' => MP i' (min 12 (W.2.1 + 1)) (phi W.1 W.2.2) ∧ ∀ b j, b ≠ 1643 → ¬ (b = 1638 ∧ j = 7) → i' b j = i b j) := by
  obtain ⟨h1, h2, h3⟩ := h
  obtain ⟨w1, w2, w3⟩ := hw
  unfold f_Mo_remembers
  rw [h2]
  refine tt_bind (P1 := fun i' => ∃ m, m + 1 = min 12 (W.2.1 + 1) ∧ i' 1638 7 = nI (m + 1) ∧ (∀ k, k < m → MV (fun _ j => i' 1643 (417 * (m - 1 - k) + j)) (W.2.2 k) ∧ i' 1643 (417 * (m - 1 - k) + 5) = i 1639 5) ∧ ∀ b j, b ≠ 1643 → ¬ (b = 1638 ∧ j = 7) → i' b j = i b j) ?_ ?_
  · by_cases e : W.2.1 = 12
    · rw [e]
      refine tt_ifp rfl ?_
      refine tt_bind (P1 := fun i' => ∀ c j, i' c j = if c = 1643 ∧ j < 4587 then i 1643 (j + 417) else i c j)
        (tt_loop (fun q (s : Int32 × MI) => s.1 = nI q ∧ ∀ c j, s.2 c j = if c = 1643 ∧ j < q then i 1643 (j + 417) else i c j) 4587 (by omega) ?_ ?_ ⟨rfl, fun c j => (if_neg (by omega)).symm⟩) ?_
      · rintro q hq ⟨z, i5⟩ ⟨e1, e2⟩
        dsimp only at e1 e2 ⊢
        subst e1
        rw [lit_nI 4587, if_pos (nI_lt hq (by omega)), lit_nI 417, nI_add, grd_nI (show q + 417 < 5004 by omega) (by omega), grd_nI (show q < 5004 by omega) (by omega), ix_nI (by omega), ix_nI (by omega)]
        refine tt_bnd (tt_some ⟨nI_1 q, fun c j => ?_⟩)
        show wr i5 1643 q (i5 1643 (q + 417)) c j = _
        by_cases e : c = 1643 ∧ j = q
        · rw [e.1, e.2, wr_s, if_pos ⟨rfl, by omega⟩, e2, if_neg (by omega)]
        · unfold wr
          rw [if_neg e, e2]
          by_cases e3 : c = 1643 ∧ j < q
          · rw [if_pos e3, if_pos ⟨e3.1, by omega⟩]
          · rw [if_neg e3, if_neg (by omega)]
      · rintro ⟨z, i5⟩ ⟨e1, e2⟩
        dsimp only at e1 e2 ⊢
        subst e1
        rw [lit_nI 4587, if_neg (nI_nlt (Nat.le_refl _) (by omega))]
        exact tt_some e2
      · intro i6 hi
        refine tt_some ⟨11, by omega, ?_, fun k hk => ?_, fun b j hb _ => ?_⟩
        · rw [hi, if_neg (by omega), h2, e]
        · have hx : ∀ j, j < 417 → i6 1643 (417 * (11 - 1 - k) + j) = i 1643 (417 * (W.2.1 - 1 - k) + j) := fun j hj => by
            rw [hi, if_pos ⟨rfl, by omega⟩, e, show 417 * (11 - 1 - k) + j + 417 = 417 * (12 - 1 - k) + j by omega]
          exact ⟨(h3 k (by omega)).1.cong4 (fun j hj => hx j hj), (hx 5 (by decide)).trans (h3 k (by omega)).2⟩
        · rw [hi, if_neg (fun q => hb q.1)]
    · refine tt_ifn (fun q => e (by have := congrArg Int32.toNatClampNeg q; rw [nI_clamp (by omega)] at this; exact this)) ?_
      refine tt_bnd (tt_some ⟨W.2.1, by omega, ?_, fun k hk => ?_, fun b j hb hb2 => ?_⟩)
      · rw [wr_s, nI_1]
      · exact ⟨(h3 k hk).1.cong4 (fun j hj => wr_a (by decide)), (wr_a (by decide)).trans (h3 k hk).2⟩
      · unfold wr; rw [if_neg hb2]
  · rintro i1 ⟨m, hm, e7, h4, h5⟩
    refine tt_bind (P1 := fun i' => ∀ c j, i' c j = if c = 1643 ∧ 417 * m ≤ j ∧ j < 417 * m + 417 then i1 1639 (j - 417 * m) else i1 c j)
      (tt_loop (fun q (s : Int32 × MI) => s.1 = nI q ∧ ∀ c j, s.2 c j = if c = 1643 ∧ 417 * m ≤ j ∧ j < 417 * m + q then i1 1639 (j - 417 * m) else i1 c j) 417 (by omega) ?_ ?_ ⟨rfl, fun c j => (if_neg (by omega)).symm⟩) ?_
    · rintro q hq ⟨z, i5⟩ ⟨e1, e2⟩
      dsimp only at e1 e2 ⊢
      subst e1
      have e7' : i5 1638 7 = nI (m + 1) := by rw [e2, if_neg (by omega)]; exact e7
      rw [e7', nI_pred, lit_nI 417, mul_nI, nI_add, if_pos (nI_lt hq (by omega)), grd_nI (show q < 2115 by omega) (by omega), grd_nI (show 417 * m + q < 5004 by omega) (by omega), ix_nI (by omega), ix_nI (by omega)]
      refine tt_bnd (tt_some ⟨nI_1 q, fun c j => ?_⟩)
      show wr i5 1643 (417 * m + q) (i5 1639 q) c j = _
      by_cases e : c = 1643 ∧ j = 417 * m + q
      · rw [e.1, e.2, wr_s, if_pos ⟨rfl, by omega, by omega⟩, e2, if_neg (by omega), Nat.add_sub_cancel_left]
      · unfold wr
        rw [if_neg e, e2]
        by_cases e3 : c = 1643 ∧ 417 * m ≤ j ∧ j < 417 * m + q
        · rw [if_pos e3, if_pos ⟨e3.1, e3.2.1, by omega⟩]
        · rw [if_neg e3, if_neg (by omega)]
    · rintro ⟨z, i5⟩ ⟨e1, e2⟩
      dsimp only at e1 e2 ⊢
      subst e1
      rw [lit_nI 417, if_neg (nI_nlt (Nat.le_refl _) (by omega))]
      exact tt_some e2
    · intro i6 hi
      refine tt_some ⟨⟨?_, fun k hk => ?_⟩, fun b j hb hb2 => ?_⟩
      · rw [hi, if_neg (by omega), ← hm]; exact e7
      · rw [← hm]
        unfold phi
        have e5 : i6 1639 5 = i 1639 5 := by rw [hi, if_neg (by omega)]; exact h5 1639 5 (by decide) (by omega)
        by_cases e : k = 0
        · rw [if_pos e, e, e5]
          have hx : ∀ j, j < 417 → i6 1643 (417 * (m + 1 - 1 - 0) + j) = i 1639 j := fun j hj => by
            rw [hi, if_pos ⟨rfl, by omega, by omega⟩, show 417 * (m + 1 - 1 - 0) + j - 417 * m = j by omega]
            exact h5 1639 j (by decide) (by omega)
          exact ⟨h1.cong4 (fun j hj => hx j hj), hx 5 (by decide)⟩
        · rw [if_neg e, e5]
          have hx : ∀ j, j < 417 → i6 1643 (417 * (m + 1 - 1 - k) + j) = i1 1643 (417 * (m - 1 - (k - 1)) + j) := fun j hj => by
            rw [hi, if_neg (by omega), show m + 1 - 1 - k = m - 1 - (k - 1) by omega]
          exact ⟨(h4 (k - 1) (by omega)).1.cong4 (fun j hj => hx j hj), (hx 5 (by decide)).trans (h4 (k - 1) (by omega)).2⟩
      · rw [hi, if_neg (fun q => hb q.1)]; exact h5 b j hb hb2
end PAST
