/-! ===== a law's text: the class's sums ===== -/
def KCd (i : MI) (c : Cd) : Prop := i 1598 6 = nI c.1 ∧ ∀ k, k < c.1 → i 1602 k = c.2 k
def fl (i i' : MI) : Prop := ∀ b j, ¬ (b = 1595 ∧ (j = 4 ∨ j = 5 ∨ j = 6)) → ¬ (b = 1598 ∧ j = 6) → b ≠ 1602 → i' b j = i b j
def fle (i i' : MI) : Prop := ∀ b j, ¬ (b = 1595 ∧ (j = 2 ∨ j = 4 ∨ j = 5 ∨ j = 6)) → ¬ (b = 1598 ∧ j = 6) → b ≠ 1602 → i' b j = i b j
def CRz (n : Nat) (T : Nat → Int32) (i : MI) (x : Rz) (y : (Unit ⊕ Nat) × MI) : Prop := match x with
  | .inl e => y.1 = .inr 20 ∧ y.2 1595 2 = nI e ∧ fle i y.2
  | .inr p => y.1 = .inl () ∧ TK y.2 n T p.1 ∧ KCd y.2 p.2 ∧ fl i y.2
section LAWR
variable {t : MT} {i i' : MI} {n : Nat} {T : Nat → Int32} {c : Cd}
theorem fl.refl (i : MI) : fl i i := fun _ _ _ _ _ => rfl
theorem fl.trans {i j k : MI} (h : fl i j) (h2 : fl j k) : fl i k := fun b q h1 h3 h4 => (h2 b q h1 h3 h4).trans (h b q h1 h3 h4)
theorem fl.e {i j k : MI} (h : fl i j) (h2 : fle j k) : fle i k := fun b q h1 h3 h4 => (h2 b q h1 h3 h4).trans (h b q (by omega) h3 h4)
theorem ft.fl {i j : MI} (h : ft i j) : fl i j := fun b q h1 _ _ => h b q h1
theorem fe.fle {i j : MI} (h : fe i j) : fle i j := fun b q h1 _ _ => h b q h1
theorem SV.fl (h : SV t i) (hf : fl i i') : SV t i' := h.congr (fun b j hb => hf b j (by omega) (by omega) (by omega))
theorem KCd.ft (h : KCd i c) (hf : ft i i') : KCd i' c := ⟨(hf _ _ (by omega)).trans h.1, fun k hk => (hf _ _ (by omega)).trans (h.2 k hk)⟩
theorem v_emit (h : KCd i c) (hl : c.1 < 400) (x : Int32) : Tt (f_Lt_emit i x) (fun i' => KCd i' (pu1 c x) ∧ (∀ b j, ¬ (b = 1598 ∧ j = 6) → b ≠ 1602 → i' b j = i b j)) := by
  unfold f_Lt_emit
  refine tt_ifp (by rw [h.1]; exact nI_lt hl (by decide)) (tt_bnd ?_)
  refine tt_grd (k := c.1) h.1 hl (by decide) (tt_bnd ?_)
  rw [show ix (i 1598 6) = c.1 by rw [h.1]; exact ix_nI (by omega)]
  refine tt_some ⟨⟨?_, fun k hk => ?_⟩, fun b j h1 h2 => ?_⟩
  · show wr (wr i 1598 6 (i 1598 6 + 1)) 1602 c.1 x 1598 6 = nI (c.1 + 1)
    rw [wr_a (by decide), wr_s, h.1, nI_1]
  · show wr (wr i 1598 6 (i 1598 6 + 1)) 1602 c.1 x 1602 k = up1 c.2 c.1 x k
    by_cases e : k = c.1
    · subst e
      rw [wr_s, up1_s]
    · have hk2 : k < c.1 + 1 := hk
      rw [wr_k e, wr_a (by decide), up1_o e]
      exact h.2 k (by omega)
  · show wr (wr i 1598 6 (i 1598 6 + 1)) 1602 c.1 x b j = i b j
    rw [wr_a h2]
    exact if_neg h1
/-- after a step has been laid -/
theorem TK.em {s : Nat} (h : TK i n T s) (he : ∀ b j, ¬ (b = 1598 ∧ j = 6) → b ≠ 1602 → i' b j = i b j) : TK i' n T s := h.congr (fun b j hb => he b j (by omega) (by omega))
theorem fl_em (he : ∀ b j, ¬ (b = 1598 ∧ j = 6) → b ≠ 1602 → i' b j = i b j) : fl i i' := fun b j _ h2 h3 => he b j h2 h3
theorem pAt_first {s : Nat} : ∀ j, j < 7 → (∀ k, k < j → ¬ wd n T (2 * (37 + k) + 2) s = true) → wd n T (2 * (37 + j) + 2) s = true → pAt n T s = j + 1 := fun j hj h1 h2 => by
  unfold pAt
  have hc : j = 0 ∨ j = 1 ∨ j = 2 ∨ j = 3 ∨ j = 4 ∨ j = 5 ∨ j = 6 := by omega
  rcases hc with rfl | rfl | rfl | rfl | rfl | rfl | rfl
  · rw [if_pos h2]
  · rw [if_neg (h1 0 (by decide)), if_pos h2]
  · rw [if_neg (h1 0 (by decide)), if_neg (h1 1 (by decide)), if_pos h2]
  · rw [if_neg (h1 0 (by decide)), if_neg (h1 1 (by decide)), if_neg (h1 2 (by decide)), if_pos h2]
  · rw [if_neg (h1 0 (by decide)), if_neg (h1 1 (by decide)), if_neg (h1 2 (by decide)), if_neg (h1 3 (by decide)), if_pos h2]
  · rw [if_neg (h1 0 (by decide)), if_neg (h1 1 (by decide)), if_neg (h1 2 (by decide)), if_neg (h1 3 (by decide)), if_neg (h1 4 (by decide)), if_pos h2]
  · rw [if_neg (h1 0 (by decide)), if_neg (h1 1 (by decide)), if_neg (h1 2 (by decide)), if_neg (h1 3 (by decide)), if_neg (h1 4 (by decide)), if_neg (h1 5 (by decide)), if_pos h2]
theorem pAt_none {s : Nat} (h1 : ∀ k, k < 7 → ¬ wd n T (2 * (37 + k) + 2) s = true) : pAt n T s = 0 := by
  unfold pAt
  rw [if_neg (h1 0 (by decide)), if_neg (h1 1 (by decide)), if_neg (h1 2 (by decide)), if_neg (h1 3 (by decide)), if_neg (h1 4 (by decide)), if_neg (h1 5 (by decide)), if_neg (h1 6 (by decide))]
theorem pw7 : ∀ j, j < 7 → f_Lt_partWord (-nI (j + 1)) = some (2 * (37 + j) + 2) ∧ ¬ (-nI (j + 1) : Int32) < -7 ∧ (-nI (j + 1) : Int32) + -1 = -nI (j + 1 + 1) := by decide +kernel
theorem v_partAhead (hS : SV t i) (hn : n ≤ 400) {s : Nat} (hs : s ≤ n) (h : TK i n T s) : Tt (f_Lt_partAhead t i) (fun v => v = if pAt n T s = 0 then -17 else -nI (pAt n T s)) := by
  unfold f_Lt_partAhead
  refine tt_loop (fun j x => x = -nI (j + 1) ∧ ∀ k, k < j → ¬ wd n T (2 * (37 + k) + 2) s = true) 7 (by decide) (fun j hj x hx => ?_) (fun x hx => ?_) ⟨by decide, fun k hk => absurd hk (Nat.not_lt_zero k)⟩
  · obtain ⟨rfl, hx⟩ := hx
    obtain ⟨a1, a2, a3⟩ := pw7 j hj
    refine tt_ifn a2 ?_
    rw [a1, Option.bind_some, v_isWord (k := 37 + j) hS hn (by omega) hs h, Option.bind_some]
    by_cases hw : wd n T (2 * (37 + j) + 2) s = true
    · rw [if_pos hw, if_neg (show ¬ (1 : Int32) = 0 by decide)]
      refine tt_some ?_
      show (-nI (j + 1) : Int32) = _
      rw [pAt_first j hj hx hw, if_neg (by omega)]
    · rw [if_neg hw, if_pos (show (0 : Int32) = 0 from rfl)]
      refine tt_some ⟨a3, fun k hk => ?_⟩
      by_cases e : k = j
      · rw [e]; exact hw
      · exact hx k (by omega)
  · obtain ⟨rfl, hx⟩ := hx
    refine tt_ifp (by decide) (tt_some ?_)
    show (-17 : Int32) = _
    rw [pAt_none hx, if_pos rfl]
theorem neg17 : ∀ z, z < 8 → z ≠ 0 → ¬ (-nI z : Int32) = -17 := by decide +kernel
end LAWR
/-- one part of a sum, as the class reads it -/
def bSum1 (t : MT) (x1_1 : Int32) (i_2 : MI) : Option ((Int32 × MI) ⊕ ((Unit ⊕ Nat) × MI)) := (f_Lt_partAhead t i_2).bind (fun v_6 => (if v_6 = -17 then ((f_Ta_number i_2 0 999).bind (fun | (.inl v_10, i_11) => some (.inl (v_10, i_11)) | (.inr c_12, i_11) => some (.inr ((.inr c_12, i_11))))) else ((f_Ta_step i_2).bind (fun i_14 => some (.inl (v_6, i_14)))) : Option ((Int32 × MI) ⊕ ((Unit ⊕ Nat) × MI))).bind (fun | .inl (x2_7, i_8) => (f_Lt_emit i_8 x2_7).bind (fun i_15 => (if 0 < x1_1 then ((f_Lt_emit i_15 (-12)).bind (fun i_18 => some i_18)) else (some i_15) : Option (MI)).bind (fun i_16 => some (.inl ((x1_1 + 1), i_16)))) | .inr y_20 => some (.inr (y_20))))
def L1P (n : Nat) (T : Nat → Int32) (i : MI) (x : Rz) (op : Int32) (j : Nat) : (Int32 × MI) ⊕ ((Unit ⊕ Nat) × MI) → Prop := lpP (fun z => z.1 = nI (j + 1) ∧ ∃ p, x = .inr p ∧ TK z.2 n T p.1 ∧ KCd z.2 (if j = 0 then p.2 else pu1 p.2 op) ∧ fl i z.2) (fun y => ∃ e, x = .inl e ∧ y.1 = .inr 20 ∧ y.2 1595 2 = nI e ∧ fle i y.2)
section LAWR2
variable {t : MT} {i i' : MI} {n : Nat} {T : Nat → Int32} {c : Cd}
theorem nI_gt0 {j : Nat} (h : j < 1000) : (0 : Int32) < nI j ↔ ¬ j = 0 :=
  ⟨fun q e => by rw [e] at q; exact absurd q (by decide), fun q => nI_lt (a := 0) (by omega) (by omega)⟩
/-- after the part: its step, and the sign's -/
theorem v_em2 {j : Nat} (hj : j < 400) {s : Nat} (h : TK i n T s) (hc : KCd i c) (hl : c.1 + 1 < 400) (x op : Int32) : Tt ((f_Lt_emit i x).bind (fun i_15 => (if 0 < nI j then ((f_Lt_emit i_15 op).bind (fun i_18 => some i_18)) else (some i_15) : Option (MI)).bind (fun i_16 => (some (.inl ((nI j + 1), i_16)) : Option ((Int32 × MI) ⊕ ((Unit ⊕ Nat) × MI)))))) (lpP (fun z => z.1 = nI (j + 1) ∧ TK z.2 n T s ∧ KCd z.2 (if j = 0 then pu1 c x else pu1 (pu1 c x) op) ∧ fl i z.2) (fun _ => False)) := by
  refine tt_bind (v_emit hc (by omega) x) (fun i2 h2 => ?_)
  by_cases e : j = 0
  · rw [if_neg (fun q => (nI_gt0 (by omega)).mp q e), Option.bind_some, if_pos e]
    exact tt_some ⟨nI_1 j, h.em h2.2, h2.1, fl_em h2.2⟩
  · rw [if_pos ((nI_gt0 (by omega)).mpr e), if_neg e]
    refine tt_bind (tt_bind (v_emit h2.1 (by show c.1 + 1 < 400; exact hl) op) (fun i3 h3 => tt_some (P := fun i3 => KCd i3 (pu1 (pu1 c x) op) ∧ (∀ b j, ¬ (b = 1598 ∧ j = 6) → b ≠ 1602 → i3 b j = i2 b j)) h3)) (fun i3 h3 => ?_)
    exact tt_some ⟨nI_1 j, (h.em h2.2).em h3.2, h3.1, (fl_em h2.2).trans (fl_em h3.2)⟩
theorem v_bSum1 (hS : SV t i) (hn : n ≤ 400) {s : Nat} (hs : tks n T s) (h : TK i n T s) (hc : KCd i c) {j : Nat} (hj : j < 400) (hl : c.1 + 1 < 400) : Tt (bSum1 t (nI j) i) (L1P n T i (rPart n T s c) (-12) j) := by
  unfold bSum1
  refine tt_bind (v_partAhead hS hn hs.1 h) ?_
  rintro v rfl
  unfold rPart
  by_cases h0 : pAt n T s = 0
  · rw [if_pos h0, if_pos h0, if_pos (show (-17 : Int32) = -17 from rfl)]
    refine tt_bind (P1 := fun z => match z with | .inl w => ∃ v q, nmb n T 0 999 s = .inr (v, q) ∧ w.1 = nI v ∧ TK w.2 n T q ∧ ft i w.2 | .inr y => nmb n T 0 999 s = .inl s ∧ y.1 = .inr 20 ∧ y.2 1595 2 = nI s ∧ fe i y.2) (tt_bind (v_number hn (lo := 0) (hi := 999) (by decide) (by decide) hs.1 h) ?_) ?_
    · rintro ⟨v | v, i2⟩ (⟨w, q, a1, a2, a3, a4, a5, a6, a7⟩ | ⟨a1, a2, a3, a4⟩)
      · cases Sum.inl.inj a5; exact tt_some ⟨w, q, a1, rfl, a6, a7⟩
      · cases a2
      · cases a5
      · cases Sum.inr.inj a2; exact tt_some ⟨a1, rfl, a3, a4⟩
    · rintro (⟨v, i2⟩ | ⟨v, i2⟩) hz
      · obtain ⟨w, q, a1, a2, a3, a4⟩ := hz
        dsimp only at a2 a3 a4 ⊢
        subst a2
        rw [a1]
        refine tt_mono (v_em2 hj a3 (hc.ft a4) hl (nI w) (-12)) ?_
        rintro (z | z) hz
        · exact ⟨hz.1, (q, pu1 c (nI w)), rfl, hz.2.1, hz.2.2.1, a4.fl.trans hz.2.2.2⟩
        · exact hz.elim
      · obtain ⟨a1, a2, a3, a4⟩ := hz
        rw [a1]
        exact tt_some ⟨s, rfl, a2, a3, a4.fle⟩
  · rw [if_neg h0, if_neg h0, if_neg (neg17 _ (by have := (pAt_le (n := n) (T := T) s).1; omega) h0)]
    have hw := (pAt_le (n := n) (T := T) s).2 h0
    have e1 : ed n T s = le n T s := wd_ed (by have := (pAt_le (n := n) (T := T) s).1; omega) hs.1 hw
    refine tt_bind (P1 := fun z => match z with | .inl w => w.1 = -nI (pAt n T s) ∧ TK w.2 n T (nw n T s) ∧ ft i w.2 | .inr y => False) (tt_bind (v_step hn hs.1 h) (fun i2 h2 => tt_some ⟨rfl, (by have := h2.1; rw [e1] at this; exact this), h2.2⟩)) ?_
    rintro (⟨v, i2⟩ | ⟨v, i2⟩) hz
    · obtain ⟨a2, a3, a4⟩ := hz
      dsimp only at a2 a3 a4 ⊢
      subst a2
      refine tt_mono (v_em2 hj a3 (hc.ft a4) hl (-nI (pAt n T s)) (-12)) ?_
      rintro (z | z) hz
      · exact ⟨hz.1, (nw n T s, pu1 c (-nI (pAt n T s))), rfl, hz.2.1, hz.2.2.1, a4.fl.trans hz.2.2.2⟩
      · exact hz.elim
    · exact hz.elim
end LAWR2
