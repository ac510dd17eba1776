/-! ===== sale ===== -/
def aM (S : SS) (L : LW) (b m : Nat) : Nat := dif (bits (sut S L b) (nf S)) m
def bsl (S : SS) (L : LW) : Nat → Nat → Int32
  | 0, _ => 0
  | k + 1, m => mxf (fun f => (aM S L (ny S - (k + 1)) m).testBit f) (fun f => spr S L f + bsl S L k (setb m f)) 8 (bsl S L k m)
def scp (S : SS) (L : LW) (b m f : Nat) : Bool := (aM S L b m).testBit f && decide (spr S L f + bsl S L (ny S - (b + 1)) (setb m f) = bsl S L (ny S - b) m)
def scf (S : SS) (L : LW) (b m : Nat) : Int32 := if bsl S L (ny S - (b + 1)) m = bsl S L (ny S - b) m then -1 else nI (ffs (scp S L b m) (nf S) 0)
def smk (S : SS) (L : LW) : Nat → Nat
  | 0 => 0
  | b + 1 => if scf S L b (smk S L b) = -1 then smk S L b else setb (smk S L b) (ix (scf S L b (smk S L b)))
def spSale (S : SS) (L : LW) (x : Int32) : Int32 × Int32 := if x = -1 then (0, bsl S L (ny S) 0) else if okx x (ny S) = true then (0, scf S L (ix x) (smk S L (ix x))) else (1, 0)
section SALE
variable {i : MI} {t : MT} {r : MR} {S : SS} {L : LW} {lw : Nat}
theorem aM_t (b m f : Nat) : (aM S L b m).testBit f = (decide (f < 8) && ((decide (f < nf S) && sut S L b f) && !m.testBit f)) := by
  unfold aM
  rw [dif_t, bits_test]
theorem aM_lt (b m : Nat) : aM S L b m < 256 := dif_lt _ m
theorem aM_nf {b m f : Nat} (h : (aM S L b m).testBit f = true) : f < nf S := by
  rw [aM_t] at h
  simp only [Bool.and_eq_true, decide_eq_true_eq] at h
  exact h.2.1.1
theorem bsl_ge : ∀ k m, ¬ bsl S L k m < 0
  | 0, _ => by show ¬ (0 : Int32) < 0; decide
  | k + 1, m => mxf_ge (bsl_ge k m) 8
theorem bsl_nf (hc : Cnt S) {k m : Nat} : bsl S L (k + 1) m = mxf (fun f => (aM S L (ny S - (k + 1)) m).testBit f) (fun f => spr S L f + bsl S L k (setb m f)) (nf S) (bsl S L k m) := by
  have h8 := hc.f8
  have h := mxf_ext (p := fun f => (aM S L (ny S - (k + 1)) m).testBit f) (v := fun f => spr S L f + bsl S L k (setb m f)) (x0 := bsl S L k m) (n := nf S) (fun f hf => by
    show (aM S L (ny S - (k + 1)) m).testBit f = false
    rw [aM_t, decide_eq_false (by omega : ¬ f < nf S), Bool.false_and, Bool.false_and, Bool.and_false]) (8 - nf S)
  rw [show nf S + (8 - nf S) = 8 by omega] at h
  exact h
theorem scf_lt (hc : Cnt S) {b m : Nat} (hb : b < ny S) : (bsl S L (ny S - (b + 1)) m = bsl S L (ny S - b) m ∧ scf S L b m = -1) ∨ (¬ bsl S L (ny S - (b + 1)) m = bsl S L (ny S - b) m ∧ ∃ f, f < nf S ∧ scf S L b m = nI f ∧ scp S L b m f = true ∧ ∀ g, g < f → scp S L b m g = false) := by
  unfold scf
  by_cases e : bsl S L (ny S - (b + 1)) m = bsl S L (ny S - b) m
  · exact Or.inl ⟨e, if_pos e⟩
  · refine Or.inr ⟨e, ffs (scp S L b m) (nf S) 0, ?_⟩
    rw [if_neg e]
    obtain ⟨h1, h2, h3, h4⟩ := ffs_sp (scp S L b m) (nf S) 0
    have hlt : ffs (scp S L b m) (nf S) 0 < nf S := by
      rcases Nat.lt_or_ge (ffs (scp S L b m) (nf S) 0) (nf S) with h | h
      · exact h
      · exfalso
        have ek : ny S - b = (ny S - (b + 1)) + 1 := by omega
        have eb : ny S - ((ny S - (b + 1)) + 1) = b := by omega
        rcases mxf_at (p := fun f => (aM S L (ny S - ((ny S - (b + 1)) + 1)) m).testBit f) (v := fun f => spr S L f + bsl S L (ny S - (b + 1)) (setb m f)) (x0 := bsl S L (ny S - (b + 1)) m) 8 with q | ⟨f, -, q1, q2⟩
        · exact e (q.symm.trans (by rw [ek]; rfl))
        · rw [eb] at q1
          have hf := aM_nf q1
          have hs : scp S L b m f = true := by
            unfold scp
            rw [q1, Bool.true_and, decide_eq_true_eq, ek]
            exact q2
          rw [h3 f (Nat.zero_le f) (by omega)] at hs
          exact absurd hs (by decide)
    exact ⟨hlt, rfl, h4 (by omega), fun g hg => h3 g (Nat.zero_le g) hg⟩
theorem smk_lt (hc : Cnt S) : ∀ b, b ≤ ny S → smk S L b < 2 ^ nf S
  | 0, _ => Nat.two_pow_pos _
  | b + 1, hb => by
    have ih := smk_lt hc b (by omega)
    have h8 := hc.f8
    show (if scf S L b (smk S L b) = -1 then smk S L b else setb (smk S L b) (ix (scf S L b (smk S L b)))) < 2 ^ nf S
    rcases scf_lt (L := L) (m := smk S L b) hc (show b < ny S by omega) with ⟨-, h⟩ | ⟨-, f, hf, h, -⟩
    · rw [if_pos h]; exact ih
    · rw [h, if_neg (nI_m1 (by omega)), ix_nI (by omega)]
      exact setb_ltn ih hf
theorem pow_le8 {n : Nat} (h : n ≤ 8) : 2 ^ n ≤ 256 := Nat.pow_le_pow_right (n := 2) (by decide) h
theorem v_bestSale {R : Nat → Int32} {b m M : Nat} (hb : b < 5) (hn : nf S ≤ 8) (hm : m < 2 ^ nf S) (hM : M < 256) (hMn : ∀ f, M.testBit f = true → f < nf S) (hp : ∀ f, f < nf S → i 1628 f = spr S L f) (hR : ∀ m, m < 2 ^ nf S → i (1622 + (b + 1)) m = R m) : f_Sl_bestSale i (nI b) (nI m) (nI M) = some (mxf (fun f => M.testBit f) (fun f => spr S L f + R (setb m f)) 8 (R m)) := by
  have hp8 := pow_le8 hn
  have key : Tt (f_Sl_bestSale i (nI b) (nI m) (nI M)) (fun v => v = mxf (fun f => M.testBit f) (fun f => spr S L f + R (setb m f)) 8 (R m)) := by
    unfold f_Sl_bestSale
    rw [nI_1, grd_nI (show b + 1 < 6 by omega) (by decide), grd_nI (show m < 256 by omega) (by decide), ix_nI (by omega), ix_nI (by omega), hR m hm]
    refine tt_bind (P1 := fun v => v = mxf (fun f => M.testBit f) (fun f => spr S L f + R (setb m f)) 8 (R m))
      (tt_loop (fun j (s : Int32 × Int32) => s = (mxf (fun f => M.testBit f) (fun f => spr S L f + R (setb m f)) j (R m), nI j)) 8 (by omega) ?_ ?_ rfl) (fun v hv => tt_some hv)
    · rintro j hj _ rfl
      dsimp only
      rw [lit_nI 8, if_pos (nI_lt hj (by omega))]
      refine tt_bind (P1 := fun v => v = mxf (fun f => M.testBit f) (fun f => spr S L f + R (setb m f)) (j + 1) (R m)) ?_ ?_
      · show Tt _ (fun v => v = if M.testBit j = true then jmax (mxf (fun f => M.testBit f) (fun f => spr S L f + R (setb m f)) j (R m)) (spr S L j + R (setb m j)) else mxf (fun f => M.testBit f) (fun f => spr S L f + R (setb m f)) j (R m))
        by_cases c : M.testBit j = true
        · have hj2 := hMn j c
          have hs := setb_ltn hm hj2
          rw [if_neg (fun q => (bit_sh hM hj).mp q c), if_pos c, grd_nI (show j < 8 by omega) (by decide), grd_nI (show b + 1 < 6 by omega) (by decide), or_setb hj, grd_nI (show setb m j < 256 by omega) (by decide), ix_nI (by omega), ix_nI (by omega), hR _ hs, hp j hj2, j_max]
          exact tt_some rfl
        · rw [if_pos ((bit_sh hM hj).mpr c), if_neg c]; exact tt_some rfl
      · rintro v rfl
        exact tt_some (by dsimp only [lpP]; rw [nI_1])
    · rintro _ rfl
      dsimp only
      rw [lit_nI 8, if_neg (nI_nlt (Nat.le_refl _) (by omega))]
      exact tt_some rfl
  obtain ⟨v, h1, rfl⟩ := key
  exact h1
theorem v_firstSale (hc : Cnt S) {b m : Nat} (hb : b < ny S) (hm : m < 2 ^ nf S) (hp : ∀ f, f < nf S → i 1628 f = spr S L f) (hR : ∀ m, m < 2 ^ nf S → i (1622 + (b + 1)) m = bsl S L (ny S - (b + 1)) m) (hR0 : i (1622 + b) m = bsl S L (ny S - b) m) : f_Sl_firstSale i (nI b) (nI m) (nI (aM S L b m)) = some (scf S L b m) := by
  have h8 := hc.f8
  have h5 := hc.y5
  have hp8 := pow_le8 h8
  have key : Tt (f_Sl_firstSale i (nI b) (nI m) (nI (aM S L b m))) (fun v => v = scf S L b m) := by
    unfold f_Sl_firstSale
    rw [nI_1, grd_nI (show b + 1 < 6 by omega) (by decide), grd_nI (show m < 256 by omega) (by decide), grd_nI (show b < 6 by omega) (by decide), ix_nI (show b + 1 < 2 ^ 31 by omega), ix_nI (show m < 2 ^ 31 by omega), ix_nI (show b < 2 ^ 31 by omega), hR m hm, hR0]
    rcases scf_lt (L := L) (m := m) hc hb with ⟨e, h⟩ | ⟨e, f, hf, h, hs, hg⟩
    · rw [if_pos e]; exact tt_some h.symm
    · rw [if_neg e]
      refine tt_loop (fun j s => s = nI j ∧ j ≤ f) 8 (by omega) ?_ ?_ ⟨rfl, Nat.zero_le f⟩
      · rintro j hj _ ⟨rfl, hjf⟩
        rw [lit_nI 8, if_pos (nI_lt hj (by omega))]
        by_cases c : (aM S L b m).testBit j = true
        · have hj2 := aM_nf c
          have hs2 := setb_ltn hm hj2
          rw [if_neg (fun q => (bit_sh (aM_lt b m) hj).mp q c), grd_nI (show j < 8 by omega) (by decide), grd_nI (show b + 1 < 6 by omega) (by decide), or_setb hj, grd_nI (show setb m j < 256 by omega) (by decide), grd_nI (show b < 6 by omega) (by decide), grd_nI (show m < 256 by omega) (by decide), ix_nI (by omega), ix_nI (by omega), hR _ hs2, hp j hj2]
          by_cases c2 : spr S L j + bsl S L (ny S - (b + 1)) (setb m j) = bsl S L (ny S - b) m
          · rw [if_pos c2]
            have hsj : scp S L b m j = true := by unfold scp; rw [c, decide_eq_true c2]; rfl
            have : j = f := by
              by_cases q : j < f
              · rw [hg j q] at hsj; exact absurd hsj (by decide)
              · omega
            subst this
            exact tt_some h.symm
          · rw [if_neg c2]
            refine tt_some ⟨nI_1 j, ?_⟩
            have : j ≠ f := fun q => by
              subst q
              unfold scp at hs
              rw [decide_eq_false c2, Bool.and_false] at hs
              exact absurd hs (by decide)
            omega
        · rw [if_pos ((bit_sh (aM_lt b m) hj).mpr c)]
          refine tt_some ⟨nI_1 j, ?_⟩
          have : j ≠ f := fun q => by
            subst q
            unfold scp at hs
            rw [Bool.eq_false_iff.mpr c, Bool.false_and] at hs
            exact absurd hs (by decide)
          omega
      · rintro _ ⟨rfl, hjf⟩
        omega
  obtain ⟨v, h1, rfl⟩ := key
  exact h1
def fS (lw : Nat) (i i' : MI) : Prop := ∀ b j, b ≠ lw + 1 → (b < 1620 ∨ 1631 ≤ b) → i' b j = i b j
def sRw (S : SS) (L : LW) (i : MI) (q : Nat) : Prop := ∀ k, k ≤ q → ∀ m, m < 2 ^ nf S → i (1622 + (ny S - k)) m = bsl S L k m
def sPr (S : SS) (L : LW) (i : MI) : Prop := ∀ f, f < nf S → i 1628 f = spr S L f
theorem v_planSale (hw : Wf S) (h : CV i 1001 S) (hL : WL L) (hl : CL t i (r 1001 16) L) (hlw : LwOK (r 1001 16)) : Tt (f_Sl_planSale t r i 1001) (fun i' => i' 1620 4 = bsl S L (ny S) 0 ∧ (∀ b, b < ny S → i' 1630 b = scf S L b (smk S L b)) ∧ fS (r 1001 16) i i') := by
  have hna := hlw.n
  unfold LwOK at hlw
  have h8 := hw.1.f8
  have h5 := hw.1.y5
  have hp8 := pow_le8 h8
  have hC : ∀ i' : MI, fS (r 1001 16) i i' → CV i' 1001 S := fun i' hf => h.congr (fun b k _ _ => hf b k (by omega) (by omega)) hw.1
  have hCL : ∀ i' : MI, fS (r 1001 16) i i' → CL t i' (r 1001 16) L := fun i' hf => hl.congr (fun b k hb => hf b k (by omega) (by omega))
  unfold f_Sl_planSale
  refine tt_bind (P1 := fun i' => sPr S L i' ∧ fS (r 1001 16) i i')
    (tt_loop (fun q (s : Int32 × MI) => s.1 = nI q ∧ (∀ f, f < q → s.2 1628 f = spr S L f) ∧ fS (r 1001 16) i s.2) (nf S) (by omega) ?_ ?_ ⟨rfl, fun f hf => by omega, fun _ _ _ _ => rfl⟩) ?_
  · rintro q hq ⟨z, i2⟩ ⟨e1, e2, e3⟩
    dsimp only at e1 e2 e3 ⊢
    subst e1
    refine tt_ifp (show nI q < i2 1001 7 by rw [(hC i2 e3).1.1, hw.1.f]; exact nI_lt hq (by omega)) ?_
    refine tt_bind (v_price hw.1 (hC i2 e3) hL (hCL i2 e3) hna hq) ?_
    rintro ⟨v, i3⟩ ⟨g1, g2⟩
    dsimp only at g1 g2 ⊢
    subst g1
    rw [grd_nI (show q < 8 by omega) (by decide), ix_nI (by omega)]
    refine tt_bnd (tt_some ⟨nI_1 q, fun f hf => ?_, fun b j hb hb2 => ?_⟩)
    · show wr i3 1628 q _ 1628 f = _
      by_cases e : f = q
      · subst e; rw [wr_s]
      · rw [wr_k e, g2 _ _ (by omega)]; exact e2 f (by omega)
    · show wr i3 1628 q _ b j = _
      rw [wr_a (by omega), g2 b j hb]; exact e3 b j hb hb2
  · rintro ⟨z, i2⟩ ⟨e1, e2, e3⟩
    dsimp only at e1 e2 e3 ⊢
    subst e1
    refine tt_ifn (show ¬ nI (nf S) < i2 1001 7 by rw [(hC i2 e3).1.1, hw.1.f]; exact nI_nlt (Nat.le_refl _) (by omega)) ?_
    exact tt_some ⟨e2, e3⟩
  rintro i1 ⟨hp1, hf1⟩
  rw [show i 1001 9 = nI (ny S) from h.1.2.2.1.trans hw.1.y, show i 1001 7 = nI (nf S) from h.1.1.trans hw.1.f, grd_nI (show ny S < 6 by omega) (by decide), ix_nI (by omega)]
  refine tt_bind (v_filln (by decide) 0) ?_
  intro i2 hfi
  have hp2 : sPr S L i2 := fun f hf => by rw [hfi, if_neg (by omega)]; exact hp1 f hf
  have hf2 : fS (r 1001 16) i i2 := fun b j hb hb2 => by rw [hfi, if_neg (by omega)]; exact hf1 b j hb hb2
  refine tt_bind (P1 := fun i' => sRw S L i' (ny S) ∧ sPr S L i' ∧ fS (r 1001 16) i i')
    (tt_loop (fun q (s : Int32 × MI) => s.1 = nI (ny S - q) - 1 ∧ sRw S L s.2 q ∧ sPr S L s.2 ∧ fS (r 1001 16) i s.2) (ny S) (by omega) ?_ ?_ ⟨rfl, ?_, hp2, hf2⟩) ?_
  · rintro q hq ⟨z, i3⟩ ⟨e1, e2, e3, e4⟩
    dsimp only at e1 e2 e3 e4 ⊢
    have ez : z = nI (ny S - (q + 1)) := by rw [e1, show ny S - q = (ny S - (q + 1)) + 1 by omega, nI_pred]
    subst ez
    rw [if_neg (nI_pos (by omega))]
    refine tt_bind (v_mayBuy hw.1 (hC i3 e4) hL (hCL i3 e4) hna (show ny S - (q + 1) < ny S by omega)) ?_
    rintro ⟨v, i4⟩ ⟨g1, g2⟩
    dsimp only at g1 g2 ⊢
    subst g1
    have hr4 : sRw S L i4 q := fun k hk m hm => by rw [g2 _ _ (by omega)]; exact e2 k hk m hm
    have hp4 : sPr S L i4 := fun f hf => by rw [g2 _ _ (by omega)]; exact e3 f hf
    have hf4 : fS (r 1001 16) i i4 := fun b j hb hb2 => (g2 b j hb).trans (e4 b j hb hb2)
    refine tt_bind (P1 := fun i' => sRw S L i' (q + 1) ∧ sPr S L i' ∧ fS (r 1001 16) i i')
      (tt_loop (fun m (s : Int32 × MI) => s.1 = nI m ∧ (∀ m', m' < m → s.2 (1622 + (ny S - (q + 1))) m' = bsl S L (q + 1) m') ∧ sRw S L s.2 q ∧ sPr S L s.2 ∧ fS (r 1001 16) i s.2) (2 ^ nf S) (by omega) ?_ ?_ ⟨rfl, fun m hm => by omega, hr4, hp4, hf4⟩) ?_
    · rintro m hm ⟨z, i5⟩ ⟨k1, k2, k3, k4, k5⟩
      dsimp only at k1 k2 k3 k4 k5 ⊢
      subst k1
      have hbest := v_bestSale (i := i5) (S := S) (L := L) (R := bsl S L q) (b := ny S - (q + 1)) (m := m) (M := aM S L (ny S - (q + 1)) m) (by omega) h8 hm (aM_lt _ _) (fun f hf => aM_nf hf) k4 (fun m hm => by rw [show ny S - (q + 1) + 1 = ny S - q by omega]; exact k3 q (Nat.le_refl q) m hm)
      rw [shl1n _ (by omega), if_pos (nI_lt hm (by omega)), grd_nI (show ny S - (q + 1) < 6 by omega) (by decide), dif_nI (bits_256 _ h8)]
      show Tt ((f_Sl_bestSale i5 (nI (ny S - (q + 1))) (nI m) (nI (aM S L (ny S - (q + 1)) m))).bind _) _
      rw [hbest, Option.bind_some, grd_nI (show m < 256 by omega) (by decide), ix_nI (by omega), ix_nI (by omega)]
      refine tt_bnd (tt_some ⟨nI_1 m, fun m' hm' => ?_, fun k hk m' hm' => ?_, fun f hf => ?_, fun b j hb hb2 => ?_⟩)
      · show wr i5 (1622 + (ny S - (q + 1))) m (bsl S L (q + 1) m) (1622 + (ny S - (q + 1))) m' = _
        by_cases e : m' = m
        · subst e; rw [wr_s]
        · rw [wr_k e]; exact k2 m' (by omega)
      · show wr i5 (1622 + (ny S - (q + 1))) m (bsl S L (q + 1) m) (1622 + (ny S - k)) m' = _
        rw [wr_a (by omega)]; exact k3 k hk m' hm'
      · show wr i5 (1622 + (ny S - (q + 1))) m (bsl S L (q + 1) m) 1628 f = _
        rw [wr_a (by omega)]; exact k4 f hf
      · show wr i5 (1622 + (ny S - (q + 1))) m (bsl S L (q + 1) m) b j = _
        rw [wr_a (by omega)]; exact k5 b j hb hb2
    · rintro ⟨z, i5⟩ ⟨k1, k2, k3, k4, k5⟩
      dsimp only at k1 k2 k3 k4 k5 ⊢
      subst k1
      rw [shl1n _ (by omega), if_neg (nI_nlt (Nat.le_refl _) (by omega))]
      refine tt_some ⟨fun k hk m hm => ?_, k4, k5⟩
      by_cases e : k = q + 1
      · subst e; exact k2 m hm
      · exact k3 k (by omega) m hm
    · rintro i5 ⟨k1, k2, k3⟩
      refine tt_some ⟨?_, k1, k2, k3⟩
      show nI (ny S - (q + 1)) + (-1 : Int32) = nI (ny S - (q + 1)) - 1
      rw [addm]
  · rintro ⟨z, i3⟩ ⟨e1, e2, e3, e4⟩
    dsimp only at e1 e2 e3 e4 ⊢
    subst e1
    rw [if_pos ((dn_neg2 (by omega)).mpr (by omega))]
    exact tt_some ⟨e2, e3, e4⟩
  · intro k hk m hm
    show i2 (1622 + (ny S - k)) m = _
    rw [show k = 0 by omega, hfi, if_pos ⟨rfl, by omega⟩]
    rfl
  rintro i3 ⟨e2, e3, e4⟩
  have e20 : i3 (1622 + 0) 0 = bsl S L (ny S) 0 := by
    have := e2 (ny S) (Nat.le_refl _) 0 (Nat.two_pow_pos _)
    rw [Nat.sub_self] at this
    exact this
  refine tt_bnd ?_
  rw [e20]
  refine tt_bind (P1 := fun i' => i' 1620 4 = bsl S L (ny S) 0 ∧ (∀ b, b < ny S → i' 1630 b = scf S L b (smk S L b)) ∧ fS (r 1001 16) i i')
    (tt_loop (fun q (s : Int32 × Int32 × MI) => s.1 = nI (smk S L q) ∧ s.2.1 = nI q ∧ (∀ b, b < q → s.2.2 1630 b = scf S L b (smk S L b)) ∧ s.2.2 1620 4 = bsl S L (ny S) 0 ∧ sRw S L s.2.2 (ny S) ∧ sPr S L s.2.2 ∧ fS (r 1001 16) i s.2.2) (ny S) (by omega) ?_ ?_ ⟨rfl, rfl, fun b hb => by omega, show wr i3 1620 4 (bsl S L (ny S) 0) 1620 4 = _ from wr_s, fun k hk m hm => ?_, fun f hf => ?_, fun b j hb hb2 => ?_⟩) (fun i' hi => tt_some hi)
  · rintro q hq ⟨x, z, i5⟩ ⟨k0, k1, k2, k3, k4, k5, k6⟩
    dsimp only at k0 k1 k2 k3 k4 k5 k6 ⊢
    subst k0 k1
    have hmk := smk_lt (L := L) hw.1 q (by omega)
    rw [if_pos (nI_lt hq (by omega))]
    refine tt_bind (v_mayBuy hw.1 (hC i5 k6) hL (hCL i5 k6) hna hq) ?_
    rintro ⟨v, i6⟩ ⟨g1, g2⟩
    dsimp only at g1 g2 ⊢
    subst g1
    have hr6 : sRw S L i6 (ny S) := fun k hk m hm => by rw [g2 _ _ (by omega)]; exact k4 k hk m hm
    have hp6 : sPr S L i6 := fun f hf => by rw [g2 _ _ (by omega)]; exact k5 f hf
    have hf6 : fS (r 1001 16) i i6 := fun b j hb hb2 => (g2 b j hb).trans (k6 b j hb hb2)
    have hfirst := v_firstSale (i := i6) (L := L) (m := smk S L q) hw.1 hq hmk hp6 (fun m hm => by
      have := hr6 (ny S - (q + 1)) (by omega) m hm
      rw [show ny S - (ny S - (q + 1)) = q + 1 by omega] at this
      exact this) (by
      have := hr6 (ny S - q) (by omega) (smk S L q) hmk
      rw [show ny S - (ny S - q) = q by omega] at this
      exact this)
    rw [dif_nI (bits_256 _ h8)]
    show Tt ((f_Sl_firstSale i6 (nI q) (nI (smk S L q)) (nI (aM S L q (smk S L q)))).bind _) _
    rw [hfirst, Option.bind_some, grd_nI (show q < 8 by omega) (by decide), ix_nI (by omega)]
    refine tt_bnd ?_
    rw [wr_s]
    refine tt_bind (P1 := fun v => nI (smk S L q) ||| v = nI (smk S L (q + 1))) ?_ ?_
    · show Tt _ (fun v => nI (smk S L q) ||| v = nI (if scf S L q (smk S L q) = -1 then smk S L q else setb (smk S L q) (ix (scf S L q (smk S L q)))))
      rcases scf_lt (L := L) (m := smk S L q) hw.1 hq with ⟨-, e⟩ | ⟨-, f, hf, e, -⟩
      · rw [if_pos e, if_pos e]; exact tt_some (or_0 _)
      · rw [e, if_neg (nI_m1 (by omega)), if_neg (nI_m1 (by omega)), ix_nI (by omega)]
        exact tt_some (or_setb (by omega))
    · rintro v hv
      refine tt_some ⟨hv, nI_1 q, fun b hb => ?_, ?_, fun k hk m hm => ?_, fun f hf => ?_, fun b j hb hb2 => ?_⟩
      · show wr i6 1630 q (scf S L q (smk S L q)) 1630 b = _
        by_cases e : b = q
        · subst e; rw [wr_s]
        · rw [wr_k e, g2 _ _ (by omega)]; exact k2 b (by omega)
      · show wr i6 1630 q (scf S L q (smk S L q)) 1620 4 = _
        rw [wr_a (by decide), g2 _ _ (by omega)]; exact k3
      · show wr i6 1630 q (scf S L q (smk S L q)) (1622 + (ny S - k)) m = _
        rw [wr_a (by omega)]; exact hr6 k hk m hm
      · show wr i6 1630 q (scf S L q (smk S L q)) 1628 f = _
        rw [wr_a (by decide)]; exact hp6 f hf
      · show wr i6 1630 q (scf S L q (smk S L q)) b j = _
        rw [wr_a (by omega)]; exact hf6 b j hb hb2
  · rintro ⟨x, z, i5⟩ ⟨k0, k1, k2, k3, k4, k5, k6⟩
    dsimp only at k0 k1 k2 k3 k4 k5 k6 ⊢
    subst k0 k1
    rw [if_neg (nI_nlt (Nat.le_refl _) (by omega))]
    exact tt_some ⟨k3, k2, k6⟩
  · show wr i3 1620 4 (bsl S L (ny S) 0) (1622 + (ny S - k)) m = _
    rw [wr_a (by omega)]; exact e2 k hk m hm
  · show wr i3 1620 4 (bsl S L (ny S) 0) 1628 f = _
    rw [wr_a (by omega)]; exact e3 f hf
  · show wr i3 1620 4 (bsl S L (ny S) 0) b j = _
    rw [wr_a (by omega)]; exact e4 b j hb hb2
theorem fS.cq {i i' : MI} (h : fS lw i i') : CQ lw i i' := fun b j h1 h2 => h b j h1 (by unfold cqs at h2; omega)
theorem v_sale (hw : Wf S) (h : CV i 1001 S) (hL : WL L) (hl : CL t i (r 1001 16) L) (hlw : LwOK (r 1001 16)) (x : Int32) : Tt (f_Lc_sale t r i x) (CO [22] (r 1001 16) i (spSale S L x)) := by
  have h5 := hw.1.y5
  unfold f_Lc_sale spSale
  by_cases hx : x = -1
  · rw [if_pos hx, if_pos hx, Option.bind_some]
    dsimp only
    refine tt_bind (v_planSale hw h hL hl hlw) ?_
    rintro i2 ⟨e1, e2, e3⟩
    rw [if_pos hx, e1]
    exact tt_some ⟨rfl, e3.cq⟩
  · rw [if_neg hx, if_neg hx, v_needBuyer hw.1 h]
    by_cases ho : okx x (ny S) = true
    · rw [if_pos ho, if_pos ho, Option.bind_some]
      dsimp only
      rw [Option.bind_some]
      dsimp only
      obtain ⟨b, hb, rfl⟩ := okx_of (by omega) ho
      refine tt_bind (v_planSale hw h hL hl hlw) ?_
      rintro i2 ⟨e1, e2, e3⟩
      rw [if_neg hx, grd_nI (show b < 8 by omega) (by decide), ix_nI (by omega), e2 b hb]
      exact tt_some ⟨rfl, e3.cq⟩
    · rw [if_neg ho, if_neg ho, Option.bind_some]
      dsimp only
      rw [Option.bind_some]
      exact tt_some ⟨rfl, CQ.refl _ _⟩
/-! the reference -/
theorem mo_paidAt {b : Nat} (hb : b < 7) (m : Nat) : f_Mo_paidAt (nI b) (nI m) = some (nI (256 * b + m)) := by
  unfold f_Mo_paidAt
  rw [(by decide +kernel : ∀ b, b < 7 → shl (nI b) 8 = nI (256 * b)) b hb, nI_add]
def pdv (S : SS) (L : LW) (b m : Nat) (R : Nat → Int32) (f : Nat) : Int32 := if (aM S L b m).testBit f = true then spr S L f + R (setb m f) else -1
theorem m_paidIf (hc : Cnt S) (h : MV i S) (hL : WL L) (hl : ML i L) {R : Nat → Int32} {b m f : Nat} (hb : b < ny S) (hf : f < nf S) (hm : m < 2 ^ nf S) (hR : ∀ m, m < 2 ^ nf S → i 1654 (256 * (b + 1) + m) = R m) : Tt (f_Mo_paidIf i (nI b) (nI m) (nI f)) (fun y => y.1 = pdv S L b m R f ∧ ∀ b j, b ≠ 1646 → y.2 b j = i b j) := by
  have h8 := hc.f8
  have h5 := hc.y5
  have hp8 := pow_le8 h8
  unfold f_Mo_paidIf pdv
  rw [if_neg (nI_m1 (by omega)), mo_hasm (by omega) (by omega), Option.bind_some, aM_t, decide_eq_true (show f < 8 by omega), decide_eq_true hf, Bool.true_and, Bool.true_and]
  by_cases c : m.testBit f = true
  · rw [if_pos c, if_neg (show ¬ (1 : Int32) = 0 by decide), c, Bool.not_true, Bool.and_false, if_neg (show ¬ false = true by decide)]
    exact tt_some ⟨rfl, fun _ _ _ => rfl⟩
  · rw [if_neg c, if_pos (show (0 : Int32) = 0 from rfl), Bool.eq_false_iff.mpr c, Bool.not_false, Bool.and_true]
    refine tt_bind (m_suits hc h hL hl hb hf) ?_
    rintro ⟨v, i2⟩ ⟨e1, e2⟩
    dsimp only at e1 e2 ⊢
    subst e1
    by_cases c2 : sut S L b f = true
    · rw [if_pos c2, if_neg (show ¬ (1 : Int32) = 0 by decide), if_pos c2]
      refine tt_bind (m_price hc (h.congr (fun k => e2 1639 k (by decide))) hL (hl.congr (fun k => e2 1639 k (by decide))) hf) ?_
      rintro ⟨v, i3⟩ ⟨g1, g2⟩
      dsimp only at g1 g2 ⊢
      subst g1
      have hs := setb_ltn hm hf
      rw [or_setb (by omega), nI_1, mo_paidAt (by omega), Option.bind_some, grd_nI (show 256 * (b + 1) + setb m f < 1536 by omega) (by decide), ix_nI (by omega), g2 1654 _ (by decide), e2 1654 _ (by decide), hR _ hs]
      exact tt_some ⟨rfl, fun b j hb => (g2 b j hb).trans (e2 b j hb)⟩
    · rw [if_neg c2, if_pos (show (0 : Int32) = 0 from rfl), if_neg c2]
      exact tt_some ⟨rfl, e2⟩
theorem m_paidNo {R : Nat → Int32} {b m : Nat} (hb : b < 5) (hm : m < 256) (hR : i 1654 (256 * (b + 1) + m) = R m) : f_Mo_paidIf i (nI b) (nI m) (-1) = some (R m, i) := by
  unfold f_Mo_paidIf
  rw [if_pos rfl, nI_1, mo_paidAt (by omega), Option.bind_some, grd_nI (show 256 * (b + 1) + m < 1536 by omega) (by decide), ix_nI (by omega), hR]
def tRw (S : SS) (L : LW) (i : MI) (q : Nat) : Prop := ∀ k, k ≤ q → ∀ m, m < 2 ^ nf S → i 1654 (256 * (ny S - k) + m) = bsl S L k m
theorem m_sale (hw : Wf S) (h : MV i S) (hL : WL L) (hl : ML i L) (x : Int32) : Tt (f_Mo_sale i x) (MO i (spSale S L x)) := by
  have h8 := hw.1.f8
  have h5 := hw.1.y5
  have hp8 := pow_le8 h8
  have h1 := mv_t h 0
  have l1 := ml_t hl 0
  unfold f_Mo_sale spSale
  refine tt_bnd ?_
  by_cases hx : x = -1 ∨ okx x (ny S) = true
  · refine tt_bind (P1 := fun v => v = 0) ?_ ?_
    · by_cases hx1 : x = -1
      · rw [if_pos hx1]; exact tt_some rfl
      · rw [if_neg hx1, m_noBuyer hw.1 h1, Option.bind_some, if_pos (hx.resolve_left hx1), if_pos (show (0 : Int32) = 0 from rfl)]
        exact tt_some rfl
    · rintro v rfl
      rw [thr0, Option.bind_some]
      dsimp only
      rw [if_pos (show (0 : Int32) = 0 from rfl)]
      have hM : ∀ i' : MI, (∀ b j, b ≠ 1646 → b ≠ 1654 → i' b j = wr i 1638 0 0 b j) → MV i' S := fun i' he => h1.congr (fun k => he 1639 k (by decide) (by decide))
      have hMl : ∀ i' : MI, (∀ b j, b ≠ 1646 → b ≠ 1654 → i' b j = wr i 1638 0 0 b j) → ML i' L := fun i' he => l1.congr (fun k => he 1639 k (by decide) (by decide))
      refine tt_bind (P1 := fun i' => (∀ m, m < 256 → i' 1654 (256 * ny S + m) = 0) ∧ ∀ b j, b ≠ 1646 → b ≠ 1654 → i' b j = wr i 1638 0 0 b j)
        (tt_loop (fun q (s : Int32 × MI) => s.1 = nI q ∧ (∀ m, m < q → s.2 1654 (256 * ny S + m) = 0) ∧ ∀ b j, b ≠ 1646 → b ≠ 1654 → s.2 b j = wr i 1638 0 0 b j) 256 (by omega) ?_ ?_ ⟨rfl, fun m hm => by omega, fun _ _ _ _ => rfl⟩) ?_
      · rintro q hq ⟨z, i2⟩ ⟨e1, e2, e3⟩
        dsimp only at e1 e2 e3 ⊢
        subst e1
        rw [lit_nI 256, if_pos (nI_lt hq (by omega)), m_buyers (hM i2 e3), hw.1.y, Option.bind_some, mo_paidAt (by omega), Option.bind_some, grd_nI (show 256 * ny S + q < 1536 by omega) (by decide), ix_nI (by omega)]
        refine tt_bnd (tt_some ⟨nI_1 q, fun m hm => ?_, fun b j hb hb2 => ?_⟩)
        · show wr i2 1654 (256 * ny S + q) 0 1654 (256 * ny S + m) = 0
          by_cases e : m = q
          · subst e; rw [wr_s]
          · rw [wr_k (by omega)]; exact e2 m (by omega)
        · show wr i2 1654 (256 * ny S + q) 0 b j = _
          rw [wr_a hb2]; exact e3 b j hb hb2
      · rintro ⟨z, i2⟩ ⟨e1, e2, e3⟩
        dsimp only at e1 e2 e3 ⊢
        subst e1
        rw [lit_nI 256, if_neg (nI_nlt (Nat.le_refl _) (by omega))]
        exact tt_some ⟨e2, e3⟩
      rintro i2 ⟨e2, e3⟩
      rw [m_buyers (hM i2 e3), hw.1.y, Option.bind_some]
      refine tt_bind (P1 := fun i' => tRw S L i' (ny S) ∧ ∀ b j, b ≠ 1646 → b ≠ 1654 → i' b j = wr i 1638 0 0 b j)
        (tt_loop (fun q (s : Int32 × MI) => s.1 = nI (ny S - q) - 1 ∧ tRw S L s.2 q ∧ ∀ b j, b ≠ 1646 → b ≠ 1654 → s.2 b j = wr i 1638 0 0 b j) (ny S) (by omega) ?_ ?_ ⟨rfl, ?_, e3⟩) ?_
      · rintro q hq ⟨z, i3⟩ ⟨g1, g2, g3⟩
        dsimp only at g1 g2 g3 ⊢
        have ez : z = nI (ny S - (q + 1)) := by rw [g1, show ny S - q = (ny S - (q + 1)) + 1 by omega, nI_pred]
        subst ez
        rw [if_neg (nI_pos (by omega))]
        refine tt_bind (P1 := fun i' => tRw S L i' (q + 1) ∧ ∀ b j, b ≠ 1646 → b ≠ 1654 → i' b j = wr i 1638 0 0 b j)
          (tt_loop (fun m (s : Int32 × MI) => s.1 = nI m ∧ (∀ m', m' < m → s.2 1654 (256 * (ny S - (q + 1)) + m') = bsl S L (q + 1) m') ∧ tRw S L s.2 q ∧ ∀ b j, b ≠ 1646 → b ≠ 1654 → s.2 b j = wr i 1638 0 0 b j) (2 ^ nf S) (by omega) ?_ ?_ ⟨rfl, fun m hm => by omega, g2, g3⟩) ?_
        · rintro m hm ⟨z, i4⟩ ⟨k1, k2, k3, k4⟩
          dsimp only at k1 k2 k3 k4 ⊢
          subst k1
          have hR : ∀ m, m < 2 ^ nf S → i4 1654 (256 * (ny S - (q + 1) + 1) + m) = bsl S L q m := fun m hm => by rw [show ny S - (q + 1) + 1 = ny S - q by omega]; exact k3 q (Nat.le_refl q) m hm
          rw [m_fishes (hM i4 k4), hw.1.f, Option.bind_some, shl1n _ (by omega), if_pos (nI_lt hm (by omega))]
          refine tt_bind (P1 := fun s => s.1 = bsl S L (q + 1) m ∧ ∀ b j, b ≠ 1646 → s.2 b j = i4 b j)
            (tt_loop (fun j (s : Int32 × Int32 × MI) => s.1 = (if j = 0 then 0 else mxf (fun f => (aM S L (ny S - (q + 1)) m).testBit f) (fun f => spr S L f + bsl S L q (setb m f)) (j - 1) (bsl S L q m)) ∧ s.2.1 = nI j - 1 ∧ ∀ b j, b ≠ 1646 → s.2.2 b j = i4 b j) (nf S + 1) (by omega) ?_ ?_ ⟨rfl, rfl, fun _ _ _ => rfl⟩) ?_
          · rintro j hj ⟨x4, x5, i5⟩ ⟨u1, u2, u3⟩
            dsimp only at u1 u2 u3 ⊢
            have hM5 : ∀ b j, b ≠ 1646 → b ≠ 1654 → i5 b j = wr i 1638 0 0 b j := fun b j hb hb2 => (u3 b j hb).trans (k4 b j hb hb2)
            rw [m_fishes (hM i5 hM5), hw.1.f, Option.bind_some]
            cases j with
            | zero =>
              have ex : x5 = -1 := u2.trans (by decide)
              subst ex
              rw [if_pos rfl] at u1
              subst u1
              rw [if_pos (neg1_lt (by omega)), m_paidNo (R := bsl S L q) (by omega) (by omega) ((u3 1654 _ (by decide)).trans (hR m hm)), Option.bind_some]
              dsimp only
              rw [j_max, Option.bind_some, jmax_0 (bsl_ge q m)]
              exact tt_some ⟨by rw [if_neg (by omega)]; rfl, by show (-1 : Int32) + 1 = nI (0 + 1) - 1; decide, u3⟩
            | succ f =>
              have ex : x5 = nI f := by rw [u2, nI_pred]
              subst ex
              rw [if_neg (by omega), show f + 1 - 1 = f from rfl] at u1
              rw [if_pos (nI_lt (by omega) (by omega))]
              refine tt_bind (m_paidIf hw.1 (hM i5 hM5) hL (hMl i5 hM5) (show ny S - (q + 1) < ny S by omega) (show f < nf S by omega) hm (fun m hm => (u3 1654 _ (by decide)).trans (hR m hm))) ?_
              rintro ⟨v, i6⟩ ⟨w1, w2⟩
              dsimp only at w1 w2 ⊢
              subst w1
              rw [j_max, Option.bind_some]
              refine tt_some ⟨?_, ?_, fun b j hb => (w2 b j hb).trans (u3 b j hb)⟩
              · show jmax x4 _ = if f + 1 + 1 = 0 then (0 : Int32) else (if (aM S L (ny S - (q + 1)) m).testBit f = true then jmax (mxf _ _ f _) _ else mxf _ _ f _)
                rw [if_neg (by omega), u1]
                unfold pdv
                by_cases c : (aM S L (ny S - (q + 1)) m).testBit f = true
                · rw [if_pos c, if_pos c]
                · rw [if_neg c, if_neg c, jmax_m1 (mxf_ge (bsl_ge q m) f)]
              · show nI f + 1 = nI (f + 1 + 1) - 1
                rw [nI_pred, nI_1]
          · rintro ⟨x4, x5, i5⟩ ⟨u1, u2, u3⟩
            dsimp only at u1 u2 u3 ⊢
            have hM5 : ∀ b j, b ≠ 1646 → b ≠ 1654 → i5 b j = wr i 1638 0 0 b j := fun b j hb hb2 => (u3 b j hb).trans (k4 b j hb hb2)
            have ex : x5 = nI (nf S) := by rw [u2, nI_pred]
            subst ex
            rw [m_fishes (hM i5 hM5), hw.1.f, Option.bind_some, if_neg (nI_nlt (Nat.le_refl _) (by omega))]
            rw [if_neg (by omega), show nf S + 1 - 1 = nf S from rfl] at u1
            exact tt_some ⟨u1.trans (bsl_nf hw.1).symm, u3⟩
          · rintro ⟨x4, i5⟩ ⟨u1, u3⟩
            dsimp only at u1 u3 ⊢
            subst u1
            rw [mo_paidAt (by omega), Option.bind_some, grd_nI (show 256 * (ny S - (q + 1)) + m < 1536 by omega) (by decide), ix_nI (by omega)]
            refine tt_bnd (tt_some ⟨nI_1 m, fun m' hm' => ?_, fun k hk m' hm' => ?_, fun b j hb hb2 => ?_⟩)
            · show wr i5 1654 (256 * (ny S - (q + 1)) + m) _ 1654 (256 * (ny S - (q + 1)) + m') = _
              by_cases e : m' = m
              · subst e; rw [wr_s]
              · rw [wr_k (by omega), u3 _ _ (by decide)]; exact k2 m' (by omega)
            · show wr i5 1654 (256 * (ny S - (q + 1)) + m) _ 1654 (256 * (ny S - k) + m') = _
              rw [wr_k (by omega), u3 _ _ (by decide)]; exact k3 k hk m' hm'
            · show wr i5 1654 (256 * (ny S - (q + 1)) + m) _ b j = _
              rw [wr_a hb2, u3 b j hb]; exact k4 b j hb hb2
        · rintro ⟨z, i4⟩ ⟨k1, k2, k3, k4⟩
          dsimp only at k1 k2 k3 k4 ⊢
          subst k1
          rw [m_fishes (hM i4 k4), hw.1.f, Option.bind_some, shl1n _ (by omega), if_neg (nI_nlt (Nat.le_refl _) (by omega))]
          refine tt_some ⟨fun k hk m hm => ?_, k4⟩
          by_cases e : k = q + 1
          · subst e; exact k2 m hm
          · exact k3 k (by omega) m hm
        · rintro i4 ⟨k1, k2⟩
          refine tt_some ⟨?_, k1, k2⟩
          show nI (ny S - (q + 1)) + (-1 : Int32) = nI (ny S - (q + 1)) - 1
          rw [addm]
      · rintro ⟨z, i3⟩ ⟨g1, g2, g3⟩
        dsimp only at g1 g2 g3 ⊢
        subst g1
        rw [if_pos ((dn_neg2 (by omega)).mpr (by omega))]
        exact tt_some ⟨g2, g3⟩
      · intro k hk m hm
        show i2 1654 (256 * (ny S - k) + m) = _
        rw [show k = 0 by omega]
        exact e2 m (by omega)
      rintro i3 ⟨g2, g3⟩
      have hfq : ∀ i' : MI, (∀ b j, b ≠ 1646 → i' b j = i3 b j) → fq (wr i 1638 0 0) i' ∧ i' 1638 0 = 0 := fun i' he => ⟨⟨fun b j hb => (he b j (by omega)).trans (g3 b j (by omega) (by omega)), fun j _ => (he 1638 j (by decide)).trans (g3 1638 j (by decide) (by decide))⟩, (he 1638 0 (by decide)).trans ((g3 1638 0 (by decide) (by decide)).trans wr_s)⟩
      by_cases hx1 : x = -1
      · obtain ⟨a1, a2⟩ := hfq i3 (fun _ _ _ => rfl)
        have g20 : i3 1654 0 = bsl S L (ny S) 0 := by
          have := g2 (ny S) (Nat.le_refl _) 0 (Nat.two_pow_pos _)
          rw [Nat.sub_self] at this
          exact this
        rw [if_pos hx1, if_pos hx1]
        exact tt_some (mo_ok a1 a2 g20)
      · have ho := hx.resolve_left hx1
        rw [if_neg hx1, if_neg hx1, if_pos ho]
        obtain ⟨b, hb, rfl⟩ := okx_of (by omega) ho
        refine tt_bind (P1 := fun s => s.1 = scf S L b (smk S L b) ∧ ∀ b j, b ≠ 1646 → s.2 b j = i3 b j)
          (tt_loop (fun q (s : Int32 × Int32 × Int32 × MI) => s.1 = nI (smk S L q) ∧ (q = b + 1 → s.2.1 = scf S L b (smk S L b)) ∧ s.2.2.1 = nI q ∧ ∀ b j, b ≠ 1646 → s.2.2.2 b j = i3 b j) (b + 1) (by omega) ?_ ?_ ⟨rfl, fun q => by omega, rfl, fun _ _ _ => rfl⟩) ?_
        · rintro q hq ⟨x2, x3, x4, i4⟩ ⟨k1, k2, k3, k4⟩
          dsimp only at k1 k2 k3 k4 ⊢
          subst k1 k3
          have hqy : q < ny S := by omega
          have hmk := smk_lt (L := L) hw.1 q (by omega)
          rw [if_neg (nI_nlt (by omega) (by omega))]
          refine tt_bind (P1 := fun s => s.1 = scf S L q (smk S L q) ∧ ∀ b j, b ≠ 1646 → s.2 b j = i3 b j)
            (tt_loop (fun j (s : Int32 × MI) => s.1 = nI j - 1 ∧ (1 ≤ j → ¬ bsl S L (ny S - (q + 1)) (smk S L q) = bsl S L (ny S - q) (smk S L q)) ∧ (∀ g, g + 1 < j → scp S L q (smk S L q) g = false) ∧ ∀ b j, b ≠ 1646 → s.2 b j = i3 b j) (nf S + 1) (by omega) ?_ ?_ ⟨rfl, fun q => by omega, fun g hg => by omega, k4⟩) ?_
          · rintro j hj ⟨x3, i5⟩ ⟨u1, u2, u3, u4⟩
            dsimp only at u1 u2 u3 u4 ⊢
            have hM5 : ∀ b j, b ≠ 1646 → b ≠ 1654 → i5 b j = wr i 1638 0 0 b j := fun b j hb hb2 => (u4 b j hb).trans (g3 b j hb hb2)
            have hR : ∀ m, m < 2 ^ nf S → i5 1654 (256 * (q + 1) + m) = bsl S L (ny S - (q + 1)) m := fun m hm => by
              rw [u4 _ _ (by decide)]
              have := g2 (ny S - (q + 1)) (by omega) m hm
              rw [show ny S - (ny S - (q + 1)) = q + 1 by omega] at this
              exact this
            have hR0 : i5 1654 (256 * q + smk S L q) = bsl S L (ny S - q) (smk S L q) := by
              rw [u4 _ _ (by decide)]
              have := g2 (ny S - q) (by omega) (smk S L q) hmk
              rw [show ny S - (ny S - q) = q by omega] at this
              exact this
            have hsc := scf_lt (L := L) (m := smk S L q) hw.1 hqy
            cases j with
            | zero =>
              have ex : x3 = -1 := u1.trans (by decide)
              subst ex
              rw [m_paidNo (R := bsl S L (ny S - (q + 1))) (by omega) (by omega) (hR _ hmk), Option.bind_some]
              dsimp only
              rw [mo_paidAt (by omega), Option.bind_some, grd_nI (show 256 * q + smk S L q < 1536 by omega) (by decide), ix_nI (by omega)]
              rcases hsc with ⟨e, e2⟩ | ⟨e, -⟩
              · refine tt_ifp (by rw [hR0]; exact e) ?_
                exact tt_some ⟨e2.symm, u4⟩
              · refine tt_ifn (by rw [hR0]; exact e) ?_
                exact tt_some ⟨by show (-1 : Int32) + 1 = nI (0 + 1) - 1; decide, fun _ => e, fun g hg => by omega, u4⟩
            | succ f =>
              have ex : x3 = nI f := by rw [u1, nI_pred]
              subst ex
              have e := u2 (by omega)
              refine tt_bind (m_paidIf hw.1 (hM i5 hM5) hL (hMl i5 hM5) hqy (show f < nf S by omega) hmk hR) ?_
              rintro ⟨v, i6⟩ ⟨w1, w2⟩
              dsimp only at w1 w2 ⊢
              subst w1
              rw [mo_paidAt (by omega), Option.bind_some, grd_nI (show 256 * q + smk S L q < 1536 by omega) (by decide), ix_nI (by omega)]
              have hiff : pdv S L q (smk S L q) (bsl S L (ny S - (q + 1))) f = bsl S L (ny S - q) (smk S L q) ↔ scp S L q (smk S L q) f = true := by
                unfold pdv scp
                by_cases c : (aM S L q (smk S L q)).testBit f = true
                · rw [if_pos c, c, Bool.true_and, decide_eq_true_eq]
                · rw [if_neg c, Bool.eq_false_iff.mpr c, Bool.false_and]
                  exact ⟨fun q2 => absurd q2 (ne_m1 (bsl_ge _ _)), fun q2 => absurd q2 (by decide)⟩
              by_cases c : scp S L q (smk S L q) f = true
              · refine tt_ifp (by rw [w2 _ _ (by decide), hR0]; exact hiff.mpr c) ?_
                refine tt_some ⟨?_, fun b j hb => (w2 b j hb).trans (u4 b j hb)⟩
                rcases hsc with ⟨e2, -⟩ | ⟨-, f', hf', e2, e3, e4⟩
                · exact absurd e2 e
                · show nI f = scf S L q (smk S L q)
                  rw [e2]
                  congr 1
                  rcases Nat.lt_trichotomy f f' with hl | hl | hl
                  · rw [e4 f hl] at c; exact absurd c (by decide)
                  · exact hl
                  · rw [u3 f' (by omega)] at e3; exact absurd e3 (by decide)
              · refine tt_ifn (by rw [w2 _ _ (by decide), hR0]; exact fun q2 => c (hiff.mp q2)) ?_
                refine tt_some ⟨by show nI f + 1 = nI (f + 1 + 1) - 1; rw [nI_pred, nI_1], fun _ => e, fun g hg => ?_, fun b j hb => (w2 b j hb).trans (u4 b j hb)⟩
                by_cases e5 : g = f
                · subst e5; exact Bool.eq_false_iff.mpr c
                · exact u3 g (by omega)
          · rintro ⟨x3, i5⟩ ⟨u1, u2, u3, u4⟩
            exfalso
            rcases scf_lt (L := L) (m := smk S L q) hw.1 hqy with ⟨e2, -⟩ | ⟨-, f', hf', e2, e3, e4⟩
            · exact u2 (by omega) e2
            · rw [u3 f' (by omega)] at e3; exact absurd e3 (by decide)
          · rintro ⟨v, i5⟩ ⟨u1, u2⟩
            dsimp only at u1 u2 ⊢
            subst u1
            refine tt_bind (P1 := fun v => nI (smk S L q) ||| v = nI (smk S L (q + 1))) ?_ ?_
            · show Tt _ (fun v => nI (smk S L q) ||| v = nI (if scf S L q (smk S L q) = -1 then smk S L q else setb (smk S L q) (ix (scf S L q (smk S L q)))))
              rcases scf_lt (L := L) (m := smk S L q) hw.1 hqy with ⟨-, e⟩ | ⟨-, f, hf, e, -⟩
              · rw [if_pos e, if_pos e]; exact tt_some (or_0 _)
              · rw [e, if_neg (nI_m1 (by omega)), if_neg (nI_m1 (by omega)), ix_nI (by omega)]
                exact tt_some (or_setb (by omega))
            · rintro v hv
              exact tt_some ⟨hv, fun e => by have : q = b := by omega
                                             subst this; rfl, nI_1 q, u2⟩
        · rintro ⟨x2, x3, x4, i4⟩ ⟨k1, k2, k3, k4⟩
          dsimp only at k1 k2 k3 k4 ⊢
          subst k3
          rw [if_pos (nI_lt (by omega) (by omega))]
          exact tt_some ⟨k2 rfl, k4⟩
        · rintro ⟨v, i4⟩ ⟨k1, k4⟩
          dsimp only at k1 k4 ⊢
          obtain ⟨a1, a2⟩ := hfq i4 k4
          rw [ix_nI (by omega)]
          exact tt_some (mo_ok a1 a2 k1)
  · have hx1 : ¬ x = -1 := fun q => hx (Or.inl q)
    have ho : ¬ okx x (ny S) = true := fun q => hx (Or.inr q)
    rw [if_neg hx1, if_neg hx1, if_neg ho, m_noBuyer hw.1 h1, Option.bind_some, if_neg ho, if_neg (show ¬ (1 : Int32) = 0 by decide), Option.bind_some, thr1, Option.bind_some]
    dsimp only
    rw [if_neg (by decide)]
    exact tt_some (mo_err (by decide) (fq_t (fq.refl i) 0))
end SALE
