/-! ===== the lines of the waters: the class ===== -/
def fr1 (R : Nat) (i i' : MI) : Prop := ∀ b j, b ≠ R → ¬ (b = 1595 ∧ (j = 4 ∨ j = 5 ∨ j = 6)) → i' b j = i b j
section SEAD
variable {t : MT} {i : MI} {n : Nat} {T : Nat → Int32} {S : SS} {R : Nat}
theorem ft.fr1 {i i' : MI} (h : ft i i') : fr1 R i i' := fun b j _ hb => h b j hb
theorem fr1.trans {i j k : MI} (h : fr1 R i j) (h2 : ft j k) : fr1 R i k := fun b q h1 hb => (h2 b q hb).trans (h b q h1 hb)
theorem fr1.w {i j : MI} (h : fr1 R i j) (k : Nat) (v : Int32) : fr1 R i (wr j R k v) := fun b q h1 h2 => by rw [wr_a h1]; exact h b q h1 h2
theorem fr1.fxs {i j : MI} (h : fr1 R i j) (hR : 1038 ≤ R ∧ R < 1069) : fxs i j := fun b q h1 h2 => h b q (by omega) h2
theorem SV.fr1 {i' : MI} (h : SV t i) (he : fr1 R i i') (hR : 1038 ≤ R ∧ R < 1069) : SV t i' := h.fxs (he.fxs hR)
def bse (i i17 : MI) (R : Nat) : MI := fun b j => if b = R then i b j else i17 b j
theorem bse_cv {i17 : MI} (hv : CV i 1038 S) (hc : Cnt S) (hf : fr1 R i i17) : CV (bse i i17 R) 1038 S := hv.congr (fun b j h1 h2 => by
  unfold bse
  by_cases e : b = R
  · rw [if_pos e]
  · rw [if_neg e]; exact hf b j e (by omega)) hc
theorem v_rBoat (hS : SV t i) (hn : n ≤ 400) {s : Nat} (hs : tks n T s) (h : TK i n T s) (hw : Wf S) (hv : CV i 1038 S) (h3 : nb S < 3) (hwd : wd n T 32 s = true) : Tt (f_Sx_readBoat t i 1038) (CPl n T i (rBoat n T S (nw n T s))) := by
  have hed : ed n T s = le n T s := wd_ed (k := 15) (by decide) hs.1 hwd
  unfold f_Sx_readBoat rBoat
  refine tt_bind (v_step hn hs.1 h) ?_
  rintro i1 ⟨a1, a2⟩
  rw [hed] at a1
  have hR : 1038 ≤ 1038 + 12 + nb S ∧ 1038 + 12 + nb S < 1069 := by omega
  have hb1 : i1 1038 8 = nI (nb S) := (a2 _ _ (by omega)).trans (hv.1.2.1.trans hw.1.b)
  have f1 : fr1 (1038 + 12 + nb S) i i1 := a2.fr1
  rw [hb1, grd_nI h3 (by decide), ix_nI (by omega)]
  refine tt_bind (v_need (k := 16) (hS.ft a2) hn (by decide) (tks_nw hs.1) a1) ?_
  rintro ⟨v, i4⟩ hx
  dsimp only at hx ⊢
  rcases hx.symm with ⟨ek, rfl, c1, c2⟩ | ⟨ek, tq1, rfl, c1, c2⟩
  · rw [show nwd n T 34 (nw n T s) = _ from ek, bd_l]; exact tt_some ⟨rfl, c1, (f1.fxs hR).e c2⟩
  rw [show nwd n T 34 (nw n T s) = _ from ek, bd_r]
  dsimp only
  have f4 := f1.trans c2
  refine tt_bind (v_number hn (lo := 1) (hi := 9) (by decide) (by decide) tq1.1 c1) ?_
  rintro ⟨v, i7⟩ hx
  dsimp only at hx ⊢
  rcases hx.symm with ⟨ek, rfl, d1, d2⟩ | ⟨z, q2, ek, tq2, z1, z9, rfl, d1, d2⟩
  · rw [ek, bd_l]; exact tt_some ⟨rfl, d1, (f4.fxs hR).e d2⟩
  rw [ek, bd_r]
  dsimp only
  have f7 := (f4.trans d2).w 2 (nI z)
  have d3 := d1.wr hR.2 2 (nI z)
  have r2 : wr i7 (1038 + 12 + nb S) 2 (nI z) (1038 + 12 + nb S) 2 = nI z := wr_s
  refine tt_bnd ?_
  generalize wr i7 (1038 + 12 + nb S) 2 (nI z) = i9 at f7 d3 r2
  refine tt_bind (v_tno (k := 12) (hi := 24) (hS.fr1 f7 hR) hn (by decide) (by decide) tq2 d3 0) ?_
  rintro ⟨v, i11⟩ hx
  dsimp only at hx ⊢
  rcases hx.symm with ⟨e, ek, rfl, l1, l2⟩ | ⟨c, q3, ek, hc, tq3, rfl, l1, l2⟩
  · rw [show tno n T 26 24 0 q2 = _ from ek, bd_l]; exact tt_some ⟨rfl, l1, (f7.fxs hR).e l2⟩
  rw [show tno n T 26 24 0 q2 = _ from ek, bd_r]
  dsimp only
  have f11 := (f7.trans l2).w 0 c
  have l3 := l1.wr hR.2 0 c
  have r2' : wr i11 (1038 + 12 + nb S) 0 c (1038 + 12 + nb S) 2 = nI z := by rw [wr_k (by decide), l2 _ _ (by omega)]; exact r2
  have r0' : wr i11 (1038 + 12 + nb S) 0 c (1038 + 12 + nb S) 0 = c := wr_s
  refine tt_bnd ?_
  generalize wr i11 (1038 + 12 + nb S) 0 c = i13 at f11 l3 r2' r0'
  refine tt_bind (v_tno (k := 17) (hi := 24) (hS.fr1 f11 hR) hn (by decide) (by decide) tq3 l3 (-1)) ?_
  rintro ⟨v, i15⟩ hx
  dsimp only at hx ⊢
  rcases hx.symm with ⟨e, ek, rfl, m1, m2⟩ | ⟨hd, q4, ek, hh, tq4, rfl, m1, m2⟩
  · rw [show tno n T 36 24 (-1) q3 = _ from ek, bd_l]; exact tt_some ⟨rfl, m1, (f11.fxs hR).e m2⟩
  rw [show tno n T 36 24 (-1) q3 = _ from ek, bd_r]
  dsimp only
  have f15 := (f11.trans m2).w 1 hd
  refine tt_bnd ?_
  have r2'' : wr i15 (1038 + 12 + nb S) 1 hd (1038 + 12 + nb S) 2 = nI z := by rw [wr_k (by decide), m2 _ _ (by omega)]; exact r2'
  have r0'' : wr i15 (1038 + 12 + nb S) 1 hd (1038 + 12 + nb S) 0 = c := by rw [wr_k (by decide), m2 _ _ (by omega)]; exact r0'
  have r1'' : wr i15 (1038 + 12 + nb S) 1 hd (1038 + 12 + nb S) 1 = hd := wr_s
  have m3 := m1.wr hR.2 1 hd
  generalize wr i15 (1038 + 12 + nb S) 1 hd = i17 at f15 r2'' r0'' r1'' m3
  have e8 : i17 1038 8 = nI (nb S) := (f15 _ _ (by omega) (by omega)).trans (hv.1.2.1.trans hw.1.b)
  rw [e8, nI_1]
  have hwf : Wf (sbo S c hd (nI z)) := Wf_sbo hw h3 (by rcases hc with rfl | ⟨m, hm, rfl⟩
                                                        · exact ⟨0, by omega, rfl⟩
                                                        · exact ⟨m, by omega, rfl⟩) (by rcases hh with rfl | ⟨m, hm, rfl⟩
                                                                                        · exact Or.inl rfl
                                                                                        · exact Or.inr ⟨m, by omega, rfl⟩) ⟨z, z1, z9, rfl⟩
  refine tt_bnd (tt_some ⟨rfl, hwf, ?_, m3.wr (by decide) 8 _, tq4, fun b j h1 h2 => ?_⟩)
  · show CV (wr i17 1038 8 (nI (nb S + 1))) 1038 _
    refine CV_sbo (i := bse i i17 (1038 + 12 + nb S)) (bse_cv hv hw.1 f15) h3 (fun b j hb hb2 => ?_) ?_ ?_ ?_ ?_ hw.1
    · have : wr i17 1038 8 (nI (nb S + 1)) b j = i17 b j := if_neg hb2
      rw [this]
      exact (if_neg hb).symm
    · exact wr_s
    · rw [wr_a (by omega)]; exact r0''
    · rw [wr_a (by omega)]; exact r1''
    · rw [wr_a (by omega)]; exact r2''
  · show wr i17 1038 8 (nI (nb S + 1)) b j = _
    rw [wr_a (by omega)]; exact f15 b j (by omega) h2
theorem v_rBuyer (hS : SV t i) (hn : n ≤ 400) {s : Nat} (hs : tks n T s) (h : TK i n T s) (hw : Wf S) (hv : CV i 1038 S) (h3 : ny S < 5) (hwd : wd n T 38 s = true) : Tt (f_Sx_readBuyer t i 1038) (CPl n T i (rBuyer n T S (nw n T s))) := by
  have hed : ed n T s = le n T s := wd_ed (k := 18) (by decide) hs.1 hwd
  unfold f_Sx_readBuyer rBuyer
  refine tt_bind (v_step hn hs.1 h) ?_
  rintro i1 ⟨a1, a2⟩
  rw [hed] at a1
  have hR : 1038 ≤ 1038 + 16 + ny S ∧ 1038 + 16 + ny S < 1069 := by omega
  have hb1 : i1 1038 9 = nI (ny S) := (a2 _ _ (by omega)).trans (hv.1.2.2.1.trans hw.1.y)
  have f1 : fr1 (1038 + 16 + ny S) i i1 := a2.fr1
  rw [hb1, grd_nI h3 (by decide), ix_nI (by omega)]
  refine tt_bind (v_kndw (hS.ft a2) hn (tks_nw hs.1) a1) ?_
  rintro ⟨v, i4⟩ hx
  dsimp only at hx ⊢
  rcases hx.symm with ⟨ek, rfl, c1, c2⟩ | ⟨k, q1, ek, k4, tq1, rfl, c1, c2⟩
  · rw [ek, bd_l]; exact tt_some ⟨rfl, c1, (f1.fxs hR).e c2⟩
  rw [ek, bd_r]
  dsimp only
  have f4 := (f1.trans c2).w 0 (nI k)
  have c3 := c1.wr hR.2 0 (nI k)
  have r0 : wr i4 (1038 + 16 + ny S) 0 (nI k) (1038 + 16 + ny S) 0 = nI k := wr_s
  refine tt_bnd ?_
  generalize wr i4 (1038 + 16 + ny S) 0 (nI k) = i7 at f4 c3 r0
  refine tt_bind (v_need (k := 19) (hS.fr1 f4 hR) hn (by decide) tq1 c3) ?_
  rintro ⟨v, i8⟩ hx
  dsimp only at hx ⊢
  rcases hx.symm with ⟨ek, rfl, d1, d2⟩ | ⟨ek, tq2, rfl, d1, d2⟩
  · rw [show nwd n T 40 q1 = _ from ek, bd_l]; exact tt_some ⟨rfl, d1, (f4.fxs hR).e d2⟩
  rw [show nwd n T 40 q1 = _ from ek, bd_r]
  dsimp only
  have f8 := f4.trans d2
  refine tt_bind (v_number hn (lo := 0) (hi := 999) (by decide) (by decide) tq2.1 d1) ?_
  rintro ⟨v, i11⟩ hx
  dsimp only at hx ⊢
  rcases hx.symm with ⟨ek, rfl, e1, e2⟩ | ⟨m, q3, ek, tq3, -, m9, rfl, e1, e2⟩
  · rw [ek, bd_l]; exact tt_some ⟨rfl, e1, (f8.fxs hR).e e2⟩
  rw [ek, bd_r]
  dsimp only
  have f11 := (f8.trans e2).w 1 (nI m)
  have e3 := e1.wr hR.2 1 (nI m)
  have r0' : wr i11 (1038 + 16 + ny S) 1 (nI m) (1038 + 16 + ny S) 0 = nI k := by rw [wr_k (by decide), e2 _ _ (by omega), d2 _ _ (by omega)]; exact r0
  have r1' : wr i11 (1038 + 16 + ny S) 1 (nI m) (1038 + 16 + ny S) 1 = nI m := wr_s
  refine tt_bnd ?_
  generalize wr i11 (1038 + 16 + ny S) 1 (nI m) = i13 at f11 e3 r0' r1'
  refine tt_bind (v_tno (k := 20) (hi := 99) (hS.fr1 f11 hR) hn (by decide) (by decide) tq3 e3 0) ?_
  rintro ⟨v, i15⟩ hx
  dsimp only at hx ⊢
  rcases hx.symm with ⟨e, ek, rfl, l1, l2⟩ | ⟨l, q4, ek, hl, tq4, rfl, l1, l2⟩
  · rw [show tno n T 42 99 0 q3 = _ from ek, bd_l]; exact tt_some ⟨rfl, l1, (f11.fxs hR).e l2⟩
  rw [show tno n T 42 99 0 q3 = _ from ek, bd_r]
  dsimp only
  have f15 := (f11.trans l2).w 2 l
  have l3 := l1.wr hR.2 2 l
  have r0'' : wr i15 (1038 + 16 + ny S) 2 l (1038 + 16 + ny S) 0 = nI k := by rw [wr_k (by decide), l2 _ _ (by omega)]; exact r0'
  have r1'' : wr i15 (1038 + 16 + ny S) 2 l (1038 + 16 + ny S) 1 = nI m := by rw [wr_k (by decide), l2 _ _ (by omega)]; exact r1'
  have r2'' : wr i15 (1038 + 16 + ny S) 2 l (1038 + 16 + ny S) 2 = l := wr_s
  refine tt_bnd ?_
  generalize wr i15 (1038 + 16 + ny S) 2 l = i17 at f15 l3 r0'' r1'' r2''
  refine tt_bind (v_tno (k := 21) (hi := 100) (hS.fr1 f15 hR) hn (by decide) (by decide) tq4 l3 50) ?_
  rintro ⟨v, i19⟩ hx
  dsimp only at hx ⊢
  rcases hx.symm with ⟨e, ek, rfl, p1, p2⟩ | ⟨u, q5, ek, hu, tq5, rfl, p1, p2⟩
  · rw [show tno n T 44 100 50 q4 = _ from ek, bd_l]; exact tt_some ⟨rfl, p1, (f15.fxs hR).e p2⟩
  rw [show tno n T 44 100 50 q4 = _ from ek, bd_r]
  dsimp only
  have f19 := (f15.trans p2).w 3 u
  have p3 := p1.wr hR.2 3 u
  have s0 : wr i19 (1038 + 16 + ny S) 3 u (1038 + 16 + ny S) 0 = nI k := by rw [wr_k (by decide), p2 _ _ (by omega)]; exact r0''
  have s1 : wr i19 (1038 + 16 + ny S) 3 u (1038 + 16 + ny S) 1 = nI m := by rw [wr_k (by decide), p2 _ _ (by omega)]; exact r1''
  have s2 : wr i19 (1038 + 16 + ny S) 3 u (1038 + 16 + ny S) 2 = l := by rw [wr_k (by decide), p2 _ _ (by omega)]; exact r2''
  have s3 : wr i19 (1038 + 16 + ny S) 3 u (1038 + 16 + ny S) 3 = u := wr_s
  refine tt_bnd ?_
  generalize wr i19 (1038 + 16 + ny S) 3 u = i21 at f19 p3 s0 s1 s2 s3
  have e8 : i21 1038 9 = nI (ny S) := (f19 _ _ (by omega) (by omega)).trans (hv.1.2.2.1.trans hw.1.y)
  rw [e8, nI_1]
  have hwf : Wf (syo S (nI k) (nI m) l u) := Wf_syo hw h3 ⟨k, k4, rfl⟩ ⟨m, m9, rfl⟩ (by rcases hl with rfl | ⟨m, hm, rfl⟩
                                                                                        · exact ⟨0, by omega, rfl⟩
                                                                                        · exact ⟨m, by omega, rfl⟩) (by rcases hu with rfl | ⟨m, hm, rfl⟩
                                                                                                                        · exact ⟨50, by omega, rfl⟩
                                                                                                                        · exact ⟨m, by omega, rfl⟩)
  refine tt_bnd (tt_some ⟨rfl, hwf, ?_, p3.wr (by decide) 9 _, tq5, fun b j h1 h2 => ?_⟩)
  · show CV (wr i21 1038 9 (nI (ny S + 1))) 1038 _
    refine CV_syo (i := bse i i21 (1038 + 16 + ny S)) (bse_cv hv hw.1 f19) h3 (fun b j hb hb2 => ?_) ?_ ?_ ?_ ?_ ?_ hw.1
    · have : wr i21 1038 9 (nI (ny S + 1)) b j = i21 b j := if_neg hb2
      rw [this]
      exact (if_neg hb).symm
    · exact wr_s
    · rw [wr_a (by omega)]; exact s0
    · rw [wr_a (by omega)]; exact s1
    · rw [wr_a (by omega)]; exact s2
    · rw [wr_a (by omega)]; exact s3
  · show wr i21 1038 9 (nI (ny S + 1)) b j = _
    rw [wr_a (by omega)]; exact f19 b j (by omega) h2
/-- the words of the kinds are four different ones -/
theorem kd_at {s j : Nat} (hj : j < 4) (h : wd n T (18 + 2 * j) s = true) : kd n T s = j := by
  refine ffs_eq 4 0 j (fun f _ hf => Bool.eq_false_iff.mpr (fun q => ?_)) (Nat.zero_le _) (by omega) (fun _ => h)
  have hne : ∀ a, a < 4 → ∀ b, b < 4 → b < a → wch (2 * (8 + a) + 2) ≠ wch (2 * (8 + b) + 2) := by decide +kernel
  have h' : wd n T (2 * (8 + j) + 2) s = true := by rw [show 2 * (8 + j) + 2 = 18 + 2 * j by omega]; exact h
  refine wd_no (by omega) (by omega) h' (hne j hj f (by omega) hf) ?_
  show wd n T (2 * (8 + f) + 2) s = true
  rw [show 2 * (8 + f) + 2 = 18 + 2 * f by omega]; exact q
theorem kd_wd {s : Nat} (h : kd n T s < 4) : wd n T (18 + 2 * kd n T s) s = true := (ffs_sp (fun j => wd n T (18 + 2 * j) s) 4 0).2.2.2 (by show kd n T s < 0 + 4; omega)
theorem v_other (hS : SV t i) (hn : n ≤ 400) {s m : Nat} (hm : m < 16) (hs : tks n T s) (h : TK i n T s) : Tt (f_Sx_takeOtherKind t i (nI m)) (fun y => (kd n T s < 4 ∧ m.testBit (kd n T s) = false ∧ y.1 = shl 1 (nI (kd n T s)) ∧ TK y.2 n T (nw n T s) ∧ ft i y.2) ∨ (¬ (kd n T s < 4 ∧ m.testBit (kd n T s) = false) ∧ y.1 = 0 ∧ TK y.2 n T s ∧ ft i y.2)) := by
  unfold f_Sx_takeOtherKind
  refine tt_loop (fun j (x : Int32 × MI) => x.1 = nI j ∧ (∀ j', j' < j → m.testBit j' = false → wd n T (18 + 2 * j') s = false) ∧ TK x.2 n T s ∧ ft i x.2) 4 (by omega) ?_ ?_ ⟨rfl, fun j' hj' => by omega, h, ft.refl i⟩
  · rintro j hj ⟨z, i2⟩ ⟨e1, e2, e3, e4⟩
    dsimp only at e1 e2 e3 e4 ⊢
    subst e1
    have hw : f_Sx_kindWord (nI j) = some (2 * (8 + j) + 2) := by
      rcases (by omega : j = 0 ∨ j = 1 ∨ j = 2 ∨ j = 3) with rfl | rfl | rfl | rfl <;> rfl
    rw [lit_nI 4, if_pos (nI_lt hj (by omega))]
    by_cases cb : m.testBit j = true
    · rw [if_neg (fun q => (bit_sh (by omega) (by omega)).mp q cb)]
      refine tt_some ⟨nI_1 j, fun j' hj' hb => ?_, e3, e4⟩
      by_cases e : j' = j
      · subst e; rw [cb] at hb; exact absurd hb (by decide)
      · exact e2 j' (by omega) hb
    · rw [if_pos ((bit_sh (by omega) (by omega)).mpr cb), hw, Option.bind_some]
      refine tt_bind (v_takeWord (hS.ft e4) hn (by omega) hs.1 e3) ?_
      rintro ⟨v, i3⟩ ⟨u1, u2, u3⟩
      dsimp only at u1 u2 u3 ⊢
      subst u1
      by_cases c : wd n T (2 * (8 + j) + 2) s = true
      · have hk := kd_at (n := n) (T := T) hj (by rw [show 18 + 2 * j = 2 * (8 + j) + 2 by omega]; exact c)
        rw [if_pos c] at u2
        rw [if_pos c, if_neg (show ¬ (1 : Int32) = 0 by decide)]
        exact tt_some (Or.inl ⟨by omega, by rw [hk]; exact Bool.eq_false_iff.mpr cb, by rw [hk], u2, e4.trans u3⟩)
      · rw [if_neg c] at u2
        rw [if_neg c, if_pos (show (0 : Int32) = 0 from rfl)]
        refine tt_some ⟨nI_1 j, fun j' hj' hb => ?_, u2, e4.trans u3⟩
        by_cases e : j' = j
        · subst e; rw [show 18 + 2 * j' = 2 * (8 + j') + 2 by omega]; exact Bool.eq_false_iff.mpr c
        · exact e2 j' (by omega) hb
  · rintro ⟨z, i2⟩ ⟨e1, e2, e3, e4⟩
    dsimp only at e1 e2 e3 e4 ⊢
    subst e1
    rw [lit_nI 4, if_neg (nI_nlt (Nat.le_refl _) (by omega))]
    refine tt_some (Or.inr ⟨?_, rfl, e3, e4⟩)
    rintro ⟨q1, q2⟩
    have := kd_wd q1
    rw [e2 _ q1 q2] at this
    exact absurd this (by decide)
theorem dkl_stop {k m s : Nat} (h : ¬ (kd n T s < 4 ∧ m.testBit (kd n T s) = false)) : dkl n T k m s = (m, s) := by
  cases k with
  | zero => rfl
  | succ k => exact if_neg h
theorem dkl_go {k m s : Nat} (h : kd n T s < 4 ∧ m.testBit (kd n T s) = false) : dkl n T (k + 1) m s = dkl n T k (setb m (kd n T s)) (nw n T s) := if_pos h
theorem v_rDead (hS : SV t i) (hn : n ≤ 400) {s : Nat} (hs : tks n T s) (h : TK i n T s) (hw : Wf S) (hv : CV i 1038 S) (h3 : nd S < 6) (hwd : wd n T 46 s = true) : Tt (f_Sx_readDead t i 1038) (CPl n T i (rDead n T S (nw n T s))) := by
  have hed : ed n T s = le n T s := wd_ed (k := 22) (by decide) hs.1 hwd
  unfold f_Sx_readDead rDead
  refine tt_bind (v_step hn hs.1 h) ?_
  rintro i1 ⟨a1, a2⟩
  rw [hed] at a1
  have hR : 1038 ≤ 1038 + 22 + nd S ∧ 1038 + 22 + nd S < 1069 := by omega
  have hb1 : i1 1038 10 = nI (nd S) := (a2 _ _ (by omega)).trans (hv.1.2.2.2.1.trans hw.1.d)
  have f1 : fr1 (1038 + 22 + nd S) i i1 := a2.fr1
  rw [hb1, grd_nI h3 (by decide), ix_nI (by omega)]
  refine tt_bind (v_kndw (hS.ft a2) hn (tks_nw hs.1) a1) ?_
  rintro ⟨v, i4⟩ hx
  dsimp only at hx ⊢
  rcases hx.symm with ⟨ek, rfl, c1, c2⟩ | ⟨k, q1, ek, k4, tq1, rfl, c1, c2⟩
  · rw [ek, bd_l]; exact tt_some ⟨rfl, c1, (f1.fxs hR).e c2⟩
  rw [ek, bd_r]
  dsimp only
  have h2k : 2 ^ k < 16 := show 2 ^ k < 2 ^ 4 from Nat.pow_lt_pow_right (by decide) k4
  rw [shl1n k (by omega)]
  have f4 := (f1.trans c2).w 0 (nI (2 ^ k))
  have c3 := c1.wr hR.2 0 (nI (2 ^ k))
  have r0 : wr i4 (1038 + 22 + nd S) 0 (nI (2 ^ k)) (1038 + 22 + nd S) 0 = nI (2 ^ k) := wr_s
  refine tt_bnd ?_
  generalize wr i4 (1038 + 22 + nd S) 0 (nI (2 ^ k)) = i7 at f4 c3 r0
  refine tt_bind (P1 := fun i' => ∃ m q, dkl n T 3 (2 ^ k) q1 = (m, q) ∧ m < 16 ∧ tks n T q ∧ i' (1038 + 22 + nd S) 0 = nI m ∧ TK i' n T q ∧ fr1 (1038 + 22 + nd S) i i')
    (tt_loop (fun j (x : Int32 × MI) => x.1 = nI (j + 1) ∧ ∃ m q, dkl n T 3 (2 ^ k) q1 = dkl n T (3 - j) m q ∧ m < 16 ∧ tks n T q ∧ x.2 (1038 + 22 + nd S) 0 = nI m ∧ TK x.2 n T q ∧ fr1 (1038 + 22 + nd S) i x.2) 3 (by omega) ?_ ?_ ⟨rfl, 2 ^ k, q1, rfl, h2k, tq1, r0, c3, f4⟩) ?_
  · rintro j hj ⟨z, i8⟩ ⟨e1, m, q, e2, e3, e4, e5, e6, e7⟩
    dsimp only at e1 e5 e6 e7 ⊢
    subst e1
    rw [lit_nI 4, if_pos (nI_lt (by omega) (by omega)), e5]
    refine tt_bind (v_other (hS.fr1 e7 hR) hn e3 e4 e6) ?_
    rintro ⟨v, i9⟩ hx
    dsimp only at hx ⊢
    rcases hx with ⟨g1, g2, rfl, g3, g4⟩ | ⟨g1, rfl, g3, g4⟩
    · rw [or_setb (by omega)]
      refine tt_bnd (tt_some ⟨nI_1 (j + 1), setb m (kd n T q), nw n T q, ?_, setb_ltn (n := 4) e3 g1, tks_nw e4.1, (show wr i9 (1038 + 22 + nd S) 0 (nI (setb m (kd n T q))) (1038 + 22 + nd S) 0 = _ from wr_s), g3.wr hR.2 0 _, (e7.trans g4).w 0 _⟩)
      rw [e2, show 3 - j = (3 - (j + 1)) + 1 by omega, dkl_go ⟨g1, g2⟩]
    · rw [show nI m ||| 0 = nI m from or_0 m]
      refine tt_bnd (tt_some ⟨nI_1 (j + 1), m, q, ?_, e3, e4, (show wr i9 (1038 + 22 + nd S) 0 (nI m) (1038 + 22 + nd S) 0 = _ from wr_s), g3.wr hR.2 0 _, (e7.trans g4).w 0 _⟩)
      rw [e2, dkl_stop g1, dkl_stop g1]
  · rintro ⟨z, i8⟩ ⟨e1, m, q, e2, e3, e4, e5, e6, e7⟩
    dsimp only at e1 e5 e6 e7 ⊢
    subst e1
    rw [lit_nI 4, if_neg (nI_nlt (by omega) (by omega))]
    exact tt_some ⟨m, q, e2, e3, e4, e5, e6, e7⟩
  · rintro i10 ⟨m, q, e2, e3, e4, e5, e6, e7⟩
    rw [e2]
    dsimp only
    refine tt_bind (v_need (k := 23) (hS.fr1 e7 hR) hn (by decide) e4 e6) ?_
    rintro ⟨v, i17⟩ hx
    dsimp only at hx ⊢
    rcases hx.symm with ⟨ek, rfl, d1, d2⟩ | ⟨ek, tq2, rfl, d1, d2⟩
    · rw [show nwd n T 48 q = _ from ek, bd_l]; exact tt_some ⟨rfl, d1, (e7.fxs hR).e d2⟩
    rw [show nwd n T 48 q = _ from ek, bd_r]
    dsimp only
    have f17 := e7.trans d2
    refine tt_bind (v_number hn (lo := 0) (hi := 99) (by decide) (by decide) tq2.1 d1) ?_
    rintro ⟨v, i20⟩ hx
    dsimp only at hx ⊢
    rcases hx.symm with ⟨ek, rfl, g1, g2⟩ | ⟨b9, q3, ek, tq3, -, b99, rfl, g1, g2⟩
    · rw [ek, bd_l]; exact tt_some ⟨rfl, g1, (f17.fxs hR).e g2⟩
    rw [ek, bd_r]
    dsimp only
    have f20 := (f17.trans g2).w 1 (nI b9)
    have g3 := g1.wr hR.2 1 (nI b9)
    have s0 : wr i20 (1038 + 22 + nd S) 1 (nI b9) (1038 + 22 + nd S) 0 = nI m := by rw [wr_k (by decide), g2 _ _ (by omega), d2 _ _ (by omega)]; exact e5
    have s1 : wr i20 (1038 + 22 + nd S) 1 (nI b9) (1038 + 22 + nd S) 1 = nI b9 := wr_s
    refine tt_bnd ?_
    generalize wr i20 (1038 + 22 + nd S) 1 (nI b9) = i22 at f20 g3 s0 s1
    have e8 : i22 1038 10 = nI (nd S) := (f20 _ _ (by omega) (by omega)).trans (hv.1.2.2.2.1.trans hw.1.d)
    rw [e8, nI_1]
    have hwf : Wf (sdo S (nI m) (nI b9)) := Wf_sdo hw h3 ⟨m, e3, rfl⟩ ⟨b9, b99, rfl⟩
    refine tt_bnd (tt_some ⟨rfl, hwf, ?_, g3.wr (by decide) 10 _, tq3, fun b j h1 h2 => ?_⟩)
    · show CV (wr i22 1038 10 (nI (nd S + 1))) 1038 _
      refine CV_sdo (i := bse i i22 (1038 + 22 + nd S)) (bse_cv hv hw.1 f20) h3 (fun b j hb hb2 => ?_) ?_ ?_ ?_ hw.1
      · have : wr i22 1038 10 (nI (nd S + 1)) b j = i22 b j := if_neg hb2
        rw [this]
        exact (if_neg hb).symm
      · exact wr_s
      · rw [wr_a (by omega)]; exact s0
      · rw [wr_a (by omega)]; exact s1
    · show wr i22 1038 10 (nI (nd S + 1)) b j = _
      rw [wr_a (by omega)]; exact f20 b j (by omega) h2
theorem v_rCur (hS : SV t i) (hn : n ≤ 400) {s : Nat} (hs : tks n T s) (h : TK i n T s) (hw : Wf S) (hv : CV i 1038 S) (hwd : wd n T 4 s = true) : Tt (f_Sx_readCurrent t i 1038) (CPl n T i (rCur n T S (nw n T s))) := by
  have hed : ed n T s = le n T s := wd_ed (k := 1) (by decide) hs.1 hwd
  unfold f_Sx_readCurrent rCur
  refine tt_bind (v_step hn hs.1 h) ?_
  rintro i1 ⟨a1, a2⟩
  rw [hed] at a1
  refine tt_bind (v_number hn (lo := 0) (hi := 24) (by decide) (by decide) (tks_nw hs.1).1 a1) ?_
  rintro ⟨v, i3⟩ hx
  dsimp only at hx ⊢
  rcases hx.symm with ⟨ek, rfl, b1, b2⟩ | ⟨c, q1, ek, tq1, -, c24, rfl, b1, b2⟩
  · rw [ek, bd_l]; exact tt_some ⟨rfl, b1, a2.fxs.e b2⟩
  rw [ek, bd_r]
  dsimp only
  have f3 := a2.trans b2
  refine tt_bind (v_way (hS.ft f3) hn tq1 b1) ?_
  rintro ⟨v, i6⟩ hx
  dsimp only at hx ⊢
  rcases hx.symm with ⟨ek, rfl, d1, d2⟩ | ⟨w, q2, ek, w5, tq2, rfl, d1, d2⟩
  · rw [ek, bd_l]; exact tt_some ⟨rfl, d1, f3.fxs.e d2⟩
  rw [ek, bd_r]
  dsimp only
  have f6 := f3.trans d2
  have hv6 : CV i6 1038 S := hv.congr (fun b j hb hb2 => f6 b j (by omega)) hw.1
  rw [grd_nI (show c < 25 by omega) (by decide), ix_nI (by omega), nI_1]
  refine tt_bnd ?_
  refine tt_loop (fun j (x : Int32 × MI) => x.1 = nI (c + 1 + j) ∧ ∃ S1 q, rCl n T (25 - c) (c + 1) (su S 1 0 c (nI w)) q2 = rCl n T (25 - c - j) (c + 1 + j) S1 q ∧ Wf S1 ∧ CV x.2 1038 S1 ∧ TK x.2 n T q ∧ tks n T q ∧ fxs i x.2) (25 - c) (by omega) ?_ ?_ ⟨rfl, su S 1 0 c (nI w), q2, rfl, wf_cur hw w5, hv6.cur hw.1 (show c < 25 by omega) (nI w), d1.wr (by decide) c (nI w), tq2, f6.fxs.w (by omega) c (nI w)⟩
  · rintro j hj ⟨z, i8⟩ ⟨e1, S1, q, e2, e3, e4, e5, e6, e7⟩
    dsimp only at e1 e4 e5 e7 ⊢
    subst e1
    have es : rCl n T (25 - c - j) (c + 1 + j) S1 q = if q < n ∧ srt (T q) = 1 then (if c + 1 + j = 25 then .inl q else bd (wyr n T q) fun w s1 => rCl n T (25 - c - (j + 1)) (c + 1 + j + 1) (su S1 1 0 (c + 1 + j) (nI w)) s1) else .inr (S1, q) := by
      rw [show 25 - c - j = (25 - c - (j + 1)) + 1 by omega]; rfl
    rw [if_neg (show ¬ (25 : Int32) < nI (c + 1 + j) from nI_nlt (a := 25) (by omega) (by omega))]
    by_cases cl : ¬ q = n ∧ srt (T q) = 1
    · rw [if_pos (show q < n ∧ srt (T q) = 1 from ⟨by have := e6.1; omega, cl.2⟩)] at es
      rw [if_pos (show i8 1595 4 = 1 from (e5.sort 1 (by decide) (by decide)).mpr cl)]
      by_cases c25 : c + 1 + j = 25
      · rw [if_pos c25] at es
        rw [if_pos (show nI (c + 1 + j) = 25 by rw [c25]; rfl), v_refuse e5, Option.bind_some, Option.bind_some]
        refine tt_some ?_
        show CPl n T i _ _
        rw [e2, es]
        exact ⟨rfl, (show wr i8 1595 2 (nI q) 1595 2 = _ from wr_s), e7.e fe_ref⟩
      · rw [if_neg c25] at es
        rw [if_neg (show ¬ nI (c + 1 + j) = 25 from fun e => c25 ((nI_inj (by omega) (by decide)).mp (e.trans (lit_nI 25))))]
        refine tt_bind (P1 := fun x => (∃ w q', wyr n T q = .inr (w, q') ∧ w < 5 ∧ tks n T q' ∧ ∃ i9, x = .inl (wr i9 (1038 + 1) (c + 1 + j) (nI w)) ∧ TK i9 n T q' ∧ ft i8 i9) ∨ (wyr n T q = .inl q ∧ ∃ i9, x = .inr (.inr 20, i9) ∧ i9 1595 2 = nI q ∧ fe i8 i9)) ?_ ?_
        · refine tt_bind (v_way (hS.fxs e7) hn e6 e5) ?_
          rintro ⟨v, i9⟩ hx
          dsimp only at hx ⊢
          rcases hx.symm with ⟨ek, rfl, g1, g2⟩ | ⟨w', q', ek, w5', tq', rfl, g1, g2⟩
          · exact tt_some (Or.inr ⟨ek, i9, rfl, g1, g2⟩)
          · dsimp only
            rw [grd_nI (show c + 1 + j < 25 by omega) (by decide), ix_nI (by omega)]
            exact tt_bnd (tt_some (Or.inl ⟨w', q', ek, w5', tq', i9, rfl, g1, g2⟩))
        · rintro x (⟨w', q', ek, w5', tq', i9, rfl, g1, g2⟩ | ⟨ek, i9, rfl, g1, g2⟩)
          · dsimp only
            rw [ek, bd_r] at es
            have hv9 : CV i9 1038 S1 := e4.congr (fun b j hb hb2 => g2 b j (by omega)) e3.1
            exact tt_some ⟨nI_1 _, su S1 1 0 (c + 1 + j) (nI w'), q', by rw [e2, es]; rfl, wf_cur e3 w5', hv9.cur e3.1 (show c + 1 + j < 25 by omega) (nI w'), g1.wr (by decide) _ _, tq', (e7.trans g2.fxs).w (by omega) _ _⟩
          · dsimp only
            rw [ek, bd_l] at es
            refine tt_some ?_
            show CPl n T i _ _
            rw [e2, es]
            exact ⟨rfl, g1, e7.e g2⟩
    · rw [if_neg (show ¬ (q < n ∧ srt (T q) = 1) from fun a => cl ⟨by omega, a.2⟩)] at es
      rw [if_neg (show ¬ i8 1595 4 = 1 from fun a => cl ((e5.sort 1 (by decide) (by decide)).mp a))]
      refine tt_some ?_
      show CPl n T i _ _
      rw [e2, es]
      exact ⟨rfl, e3, e4, e5, e6, e7⟩
  · rintro ⟨z, i8⟩ ⟨e1, S1, q, e2, e3, e4, e5, e6, e7⟩
    dsimp only at e1 e4 e5 e7 ⊢
    subst e1
    rw [if_pos (show (25 : Int32) < nI (c + 1 + (25 - c)) from nI_lt (a := 25) (by omega) (by omega))]
    refine tt_some ?_
    show CPl n T i _ _
    rw [e2, show 25 - c - (25 - c) = 0 by omega]
    exact ⟨rfl, e3, e4, e5, e6, e7⟩
end SEAD
