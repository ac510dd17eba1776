/-! ===== law: the class's lines, read ===== -/
/-- a line j leaves alone -/
def flj (j : Nat) (i i' : MI) : Prop := ∀ b k, ¬ (b = 1595 ∧ (k = 4 ∨ k = 5 ∨ k = 6)) → ¬ (b = 1598 ∧ k = 6) → b ≠ 1602 → ¬ (b = 1599 ∧ k = j) → ¬ (b = 1600 ∧ k = j) → ¬ (b = 1601 ∧ k = j + 1) → i' b k = i b k
/-- what stays when a line is wrong -/
def flz (i i' : MI) : Prop := (∀ b k, ¬ (b = 1595 ∧ (k = 2 ∨ k = 4 ∨ k = 5 ∨ k = 6)) → b ≠ 1598 → (b < 1599 ∨ 1603 ≤ b) → i' b k = i b k) ∧ i' 1601 0 = i 1601 0
def fls (i i' : MI) : Prop := (∀ b k, ¬ (b = 1595 ∧ (k = 4 ∨ k = 5 ∨ k = 6)) → b ≠ 1598 → (b < 1599 ∨ 1603 ≤ b) → i' b k = i b k) ∧ i' 1601 0 = i 1601 0
/-- the class's rows of the first x lines -/
def TIc (i : MI) (x : Nat) (L : LTb) : Prop := i 1601 0 = 0 ∧ ∀ k, k < x → i 1599 k = (L.1 k).1 ∧ i 1600 k = (L.1 k).2.1 ∧ i 1601 (k + 1) = nI (L.1 k).2.2
section LAWF
variable {t : MT} {i : MI} {n : Nat} {T : Nat → Int32} {c : Cd}
theorem fl.flj {j : Nat} {i i' : MI} (h : fl i i') : flj j i i' := fun b k h1 h2 h3 _ _ _ => h b k h1 h2 h3
theorem flj.trans {j : Nat} {i i1 i2 : MI} (h : flj j i i1) (h2 : flj j i1 i2) : flj j i i2 := fun b k q1 q2 q3 q4 q5 q6 => (h2 b k q1 q2 q3 q4 q5 q6).trans (h b k q1 q2 q3 q4 q5 q6)
theorem flj.fls {j : Nat} {i i' : MI} (h : flj j i i') : fls i i' := ⟨fun b k q1 q2 q3 => h b k q1 (by omega) (by omega) (by omega) (by omega) (by omega), h _ _ (by omega) (by omega) (by omega) (by omega) (by omega) (by omega)⟩
theorem flj.z {j : Nat} {i i1 i2 : MI} (h : flj j i i1) (h2 : fle i1 i2) : flz i i2 := ⟨fun b k q1 q2 q3 => (h2 b k q1 (by omega) (by omega)).trans (h b k (by omega) (by omega) (by omega) (by omega) (by omega) (by omega)), (h2 _ _ (by omega) (by omega) (by omega)).trans (h _ _ (by omega) (by omega) (by omega) (by omega) (by omega) (by omega))⟩
theorem fls.trans {i i1 i2 : MI} (h : fls i i1) (h2 : fls i1 i2) : fls i i2 := ⟨fun b k q1 q2 q3 => (h2.1 b k q1 q2 q3).trans (h.1 b k q1 q2 q3), h2.2.trans h.2⟩
theorem fls.z {i i1 i2 : MI} (h : fls i i1) (h2 : flz i1 i2) : flz i i2 := ⟨fun b k q1 q2 q3 => (h2.1 b k q1 q2 q3).trans (h.1 b k (by omega) q2 q3), h2.2.trans h.2⟩
theorem ft.fls {i i' : MI} (h : ft i i') : fls i i' := ⟨fun b k q1 _ _ => h b k q1, h _ _ (by omega)⟩
theorem fe.flz {i i' : MI} (h : fe i i') : flz i i' := ⟨fun b k q1 _ _ => h b k q1, h _ _ (by omega)⟩
theorem KCd.keep {i' : MI} (h : KCd i c) (he : ∀ b k, (b = 1598 ∧ k = 6) ∨ b = 1602 → i' b k = i b k) : KCd i' c := ⟨(he _ _ (Or.inl ⟨rfl, rfl⟩)).trans h.1, fun k hk => (he _ _ (Or.inr rfl)).trans (h.2 k hk)⟩
theorem v_line1 (hS : SV t i) (hn : n ≤ 400) {s j : Nat} (hs : tks n T s) (h : TK i n T s) (hc : KCd i c) (hl : c.1 ≤ s) (hj : j < 12) (h5 : i 1598 5 = nI j) : Tt (f_Lt_line1 t i) (fun z => match rLaw1 n T s c with
    | .inl e => ∃ i', z = .inr (.inr 20, i') ∧ i' 1595 2 = nI e ∧ flz i i'
    | .inr p => ∃ i', z = .inl i' ∧ TK i' n T p.1 ∧ KCd i' p.2.2 ∧ i' 1599 j = p.2.1.1 ∧ i' 1600 j = p.2.1.2.1 ∧ i' 1601 (j + 1) = nI p.2.1.2.2 ∧ flj j i i') := by
  unfold f_Lt_line1
  refine tt_bind (v_needSort hS hn hs.1 h) ?_
  rintro ⟨v, i2⟩ (⟨a1, a2, a3, a4⟩ | ⟨a1, a2, a3, a4⟩)
  · dsimp only at a2 a3 a4
    subst a2
    obtain ⟨r1, r2⟩ := rSrt_wd a1
    have w1 := nx_wd (k := 27 + rSrt n T s) (by omega) s hs r2
    have erl : rLaw1 n T s c = (match nmb n T 0 99 (nw n T s) with
      | .inl e => .inl e
      | .inr p => if wd n T 62 p.2 = true then (match (lx n T 6).1 (nw n T p.2) c with | .inl e => .inl e | .inr q => .inr (q.1, (nI (rSrt n T s), nI p.1, q.2.1), q.2)) else .inr (p.2, (nI (rSrt n T s), nI p.1, c.1), c)) := if_neg a1
    rw [erl]
    dsimp only
    rw [h5, grd_nI hj (by omega), ix_nI (by omega)]
    refine tt_bnd ?_
    generalize hi19 : wr i2 1599 j (nI (rSrt n T s)) = i19
    have f19 : flj j i i19 := fun b k q1 q2 q3 q4 q5 q6 => by
      have : i19 b k = i2 b k := by rw [← hi19]; exact if_neg q4
      rw [this]; exact a4 b k q1
    have s19 : i19 1599 j = nI (rSrt n T s) := by rw [← hi19]; exact wr_s
    have k19 : TK i19 n T (nw n T s) := a3.congr (fun b k hb => by rw [← hi19]; exact wr_a (by omega))
    have c19 : KCd i19 c := (hc.ft a4).keep (fun b k hb => by rw [← hi19]; exact wr_a (by omega))
    clear hi19
    refine tt_bind (v_number (lo := 0) (hi := 99) hn (by omega) (by omega) w1.2.1 k19) ?_
    rintro ⟨v, i21⟩ (⟨v, q, b1, b2, b3, b4, b5, b6, b7⟩ | ⟨b1, b2, b3, b4⟩)
    · dsimp only at b5 b6 b7
      subst b5
      rw [b1]
      dsimp only
      have h519 : i19 1598 5 = nI j := (f19 _ _ (by omega) (by omega) (by omega) (by omega) (by omega) (by omega)).trans h5
      rw [h519, grd_nI hj (by omega), ix_nI (by omega)]
      refine tt_bnd ?_
      generalize hi25 : wr i21 1600 j (nI v) = i25
      have f25 : flj j i i25 := f19.trans (fun b k q1 q2 q3 q4 q5 q6 => by
        have : i25 b k = i21 b k := by rw [← hi25]; exact if_neg q5
        rw [this]; exact b7 b k q1)
      have s25 : i25 1599 j = nI (rSrt n T s) := by rw [← hi25, wr_a (by decide), b7 _ _ (by omega)]; exact s19
      have z25 : i25 1600 j = nI v := by rw [← hi25]; exact wr_s
      have k25 : TK i25 n T q := b6.congr (fun b k hb => by rw [← hi25]; exact wr_a (by omega))
      have c25 : KCd i25 c := (c19.ft b7).keep (fun b k hb => by rw [← hi25]; exact wr_a (by omega))
      have S25 : SV t i25 := hS.congr (fun b k hb => f25 b k (by omega) (by omega) (by omega) (by omega) (by omega) (by omega))
      clear hi25
      obtain ⟨m1, -, -, -⟩ := nmb_gt w1.2.1 b1
      refine tt_bind (v_takeWord (k := 30) S25 hn (by decide) b2.1 k25) ?_
      rintro ⟨v2, i27⟩ ⟨d1, d2, d3⟩
      dsimp only at d1 d2 d3 ⊢
      subst d1
      rw [show wd n T (2 * 30 + 2) q = wd n T 62 q from rfl] at d2 ⊢
      have f27 : flj j i i27 := f25.trans d3.fl.flj
      have s27 : i27 1599 j = nI (rSrt n T s) := (d3 _ _ (by omega)).trans s25
      have z27 : i27 1600 j = nI v := (d3 _ _ (by omega)).trans z25
      have c27 : KCd i27 c := c25.ft d3
      have hfin : ∀ (i28 : MI) (c2 : Cd) (p : Nat), flj j i i28 → i28 1599 j = nI (rSrt n T s) → i28 1600 j = nI v → TK i28 n T p → KCd i28 c2 → Tt (grd ((i28 1598 5) + (1 : Int32)) 13 (bnd (wr i28 1601 (ix ((i28 1598 5) + (1 : Int32))) (i28 1598 6)) (fun i_35 => (some (.inl i_35) : Option (MI ⊕ ((Unit ⊕ Nat) × MI)))))) (fun z => ∃ i', z = .inl i' ∧ TK i' n T p ∧ KCd i' c2 ∧ i' 1599 j = nI (rSrt n T s) ∧ i' 1600 j = nI v ∧ i' 1601 (j + 1) = nI c2.1 ∧ flj j i i') := by
        intro i28 c2 p f28 s28 z28 k28 c28
        have h528 : i28 1598 5 = nI j := (f28 _ _ (by omega) (by omega) (by omega) (by omega) (by omega) (by omega)).trans h5
        rw [h528, nI_1, grd_nI (by omega) (by omega), ix_nI (by omega), c28.1]
        refine tt_bnd (tt_some ⟨_, rfl, k28.congr (fun b k hb => wr_a (by omega)), c28.keep (fun b k hb => wr_a (by omega)), ?_, ?_, wr_s, ?_⟩)
        · rw [wr_a (by decide)]; exact s28
        · rw [wr_a (by decide)]; exact z28
        · exact f28.trans (fun b k q1 q2 q3 q4 q5 q6 => if_neg q6)
      by_cases hw : wd n T 62 q = true
      · rw [if_pos hw] at d2
        have w2 := nx_wd (k := 30) (by decide) q b2 hw
        have w3 : q < nw n T q := w2.1
        have w4 : s < nw n T s := w1.1
        rw [if_pos hw, if_neg (show ¬ (1 : Int32) = 0 by decide), if_pos hw]
        have S27 : SV t i27 := S25.fl d3.fl
        have hlx := (v_lx (t := t) (n := n) (T := T) hn 6 (by omega)).1 20 (by omega) i27 (nw n T q) c S27 w2.2 d2 c27 (by omega)
        unfold f_Lt_readCondition
        refine tt_bind (P1 := fun z => match (lx n T 6).1 (nw n T q) c with
          | .inl e => ∃ i', z = Sum.inr (Sum.inr 20, i') ∧ i' 1595 2 = nI e ∧ flz i i'
          | .inr p => ∃ i', z = Sum.inl i' ∧ TK i' n T p.1 ∧ KCd i' p.2 ∧ fl i27 i') ?_ ?_
        · refine tt_bind hlx ?_
          rintro ⟨v3, i31⟩ hz
          cases hr : (lx n T 6).1 (nw n T q) c with
          | inl e =>
            rw [hr] at hz
            obtain ⟨e1, e2, e3⟩ := hz
            dsimp only at e1 e2 e3
            subst e1
            exact tt_some ⟨i31, rfl, e2, f27.z e3⟩
          | inr p =>
            rw [hr] at hz
            obtain ⟨e1, e2, e3, e4⟩ := hz
            dsimp only at e1 e2 e3 e4
            subst e1
            exact tt_some ⟨i31, rfl, e2, e3, e4⟩
        · intro z hz
          cases hr : (lx n T 6).1 (nw n T q) c with
          | inl e =>
            rw [hr] at hz
            obtain ⟨i', rfl, e2, e3⟩ := hz
            exact tt_some ⟨i', rfl, e2, e3⟩
          | inr p =>
            rw [hr] at hz
            obtain ⟨i', rfl, e2, e3, e4⟩ := hz
            dsimp only
            exact hfin i' p.2 p.1 (f27.trans e4.flj) ((e4 _ _ (by omega) (by omega) (by omega)).trans s27) ((e4 _ _ (by omega) (by omega) (by omega)).trans z27) e2 e3
      · rw [if_neg hw] at d2
        rw [if_neg hw, if_pos (show (0 : Int32) = 0 from rfl), if_neg hw]
        exact hfin i27 c q f27 s27 z27 d2 c27
    · dsimp only at b2 b3 b4
      subst b2
      rw [b1]
      exact tt_some ⟨i21, rfl, b3, f19.z b4.fle⟩
  · dsimp only at a2 a3 a4
    subst a2
    have erl : rLaw1 n T s c = .inl s := if_pos a1
    rw [erl]
    exact tt_some ⟨i2, rfl, a3, (fl.refl i).flj.z (j := 0) a4.fle⟩
theorem v_nextL (hn : n ≤ 400) {s j : Nat} (hj : j ≤ 12) (hs : tks n T s) (h : TK i n T s) : Tt (f_Ta_hasNextLine i (nI j) 12) (fun y => (s = n ∧ y = (.inl 0, i)) ∨ (¬ s = n ∧ j < 12 ∧ ∃ q, (j = 0 ∧ q = s ∨ 0 < j ∧ sgn n T 59 s = true ∧ q = sp n T (s + 1)) ∧ tks n T q ∧ y.1 = .inl 1 ∧ TK y.2 n T q ∧ ft i y.2) ∨ (¬ s = n ∧ 0 < j ∧ ∃ e, (sgn n T 59 s = true ∧ ¬ j < 12 ∧ e = sp n T (s + 1) ∨ ¬ sgn n T 59 s = true ∧ e = s) ∧ y.1 = .inr 20 ∧ y.2 1595 2 = nI e ∧ fe i y.2)) := by
  unfold f_Ta_hasNextLine
  have h4 : i 1595 4 = 0 ↔ s = n := by
    obtain ⟨-, -, -, -, h5⟩ := h
    obtain ⟨q1, q2⟩ := srt_lt (T s)
    rw [h5]
    by_cases e : s = n
    · rw [if_pos e]; exact ⟨fun _ => e, fun _ => rfl⟩
    · rw [if_neg e, nI_z (by omega)]; omega
  by_cases e : s = n
  · by_cases c : j = 0
    · rw [if_pos (show nI j = 0 by rw [c]; rfl), if_pos (h4.mpr e)]
      exact tt_some (Or.inl ⟨e, rfl⟩)
    · rw [if_neg (fun q => c ((nI_z (by omega)).mp q)), if_pos (h4.mpr e)]
      exact tt_some (Or.inl ⟨e, rfl⟩)
  · have e4 : ¬ i 1595 4 = 0 := fun q => e (h4.mp q)
    by_cases c : j = 0
    · rw [if_pos (show nI j = 0 by rw [c]; rfl), if_neg e4]
      exact tt_some (Or.inr (Or.inl ⟨e, by omega, s, Or.inl ⟨c, rfl⟩, hs, rfl, h, ft.refl i⟩))
    · rw [if_neg (fun q => c ((nI_z (by omega)).mp q)), if_neg e4]
      refine tt_bind (v_takeSign hn hs.1 h (c := 59) (by decide)) ?_
      rintro ⟨v, i2⟩ ⟨g1, g2, g3⟩
      dsimp only at g1 g2 g3 ⊢
      subst g1
      by_cases a : sgn n T 59 s = true
      · have hlt : s < n := by
          unfold sgn at a
          rw [Bool.and_eq_true, decide_eq_true_eq] at a
          exact a.1
        rw [if_pos a] at g2
        rw [if_pos a, if_neg (show ¬ (1 : Int32) = 0 by decide)]
        by_cases b : j < 12
        · rw [if_pos (show nI j < 12 from nI_lt (b := 12) b (by decide))]
          exact tt_some (Or.inr (Or.inl ⟨e, b, sp n T (s + 1), Or.inr ⟨by omega, a, rfl⟩, tks_sp (by omega), rfl, g2, g3⟩))
        · rw [if_neg (show ¬ nI j < 12 from nI_nlt (b := 12) (by omega) (by omega)), v_refuse g2, Option.bind_some]
          exact tt_some (Or.inr (Or.inr ⟨e, by omega, sp n T (s + 1), Or.inl ⟨a, b, rfl⟩, rfl, (show wr i2 1595 2 (nI (sp n T (s + 1))) 1595 2 = _ from wr_s), g3.fe.trans fe_ref⟩))
      · rw [if_neg a] at g2
        rw [if_neg a, if_pos (show (0 : Int32) = 0 from rfl), v_refuse g2, Option.bind_some]
        exact tt_some (Or.inr (Or.inr ⟨e, by omega, s, Or.inr ⟨a, rfl⟩, rfl, (show wr i2 1595 2 (nI s) 1595 2 = _ from wr_s), g3.fe.trans fe_ref⟩))
/-- what is left to read when j lines are read -/
def tgtC (n : Nat) (T : Nat → Int32) (j : Nat) (L : LTb) (s : Nat) : Nat ⊕ (Nat × LTb) := if s = n then .inr (j, L) else if j = 0 then rLaws n T 12 0 L s else if sgn n T 59 s = true then (if j < 12 then rLaws n T (12 - j) j L (sp n T (s + 1)) else .inl (sp n T (s + 1))) else .inl s
theorem rLawA_tgtC : rLawA n T = tgtC n T 0 lt0 (sp n T 0) := by
  unfold rLawA tgtC
  rw [if_pos (rfl : (0 : Nat) = 0)]
theorem tgL_tgtC {j : Nat} {L : LTb} {s : Nat} : tgL n T (j + 1) L s = tgtC n T (j + 1) L s := by
  unfold tgL tgtC
  rw [if_neg (Nat.succ_ne_zero j)]
theorem tgtC_end {j s : Nat} {L : LTb} (h : s = n) : tgtC n T j L s = .inr (j, L) := if_pos h
theorem tgtC_go {j s q : Nat} {L : LTb} (h : ¬ s = n) (hj : j < 12) (hq : j = 0 ∧ q = s ∨ 0 < j ∧ sgn n T 59 s = true ∧ q = sp n T (s + 1)) : tgtC n T j L s = rLaws n T (12 - j) j L q := by
  unfold tgtC
  rw [if_neg h]
  rcases hq with ⟨rfl, rfl⟩ | ⟨q0, q1, rfl⟩
  · rw [if_pos rfl]
  · rw [if_neg (by omega), if_pos q1, if_pos hj]
theorem tgtC_err {j s e : Nat} {L : LTb} (h : ¬ s = n) (hj : 0 < j) (hq : sgn n T 59 s = true ∧ ¬ j < 12 ∧ e = sp n T (s + 1) ∨ ¬ sgn n T 59 s = true ∧ e = s) : tgtC n T j L s = .inl e := by
  unfold tgtC
  rw [if_neg h, if_neg (by omega)]
  rcases hq with ⟨q1, q2, rfl⟩ | ⟨q1, rfl⟩
  · rw [if_pos q1, if_neg q2]
  · rw [if_neg q1]
theorem TIc.keep {i' : MI} {x : Nat} {L : LTb} (h : TIc i x L) (he : ∀ b k, 1599 ≤ b → b ≤ 1601 → i' b k = i b k) : TIc i' x L := ⟨(he _ _ (by omega) (by omega)).trans h.1, fun k hk => by
  obtain ⟨q1, q2, q3⟩ := h.2 k hk
  exact ⟨(he _ _ (by omega) (by omega)).trans q1, (he _ _ (by omega) (by omega)).trans q2, (he _ _ (by omega) (by omega)).trans q3⟩⟩
theorem TIc.more {i' : MI} {j : Nat} {L : LTb} (h : TIc i j L) (hf : flj j i i') {p : Nat × L1 × Cd} (e0 : i' 1599 j = p.2.1.1) (e1 : i' 1600 j = p.2.1.2.1) (e2 : i' 1601 (j + 1) = nI p.2.1.2.2) : TIc i' (j + 1) (up1 L.1 j p.2.1, p.2.2) := by
  refine ⟨(hf _ _ (by omega) (by omega) (by omega) (by omega) (by omega) (by omega)).trans h.1, fun k hk => ?_⟩
  show i' 1599 k = (up1 L.1 j p.2.1 k).1 ∧ i' 1600 k = (up1 L.1 j p.2.1 k).2.1 ∧ i' 1601 (k + 1) = nI (up1 L.1 j p.2.1 k).2.2
  by_cases c : k = j
  · subst c
    rw [up1_s]; exact ⟨e0, e1, e2⟩
  · rw [up1_o c]
    obtain ⟨q1, q2, q3⟩ := h.2 k (by omega)
    exact ⟨(hf _ _ (by omega) (by omega) (by omega) (by omega) (by omega) (by omega)).trans q1, (hf _ _ (by omega) (by omega) (by omega) (by omega) (by omega) (by omega)).trans q2, (hf _ _ (by omega) (by omega) (by omega) (by omega) (by omega) (by omega)).trans q3⟩
def LNP (n : Nat) (T : Nat → Int32) (i : MI) (y : (Unit ⊕ Nat) × MI) : Prop := y.2 1595 1 = 0 ∧ y.2 1601 0 = 0 ∧ (∀ b j, b ≠ 1595 → b ≠ 1598 → (b < 1599 ∨ 1603 ≤ b) → y.2 b j = i b j) ∧ match rLawA n T with
    | .inl e => y.1 = .inr 20 ∧ y.2 1595 2 = nI e
    | .inr p => y.1 = .inl () ∧ y.2 1595 2 = -1 ∧ y.2 1598 5 = nI p.1 ∧ KCd y.2 p.2.2 ∧ TIc y.2 p.1 p.2 ∧ LOK n p.1 p.2 n
theorem v_lines (hS : SV t i) (hn : n ≤ 400) (ht : TC i n T) (h0 : i 1601 0 = 0) : Tt (f_Lt_lines t i) (LNP n T i) := by
  unfold f_Lt_lines f_Ta_startText
  refine tt_bind (P1 := fun i' => TK i' n T (sp n T 0) ∧ i' 1595 1 = 0 ∧ i' 1595 2 = -1 ∧ (∀ b j, b ≠ 1595 → i' b j = i b j)) ?_ ?_
  · refine tt_bnd ?_
    refine tt_bnd ?_
    refine tt_bnd ?_
    refine tt_bnd ?_
    rw [ht.1]
    generalize hi4 : wr (wr (wr (wr i 1595 3 (nI n)) 1595 1 0) 1595 2 (-1)) 1595 6 0 = i4
    have k1 : i4 1595 1 = 0 := by rw [← hi4, wr_k (by decide), wr_k (by decide), wr_s]
    have k2 : i4 1595 2 = -1 := by rw [← hi4, wr_k (by decide), wr_s]
    have k3 : i4 1595 3 = nI n := by rw [← hi4, wr_k (by decide), wr_k (by decide), wr_k (by decide), wr_s]
    have k6 : i4 1595 6 = nI 0 := by rw [← hi4, wr_s]; rfl
    have k0 : ∀ b j, b ≠ 1595 → i4 b j = i b j := fun b j hb2 => by rw [← hi4, wr_a hb2, wr_a hb2, wr_a hb2, wr_a hb2]
    refine tt_bind (v_stepAt (T := T) hn k3 (fun k hk => (k0 _ _ (by decide)).trans (ht.2 k hk)) (Nat.zero_le n) k6) ?_
    rintro i5 ⟨a1, a2⟩
    exact tt_some ⟨a1, by rw [a2 _ _ (by omega)]; exact k1, by rw [a2 _ _ (by omega)]; exact k2, fun b j hb2 => by rw [a2 _ _ (by omega)]; exact k0 b j hb2⟩
  rintro i1 ⟨a1, a2, a3, a4⟩
  refine tt_bnd (tt_bnd ?_)
  have x1 : ∀ b j, b ≠ 1598 → wr (wr i1 1598 6 0) 1598 5 0 b j = i1 b j := fun b j hb => by rw [wr_a hb, wr_a hb]
  have x5 : wr (wr i1 1598 6 0) 1598 5 0 1598 5 = nI 0 := wr_s
  have x6 : wr (wr i1 1598 6 0) 1598 5 0 1598 6 = nI 0 := by rw [wr_k (by decide), wr_s]; rfl
  generalize wr (wr i1 1598 6 0) 1598 5 0 = i3 at x1 x5 x6 ⊢
  have hS3 : SV t i3 := hS.congr (fun b j hb => (x1 b j (by omega)).trans (a4 b j (by omega)))
  have k3 : TK i3 n T (sp n T 0) := a1.congr (fun b j hb => x1 b j (by omega))
  have y1 : i3 1595 1 = 0 := (x1 _ _ (by decide)).trans a2
  have y2 : i3 1595 2 = -1 := (x1 _ _ (by decide)).trans a3
  have y0 : i3 1601 0 = 0 := (x1 _ _ (by decide)).trans ((a4 _ _ (by decide)).trans h0)
  have hE : ∀ (i' : MI) (e : Nat), rLawA n T = .inl e → i' 1595 2 = nI e → flz i3 i' → LNP n T i (.inr 20, i') := fun i' e h1 h2 h3 => by
    refine ⟨(h3.1 _ _ (by omega) (by omega) (by omega)).trans y1, h3.2.trans y0, fun b j q1 q2 q3 => (h3.1 b j (by omega) q2 q3).trans ((x1 b j q2).trans (a4 b j q1)), ?_⟩
    rw [h1]
    exact ⟨rfl, h2⟩
  have hO : ∀ (i' : MI) (x : Nat) (L : LTb), rLawA n T = .inr (x, L) → i' 1598 5 = nI x → KCd i' L.2 → TIc i' x L → LOK n x L n → fls i3 i' → LNP n T i (.inl (), i') := fun i' x L h1 h2 h4 h5 h6 h3 => by
    refine ⟨(h3.1 _ _ (by omega) (by omega) (by omega)).trans y1, h3.2.trans y0, fun b j q1 q2 q3 => (h3.1 b j (by omega) q2 q3).trans ((x1 b j q2).trans (a4 b j q1)), ?_⟩
    rw [h1]
    exact ⟨rfl, (h3.1 _ _ (by omega) (by omega) (by omega)).trans y2, h2, h4, h5, h6⟩
  refine tt_loop (fun j (x : MI) => x 1598 5 = nI j ∧ ∃ L1 s1, rLawA n T = tgtC n T j L1 s1 ∧ TK x n T s1 ∧ tks n T s1 ∧ KCd x L1.2 ∧ TIc x j L1 ∧ LOK n j L1 s1 ∧ fls i3 x) 12 (by omega) ?_ ?_ ⟨x5, lt0, sp n T 0, rLawA_tgtC, k3, tks_sp (Nat.zero_le n), ⟨x6, fun k hk => absurd hk (Nat.not_lt_zero k)⟩, ⟨y0, fun k hk => absurd hk (Nat.not_lt_zero k)⟩, LOK0.le (Nat.zero_le _), ⟨fun _ _ _ _ _ => rfl, rfl⟩⟩
  · rintro j hj i2 ⟨e1, L1, s1, e2, e3, e4, e5, e6, e7, e8⟩
    rw [e1, if_neg (show ¬ (12 : Int32) < nI j from nI_nlt (a := 12) (by omega) (by omega))]
    refine tt_bind (v_nextL hn (by omega) e4 e3) ?_
    rintro ⟨v, i7⟩ hx
    dsimp only at hx ⊢
    rcases hx with ⟨c1, c2⟩ | ⟨c1, c2, q, c3, tq, rfl, c5, c6⟩ | ⟨c1, c2, e, c3, rfl, c5, c6⟩
    · obtain ⟨rfl, rfl⟩ := Prod.mk.inj c2
      dsimp only
      rw [if_pos (show (0 : Int32) = 0 from rfl)]
      exact tt_some (hO i7 j L1 (e2.trans (tgtC_end c1)) e1 e5 e6 (e7.le e4.1) e8)
    · dsimp only
      have h57 : i7 1598 5 = nI j := (c6 _ _ (by omega)).trans e1
      have F7 := e8.trans c6.fls
      have hsq : s1 ≤ q := by
        rcases c3 with ⟨-, rfl⟩ | ⟨-, h9, rfl⟩
        · exact Nat.le_refl _
        · exact Nat.le_of_lt (sgn_lt h9).1
      have et : rLawA n T = (match rLaw1 n T q L1.2 with | .inl e => .inl e | .inr p => tgL n T (j + 1) (up1 L1.1 j p.2.1, p.2.2) p.1) := e2.trans ((tgtC_go c1 c2 c3).trans (rLaws_tgL c2 L1 q))
      rw [if_neg (show ¬ (1 : Int32) = 0 by decide), h57, if_pos (show nI j < 12 from nI_lt (b := 12) hj (by decide))]
      have S7 : SV t i7 := hS3.congr (fun b k hb => F7.1 b k (by omega) (by omega) (by omega))
      refine tt_bind (v_line1 S7 hn tq c5 (e5.ft c6) (by have := e7.1; omega) hj h57) ?_
      intro z hz
      cases hr : rLaw1 n T q L1.2 with
      | inl e =>
        rw [hr] at hz et
        obtain ⟨i9, rfl, d2, d3⟩ := hz
        exact tt_some (hE i9 e et d2 (F7.z d3))
      | inr p =>
        rw [hr] at hz et
        obtain ⟨i9, rfl, d2, d3, d4, d5, d6, d7⟩ := hz
        dsimp only at et ⊢
        have h59 : i9 1598 5 = nI j := (d7 _ _ (by omega) (by omega) (by omega) (by omega) (by omega) (by omega)).trans h57
        rw [h59, nI_1]
        have hT9 : TIc i9 (j + 1) (up1 L1.1 j p.2.1, p.2.2) := (e6.keep (fun b k _ _ => c6 b k (by omega))).more d7 d4 d5 d6
        have hL9 := (e7.le hsq).more hj tq hr
        have w9 : ∀ b k, b ≠ 1598 ∨ k ≠ 5 → wr i9 1598 5 (nI (j + 1)) b k = i9 b k := fun b k hb => if_neg (by omega)
        refine tt_bnd (tt_some ⟨(show wr i9 1598 5 (nI (j + 1)) 1598 5 = _ from wr_s), (up1 L1.1 j p.2.1, p.2.2), p.1, et.trans tgL_tgtC, d2.congr (fun b k hb => w9 b k (by omega)), (rLaw1_ok tq (by have := e7.1; omega) hr).1, d3.keep (fun b k hb => w9 b k (by omega)), hT9.keep (fun b k h1 h2 => w9 b k (by omega)), hL9, ⟨fun b k q1 q2 q3 => ?_, ?_⟩⟩)
        · show wr i9 1598 5 (nI (j + 1)) b k = _
          rw [w9 _ _ (by omega), d7.fls.1 b k q1 q2 q3]; exact F7.1 b k q1 q2 q3
        · show wr i9 1598 5 (nI (j + 1)) 1601 0 = _
          rw [w9 _ _ (by omega), d7.fls.2]; exact F7.2
    · dsimp only
      exact tt_some (hE i7 e (e2.trans (tgtC_err c1 c2 c3)) c5 (e8.z c6.flz))
  · rintro i2 ⟨e1, L1, s1, e2, e3, e4, e5, e6, e7, e8⟩
    rw [e1, if_neg (show ¬ (12 : Int32) < nI 12 from nI_nlt (a := 12) (by omega) (by omega))]
    refine tt_bind (v_nextL hn (by omega) e4 e3) ?_
    rintro ⟨v, i7⟩ hx
    dsimp only at hx ⊢
    rcases hx with ⟨c1, c2⟩ | ⟨c1, c2, q, c3, tq, rfl, c5, c6⟩ | ⟨c1, c2, e, c3, rfl, c5, c6⟩
    · obtain ⟨rfl, rfl⟩ := Prod.mk.inj c2
      dsimp only
      rw [if_pos (show (0 : Int32) = 0 from rfl)]
      exact tt_some (hO i7 12 L1 (e2.trans (tgtC_end c1)) e1 e5 e6 (e7.le e4.1) e8)
    · omega
    · dsimp only
      exact tt_some (hE i7 e (e2.trans (tgtC_err c1 c2 c3)) c5 (e8.z c6.flz))
end LAWF
