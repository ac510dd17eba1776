/-! ===== a law's text: the class's conditions ===== -/
def bCmp (t : MT) (i : MI) : Option ((Unit ⊕ Nat) × MI) := (f_Lt_readSum t i).bind (fun | (.inl (), i_24) => (f_Ta_takeSign i_24 60).bind (fun (v_26, i_27) => (if v_26 = 0 then ((f_Ta_needSign i_27 62).bind (fun | (.inl (), i_30) => some (.inl i_30) | (.inr c_31, i_30) => some (.inr ((.inr c_31, i_30))))) else (some (.inl i_27)) : Option ((MI) ⊕ ((Unit ⊕ Nat) × MI))).bind (fun | .inl i_28 => (f_Lt_readSum t i_28).bind (fun | (.inl (), i_33) => (if v_26 = 0 then (some (-14)) else (some (-13)) : Option (Int32)).bind (fun y_35 => (f_Lt_emit i_33 y_35).bind (fun i_38 => some (.inl (), i_38))) | (.inr c_34, i_33) => some (.inr c_34, i_33)) | .inr y_39 => some y_39)) | (.inr c_25, i_24) => some (.inr c_25, i_24))
def bAtm (R_Lt_readCondition : MT → MI → Int32 → Option ((Unit ⊕ Nat) × MI)) (R_Lt_readAtom : MT → MI → Int32 → Option ((Unit ⊕ Nat) × MI)) (t : MT) (i : MI) (x1 : Int32) : Option ((Unit ⊕ Nat) × MI) := (f_Ta_takeWord t i 68).bind (fun (v_9, i_10) => if v_9 = 0 then ((f_Ta_takeSign i_10 40).bind (fun (v_12, i_13) => if v_12 = 0 then ((f_Ta_takeWord t i_13 70).bind (fun (v_15, i_16) => if v_15 = 0 then ((f_Ta_takeWord t i_16 72).bind (fun (v_18, i_19) => if v_18 = 0 then ((f_Ta_takeWord t i_19 74).bind (fun (v_21, i_22) => if v_21 = 0 then ((f_Lt_readSum t i_22).bind (fun | (.inl (), i_24) => (f_Ta_takeSign i_24 60).bind (fun (v_26, i_27) => (if v_26 = 0 then ((f_Ta_needSign i_27 62).bind (fun | (.inl (), i_30) => some (.inl i_30) | (.inr c_31, i_30) => some (.inr ((.inr c_31, i_30))))) else (some (.inl i_27)) : Option ((MI) ⊕ ((Unit ⊕ Nat) × MI))).bind (fun | .inl i_28 => (f_Lt_readSum t i_28).bind (fun | (.inl (), i_33) => (if v_26 = 0 then (some (-14)) else (some (-13)) : Option (Int32)).bind (fun y_35 => (f_Lt_emit i_33 y_35).bind (fun i_38 => some (.inl (), i_38))) | (.inr c_34, i_33) => some (.inr c_34, i_33)) | .inr y_39 => some y_39)) | (.inr c_25, i_24) => some (.inr c_25, i_24))) else ((f_Lt_emit i_22 (-10)).bind (fun i_41 => some (.inl (), i_41))))) else ((f_Lt_emit i_19 (-9)).bind (fun i_43 => some (.inl (), i_43))))) else ((f_Lt_emit i_16 (-8)).bind (fun i_45 => some (.inl (), i_45))))) else ((R_Lt_readCondition t i_13 (x1 + 1)).bind (fun | (.inl (), i_47) => (f_Ta_needSign i_47 41).bind (fun | (.inl (), i_49) => some (.inl (), i_49) | (.inr c_50, i_49) => some (.inr c_50, i_49)) | (.inr c_48, i_47) => some (.inr c_48, i_47))))) else ((R_Lt_readAtom t i_10 (x1 + 1)).bind (fun | (.inl (), i_52) => (f_Lt_emit i_52 (-11)).bind (fun i_54 => some (.inl (), i_54)) | (.inr c_53, i_52) => some (.inr c_53, i_52))))
def RD (t : MT) (n : Nat) (T : Nat → Int32) (g : MI → Option ((Unit ⊕ Nat) × MI)) (f : Nat → Cd → Rz) : Prop := ∀ i s c, SV t i → tks n T s → TK i n T s → KCd i c → c.1 + 2 ≤ s → Tt (g i) (CRz n T i (f s c))
section LAWP
variable {t : MT} {i i' : MI} {n : Nat} {T : Nat → Int32} {c : Cd}
theorem v_needSign (hn : n ≤ 400) {s : Nat} (hs : s ≤ n) (h : TK i n T s) {x : Int32} (hx : srt x = 3) : Tt (f_Ta_needSign i x) (fun y => (sgn n T x s = true ∧ y.1 = .inl () ∧ TK y.2 n T (sp n T (s + 1)) ∧ ft i y.2) ∨ (¬ sgn n T x s = true ∧ y.1 = .inr 20 ∧ y.2 1595 2 = nI s ∧ fe i y.2)) := by
  unfold f_Ta_needSign
  refine tt_bind (v_takeSign hn hs h hx) ?_
  rintro ⟨v, i2⟩ ⟨b1, b2, b3⟩
  dsimp only at b1 b2 b3 ⊢
  subst b1
  by_cases hw : sgn n T x s = true
  · rw [if_pos hw] at b2
    rw [if_pos hw, if_neg (show ¬ (1 : Int32) = 0 by decide)]
    exact tt_some (Or.inl ⟨hw, rfl, b2, b3⟩)
  · rw [if_neg hw] at b2
    rw [if_neg hw, if_pos (show (0 : Int32) = 0 from rfl), v_refuse b2, Option.bind_some]
    exact tt_some (Or.inr ⟨hw, rfl, (show wr i2 1595 2 (nI s) 1595 2 = _ from wr_s), b3.fe.trans fe_ref⟩)
theorem v_cmp (hn : n ≤ 400) : RD t n T (bCmp t) (rCmp n T) := by
  intro i s c hS hs h hc hl
  unfold bCmp rCmp
  refine tt_bind (v_readSum hS hn hs h hc hl) ?_
  rintro ⟨v, i1⟩ hy
  cases hx : rSum n T s c with
  | inl e =>
    rw [hx] at hy
    obtain ⟨a1, a2, a3⟩ := hy
    dsimp only at a1 a2 a3
    subst a1
    exact tt_some ⟨rfl, a2, a3⟩
  | inr p =>
    rw [hx] at hy
    obtain ⟨a1, a2, a3, a4⟩ := hy
    dsimp only at a1 a2 a3 a4
    subst a1
    obtain ⟨d1, d2, d3⟩ := GR_at (GR_sum (hb := 0) (by decide)) hs hx
    have e1 := d2.2.1
    have SF := hS.fl a4
    dsimp only
    refine tt_bind (v_takeSign hn d1.1 a2 (c := 60) (by decide)) ?_
    rintro ⟨v, i2⟩ ⟨b1, b2, b3⟩
    dsimp only at b1 b2 b3 ⊢
    subst b1
    by_cases h60 : sgn n T 60 p.1 = true
    · rw [if_pos h60] at b2
      obtain ⟨x1, x2⟩ := sgn_lt h60
      rw [if_pos h60, if_neg (show ¬ (1 : Int32) = 0 by decide), if_pos h60, Option.bind_some]
      have G2 := b2
      have G3 := b3
      have F2 := a4.trans b3.fl
      have SF := hS
      dsimp only
      rw [if_neg (show ¬ (1 : Int32) = 0 by decide)]
      refine tt_bind (v_readSum (SF.fl F2) hn x2 G2 (a3.ft G3) (by omega)) ?_
      rintro ⟨w, i3⟩ hw
      cases hq : rSum n T (sp n T (p.1 + 1)) p.2 with
      | inl e =>
        rw [hq] at hw
        obtain ⟨w1, w2, w3⟩ := hw
        dsimp only at w1 w2 w3
        subst w1
        exact tt_some ⟨rfl, w2, F2.e w3⟩
      | inr q =>
        rw [hq] at hw
        obtain ⟨w1, w2, w3, w4⟩ := hw
        dsimp only at w1 w2 w3 w4
        subst w1
        obtain ⟨g1, g2, g3⟩ := GR_at (GR_sum (hb := 0) (by decide)) x2 hq
        have := g2.2.1
        have := g1.1
        refine tt_bind (tt_some (P := fun y => y = (-13)) rfl) ?_
        rintro y rfl
        refine tt_bind (v_emit w3 (by omega) (-13)) (fun i4 h4 => tt_some ⟨rfl, w2.em h4.2, h4.1, (F2.trans w4).trans (fl_em h4.2)⟩)
    · rw [if_neg h60] at b2
      rw [if_neg h60, if_pos (show (0 : Int32) = 0 from rfl), if_neg h60]
      refine tt_bind (P1 := fun z => match z with | .inl w => sgn n T 62 p.1 = true ∧ TK w n T (sp n T (p.1 + 1)) ∧ ft i2 w | .inr y => ¬ sgn n T 62 p.1 = true ∧ y.1 = .inr 20 ∧ y.2 1595 2 = nI p.1 ∧ fe i2 y.2) (tt_bind (v_needSign hn d1.1 b2 (x := 62) (by decide)) ?_) ?_
      · rintro ⟨v | v, i3⟩ (⟨z1, z2, z3, z4⟩ | ⟨z1, z2, z3, z4⟩)
        · exact tt_some ⟨z1, z3, z4⟩
        · cases z2
        · cases z2
        · cases Sum.inr.inj z2; exact tt_some ⟨z1, rfl, z3, z4⟩
      rintro (i3 | ⟨v, i3⟩) hz
      rotate_left
      · obtain ⟨z1, z2, z3, z4⟩ := hz
        rw [if_neg z1]
        exact tt_some ⟨z2, z3, (a4.trans b3.fl).e z4.fle⟩
      obtain ⟨h62, G2, z4⟩ := hz
      rw [if_pos h62]
      obtain ⟨x1, x2⟩ := sgn_lt h62
      have G3 := b3.trans z4
      have F2 := a4.trans G3.fl
      have SF := hS
      dsimp only
      rw [if_pos (show (0 : Int32) = 0 from rfl)]
      refine tt_bind (v_readSum (SF.fl F2) hn x2 G2 (a3.ft G3) (by omega)) ?_
      rintro ⟨w, i3⟩ hw
      cases hq : rSum n T (sp n T (p.1 + 1)) p.2 with
      | inl e =>
        rw [hq] at hw
        obtain ⟨w1, w2, w3⟩ := hw
        dsimp only at w1 w2 w3
        subst w1
        exact tt_some ⟨rfl, w2, F2.e w3⟩
      | inr q =>
        rw [hq] at hw
        obtain ⟨w1, w2, w3, w4⟩ := hw
        dsimp only at w1 w2 w3 w4
        subst w1
        obtain ⟨g1, g2, g3⟩ := GR_at (GR_sum (hb := 0) (by decide)) x2 hq
        have := g2.2.1
        have := g1.1
        refine tt_bind (tt_some (P := fun y => y = (-14)) rfl) ?_
        rintro y rfl
        refine tt_bind (v_emit w3 (by omega) (-14)) (fun i4 h4 => tt_some ⟨rfl, w2.em h4.2, h4.1, (F2.trans w4).trans (fl_em h4.2)⟩)
end LAWP
