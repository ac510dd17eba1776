/-! ===== a law's text: the reference's conditions ===== -/
def bCmpM (t : MT) (i : MI) : Option (Int32 × MI) := (f_Mo_readSum t i).bind (fun (v_10, i_11) => if v_10 = 0 then (some ((0 : Int32), i_11)) else ((f_Mo_sign i_11 60).bind (fun (v_14, i_15) => if v_14 = 0 then ((f_Mo_sign i_15 62).bind (fun (v_17, i_18) => if v_17 = 0 then (some ((0 : Int32), i_18)) else ((f_Mo_readSum t i_18).bind (fun (v_21, i_22) => if v_21 = 0 then (some ((0 : Int32), i_22)) else ((if v_14 = 0 then (some 13) else (some 12) : Option (Int32)).bind (fun y_25 => (f_Mo_emits i_22 y_25 0).bind (fun i_28 => some ((1 : Int32), i_28)))))))) else ((f_Mo_readSum t i_15).bind (fun (v_30, i_31) => if v_30 = 0 then (some ((0 : Int32), i_31)) else ((if v_14 = 0 then (some 13) else (some 12) : Option (Int32)).bind (fun y_34 => (f_Mo_emits i_31 y_34 0).bind (fun i_37 => some ((1 : Int32), i_37)))))))))
section LAWU
variable {t : MT} {n : Nat} {T : Nat → Int32}
theorem m_cmp (hn : n ≤ 400) {d : Nat} : RDM t n T d (bCmpM t) (rCmp n T) := by
  intro i s c hS hs hc hl hd
  have hk := hs.tks
  unfold bCmpM rCmp
  refine tt_bind (m_readSum hn (d := d) i s c hS hs hc hl hd) ?_
  rintro ⟨v, i1⟩ ⟨hy, hf⟩
  cases hx : rSum n T s c with
  | inl e =>
    rw [hx] at hy
    obtain ⟨a1, a2⟩ := hy
    dsimp only at a1 a2 hf
    subst a1
    exact tt_some ⟨⟨rfl, a2⟩, hf⟩
  | inr p =>
    rw [hx] at hy
    obtain ⟨a1, a2, a3, a4⟩ := hy
    dsimp only at a1 a2 a3 a4 hf
    subst a1
    obtain ⟨d1, d2, d3⟩ := GR_at (GR_sum (hb := 0) (by decide)) hk hx
    have e1 := d2.2.1
    dsimp only
    rw [if_neg (show ¬ (1 : Int32) = 0 by decide)]
    refine tt_bind (m_sign hn a2 60) ?_
    rintro ⟨v, i2⟩ ⟨b1, b2, b3, b4⟩
    dsimp only at b1 b2 b3 b4 ⊢
    subst b1
    by_cases h60 : sgn n T 60 p.1 = true
    · rw [if_pos h60] at b2
      obtain ⟨x1, x2⟩ := sgn_lt h60
      rw [if_pos h60, if_neg (show ¬ (1 : Int32) = 0 by decide), if_neg (show ¬ (1 : Int32) = 0 by decide), if_pos h60]
      have G2 := b2
      have K2 := a3.fz b4
      have F2 := hf.trans b4.fmo
      have D2 : i2 1638 13 = nI d := (b4 1638 13 (by omega)).trans (a4.trans hd)
      refine tt_bind (m_readSum hn (d := d) _ _ _ (hS.fmo F2) G2 K2 (by omega) D2) ?_
      rintro ⟨w, i3⟩ ⟨hw, hf3⟩
      cases hq : rSum n T (sp n T (p.1 + 1)) p.2 with
      | inl e =>
        rw [hq] at hw
        obtain ⟨w1, w2⟩ := hw
        dsimp only at w1 w2 hf3
        subst w1
        exact tt_some ⟨⟨rfl, w2⟩, F2.trans hf3⟩
      | inr q =>
        rw [hq] at hw
        obtain ⟨w1, w2, w3, w4⟩ := hw
        dsimp only at w1 w2 w3 w4 hf3
        subst w1
        obtain ⟨g1, g2, g3⟩ := GR_at (GR_sum (hb := 0) (by decide)) x2 hq
        have := g2.2.1
        have := g1.1
        dsimp only
        rw [if_neg (show ¬ (1 : Int32) = 0 by decide)]
        refine tt_bind (tt_some (P := fun y => y = (12 : Int32)) rfl) ?_
        rintro y rfl
        refine tt_bind (m_emits w3 (by omega) (s := -13) (by decide) (fun q => absurd (show (-13 : Int32) < 0 by decide) q)) (fun i4 h4 => tt_some ⟨⟨rfl, w2.fmk h4.2, h4.1, (h4.2 1638 13 (by omega) (by omega)).trans (w4.trans (D2.trans hd.symm))⟩, (F2.trans hf3).trans h4.2.fmo⟩)
    · rw [if_neg h60] at b2
      rw [if_neg h60, if_pos (show (0 : Int32) = 0 from rfl), if_pos (show (0 : Int32) = 0 from rfl), if_neg h60]
      refine tt_bind (m_sign hn b2 62) ?_
      rintro ⟨v, i3⟩ ⟨c1, c2, c3, c4⟩
      dsimp only at c1 c2 c3 c4 ⊢
      subst c1
      by_cases h62 : sgn n T 62 p.1 = true
      rotate_left
      · rw [if_neg h62, if_pos (show (0 : Int32) = 0 from rfl), if_neg h62]
        exact tt_some ⟨⟨rfl, c3⟩, (hf.trans b4.fmo).trans c4.fmo⟩
      rw [if_pos h62] at c2
      rw [if_pos h62, if_neg (show ¬ (1 : Int32) = 0 by decide), if_pos h62]
      obtain ⟨x1, x2⟩ := sgn_lt h62
      have G2 := c2
      have K2 := (a3.fz b4).fz c4
      have F2 := (hf.trans b4.fmo).trans c4.fmo
      have D2 : i3 1638 13 = nI d := (c4 1638 13 (by omega)).trans ((b4 1638 13 (by omega)).trans (a4.trans hd))
      refine tt_bind (m_readSum hn (d := d) _ _ _ (hS.fmo F2) G2 K2 (by omega) D2) ?_
      rintro ⟨w, i3⟩ ⟨hw, hf3⟩
      cases hq : rSum n T (sp n T (p.1 + 1)) p.2 with
      | inl e =>
        rw [hq] at hw
        obtain ⟨w1, w2⟩ := hw
        dsimp only at w1 w2 hf3
        subst w1
        exact tt_some ⟨⟨rfl, w2⟩, F2.trans hf3⟩
      | inr q =>
        rw [hq] at hw
        obtain ⟨w1, w2, w3, w4⟩ := hw
        dsimp only at w1 w2 w3 w4 hf3
        subst w1
        obtain ⟨g1, g2, g3⟩ := GR_at (GR_sum (hb := 0) (by decide)) x2 hq
        have := g2.2.1
        have := g1.1
        dsimp only
        rw [if_neg (show ¬ (1 : Int32) = 0 by decide)]
        refine tt_bind (tt_some (P := fun y => y = (13 : Int32)) rfl) ?_
        rintro y rfl
        refine tt_bind (m_emits w3 (by omega) (s := -14) (by decide) (fun q => absurd (show (-14 : Int32) < 0 by decide) q)) (fun i4 h4 => tt_some ⟨⟨rfl, w2.fmk h4.2, h4.1, (h4.2 1638 13 (by omega) (by omega)).trans (w4.trans (D2.trans hd.symm))⟩, (F2.trans hf3).trans h4.2.fmo⟩)
end LAWU
