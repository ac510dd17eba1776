/-! ===== a law's lines: the class's first word ===== -/
section LAWH
variable {t : MT} {i : MI} {n : Nat} {T : Nat → Int32}
theorem v_needSort (hS : SV t i) (hn : n ≤ 400) {s : Nat} (hs : s ≤ n) (h : TK i n T s) : Tt (f_Lt_needSort t i) (fun y => (rSrt n T s ≠ 3 ∧ y.1 = .inl (nI (rSrt n T s)) ∧ TK y.2 n T (nw n T s) ∧ ft i y.2) ∨ (rSrt n T s = 3 ∧ y.1 = .inr 20 ∧ y.2 1595 2 = nI s ∧ fe i y.2)) := by
  unfold f_Lt_needSort rSrt
  refine tt_bind (v_takeWord (k := 27) hS hn (by decide) hs h) ?_
  rintro ⟨v, i2⟩ ⟨a1, a2, a3⟩
  dsimp only at a1 a2 a3 ⊢
  subst a1
  rw [show wd n T (2 * 27 + 2) s = wd n T 56 s from rfl] at a2 ⊢
  by_cases h1 : wd n T 56 s = true
  · rw [if_pos h1] at a2
    rw [if_pos h1, if_neg (show ¬ (1 : Int32) = 0 by decide), if_pos h1]
    exact tt_some (Or.inl ⟨by decide, rfl, a2, a3⟩)
  rw [if_neg h1] at a2
  rw [if_neg h1, if_pos (show (0 : Int32) = 0 from rfl), if_neg h1]
  refine tt_bind (v_takeWord (k := 28) (hS.fl a3.fl) hn (by decide) hs a2) ?_
  rintro ⟨v, i3⟩ ⟨b1, b2, b3⟩
  dsimp only at b1 b2 b3 ⊢
  subst b1
  rw [show wd n T (2 * 28 + 2) s = wd n T 58 s from rfl] at b2 ⊢
  have F := a3.trans b3
  by_cases h2 : wd n T 58 s = true
  · rw [if_pos h2] at b2
    rw [if_pos h2, if_neg (show ¬ (1 : Int32) = 0 by decide), if_pos h2]
    exact tt_some (Or.inl ⟨by decide, rfl, b2, F⟩)
  rw [if_neg h2] at b2
  rw [if_neg h2, if_pos (show (0 : Int32) = 0 from rfl), if_neg h2]
  refine tt_bind (v_needWord (k := 29) (hS.fl F.fl) hn (by decide) hs b2) ?_
  rintro ⟨v, i4⟩ (⟨c1, c2, c3, c4⟩ | ⟨c1, c2, c3, c4⟩)
  · dsimp only at c2 c3 c4
    subst c2
    rw [if_pos (show wd n T 60 s = true from c1)]
    exact tt_some (Or.inl ⟨by decide, rfl, c3, F.trans c4⟩)
  · dsimp only at c2 c3 c4
    subst c2
    rw [if_neg (show ¬ wd n T 60 s = true from c1)]
    exact tt_some (Or.inr ⟨rfl, rfl, c3, F.fe.trans c4⟩)
end LAWH
