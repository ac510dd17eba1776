/-! ===== law: the reference's call ===== -/
section LAWK
variable {t : MT} {i : MI} {n : Nat} {T : Nat → Int32} {c : Cd}
theorem ML_of {i i' : MI} {x : Nat} {L : LTb} (hK : KM i L.2) (hT : TI i x L) (hL : LOK n x L n) (hn : n ≤ 400) (h5 : i' 1639 5 = 1) (h417 : i' 1639 417 = nI x) (hc : ∀ j, 418 ≤ j → j < 1266 → i' 1639 j = i 1639 (j + 849)) : ML i' (lawOf x L) := by
  obtain ⟨l1, l2, l3, l4⟩ := hL
  refine ⟨h5, fun _ => h417, fun k hk => ?_⟩
  have hk : k < x := hk
  obtain ⟨b1, b2, b3, b4, b5⟩ := l4 k hk
  obtain ⟨t1, t2, t3, t4⟩ := hT k hk
  have sb : lbg L k + ((L.1 k).2.2 - lbg L k) = (L.1 k).2.2 := by omega
  refine ⟨?_, ?_, lbg L k, ?_, ?_, ?_, fun q hq => ?_⟩
  · rw [hc _ (by omega) (by omega), show 418 + 4 * k + 849 = 1267 + 4 * k by omega]; exact t1
  · rw [hc _ (by omega) (by omega), show 419 + 4 * k + 849 = 1267 + 4 * k + 1 by omega]; exact t2
  · rw [hc _ (by omega) (by omega), show 420 + 4 * k + 849 = 1267 + 4 * k + 2 by omega]; exact t3
  · rw [hc _ (by omega) (by omega), show 421 + 4 * k + 849 = 1267 + 4 * k + 3 by omega, t4]
    show nI (L.1 k).2.2 = nI (lbg L k + ((L.1 k).2.2 - lbg L k))
    rw [sb]
  · show lbg L k + ((L.1 k).2.2 - lbg L k) ≤ 400
    omega
  · have hq : q < (L.1 k).2.2 - lbg L k := hq
    have hk2 := hK.2 (lbg L k + q) (by omega)
    rw [hc _ (by omega) (by omega), hc _ (by omega) (by omega), show 466 + 2 * (lbg L k + q) + 849 = 1315 + 2 * (lbg L k + q) by omega, show 467 + 2 * (lbg L k + q) + 849 = 1315 + 2 * (lbg L k + q) + 1 by omega]
    exact hk2
theorem m_law (hS : SV t i) (hn : n ≤ 400) (ht : TM i n T) : Tt (f_Mo_law t i) (fun y => y.2 1638 9 = 0 ∧ (∀ b j, ¬ (b = 1638 ∧ (j = 0 ∨ j = 7 ∨ j = 9 ∨ j = 10 ∨ j = 11 ∨ j = 12 ∨ j = 13 ∨ j = 14 ∨ j = 16)) → ¬ (b = 1639 ∧ (j = 5 ∨ 417 ≤ j)) → y.2 b j = i b j) ∧ match rLawA n T with
    | .inl e => y.2 1638 0 = 1 ∧ y.2 1638 14 = nI e ∧ y.2 1638 7 = i 1638 7 ∧ ∀ j, j < 1267 → y.2 1639 j = i 1639 j
    | .inr p => y.2 1638 0 = 0 ∧ y.1 = nI p.1 ∧ y.2 1638 14 = -1 ∧ y.2 1638 7 = 0 ∧ ML y.2 (lawOf p.1 p.2) ∧ WL (lawOf p.1 p.2)) := by
  unfold f_Mo_law
  refine tt_bind (m_readAll0 hS hn ht) ?_
  rintro ⟨v, i2⟩ ⟨a1, a2, a3, a4⟩
  dsimp only at a1 a2 a3 a4 ⊢
  cases hr : rLawA n T with
  | inl e =>
    rw [hr] at a4
    obtain ⟨rfl, b2⟩ := a4
    rw [if_pos (show (-1 : Int32) < 0 by decide), Option.bind_some]
    refine tt_bnd ?_
    rw [if_pos (show (-1 : Int32) < 0 by decide), Option.bind_some, thr1, Option.bind_some]
    dsimp only
    rw [if_neg (show ¬ (1 : Int32) = 0 by decide)]
    refine tt_some ⟨?_, fun b j h1 h2 => ?_, (show wr (wr i2 1638 14 (i2 1638 12)) 1638 0 1 1638 0 = 1 from wr_s), ?_, ?_, fun j hj => ?_⟩
    · show wr (wr i2 1638 14 (i2 1638 12)) 1638 0 1 1638 9 = 0
      rw [wr_k (by decide), wr_k (by decide)]; exact a1
    · show wr (wr i2 1638 14 (i2 1638 12)) 1638 0 1 b j = i b j
      have q1 : wr (wr i2 1638 14 (i2 1638 12)) 1638 0 1 b j = wr i2 1638 14 (i2 1638 12) b j := if_neg (by omega)
      have q2 : wr i2 1638 14 (i2 1638 12) b j = i2 b j := if_neg (by omega)
      rw [q1, q2]; exact a3 b j (by omega) (by omega)
    · show wr (wr i2 1638 14 (i2 1638 12)) 1638 0 1 1638 14 = nI e
      rw [wr_k (by decide), wr_s]; exact b2
    · show wr (wr i2 1638 14 (i2 1638 12)) 1638 0 1 1638 7 = i 1638 7
      rw [wr_k (by decide), wr_k (by decide)]; exact a3 _ _ (by omega) (by omega)
    · show wr (wr i2 1638 14 (i2 1638 12)) 1638 0 1 1639 j = i 1639 j
      rw [wr_a (by decide), wr_a (by decide)]; exact a3 _ _ (by omega) (by omega)
  | inr p =>
    rw [hr] at a4
    obtain ⟨rfl, b2, b3, b4⟩ := a4
    have hx := b4.2.1
    have hp : ¬ nI p.1 < 0 := (enc_nI (by omega)).2
    rw [if_neg hp, Option.bind_some]
    refine tt_bnd ?_
    rw [if_neg hp, Option.bind_some, thr0, Option.bind_some]
    dsimp only
    rw [if_pos (show (0 : Int32) = 0 from rfl)]
    refine tt_bnd ?_
    have c1 : ∀ b j, ¬ (b = 1638 ∧ j = 14) → ¬ (b = 1639 ∧ j = 1266) → wr (wr i2 1638 14 (-1)) 1639 1266 (nI p.1) b j = i2 b j := fun b j h1 h2 => by
      have q1 : wr (wr i2 1638 14 (-1)) 1639 1266 (nI p.1) b j = wr i2 1638 14 (-1) b j := if_neg h2
      have q2 : wr i2 1638 14 (-1) b j = i2 b j := if_neg h1
      rw [q1, q2]
    have c2 : wr (wr i2 1638 14 (-1)) 1639 1266 (nI p.1) 1639 1266 = nI p.1 := wr_s
    have c3 : wr (wr i2 1638 14 (-1)) 1639 1266 (nI p.1) 1638 14 = -1 := by rw [wr_a (by decide), wr_s]
    generalize wr (wr i2 1638 14 (-1)) 1639 1266 (nI p.1) = i13 at c1 c2 c3
    refine tt_bind (P1 := fun i' => ∀ b j, i' b j = if b = 1639 ∧ 417 ≤ j ∧ j < 1266 then i13 1639 (j + 849) else i13 b j)
      (tt_loop (fun q (s : Int32 × MI) => s.1 = nI q ∧ ∀ b j, s.2 b j = if b = 1639 ∧ 417 ≤ j ∧ j < 417 + q then i13 1639 (j + 849) else i13 b j) 849 (by omega) ?_ ?_ ⟨rfl, fun b j => by rw [if_neg (by omega)]⟩) ?_
    · rintro q hq ⟨z, s2⟩ ⟨e1, e2⟩
      dsimp only at e1 e2 ⊢
      subst e1
      rw [lit_nI 849, if_pos (nI_lt hq (by omega)), lit_nI 1266, nI_add, lit_nI 417, nI_add, grd_nI (show 1266 + q < 2115 by omega) (by decide), grd_nI (show 417 + q < 2115 by omega) (by decide), ix_nI (by omega), ix_nI (by omega), e2 1639 (1266 + q), if_neg (by omega)]
      refine tt_bnd (tt_some ⟨nI_1 q, fun b j => ?_⟩)
      show wr s2 1639 (417 + q) (i13 1639 (1266 + q)) b j = _
      by_cases e : b = 1639 ∧ j = 417 + q
      · rw [e.1, e.2, wr_s, if_pos ⟨rfl, by omega, by omega⟩, show 417 + q + 849 = 1266 + q by omega]
      · have : wr s2 1639 (417 + q) (i13 1639 (1266 + q)) b j = s2 b j := if_neg e
        rw [this, e2]
        by_cases e3 : b = 1639 ∧ 417 ≤ j ∧ j < 417 + q
        · rw [if_pos e3, if_pos ⟨e3.1, e3.2.1, by omega⟩]
        · rw [if_neg e3, if_neg (by omega)]
    · rintro ⟨z, s2⟩ ⟨e1, e2⟩
      dsimp only at e1 e2 ⊢
      subst e1
      rw [lit_nI 849, if_neg (nI_nlt (Nat.le_refl _) (by omega))]
      exact tt_some e2
    intro i16 d1
    refine tt_bnd (tt_bnd ?_)
    have g : ∀ b j, ¬ (b = 1639 ∧ j = 5) → ¬ (b = 1638 ∧ j = 7) → wr (wr i16 1639 5 1) 1638 7 0 b j = i16 b j := fun b j h1 h2 => by
      have q1 : wr (wr i16 1639 5 1) 1638 7 0 b j = wr i16 1639 5 1 b j := if_neg h2
      have q2 : wr i16 1639 5 1 b j = i16 b j := if_neg h1
      rw [q1, q2]
    have g5 : wr (wr i16 1639 5 1) 1638 7 0 1639 5 = 1 := by rw [wr_a (by decide), wr_s]
    have g7 : wr (wr i16 1639 5 1) 1638 7 0 1638 7 = 0 := wr_s
    generalize wr (wr i16 1639 5 1) 1638 7 0 = i26 at g g5 g7
    refine tt_some ⟨?_, fun b j h1 h2 => ?_, ?_, rfl, ?_, g7, ?_, b4.wl hn⟩
    · show i26 1638 9 = 0
      rw [g _ _ (by omega) (by omega), d1, if_neg (by omega), c1 _ _ (by omega) (by omega)]; exact a1
    · show i26 b j = i b j
      rw [g _ _ (by omega) (by omega), d1, if_neg (by omega), c1 _ _ (by omega) (by omega)]; exact a3 b j (by omega) (by omega)
    · show i26 1638 0 = 0
      rw [g _ _ (by omega) (by omega), d1, if_neg (by omega), c1 _ _ (by omega) (by omega)]; exact a2
    · show i26 1638 14 = -1
      rw [g _ _ (by omega) (by omega), d1, if_neg (by omega)]; exact c3
    · show ML i26 (lawOf p.1 p.2)
      refine ML_of (n := n) (i' := i26) b2 b3 b4 hn g5 ?_ (fun j h1 h2 => ?_)
      · rw [g _ _ (by omega) (by omega), d1, if_pos ⟨rfl, by omega, by omega⟩]; exact c2
      · rw [g _ _ (by omega) (by omega), d1, if_pos ⟨rfl, by omega, by omega⟩]; exact c1 _ _ (by omega) (by omega)
end LAWK
