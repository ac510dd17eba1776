/-! ===== a law's lines: the reference's line ===== -/
def fml (x : Nat) (i i' : MI) : Prop := ∀ b j, ¬ (b = 1638 ∧ (j = 10 ∨ j = 12 ∨ j = 13 ∨ j = 16)) → ¬ (b = 1639 ∧ ((1267 + 4 * x ≤ j ∧ j < 1271 + 4 * x) ∨ 1315 ≤ j)) → i' b j = i b j
section LAWI
variable {t : MT} {i : MI} {n : Nat} {T : Nat → Int32} {c : Cd}
theorem fml.trans {x : Nat} {i j k : MI} (h : fml x i j) (h2 : fml x j k) : fml x i k := fun b q h1 h3 => (h2 b q h1 h3).trans (h b q h1 h3)
theorem fmo.fml {x : Nat} {i j : MI} (h : fmo i j) : fml x i j := fun b q h1 h3 => h b q h1 (by omega)
theorem fml_w {x j : Nat} (h1 : 1267 + 4 * x ≤ j) (h2 : j < 1271 + 4 * x) (v : Int32) : fml x i (wr i 1639 j v) := fun b k _ h => if_neg (by omega)
theorem KM.wl {j : Nat} (h : KM i c) (hj : j < 1315) (v : Int32) : KM (wr i 1639 j v) c := ⟨by rw [wr_a (by decide)]; exact h.1, fun k hk => ⟨by rw [wr_k (by omega)]; exact (h.2 k hk).1, fun q => by rw [wr_k (by omega)]; exact (h.2 k hk).2 q⟩⟩
theorem m_srt (hS : SV t i) (hn : n ≤ 400) {s : Nat} (hs : s ≤ n) (h : LeS i n T s) : f_Mo_isWord t i 166 = some (if wd n T 56 s = true then 1 else 0) ∧ f_Mo_isWord t i 168 = some (if wd n T 58 s = true then 1 else 0) ∧ f_Mo_isWord t i 170 = some (if wd n T 60 s = true then 1 else 0) :=
  ⟨m_isWd hS hn 82 27 (by decide) (by decide) hs h, m_isWd hS hn 83 28 (by decide) (by decide) hs h, m_isWd hS hn 84 29 (by decide) (by decide) hs h⟩
theorem m_law1 (hS : SV t i) (hn : n ≤ 400) {s x : Nat} (hx : x < 12) (hs : tks n T s) (h : LeS i n T s) (hc : KM i c) (hl : c.1 ≤ s) : Tt (f_Mo_readLawLine t i (nI x)) (fun y => fml x i y.2 ∧ match rLaw1 n T s c with
    | .inl e => y.1 = 0 ∧ y.2 1638 12 = nI e
    | .inr p => y.1 = 1 ∧ RS y.2 n T p.1 ∧ KM y.2 p.2.2 ∧ y.2 1639 (1267 + 4 * x) = p.2.1.1 ∧ y.2 1639 (1267 + 4 * x + 1) = p.2.1.2.1 ∧ y.2 1639 (1267 + 4 * x + 2) = nI c.1 ∧ y.2 1639 (1267 + 4 * x + 3) = nI p.2.1.2.2) := by
  obtain ⟨s1, s2, s3⟩ := m_srt hS hn hs.1 h
  have hs1 := hs.1
  have e0 : (1267 : Int32) + 4 * nI x = nI (1267 + 4 * x) := by rw [lit_nI 1267, lit_nI 4, mul_nI, nI_add]
  have e1 : ((1267 : Int32) + 4 * nI x) + 1 = nI (1267 + 4 * x + 1) := by rw [e0, nI_1]
  have e2 : ((1267 : Int32) + 4 * nI x) + 2 = nI (1267 + 4 * x + 2) := by rw [e0, lit_nI 2, nI_add]
  have e3 : ((1267 : Int32) + 4 * nI x) + 3 = nI (1267 + 4 * x + 3) := by rw [e0, lit_nI 3, nI_add]
  unfold f_Mo_readLawLine rLaw1
  rw [s1, Option.bind_some, s2, Option.bind_some, s3, Option.bind_some]
  refine tt_bind (P1 := fun y => y = if rSrt n T s = 3 then -1 else nI (rSrt n T s)) ?_ ?_
  · unfold rSrt
    by_cases h1 : wd n T 56 s = true
    · rw [if_pos h1, if_neg (show ¬ (1 : Int32) = 0 by decide), if_pos h1]; exact tt_some rfl
    rw [if_neg h1, if_pos (show (0 : Int32) = 0 from rfl), if_neg h1]
    by_cases h2 : wd n T 58 s = true
    · rw [if_pos h2, if_neg (show ¬ (1 : Int32) = 0 by decide), if_pos h2]; exact tt_some rfl
    rw [if_neg h2, if_pos (show (0 : Int32) = 0 from rfl), if_neg h2]
    by_cases h4 : wd n T 60 s = true
    · rw [if_pos h4, if_neg (show ¬ (1 : Int32) = 0 by decide), if_pos h4]; exact tt_some rfl
    rw [if_neg h4, if_pos (show (0 : Int32) = 0 from rfl), if_neg h4]
    exact tt_some rfl
  rintro y hy
  refine tt_grd e0 (by omega) (by decide) (tt_bnd ?_)
  rw [show ix (1267 + 4 * nI x) = 1267 + 4 * x by rw [e0]; exact ix_nI (by omega), wr_s]
  have F1 : fml x i (wr i 1639 (1267 + 4 * x) y) := fml_w (by omega) (by omega) y
  by_cases h3 : rSrt n T s = 3
  · rw [if_pos h3] at hy
    rw [if_pos (show y < 0 by rw [hy]; decide), if_pos h3]
    exact tt_some ⟨F1, rfl, (show wr i 1639 (1267 + 4 * x) y 1638 12 = nI s by rw [wr_a (by decide)]; exact h.2.1)⟩
  obtain ⟨r1, r2⟩ := rSrt_wd h3
  have w1 := nx_wd (k := 27 + rSrt n T s) (by omega) s hs r2
  rw [if_neg h3] at hy
  rw [if_neg (show ¬ y < 0 by rw [hy]; exact (enc_nI (by omega)).2), if_neg h3]
  have R1 := (h.rs hs1).w (1267 + 4 * x) y
  have K1 := hc.wl (j := 1267 + 4 * x) (by omega) y
  have Y1 : wr i 1639 (1267 + 4 * x) y 1639 (1267 + 4 * x) = y := wr_s
  generalize wr i 1639 (1267 + 4 * x) y = i13 at F1 R1 K1 Y1
  refine tt_bind (m_number hn (lo := 0) (hi := 99) (by decide) (by decide) R1) ?_
  rintro ⟨v, i17⟩ ⟨hv, d2, d3⟩
  dsimp only at hv d2 d3 ⊢
  refine tt_grd e1 (by omega) (by decide) (tt_bnd ?_)
  rw [show ix ((1267 + 4 * nI x) + 1) = 1267 + 4 * x + 1 by rw [e1]; exact ix_nI (by omega), wr_s]
  have F2 : fml x i (wr i17 1639 (1267 + 4 * x + 1) v) := (F1.trans d3.fmo.fml).trans (fml_w (by omega) (by omega) v)
  rcases hv with ⟨w, q, a1, a2, a3, a4, rfl, a6⟩ | ⟨a1, rfl⟩
  rotate_left
  · rw [if_pos (show (-1 : Int32) < 0 by decide), a1]
    exact tt_some ⟨F2, rfl, (show wr i17 1639 (1267 + 4 * x + 1) (-1) 1638 12 = nI (nw n T s) by rw [wr_a (by decide)]; exact d2)⟩
  rw [if_neg (enc_nI (by omega)).2, a1]
  dsimp only
  obtain ⟨m1, _⟩ := nmb_gt w1.2.1 a1
  have R2 := a6.w (1267 + 4 * x + 1) (nI w)
  have K2 := (K1.fz d3).wl (j := 1267 + 4 * x + 1) (by omega) (nI w)
  have Y2 : wr i17 1639 (1267 + 4 * x + 1) (nI w) 1639 (1267 + 4 * x) = y ∧ wr i17 1639 (1267 + 4 * x + 1) (nI w) 1639 (1267 + 4 * x + 1) = nI w := ⟨by rw [wr_k (by omega), d3 _ _ (by omega)]; exact Y1, wr_s⟩
  generalize wr i17 1639 (1267 + 4 * x + 1) (nI w) = i20 at F2 R2 K2 Y2
  refine tt_grd e2 (by omega) (by decide) (tt_bnd (tt_bnd ?_))
  rw [show ix ((1267 + 4 * nI x) + 2) = 1267 + 4 * x + 2 by rw [e2]; exact ix_nI (by omega), K2.1]
  have F3 : fml x i (wr (wr i20 1639 (1267 + 4 * x + 2) (nI c.1)) 1638 13 0) := (F2.trans (fml_w (by omega) (by omega) _)).trans (fmo_w13 0).fml
  have R3 := (R2.w (1267 + 4 * x + 2) (nI c.1)).w13 0
  have K3 := (K2.wl (j := 1267 + 4 * x + 2) (by omega) (nI c.1)).w13 0
  have Y3 : wr (wr i20 1639 (1267 + 4 * x + 2) (nI c.1)) 1638 13 0 1639 (1267 + 4 * x) = y ∧ wr (wr i20 1639 (1267 + 4 * x + 2) (nI c.1)) 1638 13 0 1639 (1267 + 4 * x + 1) = nI w ∧ wr (wr i20 1639 (1267 + 4 * x + 2) (nI c.1)) 1638 13 0 1639 (1267 + 4 * x + 2) = nI c.1 ∧ wr (wr i20 1639 (1267 + 4 * x + 2) (nI c.1)) 1638 13 0 1638 13 = 0 :=
    ⟨by rw [wr_a (by decide), wr_k (by omega)]; exact Y2.1, by rw [wr_a (by decide), wr_k (by omega)]; exact Y2.2, by rw [wr_a (by decide), wr_s], wr_s⟩
  generalize wr (wr i20 1639 (1267 + 4 * x + 2) (nI c.1)) 1638 13 0 = i26 at F3 R3 K3 Y3
  have S3 : SV t i26 := hS.congr (fun b j hb => F3 b j (by omega) (by omega))
  refine tt_bind (m_passes (k := 85) S3 hn (by decide) R3) ?_
  rintro ⟨v, i28⟩ ⟨c1, c2, c3, c4⟩
  rw [wd_eqw (show wch (2 * 85 + 2) = wch (2 * 30 + 2) by decide)] at c1 c2
  rw [show wd n T (2 * 30 + 2) q = wd n T 62 q from rfl] at c1 c2
  dsimp only at c1 c2 c3 c4 ⊢
  subst c1
  have F4 := F3.trans c4.fmo.fml
  have last : ∀ (i' : MI) (q' : Nat) (c' : Cd), fmo i26 i' → RS i' n T q' → KM i' c' → fml x i (wr i' 1639 (1267 + 4 * x + 3) (i' 1638 16)) ∧ RS (wr i' 1639 (1267 + 4 * x + 3) (i' 1638 16)) n T q' ∧ KM (wr i' 1639 (1267 + 4 * x + 3) (i' 1638 16)) c' ∧ wr i' 1639 (1267 + 4 * x + 3) (i' 1638 16) 1639 (1267 + 4 * x) = nI (rSrt n T s) ∧ wr i' 1639 (1267 + 4 * x + 3) (i' 1638 16) 1639 (1267 + 4 * x + 1) = nI w ∧ wr i' 1639 (1267 + 4 * x + 3) (i' 1638 16) 1639 (1267 + 4 * x + 2) = nI c.1 ∧ wr i' 1639 (1267 + 4 * x + 3) (i' 1638 16) 1639 (1267 + 4 * x + 3) = nI c'.1 := fun i' q' c' g1 g2 g3 =>
    ⟨(F3.trans g1.fml).trans (fml_w (by omega) (by omega) _), g2.w _ _, g3.wl (by omega) _, by rw [wr_k (by omega), g1 _ _ (by omega) (by omega), Y3.1, hy], by rw [wr_k (by omega), g1 _ _ (by omega) (by omega)]; exact Y3.2.1, by rw [wr_k (by omega), g1 _ _ (by omega) (by omega)]; exact Y3.2.2.1, by rw [wr_s]; exact g3.1⟩
  have e4 : ix ((1267 + 4 * nI x) + 3) = 1267 + 4 * x + 3 := by rw [e3]; exact ix_nI (by omega)
  by_cases h62 : wd n T 62 q = true
  · rw [if_pos h62] at c2
    rw [if_pos h62, if_neg (show ¬ (1 : Int32) = 0 by decide), if_pos h62]
    have w2 := nx_wd (k := 30) (by decide) q a2 h62
    refine tt_bind ((m_lx hn 6 (by decide)).1 30 (by decide) i28 (nw n T q) c (S3.fmo c4.fmo) c2 (K3.fz c4) (by have := w2.1; have := w1.1; omega) ((c4 1638 13 (by omega)).trans Y3.2.2.2)) ?_
    rintro ⟨v, i35⟩ ⟨hw, hf⟩
    dsimp only
    cases hq : (lx n T 6).1 (nw n T q) c with
    | inl e =>
      rw [hq] at hw
      obtain ⟨z1, z2⟩ := hw
      dsimp only at z1 z2 hf
      subst z1
      exact tt_some ⟨F4.trans hf.fml, rfl, z2⟩
    | inr u =>
      rw [hq] at hw
      obtain ⟨z1, z2, z3, z4⟩ := hw
      dsimp only at z1 z2 z3 z4 hf
      subst z1
      rw [if_neg (show ¬ (1 : Int32) = 0 by decide)]
      obtain ⟨l1, l2, l3, l4, l5, l6, l7⟩ := last i35 u.1 u.2 (c4.fmo.trans hf) z2 z3
      refine tt_grd e3 (by omega) (by decide) (tt_bnd ?_)
      rw [e4]
      exact tt_some ⟨l1, rfl, l2, l3, l4, l5, l6, l7⟩
  · rw [if_neg h62] at c2
    rw [if_neg h62, if_pos (show (0 : Int32) = 0 from rfl), if_neg h62]
    obtain ⟨l1, l2, l3, l4, l5, l6, l7⟩ := last i28 q c c4.fmo c2 (K3.fz c4)
    refine tt_grd e3 (by omega) (by decide) (tt_bnd ?_)
    rw [e4]
    exact tt_some ⟨l1, rfl, l2, l3, l4, l5, l6, l7⟩
end LAWI
