/-! ===== the waters: the reference ===== -/
section SEAO
variable {t : MT} {i : MI} {n : Nat} {T : Nat → Int32} {S : SS}
theorem wyr_r {s : Nat} (h : wy n T s < 5) : wyr n T s = .inr (wy n T s, nw n T s) := if_pos h
theorem wyr_l {s : Nat} (h : ¬ wy n T s < 5) : wyr n T s = .inl s := if_neg h
theorem wy_let {s : Nat} (hs : s ≤ n) (h : wy n T s < 5) : s < n ∧ srt (T s) = 1 := by
  have h1 : wd n T (6 + 2 * wy n T s) s = true := (ffs_sp (fun j => wd n T (6 + 2 * j) s) 5 0).2.2.2 (by show wy n T s < 0 + 5; omega)
  have h2 : wd n T (2 * (2 + wy n T s) + 2) s = true := by rw [show 2 * (2 + wy n T s) + 2 = 6 + 2 * wy n T s by omega]; exact h1
  have h3 := wd_le h2
  obtain ⟨h4, -, -⟩ := wln_lt (2 + wy n T s) (by omega)
  exact (le_gt hs).mp (by omega)
theorem let_sgn {s : Nat} (h : s < n ∧ srt (T s) = 1) : ¬ sgn n T 59 s = true := fun q => by
  unfold sgn at q
  rw [Bool.and_eq_true, decide_eq_true_eq, decide_eq_true_eq] at q
  rw [q.2] at h
  exact absurd h.2 (by decide)
theorem m_rCur (hS : SV t i) (hn : n ≤ 400) {s : Nat} (hs : tks n T s) (h : LeS i n T s) (hw : Wf S) (hv : MV i S) : Tt (f_Mo_readCurrent t i) (MPl n T i (rCur n T S (nw n T s))) := by
  unfold f_Mo_readCurrent rCur
  refine tt_bind (m_number hn (lo := 0) (hi := 24) (by decide) (by decide) (h.rs hs.1)) ?_
  rintro ⟨v, i2⟩ ⟨hx, b2, b3⟩
  dsimp only at hx b2 b3 ⊢
  rcases hx.symm with ⟨u1, rfl⟩ | ⟨c, q1, u1, tq1, -, c24, rfl, u6⟩
  · rw [u1, bd_l, if_pos (show (-1 : Int32) < 0 by decide)]
    exact tt_some ⟨b3.gx, Or.inl ⟨rfl, b2⟩⟩
  rw [u1, bd_r, if_neg (nI_pos (by omega))]
  have hS2 : SV t i2 := hS.congr (fun b j hb => b3 b j (by omega))
  refine tt_bind (m_wayR hS2 hn u6) ?_
  rintro ⟨w, i6⟩ ⟨a1, a2, a3⟩
  dsimp only at a1 a2 a3 ⊢
  subst a1
  have f6 := b3.trans a3
  generalize eR : (bd (wyr n T q1) fun w s2 => rCl n T (25 - c) (c + 1) (su S 1 0 c (nI w)) s2) = R
  refine tt_bind (P1 := fun v => v = if wy n T q1 < 5 then 1 else 0) ?_ ?_
  · by_cases c5 : wy n T q1 < 5
    · rw [if_pos c5, if_neg (nI_m1 (by omega)), if_pos c5]; exact tt_some rfl
    · rw [if_neg c5, if_pos (show (-1 : Int32) = -1 from rfl), if_neg c5]; exact tt_some rfl
  rintro v rfl
  refine tt_bind (P1 := MPl n T i R)
    (tt_loop (fun j (x : Int32 × Int32 × Int32 × MI) => (x.2.1 = -1 ∧ MPl n T i R (x.2.2.1, x.2.2.2)) ∨ (∃ S1 q, x.1 = nI (c + j) ∧ c + j ≤ 25 ∧ wy n T q < 5 ∧ x.2.1 = nI (wy n T q) ∧ x.2.2.1 = 1 ∧ tks n T q ∧ LeS x.2.2.2 n T q ∧ Wf S1 ∧ MV x.2.2.2 S1 ∧ gx i x.2.2.2 ∧ R = (if c + j = 25 then .inl q else bd (wyr n T q) fun w s1 => rCl n T (25 - (c + j)) (c + j + 1) (su S1 1 0 (c + j) (nI w)) s1))) 27 (by omega) ?_ ?_ ?_) ?_
  · rintro j hj ⟨x1, x2, x3, i13⟩ hx
    dsimp only at hx ⊢
    rcases hx with ⟨rfl, hx⟩ | ⟨S1, q, rfl, e1, e2, rfl, rfl, e3, e4, e5, e6, e7, e8⟩
    · rw [if_pos (show (-1 : Int32) = -1 from rfl)]
      exact tt_some hx
    rw [if_neg (nI_m1 (by omega)), if_neg (show ¬ (1 : Int32) = 0 by decide)]
    have hlet := wy_let e3.1 e2
    by_cases c25 : c + j = 25
    · rw [if_pos c25] at e8
      rw [if_neg (show ¬ nI (c + j) < 25 from nI_nlt (b := 25) (by omega) (by omega)), Option.bind_some]
      rw [if_pos (show (0 : Int32) = 0 from rfl), Option.bind_some, if_pos (show (0 : Int32) = 0 from rfl), Option.bind_some]
      dsimp only
      rw [if_pos (show (-1 : Int32) = -1 from rfl), if_pos (show (0 : Int32) = 0 from rfl), Option.bind_some]
      refine tt_some (Or.inl ⟨rfl, e7, ?_⟩)
      rw [e8]
      exact Or.inl ⟨rfl, e4.2.1⟩
    · rw [if_neg c25, wyr_r e2, bd_r] at e8
      have z11 : (11 : Int32) + nI (c + j) = nI (11 + (c + j)) := by rw [lit_nI 11, nI_add]
      rw [if_pos (show nI (c + j) < 25 from nI_lt (b := 25) (by omega) (by decide)), Option.bind_some, if_neg (show ¬ (1 : Int32) = 0 by decide), z11, grd_nI (show 11 + (c + j) < 2115 by omega) (by decide), ix_nI (by omega)]
      dsimp only [bnd]
      rw [Option.bind_some, if_neg (show ¬ (1 : Int32) = 0 by decide)]
      have g13 := e7.w (k := 11 + (c + j)) (by omega) (nI (wy n T q))
      have hM13 := e6.cur (show c + j < 25 by omega) (nI (wy n T q))
      have hR13 := (e4.rs e3.1).w (11 + (c + j)) (nI (wy n T q))
      have hw13 : Wf (su S1 1 0 (c + j) (nI (wy n T q))) := wf_cur e5 e2
      have h10 : wr i13 1639 (11 + (c + j)) (nI (wy n T q)) 1638 10 = nI (le n T q) := by rw [wr_a (by decide)]; exact e4.2.2
      generalize wr i13 1639 (11 + (c + j)) (nI (wy n T q)) = i27 at g13 hM13 hR13 h10
      have hq' := (tks_nw (T := T) e3.1)
      refine tt_bind (tt_eta (m_wayR (hS.gx g13) hn hR13)) ?_
      rintro ⟨w', i38⟩ ⟨k1, k2, k3⟩
      dsimp only at k1 k2 k3 ⊢
      subst k1
      have g38 := g13.trans k3.gx
      have hM38 : MV i38 (su S1 1 0 (c + j) (nI (wy n T q))) := hM13.fz k3
      by_cases c5 : wy n T (nw n T q) < 5
      · rw [if_pos c5, if_neg (nI_m1 (by omega)), Option.bind_some]
        refine tt_some (Or.inr ⟨_, nw n T q, nI_1 _, by omega, c5, rfl, rfl, hq', k2, hw13, hM38, g38, ?_⟩)
        have hl2 := wy_let hq'.1 c5
        rw [e8, show 25 - (c + j) = (25 - (c + (j + 1))) + 1 by omega]
        show (if nw n T q < n ∧ srt (T (nw n T q)) = 1 then (if c + j + 1 = 25 then .inl (nw n T q) else bd (wyr n T (nw n T q)) fun w s1 => rCl n T (25 - (c + (j + 1))) (c + j + 1 + 1) (su _ 1 0 (c + j + 1) (nI w)) s1) else _) = _
        rw [if_pos hl2]
        rfl
      · rw [if_neg c5, if_pos (show (-1 : Int32) = -1 from rfl), if_neg (show ¬ (1 : Int32) = 0 by decide), h10, Option.bind_some]
        have hRS : RS (wr i38 1638 10 (nI (le n T q))) n T (nw n T q) := ⟨⟨by rw [wr_k (by decide)]; exact k2.1.1, fun k hk => by rw [wr_a (by decide)]; exact k2.1.2 k hk⟩, le n T q, (le_b e3.1).2.1, rfl, wr_s⟩
        have g39 := g38.w8 (k := 10) (Or.inl rfl) (nI (le n T q))
        have hM39 : MV (wr i38 1638 10 (nI (le n T q))) (su S1 1 0 (c + j) (nI (wy n T q))) := hM38.congr (fun k => wr_a (by decide))
        refine tt_some (Or.inl ⟨rfl, g39, ?_⟩)
        rw [e8, show 25 - (c + j) = (25 - (c + (j + 1))) + 1 by omega]
        have es : rCl n T (25 - (c + (j + 1)) + 1) (c + j + 1) (su S1 1 0 (c + j) (nI (wy n T q))) (nw n T q) = if nw n T q < n ∧ srt (T (nw n T q)) = 1 then (if c + j + 1 = 25 then .inl (nw n T q) else bd (wyr n T (nw n T q)) fun w s1 => rCl n T (25 - (c + (j + 1))) (c + j + 1 + 1) (su (su S1 1 0 (c + j) (nI (wy n T q))) 1 0 (c + j + 1) (nI w)) s1) else .inr (su S1 1 0 (c + j) (nI (wy n T q)), nw n T q) := rfl
        rw [es]
        by_cases cl : nw n T q < n ∧ srt (T (nw n T q)) = 1
        · have e9 : (if c + j + 1 = 25 then Sum.inl (nw n T q) else bd (wyr n T (nw n T q)) fun w s1 => rCl n T (25 - (c + (j + 1))) (c + j + 1 + 1) (su (su S1 1 0 (c + j) (nI (wy n T q))) 1 0 (c + j + 1) (nI w)) s1) = Sum.inl (nw n T q) := by
            split
            · rfl
            · rw [wyr_l c5, bd_l]
          rw [if_pos cl, e9]
          exact Or.inr ⟨rfl, hRS, by omega, let_sgn cl⟩
        · rw [if_neg cl]
          exact ⟨rfl, hw13, hM39, hRS⟩
  · rintro ⟨x1, x2, x3, i13⟩ hx
    dsimp only at hx ⊢
    rcases hx with ⟨rfl, hx⟩ | ⟨S1, q, rfl, e1, -⟩
    · rw [if_pos (show (-1 : Int32) = -1 from rfl)]
      exact tt_some hx
    · omega
  · dsimp only
    by_cases c5 : wy n T q1 < 5
    · rw [if_pos c5, if_pos c5]
      refine Or.inr ⟨S, q1, rfl, by omega, c5, rfl, rfl, tq1, a2, hw, hv.fz f6, f6.gx, ?_⟩
      rw [← eR, if_neg (show ¬ c + 0 = 25 by omega)]
      rfl
    · rw [if_neg c5, if_neg c5]
      refine Or.inl ⟨rfl, f6.gx, ?_⟩
      rw [← eR, wyr_l c5, bd_l]
      exact Or.inl ⟨rfl, a2.2.1⟩
  · rintro ⟨x3, i16⟩ hx
    refine tt_grd2 (decide_eq_true ?_) (tt_some hx)
    obtain ⟨-, hx⟩ := hx
    cases R with
    | inl e =>
      rcases hx with ⟨q, -⟩ | ⟨q, -⟩
      · exact Or.inl q
      · exact Or.inr q
    | inr p => exact Or.inr hx.1
theorem mpl_01 {x : Nat ⊕ (SS × Nat)} {y : Int32 × MI} (h : MPl n T i x y) : y.1 = 0 ∨ y.1 = 1 := by
  obtain ⟨-, hx⟩ := h
  cases x with
  | inl e =>
    rcases hx with ⟨q, -⟩ | ⟨q, -⟩
    · exact Or.inl q
    · exact Or.inr q
  | inr p => exact Or.inr hx.1
theorem tt_g2 {P : Int32 × MI → Prop} {o : Option (Int32 × MI)} (h : Tt o P) (h01 : ∀ y, P y → y.1 = 0 ∨ y.1 = 1) : Tt (o.bind fun y => grd2 (decide (y.1 = 0 ∨ y.1 = 1)) (some (y.1, y.2))) P := by
  obtain ⟨y, h1, h2⟩ := h
  rw [h1]
  exact tt_grd2 (decide_eq_true (h01 y h2)) (tt_some (by cases y; exact h2))
theorem m_readNum (hn : n ≤ 400) {s k : Nat} (hk : k < 11) (h5 : k ≠ 5) (h : RS i n T s) (hv : MV i S) : Tt (f_Mo_readNumber i (nI k) 0 999) (fun y => gx i y.2 ∧ ((∃ v q, nmb n T 0 999 s = .inr (v, q) ∧ v ≤ 999 ∧ y.1 = 1 ∧ MV y.2 (su S 0 0 k (nI v)) ∧ RS y.2 n T q) ∨ (nmb n T 0 999 s = .inl s ∧ y.1 = 0 ∧ y.2 1638 12 = nI s))) := by
  unfold f_Mo_readNumber
  refine tt_bind (m_number hn (lo := 0) (hi := 999) (by decide) (by decide) h) ?_
  rintro ⟨v, i2⟩ ⟨hx, b2, b3⟩
  dsimp only at hx b2 b3 ⊢
  rcases hx.symm with ⟨u1, rfl⟩ | ⟨c, q1, u1, -, -, c9, rfl, u6⟩
  · rw [if_pos (show (-1 : Int32) < 0 by decide), grd_nI (show k < 2115 by omega) (by decide), ix_nI (by omega), Option.bind_some]
    rw [grd_nI (show k < 2115 by omega) (by decide)]
    refine tt_bnd ?_
    rw [if_pos (show (-1 : Int32) < 0 by decide)]
    exact tt_some ⟨b3.gx.w (by omega) _, Or.inr ⟨u1, rfl, (show wr i2 1639 k (i2 1639 k) 1638 12 = nI s by rw [wr_a (by decide)]; exact b2)⟩⟩
  · rw [if_neg (nI_pos (by omega)), Option.bind_some, grd_nI (show k < 2115 by omega) (by decide), ix_nI (by omega)]
    refine tt_bnd ?_
    rw [if_neg (nI_pos (by omega))]
    exact tt_some ⟨b3.gx.w (by omega) _, Or.inl ⟨c, q1, u1, c9, rfl, (hv.fz b3).scal hk h5 (nI c), u6.w _ _⟩⟩
theorem m_rLine (hS : SV t i) (hn : n ≤ 400) {s : Nat} (hs : tks n T s) (h : LeS i n T s) (hw : Wf S) (hv : MV i S) : Tt (f_Mo_readSeaLine t i) (MPl n T i (rLine n T S s)) := by
  have w4 : f_Mo_isWord t i 116 = some (if wd n T 4 s = true then 1 else 0) := m_isWd hS hn 57 1 (by decide) (by decide) hs.1 h
  have w16 : f_Mo_isWord t i 128 = some (if wd n T 16 s = true then 1 else 0) := m_isWd hS hn 63 7 (by decide) (by decide) hs.1 h
  have w32 : f_Mo_isWord t i 144 = some (if wd n T 32 s = true then 1 else 0) := m_isWd hS hn 71 15 (by decide) (by decide) hs.1 h
  have w38 : f_Mo_isWord t i 150 = some (if wd n T 38 s = true then 1 else 0) := m_isWd hS hn 74 18 (by decide) (by decide) hs.1 h
  have w46 : f_Mo_isWord t i 158 = some (if wd n T 46 s = true then 1 else 0) := m_isWd hS hn 78 22 (by decide) (by decide) hs.1 h
  have w50 : f_Mo_isWord t i 162 = some (if wd n T 50 s = true then 1 else 0) := m_isWd hS hn 80 24 (by decide) (by decide) hs.1 h
  have w52 : f_Mo_isWord t i 164 = some (if wd n T 52 s = true then 1 else 0) := m_isWd hS hn 81 25 (by decide) (by decide) hs.1 h
  unfold f_Mo_readSeaLine rLine
  rw [w4, Option.bind_some]
  by_cases c4 : wd n T 4 s = true
  · rw [if_pos c4, if_neg (show ¬ (1 : Int32) = 0 by decide), if_pos c4]
    exact tt_g2 (m_rCur hS hn hs h hw hv) (fun _ => mpl_01)
  rw [if_neg c4, if_pos (show (0 : Int32) = 0 from rfl), if_neg c4, w16, Option.bind_some]
  by_cases c16 : wd n T 16 s = true
  · rw [if_pos c16, if_neg (show ¬ (1 : Int32) = 0 by decide), if_pos c16]
    exact tt_g2 (m_rFish hS hn hs h hw hv) (fun _ => mpl_01)
  rw [if_neg c16, if_pos (show (0 : Int32) = 0 from rfl), if_neg c16, w32, Option.bind_some]
  by_cases c32 : wd n T 32 s = true
  · rw [if_pos c32, if_neg (show ¬ (1 : Int32) = 0 by decide), if_pos c32]
    exact tt_g2 (m_rBoat hS hn hs h hw hv) (fun _ => mpl_01)
  rw [if_neg c32, if_pos (show (0 : Int32) = 0 from rfl), if_neg c32, w38, Option.bind_some]
  by_cases c38 : wd n T 38 s = true
  · rw [if_pos c38, if_neg (show ¬ (1 : Int32) = 0 by decide), if_pos c38]
    exact tt_g2 (m_rBuyer hS hn hs h hw hv) (fun _ => mpl_01)
  rw [if_neg c38, if_pos (show (0 : Int32) = 0 from rfl), if_neg c38, w46, Option.bind_some]
  by_cases c46 : wd n T 46 s = true
  · rw [if_pos c46, if_neg (show ¬ (1 : Int32) = 0 by decide), if_pos c46]
    exact tt_g2 (m_rDead hS hn hs h hw hv) (fun _ => mpl_01)
  rw [if_neg c46, if_pos (show (0 : Int32) = 0 from rfl), if_neg c46, w50, Option.bind_some]
  by_cases c50 : wd n T 50 s = true
  · rw [if_pos c50, if_neg (show ¬ (1 : Int32) = 0 by decide), if_pos c50]
    refine tt_g2 ?_ (fun _ => mpl_01)
    refine tt_mono (m_readNum hn (k := 6) (by decide) (by decide) (h.rs hs.1) hv) ?_
    rintro ⟨v, i2⟩ ⟨g1, ⟨c, q, e1, e2, e3, e4, e5⟩ | ⟨e1, e2, e3⟩⟩
    · rw [e1, bd_r]; exact ⟨g1, e3, hw.one (Or.inl ⟨rfl, c, e2, rfl⟩), e4, e5⟩
    · rw [e1, bd_l]; exact ⟨g1, Or.inl ⟨e2, e3⟩⟩
  rw [if_neg c50, if_pos (show (0 : Int32) = 0 from rfl), if_neg c50, w52, Option.bind_some]
  by_cases c52 : wd n T 52 s = true
  · rw [if_pos c52, if_neg (show ¬ (1 : Int32) = 0 by decide), if_pos c52]
    refine tt_bind (m_readNum hn (k := 8) (by decide) (by decide) (h.rs hs.1) hv) ?_
    rintro ⟨v, i2⟩ ⟨g1, hx⟩
    dsimp only at g1 hx ⊢
    rcases hx with ⟨c, q, e1, e2, rfl, e4, e5⟩ | ⟨e1, rfl, e3⟩
    · rw [e1, bd_r, if_neg (show ¬ (1 : Int32) = 0 by decide)]
      exact tt_some ⟨g1, rfl, hw.one (Or.inr (Or.inr (Or.inl ⟨rfl, c, by omega, rfl⟩))), e4, e5⟩
    · rw [e1, bd_l, if_pos (show (0 : Int32) = 0 from rfl)]
      exact tt_some ⟨g1, Or.inl ⟨rfl, e3⟩⟩
  rw [if_neg c52, if_pos (show (0 : Int32) = 0 from rfl), if_neg c52]
  exact tt_some ⟨fun _ _ _ _ => rfl, Or.inl ⟨rfl, h.2.1⟩⟩
end SEAO
