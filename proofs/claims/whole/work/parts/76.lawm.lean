/-! ===== the reference's reckoning of the law ===== -/
def encC (s : Int32) : Int32 := if s < 0 then (if s = -11 then 14 else if s = -12 then 11 else if s = -13 then 12 else if s = -14 then 13 else if s = -15 then 15 else if s = -16 then 16 else -1 - s) else 10
def ML (i : MI) (L : LW) : Prop := i 1639 5 = (if L.1 = true then 1 else 0) ∧ (L.1 = true → i 1639 417 = nI L.2.1) ∧ ∀ k, k < L.2.1 → i 1639 (418 + 4 * k) = lso L k ∧ i 1639 (419 + 4 * k) = lam L k ∧ ∃ g, i 1639 (420 + 4 * k) = nI g ∧ i 1639 (421 + 4 * k) = nI (g + lm L k) ∧ g + lm L k ≤ 400 ∧ ∀ q, q < lm L k → i 1639 (466 + 2 * (g + q)) = encC (lcd L k q) ∧ (¬ lcd L k q < 0 → i 1639 (467 + 2 * (g + q)) = lcd L k q)
def bc (m : Nat) : Int32 := (f_J_bitCount (nI m)).getD 0
theorem j_bc (m : Nat) : f_J_bitCount (nI m) = some (bc m) := rfl
/-- how many lie on the slab -/
def lyg (S : SS) : Int32 := bc (plc S 2)
section LAWM
variable {i i' : MI} {S : SS} {L : LW}
theorem MV.congr (h : MV i S) (he : ∀ k, i' 1639 k = i 1639 k) : MV i' S := by
  obtain ⟨h1, h2, h3, h4, h5, h6, h7⟩ := h
  exact ⟨fun k a b => by rw [he]; exact h1 k a b, fun c hc => by rw [he]; exact h2 c hc, fun f hf k hk => by rw [he]; exact h3 f hf k hk, fun f hf k hk => by rw [he]; exact h4 f hf k hk, fun f hf k hk => by rw [he]; exact h5 f hf k hk, fun f hf k hk => by rw [he]; exact h6 f hf k hk, fun f hf k hk => by rw [he]; exact h7 f hf k hk⟩
theorem ML.congr (h : ML i L) (he : ∀ k, i' 1639 k = i 1639 k) : ML i' L := by
  unfold ML
  simp only [he]
  exact h
theorem enc_lf {s : Int32} (h : lf s) : ¬ (10 : Int32) < encC s := by
  rcases h with ⟨z, hz, rfl⟩ | ⟨z, h1, h2, rfl⟩
  · unfold encC
    rw [if_neg (nI_pos (by omega))]
    decide
  · exact neg10 (P := fun s => ¬ (10 : Int32) < encC s) (by decide) (by decide) (by decide) (by decide) (by decide) (by decide) (by decide) (by decide) (by decide) (by decide) z h1 h2
theorem m_factOf (hc : Cnt S) (h : MV i S) {f : Nat} (hf : f < nf S) {s n : Int32} (hs : lf s) (hn : ¬ s < 0 → n = s) : f_Mo_factOf i (encC s) n (nI f) = some (fct S f (lyg S) s) := by
  have h8 := hc.f8
  unfold f_Mo_factOf
  have e6 : i 1639 6 = S 0 0 6 := h.1 6 (by decide) (by decide)
  have e8 : i 1639 8 = S 0 0 8 := h.1 8 (by decide) (by decide)
  have g0 : f_Mo_of i (nI f) 0 = some (S 2 f 0) := m_of h (k := 0) (by omega) (by decide)
  have g1 : f_Mo_of i (nI f) 1 = some (S 2 f 1) := m_of h (k := 1) (by omega) (by decide)
  have g2 : f_Mo_of i (nI f) 2 = some (S 2 f 2) := m_of h (k := 2) (by omega) (by decide)
  have g3 : f_Mo_of i (nI f) 3 = some (S 2 f 3) := m_of h (k := 3) (by omega) (by decide)
  rw [g0, g1, g2, g3, e6, e8, m_allThat hc h 2]
  simp only [Option.bind_some, j_bc]
  rcases hs with ⟨z, hz, rfl⟩ | ⟨z, h1, h2, rfl⟩
  · have e : encC (nI z) = 10 := by unfold encC; rw [if_neg (nI_pos (by omega))]
    rw [e, fct_nI hz, hn (nI_pos (by omega))]
    rfl
  · rcases (show z = 1 ∨ z = 2 ∨ z = 3 ∨ z = 4 ∨ z = 5 ∨ z = 6 ∨ z = 7 ∨ z = 8 ∨ z = 9 ∨ z = 10 by omega) with rfl | rfl | rfl | rfl | rfl | rfl | rfl | rfl | rfl | rfl
    · rfl
    · rfl
    · rfl
    · rfl
    · rfl
    · rfl
    · rfl
    · show (if 0 < S 0 0 6 then some (1 : Int32) else some 0) = some (if 0 < S 0 0 6 then 1 else 0)
      split <;> rfl
    · show (if S 2 f 3 = 2 then some (1 : Int32) else some 0) = some (if S 2 f 3 = 2 then 1 else 0)
      split <;> rfl
    · show (if S 2 f 1 < 7 then some (0 : Int32) else some 1) = some (if S 2 f 1 < 7 then 0 else 1)
      split <;> rfl
set_option maxHeartbeats 2000000 in
theorem m_holds (hc : Cnt S) (h : MV i S) (hw : WL L) (hL : ML i L) {k : Nat} (hk : k < L.2.1) {f : Nat} (hf : f < nf S) : Tt (f_Mo_holdsLine i (nI k) (nI f)) (fun y => y.1 = (if hld S f (lyg S) L k = true then 1 else 0) ∧ ∀ b j, b ≠ 1646 → y.2 b j = i b j) := by
  obtain ⟨-, -, g, hg1, hg2, hg3, hg4⟩ := hL.2.2 k hk
  obtain ⟨-, -, hm400, hT⟩ := hw.2.2 k hk
  have h12 := hw.1
  have a2 : ((418 : Int32) + ((4 : Int32) * nI k)) + (2 : Int32) = nI (420 + 4 * k) := by rw [lit_nI 418, lit_nI 4, lit_nI 2, mul_nI, nI_add, nI_add]; congr 1; omega
  have a3 : ((418 : Int32) + ((4 : Int32) * nI k)) + (3 : Int32) = nI (421 + 4 * k) := by rw [lit_nI 418, lit_nI 4, lit_nI 3, mul_nI, nI_add, nI_add]; congr 1; omega
  have b0 : ∀ q, (466 : Int32) + ((2 : Int32) * nI q) = nI (466 + 2 * q) := fun q => by rw [lit_nI 466, lit_nI 2, mul_nI, nI_add]
  have b1 : ∀ q, ((466 : Int32) + ((2 : Int32) * nI q)) + (1 : Int32) = nI (467 + 2 * q) := fun q => by rw [b0, lit_nI 1, nI_add]; congr 1; omega
  unfold f_Mo_holdsLine
  simp only [b1]
  simp only [a2, a3, b0]
  refine tt_grd rfl (show 420 + 4 * k < _ by omega) (by omega) ?_
  refine tt_bind (P1 := fun y => y.1 = nI (evs (fct S f (lyg S)) (lcd L k) (lm L k)).1 ∧ (∀ j, j < (evs (fct S f (lyg S)) (lcd L k) (lm L k)).1 → y.2 1646 j = (evs (fct S f (lyg S)) (lcd L k) (lm L k)).2 j) ∧ ∀ b j, b ≠ 1646 → y.2 b j = i b j)
    (tt_loop (fun q (s : Int32 × Int32 × MI) => s.1 = nI (evs (fct S f (lyg S)) (lcd L k) q).1 ∧ s.2.1 = nI (g + q) ∧ (∀ j, j < (evs (fct S f (lyg S)) (lcd L k) q).1 → s.2.2 1646 j = (evs (fct S f (lyg S)) (lcd L k) q).2 j) ∧ ∀ b j, b ≠ 1646 → s.2.2 b j = i b j) (lm L k) (by omega) ?_ ?_ ?_) ?_
  · rintro q hq ⟨tp, ixx, i5⟩ ⟨e1, e2, e3, e4⟩
    dsimp only at e1 e2 e3 e4 ⊢
    subst e1 e2
    obtain ⟨hg5, hg6⟩ := hg4 q hq
    have r1 : i5 1639 (ix (nI (421 + 4 * k))) = nI (g + lm L k) := by rw [ix_nI (by omega), e4 _ _ (by omega), hg2]
    have r2 : i5 1639 (ix (nI (466 + 2 * (g + q)))) = encC (lcd L k q) := by rw [ix_nI (by omega), e4 _ _ (by omega), hg5]
    refine tt_grd rfl (show 421 + 4 * k < _ by omega) (by omega) ?_
    simp only [b1]
    simp only [b0]
    rw [r1, if_pos (nI_lt (by omega) (by omega))]
    refine tt_grd rfl (show 466 + 2 * (g + q) < _ by omega) (by omega) ?_
    rw [r2]
    rcases hT with hT | ⟨ty, htc, hty⟩
    · omega
    obtain ⟨T', ty', T2, ty2, p1, p2⟩ := tc_pre htc q hq
    obtain ⟨v1, v2, v3⟩ := ev_tc (F := fct S f (lyg S)) (fun s hs => fct_B hs) q T' ty' p1
    rw [v1] at e3 ⊢
    have fin : ∀ (p T1 : Nat) (v : Int32), p < 32 → st1 (fct S f (lyg S)) (lcd L k q) (evs (fct S f (lyg S)) (lcd L k) q) = (p + 1, up1 (evs (fct S f (lyg S)) (lcd L k) q).2 p v) → p ≤ T' → T1 = p + 1 →
        Tt (some (Sum.inl (nI T1, nI (g + q) + (1 : Int32), wr i5 1646 p v))) (lpP (fun (s' : Int32 × Int32 × MI) => s'.1 = nI (evs (fct S f (lyg S)) (lcd L k) (q + 1)).1 ∧ s'.2.1 = nI (g + (q + 1)) ∧ (∀ j, j < (evs (fct S f (lyg S)) (lcd L k) (q + 1)).1 → s'.2.2 1646 j = (evs (fct S f (lyg S)) (lcd L k) (q + 1)).2 j) ∧ ∀ b j, b ≠ 1646 → s'.2.2 b j = i b j) (fun (y : Int32 × MI) => y.1 = nI (evs (fct S f (lyg S)) (lcd L k) (lm L k)).1 ∧ (∀ j, j < (evs (fct S f (lyg S)) (lcd L k) (lm L k)).1 → y.2 1646 j = (evs (fct S f (lyg S)) (lcd L k) (lm L k)).2 j) ∧ ∀ b j, b ≠ 1646 → y.2 b j = i b j)) := by
      intro p T1 v hp hst hpT hT1
      subst hT1
      have he : evs (fct S f (lyg S)) (lcd L k) (q + 1) = (p + 1, up1 (evs (fct S f (lyg S)) (lcd L k) q).2 p v) := hst
      refine tt_some ?_
      rw [he]
      dsimp only [lpP]
      refine ⟨rfl, nI_1 (g + q), fun j hj => ?_, fun b j hb => ?_⟩
      · by_cases hjp : j = p
        · subst hjp; rw [wr_s]; exact up1_s.symm
        · rw [wr_k hjp]
          show _ = up1 (evs (fct S f (lyg S)) (lcd L k) q).2 p v j
          rw [up1_o hjp]
          exact e3 j (by show j < T'; have : j < p + 1 := hj; omega)
      · rw [wr_a hb]; exact e4 b j hb
    have h5 : MV i5 S := h.congr (fun k' => e4 1639 k' (by decide))
    rcases p2 with ⟨w1, w2, w3, w4, w5⟩ | ⟨w1, w2, w3, w4, w5⟩ | ⟨w1, w2, w3, w4⟩
    · rw [if_neg (enc_lf w1)]
      have r3 : ¬ lcd L k q < 0 → i5 1639 (ix (nI (467 + 2 * (g + q)))) = lcd L k q := fun hz => by rw [ix_nI (by omega), e4 _ _ (by decide), hg6 hz]
      rw [grd_nI (show 467 + 2 * (g + q) < 2115 by omega) (by omega), m_factOf hc h5 hf w1 r3]
      simp only [Option.bind_some]
      rw [grd_nI (show T' < 400 by omega) (by omega), ix_nI (by omega)]
      simp only [bnd, Option.bind_some]
      rw [nI_1 T']
      exact fin T' (T' + 1) _ w2 (by rw [st1_lf w1, v1]) (Nat.le_refl _) rfl
    · have hst : st1 (fct S f (lyg S)) (lcd L k q) (evs (fct S f (lyg S)) (lcd L k) q) = (T' - 1 + 1, up1 (evs (fct S f (lyg S)) (lcd L k) q).2 (T' - 1) (1 - (evs (fct S f (lyg S)) (lcd L k) q).2 (T' - 1))) := by
        rw [w1]; unfold st1; rw [if_pos rfl, v1, Nat.sub_add_cancel w2]
      have ee : encC (lcd L k q) = 14 := by rw [w1]; decide
      have es : nI T' - (1 : Int32) = nI (T' - 1) := sub_nI (b := 1) w2
      rw [ee, if_pos (by decide), if_pos rfl, es, grd_nI (show T' - 1 < 400 by omega) (by omega), ix_nI (by omega), e3 (T' - 1) (by omega)]
      simp only [bnd, Option.bind_some]
      exact fin (T' - 1) T' _ (by omega) hst (by omega) (by omega)
    · have d1 : nI T' + (-1 : Int32) = nI (T' - 1) := addm1 (by omega)
      have d2 : nI (T' - 1) - (1 : Int32) = nI (T' - 2) := sub_nI (a := T' - 1) (b := 1) (by omega)
      have c1 : T' - 2 + 1 = T' - 1 := by omega
      have q1 : i5 1646 (T' - 1) = (evs (fct S f (lyg S)) (lcd L k) q).2 (T' - 1) := e3 _ (by omega)
      have q2 : i5 1646 (T' - 2) = (evs (fct S f (lyg S)) (lcd L k) q).2 (T' - 2) := e3 _ (by omega)
      have ht1 := v3 (T' - 1) (by omega)
      have ht2 := v3 (T' - 2) (by omega)
      rcases w4 with ⟨w4, -, -, -⟩ | ⟨w4 | w4, -, -, -⟩ | ⟨w4 | w4, x1, x2, -⟩
      · have ee : encC (lcd L k q) = 11 := by rw [w4]; decide
        have f2 := fin (T' - 2) (T' - 1) ((evs (fct S f (lyg S)) (lcd L k) q).2 (T' - 2) + (evs (fct S f (lyg S)) (lcd L k) q).2 (T' - 1)) (by omega) (by rw [w4]; unfold st1; rw [if_neg (by decide), if_pos rfl, v1, c1]) (by omega) (by omega)
        simp only [ee, d1, d2]
        rw [if_pos (by decide), if_neg (by decide), grd_nI (show T' - 2 < 400 by omega) (by omega), grd_nI (show T' - 1 < 400 by omega) (by omega), ix_nI (by omega), ix_nI (by omega), q1, q2]
        rw [if_neg (by decide), if_neg (by decide), if_neg (by decide)]
        split <;> (simp only [bnd, Option.bind_some, if_true]; exact f2)
      · have ee : encC (lcd L k q) = 12 := by rw [w4]; decide
        have f2 := fin (T' - 2) (T' - 1) (if (evs (fct S f (lyg S)) (lcd L k) q).2 (T' - 2) < (evs (fct S f (lyg S)) (lcd L k) q).2 (T' - 1) then 1 else 0) (by omega) (by rw [w4]; unfold st1; rw [if_neg (by decide), if_neg (by decide), if_pos rfl, v1, c1]) (by omega) (by omega)
        simp only [ee, d1, d2]
        rw [if_pos (by decide), if_neg (by decide), grd_nI (show T' - 2 < 400 by omega) (by omega), grd_nI (show T' - 1 < 400 by omega) (by omega), ix_nI (by omega), ix_nI (by omega), q1, q2]
        rw [if_pos trivial]
        by_cases hh : (evs (fct S f (lyg S)) (lcd L k) q).2 (T' - 2) < (evs (fct S f (lyg S)) (lcd L k) q).2 (T' - 1)
        · rw [if_pos hh] at f2 ⊢
          exact f2
        · rw [if_neg hh] at f2 ⊢
          exact f2
      · have ee : encC (lcd L k q) = 13 := by rw [w4]; decide
        have f2 := fin (T' - 2) (T' - 1) (if (evs (fct S f (lyg S)) (lcd L k) q).2 (T' - 1) < (evs (fct S f (lyg S)) (lcd L k) q).2 (T' - 2) then 1 else 0) (by omega) (by rw [w4]; unfold st1; rw [if_neg (by decide), if_neg (by decide), if_neg (by decide), if_pos rfl, v1, c1]) (by omega) (by omega)
        simp only [ee, d1, d2]
        rw [if_pos (by decide), if_neg (by decide), grd_nI (show T' - 2 < 400 by omega) (by omega), grd_nI (show T' - 1 < 400 by omega) (by omega), ix_nI (by omega), ix_nI (by omega), q1, q2]
        rw [if_neg (by decide), if_pos trivial]
        by_cases hh : (evs (fct S f (lyg S)) (lcd L k) q).2 (T' - 1) < (evs (fct S f (lyg S)) (lcd L k) q).2 (T' - 2)
        · rw [if_pos hh] at f2 ⊢
          exact f2
        · rw [if_neg hh] at f2 ⊢
          exact f2
      · have ee : encC (lcd L k q) = 15 := by rw [w4]; decide
        have f2 := fin (T' - 2) (T' - 1) ((evs (fct S f (lyg S)) (lcd L k) q).2 (T' - 2) &&& (evs (fct S f (lyg S)) (lcd L k) q).2 (T' - 1)) (by omega) (by rw [w4]; unfold st1; rw [if_neg (by decide), if_neg (by decide), if_neg (by decide), if_neg (by decide), if_pos rfl, v1, c1]) (by omega) (by omega)
        obtain ⟨z1, z2⟩ := and01 (ht2 x2) (ht1 x1)
        simp only [ee, d1, d2]
        rw [if_pos (by decide), if_neg (by decide), grd_nI (show T' - 2 < 400 by omega) (by omega), grd_nI (show T' - 1 < 400 by omega) (by omega), ix_nI (by omega), ix_nI (by omega), q1, q2]
        rw [if_neg (by decide), if_neg (by decide), if_pos trivial]
        by_cases hh : (evs (fct S f (lyg S)) (lcd L k) q).2 (T' - 2) + (evs (fct S f (lyg S)) (lcd L k) q).2 (T' - 1) = 2
        · rw [z2.mp hh] at f2
          rw [if_pos hh]
          exact f2
        · rw [if_neg hh]
          rcases z1 with z1 | z1
          · rw [z1] at f2; exact f2
          · exact absurd (z2.mpr z1) hh
      · have ee : encC (lcd L k q) = 16 := by rw [w4]; decide
        have f2 := fin (T' - 2) (T' - 1) ((evs (fct S f (lyg S)) (lcd L k) q).2 (T' - 2) ||| (evs (fct S f (lyg S)) (lcd L k) q).2 (T' - 1)) (by omega) (by rw [w4]; unfold st1; rw [if_neg (by decide), if_neg (by decide), if_neg (by decide), if_neg (by decide), if_neg (by decide), if_pos rfl, v1, c1]) (by omega) (by omega)
        obtain ⟨z1, z2⟩ := or01 (ht2 x2) (ht1 x1)
        simp only [ee, d1, d2]
        rw [if_pos (by decide), if_neg (by decide), grd_nI (show T' - 2 < 400 by omega) (by omega), grd_nI (show T' - 1 < 400 by omega) (by omega), ix_nI (by omega), ix_nI (by omega), q1, q2]
        rw [if_neg (by decide), if_neg (by decide), if_neg (by decide)]
        by_cases hh : 0 < (evs (fct S f (lyg S)) (lcd L k) q).2 (T' - 2) + (evs (fct S f (lyg S)) (lcd L k) q).2 (T' - 1)
        · rw [z2.mp hh] at f2
          rw [if_pos hh]
          exact f2
        · rw [if_neg hh]
          rcases z1 with z1 | z1
          · rw [z1] at f2; exact f2
          · exact absurd (z2.mpr z1) hh
  · rintro ⟨tp, ixx, i5⟩ ⟨e1, e2, e3, e4⟩
    dsimp only at e1 e2 e3 e4 ⊢
    subst e1 e2
    have r1 : i5 1639 (ix (nI (421 + 4 * k))) = nI (g + lm L k) := by rw [ix_nI (by omega), e4 _ _ (by omega), hg2]
    refine tt_grd rfl (show 421 + 4 * k < _ by omega) (by omega) ?_
    refine tt_ifn (by rw [r1]; exact nI_nlt (Nat.le_refl _) (by omega)) ?_
    exact tt_some ⟨rfl, e3, e4⟩
  · refine ⟨rfl, ?_, fun j hj => (Nat.not_lt_zero j hj).elim, fun b j hb => rfl⟩
    show i 1639 (ix (nI (420 + 4 * k))) = nI (g + 0)
    rw [ix_nI (by omega), hg1, Nat.add_zero]
  · rintro ⟨tp, i5⟩ ⟨e1, e3, e4⟩
    dsimp only at e1 e3 e4 ⊢
    subst e1
    unfold hld
    rcases hT with hT | ⟨ty, htc, hty⟩
    · rw [hT]
      rw [if_pos (show nI (evs (fct S f (lyg S)) (lcd L k) 0).1 = 0 from rfl)]
      exact tt_some ⟨by simp, e4⟩
    · obtain ⟨v1, v2, v3⟩ := ev_tc (F := fct S f (lyg S)) (fun s hs => fct_B hs) _ 1 ty htc
      rw [v1] at e3 ⊢
      have hm0 : lm L k ≠ 0 := by
        intro q
        rw [q] at htc
        cases htc
      refine tt_ifn (by decide) ?_
      rcases v3 0 (by decide) hty with hz | hz
      · refine tt_ifn (by rw [e3 0 (by decide), hz]; decide) ?_
        exact tt_some ⟨by simp [hm0, hz], e4⟩
      · refine tt_ifp (by rw [e3 0 (by decide), hz]) ?_
        exact tt_some ⟨by simp [hz], e4⟩
theorem m_sum (hc : Cnt S) (h : MV i S) (hw : WL L) (hL : ML i L) {f : Nat} (hf : f < nf S) (w : Int32) : Tt (f_Mo_sumOf i w (nI f)) (fun y => y.1 = lsum S L w f (lyg S) ∧ ∀ b j, b ≠ 1646 → y.2 b j = i b j) := by
  have h12 := hw.1
  have a2 : ∀ q, (418 : Int32) + ((4 : Int32) * nI q) = nI (418 + 4 * q) := fun q => by rw [lit_nI 418, lit_nI 4, mul_nI, nI_add]
  have a3 : ∀ q, nI (418 + 4 * q) + (1 : Int32) = nI (419 + 4 * q) := fun q => by rw [nI_1]; congr 1; omega
  unfold f_Mo_sumOf
  refine tt_bind (P1 := fun y => y.1 = lsum S L w f (lyg S) ∧ ∀ b j, b ≠ 1646 → y.2 b j = i b j)
    (tt_loop (fun q (s : Int32 × Int32 × MI) => s.1 = fo (fun k x => if lso L k = w ∧ hld S f (lyg S) L k = true then x + lam L k else x) q 0 ∧ s.2.1 = nI q ∧ ∀ b j, b ≠ 1646 → s.2.2 b j = i b j) L.2.1 (by omega) ?_ ?_ ?_) ?_
  · rintro q hq ⟨x, ixx, i5⟩ ⟨e1, e2, e4⟩
    dsimp only at e1 e2 e4 ⊢
    subst e2
    have hL1 : L.1 = true := by
      cases hb : L.1 with
      | true => rfl
      | false => have := hw.2.1 hb; omega
    obtain ⟨q1, q2, -⟩ := hL.2.2 q hq
    have r0 : i5 1639 5 = 1 := by rw [e4 _ _ (by decide), hL.1, if_pos hL1]
    rw [r0, if_pos rfl, e4 1639 417 (by decide), hL.2.1 hL1, if_pos (nI_lt hq (by omega))]
    simp only [a2, a3]
    refine tt_grd rfl (show 418 + 4 * q < _ by omega) (by omega) ?_
    have r1 : i5 1639 (ix (nI (418 + 4 * q))) = lso L q := by rw [ix_nI (by omega), e4 _ _ (by omega), q1]
    have h5 : MV i5 S := h.congr (fun k' => e4 1639 k' (by decide))
    have hL5 : ML i5 L := hL.congr (fun k' => e4 1639 k' (by decide))
    have hfo : fo (fun k x => if lso L k = w ∧ hld S f (lyg S) L k = true then x + lam L k else x) (q + 1) 0 = (if lso L q = w ∧ hld S f (lyg S) L q = true then x + lam L q else x) := by rw [e1]; rfl
    rw [r1]
    refine tt_bind (P1 := fun y => y.1 = (if lso L q = w ∧ hld S f (lyg S) L q = true then x + lam L q else x) ∧ ∀ b j, b ≠ 1646 → y.2 b j = i b j) ?_ ?_
    · by_cases hs : lso L q = w
      · rw [if_pos hs]
        refine tt_bind (m_holds hc h5 hw hL5 hq hf) ?_
        rintro ⟨v, i6⟩ ⟨u1, u2⟩
        dsimp only at u1 u2 ⊢
        have u3 : ∀ b j, b ≠ 1646 → i6 b j = i b j := fun b j hb => by rw [u2 b j hb, e4 b j hb]
        by_cases hh : hld S f (lyg S) L q = true
        · rw [if_pos hh] at u1
          subst u1
          rw [if_neg (by decide)]
          refine tt_grd rfl (show 419 + 4 * q < _ by omega) (by omega) ?_
          refine tt_some ⟨?_, u3⟩
          dsimp only
          rw [if_pos ⟨hs, hh⟩, ix_nI (by omega), u3 _ _ (by omega), q2]
        · rw [if_neg hh] at u1
          subst u1
          rw [if_pos rfl]
          refine tt_some ⟨?_, u3⟩
          rw [if_neg (fun q9 => hh q9.2)]
      · rw [if_neg hs]
        refine tt_some ⟨?_, e4⟩
        rw [if_neg (fun q9 => hs q9.1)]
    · rintro ⟨x', i6⟩ ⟨u1, u2⟩
      dsimp only at u1 u2 ⊢
      refine tt_some ⟨?_, nI_1 q, u2⟩
      dsimp only
      rw [hfo, u1]
  · rintro ⟨x, ixx, i5⟩ ⟨e1, e2, e4⟩
    dsimp only at e1 e2 e4 ⊢
    subst e2
    rw [e4 1639 5 (by decide), hL.1]
    by_cases hb : L.1 = true
    · rw [if_pos hb, if_pos rfl, e4 1639 417 (by decide), hL.2.1 hb, if_neg (nI_nlt (Nat.le_refl _) (by omega))]
      exact tt_some ⟨e1, e4⟩
    · rw [if_neg hb, if_neg (by decide)]
      exact tt_some ⟨e1, e4⟩
  · exact ⟨rfl, rfl, fun b j _ => rfl⟩
  · rintro ⟨x, i5⟩ ⟨e1, e4⟩
    exact tt_some ⟨e1, e4⟩
end LAWM
