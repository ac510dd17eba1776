/-! ===== acts, 4: tell ===== -/
def sa0 (S : SS) (k z c : Int32) : SS := su (su (su (su (su S 2 (nf S) 0 k) 2 (nf S) 1 z) 2 (nf S) 2 90) 2 (nf S) 3 0) 2 (nf S) 4 c
def sad (S : SS) (k z c : Int32) : SS := su (sa0 S k z c) 0 0 0 (nI (nf S + 1))
def spTell (W : PW) (k c z : Int32) : (Int32 × Int32) × PW := if okx k 4 = true ∧ okx c 25 = true then (if win z 1 9 = true then (if nf W.1 < 8 then ((0, nI (nf W.1)), psh W (sad W.1 k z c)) else ((3, 0), W)) else ((2, 0), W)) else ((1, 0), W)
theorem sa0_o {S : SS} {k z c : Int32} {x y w : Nat} (h : ¬ (x = 2 ∧ y = nf S)) : sa0 S k z c x y w = S x y w := by
  unfold sa0
  rw [su_o (by omega), su_o (by omega), su_o (by omega), su_o (by omega), su_o (by omega)]
theorem sa0_f (S : SS) (k z c : Int32) : sa0 S k z c 2 (nf S) 0 = k ∧ sa0 S k z c 2 (nf S) 1 = z ∧ sa0 S k z c 2 (nf S) 2 = 90 ∧ sa0 S k z c 2 (nf S) 3 = 0 ∧ sa0 S k z c 2 (nf S) 4 = c := by
  unfold sa0
  refine ⟨?_, ?_, ?_, ?_, ?_⟩
  · rw [su_o (by omega), su_o (by omega), su_o (by omega), su_o (by omega), su_s]
  · rw [su_o (by omega), su_o (by omega), su_o (by omega), su_s]
  · rw [su_o (by omega), su_o (by omega), su_s]
  · rw [su_o (by omega), su_s]
  · rw [su_s]
theorem sa0_n (S : SS) (k z c : Int32) : nf (sa0 S k z c) = nf S := by unfold nf; rw [sa0_o (by omega)]
section TELL
variable {i : MI} {t : MT} {r : MR} {a lw : Nat} {S : SS} {W : PW} {L : LW}
theorem CV.more (hc : Cnt S) (h : CV i a S) {n : Nat} (hn : n = nf S + 1) (h8 : nf S < 8) (hf : i (a + 3 + nf S) 0 = S 2 (nf S) 0 ∧ i (a + 3 + nf S) 1 = S 2 (nf S) 1 ∧ i (a + 3 + nf S) 2 = S 2 (nf S) 2 ∧ i (a + 3 + nf S) 3 = S 2 (nf S) 3 ∧ i (a + 3 + nf S) 4 = spo (S 2 (nf S) 3) (S 2 (nf S) 4) ∧ i (a + 3 + nf S) 5 = abo (S 2 (nf S) 3) (S 2 (nf S) 4)) : CV (wr i a 7 (nI n)) a (su S 0 0 0 (nI n)) ∧ nf (su S 0 0 0 (nI n)) = n := by
  obtain ⟨⟨a1, a2, a3, a4, a5, a6, a7, a8, a9⟩, h2, h3, h4, h5, h6, h7, x, hx, h8', h9⟩ := h
  have q0 : nf (su S 0 0 0 (nI n)) = n := by unfold nf; rw [su_s, nI_clamp (by omega)]
  have q1 : nb (su S 0 0 0 (nI n)) = nb S := nb_su (by omega)
  have q2 : ny (su S 0 0 0 (nI n)) = ny S := ny_su (by omega)
  have q3 : nd (su S 0 0 0 (nI n)) = nd S := nd_su (by omega)
  have q4 : nl (su S 0 0 0 (nI n)) = nl S := nl_su (by omega)
  refine ⟨⟨⟨?_, ?_, ?_, ?_, ?_, ?_, ?_, ?_, ?_⟩, fun c hc => ?_, fun f hf' => ?_, fun b hb => ?_, fun y hy => ?_, fun d hd => ?_, ?_, x, hx, ?_, fun g hg k hk => ?_⟩, q0⟩
  · rw [wr_s, su_s]
  · rw [wr_k (by omega), su_o (by omega)]; exact a2
  · rw [wr_k (by omega), su_o (by omega)]; exact a3
  · rw [wr_k (by omega), su_o (by omega)]; exact a4
  · rw [wr_k (by omega), su_o (by omega)]; exact a5
  · rw [wr_k (by omega), su_o (by omega)]; exact a6
  · rw [wr_k (by omega), su_o (by omega)]; exact a7
  · rw [wr_k (by omega), su_o (by omega)]; exact a8
  · rw [wr_k (by omega), su_o (by omega)]; exact a9
  · rw [wr_a (by omega), su_o (by omega)]; exact h2 c hc
  · rw [q0] at hf'
    have e1 : ∀ j, wr i a 7 (nI n) (a + 3 + f) j = i (a + 3 + f) j := fun j => wr_a (by omega)
    have e2 : ∀ j, su S 0 0 0 (nI n) 2 f j = S 2 f j := fun j => su_o (by omega)
    rw [e1, e1, e1, e1, e1, e1, e2, e2, e2, e2, e2]
    by_cases e : f = nf S
    · rw [e]; exact hf
    · exact h3 f (by omega)
  · rw [q1] at hb
    rw [wr_a (by omega), wr_a (by omega), wr_a (by omega), su_o (by omega), su_o (by omega), su_o (by omega)]; exact h4 b hb
  · rw [q2] at hy
    rw [wr_a (by omega), wr_a (by omega), wr_a (by omega), wr_a (by omega), su_o (by omega), su_o (by omega), su_o (by omega), su_o (by omega)]; exact h5 y hy
  · rw [q3] at hd
    rw [wr_a (by omega), wr_a (by omega), su_o (by omega), su_o (by omega)]; exact h6 d hd
  · rw [wr_a (by omega), su_o (by omega)]; exact h7
  · rw [wr_a (by omega)]; exact h8'
  · rw [q4] at hg
    rw [wr_a (by omega), su_o (by omega)]; exact h9 g hg k hk
theorem sad_wf (hw : Wf S) (h8 : nf S < 8) {k z c : Nat} (hk : k < 4) (hz1 : 1 ≤ z) (hz : z ≤ 9) (hc : c < 25) : Wf (sad S (nI k) (nI z) (nI c)) := by
  have e0 : ∀ x y w, ¬ (x = 2 ∧ y = nf S) → ¬ (x = 0 ∧ y = 0 ∧ w = 0) → sad S (nI k) (nI z) (nI c) x y w = S x y w := fun x y w h1 h2 => by
    unfold sad
    rw [su_o h2, sa0_o h1]
  have e2 : ∀ w, sad S (nI k) (nI z) (nI c) 2 (nf S) w = sa0 S (nI k) (nI z) (nI c) 2 (nf S) w := fun w => by
    unfold sad
    rw [su_o (by omega)]
  have q0 : sad S (nI k) (nI z) (nI c) 0 0 0 = nI (nf S + 1) := by unfold sad; rw [su_s]
  have n0 : nf (sad S (nI k) (nI z) (nI c)) = nf S + 1 := by
    show (sad S (nI k) (nI z) (nI c) 0 0 0).toNatClampNeg = _
    rw [q0, nI_clamp (by omega)]
  have n1 : nb (sad S (nI k) (nI z) (nI c)) = nb S := by unfold nb; rw [e0 _ _ _ (by omega) (by omega)]
  have n2 : ny (sad S (nI k) (nI z) (nI c)) = ny S := by unfold ny; rw [e0 _ _ _ (by omega) (by omega)]
  have n3 : nd (sad S (nI k) (nI z) (nI c)) = nd S := by unfold nd; rw [e0 _ _ _ (by omega) (by omega)]
  have n4 : nl (sad S (nI k) (nI z) (nI c)) = nl S := by unfold nl; rw [e0 _ _ _ (by omega) (by omega)]
  obtain ⟨f0, f1, f2, f3, f4⟩ := sa0_f S (nI k) (nI z) (nI c)
  obtain ⟨w0, w1, w2, w3, w4, w5, w6, w7, w8, w9⟩ := hw
  obtain ⟨c0, c1, c2, c3, c4⟩ := w0
  refine ⟨⟨?_, ?_, ?_, ?_, ?_⟩, fun j hj => ?_, fun f hf => ?_, fun f hf => ?_, fun f hf => ?_, fun f hf => ?_, ?_, ?_, ?_, ?_⟩
  · rw [n0, q0]; exact ⟨rfl, by omega⟩
  · rw [n1, e0 _ _ _ (by omega) (by omega)]; exact c1
  · rw [n2, e0 _ _ _ (by omega) (by omega)]; exact c2
  · rw [n3, e0 _ _ _ (by omega) (by omega)]; exact c3
  · rw [n4, e0 _ _ _ (by omega) (by omega)]; exact c4
  · rw [e0 _ _ _ (by omega) (by omega)]; exact w1 j hj
  · rw [n0] at hf
    rw [n1]
    by_cases e : f = nf S
    · subst e
      rw [e2, e2, e2, e2, e2, f0, f1, f2, f3, f4]
      exact ⟨⟨k, hk, rfl⟩, ⟨z, hz1, hz, rfl⟩, ⟨90, by decide, rfl⟩, Or.inl ⟨rfl, c, hc, rfl⟩⟩
    · have e3 : ∀ w, sad S (nI k) (nI z) (nI c) 2 f w = S 2 f w := fun w => e0 _ _ _ (by omega) (by omega)
      rw [e3, e3, e3, e3, e3]; exact w2 f (by omega)
  · rw [n1] at hf
    have e3 : ∀ w, sad S (nI k) (nI z) (nI c) 3 f w = S 3 f w := fun w => e0 _ _ _ (by omega) (by omega)
    rw [e3, e3, e3]; exact w3 f hf
  · rw [n2] at hf
    have e3 : ∀ w, sad S (nI k) (nI z) (nI c) 4 f w = S 4 f w := fun w => e0 _ _ _ (by omega) (by omega)
    rw [e3, e3, e3, e3]; exact w4 f hf
  · rw [n3] at hf
    have e3 : ∀ w, sad S (nI k) (nI z) (nI c) 5 f w = S 5 f w := fun w => e0 _ _ _ (by omega) (by omega)
    rw [e3, e3]; exact w5 f hf
  · rw [e0 _ _ _ (by omega) (by omega)]; exact w6
  · rw [e0 _ _ _ (by omega) (by omega)]; exact w7
  · rw [e0 _ _ _ (by omega) (by omega)]; exact w8
  · rw [e0 _ _ _ (by omega) (by omega)]; exact w9
theorem v_addFish (hc : Cnt S) (h : CV i a S) (h8 : nf S < 8) (k c z : Int32) : Tt (f_Se_addFish i a k c z) (fun y => y.1 = nI (nf S) ∧ CV y.2 a (sad S k z c) ∧ ∀ b j, (b < a ∨ a + 31 ≤ b) → y.2 b j = i b j) := by
  unfold f_Se_addFish f_Se_put
  rw [h.1.1, hc.f, lit_nI 8, if_pos (nI_lt h8 (by decide)), grd_nI h8 (by decide), ix_nI (by omega)]
  refine tt_bnd (tt_bnd (tt_bnd ?_))
  rw [grd_nI h8 (by decide)]
  refine tt_bind (tt_bnd (tt_bnd (tt_bnd (tt_some (P := fun i7 => ((∀ b j, b ≠ a + 3 + nf S → i7 b j = i b j) ∧ (i7 (a + 3 + nf S) 0 = k ∧ i7 (a + 3 + nf S) 1 = z ∧ i7 (a + 3 + nf S) 2 = 90 ∧ i7 (a + 3 + nf S) 3 = 0 ∧ i7 (a + 3 + nf S) 4 = c ∧ i7 (a + 3 + nf S) 5 = -1))) ⟨fun b j hb => ?_, ?_, ?_, ?_, ?_, ?_, ?_⟩)))) ?_
  · rw [wr_a hb, wr_a hb, wr_a hb, wr_a hb, wr_a hb, wr_a hb]
  · rw [wr_k (by decide), wr_k (by decide), wr_k (by decide), wr_k (by decide), wr_k (by decide), wr_s]
  · rw [wr_k (by decide), wr_k (by decide), wr_k (by decide), wr_k (by decide), wr_s]
  · rw [wr_k (by decide), wr_k (by decide), wr_k (by decide), wr_s]
  · rw [wr_k (by decide), wr_k (by decide), wr_s]
  · rw [wr_k (by decide), wr_s]
  · rw [wr_s]
  · rintro i7 ⟨hi, g0, g1, g2, g3, g4, g5⟩
    obtain ⟨f0, f1, f2, f3, f4⟩ := sa0_f S k z c
    obtain ⟨u1, u2⟩ := h.fish (i' := i7) (S' := sa0 S k z c) hc h8 hi (fun x y w hn => sa0_o hn) (fun q => absurd q (Nat.lt_irrefl _))
    have e7 : i7 a 7 = nI (nf S) := (hi a 7 (by omega)).trans (h.1.1.trans hc.f)
    rw [e7, nI_1]
    have hm := CV.more (n := nf S + 1) u2 u1 (by rw [sa0_n]) (by rw [sa0_n]; exact h8) (by
      rw [sa0_n, f0, f1, f2, f3, f4]
      refine ⟨g0, g1, g2, g3, ?_, ?_⟩
      · rw [g4]; unfold spo; rw [if_pos rfl]
      · rw [g5]; unfold abo; rw [if_neg (by decide)])
    refine tt_bnd (tt_some ⟨rfl, hm.1, fun b j hb => ?_⟩)
    show wr i7 a 7 _ b j = _
    rw [wr_a (by omega)]; exact hi b j (by omega)
theorem mfa (f k : Nat) : f_Mo_fishAt (nI f) (nI k) = some (nI (36 + 5 * f + k)) := by
  unfold f_Mo_fishAt
  rw [lit_nI 36, lit_nI 5, mul_nI, nI_add, nI_add]
theorem m_isFish (hc : Cnt S) (h : MV i S) (h8 : nf S < 8) (k c z : Int32) : Tt (f_Mo_isFish i k c z 90) (fun i' => MV i' (sad S k z c) ∧ fm i i') := by
  have a0 : f_Mo_fishAt (nI (nf S)) 0 = some (nI (36 + 5 * nf S + 0)) := mfa _ 0
  have a1 : f_Mo_fishAt (nI (nf S)) 1 = some (nI (36 + 5 * nf S + 1)) := mfa _ 1
  have a2 : f_Mo_fishAt (nI (nf S)) 2 = some (nI (36 + 5 * nf S + 2)) := mfa _ 2
  have a3 : f_Mo_fishAt (nI (nf S)) 3 = some (nI (36 + 5 * nf S + 3)) := mfa _ 3
  have a4 : f_Mo_fishAt (nI (nf S)) 4 = some (nI (36 + 5 * nf S + 4)) := mfa _ 4
  unfold f_Mo_isFish
  rw [m_fishes h, hc.f, Option.bind_some, a0, Option.bind_some, grd_nI (show 36 + 5 * nf S + 0 < 2115 by omega) (by decide), ix_nI (by omega)]
  refine tt_bnd ?_
  rw [a1, Option.bind_some, grd_nI (show 36 + 5 * nf S + 1 < 2115 by omega) (by decide), ix_nI (by omega)]
  refine tt_bnd ?_
  rw [a2, Option.bind_some, grd_nI (show 36 + 5 * nf S + 2 < 2115 by omega) (by decide), ix_nI (by omega)]
  refine tt_bnd ?_
  rw [a3, Option.bind_some, grd_nI (show 36 + 5 * nf S + 3 < 2115 by omega) (by decide), ix_nI (by omega)]
  refine tt_bnd ?_
  rw [a4, Option.bind_some, grd_nI (show 36 + 5 * nf S + 4 < 2115 by omega) (by decide), ix_nI (by omega)]
  refine tt_bnd (tt_bnd (tt_some ?_))
  have hM := ((((h.fish h8 (show 0 < 5 by decide) k).fish h8 (show 1 < 5 by decide) z).fish h8 (show 2 < 5 by decide) 90).fish h8 (show 3 < 5 by decide) 0).fish h8 (show 4 < 5 by decide) c
  have e0 := hM.1 0 (by decide) (by decide)
  rw [e0, su_o (by omega), su_o (by omega), su_o (by omega), su_o (by omega), su_o (by omega), hc.f, nI_1]
  exact ⟨hM.scal (by decide) (by decide) _, fm_wr (fm_wr (fm_wr (fm_wr (fm_wr (fm_wr (fm.refl i) (by omega) (by omega)) (by omega) (by omega)) (by omega) (by omega)) (by omega) (by omega)) (by omega) (by omega)) (by omega) (by omega)⟩
theorem v_tell (hw : WW W) (h : CW i r lw W) (hlw : LwOK lw) (x y z : Int32) : Tt (f_Lc_tell r i x y z) (CA [22, 20, 21] lw i r (spTell W x y z)) := by
  unfold f_Lc_tell spTell
  rw [v_needKind]
  by_cases hx : okx x 4 = true
  · rw [if_pos hx, Option.bind_some]
    dsimp only
    rw [v_needCell]
    by_cases hy : okx y 25 = true
    · rw [if_pos hy, Option.bind_some, if_pos (show okx x 4 = true ∧ okx y 25 = true from ⟨hx, hy⟩)]
      dsimp only
      rw [v_within]
      by_cases hz : win z 1 9 = true
      · rw [if_pos hz, if_pos hz, Option.bind_some]
        obtain ⟨k, hk, rfl⟩ := okx_of (by decide) hx
        obtain ⟨c, hc, rfl⟩ := okx_of (by decide) hy
        obtain ⟨s, hs1, hs, rfl⟩ := win1_of (n := 9) (by decide) hz
        dsimp only
        rw [h.1.1.1, hw.1.1.f]
        by_cases h8 : nf W.1 < 8
        · rw [if_pos h8]
          refine tt_ifp (nI_lt h8 (by decide)) ?_
          refine tt_bind (v_remember hw h) ?_
          rintro ⟨i2, r3⟩ hm
          have h2 : CV i2 1001 W.1 := h.1.congr (fun b j _ hb => hm.2.1 b j (by omega)) hw.1.1
          dsimp only at hm ⊢
          refine tt_bind (v_addFish hw.1.1 h2 h8 (nI k) (nI c) (nI s)) ?_
          rintro ⟨v, i4⟩ ⟨u1, u2, u3⟩
          dsimp only at u1 u2 u3 ⊢
          subst u1
          exact tt_some (ca_ok hw h hlw.a (sad_wf hw.1 h8 hk hs1 hs hc) hm u2 (fun b j hb _ => u3 b j (by omega)))
        · rw [if_neg h8]
          exact tt_ifn (nI_nlt (show 8 ≤ nf W.1 by omega) (by have := hw.1.1.f8; omega)) (tt_some (ca_er hw h rfl))
      · rw [if_neg hz, if_neg hz]; exact tt_some (ca_er hw h rfl)
    · rw [if_neg hy, if_neg (fun q : okx x 4 = true ∧ okx y 25 = true => hy q.2)]; exact tt_some (ca_er hw h rfl)
  · rw [if_neg hx, if_neg (fun q : okx x 4 = true ∧ okx y 25 = true => hx q.1)]; exact tt_some (ca_er hw h rfl)
theorem m_tell (hw : WW W) (h : MW i W) (x y z : Int32) : Tt (f_Mo_tell i x y z) (MA i (spTell W x y z)) := by
  have h1 := h.t 0
  have hf8 := hw.1.1.f8
  unfold f_Mo_tell spTell
  refine tt_bnd ?_
  rw [lit_nI 3, mo_inL 3 (by decide), Option.bind_some]
  refine tt_bind (P1 := fun v => v = if okx x 4 = true ∧ okx y 25 = true then 0 else 1) ?_ ?_
  · by_cases hx : okx x 4 = true
    · rw [if_pos hx]
      refine tt_ifn (by decide) ?_
      rw [m_noCell, Option.bind_some]
      by_cases hy : okx y 25 = true
      · rw [if_pos hy, if_pos (show okx x 4 = true ∧ okx y 25 = true from ⟨hx, hy⟩)]; exact tt_ifp rfl (tt_some rfl)
      · rw [if_neg hy, if_neg (fun q : okx x 4 = true ∧ okx y 25 = true => hy q.2)]; exact tt_ifn (by decide) (tt_some rfl)
    · rw [if_neg hx, if_neg (fun q : okx x 4 = true ∧ okx y 25 = true => hx q.1)]
      exact tt_ifp rfl (tt_some rfl)
  · rintro v rfl
    by_cases hc : okx x 4 = true ∧ okx y 25 = true
    · rw [if_pos hc, if_pos hc, thr0, Option.bind_some]
      dsimp only
      rw [if_pos rfl, mo_win, Option.bind_some, mo_not, Option.bind_some]
      by_cases hz : win z 1 9 = true
      · rw [if_pos hz, if_pos hz, thr0, Option.bind_some]
        dsimp only
        rw [if_pos rfl, m_fishes h1.1, Option.bind_some, hw.1.1.f]
        by_cases h8 : nf W.1 < 8
        · rw [if_pos h8]
          refine tt_bind (P1 := fun v => v = 0) (tt_ifn (fun q => absurd (congrArg Int32.toNatClampNeg q) (by rw [nI_clamp (by omega)]; exact fun q : nf W.1 = 8 => by omega)) (tt_some rfl)) ?_
          rintro v rfl
          rw [thr0, Option.bind_some]
          dsimp only
          rw [if_pos rfl]
          refine tt_bind (m_remembers hw h1) ?_
          rintro i1 ⟨e2, e3⟩
          refine tt_bind (m_isFish hw.1.1 (rem_mv h1.1 e3) h8 x y z) ?_
          rintro i4 ⟨u1, u2⟩
          have e0 : sad W.1 x z y 0 0 0 = nI (nf W.1 + 1) := by unfold sad; rw [su_s]
          rw [m_fishes u1, e0, Option.bind_some, nI_pred]
          exact tt_some (ma_ok ((u2.1 1638 0 (by decide) (by decide) (by decide)).trans ((e3 1638 0 (by decide) (by omega)).trans wr_s)) rfl ⟨u1, e2.congr (fun j => u2.1 1643 j (by decide) (by decide) (by decide)) (u2.1 1638 7 (by decide) (by decide) (by decide)) (u2.2 5 (by omega))⟩ ((fA_rem e3).trans (fA_fm u2)))
        · rw [if_neg h8]
          refine tt_bind (P1 := fun v => v = 1) (tt_ifp (by rw [show nf W.1 = 8 by omega]; rfl) (tt_some rfl)) ?_
          rintro v rfl
          rw [thr1, Option.bind_some]
          dsimp only
          rw [if_neg (by decide)]
          exact tt_some (ma_er (by decide) h)
      · rw [if_neg hz, if_neg hz, thr1, Option.bind_some]
        dsimp only
        rw [if_neg (by decide)]
        exact tt_some (ma_er (by decide) h)
    · rw [if_neg hc, if_neg hc, thr1, Option.bind_some]
      dsimp only
      rw [if_neg (by decide)]
      exact tt_some (ma_er (by decide) h)
end TELL
