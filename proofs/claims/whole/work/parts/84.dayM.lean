/-! ===== the reference's day ===== -/
def fm (i0 i : MI) : Prop := (∀ b j, b ≠ 1639 → b ≠ 1646 → b ≠ 1647 → i b j = i0 b j) ∧ ∀ j, 417 ≤ j ∨ j = 5 → i 1639 j = i0 1639 j
theorem fm.refl (i : MI) : fm i i := ⟨fun _ _ _ _ _ => rfl, fun _ _ => rfl⟩
theorem fm.trans {i j k : MI} (h : fm i j) (h2 : fm j k) : fm i k := ⟨fun b q h1 h3 h4 => (h2.1 b q h1 h3 h4).trans (h.1 b q h1 h3 h4), fun q hq => (h2.2 q hq).trans (h.2 q hq)⟩
theorem fm.law {i i' : MI} {L : LW} (hf : fm i i') (h : ML i L) : ML i' L := by
  obtain ⟨h1, h2, h3⟩ := h
  refine ⟨by rw [hf.2 5 (Or.inr rfl)]; exact h1, fun h => by rw [hf.2 417 (Or.inl (Nat.le_refl _))]; exact h2 h, fun k hk => ?_⟩
  obtain ⟨q1, q2, g, q3, q4, q5, q6⟩ := h3 k hk
  refine ⟨by rw [hf.2 _ (by omega)]; exact q1, by rw [hf.2 _ (by omega)]; exact q2, g, by rw [hf.2 _ (by omega)]; exact q3, by rw [hf.2 _ (by omega)]; exact q4, q5, fun q hq => ?_⟩
  rw [hf.2 _ (by omega), hf.2 _ (by omega)]
  exact q6 q hq
theorem fm_wr {i i0 : MI} {k : Nat} {v : Int32} (h : fm i0 i) (hk : k < 417) (h5 : k ≠ 5) : fm i0 (wr i 1639 k v) := ⟨fun b j h1 h2 h3 => by rw [wr_a h1]; exact h.1 b j h1 h2 h3, fun j hj => by rw [wr_k (by omega)]; exact h.2 j hj⟩
theorem fm_of {i i' : MI} (h1 : ∀ b j, b ≠ 1639 → i' b j = i b j) (h2 : ∀ j, 417 ≤ j ∨ j = 5 → i' 1639 j = i 1639 j) : fm i i' := ⟨fun b j h _ _ => h1 b j h, h2⟩
theorem fm_46 {i i' : MI} (h1 : ∀ b j, b ≠ 1646 → i' b j = i b j) : fm i i' := ⟨fun b j _ h _ => h1 b j h, fun j _ => h1 1639 j (by decide)⟩
section DAYM
variable {i : MI} {S : SS} {L : LW}
theorem m_goes (hw : Wf S) (h : MV i S) {b : Nat} (hb : b < nb S) : Tt (f_Mo_goesOneOn i (nI b)) (fun i' => MV i' (ssl S b) ∧ fm i i') := by
  have h3 := hw.1.b3
  have e0 : (76 : Int32) + (3 : Int32) * nI b + (0 : Int32) = nI (76 + 3 * b + 0) := by rw [lit_nI 76, lit_nI 3, lit_nI 0, mul_nI, nI_add, nI_add]
  have e1 : (76 : Int32) + (3 : Int32) * nI b + (1 : Int32) = nI (76 + 3 * b + 1) := by rw [lit_nI 76, lit_nI 3, lit_nI 1, mul_nI, nI_add, nI_add]
  have g1 : f_Mo_ofBoat i (nI b) 1 = some (S 3 b 1) := m_boat h (k := 1) (by omega) (by decide)
  have g0 : f_Mo_ofBoat i (nI b) 0 = some (S 3 b 0) := m_boat h (k := 0) (by omega) (by decide)
  unfold f_Mo_goesOneOn ssl
  rw [g1, Option.bind_some, g0, Option.bind_some]
  by_cases h1 : S 3 b 1 = -1
  · rw [if_pos h1, if_pos h1]
    exact tt_some ⟨h, fm.refl i⟩
  · rw [if_neg h1, if_neg h1]
    refine tt_bind (P1 := fun v => v = gst (S 3 b 0) (S 3 b 1)) ?_ ?_
    · unfold gst
      by_cases c1 : rm (S 3 b 0) 5 = rm (S 3 b 1) 5
      · rw [if_pos c1.symm, if_pos c1]
        by_cases c2 : S 3 b 0 = S 3 b 1
        · rw [if_pos c2.symm, if_pos c2]; exact tt_some rfl
        · rw [if_neg (fun k => c2 k.symm), if_neg c2]
          by_cases c3 : S 3 b 0 < S 3 b 1
          · rw [if_pos c3, if_pos c3]; exact tt_some rfl
          · rw [if_neg c3, if_neg c3]; exact tt_some rfl
      · rw [if_neg (fun k => c1 k.symm), if_neg c1]
        by_cases c3 : rm (S 3 b 0) 5 < rm (S 3 b 1) 5
        · rw [if_pos c3, if_pos c3]; exact tt_some rfl
        · rw [if_neg c3, if_neg c3]; exact tt_some rfl
    · rintro v rfl
      unfold f_Mo_boatAt
      simp only [Option.bind_some, e0, e1]
      rw [grd_nI (by omega) (by omega), ix_nI (by omega)]
      refine tt_bnd ?_
      have k1 := h.boat (show b < 3 by omega) (show 0 < 3 by decide) (gst (S 3 b 0) (S 3 b 1))
      have f1 : fm i (wr i 1639 (76 + 3 * b + 0) (gst (S 3 b 0) (S 3 b 1))) := fm_wr (fm.refl i) (by omega) (by omega)
      by_cases c1 : gst (S 3 b 0) (S 3 b 1) = S 3 b 1
      · rw [if_pos c1, if_pos c1, grd_nI (by omega) (by omega), ix_nI (by omega)]
        exact tt_bnd (tt_some ⟨k1.boat (show b < 3 by omega) (show 1 < 3 by decide) (-1), fm_wr f1 (by omega) (by omega)⟩)
      · rw [if_neg c1, if_neg c1, grd_nI (by omega) (by omega), ix_nI (by omega)]
        exact tt_bnd (tt_some ⟨k1.boat (show b < 3 by omega) (show 1 < 3 by decide) _, fm_wr f1 (by omega) (by omega)⟩)
set_option maxHeartbeats 1000000 in
theorem m_catches (hw : Wf S) (h : MV i S) {b : Nat} (hb : b < nb S) : Tt (f_Mo_catchesAll i (nI b)) (fun i' => (Wf (sul (sfl S b) b) ∧ kp S (sul (sfl S b) b)) ∧ MV i' (sul (sfl S b) b) ∧ fm i i') := by
  have h3 := hw.1.b3
  have h8 := hw.1.f8
  unfold f_Mo_catchesAll
  refine tt_bind (P1 := fun i' => (Wf (sfl S b) ∧ kp S (sfl S b) ∧ (∀ y z, sfl S b 3 y z = S 3 y z)) ∧ MV i' (sfl S b) ∧ fm i i')
    (tt_loop (fun q (s : Int32 × MI) => s.1 = nI q ∧ Wf (fo (sflg b) q S) ∧ kp S (fo (sflg b) q S) ∧ (∀ y z, fo (sflg b) q S 3 y z = S 3 y z) ∧ MV s.2 (fo (sflg b) q S) ∧ fm i s.2) (nf S) (by omega) ?_ ?_ ?_) ?_
  · rintro q hq ⟨x, i5⟩ ⟨e1, e2, e3, e4, e5, e6⟩
    dsimp only at e1 e2 e3 e4 e5 e6 ⊢
    subst e1
    have hfo : fo (sflg b) (q + 1) S = sflg b q (fo (sflg b) q S) := rfl
    generalize hX : fo (sflg b) q S = X at e2 e3 e4 e5 hfo
    have hcX := e2.1
    have hnX := e3.nf
    obtain ⟨sk1, sk2, sk3, sk4⟩ := sflg_keep e2 (f := q) (show b < nb X by rw [e3.nb]; exact hb)
    have g3 : f_Mo_of i5 (nI q) 3 = some (X 2 q 3) := m_of e5 (k := 3) (by omega) (by decide)
    have g4 : f_Mo_of i5 (nI q) 4 = some (X 2 q 4) := m_of e5 (k := 4) (by omega) (by decide)
    have y0 : f_Mo_ofBoat i5 (nI b) 0 = some (X 3 b 0) := m_boat e5 (k := 0) (by omega) (by decide)
    have y2 : f_Mo_ofBoat i5 (nI b) 2 = some (X 3 b 2) := m_boat e5 (k := 2) (by omega) (by decide)
    rw [m_fishes e5, hcX.f, hnX, Option.bind_some, if_pos (nI_lt hq (by omega)), g3, Option.bind_some]
    refine tt_bind (P1 := fun i' => MV i' (sflg b q X) ∧ fm i i') ?_ ?_
    · unfold sflg
      by_cases c1 : X 2 q 3 = 0
      · rw [if_pos c1, g4, Option.bind_some, y0, Option.bind_some]
        by_cases c2 : X 2 q 4 = X 3 b 0
        · rw [if_pos c2, m_aboard hcX e5, Option.bind_some, j_bc, Option.bind_some, y2, Option.bind_some]
          by_cases c3 : bc (abd X (nI b)) < X 3 b 2
          · rw [if_pos c3, if_pos ⟨c1, c2, c3⟩]
            refine tt_bind (m_nowIn e5 (show q < 8 by omega) 1 (nI b)) ?_
            rintro i6 ⟨u1, u2, u3⟩
            have hcs : Cnt (sfp X q 1 (nI b)) := hcX.keep kp_sfp.1 kp_sfp.2.1 kp_sfp.2.2.1 kp_sfp.2.2.2 (by unfold sfp; rw [su_o (by omega), su_o (by omega)])
            refine tt_bind (m_told hcs u1 (show q < 8 by omega) 0 (nI b)) ?_
            rintro i7 ⟨w1, w2, w3⟩
            have e2q : sfp X q 1 (nI b) 2 q 2 = X 2 q 2 := by unfold sfp; rw [su_o (by omega), su_o (by omega)]
            rw [e2q] at w1
            exact tt_some ⟨w1, (e6.trans (fm_of u2 u3)).trans (fm_of w2 w3)⟩
          · rw [if_neg c3, if_neg (fun k => c3 k.2.2)]
            exact tt_some ⟨e5, e6⟩
        · rw [if_neg c2, if_neg (fun k => c2 k.2.1)]
          exact tt_some ⟨e5, e6⟩
      · rw [if_neg c1, if_neg (fun k => c1 k.1)]
        exact tt_some ⟨e5, e6⟩
    · rintro i6 ⟨w1, w2⟩
      refine tt_some ?_
      dsimp only [lpP]
      rw [hfo]
      exact ⟨nI_1 q, sk1, e3.trans sk2, fun y z => by rw [sk3, e4], w1, w2⟩
  · rintro ⟨x, i5⟩ ⟨e1, e2, e3, e4, e5, e6⟩
    dsimp only at e1 e2 e3 e4 e5 e6 ⊢
    subst e1
    rw [m_fishes e5, e2.1.f, e3.nf, Option.bind_some, if_neg (nI_nlt (Nat.le_refl _) (by omega))]
    exact tt_some ⟨⟨e2, e3, e4⟩, e5, e6⟩
  · exact ⟨rfl, hw, kp.refl S, fun _ _ => rfl, h, fm.refl _⟩
  · rintro i3 ⟨⟨a1, a2, a3⟩, a4, a5⟩
    have y0 : f_Mo_ofBoat i3 (nI b) 0 = some (sfl S b 3 b 0) := m_boat a4 (k := 0) (by omega) (by decide)
    rw [y0, Option.bind_some]
    unfold sul
    by_cases c0 : sfl S b 3 b 0 = 0
    · rw [if_pos c0, if_pos c0]
      have hnS := a2.nf
      refine tt_bind (P1 := fun i' => (Wf (fo (sulg b) (nf (sfl S b)) (sfl S b)) ∧ kp S (fo (sulg b) (nf (sfl S b)) (sfl S b))) ∧ MV i' (fo (sulg b) (nf (sfl S b)) (sfl S b)) ∧ fm i i')
        (tt_loop (fun q (s : Int32 × MI) => s.1 = nI q ∧ Wf (fo (sulg b) q (sfl S b)) ∧ kp S (fo (sulg b) q (sfl S b)) ∧ MV s.2 (fo (sulg b) q (sfl S b)) ∧ fm i s.2) (nf (sfl S b)) (by omega) ?_ ?_ ?_) ?_
      · rintro q hq ⟨x, i5⟩ ⟨e1, e2, e3, e5, e6⟩
        dsimp only at e1 e2 e3 e5 e6 ⊢
        subst e1
        have hfo : fo (sulg b) (q + 1) (sfl S b) = sulg b q (fo (sulg b) q (sfl S b)) := rfl
        generalize hX : fo (sulg b) q (sfl S b) = X at e2 e3 e5 hfo
        have hcX := e2.1
        have hnX := e3.nf
        obtain ⟨sk1, sk2⟩ := sulg_keep e2 (b := b) (f := q)
        have g3 : f_Mo_of i5 (nI q) 3 = some (X 2 q 3) := m_of e5 (k := 3) (by omega) (by decide)
        have g4 : f_Mo_of i5 (nI q) 4 = some (X 2 q 4) := m_of e5 (k := 4) (by omega) (by decide)
        rw [m_fishes e5, hcX.f, hnX, Option.bind_some, if_pos (nI_lt (by omega) (by omega)), g3, Option.bind_some]
        refine tt_bind (P1 := fun i' => MV i' (sulg b q X) ∧ fm i i') ?_ ?_
        · unfold sulg
          by_cases c1 : X 2 q 3 = 1
          · rw [if_pos c1, g4, Option.bind_some]
            by_cases c2 : X 2 q 4 = nI b
            · rw [if_pos c2, if_pos ⟨c1, c2⟩]
              refine tt_bind (m_nowIn e5 (show q < 8 by omega) 2 0) ?_
              rintro i6 ⟨u1, u2, u3⟩
              exact tt_some ⟨u1, e6.trans (fm_of u2 u3)⟩
            · rw [if_neg c2, if_neg (fun k => c2 k.2)]
              exact tt_some ⟨e5, e6⟩
          · rw [if_neg c1, if_neg (fun k => c1 k.1)]
            exact tt_some ⟨e5, e6⟩
        · rintro i6 ⟨w1, w2⟩
          refine tt_some ?_
          dsimp only [lpP]
          rw [hfo]
          exact ⟨nI_1 q, sk1, e3.trans sk2, w1, w2⟩
      · rintro ⟨x, i5⟩ ⟨e1, e2, e3, e5, e6⟩
        dsimp only at e1 e2 e3 e5 e6 ⊢
        subst e1
        rw [m_fishes e5, e2.1.f, e3.nf, Option.bind_some, if_neg (nI_nlt (by omega) (by omega))]
        exact tt_some ⟨⟨e2, e3⟩, e5, e6⟩
      · exact ⟨rfl, a1, a2, a4, a5⟩
      · rintro i4 hi4
        exact tt_some hi4
    · rw [if_neg c0, if_neg c0]
      exact tt_some ⟨⟨a1, a2⟩, a4, a5⟩
set_option maxHeartbeats 1000000 in
theorem m_allTurn (hw : Wf S) (h : MV i S) (hL : WL L) (hl : ML i L) : Tt (f_Mo_allTurn i) (fun i' => (Wf (stn S L) ∧ kp S (stn S L)) ∧ MV i' (stn S L) ∧ fm i i') := by
  have hc := hw.1
  have h8 := hc.f8
  unfold f_Mo_allTurn
  refine tt_bind (P1 := fun i' => MV i' S ∧ fm i i' ∧ ∀ g, g < nf S → i' 1647 g = str S L g)
    (tt_loop (fun q (s : Int32 × MI) => s.1 = nI q ∧ MV s.2 S ∧ fm i s.2 ∧ ∀ g, g < q → s.2 1647 g = str S L g) (nf S) (by omega) ?_ ?_ ?_) ?_
  · rintro q hq ⟨x, i5⟩ ⟨e1, e2, e3, e4⟩
    dsimp only at e1 e2 e3 e4 ⊢
    subst e1
    rw [m_fishes e2, hc.f, Option.bind_some, if_pos (nI_lt hq (by omega))]
    refine tt_bind (m_turns hc e2 hL (e3.law hl) hq) ?_
    rintro ⟨v, i6⟩ ⟨u1, u2⟩
    dsimp only at u1 u2 ⊢
    rw [grd_nI (show q < 8 by omega) (by decide), ix_nI (by omega)]
    refine tt_bnd (tt_some ⟨nI_1 q, ?_, ?_, fun g hg => ?_⟩)
    · exact MV.congr (i := i6) (i' := wr i6 1647 q v) (e2.congr (fun k => u2 1639 k (by decide))) (fun k => wr_a (by decide))
    · refine e3.trans ⟨fun b j h1 h2 h3 => ?_, fun j hj => ?_⟩
      · show wr _ _ _ _ b j = _
        rw [wr_a h3]; exact u2 b j h2
      · show wr i6 1647 q v 1639 j = i5 1639 j
        rw [wr_a (by decide)]; exact u2 1639 j (by decide)
    · show wr _ _ _ _ 1647 g = _
      by_cases e : g = q
      · subst e; rw [wr_s]; exact u1
      · rw [wr_k e, u2 _ _ (by decide)]; exact e4 g (by omega)
  · rintro ⟨x, i5⟩ ⟨e1, e2, e3, e4⟩
    dsimp only at e1 e2 e3 e4 ⊢
    subst e1
    rw [m_fishes e2, hc.f, Option.bind_some, if_neg (nI_nlt (Nat.le_refl _) (by omega))]
    exact tt_some ⟨e2, e3, e4⟩
  · exact ⟨rfl, h, fm.refl _, fun g hg => absurd hg (Nat.not_lt_zero g)⟩
  · rintro i3 ⟨g1, g2, g3⟩
    have hT : ∀ f, ∃ k, k < 2 ^ 31 ∧ str S L f = nI k := fun f => str_nn f
    refine tt_bind (P1 := fun i' => (Wf (stn S L) ∧ kp S (stn S L)) ∧ MV i' (stn S L) ∧ fm i i')
      (tt_loop (fun q (s : Int32 × MI) => s.1 = nI q ∧ Wf (fo (stng (str S L)) q S) ∧ kp S (fo (stng (str S L)) q S) ∧ MV s.2 (fo (stng (str S L)) q S) ∧ fm i s.2 ∧ (∀ g, g < nf S → s.2 1647 g = str S L g)) (nf S) (by omega) ?_ ?_ ?_) ?_
    · rintro q hq ⟨x, i5⟩ ⟨e1, e2, e3, e5, e6, e7⟩
      dsimp only at e1 e2 e3 e5 e6 e7 ⊢
      subst e1
      have hfo : fo (stng (str S L)) (q + 1) S = stng (str S L) q (fo (stng (str S L)) q S) := rfl
      generalize hX : fo (stng (str S L)) q S = X at e2 e3 e5 hfo
      have hcX := e2.1
      have hnX := e3.nf
      obtain ⟨sk1, sk2, sk3⟩ := stng_keep e2 (hT q)
      have gk : ∀ k, k < 5 → f_Mo_of i5 (nI q) (nI k) = some (X 2 q k) := fun k hk => m_of e5 (by omega) hk
      have ef : (36 : Int32) + (5 : Int32) * nI q + (2 : Int32) = nI (36 + 5 * q + 2) := by rw [lit_nI 36, lit_nI 5, lit_nI 2, mul_nI, nI_add, nI_add]
      rw [m_fishes e5, hcX.f, hnX, Option.bind_some, if_pos (nI_lt hq (by omega)), lit_nI 3, gk 3 (by decide), Option.bind_some, Option.bind_some]
      have core : (X 2 q 3 = 1 ∨ X 2 q 3 = 2) → Tt ((f_Mo_fishAt (nI q) (2 : Int32)).bind (fun v_22 => (f_Mo_of i5 (nI q) (2 : Int32)).bind (fun v_23 => grd (nI q) 8 ((f_J_max (0 : Int32) (v_23 - (i5 1647 (ix (nI q))))).bind (fun v_26 => grd v_22 2115 (bnd (wr i5 1639 (ix v_22) v_26) (fun i_29 => (f_Mo_of i_29 (nI q) (2 : Int32)).bind (fun v_30 => if 0 < v_30 then (some i_29) else ((f_Mo_isNowIn i_29 (nI q) (nI 3) (0 : Int32)).bind (fun i_33 => (f_Mo_isTold i_33 (nI q) (1 : Int32) (-1 : Int32)).bind (fun i_34 => some i_34))))))))))) (fun i' => MV i' (stng (str S L) q X) ∧ fm i i' ∧ ∀ g, g < nf S → i' 1647 g = str S L g) := by
        intro hd
        unfold f_Mo_fishAt stng
        rw [if_pos hd]
        simp only [Option.bind_some, ef]
        rw [lit_nI 2, gk 2 (by decide), Option.bind_some, grd_nI (show q < 8 by omega) (by decide), ix_nI (by omega), e7 q hq, j_max, Option.bind_some, grd_nI (by omega) (by omega), ix_nI (by omega)]
        refine tt_bnd ?_
        have k1 := e5.fish (show q < 8 by omega) (show 2 < 5 by decide) (jmax 0 (X 2 q 2 - str S L q))
        have f1 : fm i (wr i5 1639 (36 + 5 * q + 2) (jmax 0 (X 2 q 2 - str S L q))) := fm_wr e6 (by omega) (by omega)
        have t1 : ∀ g, g < nf S → wr i5 1639 (36 + 5 * q + 2) (jmax 0 (X 2 q 2 - str S L q)) 1647 g = str S L g := fun g hg => by rw [wr_a (by decide)]; exact e7 g hg
        rw [m_of k1 (show q < 8 by omega) (show 2 < 5 by decide), Option.bind_some, su_s]
        by_cases c : 0 < jmax 0 (X 2 q 2 - str S L q)
        · rw [if_pos c, if_pos c]
          exact tt_some ⟨k1, f1, t1⟩
        · rw [if_neg c, if_neg c]
          refine tt_bind (m_nowIn k1 (show q < 8 by omega) (nI 3) 0) ?_
          rintro i6 ⟨u1, u2, u3⟩
          have hcs : Cnt (sfp (su X 2 q 2 (jmax 0 (X 2 q 2 - str S L q))) q 3 0) := (cnt_su hcX (by omega)).keep kp_sfp.1 kp_sfp.2.1 kp_sfp.2.2.1 kp_sfp.2.2.2 (by unfold sfp; rw [su_o (by omega), su_o (by omega)])
          refine tt_bind (m_told hcs u1 (show q < 8 by omega) 1 (-1)) ?_
          rintro i7 ⟨w1, w2, w3⟩
          have e2q : sfp (su X 2 q 2 (jmax 0 (X 2 q 2 - str S L q))) q 3 0 2 q 2 = 0 := by
            unfold sfp
            rw [su_o (by omega), su_o (by omega), su_s]
            exact (jmax0_z _).mpr c
          rw [e2q] at w1
          exact tt_some ⟨w1, (f1.trans (fm_of u2 u3)).trans (fm_of w2 w3), fun g hg => by rw [w2 _ _ (by decide), u2 _ _ (by decide)]; exact t1 g hg⟩
      refine tt_bind (P1 := fun i' => MV i' (stng (str S L) q X) ∧ fm i i' ∧ ∀ g, g < nf S → i' 1647 g = str S L g) ?_ ?_
      · by_cases c1 : X 2 q 3 = 1
        · rw [if_pos c1]
          exact core (Or.inl c1)
        · rw [if_neg c1]
          by_cases c2 : X 2 q 3 = 2
          · rw [if_pos c2]
            exact core (Or.inr c2)
          · rw [if_neg c2]
            have : stng (str S L) q X = X := by unfold stng; rw [if_neg (fun k => k.elim c1 c2)]
            rw [this]
            exact tt_some ⟨e5, e6, e7⟩
      · rintro i6 ⟨u1, u2, u3⟩
        refine tt_some ?_
        dsimp only [lpP]
        rw [hfo]
        exact ⟨nI_1 q, sk1, e3.trans sk2, u1, u2, u3⟩
    · rintro ⟨x, i5⟩ ⟨e1, e2, e3, e5, e6, e7⟩
      dsimp only at e1 e2 e3 e5 e6 ⊢
      subst e1
      rw [m_fishes e5, e2.1.f, e3.nf, Option.bind_some, if_neg (nI_nlt (Nat.le_refl _) (by omega))]
      exact tt_some ⟨⟨e2, e3⟩, e5, e6⟩
    · exact ⟨rfl, hw, kp.refl S, g1, g2, g3⟩
    · rintro i4 hi4
      exact tt_some hi4
theorem m_sold (hc : Cnt S) (h : MV i S) (hL : WL L) (hl : ML i L) {f b : Nat} (hf : f < nf S) (hb : b < ny S) (how : Int32) : Tt (f_Mo_isSold i (nI f) (nI b) how) (fun y => y.1 = spr S L f ∧ MV y.2 (sld S L f b how) ∧ fm i y.2) := by
  have h8 := hc.f8
  have h5 := hc.y5
  have e1 : (85 : Int32) + (4 : Int32) * nI b + (1 : Int32) = nI (85 + 4 * b + 1) := by rw [lit_nI 85, lit_nI 4, lit_nI 1, mul_nI, nI_add, nI_add]
  unfold f_Mo_isSold
  refine tt_bind (m_price hc h hL hl hf) ?_
  rintro ⟨v, i2⟩ ⟨u1, u2⟩
  dsimp only at u1 u2 ⊢
  have h2 : MV i2 S := h.congr (fun k => u2 1639 k (by decide))
  unfold f_Mo_buyerAt
  simp only [Option.bind_some, e1]
  rw [grd_nI (by omega) (by omega), ix_nI (by omega), h2.2.2.2.2.1 b (by omega) 1 (by decide), u1]
  refine tt_bnd ?_
  have k1 := h2.buyer (show b < 5 by omega) (show 1 < 4 by decide) (S 4 b 1 - spr S L f)
  have e7 : wr i2 1639 (85 + 4 * b + 1) (S 4 b 1 - spr S L f) 1639 7 = S 0 0 7 := by rw [wr_k (by omega)]; exact h2.1 7 (by decide) (by decide)
  rw [e7, j_min, Option.bind_some]
  refine tt_bnd ?_
  have k2 := k1.scal (show 7 < 11 by decide) (by decide) (jmin 9999 (S 0 0 7 + spr S L f))
  refine tt_bind (m_nowIn k2 (show f < 8 by omega) 3 0) ?_
  rintro i6 ⟨w1, w2, w3⟩
  have hcs : Cnt (sfp (su (su S 4 b 1 (S 4 b 1 - spr S L f)) 0 0 7 (jmin 9999 (S 0 0 7 + spr S L f))) f 3 0) := (cnt_su (cnt_su hc (by omega)) (by omega)).keep kp_sfp.1 kp_sfp.2.1 kp_sfp.2.2.1 kp_sfp.2.2.2 (by unfold sfp; rw [su_o (by omega), su_o (by omega)])
  refine tt_bind (m_told hcs w1 (show f < 8 by omega) how (nI b)) ?_
  rintro i7 ⟨z1, z2, z3⟩
  have e2q : sfp (su (su S 4 b 1 (S 4 b 1 - spr S L f)) 0 0 7 (jmin 9999 (S 0 0 7 + spr S L f))) f 3 0 2 f 2 = S 2 f 2 := by
    unfold sfp
    rw [su_o (by omega), su_o (by omega), su_o (by omega), su_o (by omega)]
  rw [e2q] at z1
  refine tt_some ⟨rfl, z1, ?_⟩
  exact ((((fm_46 u2).trans (fm_wr (fm.refl _) (by omega) (by omega))).trans (fm_wr (fm.refl _) (by omega) (by omega))).trans (fm_of w2 w3)).trans (fm_of z2 z3)
set_option maxHeartbeats 1000000 in
theorem m_oneDay (hw : Wf S) (h : MV i S) (hL : WL L) (hl : ML i L) (bu : Bool) : Tt (f_Mo_oneDay i (if bu = true then 0 else 1)) (fun y => (Wf (if bu = true then (sdb S L).1 else sdc S L) ∧ kp S (if bu = true then (sdb S L).1 else sdc S L) ∧ MV y.2 (if bu = true then (sdb S L).1 else sdc S L)) ∧ y.1 = (if bu = true then (sdb S L).2 else 0) ∧ fm i y.2) := by
  have h8 := hw.1.f8
  have h3 := hw.1.b3
  unfold f_Mo_oneDay
  refine tt_bind (P1 := fun i' => (Wf (sdf S) ∧ kp S (sdf S)) ∧ MV i' (sdf S) ∧ fm i i')
    (tt_loop (fun q (s : Int32 × MI) => s.1 = nI q ∧ Wf (fo sdfg q S) ∧ kp S (fo sdfg q S) ∧ MV s.2 (fo sdfg q S) ∧ fm i s.2) (nf S) (by omega) ?_ ?_ ?_) ?_
  · rintro q hq ⟨x, i5⟩ ⟨e1, e2, e3, e4, e6⟩
    dsimp only at e1 e2 e3 e4 e6 ⊢
    subst e1
    have hfo : fo sdfg (q + 1) S = sdfg q (fo sdfg q S) := rfl
    generalize hX : fo sdfg q S = X at e2 e3 e4 hfo
    have hcX := e2.1
    have hnX := e3.nf
    obtain ⟨k1, k2⟩ := sdfg_keep e2 (show q < nf X by omega)
    have g3 : f_Mo_of i5 (nI q) 3 = some (X 2 q 3) := m_of e4 (k := 3) (by omega) (by decide)
    have g4 : f_Mo_of i5 (nI q) 4 = some (X 2 q 4) := m_of e4 (k := 4) (by omega) (by decide)
    have ef : (36 : Int32) + (5 : Int32) * nI q + (4 : Int32) = nI (36 + 5 * q + 4) := by rw [lit_nI 36, lit_nI 5, lit_nI 4, mul_nI, nI_add, nI_add]
    rw [m_fishes e4, hcX.f, hnX, Option.bind_some, if_pos (nI_lt hq (by omega)), g3, Option.bind_some]
    refine tt_bind (P1 := fun i' => MV i' (sdfg q X) ∧ fm i i') ?_ ?_
    · unfold sdfg
      by_cases c : X 2 q 3 = 0
      · rw [if_pos c, if_pos c]
        obtain ⟨-, -, -, k3⟩ := e2.2.2.1 q (by omega)
        rcases k3 with ⟨-, cc, hcc, ec⟩ | ⟨h, -⟩ | ⟨h, -⟩ | ⟨h, -⟩
        · unfold f_Mo_fishAt
          simp only [Option.bind_some, ef]
          rw [g4, Option.bind_some, ec, m_drift e4 hcc, Option.bind_some, grd_nI (by omega) (by omega), ix_nI (by omega)]
          exact tt_bnd (tt_some ⟨e4.fish (show q < 8 by omega) (show 4 < 5 by decide) _, fm_wr e6 (by omega) (by omega)⟩)
        all_goals (rw [c] at h; exact absurd h (by decide))
      · rw [if_neg c, if_neg c]
        exact tt_some ⟨e4, e6⟩
    · rintro i6 ⟨u1, u2⟩
      refine tt_some ?_
      dsimp only [lpP]
      rw [hfo]
      exact ⟨nI_1 q, k1, e3.trans k2, u1, u2⟩
  · rintro ⟨x, i5⟩ ⟨e1, e2, e3, e4, e6⟩
    dsimp only at e1 e2 e3 e4 e6 ⊢
    subst e1
    rw [m_fishes e4, e2.1.f, e3.nf, Option.bind_some, if_neg (nI_nlt (Nat.le_refl _) (by omega))]
    exact tt_some ⟨⟨e2, e3⟩, e4, e6⟩
  · exact ⟨rfl, hw, kp.refl S, h, fm.refl _⟩
  · rintro i3 ⟨⟨a1, a2⟩, a3, a4⟩
    have hnb := a2.nb
    refine tt_bind (P1 := fun i' => (Wf (sbt (sdf S)) ∧ kp S (sbt (sdf S))) ∧ MV i' (sbt (sdf S)) ∧ fm i i')
      (tt_loop (fun q (s : Int32 × MI) => s.1 = nI q ∧ Wf (fo (fun b X => sul (sfl (ssl X b) b) b) q (sdf S)) ∧ kp S (fo (fun b X => sul (sfl (ssl X b) b) b) q (sdf S)) ∧ MV s.2 (fo (fun b X => sul (sfl (ssl X b) b) b) q (sdf S)) ∧ fm i s.2) (nb (sdf S)) (by omega) ?_ ?_ ?_) ?_
    · rintro q hq ⟨x, i5⟩ ⟨e1, e2, e3, e4, e6⟩
      dsimp only at e1 e2 e3 e4 e6 ⊢
      subst e1
      have hfo : fo (fun b X => sul (sfl (ssl X b) b) b) (q + 1) (sdf S) = (fun b X => sul (sfl (ssl X b) b) b) q (fo (fun b X => sul (sfl (ssl X b) b) b) q (sdf S)) := rfl
      generalize hX : fo (fun b X => sul (sfl (ssl X b) b) b) q (sdf S) = X at e2 e3 e4 hfo
      dsimp only at hfo
      have hnX := e3.nb
      rw [m_boats e4, e2.1.b, Option.bind_some, if_pos (nI_lt (show q < nb X by omega) (by omega))]
      refine tt_bind (m_goes e2 e4 (show q < nb X by omega)) ?_
      rintro i6 ⟨u1, u2⟩
      obtain ⟨s1, s2, -⟩ := ssl_wf e2 q
      have n1 := s2.nb
      refine tt_bind (m_catches s1 u1 (show q < nb (ssl X q) by omega)) ?_
      rintro i7 ⟨⟨w1, w2⟩, w3, w4⟩
      refine tt_some ?_
      dsimp only [lpP]
      rw [hfo]
      exact ⟨nI_1 q, w1, (e3.trans s2).trans w2, w3, (e6.trans u2).trans w4⟩
    · rintro ⟨x, i5⟩ ⟨e1, e2, e3, e4, e6⟩
      dsimp only at e1 e2 e3 e4 e6 ⊢
      subst e1
      rw [m_boats e4, e2.1.b, e3.nb, hnb, Option.bind_some, if_neg (nI_nlt (Nat.le_refl _) (by omega))]
      exact tt_some ⟨⟨e2, e3⟩, e4, e6⟩
    · exact ⟨rfl, a1, a2, a3, a4⟩
    · rintro i4 ⟨⟨b1, b2⟩, b3, b4⟩
      refine tt_bind (m_allTurn b1 b3 hL (b4.law hl)) ?_
      rintro i5 ⟨⟨c1, c2⟩, c3, c4⟩
      have c4' := b4.trans c4
      rw [j_max, Option.bind_some]
      refine tt_bnd ?_
      obtain ⟨z, hz, ez⟩ := c1.2.2.2.2.2.2.1
      have k6 : i5 1639 6 = stn (sbt (sdf S)) L 0 0 6 := c3.1 6 (by decide) (by decide)
      have d1 : Wf (sic (stn (sbt (sdf S)) L)) := by
        refine c1.one (Or.inl ⟨rfl, z - 1, by omega, ?_⟩)
        rw [ez, lit_nI 1, jmax_sub (by omega) (by decide)]
      have d2 : kp S (sic (stn (sbt (sdf S)) L)) := (b2.trans c2).trans (kp_su (by omega))
      have d3 : MV (wr i5 1639 6 (jmax 0 (i5 1639 6 - 1))) (sic (stn (sbt (sdf S)) L)) := by
        rw [k6]; exact c3.scal (by decide) (by decide) _
      have d4 : fm i (wr i5 1639 6 (jmax 0 (i5 1639 6 - 1))) := fm_wr c4' (by decide) (by decide)
      generalize wr i5 1639 6 (jmax 0 (i5 1639 6 - 1)) = i6 at d3 d4
      have hny := d2.ny
      have h5 := hw.1.y5
      have day : ∀ (X : SS) (i7 : MI) (v : Int32), Wf X → kp S X → MV i7 X → fm i i7 → Tt ((f_J_min (9999 : Int32) ((i7 1639 8) + (1 : Int32))).bind (fun v_32 => bnd (wr i7 1639 8 v_32) (fun i_33 => some (v, i_33)))) (fun y => (Wf (sdy X) ∧ kp S (sdy X) ∧ MV y.2 (sdy X)) ∧ y.1 = v ∧ fm i y.2) := by
        intro X i7 v w1 w2 w3 w4
        rw [j_min, Option.bind_some]
        obtain ⟨z, hz, ez⟩ := w1.2.2.2.2.2.2.2.2.1
        have k8 : i7 1639 8 = X 0 0 8 := w3.1 8 (by decide) (by decide)
        rw [k8]
        refine tt_bnd (tt_some ⟨⟨?_, w2.trans (kp_su (by omega)), w3.scal (by decide) (by decide) _⟩, rfl, fm_wr w4 (by decide) (by decide)⟩)
        refine w1.one (Or.inr (Or.inr (Or.inl ⟨rfl, min 9999 (z + 1), by omega, ?_⟩)))
        rw [ez, nI_1, lit_nI 9999, jmin_nI (by omega) (by omega)]
      cases bu with
      | false =>
        simp only [Bool.false_eq_true, if_false]
        unfold sdc
        refine tt_bind (P1 := fun (y : Int32 × MI) => y = (0, i6)) ?_ ?_
        · refine tt_loop (fun q (s : Int32 × Int32 × MI) => s = (0, 0, i6)) 0 (by omega) (fun q hq => absurd hq (Nat.not_lt_zero q)) ?_ rfl
          rintro _ rfl
          dsimp only
          rw [m_buyers d3, Option.bind_some, d1.1.y]
          by_cases c : (0 : Int32) < nI (ny (sic (stn (sbt (sdf S)) L)))
          · refine tt_ifp c (tt_ifn (by decide) (tt_some rfl))
          · exact tt_ifn c (tt_some rfl)
        · rintro _ rfl
          exact day (sic (stn (sbt (sdf S)) L)) i6 0 d1 d2 d3 d4
      | true =>
        simp only [if_true]
        unfold sdb
        dsimp only
        generalize sic (stn (sbt (sdf S)) L) = Y at d1 d2 d3 hny
        refine tt_bind (P1 := fun (y : Int32 × MI) => (Wf (strd Y L).1 ∧ kp Y (strd Y L).1 ∧ MV y.2 (strd Y L).1) ∧ y.1 = (strd Y L).2 ∧ fm i y.2)
          (tt_loop (fun q (s : Int32 × Int32 × MI) => s.2.1 = nI q ∧ Wf (fo (strg L) q (Y, 0)).1 ∧ kp Y (fo (strg L) q (Y, 0)).1 ∧ MV s.2.2 (fo (strg L) q (Y, 0)).1 ∧ s.1 = (fo (strg L) q (Y, 0)).2 ∧ fm i s.2.2) (ny Y) (by omega) ?_ ?_ ?_) ?_
        · rintro q hq ⟨x, ixx, i7⟩ ⟨e1, e2, e3, e4, e5, e6⟩
          dsimp only at e1 e2 e3 e4 e5 e6 ⊢
          subst e1
          have hfo : fo (strg L) (q + 1) (Y, 0) = strg L q (fo (strg L) q (Y, 0)) := rfl
          generalize hp : fo (strg L) q (Y, 0) = p at e2 e3 e4 e5 hfo
          obtain ⟨X, n⟩ := p
          dsimp only at e2 e3 e4 e5
          obtain ⟨k1, k2⟩ := strg_keep (p := (X, n)) e2 hL (b := q)
          dsimp only at k1 k2
          obtain ⟨dd1, dd2⟩ := sdw_wf e2
          have hnyX := e3.ny
          have hny2 : ny (sdw X) = ny X := dd2.ny
          have h8' := dd1.1.f8
          rw [m_buyers e4, e2.1.y, hnyX, Option.bind_some, if_pos (nI_lt hq (by omega))]
          refine tt_bind (P1 := fun (y : Int32 × MI) => y.1 = rm ((shr (sdw X 0 0 10) 16) &&& 32767) 100 ∧ MV y.2 (sdw X) ∧ fm i y.2) ?_ ?_
          · unfold f_Mo_drawn
            rw [e4.1 10 (by decide) (by decide)]
            refine tt_bnd (tt_grd2 (by decide) (tt_some ⟨?_, e4.scal (by decide) (by decide) _, fm_wr e6 (by decide) (by decide)⟩))
            dsimp only
            rw [wr_s]
            unfold sdw
            rw [su_s]
          · rintro ⟨v, i8⟩ ⟨u1, u2, u3⟩
            dsimp only at u1 u2 u3 ⊢
            have hX3 : sdw X 4 q 3 = X 4 q 3 := by unfold sdw; rw [su_o (by omega)]
            rw [lit_nI 3, m_buyer u2 (show q < 5 by omega) (by decide), Option.bind_some, hX3]
            refine tt_bind (P1 := fun (y : Int32) => y = if rm ((shr (sdw X 0 0 10) 16) &&& 32767) 100 < X 4 q 3 then 1 else 0) ?_ ?_
            · by_cases c0 : rm ((shr (sdw X 0 0 10) 16) &&& 32767) 100 < X 4 q 3
              · refine tt_ifp (by rw [u1]; exact c0) (tt_some ?_)
                rw [if_pos c0]
              · refine tt_ifn (by rw [u1]; exact c0) (tt_some ?_)
                rw [if_neg c0]
            · rintro m hm
              refine tt_bind (m_choice dd1.1 u2 hL (u3.law hl) (b := q) (by omega)) ?_
              rintro ⟨v2, i9⟩ ⟨w1, w2⟩
              dsimp only at w1 w2 ⊢
              have h9 : MV i9 (sdw X) := u2.congr (fun k => w2 1639 k (by decide))
              have f9 : fm i i9 := u3.trans (fm_46 w2)
              refine tt_bind (P1 := fun (y : Int32 × MI) => MV y.2 (strg L q (X, n)).1 ∧ y.1 = (strg L q (X, n)).2 ∧ fm i y.2) ?_ ?_
              · unfold strg
                dsimp only
                by_cases c1 : rm ((shr (sdw X 0 0 10) 16) &&& 32767) 100 < X 4 q 3
                · rw [if_pos c1] at hm
                  rw [if_pos c1]
                  refine tt_ifn (by rw [hm]; decide) ?_
                  rcases cho_lt (S := sdw X) L q with hch | ⟨f, hf, hs, hch⟩
                  · rw [if_pos hch]
                    refine tt_ifp (by rw [w1, hch]) ?_
                    exact tt_some ⟨h9, e5, f9⟩
                  · have hne : ¬ cho (sdw X) L q = -1 := by rw [hch]; exact cell_ne (by omega)
                    rw [if_neg hne]
                    refine tt_ifn (by rw [w1]; exact hne) ?_
                    rw [w1, hch, ix_nI (by omega)]
                    refine tt_bind (m_sold dd1.1 h9 hL (f9.law hl) hf (by omega) 2) ?_
                    rintro ⟨v3, i10⟩ ⟨y1, y2, y3⟩
                    refine tt_some ⟨y2, by show x + 1 = n + 1; rw [e5], f9.trans y3⟩
                · rw [if_neg c1] at hm
                  rw [if_neg c1]
                  refine tt_ifp hm ?_
                  exact tt_some ⟨h9, e5, f9⟩
              · rintro ⟨v4, i10⟩ ⟨z1, z2, z3⟩
                refine tt_some ?_
                dsimp only [lpP]
                rw [hfo]
                exact ⟨nI_1 q, k1, e3.trans k2, z1, z2, z3⟩
        · rintro ⟨x, ixx, i7⟩ ⟨e1, e2, e3, e4, e5, e6⟩
          dsimp only at e1 e2 e3 e4 e5 e6 ⊢
          subst e1
          rw [m_buyers e4, e2.1.y, e3.ny, Option.bind_some, if_neg (nI_nlt (Nat.le_refl _) (by omega))]
          exact tt_some ⟨⟨e2, e3, e4⟩, e5, e6⟩
        · exact ⟨rfl, d1, kp.refl Y, d3, rfl, d4⟩
        · rintro ⟨v, i7⟩ ⟨⟨w1, w2, w3⟩, w4, w5⟩
          dsimp only at w3 w4 w5 ⊢
          rw [w4]
          exact day (strd Y L).1 i7 (strd Y L).2 w1 (d2.trans w2) w3 w5
end DAYM
