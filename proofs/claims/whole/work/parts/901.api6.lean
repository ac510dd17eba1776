/-! ===== calls that only look, 6: fish, what drifts together, ways ===== -/
section API6
variable {i : MI} {t : MT} {r : MR} {a : Nat} {S : SS} {L : LW}
theorem v_fish (hw : Wf S) (h : CV i 1001 S) (hL : WL L) (hl : CL t i (r 1001 16) L) (hna : NA 1001 (r 1001 16)) (hnb : NA 1075 (r 1001 16)) (x w : Int32) : Tt (f_Lc_fish t r i x w) (CO3 [22, 24] (r 1001 16) i r (spFish S L x w)) := by
  have h8 := hw.1.f8
  unfold f_Lc_fish spFish
  rw [v_needFish hw.1 h]
  by_cases hx : okx x (nf S) = true
  · rw [if_pos hx, if_pos hx, Option.bind_some]
    obtain ⟨f, hf, rfl⟩ := okx_of (by omega) hx
    obtain ⟨p0, p1, p2, p3, p4, p5⟩ := h.2.2.1 f hf
    dsimp only
    rw [grd_nI (show f < 8 by omega) (by decide), ix_nI (by omega), p0, p1, p2, p3, p5, v_cellOf hw h hf, v_maybe hw h hf]
    by_cases hww : okx w 10 = true
    · rw [if_pos hww]
      obtain ⟨k, hk, rfl⟩ := okx_of (by decide) hww
      rcases (show k = 0 ∨ k = 1 ∨ k = 2 ∨ k = 3 ∨ k = 4 ∨ k = 5 ∨ k = 6 ∨ k = 7 ∨ k = 8 ∨ k = 9 by omega) with rfl | rfl | rfl | rfl | rfl | rfl | rfl | rfl | rfl | rfl
      · exact tt_some ⟨rfl, CQ.refl _ _, fun _ _ _ => rfl⟩
      · exact tt_some ⟨rfl, CQ.refl _ _, fun _ _ _ => rfl⟩
      · exact tt_some ⟨rfl, CQ.refl _ _, fun _ _ _ => rfl⟩
      · exact tt_some ⟨rfl, CQ.refl _ _, fun _ _ _ => rfl⟩
      · exact tt_some ⟨rfl, CQ.refl _ _, fun _ _ _ => rfl⟩
      · exact tt_some ⟨rfl, CQ.refl _ _, fun _ _ _ => rfl⟩
      · show Tt ((f_Se_turnsBy t r i 1001 (nI f)).bind (fun z => some (Sum.inl z.1, z.2, r))) _
        refine tt_bind (v_turns hw.1 h hL hl hna hf) ?_
        rintro ⟨v, i2⟩ ⟨e1, e2⟩
        dsimp only at e1 e2 ⊢
        rw [e1]
        exact tt_some ⟨rfl, cq_1 e2, fun _ _ _ => rfl⟩
      · show Tt ((f_Se_price t r i 1001 (nI f)).bind (fun z => some (Sum.inl z.1, z.2, r))) _
        refine tt_bind (v_price hw.1 h hL hl hna hf) ?_
        rintro ⟨v, i2⟩ ⟨e1, e2⟩
        dsimp only at e1 e2 ⊢
        rw [e1]
        exact tt_some ⟨rfl, cq_1 e2, fun _ _ _ => rfl⟩
      · show Tt ((f_Lc_caughtIn t r i (nI f)).bind (fun z => some (Sum.inl z.1, z.2.1, z.2.2))) _
        refine tt_bind (v_caught hw h hL hl hnb hf) ?_
        rintro ⟨v, i2, r2⟩ ⟨e1, e2, e3⟩
        dsimp only at e1 e2 e3 ⊢
        rw [e1]
        exact tt_some ⟨rfl, e2, e3⟩
      · exact tt_some ⟨rfl, CQ.refl _ _, fun _ _ _ => rfl⟩
    · rw [if_neg hww]
      exact ⟨_, sw_no (by decide) hww _ 0 (Nat.le_refl _), rfl, CQ.refl _ _, fun _ _ _ => rfl⟩
  · rw [if_neg hx, if_neg hx]; exact tt_some ⟨rfl, CQ.refl _ _, fun _ _ _ => rfl⟩
theorem m_fish (hw : Wf S) (h : MV i S) (hL : WL L) (hl : ML i L) (x w : Int32) : Tt (f_Mo_fish i x w) (MO i (spFish S L x w)) := by
  have h8 := hw.1.f8
  have h1 := mv_t h 0
  have l1 := ml_t hl 0
  unfold f_Mo_fish spFish
  refine tt_bnd ?_
  rw [m_noFish hw.1 h1, Option.bind_some]
  by_cases hx : okx x (nf S) = true
  · rw [if_pos hx, if_pos hx, thr0, Option.bind_some]
    obtain ⟨f, hf, rfl⟩ := okx_of (by omega) hx
    dsimp only
    rw [if_pos rfl, lit_nI 9, mo_inL 9 (by decide), Option.bind_some]
    by_cases hww : okx w 10 = true
    · rw [if_pos hww, if_pos hww, if_neg (by decide), Option.bind_some, thr0, Option.bind_some]
      dsimp only
      obtain ⟨k, hk, rfl⟩ := okx_of (by decide) hww
      have g3 : f_Mo_of (wr i 1638 0 0) (nI f) 3 = some (S 2 f 3) := m_of h1 (k := 3) (by omega) (by decide)
      have g4 : f_Mo_of (wr i 1638 0 0) (nI f) 4 = some (S 2 f 4) := m_of h1 (k := 4) (by omega) (by decide)
      rw [if_pos rfl, ix_nI (by omega), ix_nI (by omega), m_cellOf hw h1 hf, m_maybe hw h1 hf, g3, g4]
      rcases (show k < 4 ∨ k = 4 ∨ k = 5 ∨ k = 6 ∨ k = 7 ∨ k = 8 ∨ k = 9 by omega) with hk4 | rfl | rfl | rfl | rfl | rfl | rfl
      · rw [m_of h1 (show f < 8 by omega) (show k < 5 by omega), Option.bind_some]
        rcases (show k = 0 ∨ k = 1 ∨ k = 2 ∨ k = 3 by omega) with rfl | rfl | rfl | rfl <;> exact tt_some (mo_ok (fq.refl _) wr_s rfl)
      · exact tt_some (mo_ok (fq.refl _) wr_s rfl)
      · refine tt_mono (P1 := fun y => y = (abo (S 2 f 3) (S 2 f 4), wr i 1638 0 0)) ?_ (fun y hy => by rw [hy]; exact mo_ok (fq.refl _) wr_s rfl)
        show Tt (if S 2 f 3 = 1 then some (S 2 f 4, wr i 1638 0 0) else some (-1, wr i 1638 0 0)) _
        unfold abo
        by_cases c : S 2 f 3 = 1
        · rw [if_pos c, if_pos c]; exact tt_some rfl
        · rw [if_neg c, if_neg c]; exact tt_some rfl
      · show Tt ((f_Mo_turnsBy (wr i 1638 0 0) (nI f)).bind (fun z => some (z.1, z.2))) _
        refine tt_bind (m_turns hw.1 h1 hL l1 hf) ?_
        rintro ⟨v, i2⟩ ⟨e1, e2⟩
        exact tt_some (mo_ok (fq_46 e2) ((e2 1638 0 (by decide)).trans wr_s) e1)
      · show Tt ((f_Mo_priceOf (wr i 1638 0 0) (nI f)).bind (fun z => some (z.1, z.2))) _
        refine tt_bind (m_price hw.1 h1 hL l1 hf) ?_
        rintro ⟨v, i2⟩ ⟨e1, e2⟩
        exact tt_some (mo_ok (fq_46 e2) ((e2 1638 0 (by decide)).trans wr_s) e1)
      · show Tt ((f_Mo_caughtIn (wr i 1638 0 0) (nI f)).bind (fun z => some (z.1, z.2))) _
        refine tt_bind (m_caught hw h1 hL l1 hf) ?_
        rintro ⟨v, i2⟩ ⟨e1, e2⟩
        exact tt_some (mo_ok (fq_k e2) ((e2 1638 0 (by decide) (by decide) (by decide)).trans wr_s) e1)
      · exact tt_some (mo_ok (fq.refl _) wr_s rfl)
    · rw [if_neg hww, if_neg hww, if_pos rfl, Option.bind_some, thr1, Option.bind_some]
      dsimp only
      rw [if_neg (by decide)]
      exact tt_some (mo_err (by decide) (fq_t (fq.refl i) 0))
  · rw [if_neg hx, if_neg hx, thr1, Option.bind_some]
    dsimp only
    rw [if_neg (by decide)]
    exact tt_some (mo_err (by decide) (fq_t (fq.refl i) 0))
end API6
