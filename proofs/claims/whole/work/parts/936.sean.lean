/-! ===== the lines of the waters: the reference, 2 ===== -/
section SEAN
variable {t : MT} {i : MI} {n : Nat} {T : Nat → Int32} {S : SS}
theorem m_15 : ∀ m, m < 16 → bcn m = 4 → ∀ k, k < 4 → m.testBit k = true := by decide +kernel
theorem kd_4 {s : Nat} : kd n T s ≤ 4 := by
  have := (ffs_sp (fun j => wd n T (18 + 2 * j) s) 4 0).2.1
  show ffs _ _ _ ≤ 4
  omega
theorem wy_5 {s : Nat} : wy n T s ≤ 5 := by
  have := (ffs_sp (fun j => wd n T (6 + 2 * j) s) 5 0).2.1
  show ffs _ _ _ ≤ 5
  omega
theorem m_rDead (hS : SV t i) (hn : n ≤ 400) {s : Nat} (hs : tks n T s) (h : LeS i n T s) (hw : Wf S) (hv : MV i S) : Tt (f_Mo_readDead t i) (MPl n T i (if nd S < 6 then rDead n T S (nw n T s) else .inl s)) := by
  unfold f_Mo_readDead
  rw [m_deadOnes hv, hw.1.d, Option.bind_some]
  have h8' := hw.1.d6
  rcases Nat.lt_or_ge (nd S) 6 with h8 | h8
  rotate_left
  · rw [if_neg (show ¬ nd S < 6 by omega), if_pos (show nI (nd S) = 6 by rw [show nd S = 6 by omega]; rfl)]
    exact tt_some ⟨fun _ _ _ _ => rfl, Or.inl ⟨rfl, h.2.1⟩⟩
  rw [if_pos h8, if_neg (show ¬ nI (nd S) = 6 from fun q => by have := (nI_inj (by omega) (by decide)).mp (q.trans (lit_nI 6)); omega)]
  unfold rDead
  have hsn := (tks_nw (T := T) hs.1)
  generalize eS : nw n T s = s0 at *
  refine tt_bind (m_kindR hS hn (eS ▸ h.rs hs.1)) ?_
  rintro ⟨v, i5⟩ ⟨a1, a2, a3⟩
  dsimp only at a1 a2 a3 ⊢
  subst a1
  refine tt_bind (P1 := fun x => fz i x.2.2 ∧ ((kdr n T s0 = .inl s0 ∧ x.1 = 0 ∧ x.2.2 1638 12 = nI s0) ∨ (∃ k s1 m q, kdr n T s0 = .inr (k, s1) ∧ dkl n T 3 (2 ^ k) s1 = (m, q) ∧ 0 < m ∧ m < 16 ∧ tks n T q ∧ x.1 = nI m ∧ LeS x.2.2 n T q ∧ x.2.1 = (if kd n T q < 4 then nI (kd n T q) else -1))))
    (tt_loop (fun j (x : Int32 × Int32 × MI) => fz i x.2.2 ∧ ∃ m q, x.1 = nI m ∧ m < 16 ∧ bcn m = j ∧ tks n T q ∧ LeS x.2.2 n T q ∧ x.2.1 = (if kd n T q < 4 then nI (kd n T q) else -1) ∧ ((j = 0 ∧ m = 0 ∧ q = s0) ∨ (0 < j ∧ ∃ k s1, kdr n T s0 = .inr (k, s1) ∧ dkl n T 3 (2 ^ k) s1 = dkl n T (4 - j) m q))) 4 (by omega) ?_ ?_ ⟨a3, 0, s0, rfl, by omega, bcn_0, hsn, a2, rfl, Or.inl ⟨rfl, rfl, rfl⟩⟩) ?_
  · rintro j hj ⟨x2, x3, i8⟩ ⟨b1, m, q, e1, e2, e3, e4, e5, e6, e7⟩
    dsimp only at b1 e1 e5 e6 ⊢
    subst e1 e6
    have k4 := kd_4 (n := n) (T := T) (s := q)
    by_cases ck : kd n T q < 4
    · rw [if_pos ck, if_neg (nI_pos (by omega)), mo_hasm (by omega) (by omega), Option.bind_some]
      by_cases cb : m.testBit (kd n T q) = true
      · rw [if_pos cb, if_neg (show ¬ (1 : Int32) = 0 by decide)]
        have hm0 : m ≠ 0 := fun e => by rw [e, Nat.zero_testBit] at cb; exact absurd cb (by decide)
        rcases e7 with ⟨-, q1, -⟩ | ⟨-, k, s1, g1, g2⟩
        · exact absurd q1 hm0
        · exact tt_some ⟨b1, Or.inr ⟨k, s1, m, q, g1, by rw [g2, dkl_stop (fun w => by rw [cb] at w; exact absurd w.2 (by decide))], by omega, e2, e4, rfl, e5, by rw [if_pos ck]⟩⟩
      · rw [if_neg cb, if_pos (show (0 : Int32) = 0 from rfl)]
        have hcb := Bool.eq_false_iff.mpr cb
        have hS8 : SV t i8 := hS.congr (fun b j hb => b1 b j (by omega))
        refine tt_bind (m_kindR hS8 hn (e5.rs e4.1)) ?_
        rintro ⟨w, i17⟩ ⟨g1, g2, g3⟩
        dsimp only at g1 g2 g3 ⊢
        subst g1
        rw [or_setb (by omega)]
        refine tt_some ⟨b1.trans g3, setb m (kd n T q), nw n T q, rfl, setb_ltn (n := 4) e2 ck, by rw [bcn_setb _ (by omega) m (by omega) hcb, e3], tks_nw e4.1, g2, rfl, Or.inr ⟨by omega, ?_⟩⟩
        rcases e7 with ⟨rfl, rfl, rfl⟩ | ⟨hj0, k, s1, u1, u2⟩
        · refine ⟨kd n T q, nw n T q, ?_, ?_⟩
          · unfold kdr; rw [if_pos ck]
          · rw [show setb 0 (kd n T q) = 2 ^ kd n T q by unfold setb; rw [Nat.zero_or]]
        · refine ⟨k, s1, u1, ?_⟩
          rw [u2, show 4 - j = (4 - (j + 1)) + 1 by omega, dkl_go ⟨ck, hcb⟩]
    · rw [if_neg ck, if_pos (show (-1 : Int32) < 0 by decide)]
      rcases e7 with ⟨q1, rfl, rfl⟩ | ⟨hj0, k, s1, g1, g2⟩
      · refine tt_some ⟨b1, Or.inl ⟨?_, rfl, e5.2.1⟩⟩
        unfold kdr; rw [if_neg ck]
      · have hm0 : m ≠ 0 := fun e => by rw [e, bcn_0] at e3; omega
        exact tt_some ⟨b1, Or.inr ⟨k, s1, m, q, g1, by rw [g2, dkl_stop (fun w => ck w.1)], by omega, e2, e4, rfl, e5, by rw [if_neg ck]⟩⟩
  · rintro ⟨x2, x3, i8⟩ ⟨b1, m, q, e1, e2, e3, e4, e5, e6, e7⟩
    dsimp only at b1 e1 e5 e6 ⊢
    subst e1 e6
    have hm0 : m ≠ 0 := fun e => by rw [e, bcn_0] at e3; omega
    rcases e7 with ⟨q1, -, -⟩ | ⟨-, k, s1, g1, g2⟩
    · omega
    · have hd : dkl n T 3 (2 ^ k) s1 = (m, q) := g2
      by_cases ck : kd n T q < 4
      · rw [if_pos ck, if_neg (nI_pos (by omega)), mo_hasm (by omega) (by omega), Option.bind_some, if_pos (m_15 m e2 e3 _ ck), if_neg (show ¬ (1 : Int32) = 0 by decide)]
        exact tt_some ⟨b1, Or.inr ⟨k, s1, m, q, g1, hd, by omega, e2, e4, rfl, e5, by rw [if_pos ck]⟩⟩
      · rw [if_neg ck, if_pos (show (-1 : Int32) < 0 by decide)]
        exact tt_some ⟨b1, Or.inr ⟨k, s1, m, q, g1, hd, by omega, e2, e4, rfl, e5, by rw [if_neg ck]⟩⟩
  · rintro ⟨x2, x3, i11⟩ ⟨b1, hx⟩
    dsimp only at b1 hx ⊢
    rcases hx with ⟨e1, rfl, e3⟩ | ⟨k, s1, m, q, e1, e2, e3, e4, e5, rfl, e6, rfl⟩
    · rw [e1, bd_l, if_pos (show (0 : Int32) = 0 from rfl)]
      exact tt_some ⟨b1.gx, Or.inl ⟨rfl, e3⟩⟩
    rw [e1, bd_r, e2, if_neg (show ¬ nI m = 0 from fun w => by have := (nI_z (by omega)).mp w; omega)]
    dsimp only
    have hS11 : SV t i11 := hS.congr (fun b j hb => b1 b j (by omega))
    by_cases ck : kd n T q < 4
    · have hno : ¬ wd n T 48 q = true := by
        have h1 : wd n T (2 * (8 + kd n T q) + 2) q = true := by rw [show 2 * (8 + kd n T q) + 2 = 18 + 2 * kd n T q by omega]; exact kd_wd ck
        have hne : ∀ a, a < 4 → wch (2 * (8 + a) + 2) ≠ wch (2 * 23 + 2) := by decide +kernel
        exact wd_no (by omega) (by decide) h1 (hne _ ck)
      have hnw : nwd n T 48 q = .inl q := if_neg hno
      rw [if_pos ck, if_neg (nI_pos (by omega)), hnw, bd_l]
      exact tt_some ⟨b1.gx, Or.inl ⟨rfl, e6.2.1⟩⟩
    · have w79 : f_Mo_isWord t i11 160 = some (if wd n T (2 * 23 + 2) q = true then 1 else 0) := m_isWd hS11 hn 79 23 (by decide) (by decide) e5.1 e6
      rw [if_neg ck, if_pos (show (-1 : Int32) < 0 by decide), w79, Option.bind_some]
      by_cases cw : wd n T (2 * 23 + 2) q = true
      · have hnw : nwd n T 48 q = .inr ((), nw n T q) := if_pos cw
        rw [if_pos cw, if_neg (show ¬ (1 : Int32) = 0 by decide), hnw, bd_r]
        refine tt_bind (m_number hn (lo := 0) (hi := 99) (by decide) (by decide) (e6.rs e5.1)) ?_
        rintro ⟨v, i26⟩ ⟨hx, g2, g3⟩
        dsimp only at hx g2 g3 ⊢
        have f26 := b1.trans g3
        rcases hx.symm with ⟨u1, rfl⟩ | ⟨b9, q3, u1, -, -, b99, rfl, u6⟩
        · rw [u1, bd_l, if_pos (show (-1 : Int32) < 0 by decide)]
          exact tt_some ⟨f26.gx, Or.inl ⟨rfl, g2⟩⟩
        · have z0 : (105 : Int32) + 2 * nI (nd S) + 0 = nI (105 + 2 * nd S + 0) := by rw [lit_nI 105, lit_nI 2, mul_nI, nI_add]; exact nI_add _ 0
          have z1 : (105 : Int32) + 2 * nI (nd S) + 1 = nI (105 + 2 * nd S + 1) := by rw [lit_nI 105, lit_nI 2, mul_nI, nI_add]; exact nI_add _ 1
          rw [u1, bd_r, if_neg (nI_pos (by omega)), z0, z1, grd_nI (show 105 + 2 * nd S + 0 < 2115 by omega) (by decide), ix_nI (by omega)]
          refine tt_bnd ?_
          rw [grd_nI (show 105 + 2 * nd S + 1 < 2115 by omega) (by decide), ix_nI (by omega)]
          refine tt_bnd ?_
          have hM := ((hv.fz f26).dead h8 (show 0 < 2 by decide) (nI m)).dead h8 (show 1 < 2 by decide) (nI b9)
          have e0 := hM.1 3 (by decide) (by decide)
          rw [e0, su_o (by omega), su_o (by omega), hw.1.d, nI_1]
          exact tt_bnd (tt_some ⟨(((f26.gx.w (by omega) _).w (by omega) _).w (by omega) _), rfl, Wf_sdo hw h8 ⟨m, e4, rfl⟩ ⟨b9, b99, rfl⟩, hM.scal (by decide) (by decide) _, ((u6.w _ _).w _ _).w _ _⟩)
      · have hnw : nwd n T 48 q = .inl q := if_neg cw
        rw [if_neg cw, if_pos (show (0 : Int32) = 0 from rfl), hnw, bd_l]
        exact tt_some ⟨b1.gx, Or.inl ⟨rfl, e6.2.1⟩⟩
end SEAN
