/-! ===== whose: the reference's call ===== -/
section WHOSEN
variable {i : MI} {S : SS} {cap : Nat → Nat}
/-- the search among the dead for one fish -/
theorem m_wfd (hw : Wf S) (h : MV i S) (hi : mOK S cap i) {f X need : Nat} (hf : f < nf S) (hX : X < 2 ^ nf S) (hn : need ≤ 8) {b : Int32 × Int32 × MI → Option ((Int32 × Int32 × MI) ⊕ (Int32 × MI))}
    (hb : ∀ x4 x6 i_55, b (x4, x6, i_55) = (f_Mo_deadOnes i_55).bind (fun v_59 => if x6 < v_59 then (if x4 = -1 then ((f_Mo_ofDead i_55 x6 0).bind (fun v_62 => (f_Mo_of i_55 (nI f) 0).bind (fun v_63 => (f_Mo_has v_62 v_63).bind (fun v_64 => (if v_64 = 0 then (some (x4, i_55)) else (grd x6 6 ((f_Mo_of i_55 (nI f) 1).bind (fun v_71 => if (i_55 1650 (ix x6)) < v_71 then (some (x4, i_55)) else ((f_Mo_of i_55 (nI f) 1).bind (fun v_74 => bnd (wr i_55 1650 (ix x6) ((i_55 1650 (ix x6)) - v_74)) (fun i_75 => (f_Mo_mostOf i_75 (nI X)).bind (fun z => if (1 + z.1) = nI need then (some (x6, z.2)) else ((f_Mo_of z.2 (nI f) 1).bind (fun v_80 => bnd (wr z.2 1650 (ix x6) ((z.2 1650 (ix x6)) + v_80)) (fun i_81 => some (x4, i_81))))))))))) : Option (Int32 × MI)).bind (fun z => some (.inl (z.1, (x6 + 1), z.2))))))) else (some (.inr (x4, i_55)))) else (some (.inr (x4, i_55))))) :
    Tt (itr b 1000000 (-1, 0, i)) (fun y => (∀ b j, b ≠ 1649 → b ≠ 1650 → y.2 b j = i b j) ∧ ((wfd S cap X need f < nd S ∧ y.1 = nI (wfd S cap X need f) ∧ mOK S (cup S cap (wfd S cap X need f) f) y.2) ∨ (¬ wfd S cap X need f < nd S ∧ y.1 = -1 ∧ mOK S cap y.2))) := by
  have h8 := hw.1.f8
  have h6 := hw.1.d6
  have hp8 := pow_le8 h8
  obtain ⟨sz1, sz2, sz3⟩ := sz_n hw hf
  have hM : ∀ i' : MI, (∀ b j, b ≠ 1649 → b ≠ 1650 → i' b j = i b j) → MV i' S := fun i' he => h.congr (fun k => he 1639 k (by decide) (by decide))
  refine tt_loop (fun j (s : Int32 × Int32 × MI) => s.2.1 = nI j ∧ (∀ b j, b ≠ 1649 → b ≠ 1650 → s.2.2 b j = i b j) ∧ ((s.1 = -1 ∧ mOK S cap s.2.2 ∧ ∀ d, d < j → wpr S cap X need f d = false) ∨ (wfd S cap X need f < nd S ∧ s.1 = nI (wfd S cap X need f) ∧ mOK S (cup S cap (wfd S cap X need f) f) s.2.2))) (nd S) (by omega) ?_ ?_ ⟨rfl, fun _ _ _ _ => rfl, Or.inl ⟨rfl, hi, fun d hd => by omega⟩⟩
  · rintro j hj ⟨x4, x6, i2⟩ ⟨e1, e2, e3⟩
    dsimp only at e1 e2 e3
    subst e1
    rw [hb, m_deadOnes (hM i2 e2), hw.1.d, Option.bind_some, if_pos (nI_lt hj (by omega))]
    rcases e3 with ⟨rfl, o1, o2⟩ | ⟨w1, rfl, w3⟩
    · obtain ⟨c1, c2⟩ := o1 j hj
      obtain ⟨a, k, oa, ok, oh⟩ := m_said hw (hM i2 e2) hj hf
      have of1 : f_Mo_of i2 (nI f) 1 = some (S 2 f 1) := m_of (hM i2 e2) (k := 1) (by omega) (by decide)
      rw [if_pos (show (-1 : Int32) = -1 from rfl), oa, ok, Option.bind_some, Option.bind_some, oh, Option.bind_some, of1, sz1]
      have hgo : ∀ i3, wpr S cap X need f j = false → mOK S cap i3 → (∀ b j, b ≠ 1649 → b ≠ 1650 → i3 b j = i b j) → Tt (some (Sum.inl (-1, nI j + 1, i3)) : Option ((Int32 × Int32 × MI) ⊕ (Int32 × MI))) (lpP (fun (s : Int32 × Int32 × MI) => s.2.1 = nI (j + 1) ∧ (∀ b j, b ≠ 1649 → b ≠ 1650 → s.2.2 b j = i b j) ∧ ((s.1 = -1 ∧ mOK S cap s.2.2 ∧ ∀ d, d < j + 1 → wpr S cap X need f d = false) ∨ (wfd S cap X need f < nd S ∧ s.1 = nI (wfd S cap X need f) ∧ mOK S (cup S cap (wfd S cap X need f) f) s.2.2))) (fun y => (∀ b j, b ≠ 1649 → b ≠ 1650 → y.2 b j = i b j) ∧ ((wfd S cap X need f < nd S ∧ y.1 = nI (wfd S cap X need f) ∧ mOK S (cup S cap (wfd S cap X need f) f) y.2) ∨ (¬ wfd S cap X need f < nd S ∧ y.1 = -1 ∧ mOK S cap y.2)))) := fun i3 h1 h2 h3 => tt_some ⟨nI_1 j, h3, Or.inl ⟨rfl, h2, fun d hd => by
        by_cases e : d = j
        · subst e; exact h1
        · exact o2 d (by omega)⟩⟩
      by_cases cs : sd S j f = true
      · rw [if_pos cs, if_neg (show ¬ (1 : Int32) = 0 by decide), grd_nI (show j < 6 by omega) (by decide), Option.bind_some, ix_nI (show j < 2 ^ 31 by omega), c1]
        by_cases cc : cap j < (S 2 f 1).toNatClampNeg
        · rw [if_pos (nI_lt cc (by omega)), Option.bind_some]
          exact hgo i2 (by unfold wpr; rw [decide_eq_false (by omega : ¬ (S 2 f 1).toNatClampNeg ≤ cap j), Bool.false_and, Bool.and_false]) o1 e2
        · rw [if_neg (nI_nlt (by omega) (by omega)), Option.bind_some, sub_nI (by omega)]
          dsimp only [bnd]
          have hok3 : mOK S (cup S cap j f) (wr i2 1650 j (nI (cap j - (S 2 f 1).toNatClampNeg))) := by
            intro d hd
            unfold cup
            by_cases e : d = j
            · rw [if_pos e, e, wr_s]; exact ⟨rfl, by omega⟩
            · rw [if_neg e, wr_k e]; exact o1 d hd
          have hM3 : MV (wr i2 1650 j (nI (cap j - (S 2 f 1).toNatClampNeg))) S := hM _ (fun b k h1 h2 => by rw [wr_a h2]; exact e2 b k h1 h2)
          obtain ⟨y, hy, u1, u2⟩ := m_mostOf hw hM3 hok3 hX
          have hml : mst S (cup S cap j f) X ≤ 8 := rb_le8 (Nat.le_refl _) (by omega)
          have hw4 : mOK S (cup S cap j f) y.2 := fun d hd => by rw [u2 _ _ (by decide)]; exact hok3 d hd
          have hfr4 : ∀ b j, b ≠ 1649 → b ≠ 1650 → y.2 b j = i b j := fun b k h1 h2 => by rw [u2 b k h1, wr_a h2]; exact e2 b k h1 h2
          have of2 : f_Mo_of y.2 (nI f) 1 = some (S 2 f 1) := m_of (hM _ hfr4) (k := 1) (by omega) (by decide)
          have hwp : wpr S cap X need f j = decide (1 + mst S (cup S cap j f) X = need) := by
            unfold wpr
            rw [cs, decide_eq_true (show (S 2 f 1).toNatClampNeg ≤ cap j by omega), Bool.true_and, Bool.true_and]
          rw [hy, Option.bind_some, u1, show (1 : Int32) = nI 1 from rfl, nI_add, ← lit_nI 1]
          by_cases cn : 1 + mst S (cup S cap j f) X = need
          · rw [if_pos (by rw [cn]), Option.bind_some]
            have hj2 : j = wfd S cap X need f := by
              rcases wfd_sp (S := S) (cap := cap) X need f with ⟨q1, q2, q3⟩ | ⟨q1, q2⟩
              · rcases Nat.lt_trichotomy j (wfd S cap X need f) with q | q | q
                · have := q3 j q; rw [hwp, decide_eq_true cn] at this; exact absurd this (by decide)
                · exact q
                · rw [o2 _ q] at q2; exact absurd q2 (by decide)
              · have := q2 j hj; rw [hwp, decide_eq_true cn] at this; exact absurd this (by decide)
            exact tt_some ⟨nI_1 j, hfr4, Or.inr ⟨by rw [← hj2]; exact hj, by rw [← hj2], by rw [← hj2]; exact hw4⟩⟩
          · rw [if_neg (fun q => cn ((nI_inj (by omega) (by omega)).mp q)), of2, sz1, Option.bind_some]
            have e16 : y.2 1650 j = nI (cap j - (S 2 f 1).toNatClampNeg) := by rw [u2 _ _ (by decide), wr_s]
            rw [e16, nI_add, show cap j - (S 2 f 1).toNatClampNeg + (S 2 f 1).toNatClampNeg = cap j by omega, Option.bind_some]
            refine hgo (wr y.2 1650 j (nI (cap j))) (by rw [hwp, decide_eq_false cn]) (fun d hd => ?_) (fun b k h1 h2 => by rw [wr_a h2]; exact hfr4 b k h1 h2)
            by_cases e : d = j
            · subst e; rw [wr_s]; exact ⟨rfl, c2⟩
            · rw [wr_k e, u2 _ _ (by decide), wr_k e]; exact o1 d hd
      · rw [if_neg cs, if_pos (show (0 : Int32) = 0 from rfl), Option.bind_some]
        exact hgo i2 (by unfold wpr; rw [Bool.eq_false_iff.mpr cs, Bool.false_and]) o1 e2
    · rw [if_neg (nI_m1 (by omega))]
      exact tt_some ⟨e2, Or.inl ⟨w1, rfl, w3⟩⟩
  · rintro ⟨x4, x6, i2⟩ ⟨e1, e2, e3⟩
    dsimp only at e1 e2 e3
    subst e1
    rw [hb, m_deadOnes (hM i2 e2), hw.1.d, Option.bind_some, if_neg (nI_nlt (Nat.le_refl _) (by omega))]
    rcases e3 with ⟨rfl, o1, o2⟩ | ⟨w1, rfl, w3⟩
    · refine tt_some ⟨e2, Or.inr ⟨?_, rfl, o1⟩⟩
      rcases wfd_sp (S := S) (cap := cap) X need f with ⟨q1, q2, q3⟩ | ⟨q1, q2⟩
      · rw [o2 _ q1] at q2; exact absurd q2 (by decide)
      · exact q1
    · exact tt_some ⟨e2, Or.inl ⟨w1, rfl, w3⟩⟩
theorem m_whose (hw : Wf S) (h : MV i S) (x : Int32) : Tt (f_Mo_whose i x) (MO i (spWhose S x)) := by
  have h8 := hw.1.f8
  have h6 := hw.1.d6
  have hp8 := pow_le8 h8
  have hpp := Nat.two_pow_pos (nf S)
  have hfr := fre_lt (S := S)
  have h1 := mv_t h 0
  unfold f_Mo_whose spWhose
  refine tt_bnd ?_
  by_cases hx : x = -1 ∨ okx x (nf S) = true
  · refine tt_bind (P1 := fun v => v = 0) ?_ ?_
    · by_cases hx1 : x = -1
      · rw [if_pos hx1]; exact tt_some rfl
      · rw [if_neg hx1, m_noFish hw.1 h1, Option.bind_some, if_pos (hx.resolve_left hx1), if_pos (show (0 : Int32) = 0 from rfl)]
        exact tt_some rfl
    · rintro v rfl
      rw [thr0, Option.bind_some]
      dsimp only
      rw [if_pos (show (0 : Int32) = 0 from rfl)]
      have hM : ∀ i' : MI, (∀ b j, b ≠ 1649 → b ≠ 1650 → i' b j = wr i 1638 0 0 b j) → MV i' S := fun i' he => h1.congr (fun k => he 1639 k (by decide) (by decide))
      refine tt_bind (P1 := fun i' => mOK S (cap0 S) i' ∧ ∀ b j, b ≠ 1649 → b ≠ 1650 → i' b j = wr i 1638 0 0 b j)
        (tt_loop (fun q (s : Int32 × MI) => s.1 = nI q ∧ (∀ d, d < q → d < nd S → s.2 1650 d = nI (cap0 S d)) ∧ ∀ b j, b ≠ 1649 → b ≠ 1650 → s.2 b j = wr i 1638 0 0 b j) 6 (by omega) ?_ ?_ ⟨rfl, fun d hd => by omega, fun _ _ _ _ => rfl⟩) ?_
      · rintro q hq ⟨z, i2⟩ ⟨e1, e2, e3⟩
        dsimp only at e1 e2 e3 ⊢
        subst e1
        rw [lit_nI 6, if_pos (nI_lt hq (by omega)), m_deadOnes (hM i2 e3), hw.1.d, Option.bind_some]
        refine tt_bind (P1 := fun v => q < nd S → v = nI (cap0 S q)) ?_ ?_
        · by_cases c : q < nd S
          · have d1 : f_Mo_ofDead i2 (nI q) 1 = some (S 5 q 1) := m_dead (hM i2 e3) (k := 1) (by omega) (by decide)
            rw [if_pos (nI_lt c (by omega)), d1, (cap0_le hw c).2]
            exact tt_some (fun _ => rfl)
          · rw [if_neg (nI_nlt (by omega) (by omega))]
            exact tt_some (fun q2 => absurd q2 c)
        · rintro v hv
          rw [grd_nI (show q < 6 by omega) (by decide), ix_nI (by omega)]
          refine tt_bnd (tt_some ⟨nI_1 q, fun d hd hn => ?_, fun b j hb hb2 => ?_⟩)
          · show wr i2 1650 q v 1650 d = _
            by_cases e : d = q
            · subst e; rw [wr_s]; exact hv hn
            · rw [wr_k e]; exact e2 d (by omega) hn
          · show wr i2 1650 q v b j = _
            rw [wr_a hb2]; exact e3 b j hb hb2
      · rintro ⟨z, i2⟩ ⟨e1, e2, e3⟩
        dsimp only at e1 e2 e3 ⊢
        subst e1
        rw [lit_nI 6, if_neg (nI_nlt (Nat.le_refl _) (by omega))]
        exact tt_some ⟨fun d hd => ⟨e2 d (by omega) hd, (cap0_le hw hd).1⟩, e3⟩
      rintro i2 ⟨o1, o2⟩
      rw [m_fishes (hM i2 o2), hw.1.f, Option.bind_some, m_allThat hw.1 (hM i2 o2), Option.bind_some, full_nI h8, dif_nI (by omega)]
      show Tt ((f_Mo_mostOf i2 (nI (fre S))).bind _) _
      refine tt_bind (m_mostOf hw (hM i2 o2) o1 hfr) ?_
      rintro ⟨v, i3⟩ ⟨u1, u2⟩
      dsimp only at u1 u2 ⊢
      subst u1
      have hfq : ∀ i' : MI, (∀ b j, b ≠ 1649 → b ≠ 1650 → i' b j = wr i 1638 0 0 b j) → fq (wr i 1638 0 0) i' ∧ i' 1638 0 = 0 := fun i' he => ⟨⟨fun b j hb => he b j (by omega) (by omega), fun j _ => he 1638 j (by decide) (by decide)⟩, (he 1638 0 (by decide) (by decide)).trans wr_s⟩
      have f3 : ∀ b j, b ≠ 1649 → b ≠ 1650 → i3 b j = wr i 1638 0 0 b j := fun b j h1 h2 => (u2 b j h1).trans (o2 b j h1 h2)
      by_cases hx1 : x = -1
      · obtain ⟨a1, a2⟩ := hfq i3 f3
        rw [if_pos hx1, if_pos hx1]
        exact tt_some (mo_ok a1 a2 rfl)
      · have ho := hx.resolve_left hx1
        rw [if_neg hx1, if_neg hx1, if_pos ho]
        obtain ⟨n, hn, rfl⟩ := okx_of (by omega) ho
        have hok3 : mOK S (cap0 S) i3 := fun d hd => by rw [u2 _ _ (by decide)]; exact o1 d hd
        refine tt_bind (P1 := fun y => y.1 = (whs S (n + 1)).2.2.2 ∧ ∀ b j, b ≠ 1649 → b ≠ 1650 → y.2 b j = wr i 1638 0 0 b j)
          (tt_loop (fun q (s : Int32 × Int32 × Int32 × Int32 × MI) => s.1 = nI (whs S q).2.1 ∧ s.2.1 = nI (whs S q).2.2.1 ∧ (q = n + 1 → s.2.2.1 = (whs S q).2.2.2) ∧ s.2.2.2.1 = nI q ∧ mOK S (whs S q).1 s.2.2.2.2 ∧ ∀ b j, b ≠ 1649 → b ≠ 1650 → s.2.2.2.2 b j = wr i 1638 0 0 b j) (n + 1) (by omega) ?_ ?_ ⟨rfl, rfl, fun q => by omega, rfl, hok3, f3⟩) ?_
        · rintro q hq ⟨x2, x3, x4, x5, i4⟩ ⟨k0, k1, k2, k3, k4, k5⟩
          dsimp only at k0 k1 k2 k3 k4 k5 ⊢
          subst k0 k1 k3
          obtain ⟨s1, s2, s3, s4⟩ := whs_sp hw q (by omega)
          have hml := sbs_le s1
          have ew : whs S (q + 1) = wsp S q (whs S q) := rfl
          rw [if_neg (nI_nlt (by omega) (by omega)), mo_hasm (by omega) (by omega), Option.bind_some]
          by_cases c : (whs S q).2.1.testBit q = true
          · have hdl := delb_le (whs S q).2.1 q
            rw [if_pos c, if_neg (show ¬ (1 : Int32) = 0 by decide), delb_nI (by omega) (by omega)]
            refine tt_bind (P1 := fun y => y.1 = nI (whs S (q + 1)).2.1 ∧ y.2.1 = nI (whs S (q + 1)).2.2.1 ∧ y.2.2.1 = (whs S (q + 1)).2.2.2 ∧ mOK S (whs S (q + 1)).1 y.2.2.2 ∧ ∀ b j, b ≠ 1649 → b ≠ 1650 → y.2.2.2 b j = wr i 1638 0 0 b j) ?_ (fun y hy => tt_some ⟨hy.1, hy.2.1, fun _ => hy.2.2.1, nI_1 q, hy.2.2.2⟩)
            refine tt_bind (m_wfd hw (hM i4 k5) k4 (f := q) (X := delb (whs S q).2.1 q) (need := (whs S q).2.2.1) (by omega) (by omega) s3 (fun _ _ _ => rfl)) ?_
            rintro ⟨y, i6⟩ ⟨g1, hcase⟩
            dsimp only at g1 hcase ⊢
            have hf6 : ∀ b j, b ≠ 1649 → b ≠ 1650 → i6 b j = wr i 1638 0 0 b j := fun b j h1 h2 => (g1 b j h1 h2).trans (k5 b j h1 h2)
            rcases hcase with ⟨w1, w2, w3⟩ | ⟨w1, w2, w3⟩
            · have ev : whs S (q + 1) = (cup S (whs S q).1 (wfd S (whs S q).1 (delb (whs S q).2.1 q) (whs S q).2.2.1 q) q, delb (whs S q).2.1 q, (whs S q).2.2.1 - 1, nI (wfd S (whs S q).1 (delb (whs S q).2.1 q) (whs S q).2.2.1 q)) := by
                rw [ew]; unfold wsp; rw [if_pos c, if_pos w1]
              have hn1 : 1 ≤ (whs S q).2.2.1 := by
                rcases wfd_sp (S := S) (cap := (whs S q).1) (delb (whs S q).2.1 q) (whs S q).2.2.1 q with ⟨-, q2, -⟩ | ⟨q1, -⟩
                · unfold wpr at q2
                  simp only [Bool.and_eq_true, decide_eq_true_eq] at q2
                  omega
                · exact absurd w1 q1
              rw [w2, if_neg (nI_m1 (by omega)), Option.bind_some]
              refine tt_some ⟨by rw [ev], ?_, by rw [ev], by rw [ev]; exact w3, hf6⟩
              rw [ev]
              exact nI_m1' hn1
            · have ev : whs S (q + 1) = ((whs S q).1, delb (whs S q).2.1 q, (whs S q).2.2.1, -1) := by
                rw [ew]; unfold wsp; rw [if_pos c, if_neg w1]
              rw [w2, if_pos (show (-1 : Int32) = -1 from rfl), Option.bind_some]
              refine tt_some ⟨by rw [ev], ?_, by rw [ev], by rw [ev]; exact w3, hf6⟩
              rw [ev]
              exact Int32.sub_zero _
          · have ev : whs S (q + 1) = ((whs S q).1, (whs S q).2.1, (whs S q).2.2.1, -1) := by
              rw [ew]; unfold wsp; rw [if_neg c]
            rw [if_neg c, if_pos (show (0 : Int32) = 0 from rfl), Option.bind_some]
            exact tt_some ⟨by rw [ev], by rw [ev], fun _ => by rw [ev], nI_1 q, by rw [ev]; exact k4, k5⟩
        · rintro ⟨x2, x3, x4, x5, i4⟩ ⟨k0, k1, k2, k3, k4, k5⟩
          dsimp only at k0 k1 k2 k3 k4 k5 ⊢
          subst k3
          rw [if_pos (nI_lt (by omega) (by omega))]
          exact tt_some ⟨k2 rfl, k5⟩
        · rintro ⟨y, i4⟩ ⟨k1, k2⟩
          dsimp only at k1 k2 ⊢
          obtain ⟨a1, a2⟩ := hfq i4 k2
          rw [ix_nI (by omega)]
          exact tt_some (mo_ok a1 a2 k1)
  · have hx1 : ¬ x = -1 := fun q => hx (Or.inl q)
    have ho : ¬ okx x (nf S) = true := fun q => hx (Or.inr q)
    rw [if_neg hx1, if_neg hx1, if_neg ho, m_noFish hw.1 h1, Option.bind_some, if_neg ho, if_neg (show ¬ (1 : Int32) = 0 by decide), Option.bind_some, thr1, Option.bind_some]
    dsimp only
    rw [if_neg (by decide)]
    exact tt_some (mo_err (by decide) (fq_t (fq.refl i) 0))
end WHOSEN
