/-! ===== calls that only look, 5: buyers, fish ===== -/
def cel (S : SS) (f : Nat) : Int32 := if S 2 f 3 = 0 then S 2 f 4 else if S 2 f 3 = 1 then S 3 (ix (S 2 f 4)) 0 else -1
def mbg (S : SS) (f d : Nat) (x : Int32) : Int32 := if (S 5 d 0).toNatClampNeg.testBit (S 2 f 0).toNatClampNeg = true ∧ ¬ S 5 d 1 < S 2 f 1 then x ||| shl 1 (nI d) else x
def myb (S : SS) (f : Nat) : Int32 := fo (mbg S f) (nd S) 0
def its (S : SS) (L : LW) (n : Nat) : SS := fo (fun _ X => sdc X L) n S
def cau (S : SS) (L : LW) (f : Nat) : Int32 := fsk (fun n => decide (¬ its S L n 2 f 3 = 0)) 61 0
def spFish (S : SS) (L : LW) (x w : Int32) : Int32 × Int32 := if okx x (nf S) = true then (if okx w 10 = true then (0, if w = 4 then cel S (ix x) else if w = 5 then abo (S 2 (ix x) 3) (S 2 (ix x) 4) else if w = 6 then str S L (ix x) else if w = 7 then spr S L (ix x) else if w = 8 then cau S L (ix x) else if w = 9 then myb S (ix x) else S 2 (ix x) (ix w)) else (2, 0)) else (1, 0)
def RQ (r r' : MR) : Prop := ∀ b k, ¬ cqs b → r' b k = r b k
def CO3 (tg : List Nat) (lw : Nat) (i : MI) (r : MR) (p : Int32 × Int32) : (Int32 ⊕ Nat) × MI × MR → Prop := fun y => y.1 = toC tg p ∧ CQ lw i y.2.1 ∧ RQ r y.2.2
theorem m_keep {i i1 i2 i3 : MI} (h1 : ∀ c j, i1 c j = if c = 1642 ∧ j < 417 then i 1639 j else i c j) (h2 : fm i1 i2) (h3 : ∀ c j, i3 c j = if c = 1639 ∧ j < 417 then i2 1642 j else i2 c j) : ∀ b j, b ≠ 1642 → b ≠ 1646 → b ≠ 1647 → i3 b j = i b j := by
  intro b j g1 g2 g3
  rw [h3]
  by_cases c : b = 1639 ∧ j < 417
  · rw [if_pos c, h2.1 1642 j (by decide) (by decide) (by decide), h1, if_pos ⟨rfl, c.2⟩, c.1]
  · rw [if_neg c]
    by_cases c2 : b = 1639
    · subst c2
      rw [h2.2 j (by omega), h1, if_neg (by omega)]
    · rw [h2.1 b j c2 g2 g3, h1, if_neg (fun q => g1 q.1)]
theorem fq_k {i i' : MI} (h : ∀ b j, b ≠ 1642 → b ≠ 1646 → b ≠ 1647 → i' b j = i b j) : fq i i' := ⟨fun b j hb => h b j (by omega) (by omega) (by omega), fun j _ => h 1638 j (by decide) (by decide) (by decide)⟩
section API5
variable {i : MI} {t : MT} {r : MR} {a : Nat} {S : SS} {L : LW}
theorem v_buyer (hw : Wf S) (h : CV i 1001 S) (hL : WL L) (hl : CL t i (r 1001 16) L) (hna : NA 1001 (r 1001 16)) (x w : Int32) : Tt (f_Lc_buyer t r i x w) (CO [22, 24] (r 1001 16) i (spBuyer S L x w)) := by
  have h5 := hw.1.y5
  have hna' := hna
  unfold NA at hna'
  unfold f_Lc_buyer spBuyer
  rw [v_needBuyer hw.1 h]
  by_cases hx : okx x (ny S) = true
  · rw [if_pos hx, if_pos hx, Option.bind_some]
    obtain ⟨y, hy, rfl⟩ := okx_of (by omega) hx
    obtain ⟨p0, p1, p2, p3⟩ := h.2.2.2.2.1 y hy
    dsimp only
    rw [grd_nI (show y < 5 by omega) (by decide), ix_nI (by omega), p0, p1, p2, p3]
    by_cases hww : okx w 6 = true
    · rw [if_pos hww]
      obtain ⟨k, hk, rfl⟩ := okx_of (by decide) hww
      rcases (show k = 0 ∨ k = 1 ∨ k = 2 ∨ k = 3 ∨ k = 4 ∨ k = 5 by omega) with rfl | rfl | rfl | rfl | rfl | rfl
      · exact tt_some ⟨rfl, CQ.refl _ _⟩
      · exact tt_some ⟨rfl, CQ.refl _ _⟩
      · exact tt_some ⟨rfl, CQ.refl _ _⟩
      · exact tt_some ⟨rfl, CQ.refl _ _⟩
      · show Tt ((f_Se_mayBuy t r i 1001 (nI y)).bind (fun z => (f_Se_freshestOf z.2 1001 z.1).bind (fun v => some (Sum.inl v, z.2)))) _
        refine tt_bind (v_mayBuy hw.1 h hL hl hna hy) ?_
        rintro ⟨v, i2⟩ ⟨e1, e2⟩
        have h2 : CV i2 1001 S := h.congr (fun b k _ _ => e2 b k (by omega)) hw.1
        dsimp only at e1 e2 ⊢
        subst e1
        rw [v_freshest hw.1 h2 (bits_256 _ hw.1.f8), Option.bind_some]
        refine tt_some ⟨?_, cq_1 e2⟩
        dsimp only
        rw [frs_congr (q := sut S L y) (fun f hf => by rw [bits_test]; simp [hf])]
        rfl
      · show Tt ((f_Lc_share i (S 4 y 1)).bind (fun v => some (Sum.inl v, i))) _
        unfold f_Lc_share
        rw [v_money hw.1 h, Option.bind_some]
        by_cases c : mny S = 0
        · rw [if_pos c]
          refine tt_some ⟨?_, CQ.refl _ _⟩
          dsimp only
          rw [if_pos c]; rfl
        · rw [if_neg c]
          refine tt_some ⟨?_, CQ.refl _ _⟩
          dsimp only
          rw [if_neg c]; rfl
    · rw [if_neg hww]
      exact ⟨_, sw_no (by decide) hww _ 0 (Nat.le_refl _), rfl, CQ.refl _ _⟩
  · rw [if_neg hx, if_neg hx]; exact tt_some ⟨rfl, CQ.refl _ _⟩
theorem m_buyerA (hw : Wf S) (h : MV i S) (hL : WL L) (hl : ML i L) (x w : Int32) : Tt (f_Mo_buyer i x w) (MO i (spBuyer S L x w)) := by
  have h5 := hw.1.y5
  have h1 := mv_t h 0
  have l1 := ml_t hl 0
  unfold f_Mo_buyer spBuyer
  refine tt_bnd ?_
  rw [m_noBuyer hw.1 h1, Option.bind_some]
  by_cases hx : okx x (ny S) = true
  · rw [if_pos hx, if_pos hx, thr0, Option.bind_some]
    obtain ⟨y, hy, rfl⟩ := okx_of (by omega) hx
    dsimp only
    rw [if_pos rfl, lit_nI 5, mo_inL 5 (by decide), Option.bind_some]
    by_cases hww : okx w 6 = true
    · rw [if_pos hww, if_pos hww, if_neg (by decide), Option.bind_some, thr0, Option.bind_some]
      dsimp only
      obtain ⟨k, hk, rfl⟩ := okx_of (by decide) hww
      rw [if_pos rfl, ix_nI (by omega), ix_nI (by omega)]
      have hm1 : f_Mo_ofBuyer (wr i 1638 0 0) (nI y) 1 = some (S 4 y 1) := m_buyer h1 (k := 1) (by omega) (by decide)
      rw [m_money hw.1 h1, hm1]
      rcases (show k < 4 ∨ k = 4 ∨ k = 5 by omega) with hk4 | rfl | rfl
      · refine tt_ifp (nI_lt hk4 (by decide)) ?_
        rw [m_buyer h1 (show y < 5 by omega) hk4, Option.bind_some]
        refine tt_some (mo_ok (fq.refl _) wr_s ?_)
        rcases (show k = 0 ∨ k = 1 ∨ k = 2 ∨ k = 3 by omega) with rfl | rfl | rfl | rfl <;> rfl
      · refine tt_ifn (by decide) (tt_ifp rfl ?_)
        refine tt_bind (m_choice hw.1 h1 hL l1 hy) ?_
        rintro ⟨v, i2⟩ ⟨e1, e2⟩
        exact tt_some (mo_ok (fq_46 e2) ((e2 1638 0 (by decide)).trans wr_s) e1)
      · refine tt_ifn (by decide) (tt_ifn (by decide) ?_)
        simp only [Option.bind_some]
        by_cases c : mny S = 0
        · refine tt_ifp c (tt_some (mo_ok (fq.refl _) wr_s ?_))
          rw [if_neg (by decide), if_pos trivial, if_pos c]
        · refine tt_ifn c (tt_grd2 (by simp [c]) (tt_some (mo_ok (fq.refl _) wr_s ?_)))
          rw [if_neg (by decide), if_pos trivial, if_neg c, Int32.mul_comm]
    · rw [if_neg hww, if_neg hww, if_pos rfl, Option.bind_some, thr1, Option.bind_some]
      dsimp only
      rw [if_neg (by decide)]
      exact tt_some (mo_err (by decide) (fq_t (fq.refl i) 0))
  · rw [if_neg hx, if_neg hx, thr1, Option.bind_some]
    dsimp only
    rw [if_neg (by decide)]
    exact tt_some (mo_err (by decide) (fq_t (fq.refl i) 0))
/-! parts of a fish -/
theorem v_cellOf (hw : Wf S) (h : CV i a S) {f : Nat} (hf : f < nf S) : f_Se_cellOf i a (nI f) = some (cel S f) := by
  have h8 := hw.1.f8
  have h3 := hw.1.b3
  obtain ⟨-, -, -, f3, f4, f5⟩ := h.2.2.1 f hf
  obtain ⟨-, -, -, k3⟩ := hw.2.2.1 f hf
  unfold f_Se_cellOf cel
  rw [grd_nI (show f < 8 by omega) (by decide), ix_nI (by omega), f3, f4, f5, h.1.2.1, hw.1.b]
  unfold spo abo
  rcases k3 with ⟨e, -⟩ | ⟨e, b, hb, e2⟩ | ⟨e, -⟩ | ⟨e, -⟩
  · rw [e, if_neg (by decide), if_pos rfl, if_pos rfl]
  · obtain ⟨p0, -, -⟩ := h.2.2.2.1 b hb
    rw [e, e2, if_pos rfl, if_pos rfl, if_neg (nI_pos (by omega)), if_pos (nI_lt hb (by omega)), grd_nI (show b < 3 by omega) (by decide), ix_nI (by omega), p0, if_neg (by decide), if_pos rfl]
  · rw [e, if_neg (by decide), if_neg (by decide), if_neg (by decide), if_neg (by decide)]
  · rw [e, if_neg (by decide), if_neg (by decide), if_neg (by decide), if_neg (by decide)]
theorem m_cellOf (hw : Wf S) (h : MV i S) {f : Nat} (hf : f < nf S) : f_Mo_cellOf i (nI f) = some (cel S f) := by
  have h8 := hw.1.f8
  have h3 := hw.1.b3
  obtain ⟨-, -, -, k3⟩ := hw.2.2.1 f hf
  have g3 : f_Mo_of i (nI f) 3 = some (S 2 f 3) := m_of h (k := 3) (by omega) (by decide)
  have g4 : f_Mo_of i (nI f) 4 = some (S 2 f 4) := m_of h (k := 4) (by omega) (by decide)
  unfold f_Mo_cellOf cel
  rw [g3, g4]
  simp only [Option.bind_some]
  by_cases c : S 2 f 3 = 0
  · rw [if_pos c, if_pos c]
  · rw [if_neg c, if_neg c]
    by_cases c1 : S 2 f 3 = 1
    · rw [if_pos c1, if_pos c1]
      rcases k3 with ⟨e, -⟩ | ⟨e, b, hb, e2⟩ | ⟨e, -⟩ | ⟨e, -⟩
      · exact absurd e c
      · have gb : f_Mo_ofBoat i (nI b) 0 = some (S 3 b 0) := m_boat h (k := 0) (by omega) (by decide)
        rw [e2, gb, ix_nI (by omega)]; rfl
      · rw [c1] at e; exact absurd e (by decide)
      · rw [c1] at e; exact absurd e (by decide)
    · rw [if_neg c1, if_neg c1]
theorem v_maybe (hw : Wf S) (h : CV i a S) {f : Nat} (hf : f < nf S) : f_Se_maybe i a (nI f) = some (myb S f) := by
  have h8 := hw.1.f8
  have h6 := hw.1.d6
  obtain ⟨f0, f1, -⟩ := h.2.2.1 f hf
  obtain ⟨⟨kd, hkd, ek⟩, -⟩ := hw.2.2.1 f hf
  unfold f_Se_maybe myb f_Se_saidKindOf
  refine (itr_bind (itr_fo (fun j x => (x, nI j)) (mbg S f) (nd S) 0 (y := fo (mbg S f) (nd S) 0) ?_ ?_ (by omega) rfl)).trans rfl
  · intro j x hj _
    obtain ⟨d0, d1⟩ := h.2.2.2.2.2.1 j hj
    obtain ⟨⟨m, hm, em⟩, -⟩ := hw.2.2.2.2.2.1 j hj
    dsimp only
    have hb := bit_shr m (by omega) kd (by omega)
    rw [show i a 10 = S 0 0 3 from h.1.2.2.2.1, hw.1.d, if_pos (nI_lt hj (by omega)), grd_nI (show j < 6 by omega) (by decide), grd_nI (show f < 8 by omega) (by decide), ix_nI (by omega), ix_nI (by omega), d0, d1, f0, f1]
    unfold mbg
    rw [ek, em, nI_clamp (by omega), nI_clamp (by omega)]
    by_cases ht : m.testBit kd = true
    · rw [if_neg (fun q => by rw [hb.mp q] at ht; cases ht), Option.bind_some, if_neg (by decide)]
      rw [grd_nI (show j < 6 by omega) (by decide), grd_nI (show f < 8 by omega) (by decide)]
      by_cases c : S 5 j 1 < S 2 f 1
      · rw [if_pos c, if_neg (fun q => q.2 c), Option.bind_some, nI_1]
      · rw [if_neg c, if_pos ⟨ht, c⟩, Option.bind_some, nI_1]
    · rw [if_pos (hb.mpr (by simpa using ht)), Option.bind_some, if_pos rfl, if_neg (fun q => ht q.1), Option.bind_some, nI_1]
  · dsimp only
    rw [show i a 10 = S 0 0 3 from h.1.2.2.2.1, hw.1.d, if_neg (nI_nlt (Nat.le_refl _) (by omega))]
theorem m_maybe (hw : Wf S) (h : MV i S) {f : Nat} (hf : f < nf S) : f_Mo_maybeOf i (nI f) = some (myb S f) := by
  have h8 := hw.1.f8
  have h6 := hw.1.d6
  have f0 : f_Mo_of i (nI f) 0 = some (S 2 f 0) := m_of h (k := 0) (by omega) (by decide)
  have f1 : f_Mo_of i (nI f) 1 = some (S 2 f 1) := m_of h (k := 1) (by omega) (by decide)
  obtain ⟨⟨kd, hkd, ek⟩, -⟩ := hw.2.2.1 f hf
  unfold f_Mo_maybeOf myb f_Mo_mightSay
  refine (itr_bind (itr_fo (fun j x => (x, nI j)) (mbg S f) (nd S) 0 (y := fo (mbg S f) (nd S) 0) ?_ ?_ (by omega) rfl)).trans rfl
  · intro j x hj _
    obtain ⟨⟨m, hm, em⟩, -⟩ := hw.2.2.2.2.2.1 j hj
    have d0 : f_Mo_ofDead i (nI j) 0 = some (S 5 j 0) := m_dead h (k := 0) (by omega) (by decide)
    have d1 : f_Mo_ofDead i (nI j) 1 = some (S 5 j 1) := m_dead h (k := 1) (by omega) (by decide)
    dsimp only
    rw [m_deadOnes h, hw.1.d, Option.bind_some, if_pos (nI_lt hj (by omega)), d0, d1, f0, f1]
    simp only [Option.bind_some]
    unfold mbg
    rw [ek, em, nI_clamp (by omega), nI_clamp (by omega), has_bit m (by omega) kd (by omega), Option.bind_some]
    by_cases ht : m.testBit kd = true
    · rw [if_pos ht, if_neg (by decide)]
      by_cases c : S 5 j 1 < S 2 f 1
      · rw [if_pos c, Option.bind_some, if_pos rfl, if_neg (fun q => q.2 c), Option.bind_some, or_0x, nI_1]
      · rw [if_neg c, Option.bind_some, if_neg (by decide), if_pos ⟨ht, c⟩, Option.bind_some, nI_1]
    · rw [if_neg ht, if_pos rfl, Option.bind_some, if_pos rfl, if_neg (fun q => ht q.1), Option.bind_some, or_0x, nI_1]
  · dsimp only
    rw [m_deadOnes h, hw.1.d, Option.bind_some, if_neg (nI_nlt (Nat.le_refl _) (by omega))]
theorem v_caught (hw : Wf S) (h : CV i 1001 S) (hL : WL L) (hl : CL t i (r 1001 16) L) (hna : NA 1075 (r 1001 16)) {f : Nat} (hf : f < nf S) : Tt (f_Lc_caughtIn t r i (nI f)) (fun y => y.1 = cau S L f ∧ CQ (r 1001 16) i y.2.1 ∧ RQ r y.2.2) := by
  have h8 := hw.1.f8
  have hna' := hna
  unfold NA at hna'
  unfold f_Lc_caughtIn cau
  refine tt_bind (v_copyFrom (a := 1075) (b := 1001) hw.1 h (by omega)) ?_
  rintro ⟨i1, r2⟩ ⟨c1, c2, c3⟩
  dsimp only at c1 c2 c3 ⊢
  have er : r2 1075 16 = r 1001 16 := by rw [c2]; exact wrR_s
  have hrq : RQ r r2 := fun b k hb => by rw [c2]; exact wrR_o (by unfold cqs at hb; omega)
  refine tt_loop (fun q (s : Int32 × MI) => s.1 = nI q ∧ (Wf (its S L q) ∧ kp S (its S L q) ∧ CV s.2 1075 (its S L q)) ∧ (∀ b j, (b < 1075 ∨ 1106 ≤ b) → b ≠ r 1001 16 + 1 → s.2 b j = i b j) ∧ fsk (fun n => decide (¬ its S L n 2 f 3 = 0)) 61 0 = fsk (fun n => decide (¬ its S L n 2 f 3 = 0)) (61 - q) q) 61 (by omega) ?_ ?_ ⟨rfl, ⟨hw, kp.refl S, c1⟩, fun b j hb _ => c3 b j (by omega), rfl⟩
  · rintro q hq ⟨x, i5⟩ ⟨e1, ⟨e2, e3, e4⟩, e5, hn⟩
    dsimp only at e1 e2 e3 e4 e5 ⊢
    subst e1
    have hf' : f < nf (its S L q) := by rw [e3.nf]; exact hf
    obtain ⟨-, -, -, f3, -, -⟩ := e4.2.2.1 f hf'
    have l2 : CL t i5 (r2 1075 16) L := by rw [er]; exact hl.congr (fun b k hb => e5 b k (by omega) (by omega))
    have hstep : fsk (fun n => decide (¬ its S L n 2 f 3 = 0)) (61 - q) q = if decide (¬ its S L q 2 f 3 = 0) = true then nI q else fsk (fun n => decide (¬ its S L n 2 f 3 = 0)) (61 - (q + 1)) (q + 1) := by
      rw [show 61 - q = (61 - (q + 1)) + 1 by omega]; rfl
    rw [lit_nI 60, if_neg (nI_nlt (by omega) (by omega)), grd_nI (show f < 8 by omega) (by decide), ix_nI (by omega)]
    by_cases c : its S L q 2 f 3 = 0
    · refine tt_ifp (f3.trans c) ?_
      rw [if_neg (by simpa using c)] at hstep
      refine tt_bind (v_passDay e2 e4 hL l2 (by rw [er]; exact hna) false) ?_
      rintro ⟨v, i6⟩ ⟨⟨u1, u2, u3⟩, -, u5⟩
      refine tt_some ⟨nI_1 q, ⟨u1, e3.trans u2, u3⟩, fun b j hb hb2 => ?_, hn.trans hstep⟩
      dsimp only at u5 ⊢
      rw [u5 b j (by omega) (by rw [er]; exact hb2)]
      exact e5 b j hb hb2
    · refine tt_ifn (fun q => c (f3.symm.trans q)) ?_
      rw [if_pos (by simpa using c)] at hstep
      refine tt_some ⟨?_, fun b j hb hb2 => e5 b j (by unfold cqs at hb2; omega) hb, hrq⟩
      dsimp only
      rw [hn, hstep]
  · rintro ⟨x, i5⟩ ⟨e1, -, e5, hn⟩
    dsimp only at e1 e5 ⊢
    subst e1
    rw [lit_nI 60, if_pos (nI_lt (by decide) (by omega))]
    refine tt_some ⟨?_, fun b j hb hb2 => e5 b j (by unfold cqs at hb2; omega) hb, hrq⟩
    dsimp only
    rw [hn]
    rfl
theorem m_caught (hw : Wf S) (h : MV i S) (hL : WL L) (hl : ML i L) {f : Nat} (hf : f < nf S) : Tt (f_Mo_caughtIn i (nI f)) (fun y => y.1 = cau S L f ∧ ∀ b j, b ≠ 1642 → b ≠ 1646 → b ≠ 1647 → y.2 b j = i b j) := by
  have h8 := hw.1.f8
  unfold f_Mo_caughtIn cau
  refine tt_bind (m_keepsAll (i := i)) ?_
  intro i1 hk
  have h1 : MV i1 S := h.congr (fun k => by rw [hk, if_neg (by omega)])
  have l1 : ML i1 L := hl.congr (fun k => by rw [hk, if_neg (by omega)])
  refine tt_bind (P1 := fun y => y.1 = fsk (fun n => decide (¬ its S L n 2 f 3 = 0)) 61 0 ∧ fm i1 y.2)
    (tt_loop (fun q (s : Int32 × Int32 × MI) => s.2.1 = nI q ∧ fm i1 s.2.2 ∧ ((s.1 = -1 ∧ (Wf (its S L q) ∧ kp S (its S L q) ∧ MV s.2.2 (its S L q)) ∧ fsk (fun n => decide (¬ its S L n 2 f 3 = 0)) 61 0 = fsk (fun n => decide (¬ its S L n 2 f 3 = 0)) (61 - q) q) ∨ (¬ s.1 = -1 ∧ fsk (fun n => decide (¬ its S L n 2 f 3 = 0)) 61 0 = s.1))) 61 (by omega) ?_ ?_ ⟨rfl, fm.refl _, Or.inl ⟨rfl, ⟨hw, kp.refl S, h1⟩, rfl⟩⟩) ?_
  · rintro q hq ⟨x, z, i5⟩ ⟨e1, e2, e3⟩
    dsimp only at e1 e2 e3 ⊢
    subst e1
    rw [lit_nI 60, if_neg (nI_nlt (by omega) (by omega))]
    rcases e3 with ⟨rfl, ⟨w1, w2, w3⟩, hn⟩ | ⟨e3, hn⟩
    · have hstep : fsk (fun n => decide (¬ its S L n 2 f 3 = 0)) (61 - q) q = if decide (¬ its S L q 2 f 3 = 0) = true then nI q else fsk (fun n => decide (¬ its S L n 2 f 3 = 0)) (61 - (q + 1)) (q + 1) := by
        rw [show 61 - q = (61 - (q + 1)) + 1 by omega]; rfl
      have g3 : f_Mo_of i5 (nI f) 3 = some (its S L q 2 f 3) := m_of w3 (k := 3) (by omega) (by decide)
      rw [if_pos rfl, g3, Option.bind_some]
      have l5 : ML i5 L := e2.law l1
      by_cases c : its S L q 2 f 3 = 0
      · rw [if_pos c, Option.bind_some]
        rw [if_neg (by simpa using c)] at hstep
        refine tt_bind (m_oneDay w1 w3 hL l5 false) ?_
        rintro ⟨v, i6⟩ ⟨⟨u1, u2, u3⟩, -, u5⟩
        exact tt_some ⟨nI_1 q, e2.trans u5, Or.inl ⟨rfl, ⟨u1, w2.trans u2, u3⟩, hn.trans hstep⟩⟩
      · rw [if_neg c, Option.bind_some]
        rw [if_pos (by simpa using c)] at hstep
        refine tt_bind (m_oneDay w1 w3 hL l5 false) ?_
        rintro ⟨v, i6⟩ ⟨-, -, u5⟩
        exact tt_some ⟨nI_1 q, e2.trans u5, Or.inr ⟨nI_m1 (by omega), hn.trans hstep⟩⟩
    · rw [if_neg e3]
      exact tt_some ⟨hn.symm, e2⟩
  · rintro ⟨x, z, i5⟩ ⟨e1, e2, e3⟩
    dsimp only at e1 e2 e3 ⊢
    subst e1
    rw [lit_nI 60, if_pos (nI_lt (by decide) (by omega))]
    rcases e3 with ⟨rfl, -, hn⟩ | ⟨e3, hn⟩
    · exact tt_some ⟨by dsimp only; rw [hn]; rfl, e2⟩
    · exact tt_some ⟨hn.symm, e2⟩
  · rintro ⟨x, i5⟩ ⟨e1, e2⟩
    refine tt_bind (m_bringsBack (i := i5)) ?_
    intro i6 hb
    exact tt_some ⟨e1, m_keep hk e2 hb⟩
end API5
