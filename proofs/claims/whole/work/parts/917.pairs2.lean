/-! ===== pairs: the class and the reference ===== -/
section PAIRS2
variable {i : MI} {t : MT} {r : MR} {S : SS} {lw : Nat}
theorem not_gone {m G v : Nat} (hm : m < 256) (h : dif m G = m) (hv : m.testBit v = true) : G.testBit v = false := by
  rw [← h, dif_t] at hv
  simp only [Bool.and_eq_true, Bool.not_eq_true'] at hv
  exact hv.2.2
theorem st_ok {m v : Nat} (hm : m < 256) (h : dif m (plc S 3) = m) (hvn : v < nf S) (hv : m.testBit v = true) : ¬ S 2 v 3 = 3 := fun e => by
  have := not_gone hm h hv
  rw [plc_t, decide_eq_true hvn, decide_eq_true e] at this
  exact absurd this (by decide)
theorem dif_self {m G v : Nat} (h : dif m G = m) : dif (delb m v) G = delb m v := by rw [dif_delb, h]
theorem prd_ok {m v w : Nat} (hm : m < 2 ^ nf S) (h8 : nf S ≤ 8) (h : dif m (plc S 3) = m) (hv : m.testBit v = true) (hw : m.testBit w = true) : prd S v w = decide (¬ S 2 v 0 = S 2 w 0) := by
  have hp8 := pow_le8 h8
  have h1 := st_ok (by omega) h (bit_nf hm hv) hv
  have h2 := st_ok (by omega) h (bit_nf hm hw) hw
  unfold prd
  by_cases c : S 2 v 0 = S 2 w 0
  · rw [decide_eq_false (fun q => q.1 c), decide_eq_false (fun q => q c)]
  · rw [decide_eq_true ⟨c, h1, h2⟩, decide_eq_true c]
theorem delb_bit {m v w : Nat} (h : (delb m v).testBit w = true) : m.testBit w = true ∧ v ≠ w := by
  rw [delb_t] at h
  simp only [Bool.and_eq_true, Bool.not_eq_true', decide_eq_false_iff_not] at h
  exact h.2
theorem v_least (hc : Cnt S) (h : CV i 1001 S) {m : Nat} (hm : m < 2 ^ nf S) (h0 : m ≠ 0) : f_Se_leastOf i 1001 (nI m) = some (nI (lo m)) := by
  have h8 := hc.f8
  have hp8 := pow_le8 h8
  obtain ⟨l1, l2, l3⟩ := lo_sp (by omega) h0
  have hl := bit_nf hm l2
  have key : Tt (f_Se_leastOf i 1001 (nI m)) (fun v => v = nI (lo m)) := by
    unfold f_Se_leastOf
    refine tt_loop (fun j s => s = nI j ∧ j ≤ lo m) (nf S) (by omega) ?_ ?_ ⟨rfl, Nat.zero_le _⟩
    · rintro j hj _ ⟨rfl, hle⟩
      refine tt_ifp (show nI j < i 1001 7 by rw [h.1.1, hc.f]; exact nI_lt hj (by omega)) ?_
      by_cases c : m.testBit j = true
      · rw [if_neg (fun q => (bit_sh (by omega) (by omega)).mp q c)]
        have : j = lo m := by
          by_cases q : j < lo m
          · rw [l3 j q] at c; exact absurd c (by decide)
          · omega
        exact tt_some (by dsimp only [lpP]; rw [← this])
      · rw [if_pos ((bit_sh (by omega) (by omega)).mpr c)]
        have : j ≠ lo m := fun q => c (by rw [q]; exact l2)
        exact tt_some ⟨nI_1 j, by omega⟩
    · rintro _ ⟨rfl, hle⟩
      omega
  obtain ⟨v, h1, rfl⟩ := key
  exact h1
theorem v_pairSize (hw : Wf S) (h : CV i 1001 S) {v w : Nat} (hv : v < nf S) (hw2 : w < nf S) : f_Sl_pairSize i 1001 (nI v) (nI w) = some (if S 2 v 0 = S 2 w 0 then -1 else nI (szp S v w)) := by
  have h8 := hw.1.f8
  have e1 := h.2.2.1 v hv
  have e2 := h.2.2.1 w hw2
  obtain ⟨s1, -, -⟩ := sz_n hw hv
  obtain ⟨s2, -, -⟩ := sz_n hw hw2
  unfold f_Sl_pairSize szp
  rw [grd_nI (show v < 8 by omega) (by decide), grd_nI (show w < 8 by omega) (by decide), ix_nI (by omega), ix_nI (by omega), e1.1, e2.1, e1.2.1, e2.2.1]
  by_cases c : S 2 v 0 = S 2 w 0
  · rw [if_pos c, if_pos c, Option.bind_some, if_neg (by decide)]
  · rw [if_neg c, if_neg c, Option.bind_some, if_pos rfl, ← nI_add, ← s1, ← s2]
/-- the class's table -/
def pT (S : SS) (i : MI) (n : Nat) : Prop := ∀ y, y < n → dif y (plc S 3) = y → i (1622 + 0) y = nI (pv S y)
theorem v_bestPairs (hw : Wf S) (h : CV i 1001 S) {m : Nat} (hm : m < 2 ^ nf S) (h0 : m ≠ 0) (hG : dif m (plc S 3) = m) (hT : pT S i m) : f_Sl_bestPairs i 1001 (nI m) = some (nI (pv S m)) := by
  have h8 := hw.1.f8
  have hp8 := pow_le8 h8
  obtain ⟨l1, l2, l3⟩ := lo_sp (by omega) h0
  have hl := bit_nf hm l2
  have hd := delb_lt2 (by omega) l2
  have key : Tt (f_Sl_bestPairs i 1001 (nI m)) (fun v => v = nI (pv S m)) := by
    unfold f_Sl_bestPairs
    rw [v_least hw.1 h hm h0, Option.bind_some, delb_nI (by omega) (by omega), grd_nI (delb_lt _ _) (by decide), ix_nI (Nat.lt_of_lt_of_le (delb_lt _ _) (by decide)), hT _ hd (dif_self hG), nI_1]
    refine tt_bind (P1 := fun v => v = nI (pv S m))
      (tt_loop (fun j (s : Int32 × Int32) => s = (nI (mxN (fun w => (delb m (lo m)).testBit w && prd S (lo m) w) (fun w => szp S (lo m) w + pv S (delb (delb m (lo m)) w)) (lo m + 1 + j) (pv S (delb m (lo m)))), nI (lo m + 1 + j))) (nf S - (lo m + 1)) (by omega) ?_ ?_ ?_) (fun v hv => tt_some hv)
    · rintro j hj _ rfl
      dsimp only
      generalize ew : lo m + 1 + j = w at *
      have hwn : w < nf S := by omega
      have hB : mxN (fun w => (delb m (lo m)).testBit w && prd S (lo m) w) (fun w => szp S (lo m) w + pv S (delb (delb m (lo m)) w)) w (pv S (delb m (lo m))) ≤ 4626 := mxN_le (by have := pv_le hw (show delb m (lo m) < 2 ^ nf S by omega); omega) w (fun f hf _ => by
        have hd2 := delb_le (delb m (lo m)) f
        have h1 := pv_le hw (show delb (delb m (lo m)) f < 2 ^ nf S by omega)
        obtain ⟨-, -, s1⟩ := sz_n hw hl
        obtain ⟨-, -, s2⟩ := sz_n hw (show f < nf S by omega)
        unfold szp
        omega)
      refine tt_ifp (show nI w < i 1001 7 by rw [h.1.1, hw.1.f]; exact nI_lt hwn (by omega)) ?_
      have hstep : ∀ v, v = nI (mxN (fun w => (delb m (lo m)).testBit w && prd S (lo m) w) (fun w => szp S (lo m) w + pv S (delb (delb m (lo m)) w)) (w + 1) (pv S (delb m (lo m)))) → Tt (some (Sum.inl (v, nI w + 1)) : Option ((Int32 × Int32) ⊕ Int32)) (lpP (fun s => s = (nI (mxN (fun w => (delb m (lo m)).testBit w && prd S (lo m) w) (fun w => szp S (lo m) w + pv S (delb (delb m (lo m)) w)) (lo m + 1 + (j + 1)) (pv S (delb m (lo m)))), nI (lo m + 1 + (j + 1)))) (fun v => v = nI (pv S m))) := fun v hv => by
        subst hv
        rw [show lo m + 1 + (j + 1) = w + 1 by omega]
        exact tt_some (by dsimp only [lpP]; rw [nI_1])
      rw [mxN_s] at hstep
      by_cases c : (delb m (lo m)).testBit w = true
      · obtain ⟨c1, c2⟩ := delb_bit c
        have hpr := prd_ok hm h8 hG l2 c1
        rw [if_neg (fun q => (bit_sh (delb_lt _ _) (by omega)).mp q c), v_pairSize hw h hl hwn, Option.bind_some, Option.bind_some]
        by_cases ck : S 2 (lo m) 0 = S 2 w 0
        · rw [if_pos ck, if_pos (show (-1 : Int32) = -1 from rfl), Option.bind_some]
          refine hstep _ ?_
          rw [if_neg (by rw [hpr, decide_eq_false (fun q => q ck), Bool.and_false]; decide)]
        · obtain ⟨-, -, s1⟩ := sz_n hw hl
          obtain ⟨-, -, s2⟩ := sz_n hw hwn
          have hd2 := delb_le (delb m (lo m)) w
          have hb := pv_le hw (show delb (delb m (lo m)) w < 2 ^ nf S by omega)
          have hs : szp S (lo m) w ≤ 18 := by unfold szp; omega
          rw [if_neg ck, if_neg (nI_m1 (by omega)), delb_nI (delb_lt _ _) (by omega), grd_nI (delb_lt _ _) (by decide), ix_nI (Nat.lt_of_lt_of_le (delb_lt _ _) (by decide)), hT _ (by omega) (dif_self (dif_self hG)), nI_add, j_max, Option.bind_some, jmax_nI (by omega) (by omega), Option.bind_some]
          refine hstep _ ?_
          rw [if_pos (by rw [hpr, c, decide_eq_true ck]; rfl)]
      · rw [if_pos ((bit_sh (delb_lt _ _) (by omega)).mpr c), Option.bind_some, if_pos (show (-1 : Int32) = -1 from rfl), Option.bind_some]
        refine hstep _ ?_
        rw [if_neg (by rw [Bool.eq_false_iff.mpr c, Bool.false_and]; decide)]
    · rintro _ rfl
      dsimp only
      rw [show lo m + 1 + (nf S - (lo m + 1)) = nf S by omega]
      refine tt_ifn (show ¬ nI (nf S) < i 1001 7 by rw [h.1.1, hw.1.f]; exact nI_nlt (Nat.le_refl _) (by omega)) ?_
      exact tt_some (by dsimp only [lpP]; rw [pv_eq (by omega) h0])
    · rw [Nat.add_zero, mxN_skip (lo m + 1) (fun f hf => by
        rw [delb_t]
        by_cases e : lo m = f
        · rw [decide_eq_true e, Bool.not_true, Bool.and_false, Bool.and_false, Bool.false_and]
        · rw [l3 f (by omega), Bool.false_and, Bool.and_false, Bool.false_and])]
  obtain ⟨v, h1, rfl⟩ := key
  exact h1
theorem v_firstPair (hw : Wf S) (h : CV i 1001 S) {m v : Nat} (hm : m < 2 ^ nf S) (hv : m.testBit v = true) (hlow : ∀ j, j < v → m.testBit j = false) (hG : dif m (plc S 3) = m) (hT : pT S i (2 ^ nf S)) : f_Sl_firstPair i 1001 (nI m) (nI v) = some (pch S m v) := by
  have h8 := hw.1.f8
  have hp8 := pow_le8 h8
  have hvn := bit_nf hm hv
  have hd := delb_lt2 (by omega) hv
  have b1 := pv_le hw hm
  have b2 := pv_le hw (show delb m v < 2 ^ nf S by omega)
  have key : Tt (f_Sl_firstPair i 1001 (nI m) (nI v)) (fun w => w = pch S m v) := by
    unfold f_Sl_firstPair
    rw [delb_nI (by omega) (by omega), grd_nI (delb_lt _ _) (by decide), grd_nI (show m < 256 by omega) (by decide), ix_nI (Nat.lt_of_lt_of_le (delb_lt _ _) (by decide)), ix_nI (by omega), hT _ (by omega) (dif_self hG), hT m hm hG]
    rcases pch_lt hw.1 hm hv hlow with ⟨e, e2⟩ | ⟨e, w0, hw0, e2, e3, e4, e5⟩
    · rw [if_pos (by rw [e]), e2]; exact tt_some rfl
    · rw [if_neg (fun q => e ((nI_inj (by omega) (by omega)).mp q)), e2, nI_1]
      have hgt : v + 1 ≤ w0 := by
        obtain ⟨c1, c2⟩ := delb_bit e4
        by_cases q : w0 < v
        · rw [hlow w0 q] at c1; exact absurd c1 (by decide)
        · omega
      refine tt_loop (fun j s => s = nI (v + 1 + j) ∧ v + 1 + j ≤ w0) (nf S - (v + 1)) (by omega) ?_ ?_ ⟨rfl, hgt⟩
      · rintro j hj _ ⟨rfl, hle⟩
        generalize ew : v + 1 + j = w at *
        have hwn : w < nf S := by omega
        refine tt_ifp (show nI w < i 1001 7 by rw [h.1.1, hw.1.f]; exact nI_lt hwn (by omega)) ?_
        have hnext : ppr S m v w = false → Tt (some (Sum.inl (nI w + 1)) : Option (Int32 ⊕ Int32)) (lpP (fun s => s = nI (v + 1 + (j + 1)) ∧ v + 1 + (j + 1) ≤ w0) (fun w => w = nI w0)) := fun hf => by
          have : w ≠ w0 := fun q => by rw [q, e3] at hf; exact absurd hf (by decide)
          exact tt_some ⟨by rw [nI_1]; congr 1; omega, by omega⟩
        by_cases c : (delb m v).testBit w = true
        · obtain ⟨c1, c2⟩ := delb_bit c
          have hpr := prd_ok hm h8 hG hv c1
          rw [if_neg (fun q => (bit_sh (delb_lt _ _) (by omega)).mp q c), v_pairSize hw h hvn hwn, Option.bind_some, Option.bind_some]
          by_cases ck : S 2 v 0 = S 2 w 0
          · rw [if_pos ck, if_pos (show (-1 : Int32) = -1 from rfl)]
            exact hnext (by unfold ppr; rw [hpr, decide_eq_false (fun q => q ck), Bool.and_false, Bool.false_and])
          · obtain ⟨-, -, s1⟩ := sz_n hw hvn
            obtain ⟨-, -, s2⟩ := sz_n hw hwn
            have hd2 := delb_le (delb m v) w
            have hb := pv_le hw (show delb (delb m v) w < 2 ^ nf S by omega)
            have hs : szp S v w ≤ 18 := by unfold szp; omega
            rw [if_neg ck, if_neg (nI_m1 (by omega)), delb_nI (delb_lt _ _) (by omega), grd_nI (delb_lt _ _) (by decide), grd_nI (show m < 256 by omega) (by decide), ix_nI (Nat.lt_of_lt_of_le (delb_lt _ _) (by decide)), hT _ (by omega) (dif_self (dif_self hG)), nI_add]
            have hiff : nI (szp S v w + pv S (delb (delb m v) w)) = nI (pv S m) ↔ ppr S m v w = true := by
              rw [nI_inj (by omega) (by omega)]
              unfold ppr
              rw [c, hpr, decide_eq_true ck, Bool.true_and, Bool.true_and, decide_eq_true_eq]
            by_cases c3 : ppr S m v w = true
            · rw [if_pos (hiff.mpr c3)]
              have : w = w0 := by
                by_cases q : w < w0
                · rw [e5 w q] at c3; exact absurd c3 (by decide)
                · omega
              exact tt_some (by dsimp only [lpP]; rw [this])
            · rw [if_neg (fun q => c3 (hiff.mp q))]
              exact hnext (Bool.eq_false_iff.mpr c3)
        · rw [if_pos ((bit_sh (delb_lt _ _) (by omega)).mpr c), Option.bind_some, if_pos (show (-1 : Int32) = -1 from rfl)]
          exact hnext (by unfold ppr; rw [Bool.eq_false_iff.mpr c, Bool.false_and, Bool.false_and])
      · rintro _ ⟨rfl, hle⟩
        omega
  obtain ⟨v, h1, rfl⟩ := key
  exact h1
theorem dif_gone {m G v : Nat} (h : G.testBit v = true) : dif (delb m v) G = dif m G := by
  refine m_ext (dif_lt _ _) (dif_lt _ _) (fun j hj => ?_)
  rw [dif_t, dif_t, delb_t, decide_eq_true hj]
  by_cases e : v = j
  · subst e; rw [h]; simp
  · rw [decide_eq_false e, Bool.not_false, Bool.and_true]; rfl
theorem pch_gone (hc : Cnt S) {m v : Nat} (hm : m < 2 ^ nf S) (hG : (plc S 3).testBit v = true) : pch S m v = -1 := by
  have hd := delb_le m v
  unfold pch
  rw [if_pos]
  rw [pv_G hc m m (Nat.le_refl m) hm, pv_G hc (delb m v) (delb m v) (Nat.le_refl _) (by omega), dif_gone hG]
theorem pch_G (hc : Cnt S) {m v : Nat} (hm : m < 2 ^ nf S) : pch S (dif m (plc S 3)) v = pch S m v := by
  have h8 := hc.f8
  have hd := delb_le m v
  have e1 := pv_G hc m m (Nat.le_refl m) hm
  have e2 := pv_G hc (delb m v) (delb m v) (Nat.le_refl _) (by omega)
  rw [dif_delb] at e2
  have e3 : ppr S (dif m (plc S 3)) v = ppr S m v := by
    funext w
    have hd2 := delb_le (delb m v) w
    have e4 := pv_G hc (delb (delb m v) w) (delb (delb m v) w) (Nat.le_refl _) (by omega)
    rw [dif_delb, dif_delb] at e4
    unfold ppr
    rw [← e4, ← e1]
    congr 1
    rw [← dif_delb, dif_t, plc_t]
    cases c : (delb m v).testBit w
    · simp only [Bool.false_and, Bool.and_false]
    · have hwn := bit_nf hm (delb_bit c).1
      rw [decide_eq_true (show w < 8 by omega), decide_eq_true hwn]
      unfold prd
      by_cases cw : S 2 w 3 = 3
      · rw [decide_eq_true cw, decide_eq_false (fun q => q.2.2 cw)]; rfl
      · rw [decide_eq_false cw]; rfl
  unfold pch
  rw [e3, ← e2, ← e1]
def fP (i i' : MI) : Prop := ∀ b j, (b < 1620 ∨ 1631 ≤ b) → i' b j = i b j
theorem v_planPairs (hw : Wf S) (h : CV i 1001 S) : Tt (f_Sl_planPairs i 1001) (fun i' => i' 1620 4 = nI (pv S (2 ^ nf S - 1)) ∧ (∀ f, f < nf S → i' 1630 f = pou S (nf S) f) ∧ fP i i') := by
  have h8 := hw.1.f8
  have hp8 := pow_le8 h8
  have hpp := Nat.two_pow_pos (nf S)
  have hG8 := plc_8 hw.1 3
  have hC : ∀ i' : MI, fP i i' → CV i' 1001 S := fun i' hf => h.congr (fun b k _ _ => hf b k (by omega)) hw.1
  have hfl : dif (dif (2 ^ nf S - 1) (plc S 3)) (plc S 3) = dif (2 ^ nf S - 1) (plc S 3) := m_ext (dif_lt _ _) (dif_lt _ _) (fun j hj => by
    rw [dif_t, dif_t, decide_eq_true hj]
    cases (2 ^ nf S - 1).testBit j <;> cases (plc S 3).testBit j <;> rfl)
  have hdl : ∀ m, m < 2 ^ nf S → dif m (plc S 3) < 2 ^ nf S := fun m hm => by
    have : sbs (dif m (plc S 3)) m := fun j hj => by
      rw [dif_t] at hj
      simp only [Bool.and_eq_true] at hj
      exact hj.2.1
    have := sbs_le this
    omega
  unfold f_Sl_planPairs
  rw [v_placed hw.1 h 3, Option.bind_some, show i 1001 7 = nI (nf S) from h.1.1.trans hw.1.f, shl1n _ (by omega)]
  refine tt_bnd ?_
  refine tt_bind (P1 := fun i' => pT S i' (2 ^ nf S) ∧ fP i i')
    (tt_loop (fun q (s : Int32 × MI) => s.1 = nI (q + 1) ∧ pT S s.2 (q + 1) ∧ fP i s.2) (2 ^ nf S - 1) (by omega) ?_ ?_ ⟨rfl, fun y hy _ => ?_, fun b j hb => ?_⟩) ?_
  · rintro q hq ⟨z, i2⟩ ⟨e1, e2, e3⟩
    dsimp only at e1 e2 e3 ⊢
    subst e1
    rw [if_pos (nI_lt (by omega) (by omega)), and_nI]
    have hm : q + 1 < 256 := by omega
    have hdis : nI ((q + 1) &&& plc S 3) = 0 ↔ dif (q + 1) (plc S 3) = q + 1 := by
      rw [nI_z (Nat.lt_of_le_of_lt Nat.and_le_left (by omega))]
      constructor
      · intro e
        refine m_ext (dif_lt _ _) hm (fun j hj => ?_)
        have := Nat.testBit_and (q + 1) (plc S 3) j
        rw [e, Nat.zero_testBit] at this
        rw [dif_t, decide_eq_true hj]
        cases c : (q + 1).testBit j
        · rfl
        · rw [c, Bool.true_and] at this; rw [← this]; rfl
      · intro e
        refine m_ext (Nat.lt_of_le_of_lt Nat.and_le_left hm) (by decide) (fun j hj => ?_)
        rw [Nat.testBit_and, Nat.zero_testBit]
        cases c : (q + 1).testBit j
        · rfl
        · rw [not_gone hm e c]; rfl
    refine tt_bind (P1 := fun v => dif (q + 1) (plc S 3) = q + 1 → v = nI (pv S (q + 1))) ?_ ?_
    · by_cases c : dif (q + 1) (plc S 3) = q + 1
      · rw [if_pos (hdis.mpr c), v_bestPairs hw (hC i2 e3) (by omega) (by omega) c e2, Option.bind_some]
        exact tt_some (fun _ => rfl)
      · rw [if_neg (fun q => c (hdis.mp q))]
        exact tt_some (fun q => absurd q c)
    · rintro v hv
      rw [grd_nI hm (by decide), ix_nI (by omega)]
      refine tt_bnd (tt_some ⟨nI_1 (q + 1), fun y hy hd => ?_, fun b j hb => ?_⟩)
      · show wr i2 (1622 + 0) (q + 1) v (1622 + 0) y = _
        by_cases e : y = q + 1
        · subst e; rw [wr_s]; exact hv hd
        · rw [wr_k e]; exact e2 y (by omega) hd
      · show wr i2 (1622 + 0) (q + 1) v b j = _
        rw [wr_a (by omega)]; exact e3 b j hb
  · rintro ⟨z, i2⟩ ⟨e1, e2, e3⟩
    dsimp only at e1 e2 e3 ⊢
    subst e1
    rw [show 2 ^ nf S - 1 + 1 = 2 ^ nf S by omega] at e2 ⊢
    rw [if_neg (nI_nlt (Nat.le_refl _) (by omega))]
    exact tt_some ⟨e2, e3⟩
  · show wr i (1622 + 0) 0 0 (1622 + 0) y = nI (pv S y)
    rw [show y = 0 by omega, wr_s, pv_0]; rfl
  · show wr i (1622 + 0) 0 0 b j = _
    rw [wr_a (by omega)]
  rintro i2 ⟨e2, e3⟩
  rw [show nI (2 ^ nf S) - 1 = nI (2 ^ nf S - 1) by rw [← shl1n _ (by omega), full_nI h8], dif_nI (by omega), grd_nI (dif_lt _ _) (by decide), ix_nI (Nat.lt_of_lt_of_le (dif_lt _ _) (by decide)), e2 _ (hdl _ (by omega)) hfl, ← pv_G hw.1 _ _ (Nat.le_refl _) (by omega)]
  refine tt_bnd ?_
  refine tt_bind (v_filln (by decide) (-1)) ?_
  intro i3 hfi
  have hT3 : pT S i3 (2 ^ nf S) := fun y hy hd => by
    rw [hfi, if_neg (by omega)]
    show wr i2 1620 4 (nI (pv S (2 ^ nf S - 1))) (1622 + 0) y = _
    rw [wr_a (by decide)]; exact e2 y hy hd
  have hf3 : fP i i3 := fun b j hb => by
    rw [hfi, if_neg (by omega)]
    show wr i2 1620 4 (nI (pv S (2 ^ nf S - 1))) b j = _
    rw [wr_a (by omega)]; exact e3 b j hb
  have h43 : i3 1620 4 = nI (pv S (2 ^ nf S - 1)) := by
    rw [hfi, if_neg (by decide)]
    show wr i2 1620 4 (nI (pv S (2 ^ nf S - 1))) 1620 4 = _
    rw [wr_s]
  refine tt_bind (P1 := fun i' => i' 1620 4 = nI (pv S (2 ^ nf S - 1)) ∧ (∀ f, f < nf S → i' 1630 f = pou S (nf S) f) ∧ fP i i')
    (tt_loop (fun q (s : Int32 × Int32 × MI) => s.1 = nI (dif (pmm S q) (plc S 3)) ∧ s.2.1 = nI q ∧ (∀ f, f < nf S → s.2.2 1630 f = pou S q f) ∧ s.2.2 1620 4 = nI (pv S (2 ^ nf S - 1)) ∧ pT S s.2.2 (2 ^ nf S) ∧ fP i s.2.2) (nf S) (by omega) ?_ ?_ ⟨rfl, rfl, fun f hf => ?_, h43, hT3, hf3⟩) (fun i' hi => tt_some hi)
  · rintro q hq ⟨x, z, i5⟩ ⟨k0, k1, k2, k3, k4, k5⟩
    dsimp only at k0 k1 k2 k3 k4 k5 ⊢
    subst k0 k1
    obtain ⟨p1, p2, p3⟩ := pmm_sp (S := S) hw.1 q (by omega)
    refine tt_ifp (show nI q < i5 1001 7 by rw [(hC i5 k5).1.1, hw.1.f]; exact nI_lt hq (by omega)) ?_
    have hst : ∀ x i', x = nI (dif (pmm S (q + 1)) (plc S 3)) → (∀ f, f < nf S → i' 1630 f = pou S (q + 1) f) → (∀ b j, b ≠ 1630 → i' b j = i5 b j) → Tt (some (Sum.inl (x, nI q + 1, i')) : Option ((Int32 × Int32 × MI) ⊕ MI)) (lpP (fun s => s.1 = nI (dif (pmm S (q + 1)) (plc S 3)) ∧ s.2.1 = nI (q + 1) ∧ (∀ f, f < nf S → s.2.2 1630 f = pou S (q + 1) f) ∧ s.2.2 1620 4 = nI (pv S (2 ^ nf S - 1)) ∧ pT S s.2.2 (2 ^ nf S) ∧ fP i s.2.2) (fun i' => i' 1620 4 = nI (pv S (2 ^ nf S - 1)) ∧ (∀ f, f < nf S → i' 1630 f = pou S (nf S) f) ∧ fP i i')) := fun x i' h1 h2 h3 =>
      tt_some ⟨h1, nI_1 q, h2, (h3 1620 4 (by decide)).trans k3, fun y hy hd => (h3 _ y (by decide)).trans (k4 y hy hd), fun b j hb => (h3 b j (by omega)).trans (k5 b j hb)⟩
    by_cases c : (dif (pmm S q) (plc S 3)).testBit q = true
    · have c' := c
      rw [dif_t, decide_eq_true (show q < 8 by omega), Bool.true_and, Bool.and_eq_true] at c'
      obtain ⟨cq, -⟩ := c'
      have hGm : dif (dif (pmm S q) (plc S 3)) (plc S 3) = dif (pmm S q) (plc S 3) := m_ext (dif_lt _ _) (dif_lt _ _) (fun j hj => by
        rw [dif_t, dif_t, decide_eq_true hj]
        cases (pmm S q).testBit j <;> cases (plc S 3).testBit j <;> rfl)
      have hfp := v_firstPair hw (hC i5 k5) (m := dif (pmm S q) (plc S 3)) (v := q) (hdl _ p1) c (fun j hj => by rw [dif_t, p2 j hj, Bool.false_and, Bool.and_false]) hGm k4
      rw [pch_G hw.1 p1] at hfp
      rw [if_neg (fun q => (bit_sh (dif_lt _ _) (by omega)).mp q c), hfp, Option.bind_some]
      rcases pch_lt hw.1 p1 cq p2 with ⟨-, e⟩ | ⟨-, w, hwn, e, -, e4, -⟩
      · have em : pmm S (q + 1) = delb (pmm S q) q := by
          show (if (pmm S q).testBit q = true then (if pch S (pmm S q) q = -1 then delb (pmm S q) q else delb (delb (pmm S q) q) (ix (pch S (pmm S q) q))) else pmm S q) = _
          rw [if_pos cq, if_pos e]
        have eo : pou S (q + 1) = pou S q := if_neg (fun q2 => q2.2 e)
        rw [if_pos e, Option.bind_some]
        refine hst _ _ ?_ (by rw [eo]; exact k2) (fun _ _ _ => rfl)
        rw [delb_nI (dif_lt _ _) (by omega), em, dif_delb]
      · have hn1 : ¬ pch S (pmm S q) q = -1 := by rw [e]; exact nI_m1 (by omega)
        have ei : ix (pch S (pmm S q) q) = w := by rw [e, ix_nI (by omega)]
        have em : pmm S (q + 1) = delb (delb (pmm S q) q) w := by
          show (if (pmm S q).testBit q = true then (if pch S (pmm S q) q = -1 then delb (pmm S q) q else delb (delb (pmm S q) q) (ix (pch S (pmm S q) q))) else pmm S q) = _
          rw [if_pos cq, if_neg hn1, ei]
        have eo : pou S (q + 1) = fun x => if x = q then pch S (pmm S q) q else if x = w then nI q else pou S q x := by
          show (if (pmm S q).testBit q = true ∧ ¬ pch S (pmm S q) q = -1 then (fun x => if x = q then pch S (pmm S q) q else if x = ix (pch S (pmm S q) q) then nI q else pou S q x) else pou S q) = _
          rw [if_pos ⟨cq, hn1⟩, ei]
        have hne := (delb_bit e4).2
        rw [if_neg hn1, e, grd_nI (show q < 8 by omega) (by decide)]
        dsimp only [bnd]
        rw [grd_nI (show w < 8 by omega) (by decide), ix_nI (show q < 2 ^ 31 by omega), ix_nI (show w < 2 ^ 31 by omega), Option.bind_some]
        dsimp only
        refine hst _ (wr (wr i5 1630 q (nI w)) 1630 w (nI q)) ?_ (fun f hf => ?_) (fun b j hb => by rw [wr_a hb, wr_a hb])
        · rw [delb_nI (dif_lt _ _) (by omega), delb_nI (delb_lt _ _) (by omega), em, dif_delb, dif_delb]
        · rw [eo]
          show wr (wr i5 1630 q (nI w)) 1630 w (nI q) 1630 f = if f = q then pch S (pmm S q) q else if f = w then nI q else pou S q f
          by_cases f1 : f = q
          · rw [if_pos f1, f1, wr_k hne, wr_s, e]
          · rw [if_neg f1]
            by_cases f2 : f = w
            · rw [if_pos f2, f2, wr_s]
            · rw [if_neg f2, wr_k f2, wr_k f1]; exact k2 f hf
    · rw [if_pos ((bit_sh (dif_lt _ _) (by omega)).mpr c), Option.bind_some]
      by_cases cq : (pmm S q).testBit q = true
      · have hgq : (plc S 3).testBit q = true := by
          cases c2 : (plc S 3).testBit q
          · exact absurd (by rw [dif_t, decide_eq_true (show q < 8 by omega), cq, c2]; rfl) c
          · rfl
        have e := pch_gone (S := S) hw.1 p1 hgq
        have em : pmm S (q + 1) = delb (pmm S q) q := by
          show (if (pmm S q).testBit q = true then (if pch S (pmm S q) q = -1 then delb (pmm S q) q else delb (delb (pmm S q) q) (ix (pch S (pmm S q) q))) else pmm S q) = _
          rw [if_pos cq, if_pos e]
        have eo : pou S (q + 1) = pou S q := if_neg (fun q2 => q2.2 e)
        refine hst _ _ ?_ (by rw [eo]; exact k2) (fun _ _ _ => rfl)
        rw [em, dif_gone hgq]
      · have em : pmm S (q + 1) = pmm S q := if_neg cq
        have eo : pou S (q + 1) = pou S q := if_neg (fun q2 => cq q2.1)
        exact hst _ _ (by rw [em]) (by rw [eo]; exact k2) (fun _ _ _ => rfl)
  · rintro ⟨x, z, i5⟩ ⟨k0, k1, k2, k3, k4, k5⟩
    dsimp only at k0 k1 k2 k3 k4 k5 ⊢
    subst k0 k1
    refine tt_ifn (show ¬ nI (nf S) < i5 1001 7 by rw [(hC i5 k5).1.1, hw.1.f]; exact nI_nlt (Nat.le_refl _) (by omega)) ?_
    exact tt_some ⟨k3, k2, k5⟩
  · show i3 1630 f = -1
    rw [hfi, if_pos ⟨rfl, by omega⟩]
theorem fP.cq {i i' : MI} (h : fP i i') : CQ lw i i' := fun b j _ h2 => h b j (by unfold cqs at h2; omega)
theorem v_pairs (hw : Wf S) (h : CV i 1001 S) (x : Int32) : Tt (f_Lc_pairs i x) (CO [22] lw i (spPairs S x)) := by
  have h8 := hw.1.f8
  unfold f_Lc_pairs spPairs
  by_cases hx : x = -1
  · rw [if_pos hx, if_pos hx, Option.bind_some]
    dsimp only
    refine tt_bind (v_planPairs hw h) ?_
    rintro i2 ⟨e1, e2, e3⟩
    rw [if_pos hx, e1]
    exact tt_some ⟨rfl, e3.cq⟩
  · rw [if_neg hx, if_neg hx, v_needFish hw.1 h]
    by_cases ho : okx x (nf S) = true
    · rw [if_pos ho, if_pos ho, Option.bind_some]
      dsimp only
      rw [Option.bind_some]
      dsimp only
      obtain ⟨f, hf, rfl⟩ := okx_of (by omega) ho
      refine tt_bind (v_planPairs hw h) ?_
      rintro i2 ⟨e1, e2, e3⟩
      rw [if_neg hx, grd_nI (show f < 8 by omega) (by decide), ix_nI (by omega), e2 f hf]
      exact tt_some ⟨rfl, e3.cq⟩
    · rw [if_neg ho, if_neg ho, Option.bind_some]
      dsimp only
      rw [Option.bind_some]
      exact tt_some ⟨rfl, CQ.refl _ _⟩
end PAIRS2
