/-! ===== pairs: the reference ===== -/
section PAIRS3
variable {i : MI} {S : SS}
theorem mo_firstOf {m : Nat} (hm : m < 256) (h0 : m ≠ 0) : f_Mo_firstOf (nI m) = some (nI (lo m)) := by
  unfold f_Mo_firstOf
  rw [ntz m hm (by omega)]
  rfl
def pcd (S : SS) (m v w : Nat) : Bool := (delb m v).testBit w && prd S v w
def qT (S : SS) (i : MI) (n : Nat) : Prop := ∀ y, y < n → i 1657 y = nI (pv S y)
theorem m_pairedNo {m : Nat} (hm : m < 2 ^ nf S) (h8 : nf S ≤ 8) (h0 : m ≠ 0) (hT : qT S i m) : f_Mo_pairedBy i (nI m) (-1) = some (nI (pv S (delb m (lo m)))) := by
  have hp8 := pow_le8 h8
  obtain ⟨l1, l2, l3⟩ := lo_sp (by omega) h0
  have hd := delb_lt2 (by omega) l2
  unfold f_Mo_pairedBy
  rw [mo_firstOf (by omega) h0, Option.bind_some, if_pos rfl, delb_nI (by omega) l1, grd_nI (delb_lt _ _) (by decide), ix_nI (Nat.lt_of_lt_of_le (delb_lt _ _) (by decide)), hT _ hd]
theorem m_pairedBy (hw : Wf S) (h : MV i S) {m w : Nat} (hm : m < 2 ^ nf S) (h0 : m ≠ 0) (hwn : w < nf S) (hT : qT S i m) : f_Mo_pairedBy i (nI m) (nI w) = some (if pcd S m (lo m) w = true then nI (szp S (lo m) w + pv S (delb (delb m (lo m)) w)) else -1) := by
  have h8 := hw.1.f8
  have hp8 := pow_le8 h8
  obtain ⟨l1, l2, l3⟩ := lo_sp (by omega) h0
  have hl := bit_nf hm l2
  have hd := delb_lt2 (by omega) l2
  have hd2 := delb_le (delb m (lo m)) w
  have v0 : f_Mo_of i (nI (lo m)) 0 = some (S 2 (lo m) 0) := m_of h (k := 0) (by omega) (by decide)
  have v1 : f_Mo_of i (nI (lo m)) 1 = some (S 2 (lo m) 1) := m_of h (k := 1) (by omega) (by decide)
  have v3 : f_Mo_of i (nI (lo m)) 3 = some (S 2 (lo m) 3) := m_of h (k := 3) (by omega) (by decide)
  have w0 : f_Mo_of i (nI w) 0 = some (S 2 w 0) := m_of h (k := 0) (by omega) (by decide)
  have w1 : f_Mo_of i (nI w) 1 = some (S 2 w 1) := m_of h (k := 1) (by omega) (by decide)
  have w3 : f_Mo_of i (nI w) 3 = some (S 2 w 3) := m_of h (k := 3) (by omega) (by decide)
  obtain ⟨s1, -, -⟩ := sz_n hw hl
  obtain ⟨s2, -, -⟩ := sz_n hw hwn
  unfold f_Mo_pairedBy pcd prd
  rw [mo_firstOf (by omega) h0, Option.bind_some, if_neg (nI_m1 (by omega)), delb_nI (by omega) l1, mo_hasm (delb_lt _ _) (by omega), Option.bind_some, v0, w0, v3, w3, v1, w1]
  cases c : (delb m (lo m)).testBit w
  · rw [if_neg (show ¬ false = true by decide), if_pos (show (0 : Int32) = 0 from rfl), Bool.false_and, if_neg (show ¬ false = true by decide)]
  · rw [if_pos (show true = true from rfl), if_neg (show ¬ (1 : Int32) = 0 by decide), Option.bind_some, Option.bind_some, Bool.true_and]
    by_cases c0 : S 2 (lo m) 0 = S 2 w 0
    · rw [if_pos c0, decide_eq_false (fun q => q.1 c0), if_neg (show ¬ false = true by decide)]
    · rw [if_neg c0, Option.bind_some]
      by_cases c1 : S 2 (lo m) 3 = 3
      · rw [if_pos c1, decide_eq_false (fun q => q.2.1 c1), if_neg (show ¬ false = true by decide)]
      · rw [if_neg c1, Option.bind_some]
        by_cases c2 : S 2 w 3 = 3
        · rw [if_pos c2, decide_eq_false (fun q => q.2.2 c2), if_neg (show ¬ false = true by decide)]
        · rw [if_neg c2, Option.bind_some, Option.bind_some, decide_eq_true ⟨c0, c1, c2⟩, if_pos (show true = true from rfl), delb_nI (delb_lt _ _) (by omega), grd_nI (delb_lt _ _) (by decide), ix_nI (Nat.lt_of_lt_of_le (delb_lt _ _) (by decide)), hT _ (by omega), s1, s2, nI_add, nI_add]
          rfl
theorem pcd_le (hw : Wf S) {m w : Nat} (hm : m < 2 ^ nf S) (h0 : m ≠ 0) (hwn : w < nf S) : szp S (lo m) w + pv S (delb (delb m (lo m)) w) ≤ 4626 := by
  have h8 := hw.1.f8
  have hp8 := pow_le8 h8
  obtain ⟨l1, l2, l3⟩ := lo_sp (by omega) h0
  have hl := bit_nf hm l2
  have hd := delb_le m (lo m)
  have hd2 := delb_le (delb m (lo m)) w
  have hb := pv_le hw (show delb (delb m (lo m)) w < 2 ^ nf S by omega)
  obtain ⟨-, -, s1⟩ := sz_n hw hl
  obtain ⟨-, -, s2⟩ := sz_n hw hwn
  unfold szp
  omega
theorem m_laysPairs (hw : Wf S) (h : MV i S) : Tt (f_Mo_laysPairs i) (fun i' => qT S i' (2 ^ nf S) ∧ ∀ b j, b ≠ 1657 → i' b j = i b j) := by
  have h8 := hw.1.f8
  have hp8 := pow_le8 h8
  have hpp := Nat.two_pow_pos (nf S)
  have hM : ∀ i' : MI, (∀ b j, b ≠ 1657 → i' b j = i b j) → MV i' S := fun i' he => h.congr (fun k => he 1639 k (by decide))
  unfold f_Mo_laysPairs
  refine tt_bnd ?_
  refine tt_bind (P1 := fun i' => qT S i' (2 ^ nf S) ∧ ∀ b j, b ≠ 1657 → i' b j = i b j)
    (tt_loop (fun q (s : Int32 × MI) => s.1 = nI (q + 1) ∧ qT S s.2 (q + 1) ∧ ∀ b j, b ≠ 1657 → s.2 b j = i b j) (2 ^ nf S - 1) (by omega) ?_ ?_ ⟨rfl, fun y hy => ?_, fun b j hb => ?_⟩) (fun i' hi => tt_some hi)
  · rintro q hq ⟨z, i2⟩ ⟨e1, e2, e3⟩
    dsimp only at e1 e2 e3 ⊢
    subst e1
    have hm : q + 1 < 2 ^ nf S := by omega
    have hne : q + 1 ≠ 0 := by omega
    have hd := delb_le (q + 1) (lo (q + 1))
    have b0 := pv_le hw (show delb (q + 1) (lo (q + 1)) < 2 ^ nf S by omega)
    rw [m_fishes (hM i2 e3), hw.1.f, Option.bind_some, shl1n _ (by omega), if_pos (nI_lt hm (by omega))]
    refine tt_bind (P1 := fun v => v = nI (pv S (q + 1)))
      (tt_loop (fun j (s : Int32 × Int32) => s.1 = (if j = 0 then 0 else nI (mxN (pcd S (q + 1) (lo (q + 1))) (fun w => szp S (lo (q + 1)) w + pv S (delb (delb (q + 1) (lo (q + 1))) w)) (j - 1) (pv S (delb (q + 1) (lo (q + 1)))))) ∧ s.2 = nI j - 1) (nf S + 1) (by omega) ?_ ?_ ⟨rfl, rfl⟩) ?_
    · rintro j hj ⟨x2, x3⟩ ⟨u1, u2⟩
      dsimp only at u1 u2 ⊢
      rw [Option.bind_some]
      cases j with
      | zero =>
        have ex : x3 = -1 := u2.trans (by decide)
        subst ex
        rw [if_pos rfl] at u1
        subst u1
        rw [if_pos (neg1_lt (by omega)), m_pairedNo hm h8 hne e2, Option.bind_some, j_max, Option.bind_some, show (0 : Int32) = nI 0 from rfl, jmax_nI (by omega) (by omega), Nat.zero_max]
        exact tt_some ⟨by rw [if_neg (by omega)]; rfl, by show (-1 : Int32) + 1 = nI (0 + 1) - 1; decide⟩
      | succ f =>
        have ex : x3 = nI f := by rw [u2, nI_pred]
        subst ex
        rw [if_neg (by omega), show f + 1 - 1 = f from rfl] at u1
        subst u1
        have hB : mxN (pcd S (q + 1) (lo (q + 1))) (fun w => szp S (lo (q + 1)) w + pv S (delb (delb (q + 1) (lo (q + 1))) w)) f (pv S (delb (q + 1) (lo (q + 1)))) ≤ 4626 := mxN_le (by omega) f (fun g hg _ => pcd_le hw hm hne (show g < nf S by omega))
        have hb2 := pcd_le hw hm hne (show f < nf S by omega)
        rw [if_pos (nI_lt (by omega) (by omega)), m_pairedBy hw (hM i2 e3) hm hne (by omega) e2, Option.bind_some, j_max, Option.bind_some]
        refine tt_some ⟨?_, ?_⟩
        · show jmax _ _ = if f + 1 + 1 = 0 then (0 : Int32) else nI (mxN _ _ (f + 1) _)
          rw [if_neg (show ¬ f + 1 + 1 = 0 by omega), mxN_s]
          by_cases c : pcd S (q + 1) (lo (q + 1)) f = true
          · rw [if_pos c, if_pos c, jmax_nI (by omega) (by omega)]
          · rw [if_neg c, if_neg c, jmax_m1 (nI_pos (by omega))]
        · show nI f + 1 = nI (f + 1 + 1) - 1
          rw [nI_pred, nI_1]
    · rintro ⟨x2, x3⟩ ⟨u1, u2⟩
      dsimp only at u1 u2 ⊢
      have ex : x3 = nI (nf S) := by rw [u2, nI_pred]
      subst ex
      rw [if_neg (by omega), show nf S + 1 - 1 = nf S from rfl] at u1
      rw [Option.bind_some, if_neg (nI_nlt (Nat.le_refl _) (by omega))]
      exact tt_some (by dsimp only [lpP]; rw [u1, pv_eq (by omega) hne]; rfl)
    · rintro v rfl
      rw [grd_nI (show q + 1 < 256 by omega) (by decide), ix_nI (by omega)]
      refine tt_bnd (tt_some ⟨nI_1 (q + 1), fun y hy => ?_, fun b j hb => ?_⟩)
      · show wr i2 1657 (q + 1) (nI (pv S (q + 1))) 1657 y = _
        by_cases e : y = q + 1
        · subst e; rw [wr_s]
        · rw [wr_k e]; exact e2 y (by omega)
      · show wr i2 1657 (q + 1) (nI (pv S (q + 1))) b j = _
        rw [wr_a hb]; exact e3 b j hb
  · rintro ⟨z, i2⟩ ⟨e1, e2, e3⟩
    dsimp only at e1 e2 e3 ⊢
    subst e1
    rw [show 2 ^ nf S - 1 + 1 = 2 ^ nf S by omega] at e2 ⊢
    rw [m_fishes (hM i2 e3), hw.1.f, Option.bind_some, shl1n _ (by omega), if_neg (nI_nlt (Nat.le_refl _) (by omega))]
    exact tt_some ⟨e2, e3⟩
  · show wr i 1657 0 0 1657 y = nI (pv S y)
    rw [show y = 0 by omega, wr_s, pv_0]; rfl
  · show wr i 1657 0 0 b j = _
    rw [wr_a hb]
/-- the choice is found by asking from -1 up -/
theorem m_pch (hw : Wf S) (h : MV i S) {m : Nat} (hm : m < 2 ^ nf S) (h0 : m ≠ 0) (hT : qT S i (2 ^ nf S)) : Tt (itr (fun (x6_29 : Int32) => (f_Mo_pairedBy i (nI m) x6_29).bind (fun v_31 => grd (nI m) 256 (if v_31 = (i 1657 (ix (nI m))) then (some (Sum.inr x6_29)) else (some (Sum.inl (x6_29 + 1)))))) 1000000 (-1)) (fun v => v = pch S m (lo m)) := by
  have h8 := hw.1.f8
  have hp8 := pow_le8 h8
  obtain ⟨l1, l2, l3⟩ := lo_sp (by omega) h0
  have hl := bit_nf hm l2
  have hTm : qT S i m := fun y hy => hT y (by omega)
  have b1 := pv_le hw hm
  have hd := delb_le m (lo m)
  have b2 := pv_le hw (show delb m (lo m) < 2 ^ nf S by omega)
  have hpl := pch_lt hw.1 hm l2 l3
  refine tt_loop (fun j s => s = nI j - 1 ∧ (1 ≤ j → ¬ pv S (delb m (lo m)) = pv S m) ∧ ∀ g, g + 1 < j → ppr S m (lo m) g = false) (nf S + 1) (by omega) ?_ ?_ ⟨rfl, fun q => by omega, fun g hg => by omega⟩
  · rintro j hj s ⟨u1, u2, u3⟩
    cases j with
    | zero =>
      have ex : s = -1 := u1.trans (by decide)
      subst ex
      rw [m_pairedNo hm h8 h0 hTm, Option.bind_some, grd_nI (show m < 256 by omega) (by decide), ix_nI (show m < 2 ^ 31 by omega), hT m hm]
      rcases hpl with ⟨e, e2⟩ | ⟨e, -⟩
      · rw [if_pos (by rw [e])]
        exact tt_some (by dsimp only [lpP]; rw [e2])
      · rw [if_neg (fun q => e ((nI_inj (by omega) (by omega)).mp q))]
        exact tt_some ⟨by decide, fun _ => e, fun g hg => by omega⟩
    | succ f =>
      have ex : s = nI f := by rw [u1, nI_pred]
      subst ex
      have e := u2 (by omega)
      have hb2 := pcd_le hw hm h0 (show f < nf S by omega)
      rw [m_pairedBy hw h hm h0 (by omega) hTm, Option.bind_some, grd_nI (show m < 256 by omega) (by decide), ix_nI (show m < 2 ^ 31 by omega), hT m hm]
      have hiff : (if pcd S m (lo m) f = true then nI (szp S (lo m) f + pv S (delb (delb m (lo m)) f)) else -1) = nI (pv S m) ↔ ppr S m (lo m) f = true := by
        unfold ppr
        show _ ↔ (pcd S m (lo m) f && _) = true
        by_cases c : pcd S m (lo m) f = true
        · rw [if_pos c, c, Bool.true_and, decide_eq_true_eq, nI_inj (by omega) (by omega)]
        · rw [if_neg c, Bool.eq_false_iff.mpr c, Bool.false_and]
          exact ⟨fun q => absurd q (fun q2 => nI_m1 (by omega) q2.symm), fun q => absurd q (by decide)⟩
      by_cases c : ppr S m (lo m) f = true
      · refine tt_ifp (hiff.mpr c) (tt_some ?_)
        rcases hpl with ⟨e2, -⟩ | ⟨-, f', hf', e2, e3, -, e4⟩
        · exact absurd e2 e
        · show nI f = pch S m (lo m)
          rw [e2]
          congr 1
          rcases Nat.lt_trichotomy f f' with hlt | hlt | hlt
          · rw [e4 f hlt] at c; exact absurd c (by decide)
          · exact hlt
          · rw [u3 f' (by omega)] at e3; exact absurd e3 (by decide)
      · refine tt_ifn (fun q => c (hiff.mp q)) (tt_some ⟨by rw [nI_pred, nI_1], fun _ => e, fun g hg => ?_⟩)
        by_cases e5 : g = f
        · subst e5; exact Bool.eq_false_iff.mpr c
        · exact u3 g (by omega)
  · rintro s ⟨u1, u2, u3⟩
    exfalso
    rcases hpl with ⟨e2, -⟩ | ⟨-, f', hf', e2, e3, -, e4⟩
    · exact u2 (by omega) e2
    · rw [u3 f' (by omega)] at e3; exact absurd e3 (by decide)
theorem pmm_skip {j : Nat} : ∀ k, (∀ f, j ≤ f → f < j + k → (pmm S j).testBit f = false) → pmm S (j + k) = pmm S j
  | 0, _ => rfl
  | k + 1, h => by
    have ih := pmm_skip k (fun f h1 h2 => h f h1 (by omega))
    have : pmm S (j + (k + 1)) = if (pmm S (j + k)).testBit (j + k) = true then (if pch S (pmm S (j + k)) (j + k) = -1 then delb (pmm S (j + k)) (j + k) else delb (delb (pmm S (j + k)) (j + k)) (ix (pch S (pmm S (j + k)) (j + k)))) else pmm S (j + k) := rfl
    rw [this, if_neg (by rw [ih, h (j + k) (by omega) (by omega)]; decide), ih]
theorem m_pairs (hw : Wf S) (h : MV i S) (x : Int32) : Tt (f_Mo_pairs i x) (MO i (spPairs S x)) := by
  have h8 := hw.1.f8
  have hp8 := pow_le8 h8
  have hpp := Nat.two_pow_pos (nf S)
  have h1 := mv_t h 0
  unfold f_Mo_pairs spPairs
  refine tt_bnd ?_
  by_cases hx : x = -1 ∨ okx x (nf S) = true
  · refine tt_bind (P1 := fun v => v = 0) ?_ ?_
    · by_cases hx1 : x = -1
      · rw [if_pos hx1]; exact tt_some rfl
      · rw [if_neg hx1, m_noFish hw.1 h1, Option.bind_some, if_pos (hx.resolve_left hx1), if_pos (show (0 : Int32) = 0 from rfl)]
        exact tt_some rfl
    · rintro v rfl
      rw [thr0, Option.bind_some]
      dsimp only
      rw [if_pos (show (0 : Int32) = 0 from rfl)]
      refine tt_bind (m_laysPairs hw h1) ?_
      rintro i2 ⟨e2, e3⟩
      have hM2 : MV i2 S := h1.congr (fun k => e3 1639 k (by decide))
      have hfq : fq (wr i 1638 0 0) i2 := ⟨fun b j hb => e3 b j (by omega), fun j _ => e3 1638 j (by decide)⟩
      have h00 : i2 1638 0 = 0 := (e3 1638 0 (by decide)).trans wr_s
      rw [m_fishes hM2, hw.1.f, Option.bind_some, full_nI h8]
      by_cases hx1 : x = -1
      · rw [if_pos hx1, if_pos hx1, grd_nI (show 2 ^ nf S - 1 < 256 by omega) (by decide), ix_nI (by omega), e2 _ (by omega)]
        exact tt_some (mo_ok hfq h00 rfl)
      · have ho := hx.resolve_left hx1
        rw [if_neg hx1, if_neg hx1, if_pos ho]
        obtain ⟨f, hf, rfl⟩ := okx_of (by omega) ho
        refine tt_bind (P1 := fun v => v = pou S (nf S) f)
          (tt_loopm (fun (s : Int32 × Int32 × Int32) => (∃ j, j ≤ nf S ∧ s.1 = nI (pmm S j) ∧ (pmm S j).testBit f = true ∧ s.2.2 = 0) ∨ (s.2.2 = 1 ∧ s.2.1 = pou S (nf S) f)) (fun s => if s.2.2 = 0 then ix s.1 + 1 else 0) ?_ 1000000 _ ?_ (Or.inl ⟨0, Nat.zero_le _, rfl, ?_, rfl⟩)) ?_
        · rintro ⟨x2, x3, x4⟩ hs
          dsimp only at hs ⊢
          rcases hs with ⟨j, hj, k1, k2, k3⟩ | ⟨k1, k2⟩
          · subst k1 k3
            obtain ⟨p1, p2, p3⟩ := pmm_sp (S := S) hw.1 j hj
            have hne : pmm S j ≠ 0 := fun q => by rw [q, Nat.zero_testBit] at k2; exact absurd k2 (by decide)
            obtain ⟨l1, l2, l3⟩ := lo_sp (show pmm S j < 256 by omega) hne
            have hl := bit_nf p1 l2
            generalize el : lo (pmm S j) = l at *
            have hjl : j ≤ l := by
              rcases Nat.lt_or_ge l j with q | q
              · rw [p2 l q] at l2; exact absurd l2 (by decide)
              · exact q
            have em0 : pmm S l = pmm S j := by
              have := pmm_skip (S := S) (j := j) (l - j) (fun f h1 h2 => l3 f (by omega))
              rw [show j + (l - j) = l by omega] at this
              exact this
            rw [if_pos (show (0 : Int32) = 0 from rfl), mo_firstOf (by omega) hne, el, Option.bind_some]
            refine tt_bind (m_pch hw hM2 p1 hne e2) ?_
            rintro v rfl
            rw [el, ← em0]
            rw [← em0] at l2 p1 k2
            obtain ⟨q1, q2, q3⟩ := pmm_sp (S := S) hw.1 l (by omega)
            have hd := delb_lt2 (show pmm S l < 256 by omega) l2
            have hpl := pch_lt hw.1 p1 l2 q2
            -- what the step makes
            have hstep : (if pch S (pmm S l) l = -1 then some (nI (pmm S l) &&& (shl 1 (nI l) ^^^ -1)) else some ((nI (pmm S l) &&& (shl 1 (nI l) ^^^ -1)) &&& (shl 1 (pch S (pmm S l) l) ^^^ -1))) = some (nI (pmm S (l + 1))) ∧ pmm S (l + 1) < pmm S l ∧ (pch S (pmm S l) l = -1 → (pmm S (l + 1)).testBit l = false ∧ pou S (l + 1) = pou S l ∧ ∀ g, g ≠ l → (pmm S (l + 1)).testBit g = (decide (g < 8) && (pmm S l).testBit g)) ∧ (∀ w, w < nf S → pch S (pmm S l) l = nI w → (pmm S (l + 1)).testBit l = false ∧ (pmm S (l + 1)).testBit w = false ∧ (∀ g, g ≠ l → g ≠ w → (pmm S (l + 1)).testBit g = (decide (g < 8) && (pmm S l).testBit g)) ∧ pou S (l + 1) l = nI w ∧ (w ≠ l → pou S (l + 1) w = nI l)) := by
              rcases hpl with ⟨-, e⟩ | ⟨-, w, hwn, e, -, e4, -⟩
              · have em : pmm S (l + 1) = delb (pmm S l) l := by
                  show (if (pmm S l).testBit l = true then (if pch S (pmm S l) l = -1 then delb (pmm S l) l else delb (delb (pmm S l) l) (ix (pch S (pmm S l) l))) else pmm S l) = _
                  rw [if_pos l2, if_pos e]
                have eo : pou S (l + 1) = pou S l := if_neg (fun q2 => q2.2 e)
                rw [if_pos e, em, delb_nI (by omega) (by omega)]
                refine ⟨rfl, hd, fun _ => ⟨?_, eo, fun g hg => ?_⟩, fun w hwn q => absurd (e.symm.trans q) (fun q2 => nI_m1 (by omega) q2.symm)⟩
                · rw [delb_t, decide_eq_true rfl, Bool.not_true, Bool.and_false, Bool.and_false]
                · rw [delb_t, decide_eq_false (show ¬ l = g from fun q => hg q.symm), Bool.not_false, Bool.and_true]
              · have hn1 : ¬ pch S (pmm S l) l = -1 := by rw [e]; exact nI_m1 (by omega)
                have ei : ix (pch S (pmm S l) l) = w := by rw [e, ix_nI (by omega)]
                have em : pmm S (l + 1) = delb (delb (pmm S l) l) w := by
                  show (if (pmm S l).testBit l = true then (if pch S (pmm S l) l = -1 then delb (pmm S l) l else delb (delb (pmm S l) l) (ix (pch S (pmm S l) l))) else pmm S l) = _
                  rw [if_pos l2, if_neg hn1, ei]
                have eo : pou S (l + 1) = fun x => if x = l then pch S (pmm S l) l else if x = w then nI l else pou S l x := by
                  show (if (pmm S l).testBit l = true ∧ ¬ pch S (pmm S l) l = -1 then (fun x => if x = l then pch S (pmm S l) l else if x = ix (pch S (pmm S l) l) then nI l else pou S l x) else pou S l) = _
                  rw [if_pos ⟨l2, hn1⟩, ei]
                have hd2 := delb_le (delb (pmm S l) l) w
                rw [if_neg hn1, em, eo, e, delb_nI (by omega) (by omega), delb_nI (delb_lt _ _) (by omega)]
                refine ⟨rfl, by omega, fun q => absurd q (nI_m1 (by omega)), fun w' hwn' q => ?_⟩
                have : w = w' := (nI_inj (by omega) (by omega)).mp q
                subst this
                refine ⟨?_, ?_, fun g hg hg2 => ?_, if_pos rfl, fun hwl => ?_⟩
                · rw [delb_t, delb_t, decide_eq_true (rfl : l = l), Bool.not_true, Bool.and_false, Bool.and_false, Bool.false_and, Bool.and_false]
                · rw [delb_t, decide_eq_true (rfl : w = w), Bool.not_true, Bool.and_false, Bool.and_false]
                · rw [delb_t, delb_t, decide_eq_false (show ¬ w = g from fun q => hg2 q.symm), decide_eq_false (show ¬ l = g from fun q => hg q.symm), Bool.not_false, Bool.and_true, Bool.and_true]
                  cases decide (g < 8) <;> rfl
                · show (if w = l then _ else if w = w then nI l else _) = nI l
                  rw [if_neg hwl, if_pos rfl]
            obtain ⟨st1, st2, st3, st4⟩ := hstep
            have hstay := fun (hq : (pmm S (l + 1)).testBit f = false) => (pou_stay hw.1 (nf S - (l + 1)) (l + 1) (by omega) hq).2
            rw [show l + 1 + (nf S - (l + 1)) = nf S by omega] at hstay
            by_cases c1 : l = f
            · subst c1
              rw [if_pos (show nI l = nI l from rfl), if_pos (show nI l = nI l from rfl), Option.bind_some, Option.bind_some]
              refine tt_eq st1 (tt_some ⟨Or.inr ⟨rfl, ?_⟩, ?_⟩)
              · show pch S (pmm S l) l = pou S (nf S) l
                rcases hpl with ⟨-, e⟩ | ⟨-, w, hwn, e, -⟩
                · obtain ⟨g1, g2, -⟩ := st3 e
                  rw [hstay g1, g2, q3 l l2, e]
                · obtain ⟨g1, -, -, g2, -⟩ := st4 w hwn e
                  rw [hstay g1, g2, e]
              · show (if (1 : Int32) = 0 then ix _ + 1 else 0) < (if (0 : Int32) = 0 then ix _ + 1 else 0)
                rw [if_neg (by decide), if_pos rfl]
                omega
            · have c1' : ¬ nI l = nI f := fun q => c1 ((nI_inj (by omega) (by omega)).mp q)
              rw [if_neg c1', if_neg c1']
              by_cases c2 : pch S (pmm S l) l = nI f
              · rw [if_pos c2, Option.bind_some, Option.bind_some]
                refine tt_eq st1 (tt_some ⟨Or.inr ⟨rfl, ?_⟩, ?_⟩)
                · obtain ⟨-, g1, -, -, g2⟩ := st4 f hf c2
                  show nI l = pou S (nf S) f
                  rw [hstay g1, g2 (fun q => c1 q.symm)]
                · show (if (1 : Int32) = 0 then ix _ + 1 else 0) < (if (0 : Int32) = 0 then ix _ + 1 else 0)
                  rw [if_neg (by decide), if_pos rfl]
                  omega
              · rw [if_neg c2, Option.bind_some, Option.bind_some]
                refine tt_eq st1 (tt_some ⟨Or.inl ⟨l + 1, by omega, rfl, ?_, rfl⟩, ?_⟩)
                · rcases hpl with ⟨-, e⟩ | ⟨-, w, hwn, e, -⟩
                  · obtain ⟨-, -, g3⟩ := st3 e
                    rw [g3 f (fun q => c1 q.symm), decide_eq_true (show f < 8 by omega), k2]; rfl
                  · obtain ⟨-, -, g3, -⟩ := st4 w hwn e
                    rw [g3 f (fun q => c1 q.symm) (fun q => c2 (by rw [e, q])), decide_eq_true (show f < 8 by omega), k2]; rfl
                · show (if (0 : Int32) = 0 then ix (nI (pmm S (l + 1))) + 1 else 0) < (if (0 : Int32) = 0 then ix (nI (pmm S l)) + 1 else 0)
                  rw [if_pos rfl, if_pos rfl, ix_nI (by omega), ix_nI (by omega)]
                  omega
          · subst k1
            rw [if_neg (show ¬ (1 : Int32) = 0 by decide)]
            exact tt_some k2
        · show (if (0 : Int32) = 0 then ix (nI (2 ^ nf S - 1)) + 1 else 0) < 1000000
          rw [if_pos rfl, ix_nI (by omega)]
          omega
        · show (2 ^ nf S - 1).testBit f = true
          rw [Nat.testBit_two_pow_sub_one, decide_eq_true hf]
        · rintro v rfl
          rw [ix_nI (by omega)]
          exact tt_some (mo_ok hfq h00 rfl)
  · have hx1 : ¬ x = -1 := fun q => hx (Or.inl q)
    have ho : ¬ okx x (nf S) = true := fun q => hx (Or.inr q)
    rw [if_neg hx1, if_neg hx1, if_neg ho, m_noFish hw.1 h1, Option.bind_some, if_neg ho, if_neg (show ¬ (1 : Int32) = 0 by decide), Option.bind_some, thr1, Option.bind_some]
    dsimp only
    rw [if_neg (by decide)]
    exact tt_some (mo_err (by decide) (fq_t (fq.refl i) 0))
end PAIRS3
