/-! ===== calls that only look, 3 ===== -/
def bcI (x : Int32) : Int32 := (f_J_bitCount x).getD 0
theorem j_bcI (x : Int32) : f_J_bitCount x = some (bcI x) := rfl
def brs (S : SS) (m : Nat) : Int32 := fo (fun d x => if m.testBit d = true then x + S 5 d 1 else x) (nd S) 0
def fwg (S : SS) (s : Int32) (m : Nat) (x : Int32) : Int32 := if brs S m < s then x else if x = -1 then nI m else if bcI (nI m) < bcI x then nI m else x
def spFewest (S : SS) (x : Int32) : Int32 × Int32 := if win x 0 99 = true then (0, fo (fwg S x) (2 ^ nd S) (-1)) else (1, 0)
theorem shl1 : ∀ n, n < 9 → shl 1 (nI n) = nI (2 ^ n) := by decide +kernel
theorem has_bit : ∀ m, m < 256 → ∀ f, f < 8 → f_Mo_has (nI m) (nI f) = some (if m.testBit f = true then 1 else 0) := by decide +kernel
theorem addm (x : Int32) : x + (-1 : Int32) = x - 1 := by rw [Int32.sub_eq_add_neg]
def skp (S : SS) (b f c : Nat) : Int32 := if c = 0 then S 2 f 1 else if c = 1 then -S 3 b 2 else if c = 2 then 1 else 0
def shk (S : SS) (f c : Nat) : Int32 := if c = 0 then -S 2 f 1 else if c = 1 then 1 else if c = 2 then 2 else 0
def rsg (S : SS) (b f : Nat) (c c2 c1 : Nat) (x : Int32) : Int32 := if ¬ skp S b f c < skp S b f c2 ∧ ¬ shk S f c < shk S f c1 then x ||| shl 1 (nI c) else x
def rst (S : SS) (b f : Nat) : Int32 := rsg S b f 3 1 2 (rsg S b f 2 0 3 (rsg S b f 1 3 0 (rsg S b f 0 2 1 0)))
def spRests (S : SS) (x y : Int32) : Int32 × Int32 := if okx x (nb S) = true ∧ okx y (nf S) = true then (0, rst S (ix x) (ix y)) else (1, 0)
/-- how many rows of a fish, and the latest of them, from the oldest on -/
def ldg (S : SS) (fi : Int32) (j : Nat) (p : Int32 × Int32) : Int32 × Int32 := if S 6 (nl S - 1 - j) 1 = fi then (p.1 + 1, S 6 (nl S - 1 - j) 0) else p
def spLed (S : SS) (x w : Int32) : Int32 × Int32 := if okx x (nf S) = true then (0, if w = 0 then (fo (ldg S x) (nl S) (0, -1)).1 else (fo (ldg S x) (nl S) (0, -1)).2) else (1, 0)
def spLog (S : SS) (x w : Int32) : Int32 × Int32 := if okx w 5 = true then (0, if okx x (nl S) = true then S 6 (ix x) (ix w) else -2) else (1, 0)
theorem or_0x (x : Int32) : x ||| 0 = x := by
  apply Int32.toBitVec_inj.mp
  simp
section API3
variable {i : MI} {a : Nat} {S : SS} {L : LW}
theorem v_breath (hw : Wf S) (h : CV i a S) {m : Nat} (hm : m < 256) : f_Se_breathOf i a (nI m) = some (brs S m) := by
  have h6 := hw.1.d6
  unfold f_Se_breathOf brs
  refine (itr_bind (itr_fo (fun j x => (x, nI j)) (fun d x => if m.testBit d = true then x + S 5 d 1 else x) (nd S) 0 (y := fo (fun d x => if m.testBit d = true then x + S 5 d 1 else x) (nd S) 0) ?_ ?_ (by omega) rfl)).trans rfl
  · intro j x hj _
    obtain ⟨-, d1⟩ := h.2.2.2.2.2.1 j hj
    have hb := bit_shr m hm j (by omega)
    dsimp only
    rw [show i a 10 = S 0 0 3 from h.1.2.2.2.1, hw.1.d, if_pos (nI_lt hj (by omega)), grd_nI (show j < 6 by omega) (by decide), ix_nI (by omega), d1]
    by_cases ht : m.testBit j = true
    · rw [if_neg (fun q => by rw [hb.mp q] at ht; cases ht)]
      simp [ht, nI_succ]
    · rw [if_pos (hb.mpr (by simpa using ht))]
      simp [ht, nI_succ]
  · dsimp only
    rw [show i a 10 = S 0 0 3 from h.1.2.2.2.1, hw.1.d, if_neg (nI_nlt (Nat.le_refl _) (by omega))]
theorem pow6 {n : Nat} (h : n ≤ 6) : 2 ^ n ≤ 64 := (by decide : ∀ n, n < 7 → 2 ^ n ≤ 64) n (by omega)
theorem v_fewest (hw : Wf S) (h : CV i 1001 S) (x : Int32) : f_Lc_fewest i x = some (toC [20] (spFewest S x)) := by
  have h6 := hw.1.d6
  have hp := pow6 h6
  unfold f_Lc_fewest spFewest
  rw [v_within]
  by_cases hx : win x 0 99 = true
  · rw [if_pos hx, if_pos hx, Option.bind_some]
    dsimp only
    refine (itr_bind (itr_fo (fun j x => (x, nI j)) (fwg S x) (2 ^ nd S) (-1) (y := fo (fwg S x) (2 ^ nd S) (-1)) ?_ ?_ (by omega) rfl)).trans rfl
    · intro j y hj _
      dsimp only
      rw [show i 1001 10 = S 0 0 3 from h.1.2.2.2.1, hw.1.d, shl1 _ (by omega), if_pos (nI_lt hj (by omega)), v_breath hw h (show j < 256 by omega), Option.bind_some]
      unfold fwg
      by_cases c1 : brs S j < x
      · rw [if_pos c1, if_pos c1, Option.bind_some, nI_1]
      · rw [if_neg c1, if_neg c1]
        by_cases c2 : y = -1
        · rw [if_pos c2, if_pos c2, Option.bind_some, nI_1]
        · rw [if_neg c2, if_neg c2, j_bcI, Option.bind_some, j_bcI, Option.bind_some]
          by_cases c3 : bcI (nI j) < bcI y
          · rw [if_pos c3, if_pos c3, Option.bind_some, nI_1]
          · rw [if_neg c3, if_neg c3, Option.bind_some, nI_1]
    · dsimp only
      rw [show i 1001 10 = S 0 0 3 from h.1.2.2.2.1, hw.1.d, shl1 _ (by omega), if_neg (nI_nlt (Nat.le_refl _) (by omega))]
  · rw [if_neg hx, if_neg hx]; rfl
theorem m_fewest (hw : Wf S) (h : MV i S) (x : Int32) : Tt (f_Mo_fewest i x) (MO i (spFewest S x)) := by
  have h6 := hw.1.d6
  have hp := pow6 h6
  have h1 := mv_t h 0
  unfold f_Mo_fewest spFewest f_Mo_noSize
  refine tt_bnd ?_
  rw [mo_win, Option.bind_some]
  by_cases hx : win x 0 99 = true
  · rw [if_pos hx, if_pos hx, if_neg (by decide), Option.bind_some, thr0, Option.bind_some]
    dsimp only
    rw [if_pos rfl]
    refine tt_bind (P1 := fun v => v = fo (fwg S x) (2 ^ nd S) (-1)) ⟨_, itr_fo (fun j x => (x, nI j)) (fwg S x) (2 ^ nd S) (-1) (y := fo (fwg S x) (2 ^ nd S) (-1)) ?_ ?_ (by omega) rfl, rfl⟩ ?_
    · intro j y hj _
      dsimp only
      rw [m_deadOnes h1, hw.1.d, Option.bind_some, shl1 _ (by omega), if_pos (nI_lt hj (by omega))]
      refine (itr_bind (itr_fo (fun j x => (x, nI j)) (fun d x => if j.testBit d = true then x + S 5 d 1 else x) (nd S) 0 (y := brs S j) ?_ ?_ (by omega) rfl)).trans ?_
      · intro k z hk _
        dsimp only
        rw [Option.bind_some, if_pos (nI_lt hk (by omega)), has_bit j (by omega) k (by omega), Option.bind_some]
        by_cases ht : j.testBit k = true
        · rw [if_pos ht, if_neg (by decide), lit_nI 1, m_dead h1 (show k < 6 by omega) (by decide), Option.bind_some, Option.bind_some, if_pos ht, nI_add]
        · rw [if_neg ht, if_pos rfl, Option.bind_some, if_neg ht, nI_1, Int32.add_zero]
      · dsimp only
        rw [Option.bind_some, if_neg (nI_nlt (Nat.le_refl _) (by omega))]
        rfl
      · unfold fwg
        by_cases c1 : brs S j < x
        · rw [if_pos c1, if_pos c1, Option.bind_some, nI_1]
        · rw [if_neg c1, if_neg c1]
          by_cases c2 : y = -1
          · rw [if_pos c2, if_pos c2, Option.bind_some, nI_1]
          · rw [if_neg c2, if_neg c2, j_bcI, Option.bind_some, j_bcI, Option.bind_some]
            by_cases c3 : bcI (nI j) < bcI y
            · rw [if_pos c3, if_pos c3, Option.bind_some, nI_1]
            · rw [if_neg c3, if_neg c3, Option.bind_some, nI_1]
    · dsimp only
      rw [m_deadOnes h1, hw.1.d, Option.bind_some, shl1 _ (by omega), if_neg (nI_nlt (Nat.le_refl _) (by omega))]
    · rintro v rfl
      exact tt_some (mo_ok (fq.refl _) wr_s rfl)
  · rw [if_neg hx, if_neg hx, if_pos rfl, Option.bind_some, thr1, Option.bind_some]
    dsimp only
    rw [if_neg (by decide)]
    exact tt_some (mo_err (by decide) (fq_t (fq.refl i) 0))
/-! rests -/
theorem v_rests (hw : Wf S) (h : CV i 1001 S) (x y : Int32) : f_Lc_rests i x y = some (toC [22] (spRests S x y)) := by
  have h8 := hw.1.f8
  have h3 := hw.1.b3
  unfold f_Lc_rests spRests
  rw [v_needBoat hw.1 h]
  by_cases hx : okx x (nb S) = true
  · rw [if_pos hx, v_needFish hw.1 h]
    by_cases hy : okx y (nf S) = true
    · rw [if_pos hy, if_pos ⟨hx, hy⟩]
      obtain ⟨b, hb, rfl⟩ := okx_of (by omega) hx
      obtain ⟨f, hf, rfl⟩ := okx_of (by omega) hy
      obtain ⟨f0, f1, -⟩ := h.2.2.1 f hf
      obtain ⟨p0, p1, p2⟩ := h.2.2.2.1 b hb
      simp only [Option.bind_some]
      rw [grd_nI (show f < 8 by omega) (by decide), grd_nI (show b < 3 by omega) (by decide), ix_nI (by omega), ix_nI (by omega), f1, p2]
      refine (itr_bind (itr_fo (fun j x => (x, nI j)) (fun c x => rsg S b f c (if c = 0 then 2 else if c = 1 then 3 else if c = 2 then 0 else 1) (if c = 0 then 1 else if c = 1 then 0 else if c = 2 then 3 else 2) x) 4 0 (y := rst S b f) ?_ ?_ (by omega) rfl)).trans rfl
      · intro j z hj _
        rcases (show j = 0 ∨ j = 1 ∨ j = 2 ∨ j = 3 by omega) with rfl | rfl | rfl | rfl
        all_goals
          unfold rsg skp shk
          dsimp only
          rw [if_pos (by decide)]
          simp only [f_Lc_skipperHas, f_Lc_schoolHas]
        · show (if S 2 f 1 < 1 then some (0 : Int32) else some 1).bind (fun y_18 => (if -S 2 f 1 < 1 then some (0 : Int32) else some 1).bind (fun y_23 => (if y_18 = 0 then (some z) else (if y_23 = 0 then (some z) else (some (z ||| shl 1 (nI 0)))) : Option (Int32)).bind (fun x5_26 => some (Sum.inl (x5_26, (nI 0 + 1)))))) = some (Sum.inl (if ¬ S 2 f 1 < 1 ∧ ¬ -S 2 f 1 < 1 then z ||| shl 1 (nI 0) else z, nI 1))
          by_cases c1 : S 2 f 1 < 1 <;> by_cases c2 : -S 2 f 1 < 1 <;> simp [c1, c2] <;> rfl
        · show (if -S 3 b 2 < 0 then some (0 : Int32) else some 1).bind (fun y_18 => (if (1 : Int32) < -S 2 f 1 then some (0 : Int32) else some 1).bind (fun y_23 => (if y_18 = 0 then (some z) else (if y_23 = 0 then (some z) else (some (z ||| shl 1 (nI 1)))) : Option (Int32)).bind (fun x5_26 => some (Sum.inl (x5_26, (nI 1 + 1)))))) = some (Sum.inl (if ¬ -S 3 b 2 < 0 ∧ ¬ (1 : Int32) < -S 2 f 1 then z ||| shl 1 (nI 1) else z, nI 2))
          by_cases c1 : -S 3 b 2 < 0 <;> by_cases c2 : (1 : Int32) < -S 2 f 1 <;> simp [c1, c2] <;> rfl
        · show (if (1 : Int32) < S 2 f 1 then some (0 : Int32) else some 1).bind (fun y_18 => (if (2 : Int32) < 0 then some (0 : Int32) else some 1).bind (fun y_23 => (if y_18 = 0 then (some z) else (if y_23 = 0 then (some z) else (some (z ||| shl 1 (nI 2)))) : Option (Int32)).bind (fun x5_26 => some (Sum.inl (x5_26, (nI 2 + 1)))))) = some (Sum.inl (if ¬ (1 : Int32) < S 2 f 1 ∧ ¬ (2 : Int32) < 0 then z ||| shl 1 (nI 2) else z, nI 3))
          have c2 : ¬ (2 : Int32) < 0 := by decide
          by_cases c1 : (1 : Int32) < S 2 f 1 <;> simp [c1, c2] <;> rfl
        · show (if (0 : Int32) < -S 3 b 2 then some (0 : Int32) else some 1).bind (fun y_18 => (if (0 : Int32) < 2 then some (0 : Int32) else some 1).bind (fun y_23 => (if y_18 = 0 then (some z) else (if y_23 = 0 then (some z) else (some (z ||| shl 1 (nI 3)))) : Option (Int32)).bind (fun x5_26 => some (Sum.inl (x5_26, (nI 3 + 1)))))) = some (Sum.inl (if ¬ (0 : Int32) < -S 3 b 2 ∧ ¬ (0 : Int32) < 2 then z ||| shl 1 (nI 3) else z, nI 4))
          have c2 : (0 : Int32) < 2 := by decide
          by_cases c1 : (0 : Int32) < -S 3 b 2 <;> simp [c1, c2] <;> rfl
      · dsimp only
        rw [if_neg (by decide)]
        rfl
    · rw [if_neg hy, if_neg (show ¬ (okx x (nb S) = true ∧ okx y (nf S) = true) from fun k => hy k.2)]; rfl
  · rw [if_neg hx, if_neg (show ¬ (okx x (nb S) = true ∧ okx y (nf S) = true) from fun k => hx k.1)]; rfl
theorem m_skp (h : MV i S) {b f A B : Nat} (hb : b < nb S) (hf : f < nf S) (h3 : nb S ≤ 3) (h8 : nf S ≤ 8) (hA : A < 2) (hB : B < 2) : f_Mo_skipperHas i (nI b) (nI f) (nI A) (nI B) = some (skp S b f (2 * A + B)) := by
  have g1 : f_Mo_of i (nI f) 1 = some (S 2 f 1) := m_of h (k := 1) (by omega) (by decide)
  have y2 : f_Mo_ofBoat i (nI b) 2 = some (S 3 b 2) := m_boat h (k := 2) (by omega) (by decide)
  unfold f_Mo_skipperHas skp
  rw [g1, y2]
  rcases (show A = 0 ∨ A = 1 by omega) with rfl | rfl <;> rcases (show B = 0 ∨ B = 1 by omega) with rfl | rfl <;> rfl
theorem m_shk (h : MV i S) {f A B : Nat} (hf : f < nf S) (h8 : nf S ≤ 8) (hA : A < 2) (hB : B < 2) : f_Mo_schoolHas i (nI f) (nI A) (nI B) = some (shk S f (2 * A + B)) := by
  have g1 : f_Mo_of i (nI f) 1 = some (S 2 f 1) := m_of h (k := 1) (by omega) (by decide)
  unfold f_Mo_schoolHas shk
  rw [g1]
  rcases (show A = 0 ∨ A = 1 by omega) with rfl | rfl <;> rcases (show B = 0 ∨ B = 1 by omega) with rfl | rfl <;> rfl
theorem m_rin (hw : Wf S) (h : MV i S) {b f : Nat} (hb : b < nb S) (hf : f < nf S) (A : Nat) (z : Int32) (hA : A < 2) : Tt (itr (σ := Int32 × Int32) (ρ := Int32) (fun x => if x.2 < (2 : Int32) then ((f_Mo_skipperHas i (nI b) (nI f) (nI A) x.2).bind (fun v_24 => (f_Mo_skipperHas i (nI b) (nI f) ((1 : Int32) - nI A) x.2).bind (fun v_25 => (if v_24 < v_25 then (some (0 : Int32)) else ((f_Mo_schoolHas i (nI f) (nI A) x.2).bind (fun v_29 => (f_Mo_schoolHas i (nI f) (nI A) ((1 : Int32) - x.2)).bind (fun v_30 => if v_29 < v_30 then (some (0 : Int32)) else (some (shl (1 : Int32) (((2 : Int32) * nI A) + x.2)))))) : Option (Int32)).bind (fun y_26 => some (Sum.inl ((x.1 ||| y_26), (x.2 + (1 : Int32)))))))) else (some (Sum.inr x.1))) 1000000 (z, (0 : Int32))) (fun v => v = rsg S b f (2 * A + 1) (2 * (1 - A) + 1) (2 * A) (rsg S b f (2 * A) (2 * (1 - A)) (2 * A + 1) z)) := by
  have h8 := hw.1.f8
  have h3 := hw.1.b3
  refine ⟨_, itr_fo (fun j x => (x, nI j)) (fun B x => rsg S b f (2 * A + B) (2 * (1 - A) + B) (2 * A + (1 - B)) x) 2 z (y := rsg S b f (2 * A + 1) (2 * (1 - A) + 1) (2 * A) (rsg S b f (2 * A) (2 * (1 - A)) (2 * A + 1) z)) ?_ ?_ (by omega) rfl, rfl⟩
  · intro B w hB _
    dsimp only
    have eA : (1 : Int32) - nI A = nI (1 - A) := sub_nI (a := 1) (by omega)
    have eB : (1 : Int32) - nI B = nI (1 - B) := sub_nI (a := 1) (by omega)
    have eS : (2 : Int32) * nI A + nI B = nI (2 * A + B) := by rw [lit_nI 2, mul_nI, nI_add]
    refine (if_pos (nI_lt hB (by decide))).trans ?_
    rw [eA, eB, eS, m_skp h hb hf (by omega) (by omega) hA hB, m_skp h hb hf (by omega) (by omega) (show 1 - A < 2 by omega) hB, m_shk h hf (by omega) hA hB, m_shk h hf (by omega) hA (show 1 - B < 2 by omega), Option.bind_some, Option.bind_some]
    unfold rsg
    by_cases c1 : skp S b f (2 * A + B) < skp S b f (2 * (1 - A) + B)
    · rw [if_pos c1, if_neg (fun k => k.1 c1), Option.bind_some, or_0x, nI_1]
    · rw [if_neg c1, Option.bind_some, Option.bind_some]
      by_cases c2 : shk S f (2 * A + B) < shk S f (2 * A + (1 - B))
      · rw [if_pos c2, if_neg (fun k => k.2 c2), Option.bind_some, or_0x, nI_1]
      · rw [if_neg c2, if_pos ⟨c1, c2⟩, Option.bind_some, nI_1]
  · dsimp only
    exact if_neg (nI_nlt (b := 2) (Nat.le_refl 2) (by decide))
theorem m_rests (hw : Wf S) (h : MV i S) (x y : Int32) : Tt (f_Mo_rests i x y) (MO i (spRests S x y)) := by
  have h8 := hw.1.f8
  have h3 := hw.1.b3
  have h1 := mv_t h 0
  unfold f_Mo_rests spRests
  refine tt_bnd ?_
  rw [m_noBoat hw.1 h1, Option.bind_some]
  by_cases hx : okx x (nb S) = true
  · rw [if_pos hx, if_pos rfl, m_noFish hw.1 h1, Option.bind_some]
    by_cases hy : okx y (nf S) = true
    · rw [if_pos hy, if_pos rfl, Option.bind_some, thr0, Option.bind_some, if_pos ⟨hx, hy⟩]
      obtain ⟨b, hb, rfl⟩ := okx_of (by omega) hx
      obtain ⟨f, hf, rfl⟩ := okx_of (by omega) hy
      dsimp only
      have g1 : f_Mo_of (wr i 1638 0 0) (nI f) 1 = some (S 2 f 1) := m_of h1 (k := 1) (by omega) (by decide)
      have y2 : f_Mo_ofBoat (wr i 1638 0 0) (nI b) 2 = some (S 3 b 2) := m_boat h1 (k := 2) (by omega) (by decide)
      rw [if_pos rfl, ix_nI (by omega), ix_nI (by omega)]
      refine tt_bind (P1 := fun v => v = rst S b f) (tt_loop (fun q (s : Int32 × Int32) => s = (if q = 0 then 0 else if q = 1 then rsg S b f 1 3 0 (rsg S b f 0 2 1 0) else rst S b f, nI q)) 2 (by omega) ?_ ?_ (by rw [if_pos rfl]; rfl)) ?_
      · rintro q hq _ rfl
        dsimp only
        refine tt_ifp (nI_lt hq (by decide)) ?_
        refine tt_bind (m_rin hw h1 hb hf q _ hq) ?_
        rintro v e9
        refine tt_some ?_
        dsimp only [lpP]
        rw [e9, nI_1]
        rcases (show q = 0 ∨ q = 1 by omega) with rfl | rfl
        · rw [if_pos rfl, if_neg (by decide), if_pos rfl]
        · rw [if_neg (by decide : ¬ (1 = 0)), if_pos rfl, if_neg (by decide : ¬ (1 + 1 = 0)), if_neg (by decide : ¬ (1 + 1 = 1))]
          unfold rst
          rfl
      · rintro _ rfl
        dsimp only
        rw [if_neg (by decide)]
        refine tt_some ?_
        dsimp only [lpP]
        rw [if_neg (by decide : ¬ (2 = 0)), if_neg (by decide : ¬ (2 = 1))]
      · rintro v rfl
        exact tt_some (mo_ok (fq.refl _) wr_s rfl)
    · rw [if_neg hy, if_neg (by decide), Option.bind_some, thr1, Option.bind_some, if_neg (fun k => hy k.2)]
      dsimp only
      rw [if_neg (by decide)]
      exact tt_some (mo_err (by decide) (fq_t (fq.refl i) 0))
  · rw [if_neg hx, if_neg (by decide), Option.bind_some, thr1, Option.bind_some, if_neg (fun k => hx k.1)]
    dsimp only
    rw [if_neg (by decide)]
    exact tt_some (mo_err (by decide) (fq_t (fq.refl i) 0))
/-! the log -/
theorem v_told (hw : Wf S) (h : CV i a S) {g k : Nat} (hg : g < nl S) (hk : k < 5) : f_Lo_told i a (nI g) (nI k) = some (S 6 g k) := by
  have h60 := hw.1.l60
  obtain ⟨e1, x, hx, e2, e3⟩ := h.2.2.2.2.2.2
  unfold f_Lo_told
  rw [if_neg (nI_pos (by omega)), e1, hw.1.l, if_pos (nI_lt hg (by omega)), if_neg (nI_pos (by omega)), lit_nI 5, if_pos (nI_lt hk (by decide)), e2]
  have e : rm (nI x + 60 - 1 - nI g) 60 * nI 5 + nI k = nI ((x + 59 - g) % 60 * 5 + k) := by
    rw [lit_nI 60, nI_add, lit_nI 1, sub_nI (by omega), sub_nI (by omega), rm_nI (by omega) (by decide) (by decide), mul_nI, nI_add, show x + 60 - 1 - g = x + 59 - g by omega]
  rw [e, grd_nI (by omega) (by decide), ix_nI (by omega), e3 g hg k hk]
theorem m_ofLog (h : MV i S) {g k : Nat} (hg : g < 60) (hk : k < 5) : f_Mo_ofLog i (nI g) (nI k) = some (S 6 g k) := by
  have e : (117 : Int32) + (5 : Int32) * nI g + nI k = nI (117 + 5 * g + k) := by rw [lit_nI 117, lit_nI 5, mul_nI, nI_add, nI_add]
  unfold f_Mo_ofLog
  simp only [e]
  rw [grd_nI (by omega) (by omega), ix_nI (by omega), h.2.2.2.2.2.2 g hg k hk]
theorem v_log (hw : Wf S) (h : CV i 1001 S) (x w : Int32) : f_Lc_log i x w = some (toC [24] (spLog S x w)) := by
  have h60 := hw.1.l60
  unfold f_Lc_log spLog
  by_cases hww : okx w 5 = true
  · rw [if_pos hww]
    obtain ⟨k, hk, rfl⟩ := okx_of (by decide) hww
    rw [if_neg (nI_pos (by omega)), lit_nI 5, if_pos (nI_lt hk (by decide))]
    by_cases hx : okx x (nl S) = true
    · obtain ⟨g, hg, rfl⟩ := okx_of (by omega) hx
      rw [if_pos hx, v_told hw h hg hk, Option.bind_some, ix_nI (by omega), ix_nI (by omega)]
      rfl
    · rw [if_neg hx]
      have e1 := h.2.2.2.2.2.2.1
      have : f_Lo_told i 1001 x (nI k) = some (-2) := by
        unfold f_Lo_told
        rw [e1, hw.1.l]
        unfold okx at hx
        by_cases h0 : x < 0
        · rw [if_pos h0]
        · rw [if_neg h0, if_neg (fun q => hx (by simp [h0, q]))]
      rw [this]; rfl
  · rw [if_neg hww]
    unfold okx at hww
    by_cases h0 : w < 0
    · rw [if_pos h0]; rfl
    · rw [if_neg h0, lit_nI 5, if_neg (fun q => hww (by simp [h0, q]))]; rfl
theorem m_log (hw : Wf S) (h : MV i S) (x w : Int32) : Tt (f_Mo_log i x w) (MO i (spLog S x w)) := by
  have h60 := hw.1.l60
  have h1 := mv_t h 0
  unfold f_Mo_log spLog
  refine tt_bnd ?_
  rw [lit_nI 4, mo_inL 4 (by decide), Option.bind_some]
  by_cases hww : okx w 5 = true
  · rw [if_pos hww, if_pos hww, if_neg (by decide), Option.bind_some, thr0, Option.bind_some]
    obtain ⟨k, hk, rfl⟩ := okx_of (by decide) hww
    dsimp only
    rw [if_pos rfl, h1.1 9 (by decide) (by decide), hw.1.l, mo_in (by omega), Option.bind_some]
    by_cases hx : okx x (nl S) = true
    · obtain ⟨g, hg, rfl⟩ := okx_of (by omega) hx
      rw [if_pos hx, if_pos hx, if_neg (by decide), m_ofLog h1 (by omega) hk, Option.bind_some, ix_nI (by omega), ix_nI (by omega)]
      exact tt_some (mo_ok (fq.refl _) wr_s rfl)
    · rw [if_neg hx, if_neg hx, if_pos rfl]
      exact tt_some (mo_ok (fq.refl _) wr_s rfl)
  · rw [if_neg hww, if_neg hww, if_pos rfl, Option.bind_some, thr1, Option.bind_some]
    dsimp only
    rw [if_neg (by decide)]
    exact tt_some (mo_err (by decide) (fq_t (fq.refl i) 0))
theorem dn_neg {n : Nat} (hn : n ≤ 60) : nI n - 1 < 0 ↔ n = 0 := by
  cases n with
  | zero => decide
  | succ m => rw [nI_pred]; exact ⟨fun q => absurd q (nI_pos (by omega)), fun q => by omega⟩
theorem v_led (hw : Wf S) (h : CV i 1001 S) (x w : Int32) : f_Lc_led i x w = some (toC [22] (spLed S x w)) := by
  have h60 := hw.1.l60
  have h8 := hw.1.f8
  have key : Tt (f_Lc_led i x w) (fun v => v = toC [22] (spLed S x w)) := by
    unfold f_Lc_led spLed
    rw [v_needFish hw.1 h]
    by_cases hx : okx x (nf S) = true
    · rw [if_pos hx, if_pos hx, Option.bind_some]
      dsimp only
      refine tt_bind (P1 := fun v => v = fo (ldg S x) (nl S) (0, -1))
        (tt_loop (fun q (s : Int32 × Int32 × Int32) => s.2.2 = nI (nl S - q) - 1 ∧ (s.1, s.2.1) = fo (ldg S x) q (0, -1)) (nl S) (by omega) ?_ ?_ ⟨?_, rfl⟩) ?_
      · rintro q hq ⟨n, l, z⟩ ⟨e1, e2⟩
        dsimp only at e1 e2 ⊢
        subst e1
        have hz : nI (nl S - q) - 1 = nI (nl S - 1 - q) := by
          rw [show nl S - q = (nl S - 1 - q) + 1 by omega, nI_pred]
        have t1 : f_Lo_told i 1001 (nI (nl S - 1 - q)) 1 = some (S 6 (nl S - 1 - q) 1) := v_told hw h (k := 1) (by omega) (by decide)
        have t0 : f_Lo_told i 1001 (nI (nl S - 1 - q)) 0 = some (S 6 (nl S - 1 - q) 0) := v_told hw h (k := 0) (by omega) (by decide)
        rw [hz, if_neg (nI_pos (by omega)), t1, Option.bind_some]
        have hfo : fo (ldg S x) (q + 1) (0, -1) = ldg S x q (n, l) := by rw [e2]; rfl
        refine tt_bind (P1 := fun v => v = ldg S x q (n, l)) ?_ ?_
        · unfold ldg
          by_cases c : S 6 (nl S - 1 - q) 1 = x
          · rw [if_pos c, if_pos c, t0, Option.bind_some]
            exact tt_some rfl
          · rw [if_neg c, if_neg c]
            exact tt_some rfl
        · rintro ⟨n', l'⟩ e9
          refine tt_some ⟨?_, ?_⟩
          · show nI (nl S - 1 - q) + (-1 : Int32) = nI (nl S - (q + 1)) - 1
            rw [addm, show nl S - (q + 1) = nl S - 1 - q by omega]
          · rw [hfo]; exact e9
      · rintro ⟨n, l, z⟩ ⟨e1, e2⟩
        dsimp only at e1 e2 ⊢
        subst e1
        rw [if_pos ((dn_neg (by omega)).mpr (by omega))]
        exact tt_some e2
      · show i (1001 + 28) 1 - 1 = nI (nl S - 0) - 1
        rw [h.2.2.2.2.2.2.1, hw.1.l, Nat.sub_zero]
      · rintro ⟨n, l⟩ e9
        rw [← e9]
        dsimp only
        by_cases c : w = 0
        · rw [if_pos c, if_pos c]; exact tt_some rfl
        · rw [if_neg c, if_neg c]; exact tt_some rfl
    · rw [if_neg hx, if_neg hx]; exact tt_some rfl
  obtain ⟨v, h1, rfl⟩ := key
  exact h1
theorem m_led (hw : Wf S) (h : MV i S) (x w : Int32) : Tt (f_Mo_led i x w) (MO i (spLed S x w)) := by
  have h60 := hw.1.l60
  have h1 := mv_t h 0
  unfold f_Mo_led spLed
  refine tt_bnd ?_
  rw [m_noFish hw.1 h1, Option.bind_some]
  by_cases hx : okx x (nf S) = true
  · rw [if_pos hx, if_pos hx, thr0, Option.bind_some]
    dsimp only
    rw [if_pos rfl]
    refine tt_bind (P1 := fun v => v = fo (ldg S x) (nl S) (0, -1))
      (tt_loop (fun q (s : Int32 × Int32 × Int32) => s.2.2 = nI (nl S - q) - 1 ∧ (s.1, s.2.1) = fo (ldg S x) q (0, -1)) (nl S) (by omega) ?_ ?_ ⟨?_, rfl⟩) ?_
    · rintro q hq ⟨n, l, z⟩ ⟨e1, e2⟩
      dsimp only at e1 e2 ⊢
      subst e1
      have hz : nI (nl S - q) - 1 = nI (nl S - 1 - q) := by
        rw [show nl S - q = (nl S - 1 - q) + 1 by omega, nI_pred]
      have t1 : f_Mo_ofLog (wr i 1638 0 0) (nI (nl S - 1 - q)) 1 = some (S 6 (nl S - 1 - q) 1) := m_ofLog h1 (k := 1) (by omega) (by decide)
      have t0 : f_Mo_ofLog (wr i 1638 0 0) (nI (nl S - 1 - q)) 0 = some (S 6 (nl S - 1 - q) 0) := m_ofLog h1 (k := 0) (by omega) (by decide)
      rw [hz, if_neg (nI_pos (by omega)), t1, Option.bind_some]
      have hfo : fo (ldg S x) (q + 1) (0, -1) = ldg S x q (n, l) := by rw [e2]; rfl
      refine tt_bind (P1 := fun v => v = ldg S x q (n, l)) ?_ ?_
      · unfold ldg
        by_cases c : S 6 (nl S - 1 - q) 1 = x
        · rw [if_pos c, if_pos c, t0, Option.bind_some]
          exact tt_some rfl
        · rw [if_neg c, if_neg c]
          exact tt_some rfl
      · rintro ⟨n', l'⟩ e9
        refine tt_some ⟨?_, ?_⟩
        · show nI (nl S - 1 - q) + (-1 : Int32) = nI (nl S - (q + 1)) - 1
          rw [addm, show nl S - (q + 1) = nl S - 1 - q by omega]
        · rw [hfo]; exact e9
    · rintro ⟨n, l, z⟩ ⟨e1, e2⟩
      dsimp only at e1 e2 ⊢
      subst e1
      rw [if_pos ((dn_neg (by omega)).mpr (by omega))]
      exact tt_some e2
    · show wr i 1638 0 0 1639 9 - 1 = nI (nl S - 0) - 1
      rw [h1.1 9 (by decide) (by decide), hw.1.l, Nat.sub_zero]
    · rintro ⟨n, l⟩ e9
      rw [← e9]
      dsimp only
      by_cases c : w = 0
      · rw [if_pos c, if_pos c]; exact tt_some (mo_ok (fq.refl _) wr_s rfl)
      · rw [if_neg c, if_neg c]; exact tt_some (mo_ok (fq.refl _) wr_s rfl)
  · rw [if_neg hx, if_neg hx, thr1, Option.bind_some]
    dsimp only
    rw [if_neg (by decide)]
    exact tt_some (mo_err (by decide) (fq_t (fq.refl i) 0))
end API3
