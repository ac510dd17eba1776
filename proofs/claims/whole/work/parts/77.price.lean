/-! ===== prices, turning, what a buyer may take, on both sides ===== -/
def jmax (x y : Int32) : Int32 := (f_J_max x y).getD 0
def jmin (x y : Int32) : Int32 := (f_J_min x y).getD 0
theorem j_max (x y : Int32) : f_J_max x y = some (jmax x y) := by unfold jmax f_J_max; split <;> rfl
theorem j_min (x y : Int32) : f_J_min x y = some (jmin x y) := by unfold jmin f_J_min; split <;> rfl
theorem jmax_nI {a b : Nat} (ha : a < 2 ^ 31) (hb : b < 2 ^ 31) : jmax (nI a) (nI b) = nI (max a b) := by
  unfold jmax f_J_max
  by_cases h : nI a < nI b
  · have := (nI_ltI ha hb).mp h
    rw [if_pos h, Nat.max_eq_right (by omega)]; rfl
  · have h2 : ¬ a < b := fun q => h ((nI_ltI ha hb).mpr q)
    rw [if_neg h, Nat.max_eq_left (by omega)]; rfl
theorem jmin_nI {a b : Nat} (ha : a < 2 ^ 31) (hb : b < 2 ^ 31) : jmin (nI a) (nI b) = nI (min a b) := by
  unfold jmin f_J_min
  by_cases h : nI b < nI a
  · have := (nI_ltI hb ha).mp h
    rw [if_pos h, Nat.min_eq_right (by omega)]; rfl
  · have h2 : ¬ b < a := fun q => h ((nI_ltI hb ha).mpr q)
    rw [if_neg h, Nat.min_eq_left (by omega)]; rfl
/-- the sea at a and the law at l lie apart -/
def NA (a l : Nat) : Prop := l + 6 ≤ a ∨ a + 31 ≤ l
def spr (S : SS) (L : LW) (f : Nat) : Int32 := S 2 f 1 * 2 + S 2 f 2 / 10 + lsum S L 2 f (lyg S)
def str (S : SS) (L : LW) (f : Nat) : Int32 := jmax 0 (5 + lsum S L 1 f (lyg S) - lsum S L 0 f (lyg S))
def sut (S : SS) (L : LW) (b f : Nat) : Bool := decide (S 2 f 3 = 2 ∧ S 2 f 0 = S 4 b 0 ∧ ¬ S 2 f 2 < S 4 b 2 ∧ ¬ S 4 b 1 < spr S L f)
/-- the freshest of some -/
def frs (S : SS) (p : Nat → Bool) : Int32 := fo (fun f x => if p f = true ∧ (x = -1 ∨ S 2 (ix x) 2 < S 2 f 2) then nI f else x) (nf S) (-1)
theorem mul2 (x : Int32) : (2 : Int32) * x = x * 2 := Int32.mul_comm 2 x
theorem bit_shr : ∀ m, m < 256 → ∀ f, f < 8 → (((shr (nI m) (nI f)) &&& 1 = 0) ↔ m.testBit f = false) := by decide +kernel
theorem bits_test (p : Nat → Bool) : ∀ n f, (bits p n).testBit f = (decide (f < n) && p f)
  | 0, f => by simp [bits]
  | n + 1, f => by
    have hlt := bits_lt p n
    have ih := bits_test p n f
    rw [bits_succ]
    by_cases hp : p n = true
    · rw [if_pos hp, Nat.add_comm]
      by_cases hf : f < n
      · rw [Nat.testBit_two_pow_add_gt hf, ih]
        simp [hf, Nat.lt_succ_of_lt hf]
      · by_cases he : f = n
        · subst he
          rw [Nat.testBit_two_pow_add_eq, ih]
          simp [hp]
        · have h2 : 2 ^ n + bits p n < 2 ^ f := by
            have : 2 ^ (n + 1) ≤ 2 ^ f := Nat.pow_le_pow_right (by decide) (by omega)
            rw [Nat.pow_succ] at this; omega
          rw [Nat.testBit_lt_two_pow h2]
          simp; intro h9; omega
    · rw [if_neg hp, ih]
      by_cases hf : f < n
      · simp [hf, Nat.lt_succ_of_lt hf]
      · by_cases he : f = n
        · subst he; simp [hp]
        · rw [decide_eq_false hf, decide_eq_false (show ¬ f < n + 1 by omega)]
theorem bits_256 (p : Nat → Bool) {n : Nat} (hn : n ≤ 8) : bits p n < 256 := Nat.lt_of_lt_of_le (bits_lt p n) (Nat.pow_le_pow_right (by decide) hn)
theorem frs_lt {S : SS} {p : Nat → Bool} : ∀ n, (fo (fun f x => if p f = true ∧ (x = -1 ∨ S 2 (ix x) 2 < S 2 f 2) then nI f else x) n (-1 : Int32) = -1 ∨ ∃ g, g < n ∧ p g = true ∧ fo (fun f x => if p f = true ∧ (x = -1 ∨ S 2 (ix x) 2 < S 2 f 2) then nI f else x) n (-1 : Int32) = nI g)
  | 0 => Or.inl rfl
  | n + 1 => by
    have ih := frs_lt (S := S) (p := p) n
    show (if p n = true ∧ _ then nI n else _) = _ ∨ ∃ g, g < n + 1 ∧ p g = true ∧ (if p n = true ∧ _ then nI n else _) = nI g
    split
    · rename_i h; exact Or.inr ⟨n, by omega, h.1, rfl⟩
    · rcases ih with ih | ⟨g, h1, h2, h3⟩
      · exact Or.inl ih
      · exact Or.inr ⟨g, by omega, h2, h3⟩
theorem frs_congr {S : SS} {p q : Nat → Bool} (h : ∀ f, f < nf S → p f = q f) : frs S p = frs S q := by
  unfold frs
  exact fo_congr _ _ (fun j x hj => by rw [h j hj])
section PRICE
variable {i : MI} {t : MT} {r : MR} {a : Nat} {S : SS} {L : LW}
theorem v_price (hc : Cnt S) (h : CV i a S) (hw : WL L) (hL : CL t i (r a 16) L) (hna : NA a (r a 16)) {f : Nat} (hf : f < nf S) : Tt (f_Se_price t r i a (nI f)) (fun y => y.1 = spr S L f ∧ ∀ b j, b ≠ r a 16 + 1 → y.2 b j = i b j) := by
  have h8 := hc.f8
  have hfc := h.2.2.1 f hf
  unfold f_Se_price
  rw [v_placed hc h, Option.bind_some, j_bc, Option.bind_some, grd_nI (show f < 8 by omega) (by decide)]
  refine tt_bind (v_sum hc h hw hL hf (by unfold NA at hna; omega) 2 (bc (plc S 2))) ?_
  rintro ⟨v, i2⟩ ⟨e1, e2⟩
  dsimp only at e1 e2 ⊢
  refine tt_some ⟨?_, e2⟩
  dsimp only
  rw [ix_nI (by omega), hfc.2.1, hfc.2.2.1, e1]
  rfl
theorem m_price (hc : Cnt S) (h : MV i S) (hw : WL L) (hL : ML i L) {f : Nat} (hf : f < nf S) : Tt (f_Mo_priceOf i (nI f)) (fun y => y.1 = spr S L f ∧ ∀ b j, b ≠ 1646 → y.2 b j = i b j) := by
  have h8 := hc.f8
  unfold f_Mo_priceOf
  rw [lit_nI 1, m_of h (show f < 8 by omega) (by decide), Option.bind_some, lit_nI 2, m_of h (show f < 8 by omega) (by decide), Option.bind_some]
  refine tt_bind (m_sum hc h hw hL hf 2) ?_
  rintro ⟨v, i2⟩ ⟨e1, e2⟩
  dsimp only at e1 e2 ⊢
  refine tt_some ⟨?_, e2⟩
  dsimp only
  rw [e1]
  unfold spr
  rw [← lit_nI 2, mul2]
theorem v_turns (hc : Cnt S) (h : CV i a S) (hw : WL L) (hL : CL t i (r a 16) L) (hna : NA a (r a 16)) {f : Nat} (hf : f < nf S) : Tt (f_Se_turnsBy t r i a (nI f)) (fun y => y.1 = str S L f ∧ ∀ b j, b ≠ r a 16 + 1 → y.2 b j = i b j) := by
  unfold NA at hna
  unfold f_Se_turnsBy
  rw [v_placed hc h, Option.bind_some, j_bc, Option.bind_some]
  refine tt_bind (v_sum hc h hw hL hf (by omega) 1 (bc (plc S 2))) ?_
  rintro ⟨v, i2⟩ ⟨e1, e2⟩
  dsimp only at e1 e2 ⊢
  have h2 : CV i2 a S := h.congr (fun b k _ _ => e2 b k (by omega)) hc
  have hL2 : CL t i2 (r a 16) L := hL.congr (fun b k _ => e2 b k (by omega))
  refine tt_bind (v_sum hc h2 hw hL2 hf (by omega) 0 (bc (plc S 2))) ?_
  rintro ⟨v3, i3⟩ ⟨e3, e4⟩
  dsimp only at e3 e4 ⊢
  rw [j_max, Option.bind_some]
  refine tt_some ⟨?_, fun b j hb => by show i3 b j = i b j; rw [e4 b j hb, e2 b j hb]⟩
  dsimp only
  rw [e1, e3]
  rfl
theorem m_turns (hc : Cnt S) (h : MV i S) (hw : WL L) (hL : ML i L) {f : Nat} (hf : f < nf S) : Tt (f_Mo_turnsBy i (nI f)) (fun y => y.1 = str S L f ∧ ∀ b j, b ≠ 1646 → y.2 b j = i b j) := by
  unfold f_Mo_turnsBy
  refine tt_bind (m_sum hc h hw hL hf 1) ?_
  rintro ⟨v, i2⟩ ⟨e1, e2⟩
  dsimp only at e1 e2 ⊢
  have h2 : MV i2 S := h.congr (fun k => e2 1639 k (by omega))
  have hL2 : ML i2 L := hL.congr (fun k => e2 1639 k (by omega))
  refine tt_bind (m_sum hc h2 hw hL2 hf 0) ?_
  rintro ⟨v3, i3⟩ ⟨e3, e4⟩
  dsimp only at e3 e4 ⊢
  rw [j_max, Option.bind_some]
  refine tt_some ⟨?_, fun b j hb => by show i3 b j = i b j; rw [e4 b j hb, e2 b j hb]⟩
  dsimp only
  rw [e1, e3]
  rfl
theorem v_freshest (hc : Cnt S) (h : CV i a S) {m : Nat} (hm : m < 256) : f_Se_freshestOf i a (nI m) = some (frs S (fun f => m.testBit f)) := by
  have h8 := hc.f8
  unfold f_Se_freshestOf
  refine (itr_bind (itr_fo (fun j x => (x, nI j)) (fun f x => if (m.testBit f) = true ∧ (x = -1 ∨ S 2 (ix x) 2 < S 2 f 2) then nI f else x) (nf S) (-1) (y := frs S (fun f => m.testBit f)) ?_ ?_ (by omega) rfl)).trans rfl
  · intro j x hj hx
    have hl := frs_lt (S := S) (p := fun f => m.testBit f) j
    rw [← hx] at hl
    dsimp only
    rw [h.1.1, hc.f, if_pos (nI_lt hj (by omega))]
    have hb := bit_shr m hm j (by omega)
    by_cases ht : m.testBit j = true
    · rw [if_neg (fun q => by rw [hb.mp q] at ht; cases ht)]
      rcases hl with hl | ⟨g, g1, -, g3⟩
      · rw [hl]; simp [ht, nI_succ]
      · have hne : ¬ x = -1 := by
          rw [g3]
          intro q
          have := congrArg Int32.toInt q
          rw [nI_toInt (by omega), show (-1 : Int32).toInt = -1 from by decide] at this
          omega
        rw [if_neg hne, grd_nI (show j < 8 by omega) (by decide), g3, grd_nI (show g < 8 by omega) (by decide), ix_nI (by omega), ix_nI (by omega), (h.2.2.1 g (by omega)).2.2.1, (h.2.2.1 j hj).2.2.1]
        rw [g3] at hne
        by_cases hlt : S 2 g 2 < S 2 j 2
        · simp [ht, hlt, nI_succ]
        · simp [ht, hlt, hne, nI_succ]
    · rw [if_pos (hb.mpr (by simpa using ht))]
      simp [ht, nI_succ]
  · dsimp only
    rw [h.1.1, hc.f, if_neg (nI_nlt (Nat.le_refl _) (by omega))]
    rfl
theorem v_mayBuy (hc : Cnt S) (h : CV i a S) (hw : WL L) (hL : CL t i (r a 16) L) (hna : NA a (r a 16)) {b : Nat} (hb : b < ny S) : Tt (f_Se_mayBuy t r i a (nI b)) (fun y => y.1 = nI (bits (sut S L b) (nf S)) ∧ ∀ b j, b ≠ r a 16 + 1 → y.2 b j = i b j) := by
  have h8 := hc.f8
  have h5 := hc.y5
  have hna0 := hna
  unfold NA at hna
  unfold f_Se_mayBuy
  refine tt_bind (P1 := fun y => y.1 = nI (bits (sut S L b) (nf S)) ∧ ∀ b j, b ≠ r a 16 + 1 → y.2 b j = i b j)
    (tt_loop (fun q (s : Int32 × Int32 × MI) => s.1 = nI (bits (sut S L b) q) ∧ s.2.1 = nI q ∧ ∀ b j, b ≠ r a 16 + 1 → s.2.2 b j = i b j) (nf S) (by omega) ?_ ?_ ?_) ?_
  · rintro q hq ⟨x, ixx, i5⟩ ⟨e1, e2, e4⟩
    dsimp only at e1 e2 e4 ⊢
    subst e1 e2
    have h5' : CV i5 a S := h.congr (fun b k _ _ => e4 b k (by omega)) hc
    have hL5 : CL t i5 (r a 16) L := hL.congr (fun b k _ => e4 b k (by omega))
    obtain ⟨f0, f1, f2, f3, -⟩ := h5'.2.2.1 q hq
    obtain ⟨y0, y1, y2, y3⟩ := h5'.2.2.2.2.1 b hb
    have hs : bits (sut S L b) (q + 1) = if sut S L b q = true then bits (sut S L b) q + 2 ^ q else bits (sut S L b) q := rfl
    have fin : ∀ (v : Int32) (i6 : MI), (∀ b j, b ≠ r a 16 + 1 → i6 b j = i b j) → v = nI (bits (sut S L b) (q + 1)) → Tt (some (Sum.inl (v, nI q + (1 : Int32), i6))) (lpP (fun (s : Int32 × Int32 × MI) => s.1 = nI (bits (sut S L b) (q + 1)) ∧ s.2.1 = nI (q + 1) ∧ ∀ b j, b ≠ r a 16 + 1 → s.2.2 b j = i b j) (fun (y : Int32 × MI) => y.1 = nI (bits (sut S L b) (nf S)) ∧ ∀ b j, b ≠ r a 16 + 1 → y.2 b j = i b j)) := fun v i6 h6 hv => tt_some ⟨hv, nI_1 q, h6⟩
    rw [h5'.1.1, hc.f, if_pos (nI_lt hq (by omega)), grd_nI (show q < 8 by omega) (by decide), ix_nI (show q < 2 ^ 31 by omega), ix_nI (show b < 2 ^ 31 by omega), f0, f2, f3, y0, y2, grd_nI (show b < 5 by omega) (by decide), grd_nI (show b < 5 by omega) (by decide)]
    by_cases c1 : S 2 q 3 = 2
    · rw [if_pos c1]
      by_cases c2 : S 2 q 0 = S 4 b 0
      · rw [if_pos c2, Option.bind_some, if_neg (by decide)]
        by_cases c3 : S 2 q 2 < S 4 b 2
        · rw [if_pos c3, Option.bind_some]
          have hn : ¬ sut S L b q = true := by unfold sut; simp [c3]
          exact fin _ _ e4 (by rw [hs, if_neg hn])
        · rw [if_neg c3]
          refine tt_bind (P1 := fun y => y.1 = nI (bits (sut S L b) (q + 1)) ∧ ∀ b j, b ≠ r a 16 + 1 → y.2 b j = i b j) ?_ ?_
          · refine tt_bind (v_price hc h5' hw hL5 hna0 hq) ?_
            rintro ⟨v, i6⟩ ⟨u1, u2⟩
            dsimp only at u1 u2 ⊢
            have u3 : ∀ b j, b ≠ r a 16 + 1 → i6 b j = i b j := fun b j hb => by rw [u2 b j hb, e4 b j hb]
            have y1' : i6 (a + 16 + b) 1 = S 4 b 1 := by rw [u2 _ _ (by omega), y1]
            by_cases c4 : S 4 b 1 < spr S L q
            · refine tt_ifp (by rw [y1', u1]; exact c4) ?_
              have hn : ¬ sut S L b q = true := by unfold sut; simp [c4]
              exact tt_some ⟨by dsimp only; rw [hs, if_neg hn], u3⟩
            · refine tt_ifn (by rw [y1', u1]; exact c4) ?_
              have hn : sut S L b q = true := by unfold sut; simp [c1, c2, c3, c4]
              refine tt_some ⟨?_, u3⟩
              dsimp only
              rw [hs, if_pos hn, or_bit q (by omega) _ (bits_lt _ q)]
          · rintro ⟨v, i6⟩ ⟨u1, u2⟩
            exact fin _ _ u2 u1
      · rw [if_neg c2, Option.bind_some, if_pos rfl, Option.bind_some]
        have hn : ¬ sut S L b q = true := by unfold sut; simp [c2]
        exact fin _ _ e4 (by rw [hs, if_neg hn])
    · rw [if_neg c1, Option.bind_some, if_pos rfl, Option.bind_some]
      have hn : ¬ sut S L b q = true := by unfold sut; simp [c1]
      exact fin _ _ e4 (by rw [hs, if_neg hn])
  · rintro ⟨x, ixx, i5⟩ ⟨e1, e2, e4⟩
    dsimp only at e1 e2 e4 ⊢
    subst e2
    rw [e4 a 7 (by omega), h.1.1, hc.f, if_neg (nI_nlt (Nat.le_refl _) (by omega))]
    exact tt_some ⟨e1, e4⟩
  · exact ⟨rfl, rfl, fun b j _ => rfl⟩
  · rintro ⟨x, i5⟩ ⟨e1, e4⟩
    exact tt_some ⟨e1, e4⟩
/-- the fish that the buyer takes -/
def cho (S : SS) (L : LW) (b : Nat) : Int32 := frs S (sut S L b)
theorem v_choice (hc : Cnt S) (h : CV i a S) (hw : WL L) (hL : CL t i (r a 16) L) (hna : NA a (r a 16)) {b : Nat} (hb : b < ny S) : Tt ((f_Se_mayBuy t r i a (nI b)).bind (fun y => (f_Se_freshestOf y.2 a y.1).bind (fun v => some (v, y.2)))) (fun y => y.1 = cho S L b ∧ ∀ b j, b ≠ r a 16 + 1 → y.2 b j = i b j) := by
  refine tt_bind (v_mayBuy hc h hw hL hna hb) ?_
  rintro ⟨v, i2⟩ ⟨e1, e2⟩
  unfold NA at hna
  have h2 : CV i2 a S := h.congr (fun b k _ _ => e2 b k (by omega)) hc
  dsimp only at e1 e2 ⊢
  subst e1
  rw [v_freshest hc h2 (bits_256 _ hc.f8), Option.bind_some]
  refine tt_some ⟨?_, e2⟩
  exact frs_congr (fun f hf => by rw [bits_test]; simp [hf])
theorem m_suits (hc : Cnt S) (h : MV i S) (hw : WL L) (hL : ML i L) {b f : Nat} (hb : b < ny S) (hf : f < nf S) : Tt (f_Mo_suits i (nI b) (nI f)) (fun y => y.1 = (if sut S L b f = true then 1 else 0) ∧ ∀ b j, b ≠ 1646 → y.2 b j = i b j) := by
  have h8 := hc.f8
  have h5 := hc.y5
  unfold f_Mo_suits
  rw [lit_nI 3, m_of h (show f < 8 by omega) (by decide), Option.bind_some]
  by_cases c1 : S 2 f 3 = nI 2
  · refine tt_ifp c1 ?_
    rw [lit_nI 0, m_of h (show f < 8 by omega) (by decide), Option.bind_some, m_buyer h (show b < 5 by omega) (by decide), Option.bind_some]
    by_cases c2 : S 2 f 0 = S 4 b 0
    · refine tt_ifp c2 ?_
      rw [lit_nI 2, m_of h (show f < 8 by omega) (by decide), Option.bind_some, m_buyer h (show b < 5 by omega) (by decide), Option.bind_some]
      by_cases c3 : S 2 f 2 < S 4 b 2
      · refine tt_ifp c3 ?_
        have hn : ¬ sut S L b f = true := by unfold sut; simp [c3]
        exact tt_some ⟨by rw [if_neg hn], fun b j _ => rfl⟩
      · refine tt_ifn c3 ?_
        refine tt_bind (m_price hc h hw hL hf) ?_
        rintro ⟨v, i2⟩ ⟨e1, e2⟩
        dsimp only at e1 e2 ⊢
        have h2 : MV i2 S := h.congr (fun k => e2 1639 k (by decide))
        rw [lit_nI 1, m_buyer h2 (show b < 5 by omega) (by decide), Option.bind_some]
        by_cases c4 : S 4 b 1 < spr S L f
        · refine tt_ifp (by rw [e1]; exact c4) ?_
          have hn : ¬ sut S L b f = true := by unfold sut; simp [c4]
          exact tt_some ⟨by rw [if_neg hn], e2⟩
        · refine tt_ifn (by rw [e1]; exact c4) ?_
          have hn : sut S L b f = true := by unfold sut; simp [c1, c2, c3, c4]; rfl
          exact tt_some ⟨by rw [if_pos hn], e2⟩
    · refine tt_ifn c2 ?_
      have hn : ¬ sut S L b f = true := by unfold sut; simp [c2]
      exact tt_some ⟨by rw [if_neg hn], fun b j _ => rfl⟩
  · refine tt_ifn c1 ?_
    have hn : ¬ sut S L b f = true := by
      unfold sut
      intro q
      exact c1 (of_decide_eq_true q).1
    exact tt_some ⟨by rw [if_neg hn], fun b j _ => rfl⟩
theorem m_choice (hc : Cnt S) (h : MV i S) (hw : WL L) (hL : ML i L) {b : Nat} (hb : b < ny S) : Tt (f_Mo_choiceOf i (nI b)) (fun y => y.1 = cho S L b ∧ ∀ b j, b ≠ 1646 → y.2 b j = i b j) := by
  have h8 := hc.f8
  unfold f_Mo_choiceOf
  refine tt_bind (P1 := fun y => y.1 = cho S L b ∧ ∀ b j, b ≠ 1646 → y.2 b j = i b j)
    (tt_loop (fun q (s : Int32 × Int32 × MI) => s.1 = fo (fun f x => if sut S L b f = true ∧ (x = -1 ∨ S 2 (ix x) 2 < S 2 f 2) then nI f else x) q (-1) ∧ s.2.1 = nI q ∧ ∀ b j, b ≠ 1646 → s.2.2 b j = i b j) (nf S) (by omega) ?_ ?_ ?_) ?_
  · rintro q hq ⟨x, ixx, i5⟩ ⟨e1, e2, e4⟩
    dsimp only at e1 e2 e4 ⊢
    subst e2
    have h5 : MV i5 S := h.congr (fun k => e4 1639 k (by decide))
    have hL5 : ML i5 L := hL.congr (fun k => e4 1639 k (by decide))
    have hfo : fo (fun f x => if sut S L b f = true ∧ (x = -1 ∨ S 2 (ix x) 2 < S 2 f 2) then nI f else x) (q + 1) (-1) = (if sut S L b q = true ∧ (x = -1 ∨ S 2 (ix x) 2 < S 2 q 2) then nI q else x) := by rw [e1]; rfl
    have hl := frs_lt (S := S) (p := sut S L b) q
    rw [← e1] at hl
    rw [m_fishes h5, hc.f, Option.bind_some, if_pos (nI_lt hq (by omega))]
    refine tt_bind (m_suits hc h5 hw hL5 hb hq) ?_
    rintro ⟨v, i6⟩ ⟨u1, u2⟩
    dsimp only at u1 u2 ⊢
    have u3 : ∀ b j, b ≠ 1646 → i6 b j = i b j := fun b j hb => by rw [u2 b j hb, e4 b j hb]
    have h6 : MV i6 S := h.congr (fun k => u3 1639 k (by decide))
    refine tt_bind (P1 := fun v => v = (if sut S L b q = true ∧ (x = -1 ∨ S 2 (ix x) 2 < S 2 q 2) then nI q else x)) ?_ ?_
    · by_cases c1 : sut S L b q = true
      · refine tt_ifn (by rw [u1, if_pos c1]; decide) ?_
        by_cases c2 : x = -1
        · refine tt_ifp c2 (tt_some ?_)
          rw [if_pos ⟨c1, Or.inl c2⟩]
        · refine tt_ifn c2 ?_
          rcases hl with hl | ⟨g, g1, -, g3⟩
          · exact absurd hl c2
          · rw [g3, lit_nI 2, m_of h6 (show q < 8 by omega) (by decide), Option.bind_some, m_of h6 (show g < 8 by omega) (by decide), Option.bind_some, ix_nI (by omega)]
            rw [g3] at c2
            by_cases c3 : S 2 g 2 < S 2 q 2
            · refine tt_ifp c3 (tt_some ?_)
              rw [if_pos ⟨c1, Or.inr c3⟩]
            · refine tt_ifn c3 (tt_some ?_)
              rw [if_neg (fun q9 => q9.2.elim c2 c3)]
      · refine tt_ifp (by rw [u1, if_neg c1]) (tt_some ?_)
        rw [if_neg (fun q9 => c1 q9.1)]
    · rintro v e9
      exact tt_some ⟨by rw [hfo]; exact e9, nI_1 q, u3⟩
  · rintro ⟨x, ixx, i5⟩ ⟨e1, e2, e4⟩
    dsimp only at e1 e2 e4 ⊢
    subst e2
    have h5 : MV i5 S := h.congr (fun k => e4 1639 k (by decide))
    rw [m_fishes h5, hc.f, Option.bind_some, if_neg (nI_nlt (Nat.le_refl _) (by omega))]
    exact tt_some ⟨e1, e4⟩
  · exact ⟨rfl, rfl, fun b j _ => rfl⟩
  · rintro ⟨x, i5⟩ ⟨e1, e4⟩
    exact tt_some ⟨e1, e4⟩
end PRICE
