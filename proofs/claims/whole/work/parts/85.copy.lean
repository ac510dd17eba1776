/-! ===== copies of the state, on both sides ===== -/
def usd (o k : Nat) : Prop := (o = 0 ∧ 7 ≤ k ∧ k ≤ 15) ∨ (o = 1 ∧ k < 25) ∨ (3 ≤ o ∧ o < 11 ∧ k < 6) ∨ (12 ≤ o ∧ o < 15 ∧ k < 3) ∨ (16 ≤ o ∧ o < 21 ∧ k < 4) ∨ (22 ≤ o ∧ o < 28 ∧ k < 2) ∨ (o = 28 ∧ 1 ≤ k ∧ k ≤ 2) ∨ (o = 29 ∧ k < 300)
section COPY
variable {i i' : MI} {t : MT} {r : MR} {a b : Nat} {S : SS} {L : LW}
theorem CV.copy (hc : Cnt S) (h : CV i b S) (he : ∀ o k, usd o k → i' (a + o) k = i (b + o) k) : CV i' a S := by
  obtain ⟨⟨a1, a2, a3, a4, a5, a6, a7, a8, a9⟩, h2, h3, h4, h5, h6, h7, x, hx, h8, h9⟩ := h
  have w0 := hc.f8; have w1 := hc.b3; have w2 := hc.y5; have w3 := hc.d6
  have q0 : ∀ k, 7 ≤ k → k ≤ 15 → i' a k = i b k := fun k h1 h2 => he 0 k (Or.inl ⟨rfl, h1, h2⟩)
  refine ⟨⟨?_, ?_, ?_, ?_, ?_, ?_, ?_, ?_, ?_⟩, fun c hc => ?_, fun f hf => ?_, fun e he' => ?_, fun y hy => ?_, fun d hd => ?_, ?_, x, hx, ?_, fun g hg k hk => ?_⟩
  · rw [q0 _ (by decide) (by decide)]; exact a1
  · rw [q0 _ (by decide) (by decide)]; exact a2
  · rw [q0 _ (by decide) (by decide)]; exact a3
  · rw [q0 _ (by decide) (by decide)]; exact a4
  · rw [q0 _ (by decide) (by decide)]; exact a5
  · rw [q0 _ (by decide) (by decide)]; exact a6
  · rw [q0 _ (by decide) (by decide)]; exact a7
  · rw [q0 _ (by decide) (by decide)]; exact a8
  · rw [q0 _ (by decide) (by decide)]; exact a9
  · rw [he 1 c (by unfold usd; omega)]; exact h2 c hc
  · have q : ∀ k, k < 6 → i' (a + 3 + f) k = i (b + 3 + f) k := fun k hk => by rw [Nat.add_assoc, Nat.add_assoc]; exact he (3 + f) k (by unfold usd; omega)
    rw [q 0 (by decide), q 1 (by decide), q 2 (by decide), q 3 (by decide), q 4 (by decide), q 5 (by decide)]; exact h3 f hf
  · have q : ∀ k, k < 3 → i' (a + 12 + e) k = i (b + 12 + e) k := fun k hk => by rw [Nat.add_assoc, Nat.add_assoc]; exact he (12 + e) k (by unfold usd; omega)
    rw [q 0 (by decide), q 1 (by decide), q 2 (by decide)]; exact h4 e he'
  · have q : ∀ k, k < 4 → i' (a + 16 + y) k = i (b + 16 + y) k := fun k hk => by rw [Nat.add_assoc, Nat.add_assoc]; exact he (16 + y) k (by unfold usd; omega)
    rw [q 0 (by decide), q 1 (by decide), q 2 (by decide), q 3 (by decide)]; exact h5 y hy
  · have q : ∀ k, k < 2 → i' (a + 22 + d) k = i (b + 22 + d) k := fun k hk => by rw [Nat.add_assoc, Nat.add_assoc]; exact he (22 + d) k (by unfold usd; omega)
    rw [q 0 (by decide), q 1 (by decide)]; exact h6 d hd
  · rw [he 28 1 (by unfold usd; omega)]; exact h7
  · rw [he 28 2 (by unfold usd; omega)]; exact h8
  · rw [he 29 _ (by unfold usd; omega)]; exact h9 g hg k hk
theorem v_copyRows {m w v0 v1 : Nat} (hm : m ≤ 8) (hw : w ≤ 8) (hd : v0 + m < v1 + 1 ∨ v1 + m < v0 + 1) : Tt (f_Se_copyRows i v0 m w v1) (fun i' => ∀ c j, i' c j = if v1 + 1 ≤ c ∧ c < v1 + 1 + m ∧ j < w then i (v0 + c - v1) j else i c j) := by
  unfold f_Se_copyRows
  refine tt_bind (P1 := fun i' => ∀ c j, i' c j = if v1 + 1 ≤ c ∧ c < v1 + 1 + m ∧ j < w then i (v0 + c - v1) j else i c j)
    (tt_loop (fun q (s : Int32 × MI) => s.1 = nI q ∧ ∀ c j, s.2 c j = if v1 + 1 ≤ c ∧ c < v1 + 1 + q ∧ j < w then i (v0 + c - v1) j else i c j) m (by omega) ?_ ?_ ?_) ?_
  · rintro q hq ⟨x, i5⟩ ⟨e1, e2⟩
    dsimp only at e1 e2 ⊢
    subst e1
    rw [if_pos (nI_lt hq (by omega)), if_pos (nI_lt hq (by omega)), grd_nI hq (by omega), ix_nI (by omega), j_min, Option.bind_some, jmin_nI (by omega) (by omega), Nat.min_self]
    refine tt_grd2 (by simp) (tt_bnd (tt_some ⟨nI_1 q, fun c j => ?_⟩))
    show cpI i5 (v0 + 1 + q) 0 (v1 + 1 + q) 0 w c j = _
    unfold cpI
    by_cases hc : c = v1 + 1 + q ∧ j < w
    · rw [if_pos (by omega), if_pos (by omega), e2, if_neg (by omega)]
      congr 1 <;> omega
    · rw [if_neg (by omega), e2]
      by_cases hh : v1 + 1 ≤ c ∧ c < v1 + 1 + q ∧ j < w
      · rw [if_pos hh, if_pos (by omega)]
      · rw [if_neg hh, if_neg (by omega)]
  · rintro ⟨x, i5⟩ ⟨e1, e2⟩
    dsimp only at e1 e2 ⊢
    subst e1
    rw [if_neg (nI_nlt (Nat.le_refl _) (by omega))]
    exact tt_some e2
  · exact ⟨rfl, fun c j => by rw [if_neg (by omega)]⟩
  · rintro i3 hi3
    exact tt_some hi3
theorem cpI_o {i : MI} {a b n c j : Nat} (h : ¬ (c = b ∧ j < n)) : cpI i a 0 b 0 n c j = i c j := by unfold cpI; rw [if_neg (by omega)]
theorem cpI_s {i : MI} {a b n j : Nat} (h : j < n) : cpI i a 0 b 0 n b j = i a j := by
  unfold cpI
  rw [if_pos (by omega)]
  congr 1
  omega
set_option maxHeartbeats 1000000 in
theorem v_copyFrom (hc : Cnt S) (h : CV i b S) (hd : a + 37 ≤ b ∨ b + 37 ≤ a) : Tt (f_Se_copyFrom r i a b) (fun y => CV y.1 a S ∧ y.2 = wrR r a 16 (r b 16) ∧ ∀ c j, (c < a ∨ a + 31 ≤ c) → y.1 c j = i c j) := by
  unfold f_Se_copyFrom
  refine tt_bnd ?_
  refine tt_bind (v_copyRows (by decide) (by decide) (by omega)) ?_
  rintro i2 e2
  refine tt_bind (v_copyRows (by decide) (by decide) (by omega)) ?_
  rintro i3 e3
  refine tt_bind (v_copyRows (by decide) (by decide) (by omega)) ?_
  rintro i4 e4
  refine tt_bind (v_copyRows (by decide) (by decide) (by omega)) ?_
  rintro i5 e5
  have o5 : ∀ c j, (c < a ∨ a + 28 ≤ c) → i5 c j = i c j := fun c j hcj => by
    rw [e5, if_neg (by omega), e4, if_neg (by omega), e3, if_neg (by omega), e2, if_neg (by omega), cpI_o (by omega)]
  refine tt_bind (P1 := fun i6 => (∀ c j, c ≠ a + 28 → c ≠ a + 29 → i6 c j = i5 c j) ∧ (∀ j, j < 300 → i6 (a + 29) j = i5 (b + 29) j) ∧ i6 (a + 28) 1 = i5 (b + 28) 1 ∧ i6 (a + 28) 2 = i5 (b + 28) 2) ?_ ?_
  · unfold f_Lo_copyFrom
    refine tt_bnd (tt_bnd (tt_bnd (tt_some ⟨fun c j h1 h2 => ?_, fun j hj => ?_, ?_, ?_⟩)))
    · rw [wr_a h1, wr_a h1, cpI_o (by omega)]
    · rw [wr_a (by omega), wr_a (by omega), cpI_s hj]
    · rw [wr_k (by decide), wr_s, cpI_o (by omega)]
    · rw [wr_s, wr_a (by omega), cpI_o (by omega)]
  · rintro i6 ⟨x1, x2, x3, x4⟩
    have hba : b ≠ a := by omega
    refine tt_bnd (tt_bnd (tt_bnd (tt_bnd (tt_bnd (tt_bnd (tt_bnd (tt_bnd (tt_bnd (tt_bnd (tt_some ?_))))))))))
    simp only [wr_a hba]
    have ob : ∀ o j, o < 31 → i6 (b + o) j = i (b + o) j := fun o j ho => by rw [x1 _ _ (by omega) (by omega), o5 _ _ (by omega)]
    have oa : ∀ k, 7 ≤ k → k ≤ 15 → i6 b k = i b k := fun k _ _ => ob 0 k (by decide)
    refine ⟨h.copy hc (fun o k hu => ?_), trivial, fun c j hcj => ?_⟩
    · by_cases ho : o = 0
      · subst ho
        have hk : 7 ≤ k ∧ k ≤ 15 := by unfold usd at hu; omega
        rw [Nat.add_zero, Nat.add_zero, ← oa k hk.1 hk.2]
        rcases (show k = 7 ∨ k = 8 ∨ k = 9 ∨ k = 10 ∨ k = 11 ∨ k = 12 ∨ k = 13 ∨ k = 14 ∨ k = 15 by omega) with rfl | rfl | rfl | rfl | rfl | rfl | rfl | rfl | rfl
        · rw [wr_k (by decide), wr_k (by decide), wr_k (by decide), wr_k (by decide), wr_k (by decide), wr_k (by decide), wr_k (by decide), wr_k (by decide), wr_s]
        · rw [wr_k (by decide), wr_k (by decide), wr_k (by decide), wr_k (by decide), wr_k (by decide), wr_k (by decide), wr_k (by decide), wr_s]
        · rw [wr_k (by decide), wr_k (by decide), wr_k (by decide), wr_k (by decide), wr_k (by decide), wr_k (by decide), wr_s]
        · rw [wr_k (by decide), wr_k (by decide), wr_k (by decide), wr_k (by decide), wr_k (by decide), wr_s]
        · rw [wr_k (by decide), wr_k (by decide), wr_k (by decide), wr_k (by decide), wr_s]
        · rw [wr_k (by decide), wr_k (by decide), wr_k (by decide), wr_s]
        · rw [wr_k (by decide), wr_k (by decide), wr_s]
        · rw [wr_k (by decide), wr_s]
        · rw [wr_s]
      · have hoa : a + o ≠ a := by omega
        simp only [wr_a hoa]
        by_cases h29 : o = 29
        · subst h29
          rw [x2 k (by unfold usd at hu; omega), o5 _ _ (by omega)]
        · by_cases h28 : o = 28
          · subst h28
            rcases (show k = 1 ∨ k = 2 by unfold usd at hu; omega) with rfl | rfl
            · rw [x3, o5 _ _ (by omega)]
            · rw [x4, o5 _ _ (by omega)]
          · rw [x1 _ _ (by omega) (by omega), e5]
            unfold usd at hu
            by_cases c5 : 22 ≤ o ∧ o < 28
            · rw [if_pos (by omega), e4, if_neg (by omega), e3, if_neg (by omega), e2, if_neg (by omega), cpI_o (by omega)]
              congr 1; omega
            · rw [if_neg (by omega), e4]
              by_cases c4 : 16 ≤ o ∧ o < 21
              · rw [if_pos (by omega), e3, if_neg (by omega), e2, if_neg (by omega), cpI_o (by omega)]
                congr 1; omega
              · rw [if_neg (by omega), e3]
                by_cases c3 : 12 ≤ o ∧ o < 15
                · rw [if_pos (by omega), e2, if_neg (by omega), cpI_o (by omega)]
                  congr 1; omega
                · rw [if_neg (by omega), e2]
                  by_cases c2 : 3 ≤ o ∧ o < 11
                  · rw [if_pos (by omega), cpI_o (by omega)]
                    congr 1; omega
                  · obtain rfl : o = 1 := by omega
                    rw [if_neg (by omega), cpI_s (by omega)]
    · have hca : c ≠ a := by omega
      simp only [wr_a hca]
      rw [x1 _ _ (by omega) (by omega), o5 _ _ (by omega)]
/-- the reference's loops that copy -/
theorem m_copy {A B la lb N : Nat} (hAB : A ≠ B) (h1 : N ≤ la) (h2 : N ≤ lb) (hl : la ≤ 100000) (hlb : lb ≤ 100000) : Tt (itr (fun (s : Int32 × MI) => if s.1 < nI N then grd s.1 la (grd s.1 lb (bnd (wr s.2 B (ix s.1) (s.2 A (ix s.1))) (fun i_11 => some (Sum.inl ((s.1 + (1 : Int32)), i_11))))) else some (Sum.inr s.2)) 1000000 ((0 : Int32), i)) (fun i' => ∀ c j, i' c j = if c = B ∧ j < N then i A j else i c j) := by
  refine tt_loop (fun q (s : Int32 × MI) => s.1 = nI q ∧ ∀ c j, s.2 c j = if c = B ∧ j < q then i A j else i c j) N (by omega) ?_ ?_ ?_
  · rintro q hq ⟨x, i5⟩ ⟨e1, e2⟩
    dsimp only at e1 e2 ⊢
    subst e1
    rw [if_pos (nI_lt hq (by omega)), grd_nI (by omega) (by omega), grd_nI (by omega) (by omega), ix_nI (by omega)]
    refine tt_bnd (tt_some ⟨nI_1 q, fun c j => ?_⟩)
    show wr i5 B q (i5 A q) c j = _
    by_cases hc : c = B ∧ j = q
    · obtain ⟨rfl, rfl⟩ := hc
      rw [wr_s, if_pos ⟨rfl, by omega⟩, e2, if_neg (by omega)]
    · have : wr i5 B q (i5 A q) c j = i5 c j := if_neg hc
      rw [this, e2]
      by_cases hh : c = B ∧ j < q
      · rw [if_pos hh, if_pos (by omega)]
      · rw [if_neg hh, if_neg (by omega)]
  · rintro ⟨x, i5⟩ ⟨e1, e2⟩
    dsimp only at e1 e2 ⊢
    subst e1
    rw [if_neg (nI_nlt (Nat.le_refl _) (by omega))]
    exact tt_some e2
  · exact ⟨rfl, fun c j => by rw [if_neg (by omega)]⟩
theorem m_keepsAll : Tt (f_Mo_keepsAll i) (fun i' => ∀ c j, i' c j = if c = 1642 ∧ j < 417 then i 1639 j else i c j) := by
  unfold f_Mo_keepsAll
  dsimp only
  refine tt_bind (m_copy (A := 1639) (B := 1642) (N := 417) (by decide) (by decide) (by decide) (by decide) (by decide)) ?_
  rintro i' hi
  exact tt_some hi
theorem m_bringsBack : Tt (f_Mo_bringsBack i) (fun i' => ∀ c j, i' c j = if c = 1639 ∧ j < 417 then i 1642 j else i c j) := by
  unfold f_Mo_bringsBack
  dsimp only
  refine tt_bind (m_copy (A := 1642) (B := 1639) (N := 417) (by decide) (by decide) (by decide) (by decide) (by decide)) ?_
  rintro i' hi
  exact tt_some hi
end COPY
