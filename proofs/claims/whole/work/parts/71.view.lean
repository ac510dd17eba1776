/-! ===== the state, as the reference lays it; how the class's cells and the reference's row show it ===== -/
/-- scalars (0), currents (1), fish (2), boats (3), buyers (4), the dead (5), rows of the log (6) -/
abbrev SS : Type := Nat → Nat → Nat → Int32
def su (S : SS) (x y z : Nat) (v : Int32) : SS := fun a b c => if a = x ∧ b = y ∧ c = z then v else S a b c
def nf (S : SS) : Nat := (S 0 0 0).toNatClampNeg
def nb (S : SS) : Nat := (S 0 0 1).toNatClampNeg
def ny (S : SS) : Nat := (S 0 0 2).toNatClampNeg
def nd (S : SS) : Nat := (S 0 0 3).toNatClampNeg
def nl (S : SS) : Nat := (S 0 0 9).toNatClampNeg
def Cnt (S : SS) : Prop := (S 0 0 0 = nI (nf S) ∧ nf S ≤ 8) ∧ (S 0 0 1 = nI (nb S) ∧ nb S ≤ 3) ∧ (S 0 0 2 = nI (ny S) ∧ ny S ≤ 5) ∧ (S 0 0 3 = nI (nd S) ∧ nd S ≤ 6) ∧ (S 0 0 9 = nI (nl S) ∧ nl S ≤ 60)
/-- what the state's numbers are -/
def Wf (S : SS) : Prop := Cnt S ∧ (∀ c, c < 25 → ∃ w, w < 5 ∧ S 1 0 c = nI w) ∧
  (∀ f, f < nf S → (∃ k, k < 4 ∧ S 2 f 0 = nI k) ∧ (∃ z, 1 ≤ z ∧ z ≤ 9 ∧ S 2 f 1 = nI z) ∧ (∃ z, z ≤ 99 ∧ S 2 f 2 = nI z) ∧ ((S 2 f 3 = 0 ∧ ∃ c, c < 25 ∧ S 2 f 4 = nI c) ∨ (S 2 f 3 = 1 ∧ ∃ b, b < nb S ∧ S 2 f 4 = nI b) ∨ (S 2 f 3 = 2 ∧ S 2 f 4 = 0) ∨ (S 2 f 3 = 3 ∧ S 2 f 4 = 0))) ∧
  (∀ b, b < nb S → (∃ c, c < 25 ∧ S 3 b 0 = nI c) ∧ (S 3 b 1 = -1 ∨ ∃ c, c < 25 ∧ S 3 b 1 = nI c) ∧ (∃ z, 1 ≤ z ∧ z ≤ 9 ∧ S 3 b 2 = nI z)) ∧
  (∀ y, y < ny S → (∃ k, k < 4 ∧ S 4 y 0 = nI k) ∧ (∃ z, z ≤ 999 ∧ S 4 y 1 = nI z) ∧ (∃ z, z ≤ 99 ∧ S 4 y 2 = nI z) ∧ (∃ z, z ≤ 100 ∧ S 4 y 3 = nI z)) ∧
  (∀ d, d < nd S → (∃ m, m < 16 ∧ S 5 d 0 = nI m) ∧ (∃ z, z ≤ 99 ∧ S 5 d 1 = nI z)) ∧
  (∃ z, z ≤ 999 ∧ S 0 0 6 = nI z) ∧ (∃ z, z ≤ 9999 ∧ S 0 0 7 = nI z) ∧ (∃ z, z ≤ 9999 ∧ S 0 0 8 = nI z) ∧ (∃ z, z ≤ 12 ∧ S 0 0 4 = nI z)
def spo (st pl : Int32) : Int32 := if st = 0 then pl else -1
def abo (st pl : Int32) : Int32 := if st = 1 then pl else -1
/-- the class's sea at a -/
def CV (i : MI) (a : Nat) (S : SS) : Prop :=
  (i a 7 = S 0 0 0 ∧ i a 8 = S 0 0 1 ∧ i a 9 = S 0 0 2 ∧ i a 10 = S 0 0 3 ∧ i a 11 = S 0 0 4 ∧ i a 12 = S 0 0 6 ∧ i a 13 = S 0 0 7 ∧ i a 14 = S 0 0 8 ∧ i a 15 = S 0 0 10) ∧
  (∀ c, c < 25 → i (a + 1) c = S 1 0 c) ∧
  (∀ f, f < nf S → i (a + 3 + f) 0 = S 2 f 0 ∧ i (a + 3 + f) 1 = S 2 f 1 ∧ i (a + 3 + f) 2 = S 2 f 2 ∧ i (a + 3 + f) 3 = S 2 f 3 ∧ i (a + 3 + f) 4 = spo (S 2 f 3) (S 2 f 4) ∧ i (a + 3 + f) 5 = abo (S 2 f 3) (S 2 f 4)) ∧
  (∀ b, b < nb S → i (a + 12 + b) 0 = S 3 b 0 ∧ i (a + 12 + b) 1 = S 3 b 1 ∧ i (a + 12 + b) 2 = S 3 b 2) ∧
  (∀ y, y < ny S → i (a + 16 + y) 0 = S 4 y 0 ∧ i (a + 16 + y) 1 = S 4 y 1 ∧ i (a + 16 + y) 2 = S 4 y 2 ∧ i (a + 16 + y) 3 = S 4 y 3) ∧
  (∀ d, d < nd S → i (a + 22 + d) 0 = S 5 d 0 ∧ i (a + 22 + d) 1 = S 5 d 1) ∧
  (i (a + 28) 1 = S 0 0 9 ∧ ∃ x, x < 60 ∧ i (a + 28) 2 = nI x ∧ ∀ g, g < nl S → ∀ k, k < 5 → i (a + 29) ((x + 59 - g) % 60 * 5 + k) = S 6 g k)
/-- the reference's row -/
def MV (i : MI) (S : SS) : Prop :=
  (∀ k, k < 11 → k ≠ 5 → i 1639 k = S 0 0 k) ∧ (∀ c, c < 25 → i 1639 (11 + c) = S 1 0 c) ∧ (∀ f, f < 8 → ∀ k, k < 5 → i 1639 (36 + 5 * f + k) = S 2 f k) ∧ (∀ b, b < 3 → ∀ k, k < 3 → i 1639 (76 + 3 * b + k) = S 3 b k) ∧
  (∀ y, y < 5 → ∀ k, k < 4 → i 1639 (85 + 4 * y + k) = S 4 y k) ∧ (∀ d, d < 6 → ∀ k, k < 2 → i 1639 (105 + 2 * d + k) = S 5 d k) ∧ (∀ g, g < 60 → ∀ k, k < 5 → i 1639 (117 + 5 * g + k) = S 6 g k)
section VIEW
variable {i : MI} {a : Nat} {S : SS}
theorem Cnt.f (h : Cnt S) : S 0 0 0 = nI (nf S) := h.1.1
theorem Cnt.b (h : Cnt S) : S 0 0 1 = nI (nb S) := h.2.1.1
theorem Cnt.y (h : Cnt S) : S 0 0 2 = nI (ny S) := h.2.2.1.1
theorem Cnt.d (h : Cnt S) : S 0 0 3 = nI (nd S) := h.2.2.2.1.1
theorem Cnt.l (h : Cnt S) : S 0 0 9 = nI (nl S) := h.2.2.2.2.1
theorem Cnt.f8 (h : Cnt S) : nf S ≤ 8 := h.1.2
theorem Cnt.b3 (h : Cnt S) : nb S ≤ 3 := h.2.1.2
theorem Cnt.y5 (h : Cnt S) : ny S ≤ 5 := h.2.2.1.2
theorem Cnt.d6 (h : Cnt S) : nd S ≤ 6 := h.2.2.2.1.2
theorem Cnt.l60 (h : Cnt S) : nl S ≤ 60 := h.2.2.2.2.2
/-- sets of fish by a loop -/
theorem itr_bits {b : Int32 × Int32 → Option ((Int32 × Int32) ⊕ Int32)} (p : Nat → Bool) (n : Nat) (hn : n ≤ 8) (hs : ∀ j, j < n → ∀ m, b (nI m, nI j) = some (.inl (if p j = true then nI m ||| shl 1 (nI j) else nI m, nI (j + 1)))) (he : ∀ m, b (nI m, nI n) = some (.inr (nI m))) : itr b 1000000 (nI 0, nI 0) = some (nI (bits p n)) := by
  have h := tt_itr (P := fun z => z = nI (bits p n)) (b := b) (s0 := (nI 0, nI 0)) (fun j s => s = (nI (bits p j), nI j)) n 1000000 (by omega) (fun j hj s hi => ?_) (fun s hi => ⟨_, by rw [hi]; exact he _, rfl⟩) rfl
  · obtain ⟨z, hz, rfl⟩ := h
    exact hz
  · refine Or.inl ⟨_, by rw [hi]; exact hs j hj _, ?_⟩
    rw [bits_succ]
    by_cases hp : p j = true
    · rw [if_pos hp, if_pos hp, or_bit j (by omega) _ (bits_lt p j)]
    · rw [if_neg hp, if_neg hp]
def plc (S : SS) (p : Int32) : Nat := bits (fun f => decide (S 2 f 3 = p)) (nf S)
def abd (S : SS) (b : Int32) : Nat := bits (fun f => decide (S 2 f 3 = 1 ∧ S 2 f 4 = b)) (nf S)
theorem v_placed (hc : Cnt S) (h : CV i a S) (p : Int32) : f_Se_placed i a p = some (nI (plc S p)) := by
  unfold f_Se_placed
  have h8 := hc.f8
  rw [show (((0 : Int32), (0 : Int32)) : Int32 × Int32) = (nI 0, nI 0) from rfl, itr_bits (fun f => decide (S 2 f 3 = p)) (nf S) h8]
  · rfl
  · intro j hj m
    have h2 : ix (nI j) = j := ix_nI (by omega)
    dsimp only
    rw [h.1.1, hc.f, if_pos (nI_lt hj (by omega)), grd_nI (by omega) (by omega), h2, (h.2.2.1 j hj).2.2.2.1]
    by_cases hp : S 2 j 3 = p <;> simp [hp, nI_succ]
  · intro m
    dsimp only
    rw [h.1.1, hc.f, if_neg (nI_nlt (Nat.le_refl _) (by omega))]
theorem m_of (h : MV i S) {f k : Nat} (hf : f < 8) (hk : k < 5) : f_Mo_of i (nI f) (nI k) = some (S 2 f k) := by
  have e : (36 : Int32) + (5 : Int32) * nI f + nI k = nI (36 + 5 * f + k) := by
    rw [lit_nI 36, lit_nI 5, mul_nI, nI_add, nI_add]
  unfold f_Mo_of f_Mo_fishAt
  simp only [Option.bind_some, e]
  rw [grd_nI (by omega) (by omega), ix_nI (by omega), h.2.2.1 f hf k hk]
theorem m_fishes (h : MV i S) : f_Mo_fishes i = some (S 0 0 0) := by
  unfold f_Mo_fishes
  rw [h.1 0 (by decide) (by decide)]
theorem m_allThat (hc : Cnt S) (h : MV i S) (p : Int32) : f_Mo_allThat i p = some (nI (plc S p)) := by
  unfold f_Mo_allThat
  have h8 := hc.f8
  rw [show (((0 : Int32), (0 : Int32)) : Int32 × Int32) = (nI 0, nI 0) from rfl, itr_bits (fun f => decide (S 2 f 3 = p)) (nf S) h8]
  · rfl
  · intro j hj m
    dsimp only
    rw [m_fishes h, hc.f, Option.bind_some, if_pos (nI_lt hj (by omega)), lit_nI 3, m_of h (by omega) (by omega), Option.bind_some]
    by_cases hp : S 2 j 3 = p <;> simp [hp, nI_succ]
  · intro m
    dsimp only
    rw [m_fishes h, hc.f, Option.bind_some, if_neg (nI_nlt (Nat.le_refl _) (by omega))]
end VIEW
