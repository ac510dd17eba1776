/-! ===== masks of eight; loops by measure; the first that fits ===== -/
theorem tt_loopm {σ α : Type} {P : α → Prop} {b : σ → Option (σ ⊕ α)} (Inv : σ → Prop) (μ : σ → Nat) (hs : ∀ s, Inv s → Tt (b s) (lpP (fun s' => Inv s' ∧ μ s' < μ s) P)) : ∀ K (s0 : σ), μ s0 < K → Inv s0 → Tt (itr b K s0) P
  | 0, s0, h, _ => absurd h (Nat.not_lt_zero _)
  | K + 1, s0, h, hi => by
    obtain ⟨z, hz, hp⟩ := hs s0 hi
    unfold itr
    rw [hz]
    cases z with
    | inl s' => exact tt_loopm Inv μ hs K s' (by have := hp.2; omega) hp.1
    | inr y => exact ⟨y, rfl, hp⟩
theorem tbm (m : Nat) {j : Nat} (hj : j < 32) : bt (nI m) j = m.testBit j := by
  show (BitVec.ofNat 32 m).getLsbD j = _
  rw [BitVec.getLsbD_ofNat, decide_eq_true hj, Bool.true_and]
theorem tb_big {m j : Nat} (hm : m < 256) (hj : 8 ≤ j) : m.testBit j = false := Nat.testBit_lt_two_pow (Nat.lt_of_lt_of_le hm (Nat.pow_le_pow_right (n := 2) (by decide) hj))
theorem m_ext {m k : Nat} (hm : m < 256) (hk : k < 256) (h : ∀ j, j < 8 → m.testBit j = k.testBit j) : m = k := by
  refine Nat.eq_of_testBit_eq (fun j => ?_)
  by_cases hj : j < 8
  · exact h j hj
  · rw [tb_big hm (by omega), tb_big hk (by omega)]
theorem and_nI (m k : Nat) : nI m &&& nI k = nI (m &&& k) := by
  refine b_ext (fun j hj => ?_)
  rw [b_and, tbm m hj, tbm k hj, tbm _ hj, Nat.testBit_and]
theorem or_nI (m k : Nat) : nI m ||| nI k = nI (m ||| k) := by
  refine b_ext (fun j hj => ?_)
  rw [b_or, tbm m hj, tbm k hj, tbm _ hj, Nat.testBit_or]
theorem shl1n : ∀ f, f < 9 → shl 1 (nI f) = nI (2 ^ f) := by decide +kernel
def setb (m f : Nat) : Nat := m ||| 2 ^ f
def dif (m k : Nat) : Nat := bits (fun j => m.testBit j && !k.testBit j) 8
def delb (m f : Nat) : Nat := dif m (2 ^ f)
theorem dif_t (m k : Nat) (j : Nat) : (dif m k).testBit j = (decide (j < 8) && (m.testBit j && !k.testBit j)) := bits_test _ 8 j
theorem dif_lt (m k : Nat) : dif m k < 256 := bits_256 _ (by decide)
theorem setb_t (m f j : Nat) : (setb m f).testBit j = (m.testBit j || decide (f = j)) := by
  unfold setb; rw [Nat.testBit_or, Nat.testBit_two_pow]
theorem setb_lt {m f : Nat} (hm : m < 256) (hf : f < 8) : setb m f < 256 := Nat.or_lt_two_pow (n := 8) hm (Nat.pow_lt_pow_right (by decide) hf)
theorem setb_ltn {m f n : Nat} (hm : m < 2 ^ n) (hf : f < n) : setb m f < 2 ^ n := Nat.or_lt_two_pow hm (Nat.pow_lt_pow_right (by decide) hf)
theorem delb_t (m f j : Nat) : (delb m f).testBit j = (decide (j < 8) && (m.testBit j && !decide (f = j))) := by
  unfold delb; rw [dif_t, Nat.testBit_two_pow]
theorem delb_lt (m f : Nat) : delb m f < 256 := dif_lt m _
theorem or_setb {m f : Nat} (hf : f < 8) : nI m ||| shl 1 (nI f) = nI (setb m f) := by
  rw [shl1n f (by omega), or_nI]; rfl
theorem dif_nI {m : Nat} (hm : m < 256) (k : Nat) : nI m &&& (nI k ^^^ -1) = nI (dif m k) := by
  refine b_ext (fun j hj => ?_)
  rw [b_and, b_xor, b_m1 j hj, tbm m hj, tbm k hj, tbm _ hj, dif_t]
  by_cases h : j < 8
  · rw [decide_eq_true h, Bool.true_and, Bool.xor_true]
  · rw [tb_big hm (by omega), Bool.false_and, Bool.false_and, Bool.and_false]
theorem delb_nI {m f : Nat} (hm : m < 256) (hf : f < 8) : nI m &&& (shl 1 (nI f) ^^^ -1) = nI (delb m f) := by
  rw [shl1n f (by omega), dif_nI hm]; rfl
theorem full_nI {n : Nat} (hn : n ≤ 8) : shl 1 (nI n) - 1 = nI (2 ^ n - 1) := by
  have h := Nat.two_pow_pos n
  rw [shl1n n (by omega), show 2 ^ n = (2 ^ n - 1) + 1 by omega, nI_pred]; rfl
theorem mo_hasm {m f : Nat} (hm : m < 256) (hf : f < 8) : f_Mo_has (nI m) (nI f) = some (if m.testBit f = true then 1 else 0) := by
  have hb : bt (shr (nI m) (nI f)) 0 = m.testBit f := by
    show bt ((nI m) >>> (nI f &&& 31)) 0 = _
    rw [b_sshr f (by omega) (nI m) (by decide), if_pos (by omega), Nat.add_zero, tbm m (by omega)]
  have h1 : ∀ i, bt 1 i = decide (i = 0) := by
    intro i
    show bt (nI 1) i = _
    by_cases hi : i < 32
    · rw [tbm 1 hi, show (1 : Nat) = 2 ^ 0 from rfl, Nat.testBit_two_pow]
      by_cases e : i = 0
      · subst e; rfl
      · rw [decide_eq_false (fun q => e q.symm), decide_eq_false e]
    · rw [b_big (by omega), decide_eq_false (by omega)]
  have hv : shr (nI m) (nI f) &&& 1 = if m.testBit f = true then 1 else 0 := by
    refine b_ext (fun j _ => ?_)
    rw [b_and, h1]
    by_cases e : j = 0
    · subst e
      rw [hb]
      cases m.testBit f <;> rfl
    · rw [decide_eq_false e, Bool.and_false]
      cases m.testBit f
      · exact (b_0 j).symm
      · show false = bt 1 j
        rw [h1, decide_eq_false e]
  unfold f_Mo_has
  rw [hv]
  cases m.testBit f <;> rfl
theorem bit_sh {m f : Nat} (hm : m < 256) (hf : f < 8) : (shr (nI m) (nI f)) &&& 1 = 0 ↔ ¬ m.testBit f = true := by rw [bit_shr m hm f hf]; exact Bool.not_eq_true _ ▸ Iff.rfl
theorem setb_id {m f : Nat} (h : m.testBit f = true) : setb m f = m := by
  refine Nat.eq_of_testBit_eq (fun j => ?_)
  rw [setb_t]
  by_cases e : f = j
  · subst e; rw [h]; rfl
  · rw [decide_eq_false e, Bool.or_false]
/-! the greatest of some -/
theorem jmax_if (x y : Int32) : jmax x y = if x < y then y else x := by unfold jmax f_J_max; split <;> rfl
theorem jmax_ge {x y : Int32} (h : ¬ x < 0) : ¬ jmax x y < 0 := by
  rw [jmax_if]
  split
  · rename_i h2
    rw [Int32.lt_iff_toInt_lt] at h h2 ⊢
    omega
  · exact h
theorem jmax_m1 {x : Int32} (h : ¬ x < 0) : jmax x (-1) = x := by
  rw [jmax_if, if_neg]
  intro h2
  rw [Int32.lt_iff_toInt_lt] at h h2
  have e1 : (0 : Int32).toInt = 0 := by decide
  have e2 : (-1 : Int32).toInt = -1 := by decide
  omega
theorem jmax_0 {x : Int32} (h : ¬ x < 0) : jmax 0 x = x := by
  rw [jmax_if]
  by_cases c : (0 : Int32) < x
  · rw [if_pos c]
  · rw [if_neg c]
    rw [Int32.lt_iff_toInt_lt] at h c
    exact Int32.toInt_inj.mp (by omega)
theorem ne_m1 {x : Int32} (h : ¬ x < 0) : ¬ (-1 : Int32) = x := fun e => h (by rw [← e]; decide)
/-- the greatest of x0 and of those v f whose f is in p -/
def mxf (p : Nat → Bool) (v : Nat → Int32) (n : Nat) (x0 : Int32) : Int32 := fo (fun f x => if p f = true then jmax x (v f) else x) n x0
theorem mxf_ge {p : Nat → Bool} {v : Nat → Int32} {x0 : Int32} (h : ¬ x0 < 0) : ∀ n, ¬ mxf p v n x0 < 0
  | 0 => h
  | n + 1 => by
    show ¬ (if p n = true then jmax (mxf p v n x0) (v n) else mxf p v n x0) < 0
    split
    · exact jmax_ge (mxf_ge h n)
    · exact mxf_ge h n
theorem mxf_at {p : Nat → Bool} {v : Nat → Int32} {x0 : Int32} : ∀ n, mxf p v n x0 = x0 ∨ ∃ f, f < n ∧ p f = true ∧ v f = mxf p v n x0
  | 0 => Or.inl rfl
  | n + 1 => by
    show (if p n = true then jmax (mxf p v n x0) (v n) else mxf p v n x0) = x0 ∨ ∃ f, f < n + 1 ∧ p f = true ∧ v f = (if p n = true then jmax (mxf p v n x0) (v n) else mxf p v n x0)
    have ih := mxf_at (p := p) (v := v) (x0 := x0) n
    by_cases c : p n = true
    · rw [if_pos c, jmax_if]
      by_cases c2 : mxf p v n x0 < v n
      · rw [if_pos c2]; exact Or.inr ⟨n, by omega, c, rfl⟩
      · rw [if_neg c2]
        rcases ih with h | ⟨f, h1, h2, h3⟩
        · exact Or.inl h
        · exact Or.inr ⟨f, by omega, h2, h3⟩
    · rw [if_neg c]
      rcases ih with h | ⟨f, h1, h2, h3⟩
      · exact Or.inl h
      · exact Or.inr ⟨f, by omega, h2, h3⟩
theorem mxf_ext {p : Nat → Bool} {v : Nat → Int32} {x0 : Int32} {n : Nat} (h : ∀ f, n ≤ f → p f = false) : ∀ k, mxf p v (n + k) x0 = mxf p v n x0
  | 0 => rfl
  | k + 1 => by
    show (if p (n + k) = true then jmax (mxf p v (n + k) x0) (v (n + k)) else mxf p v (n + k) x0) = _
    rw [if_neg (by rw [h (n + k) (by omega)]; decide)]
    exact mxf_ext h k
theorem mxf_s {p : Nat → Bool} {v : Nat → Int32} {x0 : Int32} (n : Nat) : mxf p v (n + 1) x0 = if p n = true then jmax (mxf p v n x0) (v n) else mxf p v n x0 := rfl
theorem mxf_congr {p p' : Nat → Bool} {v v' : Nat → Int32} {x0 : Int32} (n : Nat) (h : ∀ f, f < n → p f = p' f ∧ (p f = true → v f = v' f)) : mxf p v n x0 = mxf p' v' n x0 := by
  induction n with
  | zero =>
    show x0 = x0
    rfl
  | succ n ih =>
    obtain ⟨h1, h2⟩ := h n (by omega)
    rw [mxf_s, mxf_s, ih (fun f hf => h f (by omega)), ← h1]
    by_cases c : p n = true
    · rw [if_pos c, if_pos c, h2 c]
    · rw [if_neg c, if_neg c]
/-- the first below n in p, or n -/
def ffs (p : Nat → Bool) : Nat → Nat → Nat
  | 0, j => j
  | n + 1, j => if p j = true then j else ffs p n (j + 1)
theorem ffs_eq {p : Nat → Bool} : ∀ n j k, (∀ f, j ≤ f → f < k → p f = false) → j ≤ k → k ≤ j + n → (k < j + n → p k = true) → ffs p n j = k
  | 0, j, k, _, h1, h2, _ => by show j = k; omega
  | n + 1, j, k, h0, h1, h2, h3 => by
    show (if p j = true then j else ffs p n (j + 1)) = k
    by_cases e : j = k
    · subst e
      rw [if_pos (h3 (by omega))]
    · rw [if_neg (by rw [h0 j (Nat.le_refl j) (by omega)]; decide)]
      exact ffs_eq n (j + 1) k (fun f hf hk => h0 f (by omega) hk) (by omega) (by omega) (fun q => h3 (by omega))
theorem ffs_sp (p : Nat → Bool) : ∀ n j, j ≤ ffs p n j ∧ ffs p n j ≤ j + n ∧ (∀ f, j ≤ f → f < ffs p n j → p f = false) ∧ (ffs p n j < j + n → p (ffs p n j) = true)
  | 0, j => ⟨Nat.le_refl j, Nat.le_refl j, fun f h1 h2 => absurd h2 (Nat.not_lt.mpr h1), fun h => absurd h (Nat.lt_irrefl j)⟩
  | n + 1, j => by
    have ih := ffs_sp p n (j + 1)
    have e : ffs p (n + 1) j = if p j = true then j else ffs p n (j + 1) := rfl
    by_cases c : p j = true
    · rw [if_pos c] at e
      rw [e]
      exact ⟨Nat.le_refl j, by omega, fun f h1 h2 => absurd h2 (Nat.not_lt.mpr h1), fun _ => c⟩
    · rw [if_neg c] at e
      rw [e]
      obtain ⟨h1, h2, h3, h4⟩ := ih
      refine ⟨by omega, by omega, fun f g1 g2 => ?_, fun h => h4 (by omega)⟩
      by_cases e2 : f = j
      · subst e2; exact Bool.eq_false_iff.mpr c
      · exact h3 f (by omega) g2
