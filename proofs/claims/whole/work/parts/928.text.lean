/-! ===== words, the text and its tokens ===== -/
/-- the program's strings (written by wip/gen) -/
def STC : List (List Nat) := [[116, 104, 101, 32, 116, 101, 120, 116, 32, 105, 115, 32, 119, 114, 111, 110, 103], [99, 117, 114, 114, 101, 110, 116], [108, 101, 102, 116], [114, 105, 103, 104, 116], [117, 112], [100, 111, 119, 110], [115, 116, 105, 108, 108], [102, 105, 115, 104], [116, 101, 108, 108], [103, 111, 100], [104, 111, 114, 115, 101], [115, 97, 121, 105, 110, 103], [97, 116], [115, 105, 122, 101], [102, 114, 101, 115, 104], [98, 111, 97, 116], [104, 111, 108, 100], [104, 101, 97, 100, 115], [98, 117, 121, 101, 114], [109, 111, 110, 101, 121], [108, 101, 97, 115, 116], [107, 101, 101, 110], [100, 101, 97, 100], [98, 114, 101, 97, 116, 104], [105, 99, 101], [100, 97, 121], [116, 104, 101, 114, 101, 32, 97, 114, 101, 32, 97, 115, 32, 109, 97, 110, 121, 32, 116, 101, 120, 116, 115, 32, 97, 115, 32, 99, 97, 110, 32, 98, 101], [107, 101, 101, 112], [116, 117, 114, 110], [100, 101, 97, 114], [105, 102], [111, 114], [97, 110, 100], [110, 111, 116], [105, 99, 101, 100], [115, 108, 97, 98], [98, 105, 103], [102, 105, 115, 104], [107, 105, 110, 100], [115, 105, 122, 101], [102, 114, 101, 115, 104], [105, 99, 101], [108, 121, 105, 110, 103], [100, 97, 121], [110, 111, 32, 115, 117, 99, 104, 32, 99, 101, 108, 108], [110, 111, 32, 115, 117, 99, 104, 32, 119, 104, 97, 116], [110, 111, 32, 115, 117, 99, 104, 32, 102, 105, 115, 104], [110, 111, 32, 115, 117, 99, 104, 32, 98, 111, 97, 116], [110, 111, 32, 115, 117, 99, 104, 32, 98, 117, 121, 101, 114], [110, 111, 32, 115, 117, 99, 104, 32, 100, 101, 97, 100, 32, 111, 110, 101], [110, 111, 32, 115, 117, 99, 104, 32, 110, 117, 109, 98, 101, 114], [105, 116, 32, 105, 115, 32, 110, 111, 116, 32, 111, 110, 32, 116, 104, 101, 32, 115, 108, 97, 98], [110, 111, 32, 115, 117, 99, 104, 32, 107, 105, 110, 100], [116, 104, 101, 114, 101, 32, 97, 114, 101, 32, 97, 115, 32, 109, 97, 110, 121, 32, 102, 105, 115, 104, 32, 97, 115, 32, 99, 97, 110, 32, 98, 101], [105, 116, 32, 105, 115, 32, 110, 101, 105, 116, 104, 101, 114, 32, 105, 110, 32, 97, 32, 98, 111, 97, 116, 32, 110, 111, 114, 32, 111, 110, 32, 116, 104, 101, 32, 115, 108, 97, 98], [116, 104, 101, 32, 112, 114, 105, 99, 101, 32, 105, 115, 32, 97, 98, 111, 118, 101, 32, 116, 104, 101, 32, 109, 111, 110, 101, 121], [116, 104, 101, 32, 116, 97, 112, 101, 32, 104, 97, 115, 32, 110, 111, 32, 114, 111, 119, 115, 32, 111, 102, 32, 100, 97, 121, 32, 97, 110, 100, 32, 102, 114, 101, 115, 104], [99, 117, 114, 114, 101, 110, 116], [108, 101, 102, 116], [114, 105, 103, 104, 116], [117, 112], [100, 111, 119, 110], [115, 116, 105, 108, 108], [102, 105, 115, 104], [116, 101, 108, 108], [103, 111, 100], [104, 111, 114, 115, 101], [115, 97, 121, 105, 110, 103], [97, 116], [115, 105, 122, 101], [102, 114, 101, 115, 104], [98, 111, 97, 116], [104, 111, 108, 100], [104, 101, 97, 100, 115], [98, 117, 121, 101, 114], [109, 111, 110, 101, 121], [108, 101, 97, 115, 116], [107, 101, 101, 110], [100, 101, 97, 100], [98, 114, 101, 97, 116, 104], [105, 99, 101], [100, 97, 121], [107, 101, 101, 112], [116, 117, 114, 110], [100, 101, 97, 114], [105, 102], [110, 111, 116], [105, 99, 101, 100], [115, 108, 97, 98], [98, 105, 103], [107, 105, 110, 100], [108, 121, 105, 110, 103], [97, 110, 100], [111, 114]]
def wch (w : Nat) : List Nat := (STC[(w - 2) / 2]?).getD []
def wln (w : Nat) : Nat := (wch w).length
def wc (w j : Nat) : Nat := ((wch w)[j]?).getD 0
def SV (t : MT) (i : MI) : Prop := ∀ k, k < 94 → i (2 * k + 2) 1 = 0 ∧ (wln (2 * k + 2) ≤ (t (2 * k + 3)).2 ∧ nI (t (2 * k + 3)).2 = nI (wln (2 * k + 2))) ∧ ∀ j, j < wln (2 * k + 2) → i (2 * k + 3) j = nI (wc (2 * k + 2) j)
theorem wln_lt : ∀ k, k < 94 → 0 < wln (2 * k + 2) ∧ wln (2 * k + 2) < 60 ∧ ∀ j, j < wln (2 * k + 2) → wc (2 * k + 2) j < 128 := by decide +kernel
theorem SV.congr {t : MT} {i i' : MI} (h : SV t i) (he : ∀ b j, b < 190 → i' b j = i b j) : SV t i' := fun k hk => ⟨by rw [he _ _ (by omega)]; exact (h k hk).1, (h k hk).2.1, fun j hj => by rw [he _ _ (by omega)]; exact (h k hk).2.2 j hj⟩
theorem sh0 : ∀ m, m < 60 → shr (nI m) 0 = nI m := by decide +kernel
theorem chr_1 : ∀ c, c < 128 → (((nI c &&& 255).toUInt32 % 65536).toInt32) = nI c ∧ (nI c).toUInt32.toUInt16.toUInt32.toInt32 = nI c := by decide +kernel
theorem grd_big {α : Type} {k n : Nat} {o : Option α} (hk : k < n) (h31 : k < 2 ^ 31) : grd (nI k) n o = o := by
  unfold grd
  rw [if_neg (nI_pos h31), nI_clamp h31, if_pos hk]
section TEXT
variable {t : MT} {i : MI} {n : Nat} {T : Nat → Int32}
theorem j_len (h : SV t i) {k : Nat} (hk : k < 94) : f_J_length t i (2 * k + 2) = some (nI (wln (2 * k + 2))) := by
  obtain ⟨h1, h2, -⟩ := h k hk
  obtain ⟨-, l2, -⟩ := wln_lt k hk
  unfold f_J_length f_J_coder
  rw [if_neg (by decide), h1, show 2 * k + 2 + 1 = 2 * k + 3 from rfl, h2.2]
  show (grd2 (decide ((0 : Int32).toInt8.toInt32 = 0)) (some (0 : Int32))).bind _ = _
  unfold grd2
  rw [if_pos (by decide), Option.bind_some, sh0 _ l2]
theorem j_chr (h : SV t i) {k j : Nat} (hk : k < 94) (hj : j < wln (2 * k + 2)) : f_J_charAt t i (2 * k + 2) (nI j) = some (nI (wc (2 * k + 2) j)) := by
  obtain ⟨h1, h2, h3⟩ := h k hk
  obtain ⟨-, l2, l3⟩ := wln_lt k hk
  obtain ⟨c1, c2⟩ := chr_1 _ (l3 j hj)
  unfold f_J_charAt f_J_isLatin1
  rw [if_neg (by decide), h1, if_pos rfl, Option.bind_some, if_neg (by decide), show 2 * k + 2 + 1 = 2 * k + 3 from rfl]
  unfold f_J_charAtL f_J_checkIndex f_J_checkIndexP
  rw [h2.2, if_neg (nI_pos (by omega)), if_pos (nI_lt hj (by omega)), Option.bind_some, Option.bind_some, grd_big (by omega) (by omega), ix_nI (by omega), h3 j hj, c1]
  unfold grd2
  rw [if_pos (decide_eq_true c2), Option.bind_some, if_pos (decide_eq_true c2)]
/-! the text: T, n long -/
def isL (x : Int32) : Bool := win x 97 122
def isD (x : Int32) : Bool := win x 48 57
def sp (n : Nat) (T : Nat → Int32) (p : Nat) : Nat := ffs (fun k => decide (¬ T k = 32)) (n - p) p
def le (n : Nat) (T : Nat → Int32) (p : Nat) : Nat := ffs (fun k => !isL (T k)) (n - p) p
def de (n : Nat) (T : Nat → Int32) (p : Nat) : Nat := ffs (fun k => !isD (T k)) (n - p) p
def srt (x : Int32) : Nat := if isL x = true then 1 else if isD x = true then 2 else 3
/-- where the token that starts at s ends -/
def ed (n : Nat) (T : Nat → Int32) (s : Nat) : Nat := if s = n then n else if srt (T s) = 1 then le n T s else if srt (T s) = 2 then de n T s else s + 1
/-- the word w stands at s -/
def wd (n : Nat) (T : Nat → Int32) (w s : Nat) : Bool := decide (le n T s = s + wln w) && decide (∀ k, k < wln w → T (s + k) = nI (wc w k))
theorem sp_b {p : Nat} (hp : p ≤ n) : p ≤ sp n T p ∧ sp n T p ≤ n ∧ (∀ k, p ≤ k → k < sp n T p → T k = 32) ∧ (sp n T p < n → ¬ T (sp n T p) = 32) := by
  obtain ⟨h1, h2, h3, h4⟩ := ffs_sp (fun k => decide (¬ T k = 32)) (n - p) p
  refine ⟨h1, by show ffs _ _ _ ≤ n; omega, fun k a b => ?_, fun h => ?_⟩
  · have := h3 k a b
    simp only [decide_eq_false_iff_not, Classical.not_not] at this
    exact this
  · have := h4 (by show ffs _ _ _ < _; have : sp n T p < n := h; unfold sp at this; omega)
    rw [decide_eq_true_eq] at this
    exact this
theorem sp_eq {p s : Nat} (h1 : p ≤ s) (h2 : s ≤ n) (h3 : ∀ k, p ≤ k → k < s → T k = 32) (h4 : s < n → ¬ T s = 32) : sp n T p = s :=
  ffs_eq (n - p) p s (fun k a b => decide_eq_false (fun q => q (h3 k a b))) h1 (by omega) (fun h => decide_eq_true (h4 (by omega)))
theorem sp_sp {p : Nat} (hp : p ≤ n) : sp n T (sp n T p) = sp n T p := by
  obtain ⟨h1, h2, h3, h4⟩ := sp_b (T := T) hp
  exact sp_eq (Nat.le_refl _) h2 (fun k a b => by omega) h4
theorem le_b {p : Nat} (hp : p ≤ n) : p ≤ le n T p ∧ le n T p ≤ n ∧ (∀ k, p ≤ k → k < le n T p → isL (T k) = true) ∧ (le n T p < n → isL (T (le n T p)) = false) := by
  obtain ⟨h1, h2, h3, h4⟩ := ffs_sp (fun k => !isL (T k)) (n - p) p
  refine ⟨h1, by show ffs _ _ _ ≤ n; omega, fun k a b => ?_, fun h => ?_⟩
  · have := h3 k a b
    simpa using this
  · have := h4 (by have : le n T p < n := h; unfold le at this; omega)
    show isL (T (ffs (fun k => !isL (T k)) (n - p) p)) = false
    simpa using this
theorem le_eq {p s : Nat} (h1 : p ≤ s) (h2 : s ≤ n) (h3 : ∀ k, p ≤ k → k < s → isL (T k) = true) (h4 : s < n → isL (T s) = false) : le n T p = s :=
  ffs_eq (n - p) p s (fun k a b => by simp [h3 k a b]) h1 (by omega) (fun h => by simp [h4 (by omega)])
theorem de_b {p : Nat} (hp : p ≤ n) : p ≤ de n T p ∧ de n T p ≤ n ∧ (∀ k, p ≤ k → k < de n T p → isD (T k) = true) ∧ (de n T p < n → isD (T (de n T p)) = false) := by
  obtain ⟨h1, h2, h3, h4⟩ := ffs_sp (fun k => !isD (T k)) (n - p) p
  refine ⟨h1, by show ffs _ _ _ ≤ n; omega, fun k a b => ?_, fun h => ?_⟩
  · have := h3 k a b
    simpa using this
  · have := h4 (by have : de n T p < n := h; unfold de at this; omega)
    show isD (T (ffs (fun k => !isD (T k)) (n - p) p)) = false
    simpa using this
theorem de_eq {p s : Nat} (h1 : p ≤ s) (h2 : s ≤ n) (h3 : ∀ k, p ≤ k → k < s → isD (T k) = true) (h4 : s < n → isD (T s) = false) : de n T p = s :=
  ffs_eq (n - p) p s (fun k a b => by simp [h3 k a b]) h1 (by omega) (fun h => by simp [h4 (by omega)])
theorem win_i {x : Int32} (lo hi : Int32) : win x lo hi = true ↔ lo.toInt ≤ x.toInt ∧ x.toInt ≤ hi.toInt := by
  unfold win
  rw [Bool.and_eq_true, decide_eq_true_eq, decide_eq_true_eq, Int32.lt_iff_toInt_lt, Int32.lt_iff_toInt_lt]
  omega
theorem isD_of {x : Int32} (h : isD x = true) : ∃ c, 48 ≤ c ∧ c ≤ 57 ∧ x = nI c := by
  have h2 := (win_i 48 57).mp h
  rw [show (48 : Int32).toInt = 48 by decide, show (57 : Int32).toInt = 57 by decide] at h2
  have h0 : ¬ x < 0 := by rw [Int32.lt_iff_toInt_lt, show (0 : Int32).toInt = 0 by decide]; omega
  obtain ⟨c, hc, rfl⟩ := nI_of h0
  rw [nI_toInt hc] at h2
  exact ⟨c, by omega, by omega, rfl⟩
theorem ld_no {x : Int32} (h : isL x = true) : isD x = false := by
  have h2 := (win_i 97 122).mp h
  refine Bool.eq_false_iff.mpr (fun q => ?_)
  have h3 := (win_i 48 57).mp q
  rw [show (48 : Int32).toInt = 48 by decide, show (57 : Int32).toInt = 57 by decide] at h3
  rw [show (97 : Int32).toInt = 97 by decide, show (122 : Int32).toInt = 122 by decide] at h2
  omega
theorem v_sortOf (x : Int32) : f_Ta_sortOf x = some (nI (srt x)) := by
  have e48 : (48 : Int32).toInt = 48 := by decide
  have e57 : (57 : Int32).toInt = 57 := by decide
  have e97 : (97 : Int32).toInt = 97 := by decide
  have e122 : (122 : Int32).toInt = 122 := by decide
  unfold f_Ta_sortOf srt
  by_cases a : isL x = true
  · have h2 := (win_i 97 122).mp a
    rw [if_pos a, if_neg (by rw [Int32.lt_iff_toInt_lt]; omega), if_neg (by rw [Int32.lt_iff_toInt_lt]; omega)]
    rfl
  · rw [if_neg a]
    have hn : ¬ ((97 : Int32).toInt ≤ x.toInt ∧ x.toInt ≤ (122 : Int32).toInt) := fun q => a ((win_i 97 122).mpr q)
    by_cases b : isD x = true
    · have h3 := (win_i 48 57).mp b
      rw [if_pos b, if_pos (by rw [Int32.lt_iff_toInt_lt]; omega), if_neg (by rw [Int32.lt_iff_toInt_lt]; omega), if_neg (by rw [Int32.lt_iff_toInt_lt]; omega)]
      rfl
    · have hd : ¬ ((48 : Int32).toInt ≤ x.toInt ∧ x.toInt ≤ (57 : Int32).toInt) := fun q => b ((win_i 48 57).mpr q)
      rw [if_neg b]
      by_cases c1 : x < 97
      · rw [if_pos c1]
        by_cases c2 : x < 48
        · rw [if_pos c2]; rfl
        · rw [if_neg c2, if_pos (by rw [Int32.lt_iff_toInt_lt] at c2 ⊢; omega)]; rfl
      · have c3 : (122 : Int32) < x := by rw [Int32.lt_iff_toInt_lt] at c1 ⊢; omega
        rw [if_neg c1, if_pos c3, if_neg (by rw [Int32.lt_iff_toInt_lt] at c3 ⊢; omega), if_pos (by rw [Int32.lt_iff_toInt_lt] at c3 ⊢; omega)]; rfl
theorem ed_b {s : Nat} (hs : s ≤ n) : s ≤ ed n T s ∧ ed n T s ≤ n := by
  unfold ed
  by_cases e : s = n
  · rw [if_pos e]; omega
  · rw [if_neg e]
    have h1 := le_b (T := T) hs
    have h2 := de_b (T := T) hs
    split
    · omega
    · split <;> omega
/-! the class's tokens -/
/-- the class's tape stands at the token that comes at p or behind blanks there -/
def TK (i : MI) (n : Nat) (T : Nat → Int32) (s : Nat) : Prop := i 1595 3 = nI n ∧ (∀ k, k < n → i 1596 k = T k) ∧ i 1595 5 = nI s ∧ i 1595 6 = nI (ed n T s) ∧ i 1595 4 = (if s = n then 0 else nI (srt (T s)))
/-- what the tokens leave alone -/
def ft (i i' : MI) : Prop := ∀ b j, ¬ (b = 1595 ∧ (j = 4 ∨ j = 5 ∨ j = 6)) → i' b j = i b j
theorem ft.refl (i : MI) : ft i i := fun _ _ _ => rfl
theorem ft.trans {i j k : MI} (h : ft i j) (h2 : ft j k) : ft i k := fun b q hb => (h2 b q hb).trans (h b q hb)
theorem TK.congr {i' : MI} {s : Nat} (h : TK i n T s) (he : ∀ b j, b = 1595 ∨ b = 1596 → i' b j = i b j) : TK i' n T s := by
  obtain ⟨h1, h2, h3, h4, h5⟩ := h
  exact ⟨by rw [he _ _ (Or.inl rfl)]; exact h1, fun k hk => by rw [he _ _ (Or.inr rfl)]; exact h2 k hk, by rw [he _ _ (Or.inl rfl)]; exact h3, by rw [he _ _ (Or.inl rfl)]; exact h4, by rw [he _ _ (Or.inl rfl)]; exact h5⟩
theorem v_stepAt (hn : n ≤ 400) (h3 : i 1595 3 = nI n) (hT : ∀ k, k < n → i 1596 k = T k) {p : Nat} (hp : p ≤ n) (h6 : i 1595 6 = nI p) : Tt (f_Ta_step i) (fun i' => TK i' n T (sp n T p) ∧ ft i i') := by
  obtain ⟨s1, s2, s3, s4⟩ := sp_b (T := T) hp
  unfold f_Ta_step
  refine tt_bnd ?_
  rw [h6]
  refine tt_bind (P1 := fun i' => i' 1595 5 = nI (sp n T p) ∧ ft i i')
    (tt_loop (fun q (s : MI) => s 1595 5 = nI (p + q) ∧ p + q ≤ sp n T p ∧ ft i s) (sp n T p - p) (by omega) ?_ ?_ ⟨wr_s, by omega, fun b j hb => ?_⟩) ?_
  · rintro q hq i2 ⟨e1, e2, e3⟩
    have g3 : i2 1595 3 = nI n := (e3 _ _ (by omega)).trans h3
    have gT : i2 1596 (p + q) = T (p + q) := (e3 _ _ (by omega)).trans (hT _ (by omega))
    rw [e1, g3, if_pos (nI_lt (by omega) (by omega)), grd_nI (show p + q < 400 by omega) (by decide), ix_nI (by omega), gT, if_pos (s3 _ (by omega) (by omega)), nI_1]
    refine tt_bnd (tt_some ⟨wr_s, by omega, fun b j hb => ?_⟩)
    show wr i2 1595 5 (nI (p + q + 1)) b j = _
    have : wr i2 1595 5 (nI (p + q + 1)) b j = i2 b j := if_neg (by omega)
    rw [this]; exact e3 b j hb
  · rintro i2 ⟨e1, e2, e3⟩
    have g3 : i2 1595 3 = nI n := (e3 _ _ (by omega)).trans h3
    rw [show p + (sp n T p - p) = sp n T p by omega] at e1
    rw [e1, g3]
    by_cases c : sp n T p < n
    · have gT : i2 1596 (sp n T p) = T (sp n T p) := (e3 _ _ (by omega)).trans (hT _ c)
      rw [if_pos (nI_lt c (by omega)), grd_nI (show sp n T p < 400 by omega) (by decide), ix_nI (by omega), gT, if_neg (s4 c)]
      exact tt_some ⟨e1, e3⟩
    · rw [if_neg (nI_nlt (by omega) (by omega))]
      exact tt_some ⟨e1, e3⟩
  · show wr i 1595 5 (nI p) b j = _
    exact if_neg (by omega)
  rintro i2 ⟨e1, e3⟩
  refine tt_bnd ?_
  have g3 : wr i2 1595 6 (i2 1595 5) 1595 3 = nI n := by rw [wr_k (by decide)]; exact (e3 _ _ (by omega)).trans h3
  have g5 : wr i2 1595 6 (i2 1595 5) 1595 5 = nI (sp n T p) := by rw [wr_k (by decide)]; exact e1
  have f3 : ft i (wr i2 1595 6 (i2 1595 5)) := fun b j hb => by
    have : wr i2 1595 6 (i2 1595 5) b j = i2 b j := if_neg (by omega)
    rw [this]; exact e3 b j hb
  have g6 : wr i2 1595 6 (i2 1595 5) 1595 6 = nI (sp n T p) := by rw [wr_s]; exact e1
  generalize wr i2 1595 6 (i2 1595 5) = i4 at g3 g5 f3 g6
  have gT4 : ∀ k, k < n → i4 1596 k = T k := fun k hk => (f3 _ _ (by omega)).trans (hT k hk)
  rw [g5, g3]
  by_cases c : sp n T p < n
  · rw [if_pos (nI_lt c (by omega)), grd_nI (show sp n T p < 400 by omega) (by decide), ix_nI (by omega), gT4 _ c, v_sortOf, Option.bind_some]
    refine tt_bnd ?_
    rw [wr_k (show 6 ≠ 4 by decide), g6, nI_1]
    refine tt_bnd ?_
    have hsr : srt (T (sp n T p)) = 1 ∨ srt (T (sp n T p)) = 2 ∨ srt (T (sp n T p)) = 3 := by
      unfold srt
      split
      · exact Or.inl rfl
      · split
        · exact Or.inr (Or.inl rfl)
        · exact Or.inr (Or.inr rfl)
    generalize hi5 : wr (wr i4 1595 4 (nI (srt (T (sp n T p))))) 1595 6 (nI (sp n T p + 1)) = i5
    have k3 : i5 1595 3 = nI n := by rw [← hi5, wr_k (by decide), wr_k (by decide)]; exact g3
    have k4 : i5 1595 4 = nI (srt (T (sp n T p))) := by rw [← hi5, wr_k (by decide), wr_s]
    have k5 : i5 1595 5 = nI (sp n T p) := by rw [← hi5, wr_k (by decide), wr_k (by decide)]; exact g5
    have k6 : i5 1595 6 = nI (sp n T p + 1) := by rw [← hi5, wr_s]
    have kf : ft i i5 := fun b j hb => by
      have a1 : wr (wr i4 1595 4 (nI (srt (T (sp n T p))))) 1595 6 (nI (sp n T p + 1)) b j = wr i4 1595 4 (nI (srt (T (sp n T p)))) b j := if_neg (by omega)
      have a2 : wr i4 1595 4 (nI (srt (T (sp n T p)))) b j = i4 b j := if_neg (by omega)
      rw [← hi5, a1, a2]; exact f3 b j hb
    have hed : ed n T (sp n T p) = if srt (T (sp n T p)) = 1 then le n T (sp n T p) else if srt (T (sp n T p)) = 2 then de n T (sp n T p) else sp n T p + 1 := by
      unfold ed; rw [if_neg (by omega)]
    have hedb := ed_b (T := T) s2
    have hed1 : sp n T p + 1 ≤ ed n T (sp n T p) ∧ (∀ k, sp n T p ≤ k → k < ed n T (sp n T p) → ¬ srt (T (sp n T p)) = 3 → srt (T k) = srt (T (sp n T p))) ∧ (srt (T (sp n T p)) = 3 → ed n T (sp n T p) = sp n T p + 1) ∧ (ed n T (sp n T p) < n → ¬ srt (T (sp n T p)) = 3 → ¬ srt (T (ed n T (sp n T p))) = srt (T (sp n T p))) := by
      rw [hed]
      obtain ⟨l1, l2, l3, l4⟩ := le_b (T := T) s2
      obtain ⟨d1, d2, d3, d4⟩ := de_b (T := T) s2
      by_cases a : isL (T (sp n T p)) = true
      · have e1 : srt (T (sp n T p)) = 1 := if_pos a
        rw [e1, if_pos rfl]
        have hlt : sp n T p < le n T (sp n T p) := by
          rcases Nat.lt_or_ge (sp n T p) (le n T (sp n T p)) with q | q
          · exact q
          · have : le n T (sp n T p) = sp n T p := by omega
            rw [this] at l4
            rw [l4 c] at a; exact absurd a (by decide)
        refine ⟨hlt, fun k a b _ => if_pos (l3 k a b), fun q => absurd q (by decide), fun hlt2 _ q => ?_⟩
        unfold srt at q
        rw [if_neg (by rw [l4 hlt2]; decide)] at q
        split at q <;> omega
      · have e1 : srt (T (sp n T p)) = if isD (T (sp n T p)) = true then 2 else 3 := if_neg a
        by_cases b : isD (T (sp n T p)) = true
        · rw [if_pos b] at e1
          rw [e1, if_neg (by decide), if_pos rfl]
          have hlt : sp n T p < de n T (sp n T p) := by
            rcases Nat.lt_or_ge (sp n T p) (de n T (sp n T p)) with q | q
            · exact q
            · have : de n T (sp n T p) = sp n T p := by omega
              rw [this] at d4
              rw [d4 c] at b; exact absurd b (by decide)
          refine ⟨hlt, fun k a b _ => ?_, fun q => absurd q (by decide), fun hlt2 _ q => ?_⟩
          · unfold srt
            rw [if_neg (fun q => by have h1 := ld_no q; rw [d3 k a b] at h1; exact absurd h1 (by decide)), if_pos (d3 k a b)]
          · unfold srt at q
            rw [d4 hlt2] at q
            split at q
            · omega
            · rw [if_neg (by decide)] at q; omega
        · rw [if_neg b] at e1
          rw [e1, if_neg (by decide), if_neg (by decide)]
          exact ⟨Nat.le_refl _, fun k a b q => absurd rfl q, fun _ => rfl, fun _ q => absurd rfl q⟩
    obtain ⟨h1, h2, h3', h4⟩ := hed1
    generalize eE : ed n T (sp n T p) = E at *
    refine tt_bind (P1 := fun i' => TK i' n T (sp n T p) ∧ ft i i')
      (tt_loop (fun q (s : MI) => s 1595 3 = nI n ∧ s 1595 4 = nI (srt (T (sp n T p))) ∧ s 1595 5 = nI (sp n T p) ∧ s 1595 6 = nI (sp n T p + 1 + q) ∧ ft i s) (E - (sp n T p + 1)) (by omega) ?_ ?_ ⟨k3, k4, k5, k6, kf⟩) (fun i' hi => tt_some hi)
    · rintro q hq i6 ⟨u3, u4, u5, u6, uf⟩
      have gT6 : i6 1596 (sp n T p + 1 + q) = T (sp n T p + 1 + q) := (uf _ _ (by omega)).trans (hT _ (by omega))
      have hn3 : ¬ srt (T (sp n T p)) = 3 := fun e => by have := h3' e; omega
      rw [u4, u6, u3, if_neg (show ¬ nI (srt (T (sp n T p))) = 3 from fun e => hn3 ((nI_inj (by omega) (by decide)).mp (e.trans (lit_nI 3)))), if_pos (nI_lt (by omega) (by omega)), grd_nI (show sp n T p + 1 + q < 400 by omega) (by decide), ix_nI (by omega), gT6, v_sortOf, Option.bind_some, h2 _ (by omega) (by omega) hn3, if_pos rfl, nI_1]
      refine tt_bnd (tt_some ⟨?_, ?_, ?_, ?_, fun b j hb => ?_⟩)
      · rw [wr_k (by decide)]; exact u3
      · rw [wr_k (by decide)]; exact u4
      · rw [wr_k (by decide)]; exact u5
      · rw [wr_s]; congr 1
      · have a1 : wr i6 1595 6 (nI (sp n T p + 1 + q + 1)) b j = i6 b j := if_neg (by omega)
        rw [a1]; exact uf b j hb
    · rintro i6 ⟨u3, u4, u5, u6, uf⟩
      rw [show sp n T p + 1 + (E - (sp n T p + 1)) = E by omega] at u6
      have hTK : TK i6 n T (sp n T p) ∧ ft i i6 := ⟨⟨u3, fun k hk => (uf _ _ (by omega)).trans (hT k hk), u5, by rw [eE]; exact u6, by rw [if_neg (by omega)]; exact u4⟩, uf⟩
      rw [u4, u6, u3]
      by_cases c3 : srt (T (sp n T p)) = 3
      · rw [if_pos (by rw [c3]; rfl)]
        exact tt_some hTK
      · rw [if_neg (show ¬ nI (srt (T (sp n T p))) = 3 from fun e => c3 ((nI_inj (by omega) (by decide)).mp (e.trans (lit_nI 3))))]
        by_cases cE : E < n
        · have gT6 : i6 1596 E = T E := (uf _ _ (by omega)).trans (hT _ cE)
          have hsr2 : srt (T E) < 4 := by unfold srt; split <;> (try split) <;> omega
          rw [if_pos (nI_lt cE (by omega)), grd_nI (show E < 400 by omega) (by decide), ix_nI (by omega), gT6, v_sortOf, Option.bind_some, if_neg (fun e => h4 cE c3 ((nI_inj (by omega) (by omega)).mp e))]
          exact tt_some hTK
        · rw [if_neg (nI_nlt (by omega) (by omega))]
          exact tt_some hTK
  · have en : sp n T p = n := by omega
    rw [if_neg (nI_nlt (by omega) (by omega))]
    refine tt_bnd (tt_some ⟨⟨?_, fun k hk => ?_, ?_, ?_, ?_⟩, fun b j hb => ?_⟩)
    · rw [wr_k (by decide)]; exact g3
    · rw [wr_a (by decide)]; exact gT4 k hk
    · rw [wr_k (by decide)]; exact g5
    · rw [wr_k (by decide), g6, en]
      unfold ed; rw [if_pos rfl]
    · rw [wr_s, if_pos en]
    · have a1 : wr i4 1595 4 0 b j = i4 b j := if_neg (by omega)
      rw [a1]; exact f3 b j hb
theorem v_step (hn : n ≤ 400) {s : Nat} (hs : s ≤ n) (h : TK i n T s) : Tt (f_Ta_step i) (fun i' => TK i' n T (sp n T (ed n T s)) ∧ ft i i') :=
  v_stepAt hn h.1 h.2.1 (ed_b hs).2 h.2.2.2.1
end TEXT
