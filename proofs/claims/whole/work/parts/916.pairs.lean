/-! ===== pairs ===== -/
def lo (m : Nat) : Nat := ffs (fun j => m.testBit j) 8 0
theorem ntz : ∀ m, m < 256 → 0 < m → f_J_numberOfTrailingZeros (nI m) = some (nI (lo m)) := by decide +kernel
theorem lo_sp {m : Nat} (hm : m < 256) (h0 : m ≠ 0) : lo m < 8 ∧ m.testBit (lo m) = true ∧ ∀ j, j < lo m → m.testBit j = false := by
  obtain ⟨h1, h2, h3, h4⟩ := ffs_sp (fun j => m.testBit j) 8 0
  have hlt : lo m < 8 := by
    rcases Nat.lt_or_ge (lo m) 8 with h | h
    · exact h
    · exact absurd (m_ext hm (by decide : 0 < 256) (fun j hj => by rw [Nat.zero_testBit]; exact h3 j (Nat.zero_le j) (by show j < lo m; omega))) h0
  exact ⟨hlt, h4 (by show lo m < 0 + 8; omega), fun j hj => h3 j (Nat.zero_le j) hj⟩
theorem lo_eq {m v : Nat} (hv : v < 8) (h1 : m.testBit v = true) (h2 : ∀ j, j < v → m.testBit j = false) : lo m = v := ffs_eq 8 0 v (fun f _ hf => h2 f hf) (Nat.zero_le v) (by omega) (fun _ => h1)
theorem delb_lt2 {m v : Nat} (hm : m < 256) (h : m.testBit v = true) : delb m v < m := by
  have h1 : delb m v ≤ m := by
    have : sbs (delb m v) m := fun j hj => by
      rw [delb_t] at hj
      simp only [Bool.and_eq_true] at hj
      exact hj.2.1
    exact sbs_le this
  rcases Nat.lt_or_eq_of_le h1 with h2 | h2
  · exact h2
  · have h3 := delb_t m v v
    rw [h2, h, decide_eq_true rfl, Bool.not_true, Bool.and_false, Bool.and_false] at h3
    exact absurd h3 (by decide)
theorem delb_le (m v : Nat) : delb m v ≤ m := by
  have : sbs (delb m v) m := fun j hj => by
    rw [delb_t] at hj
    simp only [Bool.and_eq_true] at hj
    exact hj.2.1
  exact sbs_le this
theorem dif_delb (m G v : Nat) : dif (delb m v) G = delb (dif m G) v := by
  refine m_ext (dif_lt _ _) (delb_lt _ _) (fun j hj => ?_)
  rw [dif_t, delb_t, delb_t, dif_t, decide_eq_true hj]
  cases m.testBit j <;> cases G.testBit j <;> cases decide (v = j) <;> rfl
theorem mxN_skip {p : Nat → Bool} {v : Nat → Nat} {x0 : Nat} : ∀ n, (∀ f, f < n → p f = false) → mxN p v n x0 = x0
  | 0, _ => rfl
  | n + 1, h => by
    rw [mxN_s, if_neg (by rw [h n (by omega)]; decide)]
    exact mxN_skip n (fun f hf => h f (by omega))
def prd (S : SS) (v w : Nat) : Bool := decide (¬ S 2 v 0 = S 2 w 0 ∧ ¬ S 2 v 3 = 3 ∧ ¬ S 2 w 3 = 3)
def szp (S : SS) (v w : Nat) : Nat := (S 2 v 1).toNatClampNeg + (S 2 w 1).toNatClampNeg
def pvf (S : SS) : Nat → Nat → Nat
  | 0, _ => 0
  | k + 1, m => if m = 0 then 0 else mxN (fun w => (delb m (lo m)).testBit w && prd S (lo m) w) (fun w => szp S (lo m) w + pvf S k (delb (delb m (lo m)) w)) (nf S) (pvf S k (delb m (lo m)))
def pv (S : SS) (m : Nat) : Nat := pvf S 256 m
def ppr (S : SS) (m v w : Nat) : Bool := ((delb m v).testBit w && prd S v w) && decide (szp S v w + pv S (delb (delb m v) w) = pv S m)
def pch (S : SS) (m v : Nat) : Int32 := if pv S (delb m v) = pv S m then -1 else nI (ffs (ppr S m v) (nf S) 0)
def pmm (S : SS) : Nat → Nat
  | 0 => 2 ^ nf S - 1
  | j + 1 => if (pmm S j).testBit j = true then (if pch S (pmm S j) j = -1 then delb (pmm S j) j else delb (delb (pmm S j) j) (ix (pch S (pmm S j) j))) else pmm S j
def pou (S : SS) : Nat → Nat → Int32
  | 0 => fun _ => -1
  | j + 1 => if (pmm S j).testBit j = true ∧ ¬ pch S (pmm S j) j = -1 then (fun x => if x = j then pch S (pmm S j) j else if x = ix (pch S (pmm S j) j) then nI j else pou S j x) else pou S j
def spPairs (S : SS) (x : Int32) : Int32 × Int32 := if x = -1 then (0, nI (pv S (2 ^ nf S - 1))) else if okx x (nf S) = true then (0, pou S (nf S) (ix x)) else (1, 0)
section PAIRS
variable {i : MI} {t : MT} {r : MR} {S : SS} {lw : Nat}
theorem pvf_s {k m : Nat} : pvf S (k + 1) m = if m = 0 then 0 else mxN (fun w => (delb m (lo m)).testBit w && prd S (lo m) w) (fun w => szp S (lo m) w + pvf S k (delb (delb m (lo m)) w)) (nf S) (pvf S k (delb m (lo m))) := rfl
theorem pvf_any : ∀ k k' m, m < 256 → m ≤ k → m ≤ k' → pvf S k m = pvf S k' m
  | 0, k', m, _, h1, _ => by
    have : m = 0 := by omega
    subst this
    cases k' with
    | zero => rfl
    | succ n => rw [pvf_s, if_pos rfl]; rfl
  | k + 1, 0, m, _, _, h2 => by
    have : m = 0 := by omega
    subst this
    rw [pvf_s, if_pos rfl]; rfl
  | k + 1, k' + 1, m, h, h1, h2 => by
    rw [pvf_s, pvf_s]
    by_cases e : m = 0
    · rw [if_pos e, if_pos e]
    · obtain ⟨l1, l2, l3⟩ := lo_sp h e
      have hd := delb_lt2 h l2
      rw [if_neg e, if_neg e, pvf_any k k' (delb m (lo m)) (by omega) (by omega) (by omega)]
      refine mxN_congr (nf S) (fun w _ => ⟨rfl, fun _ => ?_⟩)
      have hd2 := delb_le (delb m (lo m)) w
      rw [pvf_any k k' (delb (delb m (lo m)) w) (by omega) (by omega) (by omega)]
theorem pv_0 : pv S 0 = 0 := by
  rw [show pv S 0 = pvf S (255 + 1) 0 from rfl, pvf_s, if_pos rfl]
theorem pv_eq {m : Nat} (h : m < 256) (e : m ≠ 0) : pv S m = mxN (fun w => (delb m (lo m)).testBit w && prd S (lo m) w) (fun w => szp S (lo m) w + pv S (delb (delb m (lo m)) w)) (nf S) (pv S (delb m (lo m))) := by
  obtain ⟨l1, l2, l3⟩ := lo_sp h e
  have hd := delb_lt2 h l2
  rw [show pv S m = pvf S (255 + 1) m from rfl, pvf_s, if_neg e, show pv S (delb m (lo m)) = pvf S 256 (delb m (lo m)) from rfl, pvf_any 255 256 (delb m (lo m)) (by omega) (by omega) (by omega)]
  refine mxN_congr (nf S) (fun w _ => ⟨rfl, fun _ => ?_⟩)
  have hd2 := delb_le (delb m (lo m)) w
  rw [show pv S (delb (delb m (lo m)) w) = pvf S 256 (delb (delb m (lo m)) w) from rfl, pvf_any 255 256 (delb (delb m (lo m)) w) (by omega) (by omega) (by omega)]
theorem sz_n (hw : Wf S) {f : Nat} (hf : f < nf S) : S 2 f 1 = nI (S 2 f 1).toNatClampNeg ∧ 1 ≤ (S 2 f 1).toNatClampNeg ∧ (S 2 f 1).toNatClampNeg ≤ 9 := by
  obtain ⟨-, ⟨z, z1, z2, ez⟩, -⟩ := hw.2.2.1 f hf
  rw [ez, nI_clamp (by omega)]
  exact ⟨rfl, z1, z2⟩
theorem pvf_le (hw : Wf S) : ∀ k m, m < 2 ^ nf S → pvf S k m ≤ 18 * k
  | 0, _, _ => Nat.le_refl _
  | k + 1, m, hm => by
    have h8 := hw.1.f8
    have hp8 := pow_le8 h8
    rw [pvf_s]
    by_cases e : m = 0
    · rw [if_pos e]; omega
    · rw [if_neg e]
      have hd := delb_le m (lo m)
      have ih := pvf_le hw k (delb m (lo m)) (by omega)
      obtain ⟨l1, l2, l3⟩ := lo_sp (by omega) e
      have hl : lo m < nf S := by
        rcases Nat.lt_or_ge (lo m) (nf S) with h | h
        · exact h
        · rw [Nat.testBit_lt_two_pow (Nat.lt_of_lt_of_le hm (Nat.pow_le_pow_right (by decide) h))] at l2
          exact absurd l2 (by decide)
      refine mxN_le (by omega) (nf S) (fun w hw2 _ => ?_)
      have hd2 := delb_le (delb m (lo m)) w
      have ih2 := pvf_le hw k (delb (delb m (lo m)) w) (by omega)
      obtain ⟨-, -, s1⟩ := sz_n hw hl
      obtain ⟨-, -, s2⟩ := sz_n hw hw2
      unfold szp
      omega
theorem pv_le (hw : Wf S) {m : Nat} (hm : m < 2 ^ nf S) : pv S m ≤ 4608 := pvf_le hw 256 m hm
theorem bit_nf {m n f : Nat} (hm : m < 2 ^ n) (h : m.testBit f = true) : f < n := by
  rcases Nat.lt_or_ge f n with h2 | h2
  · exact h2
  · rw [Nat.testBit_lt_two_pow (Nat.lt_of_lt_of_le hm (Nat.pow_le_pow_right (by decide) h2))] at h
    exact absurd h (by decide)
theorem plc_t (p : Int32) (f : Nat) : (plc S p).testBit f = (decide (f < nf S) && decide (S 2 f 3 = p)) := by
  unfold plc; rw [bits_test]
theorem pv_G (hc : Cnt S) : ∀ k m, m ≤ k → m < 2 ^ nf S → pv S m = pv S (dif m (plc S 3))
  | 0, m, h, _ => by
    have : m = 0 := by omega
    subst this
    rw [show dif 0 (plc S 3) = 0 from (dif_z (by decide)).mpr (fun j hj => by rw [Nat.zero_testBit] at hj; exact absurd hj (by decide))]
  | k + 1, m, h, hm => by
    have h8 := hc.f8
    have hp8 := pow_le8 h8
    by_cases e : m = 0
    · exact pv_G hc k m (by omega) hm
    · obtain ⟨l1, l2, l3⟩ := lo_sp (by omega) e
      have hl := bit_nf hm l2
      have hd := delb_lt2 (by omega) l2
      have hG := plc_t (S := S) 3 (lo m)
      rw [decide_eq_true hl, Bool.true_and] at hG
      rw [pv_eq (by omega) e]
      by_cases c : S 2 (lo m) 3 = 3
      · rw [mxN_skip (nf S) (fun w _ => by
          unfold prd
          rw [decide_eq_false (fun q => q.2.1 c), Bool.and_false]), pv_G hc k (delb m (lo m)) (by omega) (by omega), dif_delb]
        congr 1
        refine m_ext (delb_lt _ _) (dif_lt _ _) (fun j hj => ?_)
        rw [delb_t, decide_eq_true hj, Bool.true_and]
        by_cases ej : lo m = j
        · rw [← ej, dif_t, hG, decide_eq_true c, Bool.not_true, Bool.and_false, Bool.and_false, Bool.false_and]
        · rw [decide_eq_false ej, Bool.not_false, Bool.and_true]
      · have hv : (dif m (plc S 3)).testBit (lo m) = true := by
          rw [dif_t, decide_eq_true l1, l2, hG, decide_eq_false c]; rfl
        have hlo : lo (dif m (plc S 3)) = lo m := lo_eq l1 hv (fun j hj => by rw [dif_t, l3 j hj, Bool.false_and, Bool.and_false])
        rw [pv_eq (dif_lt _ _) (fun q => by rw [q, Nat.zero_testBit] at hv; exact absurd hv (by decide)), hlo, pv_G hc k (delb m (lo m)) (by omega) (by omega), dif_delb]
        refine mxN_congr (nf S) (fun w hw => ⟨?_, fun hp => ?_⟩)
        · rw [← dif_delb, dif_t, plc_t, decide_eq_true (show w < 8 by omega), decide_eq_true hw, Bool.true_and, Bool.true_and]
          unfold prd
          by_cases cw : S 2 w 3 = 3
          · rw [decide_eq_false (fun q => q.2.2 cw), Bool.and_false, Bool.and_false]
          · rw [decide_eq_false cw, Bool.not_false, Bool.and_true]
        · have hd2 := delb_le (delb m (lo m)) w
          rw [pv_G hc k (delb (delb m (lo m)) w) (by omega) (by omega), dif_delb, dif_delb]
theorem pch_lt (hc : Cnt S) {m v : Nat} (hm : m < 2 ^ nf S) (hv : m.testBit v = true) (h0 : ∀ j, j < v → m.testBit j = false) : (pv S (delb m v) = pv S m ∧ pch S m v = -1) ∨ (¬ pv S (delb m v) = pv S m ∧ ∃ w, w < nf S ∧ pch S m v = nI w ∧ ppr S m v w = true ∧ (delb m v).testBit w = true ∧ ∀ g, g < w → ppr S m v g = false) := by
  have h8 := hc.f8
  have hp8 := pow_le8 h8
  have hvn := bit_nf hm hv
  have hne : m ≠ 0 := fun q => by rw [q, Nat.zero_testBit] at hv; exact absurd hv (by decide)
  have hlo : lo m = v := lo_eq (by omega) hv h0
  unfold pch
  by_cases e : pv S (delb m v) = pv S m
  · exact Or.inl ⟨e, if_pos e⟩
  · refine Or.inr ⟨e, ffs (ppr S m v) (nf S) 0, ?_⟩
    rw [if_neg e]
    obtain ⟨h1, h2, h3, h4⟩ := ffs_sp (ppr S m v) (nf S) 0
    have hlt : ffs (ppr S m v) (nf S) 0 < nf S := by
      rcases Nat.lt_or_ge (ffs (ppr S m v) (nf S) 0) (nf S) with h | h
      · exact h
      · exfalso
        have hq := pv_eq (S := S) (m := m) (by omega) hne
        rw [hlo] at hq
        rcases mxN_at (p := fun w => (delb m v).testBit w && prd S v w) (v := fun w => szp S v w + pv S (delb (delb m v) w)) (x0 := pv S (delb m v)) (nf S) with q | ⟨f, hf, q1, q2⟩
        · rw [← hq] at q; exact e q.symm
        · rw [← hq] at q2
          have hs : ppr S m v f = true := by
            unfold ppr
            rw [q1, Bool.true_and, decide_eq_true_eq]
            exact q2
          rw [h3 f (Nat.zero_le f) (by omega)] at hs
          exact absurd hs (by decide)
    have hp := h4 (by omega)
    have hp2 := hp
    unfold ppr at hp2
    rw [Bool.and_eq_true, Bool.and_eq_true] at hp2
    exact ⟨hlt, rfl, hp, hp2.1.1, fun g hg => h3 g (Nat.zero_le g) hg⟩
/-- the words that are left, as the pairs are told -/
theorem pmm_sp (hc : Cnt S) : ∀ j, j ≤ nf S → pmm S j < 2 ^ nf S ∧ (∀ f, f < j → (pmm S j).testBit f = false) ∧ ∀ f, (pmm S j).testBit f = true → pou S j f = -1
  | 0, _ => ⟨by show 2 ^ nf S - 1 < 2 ^ nf S; have := Nat.two_pow_pos (nf S); omega, fun f hf => absurd hf (Nat.not_lt_zero f), fun f _ => rfl⟩
  | j + 1, hj => by
    obtain ⟨h1, h2, h3⟩ := pmm_sp hc j (by omega)
    have h8 := hc.f8
    by_cases c : (pmm S j).testBit j = true
    · have hd : ∀ f, f < j + 1 → (delb (pmm S j) j).testBit f = false := fun f hf => by
        rw [delb_t]
        by_cases e : j = f
        · rw [decide_eq_true e, Bool.not_true, Bool.and_false, Bool.and_false]
        · rw [h2 f (by omega), Bool.false_and, Bool.and_false]
      have hd1 := delb_le (pmm S j) j
      rcases pch_lt hc h1 c h2 with ⟨-, e⟩ | ⟨-, w, hw, e, -⟩
      · have em : pmm S (j + 1) = delb (pmm S j) j := by
          show (if (pmm S j).testBit j = true then (if pch S (pmm S j) j = -1 then delb (pmm S j) j else delb (delb (pmm S j) j) (ix (pch S (pmm S j) j))) else pmm S j) = _
          rw [if_pos c, if_pos e]
        have eo : pou S (j + 1) = pou S j := by
          show (if (pmm S j).testBit j = true ∧ ¬ pch S (pmm S j) j = -1 then (fun x => if x = j then pch S (pmm S j) j else if x = ix (pch S (pmm S j) j) then nI j else pou S j x) else pou S j) = _
          rw [if_neg (fun q => q.2 e)]
        rw [em, eo]
        exact ⟨by omega, hd, fun f hf => h3 f (by rw [delb_t] at hf; simp only [Bool.and_eq_true] at hf; exact hf.2.1)⟩
      · have hn1 : ¬ pch S (pmm S j) j = -1 := by rw [e]; exact nI_m1 (by omega)
        have ei : ix (pch S (pmm S j) j) = w := by rw [e, ix_nI (by omega)]
        have em : pmm S (j + 1) = delb (delb (pmm S j) j) w := by
          show (if (pmm S j).testBit j = true then (if pch S (pmm S j) j = -1 then delb (pmm S j) j else delb (delb (pmm S j) j) (ix (pch S (pmm S j) j))) else pmm S j) = _
          rw [if_pos c, if_neg hn1, ei]
        have eo : pou S (j + 1) = fun x => if x = j then pch S (pmm S j) j else if x = w then nI j else pou S j x := by
          show (if (pmm S j).testBit j = true ∧ ¬ pch S (pmm S j) j = -1 then (fun x => if x = j then pch S (pmm S j) j else if x = ix (pch S (pmm S j) j) then nI j else pou S j x) else pou S j) = _
          rw [if_pos ⟨c, hn1⟩, ei]
        have hd2 := delb_le (delb (pmm S j) j) w
        rw [em, eo]
        refine ⟨by omega, fun f hf => ?_, fun f hf => ?_⟩
        · rw [delb_t, hd f hf, Bool.false_and, Bool.and_false]
        · rw [delb_t] at hf
          simp only [Bool.and_eq_true, Bool.not_eq_true', decide_eq_false_iff_not] at hf
          have hf2 := hf.2.1
          rw [delb_t] at hf2
          simp only [Bool.and_eq_true, Bool.not_eq_true', decide_eq_false_iff_not] at hf2
          show (if f = j then _ else if f = w then _ else pou S j f) = -1
          rw [if_neg (fun q => hf2.2.2 q.symm), if_neg (fun q => hf.2.2 q.symm)]
          exact h3 f hf2.2.1
    · have em : pmm S (j + 1) = pmm S j := if_neg c
      have eo : pou S (j + 1) = pou S j := if_neg (fun q => c q.1)
      rw [em, eo]
      refine ⟨h1, fun f hf => ?_, h3⟩
      by_cases e : f = j
      · subst e; exact Bool.eq_false_iff.mpr c
      · exact h2 f (by omega)
/-- a word that is gone, or whose other is found, stays so -/
theorem pou_stay (hc : Cnt S) {x : Nat} : ∀ k j, j + k ≤ nf S → (pmm S j).testBit x = false → (pmm S (j + k)).testBit x = false ∧ pou S (j + k) x = pou S j x
  | 0, j, _, h => ⟨h, rfl⟩
  | k + 1, j, hj, h => by
    obtain ⟨g1, g2⟩ := pou_stay hc k j (by omega) h
    obtain ⟨p1, p2, p3⟩ := pmm_sp hc (j + k) (by omega)
    have h8 := hc.f8
    by_cases c : (pmm S (j + k)).testBit (j + k) = true
    · rcases pch_lt hc p1 c p2 with ⟨-, e⟩ | ⟨-, w, hw, e, e2, e3, -⟩
      · have em : pmm S (j + (k + 1)) = delb (pmm S (j + k)) (j + k) := by
          show (if (pmm S (j + k)).testBit (j + k) = true then (if pch S (pmm S (j + k)) (j + k) = -1 then delb (pmm S (j + k)) (j + k) else delb (delb (pmm S (j + k)) (j + k)) (ix (pch S (pmm S (j + k)) (j + k)))) else pmm S (j + k)) = _
          rw [if_pos c, if_pos e]
        have eo : pou S (j + (k + 1)) = pou S (j + k) := if_neg (fun q => q.2 e)
        rw [em, eo, delb_t, g1, Bool.false_and, Bool.and_false]
        exact ⟨rfl, g2⟩
      · have hn1 : ¬ pch S (pmm S (j + k)) (j + k) = -1 := by rw [e]; exact nI_m1 (by omega)
        have ei : ix (pch S (pmm S (j + k)) (j + k)) = w := by rw [e, ix_nI (by omega)]
        have em : pmm S (j + (k + 1)) = delb (delb (pmm S (j + k)) (j + k)) w := by
          show (if (pmm S (j + k)).testBit (j + k) = true then (if pch S (pmm S (j + k)) (j + k) = -1 then delb (pmm S (j + k)) (j + k) else delb (delb (pmm S (j + k)) (j + k)) (ix (pch S (pmm S (j + k)) (j + k)))) else pmm S (j + k)) = _
          rw [if_pos c, if_neg hn1, ei]
        have eo : pou S (j + (k + 1)) = fun x => if x = j + k then pch S (pmm S (j + k)) (j + k) else if x = w then nI (j + k) else pou S (j + k) x := by
          show (if (pmm S (j + k)).testBit (j + k) = true ∧ ¬ pch S (pmm S (j + k)) (j + k) = -1 then (fun x => if x = j + k then pch S (pmm S (j + k)) (j + k) else if x = ix (pch S (pmm S (j + k)) (j + k)) then nI (j + k) else pou S (j + k) x) else pou S (j + k)) = _
          rw [if_pos ⟨c, hn1⟩, ei]
        have hxw : ¬ x = w := fun q => by
          rw [delb_t, ← q, g1, Bool.false_and, Bool.and_false] at e3
          exact absurd e3 (by decide)
        rw [em, eo, delb_t, delb_t, g1, Bool.false_and, Bool.and_false, Bool.false_and, Bool.and_false]
        refine ⟨rfl, ?_⟩
        show (if x = j + k then _ else if x = w then _ else pou S (j + k) x) = _
        rw [if_neg (fun q => by have g3 := g1; rw [q, c] at g3; exact absurd g3 (by decide)), if_neg hxw]
        exact g2
    · have em : pmm S (j + (k + 1)) = pmm S (j + k) := if_neg c
      have eo : pou S (j + (k + 1)) = pou S (j + k) := if_neg (fun q => c q.1)
      rw [em, eo]
      exact ⟨g1, g2⟩
end PAIRS
