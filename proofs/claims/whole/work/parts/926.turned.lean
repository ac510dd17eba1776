/-! ===== turned, ask: the days that were told ===== -/
def fbN (p d : Nat) : Nat := 99 - p / 100 * (d - p % 100)
theorem fb_a : ∀ a, a < 100 → ∀ b, b < 100 → jmax 0 (nI a - nI b) = nI (a - b) := by decide +kernel
theorem fb_b : ∀ k, k < 1900 → jmax 0 (99 - nI k) = nI (99 - k) := by decide +kernel
theorem gu_fresh {p d : Nat} (hp : p < 2000) (hd : d < 100) : f_Gu_freshBy (nI p) (nI d) = some (nI (fbN p d)) := by
  have h1 : p / 100 < 20 := by omega
  have h2 : p / 100 * (d - p % 100) ≤ 19 * 99 := Nat.mul_le_mul (by omega) (by omega)
  unfold f_Gu_freshBy fbN
  rw [lit_nI 100, rm_nI (by omega) (by decide) (by decide), j_max, fb_a d hd (p % 100) (by omega), Option.bind_some, pk_div (by omega) (by decide) (by decide), mul_nI, j_max, fb_b _ (by omega), Option.bind_some]
theorem mo_fresh {p d : Nat} (hp : p < 2000) (hd : d < 100) : f_Mo_freshBy (nI p) (nI d) = some (nI (fbN p d)) := by
  have h1 : p / 100 < 20 := by omega
  have h2 : p / 100 * (d - p % 100) ≤ 19 * 99 := Nat.mul_le_mul (by omega) (by omega)
  unfold f_Mo_freshBy fbN
  rw [lit_nI 100, rm_nI (by omega) (by decide) (by decide), j_max, fb_a d hd (p % 100) (by omega), Option.bind_some, pk_div (by omega) (by decide) (by decide), mul_nI, j_max, fb_b _ (by omega), Option.bind_some]
theorem fbN_lt (p d : Nat) : fbN p d < 100 := by unfold fbN; omega
section TURNED
variable {i : MI} {n : Nat} {T : Nat → Int32}
def tvb (n : Nat) (T : Nat → Int32) : Bool := decide (n ≤ 40) && (decide (n % 2 = 0) && decide (∀ k, k < n → win (T k) 0 99 = true))
def fts (n : Nat) (T : Nat → Int32) (p : Nat) : Bool := decide (∀ k, k < n / 2 → fbN p (ix (T (2 * k))) = ix (T (2 * k + 1)))
def cvv (n : Nat) (T : Nat → Int32) (d v q : Nat) : Nat := cntb (fun p => fts n T p && decide (fbN p d = v)) q
def gqq (n : Nat) (T : Nat → Int32) (d q : Nat) : Nat := fo (fun p x => if fts n T p = true then max x (cvv n T d (fbN p d) (p + 1)) else x) q 0
def asq (n : Nat) (T : Nat → Int32) (q : Nat) : Int32 × Nat := fo (fun d s => if gqq n T d 2000 < s.2 then (nI d, gqq n T d 2000) else s) q (-1, cntb (fts n T) 2000 + 1)
def spTurned (n : Nat) (T : Nat → Int32) (x : Int32) : Int32 × Int32 := if tvb n T = true then (0, if x = 0 then nI (cntb (fts n T) 2000) else if cntb (fts n T) 2000 = 0 then -1 else nI (ffs (fts n T) 2000 0)) else (1, 0)
def spAsk (n : Nat) (T : Nat → Int32) : Int32 × Int32 := if tvb n T = true then (0, if cntb (fts n T) 2000 < 2 then -1 else (asq n T 100).1) else (1, 0)
theorem cntb_s (p : Nat → Bool) (q : Nat) : cntb p (q + 1) = if p q = true then cntb p q + 1 else cntb p q := rfl
theorem cntb_mono (p : Nat → Bool) (q : Nat) : ∀ k, cntb p q ≤ cntb p (q + k)
  | 0 => Nat.le_refl _
  | k + 1 => by
    have := cntb_mono p q k
    have e := cntb_s p (q + k)
    rw [show q + (k + 1) = q + k + 1 from rfl, e]
    split <;> omega
/-- the one that stands at place j -/
theorem cntb_at (p : Nat → Bool) : ∀ m j, j < cntb p m → ∃ q, q < m ∧ p q = true ∧ cntb p q = j
  | 0, j, h => absurd h (Nat.not_lt_zero j)
  | m + 1, j, h => by
    rw [cntb_s] at h
    by_cases c : p m = true
    · rw [if_pos c] at h
      by_cases e : j = cntb p m
      · exact ⟨m, by omega, c, e.symm⟩
      · obtain ⟨q, h1, h2, h3⟩ := cntb_at p m j (by omega)
        exact ⟨q, by omega, h2, h3⟩
    · rw [if_neg c] at h
      obtain ⟨q, h1, h2, h3⟩ := cntb_at p m j h
      exact ⟨q, by omega, h2, h3⟩
theorem gqq_s (d q : Nat) : gqq n T d (q + 1) = if fts n T q = true then max (gqq n T d q) (cvv n T d (fbN q d) (q + 1)) else gqq n T d q := rfl
theorem gqq_le (d : Nat) : ∀ q, gqq n T d q ≤ q
  | 0 => Nat.le_refl _
  | q + 1 => by
    have := gqq_le d q
    have h2 := cntb_le (fun p => fts n T p && decide (fbN p d = fbN q d)) (q + 1)
    rw [gqq_s]
    unfold cvv
    split
    · exact Nat.max_le.mpr ⟨by omega, h2⟩
    · omega
theorem gqq_mono (d q : Nat) : ∀ k, gqq n T d q ≤ gqq n T d (q + k)
  | 0 => Nat.le_refl _
  | k + 1 => by
    have := gqq_mono d q k
    rw [show q + (k + 1) = q + k + 1 from rfl, gqq_s]
    split
    · exact Nat.le_trans this (Nat.le_max_left _ _)
    · exact this
/-- between two with the same count nothing fits -/
theorem gap (d q : Nat) : ∀ k, cntb (fts n T) (q + k) = cntb (fts n T) q → gqq n T d (q + k) = gqq n T d q ∧ ∀ v, cvv n T d v (q + k) = cvv n T d v q
  | 0, _ => ⟨rfl, fun _ => rfl⟩
  | k + 1, h => by
    have hm := cntb_mono (fts n T) q k
    have e := cntb_s (fts n T) (q + k)
    rw [show q + (k + 1) = q + k + 1 from rfl] at h ⊢
    by_cases c : fts n T (q + k) = true
    · rw [if_pos c] at e; omega
    · rw [if_neg c] at e
      obtain ⟨g1, g2⟩ := gap d q k (by omega)
      refine ⟨by rw [gqq_s, if_neg c, g1], fun v => ?_⟩
      unfold cvv at g2 ⊢
      rw [cntb_s, if_neg (by rw [Bool.eq_false_iff.mpr c, Bool.false_and]; decide), g2 v]
theorem gap2 {d p q : Nat} (h : cntb (fts n T) p = cntb (fts n T) q) : gqq n T d p = gqq n T d q ∧ ∀ v, cvv n T d v p = cvv n T d v q := by
  rcases Nat.le_total p q with hl | hl
  · obtain ⟨k, rfl⟩ : ∃ k, q = p + k := ⟨q - p, by omega⟩
    obtain ⟨g1, g2⟩ := gap (n := n) (T := T) d p k h.symm
    exact ⟨g1.symm, fun v => (g2 v).symm⟩
  · obtain ⟨k, rfl⟩ : ∃ k, p = q + k := ⟨p - q, by omega⟩
    exact gap d q k h
theorem asq_s (q : Nat) : asq n T (q + 1) = if gqq n T q 2000 < (asq n T q).2 then (nI q, gqq n T q 2000) else asq n T q := rfl
theorem asq_le : ∀ q, (asq n T q).2 ≤ 2001
  | 0 => by
    show cntb (fts n T) 2000 + 1 ≤ 2001
    have := cntb_le (fts n T) 2000
    omega
  | q + 1 => by
    have := asq_le q
    rw [asq_s]
    split
    · show gqq n T q 2000 ≤ 2001
      have := gqq_le (n := n) (T := T) q 2000
      omega
    · exact this
theorem tv_of (h : tvb n T = true) : n ≤ 40 ∧ n % 2 = 0 ∧ ∀ k, k < n → ∃ v, v ≤ 99 ∧ T k = nI v := by
  unfold tvb at h
  simp only [Bool.and_eq_true, decide_eq_true_eq] at h
  exact ⟨h.1, h.2.1, fun k hk => win_of (n := 99) (by decide) (h.2.2 k hk)⟩
/-- what the class's call leaves alone -/
def fG (i i' : MI) : Prop := (∀ b j, b ≠ 1595 → (b < 1631 ∨ 1636 ≤ b) → i' b j = i b j) ∧ ∀ j, j ≠ 1 → i' 1595 j = i 1595 j
def gOK (n : Nat) (T : Nat → Int32) (i : MI) : Prop := i 1631 4 = nI (n / 2) ∧ ∀ k, k < n / 2 → i 1632 k = T (2 * k) ∧ i 1633 k = T (2 * k + 1)
theorem win_c {x : Int32} : win x 0 99 = true ↔ ¬ x < 0 ∧ ¬ 99 < x := by
  unfold win
  rw [Bool.and_eq_true, decide_eq_true_eq, decide_eq_true_eq]
theorem lt_100 {x : Int32} : x < 100 ↔ ¬ 99 < x := by
  rw [Int32.lt_iff_toInt_lt, Int32.lt_iff_toInt_lt, show (100 : Int32).toInt = 100 by decide, show (99 : Int32).toInt = 99 by decide]
  omega
theorem v_takeRows (h : TC i n T) (hn : n ≤ 400) : Tt (f_Gu_takeRows i) (fun y => y.1 = (if tvb n T = true then 1 else 0) ∧ y.2 1595 1 = 0 ∧ (tvb n T = true → gOK n T y.2) ∧ fG i y.2) := by
  unfold f_Gu_takeRows
  refine tt_bnd ?_
  rw [h.1]
  have w0 : wr i 1595 1 0 1595 1 = 0 := wr_s
  have f1 : fG i (wr i 1595 1 0) := ⟨fun b j hb _ => wr_a hb, fun j hj => wr_k hj⟩
  by_cases c40 : 40 < n
  · have hv : ¬ tvb n T = true := fun q => by have := (tv_of q).1; omega
    rw [lit_nI 40, if_pos (nI_lt c40 (by omega)), if_neg hv]
    exact tt_some ⟨rfl, w0, fun q => absurd q hv, f1⟩
  · rw [lit_nI 40, if_neg (nI_nlt (by omega) (by omega)), lit_nI 2, rm_nI (by omega) (by decide) (by decide)]
    by_cases c2 : n % 2 = 0
    · rw [if_pos (show nI (n % 2) = 0 by rw [c2]; rfl), pk_div (by omega) (by decide) (by decide)]
      refine tt_bnd ?_
      refine tt_loop (fun q (s : Int32 × MI) => s.1 = nI q ∧ s.2 1631 4 = nI (n / 2) ∧ s.2 1595 1 = 0 ∧ (∀ k, k < q → s.2 1632 k = T (2 * k) ∧ s.2 1633 k = T (2 * k + 1)) ∧ (∀ k, k < 2 * q → win (T k) 0 99 = true) ∧ fG i s.2) (n / 2) (by omega) ?_ ?_ ⟨rfl, (show wr (wr i 1595 1 0) 1631 4 (nI (n / 2)) 1631 4 = _ from wr_s), ?_, fun k hk => by omega, fun k hk => by omega, ?_⟩
      · rintro q hq ⟨z, i2⟩ ⟨e1, e2, e3, e4, e5, e6⟩
        dsimp only at e1 e2 e3 e4 e5 e6 ⊢
        subst e1
        have ht : ∀ k, k < n → i2 1596 k = T k := fun k hk => (e6.1 1596 k (by decide) (by omega)).trans (h.2 k hk)
        rw [e2, if_pos (nI_lt hq (by omega)), mul_nI, grd_nI (show 2 * q < 400 by omega) (by decide), grd_nI (show q < 20 by omega) (by decide), ix_nI (show q < 2 ^ 31 by omega), ix_nI (show 2 * q < 2 ^ 31 by omega), ht (2 * q) (by omega)]
        refine tt_bnd ?_
        rw [nI_1, grd_nI (show 2 * q + 1 < 400 by omega) (by decide), ix_nI (show 2 * q + 1 < 2 ^ 31 by omega), show wr i2 1632 q (T (2 * q)) 1596 (2 * q + 1) = T (2 * q + 1) by rw [wr_a (by decide)]; exact ht _ (by omega)]
        refine tt_bnd ?_
        rw [show wr (wr i2 1632 q (T (2 * q))) 1633 q (T (2 * q + 1)) 1632 q = T (2 * q) by rw [wr_a (by decide), wr_s], wr_s]
        have f6 : fG i (wr (wr i2 1632 q (T (2 * q))) 1633 q (T (2 * q + 1))) := ⟨fun b j hb hb2 => by rw [wr_a (by omega), wr_a (by omega)]; exact e6.1 b j hb hb2, fun j hj => by rw [wr_a (by decide), wr_a (by decide)]; exact e6.2 j hj⟩
        have h31 : wr (wr i2 1632 q (T (2 * q))) 1633 q (T (2 * q + 1)) 1595 1 = 0 := by rw [wr_a (by decide), wr_a (by decide)]; exact e3
        have hbad : ∀ k, k < n → ¬ win (T k) 0 99 = true → Tt (some (Sum.inr (0, wr (wr i2 1632 q (T (2 * q))) 1633 q (T (2 * q + 1)))) : Option ((Int32 × MI) ⊕ (Int32 × MI))) (lpP (fun (s : Int32 × MI) => s.1 = nI (q + 1) ∧ s.2 1631 4 = nI (n / 2) ∧ s.2 1595 1 = 0 ∧ (∀ k, k < q + 1 → s.2 1632 k = T (2 * k) ∧ s.2 1633 k = T (2 * k + 1)) ∧ (∀ k, k < 2 * (q + 1) → win (T k) 0 99 = true) ∧ fG i s.2) (fun y => y.1 = (if tvb n T = true then 1 else 0) ∧ y.2 1595 1 = 0 ∧ (tvb n T = true → gOK n T y.2) ∧ fG i y.2)) := fun k hk hb => by
          have hv : ¬ tvb n T = true := fun q => by
            unfold tvb at q
            simp only [Bool.and_eq_true, decide_eq_true_eq] at q
            exact hb (q.2.2 k hk)
          exact tt_some ⟨by rw [if_neg hv], h31, fun q => absurd q hv, f6⟩
        by_cases a1 : T (2 * q) < 0
        · rw [if_pos a1]
          exact hbad (2 * q) (by omega) (fun w => (win_c.mp w).1 a1)
        · rw [if_neg a1]
          by_cases a2 : 99 < T (2 * q)
          · rw [if_neg (fun w => (lt_100.mp w) a2)]
            exact hbad (2 * q) (by omega) (fun w => (win_c.mp w).2 a2)
          · rw [if_pos (lt_100.mpr a2)]
            by_cases a3 : T (2 * q + 1) < 0
            · rw [if_pos a3]
              exact hbad (2 * q + 1) (by omega) (fun w => (win_c.mp w).1 a3)
            · rw [if_neg a3]
              by_cases a4 : 99 < T (2 * q + 1)
              · rw [if_pos a4]
                exact hbad (2 * q + 1) (by omega) (fun w => (win_c.mp w).2 a4)
              · rw [if_neg a4]
                refine tt_some ⟨nI_1 q, ?_, h31, fun k hk => ?_, fun k hk => ?_, f6⟩
                · show wr (wr i2 1632 q (T (2 * q))) 1633 q (T (2 * q + 1)) 1631 4 = _
                  rw [wr_a (by decide), wr_a (by decide)]; exact e2
                · show wr (wr i2 1632 q (T (2 * q))) 1633 q (T (2 * q + 1)) 1632 k = _ ∧ wr (wr i2 1632 q (T (2 * q))) 1633 q (T (2 * q + 1)) 1633 k = _
                  rw [wr_a (b := 1632) (by decide)]
                  by_cases e : k = q
                  · subst e; rw [wr_s, wr_s]; exact ⟨rfl, rfl⟩
                  · rw [wr_k e, wr_k e, wr_a (by decide)]; exact e4 k (by omega)
                · by_cases ea : k = 2 * q
                  · rw [ea]; exact win_c.mpr ⟨a1, a2⟩
                  · by_cases eb : k = 2 * q + 1
                    · rw [eb]; exact win_c.mpr ⟨a3, a4⟩
                    · exact e5 k (by omega)
      · rintro ⟨z, i2⟩ ⟨e1, e2, e3, e4, e5, e6⟩
        dsimp only at e1 e2 e3 e4 e5 e6 ⊢
        subst e1
        have hv : tvb n T = true := by
          unfold tvb
          rw [decide_eq_true (show n ≤ 40 by omega), decide_eq_true c2, decide_eq_true (fun k hk => e5 k (by omega))]
          rfl
        rw [e2, if_neg (nI_nlt (Nat.le_refl _) (by omega))]
        exact tt_some ⟨by rw [if_pos hv], e3, fun _ => ⟨e2, e4⟩, e6⟩
      · show wr (wr i 1595 1 0) 1631 4 (nI (n / 2)) 1595 1 = 0
        rw [wr_a (by decide), wr_s]
      · show fG i (wr (wr i 1595 1 0) 1631 4 (nI (n / 2)))
        exact ⟨fun b j hb hb2 => by rw [wr_a (by omega), wr_a hb], fun j hj => by rw [wr_a (by decide), wr_k hj]⟩
    · have hv : ¬ tvb n T = true := fun q => c2 (tv_of q).2.1
      rw [if_neg (fun q => c2 ((nI_z (by omega)).mp q)), if_neg hv]
      exact tt_some ⟨rfl, w0, fun q => absurd q hv, f1⟩
theorem v_isFitting (hv : tvb n T = true) (hg : gOK n T i) {p : Nat} (hp : p < 2000) : f_Gu_isFitting i (nI p) = some (if fts n T p = true then 1 else 0) := by
  obtain ⟨v1, v2, v3⟩ := tv_of hv
  have key : Tt (f_Gu_isFitting i (nI p)) (fun v => v = if fts n T p = true then 1 else 0) := by
    unfold f_Gu_isFitting
    refine tt_loop (fun q s => s = nI q ∧ ∀ k, k < q → fbN p (ix (T (2 * k))) = ix (T (2 * k + 1))) (n / 2) (by omega) ?_ ?_ ⟨rfl, fun k hk => by omega⟩
    · rintro q hq _ ⟨rfl, hk⟩
      obtain ⟨a, ha, ea⟩ := v3 (2 * q) (by omega)
      obtain ⟨b, hb, eb⟩ := v3 (2 * q + 1) (by omega)
      obtain ⟨g1, g2⟩ := hg.2 q hq
      have hfb := fbN_lt p a
      rw [hg.1, if_pos (nI_lt hq (by omega)), grd_nI (show q < 20 by omega) (by decide), ix_nI (by omega), g1, g2, ea, eb, gu_fresh hp (by omega), Option.bind_some]
      by_cases c : fbN p a = b
      · rw [if_pos (by rw [c])]
        refine tt_some ⟨nI_1 q, fun k hk2 => ?_⟩
        by_cases e : k = q
        · subst e; rw [ea, eb, ix_nI (by omega), ix_nI (by omega)]; exact c
        · exact hk k (by omega)
      · rw [if_neg (fun q => c ((nI_inj (by omega) (by omega)).mp q))]
        have hf : ¬ fts n T p = true := fun q2 => by
          unfold fts at q2
          rw [decide_eq_true_eq] at q2
          have := q2 q hq
          rw [ea, eb, ix_nI (by omega), ix_nI (by omega)] at this
          exact c this
        exact tt_some (by dsimp only [lpP]; rw [if_neg hf])
    · rintro _ ⟨rfl, hk⟩
      rw [hg.1, if_neg (nI_nlt (Nat.le_refl _) (by omega))]
      have hf : fts n T p = true := by unfold fts; rw [decide_eq_true_eq]; exact hk
      exact tt_some (by dsimp only [lpP]; rw [if_pos hf])
  obtain ⟨v, h1, rfl⟩ := key
  exact h1
def lOK (n : Nat) (T : Nat → Int32) (i : MI) : Prop := i 1631 5 = nI (cntb (fts n T) 2000) ∧ ∀ p, p < 2000 → fts n T p = true → i 1634 (cntb (fts n T) p) = nI p
theorem v_fit (hv : tvb n T = true) (hg : gOK n T i) : Tt (f_Gu_fit i) (fun i' => lOK n T i' ∧ ∀ b j, ¬ (b = 1631 ∧ j = 5) → b ≠ 1634 → i' b j = i b j) := by
  unfold f_Gu_fit
  refine tt_bnd ?_
  refine tt_bind (P1 := fun i' => lOK n T i' ∧ ∀ b j, ¬ (b = 1631 ∧ j = 5) → b ≠ 1634 → i' b j = i b j)
    (tt_loop (fun q (s : Int32 × MI) => s.1 = nI q ∧ s.2 1631 5 = nI (cntb (fts n T) q) ∧ (∀ p, p < q → fts n T p = true → s.2 1634 (cntb (fts n T) p) = nI p) ∧ ∀ b j, ¬ (b = 1631 ∧ j = 5) → b ≠ 1634 → s.2 b j = i b j) 2000 (by omega) ?_ ?_ ⟨rfl, (show wr i 1631 5 0 1631 5 = _ from wr_s), fun p hp => by omega, fun b j hb _ => if_neg hb⟩) (fun i' hi => tt_some hi)
  · rintro q hq ⟨z, i2⟩ ⟨e1, e2, e3, e4⟩
    dsimp only at e1 e2 e3 e4 ⊢
    subst e1
    have hg2 : gOK n T i2 := ⟨by rw [e4 _ _ (by omega) (by decide)]; exact hg.1, fun k hk => by rw [e4 _ _ (by omega) (by decide), e4 _ _ (by omega) (by decide)]; exact hg.2 k hk⟩
    have hcl := cntb_le (fts n T) q
    have hcs := cntb_s (fts n T) q
    rw [lit_nI 2000, if_pos (nI_lt hq (by omega)), v_isFitting hv hg2 hq, Option.bind_some]
    by_cases c : fts n T q = true
    · rw [if_pos c] at hcs
      rw [if_pos c, if_neg (show ¬ (1 : Int32) = 0 by decide), e2, nI_1]
      dsimp only [bnd]
      rw [grd_nI (show cntb (fts n T) q < 2000 by omega) (by decide), ix_nI (by omega), Option.bind_some]
      refine tt_some ⟨nI_1 q, ?_, fun p hp hf => ?_, fun b j hb hb2 => ?_⟩
      · show wr (wr i2 1631 5 (nI (cntb (fts n T) q + 1))) 1634 (cntb (fts n T) q) (nI q) 1631 5 = _
        rw [wr_a (by decide), wr_s, hcs]
      · show wr (wr i2 1631 5 (nI (cntb (fts n T) q + 1))) 1634 (cntb (fts n T) q) (nI q) 1634 (cntb (fts n T) p) = _
        by_cases e : p = q
        · subst e; rw [wr_s]
        · have hlt : cntb (fts n T) p < cntb (fts n T) q := by
            have h1 := cntb_mono (fts n T) (p + 1) (q - (p + 1))
            rw [show p + 1 + (q - (p + 1)) = q by omega, cntb_s, if_pos hf] at h1
            omega
          rw [wr_k (by omega), wr_a (by decide)]; exact e3 p (by omega) hf
      · show wr (wr i2 1631 5 (nI (cntb (fts n T) q + 1))) 1634 (cntb (fts n T) q) (nI q) b j = _
        have : wr i2 1631 5 (nI (cntb (fts n T) q + 1)) b j = i2 b j := if_neg hb
        rw [wr_a hb2, this]; exact e4 b j hb hb2
    · rw [if_neg c] at hcs
      rw [if_neg c, if_pos (show (0 : Int32) = 0 from rfl), Option.bind_some]
      refine tt_some ⟨nI_1 q, by rw [hcs]; exact e2, fun p hp hf => ?_, e4⟩
      by_cases e : p = q
      · subst e; exact absurd hf c
      · exact e3 p (by omega) hf
  · rintro ⟨z, i2⟩ ⟨e1, e2, e3, e4⟩
    dsimp only at e1 e2 e3 e4 ⊢
    subst e1
    rw [lit_nI 2000, if_neg (nI_nlt (Nat.le_refl _) (by omega))]
    exact tt_some ⟨⟨e2, e3⟩, e4⟩
/-- what the class's call makes -/
def GO (p : Int32 × Int32) (i : MI) (T : Nat → Int32) : (Int32 ⊕ Nat) × MI → Prop := fun y => y.1 = toC [20] p ∧ TC y.2 0 T ∧ fG i y.2
theorem v_turned (h : TC i n T) (hn : n ≤ 400) (x : Int32) : Tt (f_Lc_turned i x) (GO (spTurned n T x) i T) := by
  unfold f_Lc_turned f_Lc_needRowsOnTape spTurned
  refine tt_bind (P1 := fun y => y.1 = (if tvb n T = true then .inl () else .inr 20) ∧ y.2 1595 1 = 0 ∧ (tvb n T = true → gOK n T y.2) ∧ fG i y.2) ?_ ?_
  · refine tt_bind (v_takeRows h hn) ?_
    rintro ⟨v, i2⟩ ⟨e1, e2, e3, e4⟩
    dsimp only at e1 e2 e3 e4 ⊢
    subst e1
    by_cases hv : tvb n T = true
    · rw [if_pos hv, if_neg (show ¬ (1 : Int32) = 0 by decide), if_pos hv]
      exact tt_some ⟨rfl, e2, e3, e4⟩
    · rw [if_neg hv, if_pos (show (0 : Int32) = 0 from rfl), if_neg hv]
      exact tt_some ⟨rfl, e2, e3, e4⟩
  · rintro ⟨v, i2⟩ ⟨e1, e2, e3, e4⟩
    dsimp only at e1 e2 e3 e4 ⊢
    subst e1
    by_cases hv : tvb n T = true
    · rw [if_pos hv, if_pos hv]
      dsimp only
      refine tt_bind (v_fit hv (e3 hv)) ?_
      rintro i3 ⟨u1, u2⟩
      have f3 : fG i i3 := ⟨fun b j hb hb2 => (u2 b j (by omega) (by omega)).trans (e4.1 b j hb hb2), fun j hj => (u2 1595 j (by omega) (by decide)).trans (e4.2 j hj)⟩
      have ht : TC i3 0 T := ⟨(u2 1595 1 (by omega) (by decide)).trans e2, fun k hk => absurd hk (Nat.not_lt_zero k)⟩
      have hcl := cntb_le (fts n T) 2000
      by_cases hx : x = 0
      · rw [if_pos hx, if_pos hx, u1.1]
        exact tt_some ⟨rfl, ht, f3⟩
      · rw [if_neg hx, if_neg hx, u1.1]
        by_cases c0 : cntb (fts n T) 2000 = 0
        · rw [if_pos (show nI (cntb (fts n T) 2000) = 0 by rw [c0]; rfl), if_pos c0]
          exact tt_some ⟨rfl, ht, f3⟩
        · rw [if_neg (fun q => c0 ((nI_z (by omega)).mp q)), if_neg c0]
          obtain ⟨p, p1, p2, p3⟩ := cntb_at (fts n T) 2000 0 (by omega)
          have ep : ffs (fts n T) 2000 0 = p := ffs_eq 2000 0 p (fun f _ hf => by
            cases c : fts n T f
            · rfl
            · have h1 := cntb_mono (fts n T) (f + 1) (p - (f + 1))
              rw [show f + 1 + (p - (f + 1)) = p by omega, cntb_s, if_pos c] at h1
              omega) (Nat.zero_le p) (by omega) (fun _ => p2)
          have := u1.2 p p1 p2
          rw [p3] at this
          rw [this, ep]
          exact tt_some ⟨rfl, ht, f3⟩
    · rw [if_neg hv, if_neg hv]
      exact tt_some ⟨rfl, ⟨e2, fun k hk => absurd hk (Nat.not_lt_zero k)⟩, e4⟩
theorem v_greatest (hl : lOK n T i) {d B : Nat} (hd : d < 100) (hB : B ≤ 2001) : Tt (f_Gu_greatestPart i (nI d) (nI B)) (fun y => (∃ v, v ≤ 2000 ∧ y.1 = nI v ∧ (v < B ↔ gqq n T d 2000 < B) ∧ (v < B → v = gqq n T d 2000)) ∧ ∀ b j, b ≠ 1635 → y.2 b j = i b j) := by
  have hcl := cntb_le (fts n T) 2000
  unfold f_Gu_greatestPart
  refine tt_bind (v_filln (by decide) 0) ?_
  intro i1 hf
  refine tt_bind (P1 := fun y => (∃ v, v ≤ 2000 ∧ y.1 = nI v ∧ (v < B ↔ gqq n T d 2000 < B) ∧ (v < B → v = gqq n T d 2000)) ∧ ∀ b j, b ≠ 1635 → y.2 b j = i b j)
    (tt_loop (fun j (s : Int32 × Int32 × MI) => s.2.1 = nI j ∧ (∃ q, q ≤ 2000 ∧ cntb (fts n T) q = j ∧ s.1 = nI (gqq n T d q) ∧ ∀ v, v < 100 → s.2.2 1635 v = nI (cvv n T d v q)) ∧ ∀ b j, b ≠ 1635 → s.2.2 b j = i b j) (cntb (fts n T) 2000) (by omega) ?_ ?_ ⟨rfl, ⟨0, by omega, rfl, rfl, fun v hv => ?_⟩, fun b j hb => ?_⟩) (fun y hy => tt_some hy)
  · rintro j hj ⟨x3, x4, i2⟩ ⟨e1, ⟨q, q1, q2, q3, q4⟩, e4⟩
    dsimp only at e1 q3 q4 e4 ⊢
    subst e1 q3
    obtain ⟨p, p1, p2, p3⟩ := cntb_at (fts n T) 2000 j hj
    obtain ⟨g1, g2⟩ := gap2 (d := d) (q2.trans p3.symm)
    have hgl := gqq_le (n := n) (T := T) d q
    rw [show i2 1631 5 = nI (cntb (fts n T) 2000) from (e4 _ _ (by decide)).trans hl.1, if_pos (nI_lt hj (by omega))]
    by_cases cB : gqq n T d q < B
    · have hfl := fbN_lt p d
      have hcv := cntb_le (fun p => fts n T p && decide (fbN p d = fbN p d)) (p + 1)
      have hcv1 := cntb_le (fun p' => fts n T p' && decide (fbN p' d = fbN p d)) (p + 1)
      have e34 : i2 1634 j = nI p := by
        rw [e4 _ _ (by decide)]
        have := hl.2 p p1 p2
        rw [p3] at this
        exact this
      have hcs : cvv n T d (fbN p d) (p + 1) = cvv n T d (fbN p d) q + 1 := by
        rw [g2]
        unfold cvv
        rw [cntb_s, if_pos (by rw [p2, decide_eq_true rfl]; rfl)]
      rw [if_pos (nI_lt cB (by omega)), grd_nI (show j < 2000 by omega) (by decide), ix_nI (show j < 2 ^ 31 by omega), e34, gu_fresh p1 hd, Option.bind_some, grd_nI hfl (by decide), ix_nI (by omega), q4 _ hfl, nI_1, ← hcs]
      refine tt_bnd ?_
      rw [wr_s, j_max, jmax_nI (by omega) (by unfold cvv; omega), Option.bind_some]
      refine tt_some ⟨nI_1 j, ⟨p + 1, by omega, by rw [cntb_s, if_pos p2, p3], ?_, fun v hv => ?_⟩, fun b j' hb => ?_⟩
      · show nI (max (gqq n T d q) (cvv n T d (fbN p d) (p + 1))) = _
        rw [gqq_s, if_pos p2, g1]
      · show wr i2 1635 (fbN p d) (nI (cvv n T d (fbN p d) (p + 1))) 1635 v = _
        by_cases e : v = fbN p d
        · subst e; rw [wr_s]
        · rw [wr_k e, q4 v hv, g2 v]
          congr 1
          unfold cvv
          rw [cntb_s, if_neg (by rw [p2, decide_eq_false (fun q => e q.symm)]; decide)]
      · show wr i2 1635 (fbN p d) (nI (cvv n T d (fbN p d) (p + 1))) b j' = _
        rw [wr_a hb]; exact e4 b j' hb
    · have hmono := gqq_mono (n := n) (T := T) d q (2000 - q)
      rw [show q + (2000 - q) = 2000 by omega] at hmono
      rw [if_neg (nI_nlt (by omega) (by omega))]
      exact tt_some ⟨⟨gqq n T d q, by omega, rfl, by omega, fun w => absurd w cB⟩, e4⟩
  · rintro ⟨x3, x4, i2⟩ ⟨e1, ⟨q, q1, q2, q3, q4⟩, e4⟩
    dsimp only at e1 q3 q4 e4 ⊢
    subst e1 q3
    obtain ⟨g1, -⟩ := gap2 (d := d) q2
    have hgl := gqq_le (n := n) (T := T) d 2000
    rw [show i2 1631 5 = nI (cntb (fts n T) 2000) from (e4 _ _ (by decide)).trans hl.1, if_neg (nI_nlt (Nat.le_refl _) (by omega)), g1]
    exact tt_some ⟨⟨gqq n T d 2000, hgl, rfl, Iff.rfl, fun _ => rfl⟩, e4⟩
  · show i1 1635 v = _
    rw [hf, if_pos ⟨rfl, hv⟩]; rfl
  · show i1 b j = _
    rw [hf, if_neg (fun q => hb q.1)]
theorem v_ask (h : TC i n T) (hn : n ≤ 400) : Tt (f_Lc_ask i) (GO (spAsk n T) i T) := by
  unfold f_Lc_ask f_Lc_needRowsOnTape spAsk
  refine tt_bind (P1 := fun y => y.1 = (if tvb n T = true then .inl () else .inr 20) ∧ y.2 1595 1 = 0 ∧ (tvb n T = true → gOK n T y.2) ∧ fG i y.2) ?_ ?_
  · refine tt_bind (v_takeRows h hn) ?_
    rintro ⟨v, i2⟩ ⟨e1, e2, e3, e4⟩
    dsimp only at e1 e2 e3 e4 ⊢
    subst e1
    by_cases hv : tvb n T = true
    · rw [if_pos hv, if_neg (show ¬ (1 : Int32) = 0 by decide), if_pos hv]
      exact tt_some ⟨rfl, e2, e3, e4⟩
    · rw [if_neg hv, if_pos (show (0 : Int32) = 0 from rfl), if_neg hv]
      exact tt_some ⟨rfl, e2, e3, e4⟩
  · rintro ⟨v, i2⟩ ⟨e1, e2, e3, e4⟩
    dsimp only at e1 e2 e3 e4 ⊢
    subst e1
    by_cases hv : tvb n T = true
    · rw [if_pos hv, if_pos hv]
      dsimp only
      refine tt_bind (v_fit hv (e3 hv)) ?_
      rintro i3 ⟨u1, u2⟩
      have f3 : fG i i3 := ⟨fun b j hb hb2 => (u2 b j (by omega) (by omega)).trans (e4.1 b j hb hb2), fun j hj => (u2 1595 j (by omega) (by decide)).trans (e4.2 j hj)⟩
      have ht : i3 1595 1 = 0 := (u2 1595 1 (by omega) (by decide)).trans e2
      have hcl := cntb_le (fts n T) 2000
      unfold f_Gu_bestQuestion
      rw [u1.1]
      by_cases c2 : cntb (fts n T) 2000 < 2
      · rw [if_pos (show nI (cntb (fts n T) 2000) < 2 from nI_lt (b := 2) c2 (by decide)), if_pos c2]
        exact tt_some ⟨rfl, ⟨ht, fun k hk => absurd hk (Nat.not_lt_zero k)⟩, f3⟩
      · rw [if_neg (show ¬ nI (cntb (fts n T) 2000) < 2 from nI_nlt (b := 2) (by omega) (by omega)), if_neg c2, nI_1]
        refine tt_bind (P1 := fun y => y.1 = (asq n T 100).1 ∧ ∀ b j, b ≠ 1635 → y.2 b j = i3 b j) ?_ ?_
        · refine tt_bind (P1 := fun y => y.1 = (asq n T 100).1 ∧ ∀ b j, b ≠ 1635 → y.2 b j = i3 b j)
            (tt_loop (fun q (s : Int32 × Int32 × Int32 × MI) => s.1 = (asq n T q).1 ∧ s.2.1 = nI (asq n T q).2 ∧ s.2.2.1 = nI q ∧ ∀ b j, b ≠ 1635 → s.2.2.2 b j = i3 b j) 100 (by omega) ?_ ?_ ⟨rfl, rfl, rfl, fun _ _ _ => rfl⟩) (fun y hy => tt_some hy)
          · rintro q hq ⟨x1, x2, x3, i4⟩ ⟨k1, k2, k3, k4⟩
            dsimp only at k1 k2 k3 k4 ⊢
            subst k1 k2 k3
            have hal := asq_le (n := n) (T := T) q
            have hl4 : lOK n T i4 := ⟨by rw [k4 _ _ (by decide)]; exact u1.1, fun p hp hf => by rw [k4 _ _ (by decide)]; exact u1.2 p hp hf⟩
            rw [lit_nI 100, if_pos (nI_lt hq (by omega))]
            refine tt_bind (v_greatest hl4 hq hal) ?_
            rintro ⟨w, i5⟩ ⟨⟨v, v0, v1, v2, v3⟩, g5⟩
            dsimp only at v1 g5 ⊢
            subst v1
            have hs := asq_s (n := n) (T := T) q
            by_cases c : v < (asq n T q).2
            · rw [if_pos (v2.mp c)] at hs
              rw [if_pos (nI_lt c (by omega)), Option.bind_some, hs]
              exact tt_some ⟨rfl, by rw [v3 c], nI_1 q, fun b j hb => (g5 b j hb).trans (k4 b j hb)⟩
            · rw [if_neg (fun q => c (v2.mpr q))] at hs
              rw [if_neg (nI_nlt (by omega) (by omega)), Option.bind_some, hs]
              exact tt_some ⟨rfl, rfl, nI_1 q, fun b j hb => (g5 b j hb).trans (k4 b j hb)⟩
          · rintro ⟨x1, x2, x3, i4⟩ ⟨k1, k2, k3, k4⟩
            dsimp only at k1 k2 k3 k4 ⊢
            subst k3
            rw [lit_nI 100, if_neg (nI_nlt (Nat.le_refl _) (by omega))]
            exact tt_some ⟨k1, k4⟩
        · rintro ⟨w, i4⟩ ⟨k1, k4⟩
          dsimp only at k1 k4 ⊢
          rw [k1]
          generalize (asq n T 100).1 = z
          exact tt_some ⟨rfl, ⟨(k4 1595 1 (by decide)).trans ht, fun k hk => absurd hk (Nat.not_lt_zero k)⟩, fun b j hb hb2 => (k4 b j (by omega)).trans (f3.1 b j hb hb2), fun j hj => (k4 1595 j (by decide)).trans (f3.2 j hj)⟩
    · rw [if_neg hv, if_neg hv]
      exact tt_some ⟨rfl, ⟨e2, fun k hk => absurd hk (Nat.not_lt_zero k)⟩, e4⟩
end TURNED
