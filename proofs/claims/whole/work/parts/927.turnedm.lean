/-! ===== turned, ask: the reference ===== -/
section TURNEDM
variable {i : MI} {n : Nat} {T : Nat → Int32}
/-- what these calls of the reference leave alone -/
def fu (i i' : MI) : Prop := (∀ b j, (b < 1638 ∨ b = 1639 ∨ b = 1640 ∨ b = 1643 ∨ b = 1644 ∨ 1658 ≤ b) → i' b j = i b j) ∧ ∀ j, j ≠ 0 → j ≠ 9 → j ≠ 10 → j ≠ 11 → i' 1638 j = i 1638 j
def UO (i : MI) (p : Int32 × Int32) : Int32 × MI → Prop := fun y => y.2 1638 0 = p.1 ∧ (p.1 = 0 → y.1 = p.2) ∧ y.2 1638 9 = 0 ∧ fu i y.2
def uOK (n : Nat) (T : Nat → Int32) (i : MI) : Prop := i 1638 11 = nI n ∧ i 1638 9 = 0 ∧ i 1638 0 = 0 ∧ ∀ k, k < n → i 1644 k = T k
theorem uOK.c {i' : MI} (h : uOK n T i) (he : ∀ b j, b = 1638 ∨ b = 1644 → i' b j = i b j) : uOK n T i' := ⟨by rw [he _ _ (Or.inl rfl)]; exact h.1, by rw [he _ _ (Or.inl rfl)]; exact h.2.1, by rw [he _ _ (Or.inl rfl)]; exact h.2.2.1, fun k hk => by rw [he _ _ (Or.inr rfl)]; exact h.2.2.2 k hk⟩
theorem m_uses (h : TM i n T) : Tt (f_Mo_uses i) (fun i' => uOK n T i' ∧ fu i i') := by
  unfold f_Mo_uses
  refine tt_bnd (tt_bnd (tt_bnd (tt_bnd (tt_some ⟨⟨?_, ?_, ?_, fun k hk => ?_⟩, fun b j hb => ?_, fun j h0 h9 h10 h11 => ?_⟩))))
  · rw [wr_k (by decide), wr_k (by decide), wr_s, wr_k (by decide)]; exact h.1
  · rw [wr_k (by decide), wr_s]
  · rw [wr_k (by decide), wr_k (by decide), wr_k (by decide), wr_s]
  · rw [wr_a (by decide), wr_a (by decide), wr_a (by decide), wr_a (by decide)]; exact h.2 k hk
  · rw [wr_a (by omega), wr_a (by omega), wr_a (by omega), wr_a (by omega)]
  · rw [wr_k h10, wr_k h9, wr_k h11, wr_k h0]
theorem m_isTurned (h : uOK n T i) (hn : n ≤ 400) : f_Mo_isTurned i = some (if tvb n T = true then 1 else 0) := by
  have key : Tt (f_Mo_isTurned i) (fun v => v = if tvb n T = true then 1 else 0) := by
    unfold f_Mo_isTurned
    rw [h.1, lit_nI 2, rm_nI (by omega) (by decide) (by decide)]
    by_cases c : n % 2 = 0 ∧ n ≤ 40
    · rw [if_pos (show nI (n % 2) = 0 by rw [c.1]; rfl), lit_nI 40, if_neg (nI_nlt (by omega) (by omega)), Option.bind_some]
      refine tt_bind (P1 := fun v => v = if tvb n T = true then 1 else 0)
        (tt_loop (fun q (s : Int32 × Int32) => s.2 = nI (2 * q) ∧ ((s.1 = 1 ∧ ∀ k, k < 2 * q → win (T k) 0 99 = true) ∨ (s.1 = 0 ∧ ¬ tvb n T = true))) (n / 2) (by omega) ?_ ?_ ⟨rfl, Or.inl ⟨rfl, fun k hk => by omega⟩⟩) ?_
      · rintro q hq ⟨x1, x2⟩ ⟨e1, e2⟩
        dsimp only at e1 e2 ⊢
        subst e1
        rw [if_pos (nI_lt (by omega) (by omega))]
        rcases e2 with ⟨rfl, e3⟩ | ⟨rfl, e3⟩
        · rw [if_neg (show ¬ (1 : Int32) = 0 by decide), grd_nI (show 2 * q < 400 by omega) (by decide), ix_nI (by omega), h.2.2.2 _ (by omega), mo_win, Option.bind_some]
          refine tt_bind (P1 := fun v => (v = 1 ∧ win (T (2 * q)) 0 99 = true ∧ win (T (2 * q + 1)) 0 99 = true) ∨ (v = 0 ∧ ¬ (win (T (2 * q)) 0 99 = true ∧ win (T (2 * q + 1)) 0 99 = true))) ?_ ?_
          · by_cases c1 : win (T (2 * q)) 0 99 = true
            · rw [if_pos c1, if_neg (show ¬ (1 : Int32) = 0 by decide), nI_1, grd_nI (show 2 * q + 1 < 400 by omega) (by decide), ix_nI (by omega), h.2.2.2 _ (by omega), mo_win, Option.bind_some]
              by_cases c2 : win (T (2 * q + 1)) 0 99 = true
              · rw [if_pos c2, if_neg (show ¬ (1 : Int32) = 0 by decide)]
                exact tt_some (Or.inl ⟨rfl, c1, c2⟩)
              · rw [if_neg c2, if_pos (show (0 : Int32) = 0 from rfl)]
                exact tt_some (Or.inr ⟨rfl, fun q => c2 q.2⟩)
            · rw [if_neg c1, if_pos (show (0 : Int32) = 0 from rfl)]
              exact tt_some (Or.inr ⟨rfl, fun q => c1 q.1⟩)
          · rintro v hv
            refine tt_some ⟨by show nI (2 * q) + nI 2 = _; rw [nI_add]; rfl, ?_⟩
            rcases hv with ⟨rfl, c1, c2⟩ | ⟨rfl, c1⟩
            · refine Or.inl ⟨rfl, fun k hk => ?_⟩
              by_cases ea : k = 2 * q
              · rw [ea]; exact c1
              · by_cases eb : k = 2 * q + 1
                · rw [eb]; exact c2
                · exact e3 k (by omega)
            · refine Or.inr ⟨rfl, fun q2 => c1 ?_⟩
              unfold tvb at q2
              simp only [Bool.and_eq_true, decide_eq_true_eq] at q2
              exact ⟨q2.2.2 _ (by omega), q2.2.2 _ (by omega)⟩
        · rw [if_pos (show (0 : Int32) = 0 from rfl)]
          exact tt_some (by dsimp only [lpP]; rw [if_neg e3])
      · rintro ⟨x1, x2⟩ ⟨e1, e2⟩
        dsimp only at e1 e2 ⊢
        subst e1
        rw [if_neg (nI_nlt (by omega) (by omega))]
        rcases e2 with ⟨rfl, e3⟩ | ⟨rfl, e3⟩
        · have hv : tvb n T = true := by
            unfold tvb
            rw [decide_eq_true c.2, decide_eq_true c.1, decide_eq_true (fun k hk => e3 k (by omega))]
            rfl
          exact tt_some (by dsimp only [lpP]; rw [if_pos hv])
        · exact tt_some (by dsimp only [lpP]; rw [if_neg e3])
      · rintro v rfl
        refine tt_grd2 (decide_eq_true ?_) (tt_some rfl)
        by_cases hv : tvb n T = true
        · rw [if_pos hv]; exact Or.inr rfl
        · rw [if_neg hv]; exact Or.inl rfl
    · have hv : ¬ tvb n T = true := fun q => c ⟨(tv_of q).2.1, (tv_of q).1⟩
      have hpos : 0 < n := by
        rcases Nat.eq_zero_or_pos n with q | q
        · exact absurd ⟨by rw [q], by omega⟩ c
        · exact q
      refine tt_bind (P1 := fun v => v = 0) ?_ ?_
      · by_cases c2 : n % 2 = 0
        · rw [if_pos (show nI (n % 2) = 0 by rw [c2]; rfl), lit_nI 40, if_pos (nI_lt (by omega) (by omega))]
          exact tt_some rfl
        · rw [if_neg (fun q => c2 ((nI_z (by omega)).mp q))]
          exact tt_some rfl
      · rintro v rfl
        refine tt_bind (P1 := fun v => v = 0)
          (tt_loop (fun q (s : Int32 × Int32) => s = (0, 0) ∧ q = 0) 1 (by omega) ?_ ?_ ⟨rfl, rfl⟩) ?_
        · rintro q hq _ ⟨rfl, -⟩
          dsimp only
          rw [if_pos (show (0 : Int32) < nI n by rw [lit_nI 0]; exact nI_lt hpos (by omega)), if_pos (show (0 : Int32) = 0 from rfl)]
          exact tt_some rfl
        · rintro _ ⟨rfl, q⟩
          exact absurd q (by decide)
        · rintro v rfl
          exact tt_grd2 (by decide) (tt_some (by rw [if_neg hv]))
  obtain ⟨v, h1, rfl⟩ := key
  exact h1
def pOK (n : Nat) (T : Nat → Int32) (i : MI) : Prop := ∀ p, p < 2000 → i 1652 p = if fts n T p = true then 1 else 0
theorem m_laysFit (h : uOK n T i) (hv : tvb n T = true) : Tt (f_Mo_laysPairsThatFit i) (fun y => y.1 = nI (cntb (fts n T) 2000) ∧ pOK n T y.2 ∧ ∀ b j, b ≠ 1652 → y.2 b j = i b j) := by
  obtain ⟨v1, v2, v3⟩ := tv_of hv
  unfold f_Mo_laysPairsThatFit
  refine tt_bind (P1 := fun y => y.1 = nI (cntb (fts n T) 2000) ∧ pOK n T y.2 ∧ ∀ b j, b ≠ 1652 → y.2 b j = i b j)
    (tt_loop (fun q (s : Int32 × Int32 × MI) => s.1 = nI (cntb (fts n T) q) ∧ s.2.1 = nI q ∧ (∀ p, p < q → s.2.2 1652 p = if fts n T p = true then 1 else 0) ∧ ∀ b j, b ≠ 1652 → s.2.2 b j = i b j) 2000 (by omega) ?_ ?_ ⟨rfl, rfl, fun p hp => by omega, fun _ _ _ => rfl⟩) (fun y hy => tt_some hy)
  · rintro q hq ⟨x1, x2, i2⟩ ⟨e1, e2, e3, e4⟩
    dsimp only at e1 e2 e3 e4 ⊢
    subst e1 e2
    have h2 : uOK n T i2 := h.c (fun b j hb => e4 b j (by omega))
    rw [lit_nI 2000, if_pos (nI_lt hq (by omega)), h2.1]
    refine tt_bind (P1 := fun v => v = if fts n T q = true then 1 else 0)
      (tt_loop (fun k (s : Int32 × Int32) => s.2 = nI (2 * k) ∧ ((s.1 = 1 ∧ ∀ k', k' < k → fbN q (ix (T (2 * k'))) = ix (T (2 * k' + 1))) ∨ (s.1 = 0 ∧ ¬ fts n T q = true))) (n / 2) (by omega) ?_ ?_ ⟨rfl, Or.inl ⟨rfl, fun k hk => by omega⟩⟩) ?_
    · rintro k hk ⟨x3, x4⟩ ⟨g1, g2⟩
      dsimp only at g1 g2 ⊢
      subst g1
      rw [if_pos (nI_lt (by omega) (by omega))]
      rcases g2 with ⟨rfl, g3⟩ | ⟨rfl, g3⟩
      · obtain ⟨a, ha, ea⟩ := v3 (2 * k) (by omega)
        obtain ⟨b, hb, eb⟩ := v3 (2 * k + 1) (by omega)
        have hfb := fbN_lt q a
        rw [if_neg (show ¬ (1 : Int32) = 0 by decide), grd_nI (show 2 * k < 400 by omega) (by decide), ix_nI (by omega), h2.2.2.2 _ (by omega), ea, mo_fresh hq (by omega), Option.bind_some, nI_1, grd_nI (show 2 * k + 1 < 400 by omega) (by decide), ix_nI (by omega), h2.2.2.2 _ (by omega), eb]
        have e22 : nI (2 * k) + 2 = nI (2 * (k + 1)) := by show nI (2 * k) + nI 2 = _; rw [nI_add]; rfl
        by_cases c : fbN q a = b
        · rw [if_pos (by rw [c]), Option.bind_some]
          refine tt_some ⟨e22, Or.inl ⟨rfl, fun k' hk' => ?_⟩⟩
          by_cases e : k' = k
          · subst e; rw [ea, eb, ix_nI (by omega), ix_nI (by omega)]; exact c
          · exact g3 k' (by omega)
        · rw [if_neg (fun q => c ((nI_inj (by omega) (by omega)).mp q)), Option.bind_some]
          refine tt_some ⟨e22, Or.inr ⟨rfl, fun q2 => ?_⟩⟩
          unfold fts at q2
          rw [decide_eq_true_eq] at q2
          have := q2 k hk
          rw [ea, eb, ix_nI (by omega), ix_nI (by omega)] at this
          exact c this
      · rw [if_pos (show (0 : Int32) = 0 from rfl)]
        exact tt_some (by dsimp only [lpP]; rw [if_neg g3])
    · rintro ⟨x3, x4⟩ ⟨g1, g2⟩
      dsimp only at g1 g2 ⊢
      subst g1
      rw [if_neg (nI_nlt (by omega) (by omega))]
      rcases g2 with ⟨rfl, g3⟩ | ⟨rfl, g3⟩
      · have hf : fts n T q = true := by unfold fts; rw [decide_eq_true_eq]; exact g3
        exact tt_some (by dsimp only [lpP]; rw [if_pos hf])
      · exact tt_some (by dsimp only [lpP]; rw [if_neg g3])
    · rintro v rfl
      have hcl := cntb_le (fts n T) q
      have hcs := cntb_s (fts n T) q
      rw [grd_nI (show q < 2000 by omega) (by decide), ix_nI (by omega)]
      refine tt_grd2 (decide_eq_true (by by_cases c : fts n T q = true <;> simp [c])) ?_
      refine tt_bnd ?_
      have hw : ∀ p, p < q + 1 → wr i2 1652 q (if fts n T q = true then 1 else 0) 1652 p = if fts n T p = true then 1 else 0 := fun p hp => by
        by_cases e : p = q
        · subst e; rw [wr_s]
        · rw [wr_k e]; exact e3 p (by omega)
      by_cases c : fts n T q = true
      · rw [if_pos c] at hcs
        rw [if_pos c] at hw ⊢
        rw [if_neg (show ¬ (1 : Int32) = 0 by decide), Option.bind_some]
        exact tt_some ⟨by rw [hcs]; exact nI_1 _, nI_1 q, hw, fun b j hb => (wr_a hb).trans (e4 b j hb)⟩
      · rw [if_neg c] at hcs
        rw [if_neg c] at hw ⊢
        rw [if_pos (show (0 : Int32) = 0 from rfl), Option.bind_some]
        exact tt_some ⟨by rw [hcs]; exact Int32.add_zero _, nI_1 q, hw, fun b j hb => (wr_a hb).trans (e4 b j hb)⟩
  · rintro ⟨x1, x2, i2⟩ ⟨e1, e2, e3, e4⟩
    dsimp only at e1 e2 e3 e4 ⊢
    subst e2
    rw [lit_nI 2000, if_neg (nI_nlt (Nat.le_refl _) (by omega))]
    exact tt_some ⟨e1, e3, e4⟩
theorem fu_52 {i i1 i2 : MI} (h : fu i i1) (he : ∀ b j, b ≠ 1652 → b ≠ 1653 → i2 b j = i1 b j) : fu i i2 := ⟨fun b j hb => (he b j (by omega) (by omega)).trans (h.1 b j hb), fun j h0 h9 h10 h11 => (he 1638 j (by decide) (by decide)).trans (h.2 j h0 h9 h10 h11)⟩
theorem fu_t {i i1 : MI} (h : fu i i1) (v : Int32) : fu i (wr i1 1638 0 v) := ⟨fun b j hb => by rw [wr_a (by omega)]; exact h.1 b j hb, fun j h0 h9 h10 h11 => by rw [wr_k h0]; exact h.2 j h0 h9 h10 h11⟩
theorem m_turned (h : TM i n T) (hn : n ≤ 400) (x : Int32) : Tt (f_Mo_turned i x) (UO i (spTurned n T x)) := by
  unfold f_Mo_turned spTurned
  refine tt_bind (m_uses h) ?_
  rintro i1 ⟨u1, u2⟩
  rw [m_isTurned u1 hn, Option.bind_some]
  by_cases hv : tvb n T = true
  · rw [if_pos hv, if_neg (show ¬ (1 : Int32) = 0 by decide), Option.bind_some, thr0, Option.bind_some, if_pos hv]
    dsimp only
    rw [if_pos (show (0 : Int32) = 0 from rfl)]
    refine tt_bind (m_laysFit u1 hv) ?_
    rintro ⟨v, i2⟩ ⟨a1, a2, a3⟩
    dsimp only at a1 a2 a3 ⊢
    subst a1
    have hcl := cntb_le (fts n T) 2000
    have u3 := u1.c (i' := i2) (fun b j hb => a3 b j (by omega))
    have f2 : fu i i2 := fu_52 u2 (fun b j hb _ => a3 b j hb)
    refine tt_bind (P1 := fun v => v = if cntb (fts n T) 2000 = 0 then -1 else nI (ffs (fts n T) 2000 0))
      (tt_loop (fun q (s : Int32 × Int32) => s.2 = nI (2000 - q) - 1 ∧ ((s.1 = -1 ∧ ∀ p, 2000 - q ≤ p → p < 2000 → fts n T p = false) ∨ ∃ p, 2000 - q ≤ p ∧ p < 2000 ∧ s.1 = nI p ∧ fts n T p = true ∧ ∀ p', 2000 - q ≤ p' → p' < p → fts n T p' = false)) 2000 (by omega) ?_ ?_ ⟨by decide, Or.inl ⟨rfl, fun p h1 h2 => by omega⟩⟩) ?_
    · rintro q hq ⟨x3, x4⟩ ⟨e1, e2⟩
      dsimp only at e1 e2 ⊢
      have ez : x4 = nI (2000 - (q + 1)) := by rw [e1, show 2000 - q = (2000 - (q + 1)) + 1 by omega, nI_pred]
      subst ez
      rw [if_neg (nI_pos (by omega)), grd_nI (show 2000 - (q + 1) < 2000 by omega) (by decide), ix_nI (by omega)]
      by_cases c : fts n T (2000 - (q + 1)) = true
      · rw [if_neg (show ¬ i2 1652 (2000 - (q + 1)) = 0 by rw [a2 _ (by omega), if_pos c]; decide), Option.bind_some]
        exact tt_some ⟨addm _, Or.inr ⟨2000 - (q + 1), Nat.le_refl _, by omega, rfl, c, fun p' h1 h2 => by omega⟩⟩
      · rw [if_pos (show i2 1652 (2000 - (q + 1)) = 0 by rw [a2 _ (by omega), if_neg c]), Option.bind_some]
        refine tt_some ⟨addm _, ?_⟩
        have hall : ∀ p, 2000 - (q + 1) ≤ p → ¬ 2000 - q ≤ p → fts n T p = false := fun p h1 h2 => by
          rw [show p = 2000 - (q + 1) by omega]; exact Bool.eq_false_iff.mpr c
        rcases e2 with ⟨g1, g2⟩ | ⟨p, g1, g2, g3, g4, g5⟩
        · refine Or.inl ⟨g1, fun p h1 h2 => ?_⟩
          by_cases e : 2000 - q ≤ p
          · exact g2 p e h2
          · exact hall p h1 e
        · refine Or.inr ⟨p, by omega, g2, g3, g4, fun p' h1 h2 => ?_⟩
          by_cases e : 2000 - q ≤ p'
          · exact g5 p' e h2
          · exact hall p' h1 e
    · rintro ⟨x3, x4⟩ ⟨e1, e2⟩
      dsimp only at e1 e2 ⊢
      subst e1
      rw [if_pos ((dn_neg2 (by omega)).mpr (by omega))]
      refine tt_some ?_
      rcases e2 with ⟨g1, g2⟩ | ⟨p, g1, g2, g3, g4, g5⟩
      · have h0 : cntb (fts n T) 2000 = 0 := by
          rcases Nat.eq_zero_or_pos (cntb (fts n T) 2000) with q | q
          · exact q
          · obtain ⟨p, p1, p2, -⟩ := cntb_at (fts n T) 2000 0 q
            rw [g2 p (by omega) p1] at p2; exact absurd p2 (by decide)
        show x3 = _
        rw [g1, if_pos h0]
      · have h1 : cntb (fts n T) 2000 ≠ 0 := by
          have h2 := cntb_mono (fts n T) (p + 1) (2000 - (p + 1))
          rw [show p + 1 + (2000 - (p + 1)) = 2000 by omega, cntb_s, if_pos g4] at h2
          omega
        show x3 = _
        rw [g3, if_neg h1, ffs_eq 2000 0 p (fun f _ hf => g5 f (by omega) hf) (Nat.zero_le p) (by omega) (fun _ => g4)]
    · rintro v rfl
      by_cases hx : x = 0
      · rw [if_pos hx, if_pos hx]
        exact tt_some ⟨u3.2.2.1, fun _ => rfl, u3.2.1, f2⟩
      · rw [if_neg hx, if_neg hx]
        exact tt_some ⟨u3.2.2.1, fun _ => rfl, u3.2.1, f2⟩
  · rw [if_neg hv, if_pos (show (0 : Int32) = 0 from rfl), Option.bind_some, thr1, Option.bind_some, if_neg hv]
    dsimp only
    rw [if_neg (show ¬ (1 : Int32) = 0 by decide)]
    exact tt_some ⟨(show wr i1 1638 0 1 1638 0 = 1 from wr_s), fun q => absurd q (by decide), (show wr i1 1638 0 1 1638 9 = 0 by rw [wr_k (by decide)]; exact u1.2.1), fu_t u2 1⟩
theorem m_partBy (hp : pOK n T i) {d : Nat} (hd : d < 100) : Tt (f_Mo_partBy i (nI d)) (fun y => y.1 = nI (gqq n T d 2000) ∧ ∀ b j, b ≠ 1653 → y.2 b j = i b j) := by
  unfold f_Mo_partBy
  refine tt_bind (P1 := fun i' => (∀ v, v < 100 → i' 1653 v = 0) ∧ ∀ b j, b ≠ 1653 → i' b j = i b j)
    (tt_loop (fun q (s : Int32 × MI) => s.1 = nI q ∧ (∀ v, v < q → s.2 1653 v = 0) ∧ ∀ b j, b ≠ 1653 → s.2 b j = i b j) 100 (by omega) ?_ ?_ ⟨rfl, fun v hv => by omega, fun _ _ _ => rfl⟩) ?_
  · rintro q hq ⟨z, i2⟩ ⟨e1, e2, e3⟩
    dsimp only at e1 e2 e3 ⊢
    subst e1
    rw [lit_nI 99, if_neg (nI_nlt (by omega) (by omega)), grd_nI hq (by decide), ix_nI (by omega)]
    refine tt_bnd (tt_some ⟨nI_1 q, fun v hv => ?_, fun b j hb => ?_⟩)
    · show wr i2 1653 q 0 1653 v = 0
      by_cases e : v = q
      · subst e; rw [wr_s]
      · rw [wr_k e]; exact e2 v (by omega)
    · show wr i2 1653 q 0 b j = _
      rw [wr_a hb]; exact e3 b j hb
  · rintro ⟨z, i2⟩ ⟨e1, e2, e3⟩
    dsimp only at e1 e2 e3 ⊢
    subst e1
    rw [lit_nI 99, if_pos (nI_lt (by decide) (by decide))]
    exact tt_some ⟨e2, e3⟩
  rintro i1 ⟨a1, a2⟩
  refine tt_bind (P1 := fun y => y.1 = nI (gqq n T d 2000) ∧ ∀ b j, b ≠ 1653 → y.2 b j = i b j)
    (tt_loop (fun q (s : Int32 × Int32 × MI) => s.1 = nI (gqq n T d q) ∧ s.2.1 = nI q ∧ (∀ v, v < 100 → s.2.2 1653 v = nI (cvv n T d v q)) ∧ ∀ b j, b ≠ 1653 → s.2.2 b j = i b j) 2000 (by omega) ?_ ?_ ⟨rfl, rfl, fun v hv => a1 v hv, a2⟩) (fun y hy => tt_some hy)
  · rintro q hq ⟨x2, x3, i2⟩ ⟨e1, e2, e3, e4⟩
    dsimp only at e1 e2 e3 e4 ⊢
    subst e1 e2
    have hgl := gqq_le (n := n) (T := T) d q
    have hfl := fbN_lt q d
    rw [lit_nI 2000, if_pos (nI_lt hq (by omega)), grd_nI hq (by decide), ix_nI (by omega), e4 1652 _ (by decide), hp q hq]
    by_cases c : fts n T q = true
    · have hcv := cntb_le (fun p => fts n T p && decide (fbN p d = fbN q d)) (q + 1)
      have hcs : cvv n T d (fbN q d) (q + 1) = cvv n T d (fbN q d) q + 1 := by
        unfold cvv
        rw [cntb_s, if_pos (by rw [c, decide_eq_true rfl]; rfl)]
      rw [if_pos c, if_neg (show ¬ (1 : Int32) = 0 by decide), mo_fresh hq hd, Option.bind_some, grd_nI hfl (by decide), ix_nI (by omega), e3 _ hfl, nI_1, ← hcs]
      dsimp only [bnd]
      rw [wr_s, j_max, jmax_nI (by omega) (by unfold cvv; omega), Option.bind_some, Option.bind_some]
      refine tt_some ⟨?_, nI_1 q, fun v hv => ?_, fun b j hb => ?_⟩
      · show nI (max (gqq n T d q) (cvv n T d (fbN q d) (q + 1))) = _
        rw [gqq_s, if_pos c]
      · show wr i2 1653 (fbN q d) (nI (cvv n T d (fbN q d) (q + 1))) 1653 v = _
        by_cases e : v = fbN q d
        · subst e; rw [wr_s]
        · rw [wr_k e, e3 v hv]
          congr 1
          unfold cvv
          rw [cntb_s, if_neg (by rw [c, decide_eq_false (fun q => e q.symm)]; decide)]
      · show wr i2 1653 (fbN q d) (nI (cvv n T d (fbN q d) (q + 1))) b j = _
        rw [wr_a hb]; exact e4 b j hb
    · rw [if_neg c, if_pos (show (0 : Int32) = 0 from rfl), Option.bind_some]
      refine tt_some ⟨by rw [gqq_s, if_neg c], nI_1 q, fun v hv => ?_, e4⟩
      show i2 1653 v = _
      rw [e3 v hv]
      congr 1
      unfold cvv
      rw [cntb_s, if_neg (by rw [Bool.eq_false_iff.mpr c, Bool.false_and]; decide)]
  · rintro ⟨x2, x3, i2⟩ ⟨e1, e2, e3, e4⟩
    dsimp only at e1 e2 e3 e4 ⊢
    subst e1 e2
    rw [lit_nI 2000, if_neg (nI_nlt (Nat.le_refl _) (by omega))]
    exact tt_some ⟨rfl, e4⟩
theorem m_ask (h : TM i n T) (hn : n ≤ 400) : Tt (f_Mo_ask i) (UO i (spAsk n T)) := by
  unfold f_Mo_ask spAsk
  refine tt_bind (m_uses h) ?_
  rintro i1 ⟨u1, u2⟩
  rw [m_isTurned u1 hn, Option.bind_some]
  by_cases hv : tvb n T = true
  · rw [if_pos hv, if_neg (show ¬ (1 : Int32) = 0 by decide), Option.bind_some, thr0, Option.bind_some, if_pos hv]
    dsimp only
    rw [if_pos (show (0 : Int32) = 0 from rfl)]
    refine tt_bind (m_laysFit u1 hv) ?_
    rintro ⟨v, i2⟩ ⟨a1, a2, a3⟩
    dsimp only at a1 a2 a3 ⊢
    subst a1
    have hcl := cntb_le (fts n T) 2000
    have hend : ∀ i4 : MI, (∀ b j, b ≠ 1653 → i4 b j = i2 b j) → i4 1638 0 = 0 ∧ i4 1638 9 = 0 ∧ fu i i4 := fun i4 he => by
      have u3 := u1.c (i' := i4) (fun b j hb => (he b j (by omega)).trans (a3 b j (by omega)))
      exact ⟨u3.2.2.1, u3.2.1, fu_52 u2 (fun b j hb hb2 => (he b j hb2).trans (a3 b j hb))⟩
    by_cases c2 : cntb (fts n T) 2000 < 2
    · rw [if_pos c2]
      refine tt_bind (P1 := fun y => y = (-1, i2))
        (tt_loop (fun q (s : Int32 × Int32 × Int32 × MI) => s = (-1, 1000000, 0, i2) ∧ q = 0) 1 (by omega) ?_ ?_ ⟨rfl, rfl⟩) ?_
      · rintro q hq _ ⟨rfl, -⟩
        dsimp only
        rw [if_neg (show ¬ (99 : Int32) < 0 by decide), if_neg (show ¬ (1 : Int32) < nI (cntb (fts n T) 2000) from nI_nlt (a := 1) (by omega) (by omega))]
        exact tt_some rfl
      · rintro _ ⟨rfl, q⟩
        exact absurd q (by decide)
      · rintro _ rfl
        obtain ⟨b1, b2, b3⟩ := hend i2 (fun _ _ _ => rfl)
        exact tt_some ⟨b1, fun _ => rfl, b2, b3⟩
    · rw [if_neg c2]
      refine tt_bind (P1 := fun y => y.1 = (asq n T 100).1 ∧ ∀ b j, b ≠ 1653 → y.2 b j = i2 b j)
        (tt_loop (fun q (s : Int32 × Int32 × Int32 × MI) => s.1 = (asq n T q).1 ∧ (s.2.1 = (if q = 0 then 1000000 else nI (asq n T q).2)) ∧ s.2.2.1 = nI q ∧ ∀ b j, b ≠ 1653 → s.2.2.2 b j = i2 b j) 100 (by omega) ?_ ?_ ⟨rfl, rfl, rfl, fun _ _ _ => rfl⟩) ?_
      · rintro q hq ⟨x2, x3, x4, i4⟩ ⟨k1, k2, k3, k4⟩
        dsimp only at k1 k2 k3 k4 ⊢
        subst k1 k3
        have hp4 : pOK n T i4 := fun p hp => by rw [k4 _ _ (by decide)]; exact a2 p hp
        have hal := asq_le (n := n) (T := T) q
        have hgl := gqq_le (n := n) (T := T) q 2000
        have hs := asq_s (n := n) (T := T) q
        rw [lit_nI 99, if_neg (nI_nlt (by omega) (by omega)), if_pos (show (1 : Int32) < nI (cntb (fts n T) 2000) from nI_lt (a := 1) (by omega) (by omega))]
        refine tt_bind (m_partBy hp4 hq) ?_
        rintro ⟨w, i5⟩ ⟨g1, g2⟩
        dsimp only at g1 g2 ⊢
        subst g1
        obtain ⟨B, hB, eB, hlt⟩ : ∃ B, B ≤ 1000000 ∧ x3 = nI B ∧ (gqq n T q 2000 < B ↔ gqq n T q 2000 < (asq n T q).2) ∧ (¬ gqq n T q 2000 < B → B = (asq n T q).2) := by
          by_cases e : q = 0
          · subst e
            rw [if_pos rfl] at k2
            refine ⟨1000000, by omega, k2, ?_, fun hx => by omega⟩
            have hg2 : gqq n T 0 2000 ≤ cntb (fts n T) 2000 := by
              have key : ∀ q, gqq n T 0 q ≤ cntb (fts n T) q := by
                intro q
                induction q with
                | zero => exact Nat.le_refl _
                | succ q ih =>
                  have hc2 : cvv n T 0 (fbN q 0) (q + 1) ≤ cntb (fts n T) (q + 1) := by
                    unfold cvv
                    have : ∀ m, cntb (fun p => fts n T p && decide (fbN p 0 = fbN q 0)) m ≤ cntb (fts n T) m := by
                      intro m
                      induction m with
                      | zero => exact Nat.le_refl _
                      | succ m ihm =>
                        rw [cntb_s, cntb_s]
                        cases fts n T m
                        · simp; exact ihm
                        · rw [Bool.true_and, if_pos rfl]
                          split <;> omega
                    exact this (q + 1)
                  rw [gqq_s]
                  by_cases c : fts n T q = true
                  · rw [if_pos c]
                    refine Nat.max_le.mpr ⟨?_, hc2⟩
                    rw [cntb_s, if_pos c]; omega
                  · rw [if_neg c, cntb_s, if_neg c]; exact ih
              exact key 2000
            show gqq n T 0 2000 < 1000000 ↔ gqq n T 0 2000 < cntb (fts n T) 2000 + 1
            omega
          · rw [if_neg e] at k2
            exact ⟨(asq n T q).2, by omega, k2, Iff.rfl, fun _ => rfl⟩
        subst eB
        by_cases c : gqq n T q 2000 < B
        · rw [if_pos (hlt.1.mp c)] at hs
          rw [if_pos (nI_lt c (by omega)), Option.bind_some, j_min, Option.bind_some, jmin_nI (by omega) (by omega), Nat.min_eq_right (by omega), hs]
          exact tt_some ⟨rfl, by rw [if_neg (by omega)], nI_1 q, fun b j hb => (g2 b j hb).trans (k4 b j hb)⟩
        · rw [if_neg (fun w => c (hlt.1.mpr w))] at hs
          rw [if_neg (nI_nlt (by omega) (by omega)), Option.bind_some, j_min, Option.bind_some, jmin_nI (by omega) (by omega), Nat.min_eq_left (by omega), hs, hlt.2 c]
          exact tt_some ⟨rfl, by rw [if_neg (by omega)], nI_1 q, fun b j hb => (g2 b j hb).trans (k4 b j hb)⟩
      · rintro ⟨x2, x3, x4, i4⟩ ⟨k1, k2, k3, k4⟩
        dsimp only at k1 k2 k3 k4 ⊢
        subst k3
        rw [lit_nI 99, if_pos (nI_lt (by decide) (by decide))]
        exact tt_some ⟨k1, k4⟩
      · rintro ⟨w, i4⟩ ⟨k1, k4⟩
        dsimp only at k1 k4 ⊢
        obtain ⟨b1, b2, b3⟩ := hend i4 k4
        generalize (asq n T 100).1 = z at k1 ⊢
        exact tt_some ⟨b1, fun _ => k1, b2, b3⟩
  · rw [if_neg hv, if_pos (show (0 : Int32) = 0 from rfl), Option.bind_some, thr1, Option.bind_some, if_neg hv]
    dsimp only
    rw [if_neg (show ¬ (1 : Int32) = 0 by decide)]
    exact tt_some ⟨(show wr i1 1638 0 1 1638 0 = 1 from wr_s), fun q => absurd q (by decide), (show wr i1 1638 0 1 1638 9 = 0 by rw [wr_k (by decide)]; exact u1.2.1), fu_t u2 1⟩
end TURNEDM
