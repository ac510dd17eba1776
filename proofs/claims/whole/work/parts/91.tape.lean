/-! ===== the tape: feed, end ===== -/
def shf (q : Nat) : Int32 := if q = 0 then 24 else if q = 1 then 16 else if q = 2 then 8 else if q = 3 then 0 else -8
def byt (x : Int32) (m : Nat) : Int32 := (shr x (shf m)).toInt8.toInt32.toInt8.toInt32
def ext (T : Nat → Int32) (n : Nat) (x : Int32) : Nat → Int32 := fun k => if k < n then T k else byt x (k - n)
def fdT (T : Nat → Int32) (n : Nat) (x1 x2 x3 x4 x5 : Int32) : Nat → Int32 := ext (ext (ext (ext (ext T n x1) (n + 4) x2) (n + 8) x3) (n + 12) x4) (n + 16) x5
/-- the tape as the class has it, as the reference has it -/
def TC (i : MI) (n : Nat) (T : Nat → Int32) : Prop := i 1595 1 = nI n ∧ ∀ k, k < n → i 1596 k = T k
def TM (i : MI) (n : Nat) (T : Nat → Int32) : Prop := i 1638 9 = nI n ∧ ∀ k, k < n → i 1644 k = T k
def ftc (i i' : MI) : Prop := (∀ b j, b ≠ 1595 → b ≠ 1596 → i' b j = i b j) ∧ ∀ j, j ≠ 1 → i' 1595 j = i 1595 j
def ftm (i i' : MI) : Prop := (∀ b j, b ≠ 1638 → b ≠ 1644 → b ≠ 1645 → i' b j = i b j) ∧ ∀ j, j ≠ 0 → j ≠ 9 → i' 1638 j = i 1638 j
theorem ftc.trans {i j k : MI} (h : ftc i j) (h2 : ftc j k) : ftc i k := ⟨fun b q h1 h3 => (h2.1 b q h1 h3).trans (h.1 b q h1 h3), fun q hq => (h2.2 q hq).trans (h.2 q hq)⟩
def spFeed (n : Nat) (T : Nat → Int32) (x1 x2 x3 x4 x5 : Int32) : Int32 × Nat × (Nat → Int32) := if n + 20 ≤ 400 then (nI (n + 20), n + 20, fdT T n x1 x2 x3 x4 x5) else (-1, n, T)
def spEnd (n : Nat) (x : Int32) : Int32 × Nat := if okx x (n + 1) = true then (1, ix x) else (0, n)
theorem four_1 : ∀ q, q < 4 → ¬ shf q < 0 ∧ shf q + (-8 : Int32) = shf (q + 1) := by decide +kernel
theorem tw_1 : ∀ k, k < 20 → nI k / 4 = nI (k / 4) ∧ (24 : Int32) - 8 * rm (nI k) 4 = shf (k % 4) := by decide +kernel
section TAPE
variable {i : MI} {n : Nat} {T : Nat → Int32}
theorem v_put4 (h : TC i n T) (hn : n + 4 ≤ 400) (x : Int32) : Tt (f_Ta_put i x) (fun i' => TC i' (n + 4) (ext T n x) ∧ ftc i i') := by
  unfold f_Ta_put
  refine tt_bind (P1 := fun i' => TC i' (n + 4) (ext T n x) ∧ ftc i i')
    (tt_loop (fun q (s : Int32 × MI) => s.1 = shf q ∧ TC s.2 (n + q) (ext T n x) ∧ ftc i s.2) 4 (by omega) ?_ ?_ ⟨rfl, ⟨h.1, fun k hk => ?_⟩, ⟨fun _ _ _ _ => rfl, fun _ _ => rfl⟩⟩) (fun y hy => tt_some hy)
  · rintro q hq ⟨z, i5⟩ ⟨e1, e2, e3⟩
    dsimp only at e1 e2 e3 ⊢
    subst e1
    obtain ⟨g1, g2⟩ := four_1 q hq
    rw [if_neg g1, e2.1, g2]
    refine tt_bind (P1 := fun i' => TC i' (n + q + 1) (ext T n x) ∧ ftc i i') ?_ ?_
    · refine tt_ifp (nI_lt (b := 400) (by omega) (by decide)) ?_
      refine tt_bnd ?_
      rw [grd_nI (show n + q < 400 by omega) (by decide), ix_nI (by omega), nI_1]
      refine tt_bnd (tt_some ⟨⟨?_, fun k hk => ?_⟩, fun b j hb hb2 => ?_, fun j hj => ?_⟩)
      · rw [wr_a (by decide), wr_s]
      · by_cases e : k = n + q
        · rw [e, wr_s]
          unfold ext byt
          rw [if_neg (by omega), Nat.add_sub_cancel_left]
        · rw [wr_k e, wr_a (by decide)]; exact e2.2 k (by omega)
      · rw [wr_a hb2, wr_a hb]; exact e3.1 b j hb hb2
      · rw [wr_a (by decide), wr_k hj]; exact e3.2 j hj
    · rintro i6 ⟨u1, u2⟩
      exact tt_some ⟨rfl, u1, u2⟩
  · rintro ⟨z, i5⟩ ⟨e1, e2, e3⟩
    dsimp only at e1 e2 e3 ⊢
    subst e1
    rw [if_pos (by decide)]
    exact tt_some ⟨e2, e3⟩
  · show i 1596 k = if k < n then T k else byt x (k - n)
    rw [if_pos (show k < n from hk)]; exact h.2 k hk
theorem v_feed (h : TC i n T) (hn : n ≤ 400) (x1 x2 x3 x4 x5 : Int32) : Tt (f_Lc_feed i x1 x2 x3 x4 x5) (fun y => y.1 = (spFeed n T x1 x2 x3 x4 x5).1 ∧ TC y.2 (spFeed n T x1 x2 x3 x4 x5).2.1 (spFeed n T x1 x2 x3 x4 x5).2.2 ∧ ftc i y.2) := by
  unfold f_Lc_feed f_Ta_hasRoom
  rw [h.1, lit_nI 20, nI_add]
  by_cases c : n + 20 ≤ 400
  · have hs : spFeed n T x1 x2 x3 x4 x5 = (nI (n + 20), n + 20, fdT T n x1 x2 x3 x4 x5) := if_pos c
    rw [hs]
    refine tt_bind (P1 := fun v => v = 1) (tt_ifn (nI_nlt (a := 400) (by omega) (by omega)) (tt_some rfl)) ?_
    rintro _ rfl
    rw [if_neg (by decide)]
    refine tt_bind (v_put4 h (by omega) x1) ?_
    rintro i4 ⟨a1, b1⟩
    refine tt_bind (v_put4 a1 (by omega) x2) ?_
    rintro i5 ⟨a2, b2⟩
    refine tt_bind (v_put4 a2 (by omega) x3) ?_
    rintro i6 ⟨a3, b3⟩
    refine tt_bind (v_put4 a3 (by omega) x4) ?_
    rintro i7 ⟨a4, b4⟩
    refine tt_bind (v_put4 a4 (by omega) x5) ?_
    rintro i8 ⟨a5, b5⟩
    exact tt_some ⟨a5.1, a5, (((b1.trans b2).trans b3).trans b4).trans b5⟩
  · have hs : spFeed n T x1 x2 x3 x4 x5 = (-1, n, T) := if_neg c
    rw [hs]
    refine tt_bind (P1 := fun v => v = 0) (tt_ifp (nI_lt (a := 400) (by omega) (by omega)) (tt_some rfl)) ?_
    rintro _ rfl
    exact tt_ifp rfl (tt_some ⟨rfl, h, ⟨fun _ _ _ _ => rfl, fun _ _ => rfl⟩⟩)
def arg5 (x1 x2 x3 x4 x5 : Int32) (m : Nat) : Int32 := if m = 0 then x1 else if m = 1 then x2 else if m = 2 then x3 else if m = 3 then x4 else x5
theorem fdT_o {x1 x2 x3 x4 x5 : Int32} {k : Nat} (hk : k < n) : fdT T n x1 x2 x3 x4 x5 k = T k := by
  unfold fdT ext
  rw [if_pos (by omega), if_pos (by omega), if_pos (by omega), if_pos (by omega), if_pos hk]
theorem fdT_n {x1 x2 x3 x4 x5 : Int32} {k : Nat} (hk : k < 20) : fdT T n x1 x2 x3 x4 x5 (n + k) = byt (arg5 x1 x2 x3 x4 x5 (k / 4)) (k % 4) := by
  unfold fdT ext arg5
  rcases (show k / 4 = 0 ∨ k / 4 = 1 ∨ k / 4 = 2 ∨ k / 4 = 3 ∨ k / 4 = 4 by omega) with e | e | e | e | e
  · rw [e, if_pos (by omega), if_pos (by omega), if_pos (by omega), if_pos (by omega), if_neg (by omega), if_pos rfl, show n + k - n = k % 4 by omega]
  · rw [e, if_pos (by omega), if_pos (by omega), if_pos (by omega), if_neg (by omega), if_neg (by decide), if_pos rfl, show n + k - (n + 4) = k % 4 by omega]
  · rw [e, if_pos (by omega), if_pos (by omega), if_neg (by omega), if_neg (by decide), if_neg (by decide), if_pos rfl, show n + k - (n + 8) = k % 4 by omega]
  · rw [e, if_pos (by omega), if_neg (by omega), if_neg (by decide), if_neg (by decide), if_neg (by decide), if_pos rfl, show n + k - (n + 12) = k % 4 by omega]
  · rw [e, if_neg (by omega), if_neg (by decide), if_neg (by decide), if_neg (by decide), if_neg (by decide), show n + k - (n + 16) = k % 4 by omega]
theorem m_feed (h : TM i n T) (hn : n ≤ 400) (x1 x2 x3 x4 x5 : Int32) : Tt (f_Mo_feed i x1 x2 x3 x4 x5) (fun y => (y.2 1638 0 = 0 ∧ y.1 = (spFeed n T x1 x2 x3 x4 x5).1) ∧ TM y.2 (spFeed n T x1 x2 x3 x4 x5).2.1 (spFeed n T x1 x2 x3 x4 x5).2.2 ∧ ftm i y.2) := by
  unfold f_Mo_feed
  refine tt_bnd ?_
  have e9 : wr i 1638 0 0 1638 9 = nI n := by rw [wr_k (by decide)]; exact h.1
  rw [e9, lit_nI 20, nI_add]
  by_cases c : n + 20 ≤ 400
  · have hs : spFeed n T x1 x2 x3 x4 x5 = (nI (n + 20), n + 20, fdT T n x1 x2 x3 x4 x5) := if_pos c
    rw [hs]
    refine tt_ifn (nI_nlt (a := 400) (by omega) (by omega)) ?_
    refine tt_bnd (tt_bnd (tt_bnd (tt_bnd (tt_bnd ?_))))
    have ho : ∀ b j, b ≠ 1645 → wr (wr (wr (wr (wr (wr i 1638 0 0) 1645 0 x1) 1645 1 x2) 1645 2 x3) 1645 3 x4) 1645 4 x5 b j = wr i 1638 0 0 b j := fun b j hb => by rw [wr_a hb, wr_a hb, wr_a hb, wr_a hb, wr_a hb]
    have ha : ∀ m, m < 5 → wr (wr (wr (wr (wr (wr i 1638 0 0) 1645 0 x1) 1645 1 x2) 1645 2 x3) 1645 3 x4) 1645 4 x5 1645 m = arg5 x1 x2 x3 x4 x5 m := by
      intro m hm
      rcases (show m = 0 ∨ m = 1 ∨ m = 2 ∨ m = 3 ∨ m = 4 by omega) with rfl | rfl | rfl | rfl | rfl
      · rw [wr_k (by decide), wr_k (by decide), wr_k (by decide), wr_k (by decide), wr_s]; rfl
      · rw [wr_k (by decide), wr_k (by decide), wr_k (by decide), wr_s]; rfl
      · rw [wr_k (by decide), wr_k (by decide), wr_s]; rfl
      · rw [wr_k (by decide), wr_s]; rfl
      · rw [wr_s]; rfl
    generalize wr (wr (wr (wr (wr (wr i 1638 0 0) 1645 0 x1) 1645 1 x2) 1645 2 x3) 1645 3 x4) 1645 4 x5 = i8 at ho ha ⊢
    refine tt_bind (P1 := fun i' => (∀ k, k < n → i' 1644 k = T k) ∧ (∀ k, k < 20 → i' 1644 (n + k) = byt (arg5 x1 x2 x3 x4 x5 (k / 4)) (k % 4)) ∧ ∀ b j, b ≠ 1644 → i' b j = i8 b j)
      (tt_loop (fun q (s : Int32 × MI) => s.1 = nI q ∧ (∀ k, k < n → s.2 1644 k = T k) ∧ (∀ k, k < q → s.2 1644 (n + k) = byt (arg5 x1 x2 x3 x4 x5 (k / 4)) (k % 4)) ∧ ∀ b j, b ≠ 1644 → s.2 b j = i8 b j) 20 (by omega) ?_ ?_ ⟨rfl, fun k hk => ?_, fun k hk => absurd hk (Nat.not_lt_zero k), fun _ _ _ => rfl⟩) ?_
    · rintro q hq ⟨z, i5⟩ ⟨e1, e2, e3, e4⟩
      dsimp only at e1 e2 e3 e4 ⊢
      subst e1
      obtain ⟨g1, g2⟩ := tw_1 q hq
      have g9 : i5 1638 9 = nI n := (e4 1638 9 (by decide)).trans ((ho 1638 9 (by decide)).trans e9)
      rw [if_pos (nI_lt (b := 20) hq (by decide)), g1, g2, g9, nI_add, grd_nI (show q / 4 < 5 by omega) (by decide), grd_nI (show n + q < 400 by omega) (by decide), ix_nI (by omega), ix_nI (by omega), e4 1645 _ (by decide), ha (q / 4) (by omega)]
      refine tt_bnd (tt_some ⟨nI_1 q, fun k hk => ?_, fun k hk => ?_, fun b j hb => ?_⟩)
      · show wr i5 1644 (n + q) _ 1644 k = _
        rw [wr_k (by omega)]; exact e2 k hk
      · show wr i5 1644 (n + q) (byt (arg5 x1 x2 x3 x4 x5 (q / 4)) (q % 4)) 1644 (n + k) = _
        by_cases e : k = q
        · rw [e, wr_s]
        · rw [wr_k (by omega)]; exact e3 k (by omega)
      · show wr i5 1644 (n + q) _ b j = _
        rw [wr_a hb]; exact e4 b j hb
    · rintro ⟨z, i5⟩ ⟨e1, e2, e3, e4⟩
      dsimp only at e1 e2 e3 e4 ⊢
      subst e1
      rw [if_neg (nI_nlt (b := 20) (Nat.le_refl _) (by omega))]
      exact tt_some ⟨e2, e3, e4⟩
    · show i8 1644 k = T k
      rw [ho 1644 k (by decide), wr_a (by decide)]; exact h.2 k hk
    · rintro i6 ⟨e2, e3, e4⟩
      have g9 : i6 1638 9 = nI n := (e4 1638 9 (by decide)).trans ((ho 1638 9 (by decide)).trans e9)
      rw [g9, nI_add]
      refine tt_bnd ?_
      rw [wr_s]
      have h38 : ∀ j, j ≠ 9 → wr i6 1638 9 (nI (n + 20)) 1638 j = wr i 1638 0 0 1638 j := fun j hj => by rw [wr_k hj, e4 1638 j (by decide), ho 1638 j (by decide)]
      refine tt_some ⟨⟨(h38 0 (by decide)).trans wr_s, rfl⟩, ⟨show wr i6 1638 9 (nI (n + 20)) 1638 9 = nI (n + 20) from wr_s, fun k hk => ?_⟩, fun b j hb hb2 hb3 => ?_, fun j h0 h9 => (h38 j h9).trans (wr_k h0)⟩
      · show wr i6 1638 9 (nI (n + 20)) 1644 k = fdT T n x1 x2 x3 x4 x5 k
        rw [wr_a (by decide)]
        by_cases e : k < n
        · rw [fdT_o e]; exact e2 k e
        · obtain ⟨m, rfl⟩ : ∃ m, k = n + m := ⟨k - n, by omega⟩
          rw [fdT_n (show m < 20 by have hk : n + m < n + 20 := hk; omega)]
          exact e3 m (by have hk : n + m < n + 20 := hk; omega)
      · show wr i6 1638 9 (nI (n + 20)) b j = _
        rw [wr_a hb, e4 b j hb2, ho b j hb3, wr_a hb]
  · have hs : spFeed n T x1 x2 x3 x4 x5 = (-1, n, T) := if_neg c
    rw [hs]
    exact tt_ifp (nI_lt (a := 400) (by omega) (by omega)) (tt_some ⟨⟨show wr i 1638 0 0 1638 0 = 0 from wr_s, rfl⟩, ⟨e9, fun k hk => (show wr i 1638 0 0 1644 k = i 1644 k from wr_a (by decide)).trans (h.2 k hk)⟩, fun b j hb _ _ => wr_a hb, fun j h0 _ => wr_k h0⟩)
theorem v_end (h : TC i n T) (hn : n ≤ 400) (x : Int32) : Tt (f_Lc_end i x) (fun y => y.1 = (spEnd n x).1 ∧ TC y.2 (spEnd n x).2 T ∧ ftc i y.2) := by
  unfold f_Lc_end
  rw [h.1]
  by_cases c : okx x (n + 1) = true
  · have hs : spEnd n x = (1, ix x) := if_pos c
    rw [hs]
    obtain ⟨k, hk, rfl⟩ := okx_of (by omega) c
    refine tt_ifn (nI_pos (by omega)) (tt_ifn (nI_nlt (by omega) (by omega)) (tt_bnd (tt_some ⟨rfl, ⟨?_, fun j hj => ?_⟩, fun b j hb _ => wr_a hb, fun j hj => wr_k hj⟩)))
    · show wr i 1595 1 (nI k) 1595 1 = nI (ix (nI k))
      rw [wr_s, ix_nI (by omega)]
    · have hj : j < ix (nI k) := hj
      rw [ix_nI (by omega)] at hj
      exact (show wr i 1595 1 (nI k) 1596 j = i 1596 j from wr_a (by decide)).trans (h.2 j (by omega))
  · have hs : spEnd n x = (0, n) := if_neg c
    rw [hs]
    unfold okx at c
    by_cases h0 : x < 0
    · exact tt_ifp h0 (tt_some ⟨rfl, h, ⟨fun _ _ _ _ => rfl, fun _ _ => rfl⟩⟩)
    · refine tt_ifn h0 (tt_ifp ?_ (tt_some ⟨rfl, h, ⟨fun _ _ _ _ => rfl, fun _ _ => rfl⟩⟩))
      have := (lt_pred (x := x) (n := n + 1) (by omega)).mpr (fun q => c (by simp [h0, q]))
      rwa [nI_pred] at this
theorem m_end (h : TM i n T) (hn : n ≤ 400) (x : Int32) : Tt (f_Mo_end i x) (fun y => (y.2 1638 0 = 0 ∧ y.1 = (spEnd n x).1) ∧ TM y.2 (spEnd n x).2 T ∧ ftm i y.2) := by
  unfold f_Mo_end
  refine tt_bnd ?_
  have e9 : wr i 1638 0 0 1638 9 = nI n := by rw [wr_k (by decide)]; exact h.1
  have h1 : TM (wr i 1638 0 0) n T := ⟨e9, fun k hk => (wr_a (by decide)).trans (h.2 k hk)⟩
  have f1 : ftm i (wr i 1638 0 0) := ⟨fun b j hb _ _ => wr_a hb, fun j h0 _ => wr_k h0⟩
  rw [e9]
  by_cases c : okx x (n + 1) = true
  · have hs : spEnd n x = (1, ix x) := if_pos c
    rw [hs]
    obtain ⟨k, hk, rfl⟩ := okx_of (by omega) c
    refine tt_ifn (nI_pos (by omega)) (tt_ifn (nI_nlt (by omega) (by omega)) (tt_bnd (tt_some ⟨⟨show wr (wr i 1638 0 0) 1638 9 (nI k) 1638 0 = 0 from (wr_k (by decide)).trans wr_s, rfl⟩, ⟨?_, fun j hj => ?_⟩, fun b j hb _ _ => (wr_a hb).trans (wr_a hb), fun j h0 h9 => (wr_k h9).trans (wr_k h0)⟩)))
    · show wr (wr i 1638 0 0) 1638 9 (nI k) 1638 9 = nI (ix (nI k))
      rw [wr_s, ix_nI (by omega)]
    · have hj : j < ix (nI k) := hj
      rw [ix_nI (by omega)] at hj
      exact (show wr (wr i 1638 0 0) 1638 9 (nI k) 1644 j = wr i 1638 0 0 1644 j from wr_a (by decide)).trans (h1.2 j (by omega))
  · have hs : spEnd n x = (0, n) := if_neg c
    rw [hs]
    unfold okx at c
    by_cases h0 : x < 0
    · exact tt_ifp h0 (tt_some ⟨⟨show wr i 1638 0 0 1638 0 = 0 from wr_s, rfl⟩, h1, f1⟩)
    · refine tt_ifn h0 (tt_ifp ?_ (tt_some ⟨⟨show wr i 1638 0 0 1638 0 = 0 from wr_s, rfl⟩, h1, f1⟩))
      have := (lt_pred (x := x) (n := n + 1) (by omega)).mpr (fun q => c (by simp [h0, q]))
      rwa [nI_pred] at this
end TAPE
