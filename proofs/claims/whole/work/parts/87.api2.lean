/-! ===== calls that only look, 2 ===== -/
def spKind (S : SS) (x : Int32) : Int32 × Int32 := if okx x 4 = true then (0, nI (bits (fun f => decide (S 2 f 0 = x ∧ ¬ S 2 f 3 = 3)) (nf S))) else (1, 0)
/-- the first of so many, from s on -/
def fsk (p : Nat → Bool) : Nat → Nat → Int32
  | 0, _ => -1
  | m + 1, s => if p s = true then nI s else fsk p m (s + 1)
def dst (x y : Int32) : Int32 := (f_Se_distance x y).getD 0
theorem j_abs (x : Int32) : ∃ v, f_J_abs x = some v := by unfold f_J_abs; split <;> exact ⟨_, rfl⟩
theorem v_dist (x y : Int32) : f_Se_distance x y = some (dst x y) := by
  unfold dst f_Se_distance
  obtain ⟨a, ha⟩ := j_abs (rm x 5 - rm y 5)
  obtain ⟨b, hb⟩ := j_abs (x / 5 - y / 5)
  rw [ha, Option.bind_some, hb]
  rfl
theorem m_apart (x y : Int32) : f_Mo_apart x y = some (dst x y) := (show f_Mo_apart x y = f_Se_distance x y from rfl).trans (v_dist x y)
def mtp (S : SS) (b f : Nat) (n : Nat) : Bool := decide (¬ nI n < dst (S 3 b 0) (sit S (S 2 f 4) n))
def smt (S : SS) (b f : Nat) : Int32 := if S 2 f 3 = 0 then fsk (mtp S b f) 61 0 else -1
def lst (S : SS) : Nat := bits (fun f => decide (S 2 f 3 = 0) && !anyk (fun b => decide (¬ smt S b f = -1)) (nb S)) (nf S)
def odd1 (S : SS) (_ : Nat) (x : Int32) : Int32 := fo (fun b x => x * (100 - S 4 b 3) / 100) (ny S) x
def spOdds (S : SS) (x : Int32) : Int32 × Int32 := if win x 0 4 = true then (0, fo (odd1 S) (ix x) 10000) else (1, 0)
def twn1 (S : SS) (a : Nat) (x : Int32) : Int32 := fo (fun b x => if S 2 a 0 = S 2 b 0 ∧ S 2 a 1 = S 2 b 1 then x + 1 else x) a x
theorem win_of {x : Int32} {n : Nat} (hn : n + 1 < 2 ^ 31) (h : win x 0 (nI n) = true) : ∃ k, k ≤ n ∧ x = nI k := by
  unfold win at h
  simp only [Bool.and_eq_true, decide_eq_true_eq] at h
  obtain ⟨j, hj, rfl⟩ := nI_of h.1
  refine ⟨j, ?_, rfl⟩
  rcases Nat.lt_or_ge n j with h9 | h9
  · exact absurd ((nI_ltI (by omega) hj).mpr h9) h.2
  · exact h9
section API2
variable {i : MI} {a : Nat} {S : SS} {L : LW}
theorem m_freshestA (hw : Wf S) (h : MV i S) : Tt (f_Mo_freshest i) (MO i (0, frs S (fun f => decide (S 2 f 3 = 2)))) := by
  have h8 := hw.1.f8
  have h1 := mv_t h 0
  unfold f_Mo_freshest
  refine tt_bnd ?_
  refine tt_bind (P1 := fun v => v = frs S (fun f => decide (S 2 f 3 = 2)))
    (tt_loop (fun q (s : Int32 × Int32) => s = (fo (fun f x => if decide (S 2 f 3 = 2) = true ∧ (x = -1 ∨ S 2 (ix x) 2 < S 2 f 2) then nI f else x) q (-1), nI q)) (nf S) (by omega) ?_ ?_ rfl) ?_
  · rintro q hq _ rfl
    dsimp only
    have hfo : fo (fun f x => if decide (S 2 f 3 = 2) = true ∧ (x = -1 ∨ S 2 (ix x) 2 < S 2 f 2) then nI f else x) (q + 1) (-1 : Int32) = (fun f x => if decide (S 2 f 3 = 2) = true ∧ (x = -1 ∨ S 2 (ix x) 2 < S 2 f 2) then nI f else x) q (fo (fun f x => if decide (S 2 f 3 = 2) = true ∧ (x = -1 ∨ S 2 (ix x) 2 < S 2 f 2) then nI f else x) q (-1 : Int32)) := rfl
    have hl := frs_lt (S := S) (p := fun f => decide (S 2 f 3 = 2)) q
    generalize fo (fun f x => if decide (S 2 f 3 = 2) = true ∧ (x = -1 ∨ S 2 (ix x) 2 < S 2 f 2) then nI f else x) q (-1 : Int32) = x at hfo hl ⊢
    dsimp only at hfo
    rw [m_fishes h1, hw.1.f, Option.bind_some, if_pos (nI_lt hq (by omega)), lit_nI 3, m_of h1 (show q < 8 by omega) (by decide), Option.bind_some]
    refine tt_bind (P1 := fun v => v = if decide (S 2 q 3 = 2) = true ∧ (x = -1 ∨ S 2 (ix x) 2 < S 2 q 2) then nI q else x) ?_ ?_
    · by_cases c1 : S 2 q 3 = 2
      · refine tt_ifp c1 ?_
        by_cases c2 : x = -1
        · refine tt_ifp c2 (tt_some ?_)
          rw [if_pos ⟨decide_eq_true c1, Or.inl c2⟩]
        · refine tt_ifn c2 ?_
          rcases hl with hl | ⟨g, g1, -, g3⟩
          · exact absurd hl c2
          · rw [g3, lit_nI 2, m_of h1 (show q < 8 by omega) (by decide), Option.bind_some, m_of h1 (show g < 8 by omega) (by decide), Option.bind_some, ix_nI (by omega)]
            rw [g3] at c2
            by_cases c3 : S 2 g 2 < S 2 q 2
            · refine tt_ifp c3 (tt_some ?_)
              rw [if_pos ⟨decide_eq_true c1, Or.inr c3⟩]
            · refine tt_ifn c3 (tt_some ?_)
              rw [if_neg (fun k => k.2.elim c2 c3)]
      · refine tt_ifn c1 (tt_some ?_)
        rw [if_neg (fun k => c1 (of_decide_eq_true k.1))]
    · rintro v e9
      refine tt_some ?_
      dsimp only [lpP]
      rw [hfo, e9, nI_1]
  · rintro _ rfl
    dsimp only
    rw [m_fishes h1, hw.1.f, Option.bind_some, if_neg (nI_nlt (Nat.le_refl _) (by omega))]
    exact tt_some rfl
  · rintro v rfl
    exact tt_some (mo_ok (fq.refl _) wr_s rfl)
theorem v_kind (hw : Wf S) (h : CV i 1001 S) (x : Int32) : f_Lc_kind i x = some (toC [22] (spKind S x)) := by
  have h8 := hw.1.f8
  unfold f_Lc_kind spKind
  rw [v_needKind]
  by_cases hx : okx x 4 = true
  · rw [if_pos hx, if_pos hx, Option.bind_some]
    dsimp only
    refine (itr_bind (itr_bits (fun f => decide (S 2 f 0 = x ∧ ¬ S 2 f 3 = 3)) (nf S) h8 ?_ ?_)).trans rfl
    · intro j hj m
      obtain ⟨f0, f1, f2, f3, -⟩ := h.2.2.1 j hj
      dsimp only
      rw [h.1.1, hw.1.f, if_pos (nI_lt hj (by omega)), grd_nI (show j < 8 by omega) (by decide), ix_nI (by omega), f0, f3]
      by_cases c1 : S 2 j 0 = x
      · by_cases c2 : S 2 j 3 = 3 <;> simp [c1, c2, nI_succ]
      · simp [c1, nI_succ]
    · intro m
      dsimp only
      rw [h.1.1, hw.1.f, if_neg (nI_nlt (Nat.le_refl _) (by omega))]
  · rw [if_neg hx, if_neg hx]; rfl
theorem m_kind (hw : Wf S) (h : MV i S) (x : Int32) : Tt (f_Mo_kind i x) (MO i (spKind S x)) := by
  have h8 := hw.1.f8
  have h1 := mv_t h 0
  unfold f_Mo_kind spKind
  refine tt_bnd ?_
  rw [lit_nI 3, mo_inL 3 (by decide), Option.bind_some]
  by_cases hx : okx x 4 = true
  · rw [if_pos hx, if_pos hx, if_neg (by decide), Option.bind_some, thr0, Option.bind_some]
    dsimp only
    rw [if_pos rfl]
    refine tt_bind (P1 := fun v => v = nI (bits (fun f => decide (S 2 f 0 = x ∧ ¬ S 2 f 3 = 3)) (nf S))) ⟨_, itr_bits (fun f => decide (S 2 f 0 = x ∧ ¬ S 2 f 3 = 3)) (nf S) h8 ?_ ?_, rfl⟩ ?_
    · intro j hj m
      have g0 : f_Mo_of (wr i 1638 0 0) (nI j) 0 = some (S 2 j 0) := m_of h1 (k := 0) (by omega) (by decide)
      have g3 : f_Mo_of (wr i 1638 0 0) (nI j) (nI 3) = some (S 2 j 3) := m_of h1 (k := 3) (by omega) (by decide)
      dsimp only
      rw [m_fishes h1, hw.1.f, Option.bind_some, if_pos (nI_lt hj (by omega)), g0, Option.bind_some, g3]
      by_cases c1 : S 2 j 0 = x
      · rw [if_pos c1, Option.bind_some]
        by_cases c2 : S 2 j 3 = nI 3
        · have c2' : S 2 j 3 = 3 := c2
          rw [if_pos c2]; simp [c1, c2', nI_succ]
        · have c2' : ¬ S 2 j 3 = 3 := c2
          rw [if_neg c2]; simp [c1, c2', nI_succ]
      · simp [c1, nI_succ]
    · intro m
      dsimp only
      rw [m_fishes h1, hw.1.f, Option.bind_some, if_neg (nI_nlt (Nat.le_refl _) (by omega))]
    · rintro v rfl
      exact tt_some (mo_ok (fq.refl _) wr_s rfl)
  · rw [if_neg hx, if_neg hx, if_pos rfl, Option.bind_some, thr1, Option.bind_some]
    dsimp only
    rw [if_neg (by decide)]
    exact tt_some (mo_err (by decide) (fq_t (fq.refl i) 0))
/-! meetings -/
theorem v_meeting (hw : Wf S) (h : CV i a S) {b f : Nat} (hb : b < nb S) (hf : f < nf S) : f_Se_meetingOf i a (nI b) (nI f) = some (smt S b f) := by
  have h8 := hw.1.f8
  have h3 := hw.1.b3
  obtain ⟨f0, f1, f2, f3, f4, -⟩ := h.2.2.1 f hf
  obtain ⟨p0, -, -⟩ := h.2.2.2.1 b hb
  have key : Tt (f_Se_meetingOf i a (nI b) (nI f)) (fun v => v = smt S b f) := by
    unfold f_Se_meetingOf smt
    rw [grd_nI (show f < 8 by omega) (by decide), ix_nI (show f < 2 ^ 31 by omega), ix_nI (show b < 2 ^ 31 by omega), f3, f4, p0]
    by_cases c : S 2 f 3 = 0
    · rw [if_pos c, if_pos c]
      have hsp : spo (S 2 f 3) (S 2 f 4) = S 2 f 4 := by unfold spo; rw [if_pos c]
      rw [hsp]
      obtain ⟨-, -, -, k3⟩ := hw.2.2.1 f hf
      rcases k3 with ⟨-, cc, hcc, ec⟩ | ⟨h, -⟩ | ⟨h, -⟩ | ⟨h, -⟩
      · refine tt_loop (fun q (s : Int32 × Int32) => s = (sit S (S 2 f 4) q, nI q) ∧ fsk (mtp S b f) 61 0 = fsk (mtp S b f) (61 - q) q) 61 (by omega) ?_ ?_ ⟨rfl, rfl⟩
        · rintro q hq _ ⟨rfl, hn⟩
          dsimp only
          obtain ⟨c', h1, h2⟩ := sit_lt hw hcc q
          rw [← ec] at h2
          rw [lit_nI 60, if_neg (nI_nlt (by omega) (by omega)), grd_nI (show b < 3 by omega) (by decide), v_dist, Option.bind_some]
          have hstep : fsk (mtp S b f) (61 - q) q = if mtp S b f q = true then nI q else fsk (mtp S b f) (61 - (q + 1)) (q + 1) := by
            rw [show 61 - q = (61 - (q + 1)) + 1 by omega]; rfl
          by_cases e : nI q < dst (S 3 b 0) (sit S (S 2 f 4) q)
          · rw [if_pos e, h2, v_drift hw h h1, Option.bind_some, ← h2]
            have hm : ¬ mtp S b f q = true := by unfold mtp; simp [e]
            rw [if_neg hm] at hstep
            exact tt_some ⟨by rw [nI_1]; rfl, hn.trans hstep⟩
          · rw [if_neg e]
            have hm : mtp S b f q = true := by unfold mtp; simp [e]
            rw [if_pos hm] at hstep
            refine tt_some ?_
            dsimp only [lpP]
            rw [hn, hstep]
        · rintro _ ⟨rfl, hn⟩
          dsimp only
          rw [lit_nI 60, if_pos (nI_lt (by decide) (by omega))]
          refine tt_some ?_
          dsimp only [lpP]
          rw [hn]
          rfl
      all_goals (rw [c] at h; exact absurd h (by decide))
    · rw [if_neg c, if_neg c]; exact tt_some rfl
  obtain ⟨v, h1, rfl⟩ := key
  exact h1
theorem m_meetsIn (hw : Wf S) (h : MV i S) {b f : Nat} (hb : b < nb S) (hf : f < nf S) : f_Mo_meetsIn i (nI b) (nI f) = some (smt S b f) := by
  have h8 := hw.1.f8
  have h3 := hw.1.b3
  have g3 : f_Mo_of i (nI f) 3 = some (S 2 f 3) := m_of h (k := 3) (by omega) (by decide)
  have g4 : f_Mo_of i (nI f) 4 = some (S 2 f 4) := m_of h (k := 4) (by omega) (by decide)
  have y0 : f_Mo_ofBoat i (nI b) 0 = some (S 3 b 0) := m_boat h (k := 0) (by omega) (by decide)
  have key : Tt (f_Mo_meetsIn i (nI b) (nI f)) (fun v => v = smt S b f) := by
    unfold f_Mo_meetsIn smt
    rw [g3, Option.bind_some]
    by_cases c : S 2 f 3 = 0
    · rw [if_pos c, if_pos c, g4, Option.bind_some]
      obtain ⟨-, -, -, k3⟩ := hw.2.2.1 f hf
      rcases k3 with ⟨-, cc, hcc, ec⟩ | ⟨h, -⟩ | ⟨h, -⟩ | ⟨h, -⟩
      · refine tt_bind (P1 := fun v => v = fsk (mtp S b f) 61 0)
          (tt_loop (fun q (s : Int32 × Int32 × Int32) => s.2.2 = nI q ∧ ((s.2.1 = -1 ∧ s.1 = sit S (S 2 f 4) q ∧ fsk (mtp S b f) 61 0 = fsk (mtp S b f) (61 - q) q) ∨ (¬ s.2.1 = -1 ∧ s.2.1 = fsk (mtp S b f) 61 0))) 61 (by omega) ?_ ?_ ⟨rfl, Or.inl ⟨rfl, rfl, rfl⟩⟩) ?_
        · rintro q hq ⟨x, y, z⟩ ⟨rfl, hn⟩
          dsimp only at hn ⊢
          rw [lit_nI 60, if_neg (nI_nlt (by omega) (by omega))]
          rcases hn with ⟨e1, e2, e3⟩ | ⟨e1, e2⟩
          · subst e1 e2
            obtain ⟨c', h1, h2⟩ := sit_lt hw hcc q
            rw [← ec] at h2
            rw [if_pos rfl, y0, Option.bind_some, m_apart, Option.bind_some]
            have hstep : fsk (mtp S b f) (61 - q) q = if mtp S b f q = true then nI q else fsk (mtp S b f) (61 - (q + 1)) (q + 1) := by
              rw [show 61 - q = (61 - (q + 1)) + 1 by omega]; rfl
            have hdr : f_Mo_driftOf i (sit S (S 2 f 4) q) = some (sdr S (sit S (S 2 f 4) q)) := by rw [h2]; exact m_drift h h1
            by_cases e : nI q < dst (S 3 b 0) (sit S (S 2 f 4) q)
            · rw [if_pos e, Option.bind_some, hdr, Option.bind_some]
              have hm : ¬ mtp S b f q = true := by unfold mtp; simp [e]
              rw [if_neg hm] at hstep
              exact tt_some ⟨nI_1 q, Or.inl ⟨rfl, rfl, e3.trans hstep⟩⟩
            · rw [if_neg e, Option.bind_some, hdr, Option.bind_some]
              have hm : mtp S b f q = true := by unfold mtp; simp [e]
              rw [if_pos hm] at hstep
              have hne : ¬ nI q = (-1 : Int32) := by
                intro k
                have := congrArg Int32.toInt k
                rw [nI_toInt (by omega), show (-1 : Int32).toInt = -1 from by decide] at this
                omega
              exact tt_some ⟨nI_1 q, Or.inr ⟨hne, (e3.trans hstep).symm⟩⟩
          · rw [if_neg e1]
            exact tt_some e2
        · rintro ⟨x, y, z⟩ ⟨rfl, hn⟩
          dsimp only at hn ⊢
          rw [lit_nI 60, if_pos (nI_lt (by decide) (by omega))]
          refine tt_some ?_
          dsimp only [lpP]
          rcases hn with ⟨e1, e2, e3⟩ | ⟨e1, e2⟩
          · rw [e1, e3]; rfl
          · exact e2
        · rintro v rfl
          exact tt_some rfl
      all_goals (rw [c] at h; exact absurd h (by decide))
    · rw [if_neg c, if_neg c]; exact tt_some rfl
  obtain ⟨v, h1, rfl⟩ := key
  exact h1
def spMeets (S : SS) (x y : Int32) : Int32 × Int32 := if okx x (nb S) = true ∧ okx y (nf S) = true then (0, smt S (ix x) (ix y)) else (1, 0)
theorem v_meets (hw : Wf S) (h : CV i 1001 S) (x y : Int32) : f_Lc_meets i x y = some (toC [22] (spMeets S x y)) := by
  have h8 := hw.1.f8
  have h3 := hw.1.b3
  unfold f_Lc_meets spMeets
  rw [v_needBoat hw.1 h, v_needFish hw.1 h]
  by_cases hx : okx x (nb S) = true
  · by_cases hy : okx y (nf S) = true
    · rw [if_pos hx, if_pos hy, if_pos ⟨hx, hy⟩]
      obtain ⟨b, hb, rfl⟩ := okx_of (by omega) hx
      obtain ⟨f, hf, rfl⟩ := okx_of (by omega) hy
      simp only [Option.bind_some]
      rw [v_meeting hw h hb hf, ix_nI (by omega), ix_nI (by omega)]
      rfl
    · rw [if_pos hx, if_neg hy, if_neg (fun k => hy k.2)]; rfl
  · rw [if_neg hx, if_neg (show ¬ (okx x (nb S) = true ∧ okx y (nf S) = true) from fun k => hx k.1)]; rfl
theorem m_meets (hw : Wf S) (h : MV i S) (x y : Int32) : Tt (f_Mo_meets i x y) (MO i (spMeets S x y)) := by
  have h8 := hw.1.f8
  have h3 := hw.1.b3
  have h1 := mv_t h 0
  unfold f_Mo_meets spMeets
  refine tt_bnd ?_
  rw [m_noBoat hw.1 h1, Option.bind_some]
  by_cases hx : okx x (nb S) = true
  · rw [if_pos hx, if_pos rfl, m_noFish hw.1 h1, Option.bind_some]
    by_cases hy : okx y (nf S) = true
    · rw [if_pos hy, if_pos rfl, Option.bind_some, thr0, Option.bind_some, if_pos ⟨hx, hy⟩]
      obtain ⟨b, hb, rfl⟩ := okx_of (by omega) hx
      obtain ⟨f, hf, rfl⟩ := okx_of (by omega) hy
      dsimp only
      rw [if_pos rfl, m_meetsIn hw h1 hb hf, Option.bind_some, ix_nI (by omega), ix_nI (by omega)]
      exact tt_some (mo_ok (fq.refl _) wr_s rfl)
    · rw [if_neg hy, if_neg (by decide), Option.bind_some, thr1, Option.bind_some, if_neg (fun k => hy k.2)]
      dsimp only
      rw [if_neg (by decide)]
      exact tt_some (mo_err (by decide) (fq_t (fq.refl i) 0))
  · rw [if_neg hx, if_neg (by decide), Option.bind_some, thr1, Option.bind_some, if_neg (fun k => hx k.1)]
    dsimp only
    rw [if_neg (by decide)]
    exact tt_some (mo_err (by decide) (fq_t (fq.refl i) 0))
theorem v_isMet (hw : Wf S) (h : CV i 1001 S) {f : Nat} (hf : f < nf S) : f_Lc_isMet i (nI f) = some (if anyk (fun b => decide (¬ smt S b f = -1)) (nb S) = true then 1 else 0) := by
  have h3 := hw.1.b3
  have key : Tt (f_Lc_isMet i (nI f)) (fun v => v = if anyk (fun b => decide (¬ smt S b f = -1)) (nb S) = true then 1 else 0) := by
    unfold f_Lc_isMet
    refine tt_loop (fun q (s : Int32) => s = nI q ∧ ∀ k, k < q → smt S k f = -1) (nb S) (by omega) ?_ ?_ ⟨rfl, fun k hk => absurd hk (Nat.not_lt_zero k)⟩
    · rintro q hq _ ⟨rfl, hn⟩
      rw [show i 1001 8 = S 0 0 1 from h.1.2.1, hw.1.b, if_pos (nI_lt hq (by omega)), v_meeting hw h hq hf, Option.bind_some]
      by_cases e : smt S q f = -1
      · rw [if_pos e]
        refine tt_some ⟨nI_1 q, fun k hk => ?_⟩
        by_cases ek : k = q
        · rw [ek]; exact e
        · exact hn k (by omega)
      · rw [if_neg e]
        refine tt_some ?_
        dsimp only [lpP]
        rw [if_pos ((anyk_iff _ _).mpr ⟨q, hq, decide_eq_true e⟩)]
    · rintro _ ⟨rfl, hn⟩
      rw [show i 1001 8 = S 0 0 1 from h.1.2.1, hw.1.b, if_neg (nI_nlt (Nat.le_refl _) (by omega))]
      refine tt_some ?_
      dsimp only [lpP]
      rw [if_neg]
      intro k
      obtain ⟨b, h1, h2⟩ := (anyk_iff _ _).mp k
      exact of_decide_eq_true h2 (hn b h1)
  obtain ⟨v, h1, rfl⟩ := key
  exact h1
theorem v_lost (hw : Wf S) (h : CV i 1001 S) : f_Lc_lost i = some (nI (lst S)) := by
  have h8 := hw.1.f8
  unfold f_Lc_lost lst
  refine (itr_bind (itr_bits (fun f => decide (S 2 f 3 = 0) && !anyk (fun b => decide (¬ smt S b f = -1)) (nb S)) (nf S) h8 ?_ ?_)).trans rfl
  · intro j hj m
    obtain ⟨f0, f1, f2, f3, -⟩ := h.2.2.1 j hj
    dsimp only
    rw [h.1.1, hw.1.f, if_pos (nI_lt hj (by omega)), grd_nI (show j < 8 by omega) (by decide), ix_nI (by omega), f3, v_isMet hw h hj]
    generalize anyk (fun b => decide (¬ smt S b j = -1)) (nb S) = z
    by_cases c1 : S 2 j 3 = 0
    · cases z <;> simp [c1, nI_succ]
    · simp [c1, nI_succ]
  · intro m
    dsimp only
    rw [h.1.1, hw.1.f, if_neg (nI_nlt (Nat.le_refl _) (by omega))]
theorem m_lost (hw : Wf S) (h : MV i S) : Tt (f_Mo_lost i) (MO i (0, nI (lst S))) := by
  have h8 := hw.1.f8
  have h3 := hw.1.b3
  have h1 := mv_t h 0
  unfold f_Mo_lost lst
  refine tt_bnd ?_
  refine tt_bind (P1 := fun v => v = nI (bits (fun f => decide (S 2 f 3 = 0) && !anyk (fun b => decide (¬ smt S b f = -1)) (nb S)) (nf S))) ⟨_, itr_bits (fun f => decide (S 2 f 3 = 0) && !anyk (fun b => decide (¬ smt S b f = -1)) (nb S)) (nf S) h8 ?_ ?_, rfl⟩ ?_
  · intro j hj m
    have g3 : f_Mo_of (wr i 1638 0 0) (nI j) 3 = some (S 2 j 3) := m_of h1 (k := 3) (by omega) (by decide)
    dsimp only
    rw [m_fishes h1, hw.1.f, Option.bind_some, if_pos (nI_lt hj (by omega)), g3, Option.bind_some]
    have inner : ∀ x0 : Int32, (x0 = 0 ∨ x0 = 1) → Tt (itr (σ := Int32 × Int32) (ρ := Int32) (fun x => (f_Mo_boats (wr i 1638 0 0)).bind (fun v_20 => if x.2 < v_20 then ((if x.1 = 0 then ((f_Mo_meetsIn (wr i 1638 0 0) x.2 (nI j)).bind (fun v_24 => if v_24 = (-1 : Int32) then (some (0 : Int32)) else (some (1 : Int32)))) else (some (1 : Int32)) : Option (Int32)).bind (fun y_22 => some (.inl (y_22, (x.2 + (1 : Int32)))))) else (some (.inr x.1)))) 1000000 (x0, (0 : Int32))) (fun v => v = if x0 = 1 ∨ anyk (fun b => decide (¬ smt S b j = -1)) (nb S) = true then 1 else 0) := by
      intro x0 hx0
      refine tt_loop (fun q (s : Int32 × Int32) => s = (if x0 = 1 ∨ anyk (fun b => decide (¬ smt S b j = -1)) q = true then 1 else 0, nI q)) (nb S) (by omega) ?_ ?_ ?_
      · rintro q hq _ rfl
        dsimp only
        rw [m_boats h1, hw.1.b, Option.bind_some, if_pos (nI_lt hq (by omega)), m_meetsIn hw h1 hq hj]
        have hs : anyk (fun b => decide (¬ smt S b j = -1)) (q + 1) = (anyk (fun b => decide (¬ smt S b j = -1)) q || decide (¬ smt S q j = -1)) := rfl
        refine tt_bind (P1 := fun v => v = if x0 = 1 ∨ anyk (fun b => decide (¬ smt S b j = -1)) (q + 1) = true then 1 else 0) ?_ ?_
        · rw [hs]
          by_cases c : x0 = 1 ∨ anyk (fun b => decide (¬ smt S b j = -1)) q = true
          · rw [if_pos c, if_neg (by decide)]
            refine tt_some ?_
            rw [if_pos]
            rcases c with c | c
            · exact Or.inl c
            · exact Or.inr (by rw [c]; rfl)
          · rw [if_neg c, if_pos rfl, Option.bind_some]
            have c1 : ¬ x0 = 1 := fun k => c (Or.inl k)
            have c2 : anyk (fun b => decide (¬ smt S b j = -1)) q = false := by
              cases hh : anyk (fun b => decide (¬ smt S b j = -1)) q with
              | false => rfl
              | true => exact absurd (Or.inr hh) c
            rw [c2]
            by_cases e : smt S q j = -1
            · rw [if_pos e]
              refine tt_some ?_
              rw [if_neg]
              rintro (k | k)
              · exact c1 k
              · simp [e] at k
            · rw [if_neg e]
              refine tt_some ?_
              rw [if_pos (Or.inr (by simp [e]))]
        · rintro v e
          exact tt_some (by dsimp only [lpP]; rw [e, nI_1])
      · rintro _ rfl
        dsimp only
        rw [m_boats h1, hw.1.b, Option.bind_some, if_neg (nI_nlt (Nat.le_refl _) (by omega))]
        exact tt_some rfl
      · rcases hx0 with rfl | rfl <;> rfl
    by_cases c1 : S 2 j 3 = 0
    · rw [if_pos c1, Option.bind_some]
      obtain ⟨v, e1, e2⟩ := inner 0 (Or.inl rfl)
      rw [e1, e2]
      generalize anyk (fun b => decide (¬ smt S b j = -1)) (nb S) = z
      cases z <;> simp [c1, nI_succ, or_0]
    · rw [if_neg c1, Option.bind_some]
      obtain ⟨v, e1, e2⟩ := inner 1 (Or.inr rfl)
      rw [e1, e2]
      simp [c1, nI_succ, or_0]
  · intro m
    dsimp only
    rw [m_fishes h1, hw.1.f, Option.bind_some, if_neg (nI_nlt (Nat.le_refl _) (by omega))]
  · rintro v rfl
    exact tt_some (mo_ok (fq.refl _) wr_s rfl)
/-! odds, twins -/
theorem v_odds (hw : Wf S) (h : CV i 1001 S) (x : Int32) : f_Lc_odds i x = some (toC [20] (spOdds S x)) := by
  have h5 := hw.1.y5
  unfold f_Lc_odds spOdds
  rw [v_within]
  by_cases hx : win x 0 4 = true
  · rw [if_pos hx, if_pos hx, Option.bind_some]
    obtain ⟨n, hn, rfl⟩ := win_of (n := 4) (by decide) hx
    dsimp only
    rw [ix_nI (by omega)]
    refine (itr_bind (itr_fo (fun j x => (x, nI j)) (odd1 S) n 10000 (y := fo (odd1 S) n 10000) ?_ ?_ (by omega) rfl)).trans rfl
    · intro j x hj _
      dsimp only
      rw [if_pos (nI_lt hj (by omega))]
      refine (itr_bind (itr_fo (fun j x => (x, nI j)) (fun b x => x * (100 - S 4 b 3) / 100) (ny S) x (y := odd1 S j x) ?_ ?_ (by omega) rfl)).trans ?_
      · intro k x hk _
        obtain ⟨-, -, -, y3⟩ := h.2.2.2.2.1 k hk
        dsimp only
        rw [show i 1001 9 = S 0 0 2 from h.1.2.2.1, hw.1.y, if_pos (nI_lt hk (by omega)), grd_nI (show k < 5 by omega) (by decide), ix_nI (by omega), y3, nI_1]
      · dsimp only
        rw [show i 1001 9 = S 0 0 2 from h.1.2.2.1, hw.1.y, if_neg (nI_nlt (Nat.le_refl _) (by omega))]
        rfl
      · rw [nI_1]
    · dsimp only
      rw [if_neg (nI_nlt (Nat.le_refl _) (by omega))]
  · rw [if_neg hx, if_neg hx]; rfl
theorem m_odds (hw : Wf S) (h : MV i S) (x : Int32) : Tt (f_Mo_odds i x) (MO i (spOdds S x)) := by
  have h5 := hw.1.y5
  have h1 := mv_t h 0
  unfold f_Mo_odds spOdds
  refine tt_bnd ?_
  rw [mo_win, Option.bind_some]
  by_cases hx : win x 0 4 = true
  · rw [if_pos hx, if_pos hx, if_neg (by decide), Option.bind_some, thr0, Option.bind_some]
    obtain ⟨n, hn, rfl⟩ := win_of (n := 4) (by decide) hx
    dsimp only
    rw [if_pos rfl, ix_nI (by omega)]
    refine tt_bind (P1 := fun v => v = fo (odd1 S) n 10000) ⟨_, itr_fo (fun j x => (x, nI j)) (odd1 S) n 10000 (y := fo (odd1 S) n 10000) ?_ ?_ (by omega) rfl, rfl⟩ ?_
    · intro j x hj _
      dsimp only
      rw [if_pos (nI_lt hj (by omega))]
      refine (itr_bind (itr_fo (fun j x => (x, nI j)) (fun b x => x * (100 - S 4 b 3) / 100) (ny S) x (y := odd1 S j x) ?_ ?_ (by omega) rfl)).trans ?_
      · intro k x hk _
        dsimp only
        rw [m_buyers h1, hw.1.y, Option.bind_some, if_pos (nI_lt hk (by omega)), lit_nI 3, m_buyer h1 (show k < 5 by omega) (by decide), Option.bind_some, nI_1]
      · dsimp only
        rw [m_buyers h1, hw.1.y, Option.bind_some, if_neg (nI_nlt (Nat.le_refl _) (by omega))]
        rfl
      · rw [nI_1]
    · dsimp only
      rw [if_neg (nI_nlt (Nat.le_refl _) (by omega))]
    · rintro v rfl
      exact tt_some (mo_ok (fq.refl _) wr_s rfl)
  · rw [if_neg hx, if_neg hx, if_pos rfl, Option.bind_some, thr1, Option.bind_some]
    dsimp only
    rw [if_neg (by decide)]
    exact tt_some (mo_err (by decide) (fq_t (fq.refl i) 0))
theorem v_twins (hw : Wf S) (h : CV i 1001 S) : f_Lc_twins i = some (fo (twn1 S) (nf S) 0) := by
  have h8 := hw.1.f8
  unfold f_Lc_twins
  refine (itr_bind (itr_fo (fun j x => (x, nI j)) (twn1 S) (nf S) 0 (y := fo (twn1 S) (nf S) 0) ?_ ?_ (by omega) rfl)).trans rfl
  · intro j x hj _
    obtain ⟨f0, f1, -⟩ := h.2.2.1 j hj
    dsimp only
    rw [h.1.1, hw.1.f, if_pos (nI_lt hj (by omega))]
    refine (itr_bind (itr_fo (fun j x => (x, nI j)) (fun b x => if S 2 j 0 = S 2 b 0 ∧ S 2 j 1 = S 2 b 1 then x + 1 else x) j x (y := twn1 S j x) ?_ ?_ (by omega) rfl)).trans ?_
    · intro k x hk _
      obtain ⟨g0, g1, -⟩ := h.2.2.1 k (by omega)
      dsimp only
      rw [if_pos (nI_lt hk (by omega)), grd_nI (show j < 8 by omega) (by decide), grd_nI (show k < 8 by omega) (by decide), ix_nI (by omega), ix_nI (by omega), f0, f1, g0, g1]
      by_cases c1 : S 2 j 0 = S 2 k 0
      · by_cases c2 : S 2 j 1 = S 2 k 1 <;> simp [c1, c2, nI_succ]
      · simp [c1, nI_succ]
    · dsimp only
      rw [if_neg (nI_nlt (Nat.le_refl _) (by omega))]
      rfl
    · rw [nI_1]
  · dsimp only
    rw [h.1.1, hw.1.f, if_neg (nI_nlt (Nat.le_refl _) (by omega))]
theorem m_twins (hw : Wf S) (h : MV i S) : Tt (f_Mo_twins i) (MO i (0, fo (twn1 S) (nf S) 0)) := by
  have h8 := hw.1.f8
  have h1 := mv_t h 0
  unfold f_Mo_twins
  refine tt_bnd ?_
  refine tt_bind (P1 := fun v => v = fo (twn1 S) (nf S) 0) ⟨_, itr_fo (fun j x => (x, nI j)) (twn1 S) (nf S) 0 (y := fo (twn1 S) (nf S) 0) ?_ ?_ (by omega) rfl, rfl⟩ ?_
  · intro j x hj _
    have g0 : ∀ k, k < 8 → f_Mo_of (wr i 1638 0 0) (nI k) 0 = some (S 2 k 0) := fun k hk => m_of h1 (k := 0) hk (by decide)
    have g1 : ∀ k, k < 8 → f_Mo_of (wr i 1638 0 0) (nI k) 1 = some (S 2 k 1) := fun k hk => m_of h1 (k := 1) hk (by decide)
    dsimp only
    rw [m_fishes h1, hw.1.f, Option.bind_some, if_pos (nI_lt hj (by omega))]
    refine (itr_bind (itr_fo (fun j x => (x, nI j)) (fun b x => if S 2 j 0 = S 2 b 0 ∧ S 2 j 1 = S 2 b 1 then x + 1 else x) j x (y := twn1 S j x) ?_ ?_ (by omega) rfl)).trans ?_
    · intro k x hk _
      dsimp only
      rw [if_pos (nI_lt hk (by omega)), g0 j (by omega), g0 k (by omega), g1 j (by omega), g1 k (by omega)]
      by_cases c1 : S 2 j 0 = S 2 k 0
      · by_cases c2 : S 2 j 1 = S 2 k 1 <;> simp [c1, c2, nI_succ]
      · simp [c1, nI_succ]
    · dsimp only
      rw [if_neg (nI_nlt (Nat.le_refl _) (by omega))]
      rfl
    · rw [nI_1]
  · dsimp only
    rw [m_fishes h1, hw.1.f, Option.bind_some, if_neg (nI_nlt (Nat.le_refl _) (by omega))]
  · rintro v rfl
    exact tt_some (mo_ok (fq.refl _) wr_s rfl)
end API2
