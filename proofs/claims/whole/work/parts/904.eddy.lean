/-! ===== what drifts together; ways ===== -/
def wsm (W : Nat → Int32) (y c : Nat) : Int32 := fo (fun k x => x + W (y - k)) (min y c + 1) 0
def way (S : SS) : Nat → Nat → Int32
  | 0 => fun y => if y = 0 then 1 else 0
  | d + 1 => fun y => wsm (way S d) y (S 5 d 1).toNatClampNeg
def spParted (S : SS) (x : Int32) : Int32 × Int32 := if win x 0 99 = true then (0, way S (nd S) (ix x)) else (1, 0)
theorem dn_neg2 {n : Nat} (hn : n < 2 ^ 31) : nI n - 1 < 0 ↔ n = 0 := by
  cases n with
  | zero => decide
  | succ m => rw [nI_pred]; exact ⟨fun q => absurd q (nI_pos (by omega)), fun q => by omega⟩
section EDDY
variable {i : MI} {t : MT} {r : MR} {a : Nat} {S : SS} {L : LW}
theorem v_filln {v l : Nat} (hl : l ≤ 10000) (x : Int32) : Tt (f_J_fill i v l x) (fun i' => ∀ c j, i' c j = if c = v ∧ j < l then x else i c j) := by
  unfold f_J_fill
  refine tt_bind (P1 := fun i' => ∀ c j, i' c j = if c = v ∧ j < l then x else i c j)
    (tt_loop (fun q (s : Int32 × MI) => s.1 = nI q ∧ ∀ c j, s.2 c j = if c = v ∧ j < q then x else i c j) l (by omega) ?_ ?_ ⟨rfl, fun c j => by rw [if_neg (by omega)]⟩) (fun y hy => tt_some hy)
  · rintro q hq ⟨z, i5⟩ ⟨e1, e2⟩
    dsimp only at e1 e2 ⊢
    subst e1
    rw [if_pos (nI_lt hq (by omega)), grd_nI hq (by omega), ix_nI (by omega)]
    refine tt_bnd (tt_some ⟨nI_1 q, fun c j => ?_⟩)
    show wr i5 v q x c j = _
    by_cases e : c = v ∧ j = q
    · rw [e.1, e.2, wr_s, if_pos ⟨rfl, by omega⟩]
    · unfold wr
      rw [if_neg e, e2]
      by_cases e3 : c = v ∧ j < q
      · rw [if_pos e3, if_pos ⟨e3.1, by omega⟩]
      · rw [if_neg e3, if_neg (by omega)]
  · rintro ⟨z, i5⟩ ⟨e1, e2⟩
    dsimp only at e1 e2 ⊢
    subst e1
    rw [if_neg (nI_nlt (Nat.le_refl _) (by omega))]
    exact tt_some e2
theorem v_eddy (hw : Wf S) (h : CV i 1001 S) {lw : Nat} : Tt (f_Lc_eddy i) (fun y => y.1 = spEddy S ∧ CQ lw i y.2) := by
  unfold f_Lc_eddy
  refine tt_bind (v_filln (by decide) 0) ?_
  intro i1 hf
  refine tt_bind (P1 := fun i' => (∀ d, d < 25 → i' 1637 d = nI (cntb (fun c => vis S c d) 25)) ∧ ∀ b j, b ≠ 1637 → i' b j = i b j)
    (tt_loop (fun q (s : Int32 × MI) => s.1 = nI q ∧ (∀ d, d < 25 → s.2 1637 d = nI (cntb (fun c => vis S c d) q)) ∧ ∀ b j, b ≠ 1637 → s.2 b j = i b j) 25 (by omega) ?_ ?_ ⟨rfl, fun d hd => (hf 1637 d).trans (if_pos ⟨rfl, hd⟩), fun b j hb => (hf b j).trans (if_neg (fun q => hb q.1))⟩) ?_
  · rintro q hq ⟨z, i3⟩ ⟨e1, e2, e3⟩
    dsimp only at e1 e2 e3 ⊢
    subst e1
    rw [lit_nI 25, if_pos (nI_lt hq (by omega))]
    refine tt_bind (P1 := fun i' => (∀ d, d < 25 → i' 1637 d = nI (cntb (fun c => vis S c d) (q + 1))) ∧ ∀ b j, b ≠ 1637 → i' b j = i b j)
      (tt_loop (fun k (s : Int32 × Int32 × Int32 × MI) => (∀ d, d < 25 → bt s.1 d = anyk (fun j => decide (sit S (nI q) j = nI d)) k) ∧ s.2.1 = sit S (nI q) k ∧ s.2.2.1 = nI k ∧ (∀ d, d < 25 → s.2.2.2 1637 d = nI (cntb (fun c => vis S c d) q + if anyk (fun j => decide (sit S (nI q) j = nI d)) k = true then 1 else 0)) ∧ ∀ b j, b ≠ 1637 → s.2.2.2 b j = i b j) 25 (by omega) ?_ ?_ ⟨fun d _ => b_0 d, rfl, rfl, fun d hd => (e2 d hd).trans rfl, e3⟩) ?_
    · rintro k hk ⟨m, c, z, i6⟩ ⟨g1, g2, g3, g4, g5⟩
      dsimp only at g1 g2 g3 g4 g5 ⊢
      subst g3
      obtain ⟨c', hc', ec⟩ := sit_lt hw hq k
      rw [g2, ec, if_pos (nI_lt hk (by omega))]
      by_cases hb : bt m c' = false
      · rw [if_pos ((bt_and1 m (by omega)).mpr hb), grd_nI hc' (by omega), ix_nI (by omega)]
        refine tt_bnd ?_
        have h2 : CV (wr i6 1637 c' (i6 1637 c' + 1)) 1001 S := h.congr (fun b j _ hb2 => by rw [wr_a (by omega)]; exact g5 b j (by omega)) hw.1
        rw [v_drift hw h2 hc', Option.bind_some]
        refine tt_some ⟨fun d hd => ?_, ?_, nI_1 k, fun d hd => ?_, fun b j hb2 => ?_⟩
        · show bt (m ||| shl 1 (nI c')) d = (anyk (fun j => decide (sit S (nI q) j = nI d)) k || decide (sit S (nI q) k = nI d))
          rw [bt_set m (by omega) (by omega), g1 d hd, ec]
          congr 1
          by_cases e : d = c'
          · subst e; simp
          · have : ¬ nI c' = nI d := fun k => e (by have := congrArg Int32.toNatClampNeg k; rw [nI_clamp (by omega), nI_clamp (by omega)] at this; exact this.symm)
            simp [e, this]
        · show sdr S (nI c') = sdr S (sit S (nI q) k)
          rw [ec]
        · show wr i6 1637 c' (i6 1637 c' + 1) 1637 d = nI (cntb (fun c => vis S c d) q + if (anyk (fun j => decide (sit S (nI q) j = nI d)) k || decide (sit S (nI q) k = nI d)) = true then 1 else 0)
          rw [ec]
          by_cases e : d = c'
          · subst e
            have hf0 : anyk (fun j => decide (sit S (nI q) j = nI d)) k = false := by rw [← g1 d hd]; exact hb
            rw [wr_s, g4 d hd, hf0]
            simp [nI_1]
          · have : ¬ nI c' = nI d := fun k => e (by have := congrArg Int32.toNatClampNeg k; rw [nI_clamp (by omega), nI_clamp (by omega)] at this; exact this.symm)
            rw [wr_k e, g4 d hd]
            simp [this]
        · show wr i6 1637 c' _ b j = _
          rw [wr_a hb2]; exact g5 b j hb2
      · rw [if_neg (fun k => hb ((bt_and1 m (by omega)).mp k))]
        have hb' : bt m c' = true := by simpa using hb
        rw [g1 c' hc'] at hb'
        obtain ⟨j, hj, ej⟩ := (anyk_iff _ _).mp hb'
        simp only [decide_eq_true_eq] at ej
        have hv := fun d => vis_of (S := S) (c := q) (k := k) (by omega) (sit_rep hj (ej.trans ec.symm)) d
        refine tt_some ⟨fun d hd => ?_, g5⟩
        rw [g4 d hd, hv d]
        show _ = nI (if vis S q d = true then cntb (fun c => vis S c d) q + 1 else cntb (fun c => vis S c d) q)
        split <;> rfl
    · rintro ⟨m, c, z, i6⟩ ⟨g1, g2, g3, g4, g5⟩
      dsimp only at g1 g2 g3 g4 g5 ⊢
      subst g3
      rw [if_neg (nI_nlt (Nat.le_refl _) (by omega))]
      have hv := fun d => vis_of (S := S) (c := q) (k := 25) (by omega) (sit_25 hw hq) d
      refine tt_some ⟨fun d hd => ?_, g5⟩
      rw [g4 d hd, hv d]
      show _ = nI (if vis S q d = true then cntb (fun c => vis S c d) q + 1 else cntb (fun c => vis S c d) q)
      split <;> rfl
    · rintro i6 ⟨g1, g2⟩
      exact tt_some ⟨nI_1 q, g1, g2⟩
  · rintro ⟨z, i3⟩ ⟨e1, e2, e3⟩
    dsimp only at e1 e2 e3 ⊢
    subst e1
    rw [lit_nI 25, if_neg (nI_nlt (Nat.le_refl _) (by omega))]
    exact tt_some ⟨e2, e3⟩
  · rintro i7 ⟨e2, e3⟩
    refine tt_bind (P1 := fun v => v = spEddy S)
      (tt_loop (fun q (s : Int32 × Int32) => s.1 = (fo (edg S) (q + 1) (0, 0)).1 ∧ s.2 = nI (q + 1)) 24 (by omega) ?_ ?_ ⟨?_, rfl⟩) ?_
    · rintro q hq ⟨x, z⟩ ⟨g1, g2⟩
      dsimp only at g1 g2 ⊢
      subst g2
      obtain ⟨g, h1, h2⟩ := edg_form (S := S) (q + 1) (by omega)
      rw [h2] at g1
      dsimp only at g1
      subst g1
      rw [lit_nI 25, if_pos (nI_lt (by omega) (by omega)), grd_nI (show q + 1 < 25 by omega) (by omega), grd_nI (show g < 25 by omega) (by omega), ix_nI (by omega), ix_nI (by omega), e2 g (by omega), e2 (q + 1) (by omega)]
      refine tt_bind (P1 := fun v => v = (fo (edg S) (q + 1 + 1) (0, 0)).1) ?_ ?_
      · rw [fo_q, h2]
        show Tt (if nI (edn S g) < nI (edn S (q + 1)) then some (nI (q + 1)) else some (nI g)) (fun v => v = if nI (edn S g) < nI (edn S (q + 1)) then nI (q + 1) else nI g)
        by_cases c : nI (edn S g) < nI (edn S (q + 1))
        · rw [if_pos c, if_pos c]; exact tt_some rfl
        · rw [if_neg c, if_neg c]; exact tt_some rfl
      · intro v hv
        exact tt_some ⟨hv, nI_1 (q + 1)⟩
    · rintro ⟨x, z⟩ ⟨g1, g2⟩
      dsimp only at g1 g2 ⊢
      subst g2
      rw [lit_nI 25, if_neg (nI_nlt (Nat.le_refl _) (by omega))]
      exact tt_some g1
    · obtain ⟨g, h1, h2⟩ := edg_form (S := S) 1 (by omega)
      rw [h2]
      have : g = 0 := by omega
      subst this
      rfl
    · intro v hv
      exact tt_some ⟨hv, fun b j _ hb => e3 b j (fun q => hb (by unfold cqs; omega))⟩
theorem m_comesTo (hw : Wf S) (h : MV i S) {c d : Nat} (hc : c < 25) (hd : d < 25) : Tt (f_Mo_comesTo i (nI c) (nI d)) (fun v => v = if vis S c d = true then 1 else 0) := by
  unfold f_Mo_comesTo
  refine tt_bind (P1 := fun v => v = nI d ↔ vis S c d = true)
    (tt_loop (fun k (s : Int32 × Int32) => s.1 = sit S (nI c) k ∧ s.2 = nI k ∧ ∀ j, j < k → ¬ sit S (nI c) j = nI d) 25 (by omega) ?_ ?_ ⟨rfl, rfl, fun j hj => absurd hj (Nat.not_lt_zero j)⟩) ?_
  · rintro k hk ⟨x, z⟩ ⟨g1, g2, g3⟩
    dsimp only at g1 g2 g3 ⊢
    subst g1 g2
    obtain ⟨c', hc', ec⟩ := sit_lt hw hc k
    rw [lit_nI 25, if_pos (nI_lt hk (by omega))]
    by_cases e : sit S (nI c) k = nI d
    · rw [if_pos e]
      exact tt_some ⟨fun _ => (anyk_iff _ _).mpr ⟨k, by omega, by simp only [decide_eq_true_eq]; exact e⟩, fun _ => e⟩
    · rw [if_neg e, ec, m_drift h hc', Option.bind_some]
      refine tt_some ⟨?_, nI_1 k, fun j hj => ?_⟩
      · show sdr S (nI c') = sdr S (sit S (nI c) k)
        rw [ec]
      · rcases Nat.lt_succ_iff_lt_or_eq.mp hj with h9 | h9
        · exact g3 j h9
        · subst h9; exact e
  · rintro ⟨x, z⟩ ⟨g1, g2, g3⟩
    dsimp only at g1 g2 g3 ⊢
    subst g2
    rw [lit_nI 25, if_neg (nI_nlt (Nat.le_refl _) (by omega))]
    refine tt_some ⟨fun e => (anyk_iff _ _).mpr ⟨25, by omega, by simp only [decide_eq_true_eq]; exact g1.symm.trans e⟩, fun e => ?_⟩
    obtain ⟨k, h1, h2⟩ := (anyk_iff _ _).mp e
    simp only [decide_eq_true_eq] at h2
    rcases Nat.lt_succ_iff_lt_or_eq.mp h1 with h9 | h9
    · exact absurd h2 (g3 k h9)
    · subst h9; exact g1.trans h2
  · intro v hv
    by_cases e : v = nI d
    · rw [if_pos e]; exact tt_some (by rw [if_pos (hv.mp e)])
    · rw [if_neg e]; exact tt_some (by rw [if_neg (fun k => e (hv.mpr k))])
theorem m_eddy (hw : Wf S) (h : MV i S) : Tt (f_Mo_eddy i) (MO i (0, spEddy S)) := by
  have h1 := mv_t h 0
  unfold f_Mo_eddy
  refine tt_bnd ?_
  refine tt_bind (P1 := fun v => v = spEddy S)
    (tt_loop (fun q (s : Int32 × Int32 × Int32) => (s.1, s.2.1) = fo (edg S) q (0, 0) ∧ s.2.2 = nI q) 25 (by omega) ?_ ?_ ⟨rfl, rfl⟩) ?_
  · rintro q hq ⟨x, y, z⟩ ⟨g1, g2⟩
    dsimp only at g1 g2 ⊢
    subst g2
    rw [lit_nI 25, if_pos (nI_lt hq (by omega))]
    refine tt_bind (P1 := fun v => v = nI (edn S q))
      (tt_loop (fun k (s : Int32 × Int32) => s.1 = nI (cntb (fun c => vis S c q) k) ∧ s.2 = nI k) 25 (by omega) ?_ ?_ ⟨rfl, rfl⟩) ?_
    · rintro k hk ⟨x4, x5⟩ ⟨e1, e2⟩
      dsimp only at e1 e2 ⊢
      subst e1 e2
      rw [if_pos (nI_lt hk (by omega))]
      refine tt_bind (m_comesTo hw h1 hk hq) ?_
      rintro v rfl
      show Tt ((if (if vis S k q = true then (1 : Int32) else 0) = 0 then some (0 : Int32) else some 1).bind (fun y_19 => some (Sum.inl (nI (cntb (fun c => vis S c q) k) + y_19, nI k + 1)))) _
      by_cases c : vis S k q = true
      · rw [if_pos c, if_neg (by decide), Option.bind_some]
        refine tt_some ⟨?_, nI_1 k⟩
        show nI (cntb (fun c => vis S c q) k) + 1 = nI (if vis S k q = true then cntb (fun c => vis S c q) k + 1 else cntb (fun c => vis S c q) k)
        rw [if_pos c, nI_1]
      · rw [if_neg c, if_pos rfl, Option.bind_some]
        refine tt_some ⟨?_, nI_1 k⟩
        show nI (cntb (fun c => vis S c q) k) + 0 = nI (if vis S k q = true then cntb (fun c => vis S c q) k + 1 else cntb (fun c => vis S c q) k)
        rw [if_neg c, Int32.add_zero]
    · rintro ⟨x4, x5⟩ ⟨e1, e2⟩
      dsimp only at e1 e2 ⊢
      subst e2
      rw [if_neg (nI_nlt (Nat.le_refl _) (by omega))]
      exact tt_some e1
    · rintro v rfl
      refine tt_bind (P1 := fun v => v = (edg S q (x, y)).1) ?_ ?_
      · unfold edg
        by_cases c : y < nI (edn S q)
        · rw [if_pos c, if_pos c]; exact tt_some rfl
        · rw [if_neg c, if_neg c]; exact tt_some rfl
      · rintro v rfl
        rw [j_max, Option.bind_some]
        refine tt_some ⟨?_, nI_1 q⟩
        rw [fo_q, ← g1]
        rfl
  · rintro ⟨x, y, z⟩ ⟨g1, g2⟩
    dsimp only at g1 g2 ⊢
    subst g2
    rw [lit_nI 25, if_neg (nI_nlt (Nat.le_refl _) (by omega))]
    refine tt_some ?_
    dsimp only [lpP]
    unfold spEddy
    rw [← g1]
  · rintro v rfl
    exact tt_some (mo_ok (fq.refl _) wr_s rfl)
/-! ways -/
theorem way_up {m m' : Nat → Int32} {T q d : Nat} (hq : q < T + 1) (h0 : ∀ z, z ≤ T → m z = if T + 1 ≤ z + q then way S (d + 1) z else way S d z) (h1 : ∀ z, m' z = if z = T - q then way S (d + 1) (T - q) else m z) : ∀ z, z ≤ T → m' z = if T + 1 ≤ z + (q + 1) then way S (d + 1) z else way S d z := by
  intro z hz
  rw [h1]
  by_cases e : z = T - q
  · rw [if_pos e, if_pos (by omega), e]
  · rw [if_neg e, h0 z hz]
    by_cases e2 : T + 1 ≤ z + q
    · rw [if_pos e2, if_pos (by omega)]
    · rw [if_neg e2, if_neg (by omega)]
theorem wsm_of {m W : Nat → Int32} {y c : Nat} (h : ∀ z, z ≤ y → m z = W z) : ∀ n, n ≤ min y c + 1 → fo (fun k x => x + m (y - k)) n 0 = fo (fun k x => x + W (y - k)) n 0
  | 0, _ => rfl
  | n + 1, hn => by
    rw [fo_q, fo_q, wsm_of (c := c) h n (by omega), h (y - n) (by omega)]
theorem v_waysWith {y c : Nat} (hy : y ≤ 99) (hc : c ≤ 99) : f_Lc_waysWith i (nI y) (nI c) = some (wsm (fun z => i 1636 z) y c) := by
  have key : Tt (f_Lc_waysWith i (nI y) (nI c)) (fun v => v = wsm (fun z => i 1636 z) y c) := by
    unfold f_Lc_waysWith wsm
    refine tt_bind (P1 := fun v => v = fo (fun k x => x + i 1636 (y - k)) (min y c + 1) 0)
      (tt_loop (fun k (s : Int32 × Int32) => s = (fo (fun k x => x + i 1636 (y - k)) k 0, nI k)) (min y c + 1) (by omega) ?_ ?_ rfl) (fun v hv => tt_some hv)
    · rintro k hk _ rfl
      dsimp only
      rw [if_neg (nI_nlt (by omega) (by omega)), if_neg (nI_nlt (by omega) (by omega)), sub_nI (by omega), grd_nI (show y - k < 100 by omega) (by omega), ix_nI (by omega)]
      exact tt_some (by dsimp only [lpP]; rw [nI_1, fo_q])
    · rintro _ rfl
      dsimp only
      by_cases e : c < y
      · rw [if_pos (nI_lt (by omega) (by omega))]; exact tt_some rfl
      · by_cases e2 : nI c < nI (min y c + 1)
        · rw [if_pos e2]; exact tt_some rfl
        · rw [if_neg e2, if_pos (nI_lt (by omega) (by omega))]; exact tt_some rfl
  obtain ⟨v, h1, rfl⟩ := key
  exact h1
theorem v_parted (hw : Wf S) (h : CV i 1001 S) {lw : Nat} (x : Int32) : Tt (f_Lc_parted i x) (CO [20] lw i (spParted S x)) := by
  have h6 := hw.1.d6
  unfold f_Lc_parted spParted
  rw [v_within]
  by_cases hx : win x 0 99 = true
  · rw [if_pos hx, if_pos hx, Option.bind_some]
    obtain ⟨T, hT, rfl⟩ := win_of (n := 99) (by decide) hx
    dsimp only
    refine tt_bind (v_filln (by decide) 0) ?_
    intro i1 hf
    refine tt_bnd ?_
    refine tt_bind (P1 := fun i' => (∀ z, z ≤ T → i' 1636 z = way S (nd S) z) ∧ ∀ b j, b ≠ 1636 → i' b j = i b j)
      (tt_loop (fun d (s : Int32 × MI) => s.1 = nI d ∧ (∀ z, z ≤ T → s.2 1636 z = way S d z) ∧ ∀ b j, b ≠ 1636 → s.2 b j = i b j) (nd S) (by omega) ?_ ?_ ⟨rfl, fun z hz => ?_, fun b j hb => ?_⟩) ?_
    · rintro d hd ⟨z, i3⟩ ⟨e1, e2, e3⟩
      dsimp only at e1 e2 e3 ⊢
      subst e1
      have hS : ∀ i' : MI, (∀ b j, b ≠ 1636 → i' b j = i b j) → CV i' 1001 S := fun i' he => h.congr (fun b j _ hb2 => he b j (by omega)) hw.1
      refine tt_ifp (show nI d < i3 1001 10 by rw [show i3 1001 10 = S 0 0 3 from (hS i3 e3).1.2.2.2.1, hw.1.d]; exact nI_lt hd (by omega)) ?_
      obtain ⟨-, c, hc, ec⟩ := hw.2.2.2.2.2.1 d hd
      refine tt_bind (P1 := fun i' => (∀ z, z ≤ T → i' 1636 z = way S (d + 1) z) ∧ ∀ b j, b ≠ 1636 → i' b j = i b j)
        (tt_loop (fun q (s : Int32 × MI) => s.1 = nI (T + 1 - q) - 1 ∧ (∀ z, z ≤ T → s.2 1636 z = if T + 1 ≤ z + q then way S (d + 1) z else way S d z) ∧ ∀ b j, b ≠ 1636 → s.2 b j = i b j) (T + 1) (by omega) ?_ ?_ ⟨?_, fun z hz => (e2 z hz).trans (by rw [if_neg (by omega)]), e3⟩) ?_
      · rintro q hq ⟨z, i5⟩ ⟨g1, g2, g3⟩
        dsimp only at g1 g2 g3 ⊢
        subst g1
        have hz : nI (T + 1 - q) - 1 = nI (T - q) := by rw [show T + 1 - q = (T - q) + 1 by omega, nI_pred]
        have h5 := hS i5 g3
        rw [hz, if_neg (nI_pos (by omega)), grd_nI (show d < 6 by omega) (by decide), ix_nI (by omega), (h5.2.2.2.2.2.1 d hd).2, ec, v_waysWith (by omega) hc, Option.bind_some, grd_nI (show T - q < 100 by omega) (by decide), ix_nI (by omega)]
        refine tt_bnd (tt_some ⟨?_, ?_, fun b j hb => ?_⟩)
        · show nI (T - q) + (-1 : Int32) = nI (T + 1 - (q + 1)) - 1
          rw [addm, show T + 1 - (q + 1) = T - q by omega]
        · refine way_up (m := fun z => i5 1636 z) hq g2 (fun z => ?_)
          have hv : wsm (fun z => i5 1636 z) (T - q) c = way S (d + 1) (T - q) := by
            rw [show way S (d + 1) (T - q) = wsm (way S d) (T - q) (S 5 d 1).toNatClampNeg from rfl, ec, nI_clamp (by omega)]
            exact wsm_of (c := c) (fun z hz => by rw [g2 z (by omega), if_neg (by omega)]) _ (Nat.le_refl _)
          rw [hv]
          show wr i5 1636 (T - q) (way S (d + 1) (T - q)) 1636 z = _
          by_cases e : z = T - q
          · rw [if_pos e, e, wr_s]
          · rw [if_neg e, wr_k e]
        · show wr i5 1636 _ _ b j = _
          rw [wr_a hb]; exact g3 b j hb
      · rintro ⟨z, i5⟩ ⟨g1, g2, g3⟩
        dsimp only at g1 g2 g3 ⊢
        subst g1
        rw [if_pos ((dn_neg2 (by omega)).mpr (by omega))]
        exact tt_some ⟨fun z hz => (g2 z hz).trans (by rw [if_pos (by omega)]), g3⟩
      · show nI T = nI (T + 1 - 0) - 1
        rw [Nat.sub_zero, nI_pred]
      · rintro i5 ⟨g1, g2⟩
        exact tt_some ⟨nI_1 d, g1, g2⟩
    · rintro ⟨z, i3⟩ ⟨e1, e2, e3⟩
      dsimp only at e1 e2 e3 ⊢
      subst e1
      have hS : CV i3 1001 S := h.congr (fun b j _ hb2 => e3 b j (by omega)) hw.1
      refine tt_ifn (show ¬ nI (nd S) < i3 1001 10 by rw [show i3 1001 10 = S 0 0 3 from hS.1.2.2.2.1, hw.1.d]; exact nI_nlt (Nat.le_refl _) (by omega)) ?_
      exact tt_some ⟨e2, e3⟩
    · show wr i1 1636 0 1 1636 z = if z = 0 then 1 else 0
      by_cases e : z = 0
      · rw [if_pos e, e, wr_s]
      · rw [if_neg e, wr_k e, hf, if_pos ⟨rfl, by omega⟩]
    · show wr i1 1636 0 1 b j = i b j
      rw [wr_a hb, hf, if_neg (fun q => hb q.1)]
    · rintro i7 ⟨e2, e3⟩
      rw [grd_nI (show T < 100 by omega) (by decide), ix_nI (by omega), e2 T (Nat.le_refl _)]
      exact tt_some ⟨rfl, fun b j _ hb => e3 b j (fun q => hb (by unfold cqs; omega))⟩
  · rw [if_neg hx, if_neg hx]; exact tt_some ⟨rfl, CQ.refl _ _⟩
theorem mo_noSize (x : Int32) : f_Mo_noSize x = some (if win x 0 99 = true then 0 else 1) := by
  unfold f_Mo_noSize
  rw [mo_win, Option.bind_some]
  by_cases h : win x 0 99 = true
  · rw [if_pos h, if_pos h, if_neg (by decide)]
  · rw [if_neg h, if_neg h, if_pos rfl]
theorem m_parted (hw : Wf S) (h : MV i S) (x : Int32) : Tt (f_Mo_parted i x) (MO i (spParted S x)) := by
  have h6 := hw.1.d6
  have h1 := mv_t h 0
  unfold f_Mo_parted spParted
  refine tt_bnd ?_
  rw [mo_noSize, Option.bind_some]
  by_cases hx : win x 0 99 = true
  · rw [if_pos hx, if_pos hx, thr0, Option.bind_some]
    obtain ⟨T, hT, rfl⟩ := win_of (n := 99) (by decide) hx
    dsimp only
    rw [if_pos rfl]
    refine tt_bind (P1 := fun i' => (∀ z, z ≤ 99 → i' 1651 z = way S 0 z) ∧ ∀ b j, b ≠ 1651 → i' b j = wr i 1638 0 0 b j)
      (tt_loop (fun q (s : Int32 × MI) => s.1 = nI q ∧ (∀ z, z < q → s.2 1651 z = way S 0 z) ∧ ∀ b j, b ≠ 1651 → s.2 b j = wr i 1638 0 0 b j) 100 (by omega) ?_ ?_ ⟨rfl, fun z hz => absurd hz (Nat.not_lt_zero z), fun _ _ _ => rfl⟩) ?_
    · rintro q hq ⟨z, i5⟩ ⟨e1, e2, e3⟩
      dsimp only at e1 e2 e3 ⊢
      subst e1
      rw [lit_nI 99, if_neg (nI_nlt (by omega) (by omega))]
      have eq : (if nI q = 0 then some (1 : Int32) else some 0) = some (way S 0 q) := by
        show _ = some (if q = 0 then (1 : Int32) else 0)
        by_cases e : q = 0
        · rw [if_pos e, if_pos ((nI_z (by omega)).mpr e)]
        · rw [if_neg e, if_neg (fun k => e ((nI_z (by omega)).mp k))]
      rw [eq, Option.bind_some, grd_nI hq (by decide), ix_nI (by omega)]
      refine tt_bnd (tt_some ⟨nI_1 q, fun z hz => ?_, fun b j hb => ?_⟩)
      · show wr i5 1651 q (way S 0 q) 1651 z = _
        by_cases e : z = q
        · rw [e, wr_s]
        · rw [wr_k e]; exact e2 z (by omega)
      · show wr i5 1651 q (way S 0 q) b j = _
        rw [wr_a hb]; exact e3 b j hb
    · rintro ⟨z, i5⟩ ⟨e1, e2, e3⟩
      dsimp only at e1 e2 e3 ⊢
      subst e1
      rw [lit_nI 99, if_pos (nI_lt (by omega) (by omega))]
      exact tt_some ⟨fun z hz => e2 z (by omega), e3⟩
    · rintro i1 ⟨c1, c2⟩
      refine tt_bind (P1 := fun i' => (∀ z, z ≤ 99 → i' 1651 z = way S (nd S) z) ∧ ∀ b j, b ≠ 1651 → i' b j = wr i 1638 0 0 b j)
        (tt_loop (fun d (s : Int32 × MI) => s.1 = nI d ∧ (∀ z, z ≤ 99 → s.2 1651 z = way S d z) ∧ ∀ b j, b ≠ 1651 → s.2 b j = wr i 1638 0 0 b j) (nd S) (by omega) ?_ ?_ ⟨rfl, c1, c2⟩) ?_
      · rintro d hd ⟨z, i3⟩ ⟨e1, e2, e3⟩
        dsimp only at e1 e2 e3 ⊢
        subst e1
        have hS : ∀ i' : MI, (∀ b j, b ≠ 1651 → i' b j = wr i 1638 0 0 b j) → MV i' S := fun i' he => h1.congr (fun k => he 1639 k (by decide))
        rw [m_deadOnes (hS i3 e3), hw.1.d, Option.bind_some, if_pos (nI_lt hd (by omega))]
        obtain ⟨-, c, hc, ec⟩ := hw.2.2.2.2.2.1 d hd
        refine tt_bind (P1 := fun i' => (∀ z, z ≤ 99 → i' 1651 z = way S (d + 1) z) ∧ ∀ b j, b ≠ 1651 → i' b j = wr i 1638 0 0 b j)
          (tt_loop (fun q (s : Int32 × MI) => s.1 = nI (99 + 1 - q) - 1 ∧ (∀ z, z ≤ 99 → s.2 1651 z = if 99 + 1 ≤ z + q then way S (d + 1) z else way S d z) ∧ ∀ b j, b ≠ 1651 → s.2 b j = wr i 1638 0 0 b j) (99 + 1) (by omega) ?_ ?_ ⟨rfl, fun z hz => (e2 z hz).trans (by rw [if_neg (by omega)]), e3⟩) ?_
        · rintro q hq ⟨z, i5⟩ ⟨g1, g2, g3⟩
          dsimp only at g1 g2 g3 ⊢
          subst g1
          have hz : nI (99 + 1 - q) - 1 = nI (99 - q) := by rw [show 99 + 1 - q = (99 - q) + 1 by omega, nI_pred]
          have d1 : f_Mo_ofDead i5 (nI d) 1 = some (S 5 d 1) := m_dead (hS i5 g3) (k := 1) (by omega) (by decide)
          rw [hz, if_neg (nI_pos (by omega)), d1, ec]
          refine tt_bind (P1 := fun v => v = wsm (fun z => i5 1651 z) (99 - q) c)
            (tt_loop (fun k (s : Int32 × Int32) => s = (fo (fun k x => x + i5 1651 (99 - q - k)) k 0, nI k)) (min (99 - q) c + 1) (by omega) ?_ ?_ rfl) ?_
          · rintro k hk _ rfl
            dsimp only
            rw [Option.bind_some, j_min, Option.bind_some, jmin_nI (by omega) (by omega), if_neg (nI_nlt (by omega) (by omega)), sub_nI (by omega), grd_nI (show 99 - q - k < 100 by omega) (by omega), ix_nI (by omega)]
            exact tt_some (by dsimp only [lpP]; rw [nI_1, fo_q])
          · rintro _ rfl
            dsimp only
            rw [Option.bind_some, j_min, Option.bind_some, jmin_nI (by omega) (by omega), if_pos (nI_lt (by omega) (by omega))]
            exact tt_some rfl
          · rintro v rfl
            rw [grd_nI (show 99 - q < 100 by omega) (by decide), ix_nI (by omega)]
            refine tt_bnd (tt_some ⟨?_, ?_, fun b j hb => ?_⟩)
            · show nI (99 - q) + (-1 : Int32) = nI (99 + 1 - (q + 1)) - 1
              rw [addm, show 99 + 1 - (q + 1) = 99 - q by omega]
            · refine way_up (m := fun z => i5 1651 z) hq g2 (fun z => ?_)
              have hv : wsm (fun z => i5 1651 z) (99 - q) c = way S (d + 1) (99 - q) := by
                rw [show way S (d + 1) (99 - q) = wsm (way S d) (99 - q) (S 5 d 1).toNatClampNeg from rfl, ec, nI_clamp (by omega)]
                exact wsm_of (c := c) (fun z hz => by rw [g2 z (by omega), if_neg (by omega)]) _ (Nat.le_refl _)
              rw [hv]
              show wr i5 1651 (99 - q) (way S (d + 1) (99 - q)) 1651 z = _
              by_cases e : z = 99 - q
              · rw [if_pos e, e, wr_s]
              · rw [if_neg e, wr_k e]
            · show wr i5 1651 _ _ b j = _
              rw [wr_a hb]; exact g3 b j hb
        · rintro ⟨z, i5⟩ ⟨g1, g2, g3⟩
          dsimp only at g1 g2 g3 ⊢
          subst g1
          rw [if_pos ((dn_neg2 (by omega)).mpr (by omega))]
          exact tt_some ⟨fun z hz => (g2 z hz).trans (by rw [if_pos (by omega)]), g3⟩
        · rintro i5 ⟨g1, g2⟩
          exact tt_some ⟨nI_1 d, g1, g2⟩
      · rintro ⟨z, i3⟩ ⟨e1, e2, e3⟩
        dsimp only at e1 e2 e3 ⊢
        subst e1
        have hS : MV i3 S := h1.congr (fun k => e3 1639 k (by decide))
        rw [m_deadOnes hS, hw.1.d, Option.bind_some, if_neg (nI_nlt (Nat.le_refl _) (by omega))]
        exact tt_some ⟨e2, e3⟩
      · rintro i7 ⟨e2, e3⟩
        rw [grd_nI (show T < 100 by omega) (by decide), ix_nI (by omega), e2 T hT]
        exact tt_some (mo_ok ⟨fun b j hb => e3 b j (by omega), fun j _ => e3 1638 j (by decide)⟩ ((e3 1638 0 (by decide)).trans wr_s) rfl)
  · rw [if_neg hx, if_neg hx, thr1, Option.bind_some]
    dsimp only
    rw [if_neg (by decide)]
    exact tt_some (mo_err (by decide) (fq_t (fq.refl i) 0))
end EDDY
