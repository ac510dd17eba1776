/-! ===== calls that only look, 1 ===== -/
def win (x lo hi : Int32) : Bool := decide (¬ x < lo) && decide (¬ hi < x)
theorem mo_win (x lo hi : Int32) : f_Mo_in x lo hi = some (if win x lo hi = true then 1 else 0) := by
  unfold f_Mo_in win
  by_cases h : x < lo
  · simp [h]
  · by_cases h2 : hi < x <;> simp [h, h2]
theorem v_within (x lo hi : Int32) : f_Lc_needWithin x lo hi = some (if win x lo hi = true then .inl () else .inr 20) := by
  unfold f_Lc_needWithin win
  by_cases h : x < lo
  · simp [h]
  · by_cases h2 : hi < x <;> simp [h, h2]
theorem thr0 (i : MI) (k : Int32) : f_Mo_throwsIf i 0 k = some (0, i) := rfl
theorem thr1 (i : MI) (k : Int32) : f_Mo_throwsIf i 1 k = some (1, wr i 1638 0 k) := rfl
/-- a call's outcome: 0 and what it answers, or which of its exceptions; as the class has it -/
def toC (tg : List Nat) (p : Int32 × Int32) : Int32 ⊕ Nat := if p.1 = 0 then .inl p.2 else if p.1 = 1 then .inr (tg[0]?.getD 0) else if p.1 = 2 then .inr (tg[1]?.getD 0) else .inr (tg[2]?.getD 0)
/-- what a call of the reference that only looks leaves alone -/
def fq (i i' : MI) : Prop := (∀ b j, (b < 1638 ∨ b = 1639 ∨ b = 1640 ∨ b = 1643 ∨ b = 1644 ∨ 1658 ≤ b) → i' b j = i b j) ∧ ∀ j, j ≠ 0 → i' 1638 j = i 1638 j
def MO (i : MI) (p : Int32 × Int32) : Int32 × MI → Prop := fun y => y.2 1638 0 = p.1 ∧ (p.1 = 0 → y.1 = p.2) ∧ fq i y.2
theorem fq.refl (i : MI) : fq i i := ⟨fun _ _ _ => rfl, fun _ _ => rfl⟩
theorem fq.trans {i j k : MI} (h : fq i j) (h2 : fq j k) : fq i k := ⟨fun b q h1 => (h2.1 b q h1).trans (h.1 b q h1), fun q hq => (h2.2 q hq).trans (h.2 q hq)⟩
theorem fq_t {i i' : MI} (h : fq i i') (v : Int32) : fq i (wr i' 1638 0 v) := ⟨fun b j hb => by rw [wr_a (by omega)]; exact h.1 b j hb, fun j hj => by rw [wr_k hj]; exact h.2 j hj⟩
theorem fq_46 {i i' : MI} (h1 : ∀ b j, b ≠ 1646 → i' b j = i b j) : fq i i' := ⟨fun b j hb => h1 b j (by omega), fun j _ => h1 1638 j (by decide)⟩
theorem fq_mv {i i' : MI} {S : SS} (h : fq i i') (hm : MV i S) : MV i' S := hm.congr (fun k => h.1 1639 k (by omega))
theorem fq_ml {i i' : MI} {L : LW} (h : fq i i') (hm : ML i L) : ML i' L := hm.congr (fun k => h.1 1639 k (by omega))
theorem mo_err {i i' : MI} {b : Int32} {v k : Int32} (hk : ¬ k = 0) (h : fq i i') : MO i (k, v) (b, wr i' 1638 0 k) := ⟨show wr i' 1638 0 k 1638 0 = k from wr_s, fun q => absurd q hk, fq_t h k⟩
theorem mo_ok {i i' : MI} {b v : Int32} (h : fq (wr i 1638 0 0) i') (h0 : i' 1638 0 = 0) (hv : b = v) : MO i (0, v) (b, i') := ⟨h0, fun _ => hv, (fq_t (fq.refl i) 0).trans h⟩
theorem mv_t {i : MI} {S : SS} (h : MV i S) (v : Int32) : MV (wr i 1638 0 v) S := h.congr (fun k => wr_a (by decide))
theorem ml_t {i : MI} {L : LW} (h : ML i L) (v : Int32) : ML (wr i 1638 0 v) L := h.congr (fun k => wr_a (by decide))
def sit (S : SS) (c : Int32) : Nat → Int32
  | 0 => c
  | k + 1 => sdr S (sit S c k)
theorem sit_lt {S : SS} (hw : Wf S) {c : Nat} (hc : c < 25) : ∀ k, ∃ c', c' < 25 ∧ sit S (nI c) k = nI c'
  | 0 => ⟨c, hc, rfl⟩
  | k + 1 => by
    obtain ⟨c', h1, h2⟩ := sit_lt hw hc k
    unfold sit
    rw [h2]
    exact sdr_lt hw h1
def anyk (p : Nat → Bool) : Nat → Bool
  | 0 => false
  | n + 1 => anyk p n || p n
theorem anyk_iff (p : Nat → Bool) : ∀ n, anyk p n = true ↔ ∃ k, k < n ∧ p k = true
  | 0 => by simp [anyk]
  | n + 1 => by
    unfold anyk
    rw [Bool.or_eq_true, anyk_iff p n]
    constructor
    · rintro (⟨k, h1, h2⟩ | h)
      · exact ⟨k, by omega, h2⟩
      · exact ⟨n, by omega, h⟩
    · rintro ⟨k, h1, h2⟩
      by_cases e : k = n
      · subst e; exact Or.inr h2
      · exact Or.inl ⟨k, by omega, h2⟩
def cmr (S : SS) (c : Int32) : Int32 := if anyk (fun k => decide (sit S c (k + 1) = c)) 25 = true then 1 else 0
section API1
variable {i : MI} {a : Nat} {S : SS} {L : LW}
theorem v_comes (hw : Wf S) (h : CV i a S) {c : Nat} (hc : c < 25) : f_Se_comesRound i a (nI c) = some (cmr S (nI c)) := by
  have key : Tt (f_Se_comesRound i a (nI c)) (fun v => v = cmr S (nI c)) := by
    unfold f_Se_comesRound
    refine tt_loop (fun q (s : Int32 × Int32) => s = (sit S (nI c) q, nI q) ∧ ∀ k, k < q → sit S (nI c) (k + 1) ≠ nI c) 25 (by omega) ?_ ?_ ⟨rfl, fun k hk => absurd hk (Nat.not_lt_zero k)⟩
    · rintro q hq _ ⟨rfl, hn⟩
      dsimp only
      obtain ⟨c', h1, h2⟩ := sit_lt hw hc q
      rw [lit_nI 25, if_pos (nI_lt hq (by omega)), h2, v_drift hw h h1, Option.bind_some, ← h2]
      by_cases e : sdr S (sit S (nI c) q) = nI c
      · rw [if_pos e]
        refine tt_some ?_
        dsimp only [lpP]
        unfold cmr
        rw [if_pos ((anyk_iff _ _).mpr ⟨q, hq, decide_eq_true e⟩)]
      · rw [if_neg e]
        refine tt_some ⟨by rw [nI_1]; rfl, fun k hk => ?_⟩
        by_cases ek : k = q
        · subst ek; exact e
        · exact hn k (by omega)
    · rintro _ ⟨rfl, hn⟩
      dsimp only
      rw [lit_nI 25, if_neg (nI_nlt (Nat.le_refl _) (by omega))]
      refine tt_some ?_
      dsimp only [lpP]
      unfold cmr
      rw [if_neg]
      intro hh
      obtain ⟨k, h1, h2⟩ := (anyk_iff _ _).mp hh
      exact hn k h1 (of_decide_eq_true h2)
  obtain ⟨v, h1, rfl⟩ := key
  exact h1
theorem m_comes (hw : Wf S) (h : MV i S) {c : Nat} (hc : c < 25) : f_Mo_comesBack i (nI c) = some (cmr S (nI c)) := by
  have key : Tt (f_Mo_comesBack i (nI c)) (fun v => v = cmr S (nI c)) := by
    unfold f_Mo_comesBack
    rw [m_drift h hc, Option.bind_some]
    refine tt_bind (P1 := fun v => (v = nI c ↔ anyk (fun k => decide (sit S (nI c) (k + 1) = nI c)) 25 = true))
      (tt_loop (fun q (s : Int32 × Int32) => s = (sit S (nI c) (q + 1), nI (q + 1)) ∧ ∀ k, k < q → sit S (nI c) (k + 1) ≠ nI c) 24 (by omega) ?_ ?_ ⟨rfl, fun k hk => absurd hk (Nat.not_lt_zero k)⟩) ?_
    · rintro q hq _ ⟨rfl, hn⟩
      dsimp only
      obtain ⟨c', h1, h2⟩ := sit_lt hw hc (q + 1)
      rw [lit_nI 25, if_pos (nI_lt (by omega) (by omega))]
      by_cases e : sit S (nI c) (q + 1) = nI c
      · rw [if_pos e]
        refine tt_some ?_
        dsimp only [lpP]
        exact ⟨fun _ => (anyk_iff _ _).mpr ⟨q, by omega, decide_eq_true e⟩, fun _ => e⟩
      · rw [if_neg e, h2, m_drift h h1, Option.bind_some, ← h2]
        refine tt_some ⟨by rw [nI_1]; rfl, fun k hk => ?_⟩
        by_cases ek : k = q
        · subst ek; exact e
        · exact hn k (by omega)
    · rintro _ ⟨rfl, hn⟩
      dsimp only
      rw [lit_nI 25, if_neg (nI_nlt (by omega) (by omega))]
      refine tt_some ?_
      dsimp only [lpP]
      refine ⟨fun e => (anyk_iff _ _).mpr ⟨24, by omega, decide_eq_true e⟩, fun hh => ?_⟩
      obtain ⟨k, h1, h2⟩ := (anyk_iff _ _).mp hh
      by_cases ek : k = 24
      · subst ek; exact of_decide_eq_true h2
      · exact absurd (of_decide_eq_true h2) (hn k (by omega))
    · rintro v hv
      unfold cmr
      by_cases e : v = nI c
      · rw [if_pos e, if_pos (hv.mp e)]; exact tt_some rfl
      · rw [if_neg e, if_neg (fun k => e (hv.mpr k))]; exact tt_some rfl
  obtain ⟨v, h1, rfl⟩ := key
  exact h1
/-! cell -/
def spCell (S : SS) (x w : Int32) : Int32 × Int32 := if okx x 25 = true then (if okx w 4 = true then (0, if w = 0 then S 1 0 (ix x) else if w = 1 then sdr S x else if w = 2 then nI (swm S x) else cmr S x) else (2, 0)) else (1, 0)
theorem four {w : Int32} (h : okx w 4 = true) : w = 0 ∨ w = 1 ∨ w = 2 ∨ w = 3 := by
  obtain ⟨k, hk, rfl⟩ := okx_of (by decide) h
  rcases (show k = 0 ∨ k = 1 ∨ k = 2 ∨ k = 3 by omega) with rfl | rfl | rfl | rfl
  · exact Or.inl rfl
  · exact Or.inr (Or.inl rfl)
  · exact Or.inr (Or.inr (Or.inl rfl))
  · exact Or.inr (Or.inr (Or.inr rfl))
/-- a number beyond the places of a switch -/
theorem sw_no {α : Type} {x : Int32} {d : Option α} {n : Nat} (hn : n < 2 ^ 31) (h : ¬ okx x n = true) : ∀ (os : List (Option α)) (lo : Nat), lo + os.length ≤ n → sw x lo os d = d
  | [], _, _ => rfl
  | o :: os, lo, hl => by
    simp only [List.length_cons] at hl
    unfold sw
    rw [if_neg]
    · exact sw_no hn h os (lo + 1) (by omega)
    · intro e
      have : x = nI lo := by
        apply Int32.toInt_inj.mp
        rw [e, nI_toInt (by omega)]
      exact h (by rw [this]; exact okx_nI (by omega) hn)
theorem v_cell (hw : Wf S) (h : CV i 1001 S) (x w : Int32) : f_Lc_cell i x w = some (toC [22, 24] (spCell S x w)) := by
  unfold f_Lc_cell spCell
  rw [v_needCell]
  by_cases hx : okx x 25 = true
  · rw [if_pos hx, if_pos hx, Option.bind_some]
    obtain ⟨c, hc, rfl⟩ := okx_of (by decide) hx
    dsimp only
    rw [grd_nI hc (by decide), ix_nI (by omega), h.2.1 c hc, v_drift hw h hc, v_swimming hw.1 h, v_comes hw h hc]
    by_cases hww : okx w 4 = true
    · rw [if_pos hww]
      rcases four hww with rfl | rfl | rfl | rfl
      · rfl
      · rfl
      · rfl
      · show (if cmr S (nI c) = 0 then some (Sum.inl (0 : Int32)) else some (Sum.inl 1)) = some (Sum.inl (cmr S (nI c)) : Int32 ⊕ Nat)
        unfold cmr
        split <;> rfl
    · rw [if_neg hww]
      exact sw_no (by decide) hww _ 0 (Nat.le_refl _)
  · rw [if_neg hx, if_neg hx]; rfl
theorem m_cell (hw : Wf S) (h : MV i S) (x w : Int32) : Tt (f_Mo_cell i x w) (MO i (spCell S x w)) := by
  unfold f_Mo_cell spCell
  refine tt_bnd ?_
  have h1 := mv_t h 0
  rw [m_noCell, Option.bind_some]
  by_cases hx : okx x 25 = true
  · rw [if_pos hx, if_pos hx, thr0, Option.bind_some]
    obtain ⟨c, hc, rfl⟩ := okx_of (by decide) hx
    dsimp only
    rw [if_pos rfl, lit_nI 3, mo_inL 3 (by decide), Option.bind_some]
    by_cases hww : okx w 4 = true
    · rw [if_pos hww, if_pos hww, if_neg (by decide), Option.bind_some, thr0, Option.bind_some]
      dsimp only
      rw [if_pos rfl, lit_nI 11, nI_add, grd_nI (by omega) (by omega), ix_nI (by omega), ix_nI (by omega), h1.2.1 c hc, m_drift h1 hc, m_fishIn hw.1 h1, m_comes hw h1 hc]
      rcases four hww with rfl | rfl | rfl | rfl
      · exact tt_some (mo_ok (fq.refl _) wr_s rfl)
      · exact tt_some (mo_ok (fq.refl _) wr_s rfl)
      · exact tt_some (mo_ok (fq.refl _) wr_s rfl)
      · refine tt_mono (P1 := fun y => y = (cmr S (nI c), wr i 1638 0 0)) ?_ (fun y hy => by rw [hy]; exact mo_ok (fq.refl _) wr_s rfl)
        show Tt (if cmr S (nI c) = 0 then some ((0 : Int32), wr i 1638 0 0) else some (1, wr i 1638 0 0)) _
        unfold cmr
        by_cases hh : anyk (fun k => decide (sit S (nI c) (k + 1) = nI c)) 25 = true
        · rw [if_pos hh]; exact tt_ifn (by decide) (tt_some rfl)
        · rw [if_neg hh]; exact tt_ifp rfl (tt_some rfl)
    · rw [if_neg hww, if_neg hww, if_pos rfl, Option.bind_some, thr1, Option.bind_some]
      dsimp only
      rw [if_neg (by decide)]
      exact tt_some (mo_err (by decide) (fq_t (fq.refl i) 0))
  · rw [if_neg hx, if_neg hx, thr1, Option.bind_some]
    dsimp only
    rw [if_neg (by decide)]
    exact tt_some (mo_err (by decide) (fq_t (fq.refl i) 0))
/-! boat -/
def spBoat (S : SS) (x w : Int32) : Int32 × Int32 := if okx x (nb S) = true then (if okx w 4 = true then (0, if w = 3 then nI (abd S x) else S 3 (ix x) (ix w)) else (2, 0)) else (1, 0)
theorem v_boat (hw : Wf S) (h : CV i 1001 S) (x w : Int32) : f_Lc_boat i x w = some (toC [22, 24] (spBoat S x w)) := by
  have h3 := hw.1.b3
  unfold f_Lc_boat spBoat
  rw [v_needBoat hw.1 h]
  by_cases hx : okx x (nb S) = true
  · rw [if_pos hx, if_pos hx, Option.bind_some]
    obtain ⟨c, hc, rfl⟩ := okx_of (by omega) hx
    dsimp only
    obtain ⟨p0, p1, p2⟩ := h.2.2.2.1 c hc
    rw [grd_nI (show c < 3 by omega) (by decide), ix_nI (by omega), p0, p1, p2, v_aboard hw.1 h]
    by_cases hww : okx w 4 = true
    · rw [if_pos hww]
      rcases four hww with rfl | rfl | rfl | rfl <;> rfl
    · rw [if_neg hww]
      exact sw_no (by decide) hww _ 0 (Nat.le_refl _)
  · rw [if_neg hx, if_neg hx]; rfl
theorem m_boatA (hw : Wf S) (h : MV i S) (x w : Int32) : Tt (f_Mo_boat i x w) (MO i (spBoat S x w)) := by
  have h3 := hw.1.b3
  unfold f_Mo_boat spBoat
  refine tt_bnd ?_
  have h1 := mv_t h 0
  rw [m_noBoat hw.1 h1, Option.bind_some]
  by_cases hx : okx x (nb S) = true
  · rw [if_pos hx, if_pos hx, thr0, Option.bind_some]
    obtain ⟨c, hc, rfl⟩ := okx_of (by omega) hx
    dsimp only
    rw [if_pos rfl, lit_nI 3, mo_inL 3 (by decide), Option.bind_some]
    by_cases hww : okx w 4 = true
    · rw [if_pos hww, if_pos hww, if_neg (by decide), Option.bind_some, thr0, Option.bind_some]
      dsimp only
      rw [if_pos rfl, m_aboard hw.1 h1]
      obtain ⟨k, hk, rfl⟩ := okx_of (by decide) hww
      by_cases e : nI k = nI 3
      · rw [if_pos e, if_pos e]
        exact tt_some (mo_ok (fq.refl _) wr_s rfl)
      · have hk3 : k < 3 := by
          rcases Nat.lt_or_ge k 3 with h9 | h9
          · exact h9
          · exact absurd (by rw [show k = 3 by omega]) e
        rw [if_neg e, if_neg e, m_boat h1 (show c < 3 by omega) hk3, ix_nI (by omega), ix_nI (by omega)]
        exact tt_some (mo_ok (fq.refl _) wr_s rfl)
    · rw [if_neg hww, if_neg hww, if_pos rfl, Option.bind_some, thr1, Option.bind_some]
      dsimp only
      rw [if_neg (by decide)]
      exact tt_some (mo_err (by decide) (fq_t (fq.refl i) 0))
  · rw [if_neg hx, if_neg hx, thr1, Option.bind_some]
    dsimp only
    rw [if_neg (by decide)]
    exact tt_some (mo_err (by decide) (fq_t (fq.refl i) 0))
/-! dead -/
def spDead (S : SS) (x w : Int32) : Int32 × Int32 := if okx x (nd S) = true then (if okx w 2 = true then (0, S 5 (ix x) (ix w)) else (2, 0)) else (1, 0)
theorem v_dead (hw : Wf S) (h : CV i 1001 S) (x w : Int32) : f_Lc_dead i x w = some (toC [22, 24] (spDead S x w)) := by
  have h6 := hw.1.d6
  unfold f_Lc_dead spDead
  rw [show i 1001 10 = S 0 0 3 from h.1.2.2.2.1, hw.1.d]
  by_cases hx : okx x (nd S) = true
  · rw [if_pos hx]
    obtain ⟨c, hc, rfl⟩ := okx_of (by omega) hx
    obtain ⟨p0, p1⟩ := h.2.2.2.2.2.1 c hc
    rw [if_neg (nI_pos (by omega)), if_pos (nI_lt hc (by omega)), grd_nI (show c < 6 by omega) (by decide), grd_nI (show c < 6 by omega) (by decide), ix_nI (by omega), p0, p1]
    by_cases hww : okx w 2 = true
    · rw [if_pos hww]
      obtain ⟨k, hk, rfl⟩ := okx_of (by decide) hww
      rcases (show k = 0 ∨ k = 1 by omega) with rfl | rfl <;> rfl
    · rw [if_neg hww]
      have e0 : ¬ w.toInt = 0 := fun e => hww (by
        have : w = nI 0 := by apply Int32.toInt_inj.mp; rw [e]; decide
        rw [this]; decide)
      have e1 : ¬ w.toInt = 1 := fun e => hww (by
        have : w = nI 1 := by apply Int32.toInt_inj.mp; rw [e]; decide
        rw [this]; decide)
      rw [if_neg e0, if_neg e1]
      rfl
  · rw [if_neg hx]
    unfold okx at hx
    by_cases h0 : x < 0
    · rw [if_pos h0]; rfl
    · rw [if_neg h0, if_neg (fun k => hx (by simp [h0, k]))]; rfl
theorem m_deadA (hw : Wf S) (h : MV i S) (x w : Int32) : Tt (f_Mo_dead i x w) (MO i (spDead S x w)) := by
  have h6 := hw.1.d6
  unfold f_Mo_dead spDead
  refine tt_bnd ?_
  have h1 := mv_t h 0
  rw [m_deadOnes h1, Option.bind_some, hw.1.d, mo_in (by omega), Option.bind_some]
  by_cases hx : okx x (nd S) = true
  · rw [if_pos hx, if_pos hx, if_neg (by decide), Option.bind_some, thr0, Option.bind_some]
    obtain ⟨c, hc, rfl⟩ := okx_of (by omega) hx
    dsimp only
    rw [if_pos rfl, lit_nI 1, mo_inL 1 (by decide), Option.bind_some]
    by_cases hww : okx w 2 = true
    · rw [if_pos hww, if_pos hww, if_neg (by decide), Option.bind_some, thr0, Option.bind_some]
      dsimp only
      obtain ⟨k, hk, rfl⟩ := okx_of (by decide) hww
      rw [if_pos rfl, m_dead h1 (show c < 6 by omega) hk, Option.bind_some, ix_nI (by omega), ix_nI (by omega)]
      exact tt_some (mo_ok (fq.refl _) wr_s rfl)
    · rw [if_neg hww, if_neg hww, if_pos rfl, Option.bind_some, ← lit_nI 1, thr1, Option.bind_some]
      dsimp only
      rw [if_neg (by decide)]
      exact tt_some (mo_err (by decide) (fq_t (fq.refl i) 0))
  · rw [if_neg hx, if_neg hx, if_pos rfl, Option.bind_some, thr1, Option.bind_some]
    dsimp only
    rw [if_neg (by decide)]
    exact tt_some (mo_err (by decide) (fq_t (fq.refl i) 0))
/-! slab, sea, gone, freshest -/
theorem v_sets (hw : Wf S) (h : CV i 1001 S) : f_Lc_slab i = some (nI (plc S 2)) ∧ f_Lc_sea i = some (nI (plc S 0)) ∧ f_Lc_gone i = some (nI (plc S 3)) := by
  unfold f_Lc_slab f_Lc_sea f_Lc_gone
  rw [v_placed hw.1 h, v_placed hw.1 h, v_placed hw.1 h]
  exact ⟨rfl, rfl, rfl⟩
theorem m_sets (hw : Wf S) (h : MV i S) : Tt (f_Mo_slab i) (MO i (0, nI (plc S 2))) ∧ Tt (f_Mo_sea i) (MO i (0, nI (plc S 0))) ∧ Tt (f_Mo_gone i) (MO i (0, nI (plc S 3))) := by
  have h1 := mv_t h 0
  unfold f_Mo_slab f_Mo_sea f_Mo_gone
  simp only [bnd]
  rw [m_allThat hw.1 h1, m_allThat hw.1 h1, m_allThat hw.1 h1]
  exact ⟨tt_some (mo_ok (fq.refl _) wr_s rfl), tt_some (mo_ok (fq.refl _) wr_s rfl), tt_some (mo_ok (fq.refl _) wr_s rfl)⟩
theorem v_freshestA (hw : Wf S) (h : CV i 1001 S) : f_Lc_freshest i = some (frs S (fun f => decide (S 2 f 3 = 2))) := by
  unfold f_Lc_freshest
  rw [v_placed hw.1 h, Option.bind_some, v_freshest hw.1 h (show plc S 2 < 256 from bits_256 _ hw.1.f8), Option.bind_some]
  congr 1
  exact frs_congr (fun f hf => by unfold plc; rw [bits_test]; simp [hf])
end API1
