/-! ===== the world between two calls, on both sides ===== -/
/-- now and what is remembered; the law; the tape's length and bytes; the fault; the image -/
abbrev AS : Type := PW × LW × Nat × (Nat → Int32) × Int32 × Option (SS × LW)
def KpC (t : MT) (i : MI) (r : MR) (K : Option (SS × LW)) : Prop := match K with
  | none => i 1000 4 = 0
  | some p => i 1000 4 = 1 ∧ Wf p.1 ∧ CV i 1112 p.1 ∧ LwOK (r 1112 16) ∧ CL t i (r 1112 16) p.2 ∧ WL p.2
def KpM (i : MI) (K : Option (SS × LW)) : Prop := match K with
  | none => i 1638 6 = 0
  | some p => i 1638 6 = 1 ∧ MV (fun _ j => i 1640 j) p.1 ∧ ML (fun _ j => i 1640 j) p.2
/-- the class's side -/
def CInv (N : Nat) (t : MT) (i : MI) (r : MR) (A : AS) : Prop := Sh N t r ∧ SV t i ∧ WW A.1 ∧ CW i r (r 1001 16) A.1 ∧ LwOK (r 1001 16) ∧ CL t i (r 1001 16) A.2.1 ∧ WL A.2.1 ∧ A.2.2.1 ≤ 400 ∧ TC i A.2.2.1 A.2.2.2.1 ∧ i 1595 2 = A.2.2.2.2.1 ∧ i 1601 0 = 0 ∧ KpC t i r A.2.2.2.2.2
/-- the reference's side -/
def MInv (i : MI) (A : AS) : Prop := MW i A.1 ∧ ML i A.2.1 ∧ TM i A.2.2.1 A.2.2.2.1 ∧ i 1638 14 = A.2.2.2.2.1 ∧ KpM i A.2.2.2.2.2
section WORLD
variable {N N' U : Nat} {t t' : MT} {i i' : MI} {r r' : MR} {W W' : PW} {L : LW} {n n' : Nat} {T T' : Nat → Int32} {f f' : Int32} {K : Option (SS × LW)}
theorem CL.tcongr {l : Nat} (h : CL t i l L) (ht : ∀ b, l + 2 ≤ b → b < l + 6 → t' b = t b) : CL t' i l L := by
  unfold CL
  rw [ht _ (by omega) (by omega), ht _ (by omega) (by omega), ht _ (by omega) (by omega), ht _ (by omega) (by omega)]
  exact h
theorem lw_apart {l k : Nat} (h1 : isLw N t r l) (h2 : isLw N t r k) : ∀ j, j < 6 → j ≠ 1 → k + j ≠ l + 1 := by
  intro j hj h1j e
  obtain ⟨-, -, a3, -, -, -, -, -, a9, a10, a11, a12, a13⟩ := h1
  obtain ⟨-, -, b3, -, -, -, -, -, b9, b10, b11, b12, b13⟩ := h2
  have hc : (k = l + 1) ∨ l = k + 1 ∨ l = k + 2 ∨ l = k + 3 ∨ l = k + 4 := by omega
  rcases hc with c | c | c | c | c
  · rw [c, a9] at b3; cases b3
  · rw [c, b9] at a3; cases a3
  · rw [c] at a3; rw [a3] at b10; cases b10
  · rw [c] at a3; rw [a3] at b11; cases b11
  · rw [c] at a3; rw [a3] at b12; cases b12
theorem KpC.gen (s : Sh N t r) (hlw : LwOK (r 1001 16)) (h : KpC t i r K) (ht : ∀ b, b < N → t' b = t b) (he : ∀ b j, b < N → (b < 1001 ∨ 1032 ≤ b) → (b < 1149 ∨ 1595 < b) → b ≠ r 1001 16 + 1 → ¬ cqs b → (b < 1638 ∨ 1659 ≤ b) → b ≠ 1596 → (b < 1598 ∨ 1603 ≤ b ∨ (b = 1601 ∧ j = 0)) → i' b j = i b j) (hr : r' 1112 16 = r 1112 16) : KpC t' i' r' K := by
  have hN := s.1
  have hla := hlw.a
  unfold LwOK at hlw
  cases K with
  | none => exact (he _ _ (by omega) (by omega) (by omega) (by omega) (by unfold cqs; omega) (by omega) (by omega) (by omega)).trans h
  | some p =>
    obtain ⟨h1, h2, h3, h4, h5, h6⟩ := h
    have ap := lw_apart (sLaw s sea1001) (sLaw s sea1112)
    have hb := (sLaw s sea1112).2.1
    have h4' := h4
    unfold LwOK at h4'
    unfold KpC
    rw [hr]
    refine ⟨(he _ _ (by omega) (by omega) (by omega) (by omega) (by unfold cqs; omega) (by omega) (by omega) (by omega)).trans h1, h2, h3.congr (fun b k q1 q2 => he b k (by omega) (by omega) (by omega) (by omega) (by unfold cqs; omega) (by omega) (by omega) (by omega)) h2.1, h4, (h5.congr (fun b k q => ?_)).tcongr (fun b q1 q2 => ht b (by omega)), h6⟩
    have hne : b ≠ r 1001 16 + 1 := by
      have := ap (b - r 1112 16) (by omega) (by omega)
      omega
    exact he b k (by omega) (by omega) (by omega) hne (by unfold cqs; omega) (by omega) (by omega) (by omega)
theorem CInv.gen (h : CInv N t i r (W, L, n, T, f, K)) (s' : Sh N' t' r') (ht : ∀ b, b < N → t' b = t b) (hW : WW W') (hCW : CW i' r' (r 1001 16) W') (hn : n' ≤ 400) (hT : TC i' n' T') (hf : i' 1595 2 = f') (he : ∀ b j, b < N → (b < 1001 ∨ 1032 ≤ b) → (b < 1149 ∨ 1595 < b) → b ≠ r 1001 16 + 1 → ¬ cqs b → (b < 1638 ∨ 1659 ≤ b) → b ≠ 1596 → (b < 1598 ∨ 1603 ≤ b ∨ (b = 1601 ∧ j = 0)) → i' b j = i b j) (hr : r' 1112 16 = r 1112 16) : CInv N' t' i' r' (W', L, n', T', f', K) := by
  obtain ⟨s, hS, hw, hcw, hlw, hl, hL, hn0, hT0, hf0, h16, hk⟩ := h
  have hN := s.1
  have e16 : r' 1001 16 = r 1001 16 := hCW.2.1
  have hb := (sLaw s sea1001).2.1
  have hlw' := hlw
  unfold LwOK at hlw'
  refine ⟨s', ?_, hW, ?_, ?_, ?_, hL, hn, hT, hf, ?_, hk.gen s hlw ht he hr⟩
  · intro k hk
    obtain ⟨q1, q2, q3⟩ := hS k hk
    have e : ∀ b j, b < 190 → i' b j = i b j := fun b j hb => he b j (by omega) (by omega) (by omega) (by omega) (by unfold cqs; omega) (by omega) (by omega) (by omega)
    refine ⟨by rw [e _ _ (by omega)]; exact q1, by rw [ht _ (by omega)]; exact q2, fun j hj => by rw [e _ _ (by omega)]; exact q3 j hj⟩
  · rw [e16]; exact hCW
  · rw [e16]; exact hlw
  · rw [e16]
    exact (hl.congr (fun b k q => he b k (by omega) (by omega) (by omega) (by omega) (by unfold cqs; omega) (by omega) (by omega) (by omega))).tcongr (fun b q1 q2 => ht b (by omega))
  · exact (he _ _ (by omega) (by omega) (by omega) (by omega) (by unfold cqs; omega) (by omega) (by omega) (by omega)).trans h16
/-- what isn't the class's own may change -/
theorem CInv.up {A : AS} (h : CInv N t i r A) (s' : Sh N' t' r') (ht : ∀ b, b < N → t' b = t b) (he : ∀ b j, b < N → b ≠ r 1001 16 + 1 → ¬ cqs b → (b < 1638 ∨ 1659 ≤ b) → i' b j = i b j) (hr : ∀ b k, b < N → ¬ cqs b → (b < 1638 ∨ 1659 ≤ b) → r' b k = r b k) : CInv N' t' i' r' A := by
  obtain ⟨W, L, n, T, f, K⟩ := A
  have h0 := h
  obtain ⟨s, hS, hw, hcw, hlw, hl, hL, hn0, hT0, hf0, h16, hk⟩ := h0
  have hN := s.1
  have hlw' := hlw
  unfold LwOK at hlw'
  refine h.gen s' ht hw ⟨hcw.1.congr (fun b j q1 q2 => he b j (by omega) (by omega) (by unfold cqs; omega) (by omega)) hw.1.1, hr _ _ (by omega) (by unfold cqs; omega) (by omega), hcw.2.2.congr hw.2.2 (fun b j q1 q2 => he b j (by omega) (by omega) (by unfold cqs; omega) (by omega)) (fun b j q1 q2 => hr b j (by omega) (by unfold cqs; omega) (by omega))⟩ hn0 ⟨(he _ _ (by omega) (by omega) (by unfold cqs; omega) (by omega)).trans hT0.1, fun k hk => (he _ _ (by omega) (by omega) (by unfold cqs; omega) (by omega)).trans (hT0.2 k hk)⟩ ((he _ _ (by omega) (by omega) (by unfold cqs; omega) (by omega)).trans hf0) (fun b j q1 q2 q3 q4 q5 q6 q7 _ => he b j q1 q4 q5 q6) (hr _ _ (by omega) (by unfold cqs; omega) (by omega))
/-- a new cell behind all others -/
theorem CInv.aNew {A : AS} (h : CInv N t i r A) (c : Nat) : CInv (N + 1) (aNew (N, U, t, i, r) c 0 6).2.2.1 (aNew (N, U, t, i, r) c 0 6).2.2.2.1 (aNew (N, U, t, i, r) c 0 6).2.2.2.2 A :=
  h.up (h.1.grow (by omega) (fun b hb => if_neg (show ¬ b = N by omega)) (fun b j hb => if_neg (show ¬ b = N by omega))) (fun b hb => if_neg (show ¬ b = N by omega)) (fun b j hb _ _ _ => if_neg (show ¬ b = N by omega)) (fun b j hb _ _ => if_neg (show ¬ b = N by omega))
/-- the reference's cells, and the answer's, may change -/
theorem CInv.mo {A : AS} (h : CInv N t i r A) (he : ∀ b j, (b < 1638 ∨ 1659 ≤ b) → i' b j = i b j) : CInv N t i' r A :=
  h.up h.1 (fun _ _ => rfl) (fun b j _ _ _ hb => he b j hb) (fun _ _ _ _ _ => rfl)
theorem MInv.congr {A : AS} (h : MInv i A) (he : ∀ b j, 1638 ≤ b → b < 1658 → i' b j = i b j) : MInv i' A := by
  obtain ⟨⟨h1, h2, h3⟩, h4, h5, h6, h7⟩ := h
  have e : ∀ b, 1638 ≤ b → b < 1658 → i' b = i b := fun b q1 q2 => funext fun j => he b j q1 q2
  have e38 := e 1638 (by omega) (by omega)
  have e39 := e 1639 (by omega) (by omega)
  have e40 := e 1640 (by omega) (by omega)
  have e43 := e 1643 (by omega) (by omega)
  have e44 := e 1644 (by omega) (by omega)
  unfold MInv MW MP TM KpM
  simp only [MV, ML, e38, e39, e40, e43, e44]
  simp only [MV] at h1 h3
  simp only [ML] at h4
  refine ⟨⟨h1, h2, h3⟩, h4, h5, h6, ?_⟩
  unfold KpM at h7
  simp only [MV, ML] at h7
  exact h7
theorem ML.congrL {i i' : MI} (h : ML i L) (he : ∀ j, (417 ≤ j ∨ j = 5) → i' 1639 j = i 1639 j) : ML i' L := by
  obtain ⟨h1, h2, h3⟩ := h
  refine ⟨(he _ (by omega)).trans h1, fun q => (he _ (by omega)).trans (h2 q), fun k hk => ?_⟩
  obtain ⟨a1, a2, g, a3, a4, a5, a6⟩ := h3 k hk
  refine ⟨(he _ (by omega)).trans a1, (he _ (by omega)).trans a2, g, (he _ (by omega)).trans a3, (he _ (by omega)).trans a4, a5, fun q hq => ?_⟩
  obtain ⟨b1, b2⟩ := a6 q hq
  exact ⟨(he _ (by omega)).trans b1, fun hn => (he _ (by omega)).trans (b2 hn)⟩
theorem MInv.gen (h : MInv i (W, L, n, T, f, K)) (hW : MW i' W') (hT : TM i' n' T') (hf : i' 1638 14 = f') (hL : ∀ j, (417 ≤ j ∨ j = 5) → i' 1639 j = i 1639 j) (h6 : i' 1638 6 = i 1638 6) (h40 : ∀ j, i' 1640 j = i 1640 j) : MInv i' (W', L, n', T', f', K) := by
  obtain ⟨h1, h2, h3, h4, h5⟩ := h
  refine ⟨hW, h2.congrL hL, hT, hf, ?_⟩
  have e40 : i' 1640 = i 1640 := funext h40
  unfold KpM at h5 ⊢
  dsimp only at h5 ⊢
  rw [h6, e40]
  exact h5
end WORLD
