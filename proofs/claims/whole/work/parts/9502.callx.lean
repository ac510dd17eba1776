/-! ===== law, image, back of the class, told of the world ===== -/
def spLaw (n : Nat) (T : Nat → Int32) (A : AS) : (Int32 × Int32) × AS := match rLawA n T with
  | .inl e => ((1, 0), (A.1, A.2.1, 0, A.2.2.2.1, nI e, A.2.2.2.2.2))
  | .inr p => ((0, nI p.1), ((A.1.1, 0, A.1.2.2), lawOf p.1 p.2, 0, A.2.2.2.1, -1, A.2.2.2.2.2))
def spImage (A : AS) : AS := (A.1, A.2.1, A.2.2.1, A.2.2.2.1, A.2.2.2.2.1, some (A.1.1, A.2.1))
def spBack (A : AS) : Int32 × AS := match A.2.2.2.2.2 with
  | none => (0, A)
  | some p => (1, ((p.1, 0, A.1.2.2), p.2, A.2.2.1, A.2.2.2.1, A.2.2.2.2.1, some p))
section CALLX
variable {N U d : Nat} {t : MT} {i : MI} {r : MR} {A : AS}
set_option maxHeartbeats 1000000 in
theorem C_law (hI : CInv N t i r A) (hd : 300 ≤ d) : Rn d 124 [.ref 1000] (N, U, t, i, r) (CRs N U t i (spLaw A.2.2.1 A.2.2.2.1 A).1 [20] (spLaw A.2.2.1 A.2.2.2.1 A).2) := by
  obtain ⟨W, L, n, T, f, K⟩ := A
  have hI0 := hI
  have hw := hI.ww
  have hcw := hI.cw
  have h9 := hI.lw
  unfold LwOK at h9
  have hn4 := hI.n4
  obtain ⟨s, hS, -, -, hlw, hl, hL, -, hT0, hf0, h16, hk⟩ := hI
  have h59 := s.1
  dsimp only at hw hcw hl hL hT0 hf0 hk hn4
  refine (rn_Lc_law s hS hn4 hT0 h16 (by omega)).mono (fun q hq => ?_)
  unfold LWC at hq
  show CRs N U t i (spLaw n T (W, L, n, T, f, K)).1 [20] (spLaw n T (W, L, n, T, f, K)).2 q
  unfold spLaw
  cases hr : rLawA n T with
  | inl e =>
    rw [hr] at hq
    obtain ⟨i1, rfl, q1, q2, q3, q4⟩ := hq
    dsimp only
    have hI1 : CInv N t i1 r (W, L, 0, T, nI e, K) := CInv.gen hI0 s (fun _ _ => rfl) hw ⟨hcw.1.congr (fun b j c1 c2 => q4 b j (by omega) (by omega) (by omega)) hw.1.1, rfl, hcw.2.2.congr hw.2.2 (fun b j c1 c2 => q4 b j (by omega) (by omega) (by omega)) (fun _ _ _ _ => rfl)⟩ (Nat.zero_le _) ⟨q1, fun k hk => absurd hk (Nat.not_lt_zero k)⟩ q3 (fun b j c1 c2 c3 c4 c5 c6 c7 c8 => by
      by_cases hb : b = 1601
      · have hj : j = 0 := by omega
        rw [hb, hj]; exact q2.trans h16.symm
      · exact q4 b j (by omega) (by omega) (by omega)) rfl
    refine ⟨N + 1, U + 6, _, _, _, hI1.aNew (U := U) 20, by omega, by omega, fun b j h1 h2 => (if_neg (show ¬ b = N by omega)).trans (q4 b j (by omega) (by omega) (by omega)), if_neg (show ¬ 1 = N by omega), Or.inr ⟨(by show ¬ (1 : Int32) = 0; decide), N, rfl, ?_⟩⟩
    show (if N = N then (20, 0) else t N).1 = _
    rw [if_pos rfl]; rfl
  | inr p =>
    rw [hr] at hq
    obtain ⟨t1, i1, r1, rfl, a1, a2, a3, a4, a5, a6, a7, a8, a9, a10, a11, a12, a13⟩ := hq
    dsimp only
    have e1112 : r1 1112 16 = r 1112 16 := a13 _ _ (by omega) (by omega)
    obtain ⟨-, pp, hp, hp2, -⟩ := hcw.2.2
    refine ⟨N + 6, _, t1, i1, r1, ⟨a8, ?_, ⟨hw.1, (by show 0 ≤ 12; omega), fun k hk => absurd hk (Nat.not_lt_zero k)⟩, ⟨?_, rfl, a6, pp, hp, ?_, fun k hk => absurd hk (Nat.not_lt_zero k)⟩, ?_, ?_, a11, Nat.zero_le _, ⟨a3, fun k hk => absurd hk (Nat.not_lt_zero k)⟩, a5, a4, ?_⟩, by omega, (by omega), fun b j h1 h2 => a12 b j (by omega) (by omega) (by omega) (by omega) (by omega), a9 _ (by omega), Or.inl ⟨rfl, rfl⟩⟩
    · intro k hk
      obtain ⟨q1, q2, q3⟩ := hS k hk
      refine ⟨(a12 _ _ (by omega) (by omega) (by omega) (by omega) (by omega)).trans q1, (by rw [a9 _ (by omega)]; exact q2), fun j hj => (a12 _ _ (by omega) (by omega) (by omega) (by omega) (by omega)).trans (q3 j hj)⟩
    · exact hcw.1.congr (fun b j c1 c2 => a12 b j (by omega) (by omega) (by omega) (by omega) (by omega)) hw.1.1
    · exact (a12 _ _ (by omega) (by omega) (by omega) (by omega) (by omega)).trans hp2
    · rw [a7]; exact Or.inr h59
    · rw [a7]; exact a10
    · cases K with
      | none => exact (a12 _ _ (by omega) (by omega) (by omega) (by omega) (by omega)).trans hk
      | some p =>
        obtain ⟨b1, b2, b3, b4, b5, b6⟩ := hk
        have hb := (sLaw s sea1112).2.1
        have b4' := b4
        unfold LwOK at b4'
        unfold KpC
        dsimp only
        rw [e1112]
        exact ⟨(a12 _ _ (by omega) (by omega) (by omega) (by omega) (by omega)).trans b1, b2, b3.congr (fun b k c1 c2 => a12 b k (by omega) (by omega) (by omega) (by omega) (by omega)) b2.1, b4, (b5.congr (fun b k q => a12 b k (by omega) (by omega) (by omega) (by omega) (by omega))).tcongr (fun b q1 q2 => a9 b (by omega)), b6⟩
set_option maxHeartbeats 1000000 in
theorem C_image (hI : CInv N t i r A) (hd : 300 ≤ d) : Rn d 172 [.ref 1000] (N, U, t, i, r) (fun q => ∃ i' r', q = (.inl none, (N, U, t, i', r')) ∧ CInv N t i' r' (spImage A) ∧ frO i i') := by
  obtain ⟨W, L, n, T, f, K⟩ := A
  have hw := hI.ww
  have hcw := hI.cw
  have hn4 := hI.n4
  obtain ⟨s, hS, -, -, hlw, hl, hL, -, hT0, hf0, h16, hk⟩ := hI
  have h9 := hlw
  unfold LwOK at h9
  have h59 := s.1
  dsimp only at hw hcw hl hL hT0 hf0 hk hn4
  obtain ⟨⟨i1, r1⟩, ho, a1, a2, a3, a4, a5⟩ := v_image (r := r) hw.1 hcw.1
  dsimp only at a1 a2 a3 a4 a5
  have hc := c_Lc_image (u := U) s d (by omega) _ ho
  refine hc.2.mono (fun q hq => ⟨i1, r1, hq, ?_, fun b j h1 h2 => a4 b j (by omega) (by omega)⟩)
  have e01 : r1 1001 16 = r 1001 16 := by rw [a2]; exact wrR_o (by omega)
  have e12 : r1 1112 16 = r 1001 16 := by rw [a2]; exact wrR_s
  have hlc := (sLaw s sea1001).2.1
  have hcl : CL t i1 (r 1001 16) L := hl.congr (fun b k q => a4 b k (by omega) (by omega))
  refine ⟨hc.1, hS.congr (fun b j hb => a4 b j (by omega) (by omega)), hw, ?_, ?_, ?_, hL, hn4, ⟨(a4 _ _ (by omega) (by omega)).trans hT0.1, fun k hk => (a4 _ _ (by omega) (by omega)).trans (hT0.2 k hk)⟩, (a4 _ _ (by omega) (by omega)).trans hf0, (a4 _ _ (by omega) (by omega)).trans h16, ?_⟩
  · rw [e01]
    exact ⟨hcw.1.congr (fun b j c1 c2 => a4 b j (by omega) (by omega)) hw.1.1, e01, hcw.2.2.congr hw.2.2 (fun b j c1 c2 => a4 b j (by omega) (by omega)) (fun b j c1 c2 => by rw [a2]; exact wrR_o (by omega))⟩
  · rw [e01]; exact hlw
  · rw [e01]; exact hcl
  · show i1 1000 4 = 1 ∧ Wf W.1 ∧ CV i1 1112 W.1 ∧ LwOK (r1 1112 16) ∧ CL t i1 (r1 1112 16) L ∧ WL L
    rw [e12]
    exact ⟨a3, hw.1, a1, hlw, hcl, hL⟩
set_option maxHeartbeats 1000000 in
theorem C_back (hI : CInv N t i r A) (hd : 300 ≤ d) : Rn d 173 [.ref 1000] (N, U, t, i, r) (CRs N U t i (0, (spBack A).1) [] (spBack A).2) := by
  obtain ⟨W, L, n, T, f, K⟩ := A
  have hw := hI.ww
  have hcw := hI.cw
  have hn4 := hI.n4
  have hI0 := hI
  obtain ⟨s, hS, -, -, hlw, hl, hL, -, hT0, hf0, h16, hk⟩ := hI
  have h9 := hlw
  unfold LwOK at h9
  have h59 := s.1
  dsimp only at hw hcw hl hL hT0 hf0 hk hn4
  cases K with
  | none =>
    have ho := v_back0 (r := r) (show i 1000 4 = 0 from hk)
    have hc := c_Lc_back (u := U) s d (by omega) _ ho
    exact hc.2.mono (fun q hq => ⟨N, U, t, i, r, hI0, by omega, by omega, fun _ _ _ _ => rfl, rfl, Or.inl ⟨rfl, hq⟩⟩)
  | some p =>
    obtain ⟨b1, b2, b3, b4, b5, b6⟩ := hk
    obtain ⟨-, pp, hp, hp2, -⟩ := hcw.2.2
    obtain ⟨⟨v, i1, r1⟩, ho, a0, a1, a2, a3, a4⟩ := v_back b2 b1 b3 rfl ⟨pp, hp, hp2⟩ W.2.2
    dsimp only at a0 a1 a2 a3 a4
    subst a0
    have hc := c_Lc_back (u := U) s d (by omega) _ ho
    have b4' := b4
    unfold LwOK at b4'
    have e01 : r1 1001 16 = r 1112 16 := by rw [a2]; exact wrR_s
    have e12 : r1 1112 16 = r 1112 16 := by rw [a2]; exact wrR_o (by omega)
    have hcl : CL t i1 (r 1112 16) p.2 := b5.congr (fun b k q => a4 b k (by omega) (by omega))
    refine hc.2.mono (fun q hq => ⟨N, U, t, i1, r1, ?_, by omega, by omega, fun b j h1 h2 => a4 b j (by omega) (by omega), rfl, Or.inl ⟨rfl, hq⟩⟩)
    refine ⟨hc.1, hS.congr (fun b j hb => a4 b j (by omega) (by omega)), ⟨b2, (by show 0 ≤ 12; omega), fun k hk => absurd hk (Nat.not_lt_zero k)⟩, ?_, ?_, ?_, b6, hn4, ⟨(a4 _ _ (by omega) (by omega)).trans hT0.1, fun k hk => (a4 _ _ (by omega) (by omega)).trans (hT0.2 k hk)⟩, (a4 _ _ (by omega) (by omega)).trans hf0, (a4 _ _ (by omega) (by omega)).trans h16, ?_⟩
    · rw [e01]; exact ⟨a1, e01, a3⟩
    · rw [e01]; exact b4
    · rw [e01]; exact hcl
    · show i1 1000 4 = 1 ∧ Wf p.1 ∧ CV i1 1112 p.1 ∧ LwOK (r1 1112 16) ∧ CL t i1 (r1 1112 16) p.2 ∧ WL p.2
      rw [e12]
      exact ⟨(a4 _ _ (by omega) (by omega)).trans b1, b2, b3.congr (fun b k c1 c2 => a4 b k (by omega) (by omega)) b2.1, b4, hcl, b6⟩
end CALLX
