/-! ===== waters: the class's call ===== -/
section WATC
variable {t : MT} {i : MI} {r : MR} {n : Nat} {T : Nat → Int32} {W : PW} {lw : Nat}
def fwC (i i' : MI) : Prop := (∀ b j, (b < 1001 ∨ 1032 ≤ b) → b ≠ 1149 → b ≠ 1595 → ¬ cqs b → i' b j = i b j) ∧ i' 1595 0 = i 1595 0
def WCO (i : MI) (r : MR) (lw : Nat) (p : (Int32 × Int32) × Int32 × PW) : (Int32 ⊕ Nat) × MI × MR → Prop := fun y => y.1 = toC [20, 23] p.1 ∧ (WW p.2.2 ∧ CW y.2.1 y.2.2 lw p.2.2) ∧ y.2.1 1595 2 = p.2.1 ∧ y.2.1 1595 1 = 0 ∧ fwC i y.2.1 ∧ fR r y.2.2
theorem v_waters (hS : SV t i) (hn : n ≤ 400) (ht : TC i n T) (hw : WW W) (h : CW i r lw W) : Tt (f_Lc_waters t r i) (WCO i r lw (spWaters n T W)) := by
  unfold f_Lc_waters
  refine tt_bind (v_copyFrom (a := 1038) (b := 1001) hw.1.1 h.1 (by omega)) ?_
  rintro ⟨i1, r2⟩ ⟨c1, c2, c3⟩
  dsimp only at c1 c2 c3 ⊢
  have hS1 : SV t i1 := hS.congr (fun b j hb => c3 b j (by omega))
  have ht1 : TC i1 n T := ⟨(c3 _ _ (by omega)).trans ht.1, fun k hk => (c3 _ _ (by omega)).trans (ht.2 k hk)⟩
  have hr2 : fR r r2 := fun b k hb hb2 => by rw [c2]; exact wrR_o (by unfold cqs at hb2; omega)
  have er16 : r2 1001 16 = lw := by rw [c2, wrR_o (by decide)]; exact h.2.1
  have er38 : r2 1038 16 = lw := by rw [c2, wrR_s]; exact h.2.1
  have hCP : ∀ i' : MI, (∀ b j, 1149 ≤ b → b < 1595 → i' b j = i b j) → CP i' r2 lw W.2.1 W.2.2 := fun i' he => h.2.2.congr hw.2.2 he (fun b k h1 h2 => by rw [c2]; exact wrR_o (by omega))
  refine tt_bind (v_read hS1 hn ht1 hw.1 c1) ?_
  rintro ⟨v, i4⟩ ⟨d1, d2, d3⟩
  dsimp only at d1 d2 d3 ⊢
  have f4 : ∀ b j, (b < 1038 ∨ 1069 ≤ b) → b ≠ 1595 → i4 b j = i b j := fun b j hb hb2 => (d2.1 b j hb hb2).trans (c3 b j hb)
  have f40 : i4 1595 0 = i 1595 0 := d2.2.trans (c3 _ _ (by omega))
  have hcv4 : CV i4 1001 W.1 := h.1.congr (fun b j hb hb2 => f4 b j (by omega) (by omega)) hw.1.1
  have hfw4 : fwC i i4 := ⟨fun b j h1 h2 h3 h4 => f4 b j (by unfold cqs at h4; omega) h3, f40⟩
  have hcw4 : CW i4 r2 lw W := ⟨hcv4, er16, hCP i4 (fun b j h1 h2 => f4 b j (by omega) (by omega))⟩
  cases hr : rSea n T W.1 with
  | inl e =>
    have esp : spWaters n T W = ((1, 0), nI e, W) := by unfold spWaters; rw [hr]
    rw [hr] at d3
    obtain ⟨rfl, d4⟩ := d3
    rw [esp]
    exact tt_some ⟨rfl, ⟨hw, hcw4⟩, d4, d1, hfw4, hr2⟩
  | inr p =>
    have esp : spWaters n T W = if W.1 0 0 4 = 12 then ((2, 0), -1, W) else ((0, p.1 0 0 4 + 1), -1, (su p.1 0 0 4 (p.1 0 0 4 + 1), 0, W.2.2)) := by unfold spWaters; rw [hr]
    rw [hr] at d3
    obtain ⟨rfl, d4, d5, d6⟩ := d3
    have hk4 : p.1 0 0 4 = W.1 0 0 4 := kp4_sea p.1 p.2 hr
    obtain ⟨z, hz, ez⟩ := hw.1.2.2.2.2.2.2.2.2.2
    dsimp only
    rw [esp, show i4 1001 11 = W.1 0 0 4 from hcv4.1.2.2.2.2.1, ez]
    by_cases c12 : z = 12
    · rw [if_neg (show ¬ nI z < 12 from nI_nlt (b := 12) (by omega) (by omega)), if_pos (show nI z = 12 by rw [c12]; rfl)]
      exact tt_some ⟨rfl, ⟨hw, hcw4⟩, d4, d1, hfw4, hr2⟩
    · rw [if_pos (show nI z < 12 from nI_lt (b := 12) (by omega) (by decide)), if_neg (show ¬ nI z = 12 from fun q => c12 ((nI_inj (by omega) (by decide)).mp (q.trans (lit_nI 12))))]
      refine tt_bnd ?_
      rw [show i4 1038 11 = p.1 0 0 4 from d6.1.2.2.2.2.1]
      have hwf : Wf (su p.1 0 0 4 (p.1 0 0 4 + 1)) := d5.one (Or.inr (Or.inr (Or.inr (Or.inl ⟨rfl, z + 1, by omega, by rw [hk4, ez, nI_1]⟩))))
      have hcv7 : CV (wr i4 1038 11 (p.1 0 0 4 + 1)) 1038 (su p.1 0 0 4 (p.1 0 0 4 + 1)) := by
        obtain ⟨⟨a1, a2, a3, a4, a5, a6, a7, a8, a9⟩, h2, h3, h4, h5, h6, h7, x, hx, h8', h9⟩ := d6
        have w0 := d5.1.f8; have w1 := d5.1.b3; have w2 := d5.1.y5; have w3 := d5.1.d6
        have q0 : nf (su p.1 0 0 4 (p.1 0 0 4 + 1)) = nf p.1 := nf_su (by omega)
        have q1 : nb (su p.1 0 0 4 (p.1 0 0 4 + 1)) = nb p.1 := nb_su (by omega)
        have q2 : ny (su p.1 0 0 4 (p.1 0 0 4 + 1)) = ny p.1 := ny_su (by omega)
        have q3 : nd (su p.1 0 0 4 (p.1 0 0 4 + 1)) = nd p.1 := nd_su (by omega)
        have q4 : nl (su p.1 0 0 4 (p.1 0 0 4 + 1)) = nl p.1 := nl_su (by omega)
        have es : ∀ x y z, 1 ≤ x → su p.1 0 0 4 (p.1 0 0 4 + 1) x y z = p.1 x y z := fun x y z hx => su_o (by omega)
        refine ⟨⟨?_, ?_, ?_, ?_, ?_, ?_, ?_, ?_, ?_⟩, fun c hc => ?_, fun f hf' => ?_, fun b hb => ?_, fun y hy => ?_, fun d hd => ?_, ?_, x, hx, ?_, fun g hg k hk => ?_⟩
        · rw [wr_k (by omega), su_o (by omega)]; exact a1
        · rw [wr_k (by omega), su_o (by omega)]; exact a2
        · rw [wr_k (by omega), su_o (by omega)]; exact a3
        · rw [wr_k (by omega), su_o (by omega)]; exact a4
        · rw [wr_s, su_s]
        · rw [wr_k (by omega), su_o (by omega)]; exact a6
        · rw [wr_k (by omega), su_o (by omega)]; exact a7
        · rw [wr_k (by omega), su_o (by omega)]; exact a8
        · rw [wr_k (by omega), su_o (by omega)]; exact a9
        · rw [wr_a (by omega), es _ _ _ (by omega)]; exact h2 c hc
        · rw [q0] at hf'
          have e1 : ∀ j, wr i4 1038 11 (p.1 0 0 4 + 1) (1038 + 3 + f) j = i4 (1038 + 3 + f) j := fun j => wr_a (by omega)
          simp only [e1, es 2 f _ (by omega)]; exact h3 f hf'
        · rw [q1] at hb
          have e1 : ∀ j, wr i4 1038 11 (p.1 0 0 4 + 1) (1038 + 12 + b) j = i4 (1038 + 12 + b) j := fun j => wr_a (by omega)
          simp only [e1, es 3 b _ (by omega)]; exact h4 b hb
        · rw [q2] at hy
          have e1 : ∀ j, wr i4 1038 11 (p.1 0 0 4 + 1) (1038 + 16 + y) j = i4 (1038 + 16 + y) j := fun j => wr_a (by omega)
          simp only [e1, es 4 y _ (by omega)]; exact h5 y hy
        · rw [q3] at hd
          have e1 : ∀ j, wr i4 1038 11 (p.1 0 0 4 + 1) (1038 + 22 + d) j = i4 (1038 + 22 + d) j := fun j => wr_a (by omega)
          simp only [e1, es 5 d _ (by omega)]; exact h6 d hd
        · rw [wr_a (by omega), su_o (by omega)]; exact h7
        · rw [wr_a (by omega)]; exact h8'
        · rw [q4] at hg
          rw [wr_a (by omega), es _ _ _ (by omega)]; exact h9 g hg k hk
      refine tt_bind (v_copyFrom (r := r2) (a := 1001) (b := 1038) hwf.1 hcv7 (by omega)) ?_
      rintro ⟨i8, r9⟩ ⟨g1, g2, g3⟩
      dsimp only at g1 g2 g3 ⊢
      have f8 : ∀ b j, (b < 1001 ∨ 1069 ≤ b) → b ≠ 1595 → i8 b j = i b j := fun b j hb hb2 => by rw [g3 b j (by omega), wr_a (by omega)]; exact f4 b j (by omega) hb2
      have f15 : ∀ j, i8 1595 j = i4 1595 j := fun j => by rw [g3 _ _ (by omega), wr_a (by decide)]
      unfold f_Pa_forget
      refine tt_bnd ?_
      obtain ⟨-, pp, hp, hp2, -⟩ := h.2.2
      have hcv9 : CV (wr i8 1149 1 0) 1001 (su p.1 0 0 4 (p.1 0 0 4 + 1)) := g1.congr (fun b k hb hb2 => wr_a (by omega)) hwf.1
      refine tt_some ⟨?_, ⟨⟨hwf, by show 0 ≤ 12; omega, fun k hk => absurd hk (Nat.not_lt_zero k)⟩, hcv9, ?_, (show wr i8 1149 1 0 1149 1 = 0 from wr_s), pp, hp, ?_, fun k hk => absurd hk (Nat.not_lt_zero k)⟩, ?_, ?_, ⟨fun b j h1 h2 h3 h4 => ?_, ?_⟩, fun b k hb hb2 => ?_⟩
      · show Sum.inl (wr i8 1149 1 0 1001 11) = Sum.inl (p.1 0 0 4 + 1)
        rw [show wr i8 1149 1 0 1001 11 = su p.1 0 0 4 (p.1 0 0 4 + 1) 0 0 4 from hcv9.1.2.2.2.2.1, su_s]
      · show r9 1001 16 = lw
        rw [g2, wrR_s]; exact er38
      · show wr i8 1149 1 0 1149 2 = nI pp
        rw [wr_k (by decide), f8 _ _ (by omega) (by decide)]; exact hp2
      · show wr i8 1149 1 0 1595 2 = -1
        rw [wr_a (by decide), f15]; exact d4
      · show wr i8 1149 1 0 1595 1 = 0
        rw [wr_a (by decide), f15]; exact d1
      · show wr i8 1149 1 0 b j = _
        rw [wr_a h2]
        by_cases hb : b < 1001
        · exact f8 b j (by omega) h3
        · unfold cqs at h4
          rw [g3 b j (by omega), wr_a (by omega)]
          exact f4 b j (by omega) h3
      · show wr i8 1149 1 0 1595 0 = _
        rw [wr_a (by decide), f15]; exact f40
      · show r9 b k = r b k
        rw [g2]
        by_cases e : b = 1001 ∧ k = 16
        · rw [e.1, e.2, wrR_s, er38, h.2.1]
        · rw [wrR_o e]; exact hr2 b k hb hb2
end WATC
