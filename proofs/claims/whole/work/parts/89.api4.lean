/-! ===== calls that only look, 4 ===== -/
def cqs (b : Nat) : Prop := (1038 ≤ b ∧ b < 1112) ∨ (1603 ≤ b ∧ b < 1638)
def CQ (lw : Nat) (i i' : MI) : Prop := ∀ b j, b ≠ lw + 1 → ¬ cqs b → i' b j = i b j
theorem CQ.refl (lw : Nat) (i : MI) : CQ lw i i := fun _ _ _ _ => rfl
theorem CQ.trans {lw : Nat} {i j k : MI} (h : CQ lw i j) (h2 : CQ lw j k) : CQ lw i k := fun b q h1 h3 => (h2 b q h1 h3).trans (h b q h1 h3)
theorem cq_1 {lw : Nat} {i i' : MI} (h : ∀ b j, b ≠ lw + 1 → i' b j = i b j) : CQ lw i i' := fun b j h1 _ => h b j h1
def CO (tg : List Nat) (lw : Nat) (i : MI) (p : Int32 × Int32) : (Int32 ⊕ Nat) × MI → Prop := fun y => y.1 = toC tg p ∧ CQ lw i y.2
theorem nI_m1 {k : Nat} (hk : k < 2 ^ 31) : ¬ nI k = -1 := fun e => nI_pos hk (by rw [e]; decide)
theorem neg1_lt {k : Nat} (hk : k < 2 ^ 31) : (-1 : Int32) < nI k := by
  rw [Int32.lt_iff_toInt_lt, nI_toInt hk]
  have : (-1 : Int32).toInt = -1 := by decide
  omega
theorem nI_nm1 {k : Nat} (hk : k < 2 ^ 31) : ¬ nI k < (-1 : Int32) := by
  rw [Int32.lt_iff_toInt_lt, nI_toInt hk]
  have : (-1 : Int32).toInt = -1 := by decide
  omega
def spCount (S : SS) (L : LW) (n x : Int32) : Int32 := if okx x 12 = true then (if x = 5 then (if L.1 = true then nI L.2.1 else -1) else if x = 9 then mny S else if x = 10 then S 0 0 9 else if x = 11 then n else S 0 0 (ix x)) else -1
theorem twelve {k : Nat} (h : k < 12) : k = 0 ∨ k = 1 ∨ k = 2 ∨ k = 3 ∨ k = 4 ∨ k = 5 ∨ k = 6 ∨ k = 7 ∨ k = 8 ∨ k = 9 ∨ k = 10 ∨ k = 11 := by omega
theorem okx_le {x : Int32} {n m : Nat} (hnm : n ≤ m) (hm : m < 2 ^ 31) (h : okx x n = true) : okx x m = true := by
  obtain ⟨k, hk, rfl⟩ := okx_of (by omega) h
  exact okx_nI (by omega) hm
theorem frs_none {S : SS} {p : Nat → Bool} : ∀ n, n < 2 ^ 31 → (fo (fun f x => if p f = true ∧ (x = -1 ∨ S 2 (ix x) 2 < S 2 f 2) then nI f else x) n (-1 : Int32) = -1 ↔ ∀ f, f < n → p f = false)
  | 0, _ => ⟨fun _ f hf => absurd hf (Nat.not_lt_zero f), fun _ => rfl⟩
  | n + 1, hn => by
    have ih := frs_none (S := S) (p := p) n (by omega)
    show (fun x => if p n = true ∧ (x = -1 ∨ S 2 (ix x) 2 < S 2 n 2) then nI n else x) (fo (fun f x => if p f = true ∧ (x = -1 ∨ S 2 (ix x) 2 < S 2 f 2) then nI f else x) n (-1 : Int32)) = -1 ↔ _
    generalize fo (fun f x => if p f = true ∧ (x = -1 ∨ S 2 (ix x) 2 < S 2 f 2) then nI f else x) n (-1 : Int32) = x at ih ⊢
    dsimp only
    constructor
    · intro e f hf
      by_cases c : p n = true ∧ (x = -1 ∨ S 2 (ix x) 2 < S 2 n 2)
      · rw [if_pos c] at e
        exact absurd e (nI_m1 (by omega))
      · rw [if_neg c] at e
        rcases Nat.lt_succ_iff_lt_or_eq.mp hf with h9 | h9
        · exact ih.mp e f h9
        · subst h9
          exact Bool.eq_false_iff.mpr (fun q => c ⟨q, Or.inl e⟩)
    · intro hp
      rw [if_neg (fun q => by have := q.1; rw [hp n (by omega)] at this; exact absurd this (by decide))]
      exact ih.mpr (fun f hf => hp f (by omega))
theorem bits_none {p : Nat → Bool} : ∀ n, (bits p n = 0 ↔ ∀ f, f < n → p f = false)
  | 0 => ⟨fun _ f hf => absurd hf (Nat.not_lt_zero f), fun _ => rfl⟩
  | n + 1 => by
    have ih := bits_none (p := p) n
    have h2 := Nat.two_pow_pos n
    rw [bits_succ]
    constructor
    · intro e f hf
      by_cases c : p n = true
      · rw [if_pos c] at e; omega
      · rw [if_neg c] at e
        rcases Nat.lt_succ_iff_lt_or_eq.mp hf with h9 | h9
        · exact ih.mp e f h9
        · subst h9
          exact Bool.eq_false_iff.mpr c
    · intro hp
      rw [if_neg (fun q => by rw [hp n (by omega)] at q; exact absurd q (by decide))]
      exact ih.mpr (fun f hf => hp f (by omega))
theorem cho_none {S : SS} {L : LW} (hc : Cnt S) (b : Nat) : cho S L b = -1 ↔ bits (sut S L b) (nf S) = 0 := (frs_none (nf S) (by have := hc.f8; omega)).trans (bits_none (nf S)).symm
theorem nI_z {k : Nat} (hk : k < 2 ^ 31) : nI k = 0 ↔ k = 0 := ⟨fun e => by
  have := congrArg Int32.toNatClampNeg e
  rw [nI_clamp hk] at this
  exact this, fun e => by rw [e]; rfl⟩
def wto (S : SS) (L : LW) : Nat := bits (fun b => decide (cho S L b = -1)) (ny S)
def dsg (S : SS) (L : LW) (f : Nat) (x : Int32) : Int32 := if S 2 f 3 = 2 ∧ (x = -1 ∨ spr S L (ix x) < spr S L f) then nI f else x
theorem dsg_lt {S : SS} {L : LW} : ∀ n, (fo (dsg S L) n (-1 : Int32) = -1 ∨ ∃ g, g < n ∧ fo (dsg S L) n (-1 : Int32) = nI g)
  | 0 => Or.inl rfl
  | n + 1 => by
    have ih := dsg_lt (S := S) (L := L) n
    show dsg S L n (fo (dsg S L) n (-1)) = -1 ∨ ∃ g, g < n + 1 ∧ dsg S L n (fo (dsg S L) n (-1)) = nI g
    generalize fo (dsg S L) n (-1 : Int32) = x at ih ⊢
    unfold dsg
    split
    · exact Or.inr ⟨n, by omega, rfl⟩
    · rcases ih with h | ⟨g, h1, h2⟩
      · exact Or.inl h
      · exact Or.inr ⟨g, by omega, h2⟩
def spBuyer (S : SS) (L : LW) (x w : Int32) : Int32 × Int32 := if okx x (ny S) = true then (if okx w 6 = true then (0, if w = 4 then cho S L (ix x) else if w = 5 then (if mny S = 0 then 0 else S 4 (ix x) 1 * 100 / mny S) else S 4 (ix x) (ix w)) else (2, 0)) else (1, 0)
section API4
variable {i : MI} {t : MT} {r : MR} {a : Nat} {S : SS} {L : LW}
theorem v_count (hw : Wf S) (h : CV i 1001 S) (hl : CL t i (r 1001 16) L) {n : Int32} (hn : i 1149 1 = n) (x : Int32) : f_Lc_count r i x = some (spCount S L n x) := by
  obtain ⟨h0, h1, h2, h3, h4, h6, h7, h8, -⟩ := h.1
  unfold f_Lc_count spCount
  rw [v_money hw.1 h, Option.bind_some, h0, h1, h2, h3, h4, h6, h7, h8, hl.1, h.2.2.2.2.2.2.1, hn]
  by_cases hx : okx x 12 = true
  · rw [if_pos hx]
    obtain ⟨k, hk, rfl⟩ := okx_of (by decide) hx
    rcases twelve hk with rfl | rfl | rfl | rfl | rfl | rfl | rfl | rfl | rfl | rfl | rfl | rfl <;> rfl
  · rw [if_neg hx]; exact sw_no (by decide) hx _ 0 (Nat.le_refl _)
theorem m_count (hw : Wf S) (h : MV i S) (hl : ML i L) {n : Int32} (hn : i 1638 7 = n) (x : Int32) : Tt (f_Mo_count i x) (MO i (0, spCount S L n x)) := by
  have h1 := mv_t h 0
  have l1 := ml_t hl 0
  have k9 := h1.1 9 (by decide) (by decide)
  have hn' : wr i 1638 0 0 1638 7 = n := by rw [wr_k (by decide)]; exact hn
  unfold f_Mo_count spCount
  refine tt_bnd ?_
  rw [m_money hw.1 h1, Option.bind_some, k9, hn', l1.1]
  by_cases hx : okx x 12 = true
  · rw [if_pos hx]
    obtain ⟨k, hk, rfl⟩ := okx_of (by decide) hx
    rcases twelve hk with rfl | rfl | rfl | rfl | rfl | rfl | rfl | rfl | rfl | rfl | rfl | rfl
    · exact tt_some (mo_ok (fq.refl _) wr_s (h1.1 0 (by decide) (by decide)))
    · exact tt_some (mo_ok (fq.refl _) wr_s (h1.1 1 (by decide) (by decide)))
    · exact tt_some (mo_ok (fq.refl _) wr_s (h1.1 2 (by decide) (by decide)))
    · exact tt_some (mo_ok (fq.refl _) wr_s (h1.1 3 (by decide) (by decide)))
    · exact tt_some (mo_ok (fq.refl _) wr_s (h1.1 4 (by decide) (by decide)))
    · show Tt (if (if L.1 = true then (1 : Int32) else 0) = 1 then some (wr i 1638 0 0 1639 417, wr i 1638 0 0) else some (-1, wr i 1638 0 0)) (MO i (0, if L.1 = true then nI L.2.1 else -1))
      by_cases c : L.1 = true
      · rw [if_pos c, if_pos c, if_pos rfl, l1.2.1 c]
        exact tt_some (mo_ok (fq.refl _) wr_s rfl)
      · rw [if_neg c, if_neg c, if_neg (by decide)]
        exact tt_some (mo_ok (fq.refl _) wr_s rfl)
    · exact tt_some (mo_ok (fq.refl _) wr_s (h1.1 6 (by decide) (by decide)))
    · exact tt_some (mo_ok (fq.refl _) wr_s (h1.1 7 (by decide) (by decide)))
    · exact tt_some (mo_ok (fq.refl _) wr_s (h1.1 8 (by decide) (by decide)))
    · exact tt_some (mo_ok (fq.refl _) wr_s rfl)
    · exact tt_some (mo_ok (fq.refl _) wr_s rfl)
    · exact tt_some (mo_ok (fq.refl _) wr_s rfl)
  · have h9 : ¬ okx x 9 = true := fun q => hx (okx_le (by decide) (by decide) q)
    rw [if_neg hx]
    refine ⟨(-1, wr i 1638 0 0), (sw_no (n := 12) (by decide) hx _ 5 (Nat.le_refl _)).trans ?_, mo_ok (fq.refl _) wr_s rfl⟩
    rw [lit_nI 8, mo_inL 8 (by decide), if_neg h9, Option.bind_some, if_pos rfl]
theorem v_fault : f_Lc_fault i = some (i 1595 2) := rfl
theorem m_fault : Tt (f_Mo_fault i) (MO i (0, i 1638 14)) := by
  unfold f_Mo_fault
  exact tt_bnd (tt_some (mo_ok (fq.refl _) wr_s (wr_k (by decide))))
theorem v_seed (hw : Wf S) (h : CV i 1001 S) (x : Int32) : f_Lc_seed i x = some (S 0 0 10, wr i 1001 15 x) ∧ CV (wr i 1001 15 x) 1001 (su S 0 0 10 x) ∧ Wf (su S 0 0 10 x) := by
  refine ⟨?_, h.scal hw.1 (by omega) x, hw.one (by omega)⟩
  unfold f_Lc_seed
  rw [h.1.2.2.2.2.2.2.2.2]
  rfl
theorem m_seed (h : MV i S) (x : Int32) : f_Mo_seed i x = some (S 0 0 10, wr (wr i 1638 0 0) 1639 10 x) ∧ MV (wr (wr i 1638 0 0) 1639 10 x) (su S 0 0 10 x) := by
  have h1 := mv_t h 0
  refine ⟨?_, h1.scal (by decide) (by decide) x⟩
  have e := h1.1 10 (by decide) (by decide)
  unfold f_Mo_seed
  show some (wr i 1638 0 0 1639 10, wr (wr i 1638 0 0) 1639 10 x) = _
  rw [e]
theorem v_without (hw : Wf S) (h : CV i 1001 S) (hL : WL L) (hl : CL t i (r 1001 16) L) (hna : NA 1001 (r 1001 16)) : Tt (f_Lc_without t r i) (fun y => y.1 = nI (wto S L) ∧ CQ (r 1001 16) i y.2) := by
  have h5 := hw.1.y5
  have h8 := hw.1.f8
  have hna' := hna
  unfold NA at hna'
  unfold f_Lc_without wto
  refine tt_bind (P1 := fun y => y.1 = nI (bits (fun b => decide (cho S L b = -1)) (ny S)) ∧ ∀ b j, b ≠ r 1001 16 + 1 → y.2 b j = i b j)
    (tt_loop (fun q (s : Int32 × Int32 × MI) => s.1 = nI (bits (fun b => decide (cho S L b = -1)) q) ∧ s.2.1 = nI q ∧ ∀ b j, b ≠ r 1001 16 + 1 → s.2.2 b j = i b j) (ny S) (by omega) ?_ ?_ ⟨rfl, rfl, fun _ _ _ => rfl⟩) ?_
  · rintro q hq ⟨m, x, i5⟩ ⟨e1, e2, e3⟩
    dsimp only at e1 e2 e3 ⊢
    subst e1 e2
    have h2 : CV i5 1001 S := h.congr (fun b k _ _ => e3 b k (by omega)) hw.1
    have l2 : CL t i5 (r 1001 16) L := hl.congr (fun b k _ => e3 b k (by omega))
    rw [h2.1.2.2.1, hw.1.y, if_pos (nI_lt hq (by omega))]
    refine tt_bind (v_mayBuy hw.1 h2 hL l2 hna hq) ?_
    rintro ⟨v, i6⟩ ⟨u1, u2⟩
    dsimp only at u1 u2 ⊢
    subst u1
    have hb := bits_256 (sut S L q) h8
    have e6 : ∀ b j, b ≠ r 1001 16 + 1 → i6 b j = i b j := fun b j hb => (u2 b j hb).trans (e3 b j hb)
    have hbit := bits_succ (fun b => decide (cho S L b = -1)) q
    by_cases c : cho S L q = -1
    · rw [if_pos ((nI_z (by omega)).mpr ((cho_none hw.1 q).mp c)), Option.bind_some]
      refine tt_some ⟨?_, nI_1 q, e6⟩
      dsimp only
      rw [hbit, if_pos (decide_eq_true c), or_bit q (by omega) _ (bits_lt _ q)]
    · rw [if_neg (fun e => c ((cho_none hw.1 q).mpr ((nI_z (by omega)).mp e))), Option.bind_some]
      refine tt_some ⟨?_, nI_1 q, e6⟩
      dsimp only
      rw [hbit, if_neg (by simpa using c)]
  · rintro ⟨m, x, i5⟩ ⟨e1, e2, e3⟩
    dsimp only at e1 e2 e3 ⊢
    subst e1 e2
    have h2 : CV i5 1001 S := h.congr (fun b k _ _ => e3 b k (by omega)) hw.1
    rw [h2.1.2.2.1, hw.1.y, if_neg (nI_nlt (Nat.le_refl _) (by omega))]
    exact tt_some ⟨rfl, e3⟩
  · rintro ⟨m, i5⟩ ⟨e1, e3⟩
    exact tt_some ⟨e1, cq_1 e3⟩
theorem m_without (hw : Wf S) (h : MV i S) (hL : WL L) (hl : ML i L) : Tt (f_Mo_without i) (MO i (0, nI (wto S L))) := by
  have h5 := hw.1.y5
  have h8 := hw.1.f8
  have h1 := mv_t h 0
  have l1 := ml_t hl 0
  unfold f_Mo_without wto
  refine tt_bnd ?_
  refine tt_bind (P1 := fun y => y.1 = nI (bits (fun b => decide (cho S L b = -1)) (ny S)) ∧ ∀ b j, b ≠ 1646 → y.2 b j = wr i 1638 0 0 b j)
    (tt_loop (fun q (s : Int32 × Int32 × MI) => s.1 = nI (bits (fun b => decide (cho S L b = -1)) q) ∧ s.2.1 = nI q ∧ ∀ b j, b ≠ 1646 → s.2.2 b j = wr i 1638 0 0 b j) (ny S) (by omega) ?_ ?_ ⟨rfl, rfl, fun _ _ _ => rfl⟩) ?_
  · rintro q hq ⟨m, x, i5⟩ ⟨e1, e2, e3⟩
    dsimp only at e1 e2 e3 ⊢
    subst e1 e2
    have h2 : MV i5 S := h1.congr (fun k => e3 1639 k (by decide))
    have l2 : ML i5 L := l1.congr (fun k => e3 1639 k (by decide))
    rw [m_buyers h2, Option.bind_some, hw.1.y, if_pos (nI_lt hq (by omega))]
    refine tt_bind (m_choice hw.1 h2 hL l2 hq) ?_
    rintro ⟨v, i6⟩ ⟨u1, u2⟩
    dsimp only at u1 u2 ⊢
    subst u1
    have e6 : ∀ b j, b ≠ 1646 → i6 b j = wr i 1638 0 0 b j := fun b j hb => (u2 b j hb).trans (e3 b j hb)
    have hbit := bits_succ (fun b => decide (cho S L b = -1)) q
    by_cases c : cho S L q = -1
    · rw [if_pos c, Option.bind_some]
      refine tt_some ⟨?_, nI_1 q, e6⟩
      dsimp only
      rw [hbit, if_pos (decide_eq_true c), or_bit q (by omega) _ (bits_lt _ q)]
    · rw [if_neg c, Option.bind_some]
      refine tt_some ⟨?_, nI_1 q, e6⟩
      dsimp only
      rw [hbit, if_neg (by simpa using c), or_0]
  · rintro ⟨m, x, i5⟩ ⟨e1, e2, e3⟩
    dsimp only at e1 e2 e3 ⊢
    subst e1 e2
    have h2 : MV i5 S := h1.congr (fun k => e3 1639 k (by decide))
    rw [m_buyers h2, Option.bind_some, hw.1.y, if_neg (nI_nlt (Nat.le_refl _) (by omega))]
    exact tt_some ⟨rfl, e3⟩
  · rintro ⟨m, i5⟩ ⟨e1, e3⟩
    exact tt_some (mo_ok (fq_46 e3) ((e3 1638 0 (by decide)).trans wr_s) e1)
theorem v_dearest (hw : Wf S) (h : CV i 1001 S) (hL : WL L) (hl : CL t i (r 1001 16) L) (hna : NA 1001 (r 1001 16)) : Tt (f_Lc_dearest t r i) (fun y => y.1 = fo (dsg S L) (nf S) (-1) ∧ CQ (r 1001 16) i y.2) := by
  have h8 := hw.1.f8
  have hna' := hna
  unfold NA at hna'
  unfold f_Lc_dearest
  refine tt_bind (P1 := fun y => y.1 = fo (dsg S L) (nf S) (-1) ∧ ∀ b j, b ≠ r 1001 16 + 1 → y.2 b j = i b j)
    (tt_loop (fun q (s : Int32 × Int32 × Int32 × MI) => s.1 = fo (dsg S L) q (-1) ∧ s.2.1 = (if s.1 = -1 then -1 else spr S L (ix s.1)) ∧ s.2.2.1 = nI q ∧ ∀ b j, b ≠ r 1001 16 + 1 → s.2.2.2 b j = i b j) (nf S) (by omega) ?_ ?_ ⟨rfl, rfl, rfl, fun _ _ _ => rfl⟩) ?_
  · rintro q hq ⟨x, y, z, i5⟩ ⟨e1, e2, e4, e3⟩
    dsimp only at e1 e2 e3 e4 ⊢
    subst e4
    rw [e2]
    have hfo : fo (dsg S L) (q + 1) (-1) = dsg S L q x := by rw [e1]; rfl
    have hlt := dsg_lt (S := S) (L := L) q
    rw [← e1] at hlt
    have h2 : CV i5 1001 S := h.congr (fun b k _ _ => e3 b k (by omega)) hw.1
    have l2 : CL t i5 (r 1001 16) L := hl.congr (fun b k _ => e3 b k (by omega))
    obtain ⟨-, -, -, f3, -, -⟩ := h2.2.2.1 q hq
    obtain ⟨p, hp, ep⟩ := spr_nI hw hL hq
    rw [h2.1.1, hw.1.f, if_pos (nI_lt hq (by omega)), grd_nI (show q < 8 by omega) (by decide), ix_nI (by omega), f3]
    refine tt_bind (P1 := fun v => v.1 = (if S 2 q 3 = 2 then spr S L q else -1) ∧ ∀ b j, b ≠ r 1001 16 + 1 → v.2 b j = i b j) ?_ ?_
    · by_cases c : S 2 q 3 = 2
      · rw [if_pos c, if_pos c]
        refine tt_bind (v_price hw.1 h2 hL l2 hna hq) ?_
        rintro ⟨v, i6⟩ ⟨u1, u2⟩
        exact tt_some ⟨u1, fun b j hb => (u2 b j hb).trans (e3 b j hb)⟩
      · rw [if_neg c, if_neg c]
        exact tt_some ⟨rfl, e3⟩
    · rintro ⟨v, i6⟩ ⟨u1, u2⟩
      dsimp only at u1 u2 ⊢
      subst u1
      refine tt_bind (P1 := fun v => v.1 = dsg S L q x ∧ v.2 = if v.1 = -1 then -1 else spr S L (ix v.1)) ?_ ?_
      · unfold dsg
        by_cases c : S 2 q 3 = 2
        · rw [if_pos c]
          by_cases c2 : x = -1
          · rw [if_pos c2, if_pos (show (-1 : Int32) < spr S L q by rw [ep]; exact neg1_lt (by omega)), if_pos ⟨c, Or.inl c2⟩]
            refine tt_some ⟨rfl, ?_⟩
            dsimp only
            rw [if_neg (nI_m1 (by omega)), ix_nI (by omega)]
          · rw [if_neg c2]
            by_cases c3 : spr S L (ix x) < spr S L q
            · rw [if_pos c3, if_pos ⟨c, Or.inr c3⟩]
              refine tt_some ⟨rfl, ?_⟩
              dsimp only
              rw [if_neg (nI_m1 (by omega)), ix_nI (by omega)]
            · rw [if_neg c3, if_neg (fun k => k.2.elim c2 c3)]
              refine tt_some ⟨rfl, ?_⟩
              dsimp only
              rw [if_neg c2]
        · rw [if_neg c, if_neg (fun k : S 2 q 3 = 2 ∧ _ => c k.1)]
          by_cases c2 : x = -1
          · rw [if_pos c2, if_neg (by decide)]
            exact tt_some ⟨rfl, by dsimp only; rw [if_pos c2]⟩
          · rw [if_neg c2]
            rcases hlt with hlt | ⟨g, hg, eg⟩
            · exact absurd hlt c2
            · obtain ⟨pg, hpg, epg⟩ := spr_nI hw hL (show g < nf S by omega)
              rw [if_neg (by rw [eg, ix_nI (by omega), epg]; exact nI_nm1 (by omega))]
              exact tt_some ⟨rfl, by dsimp only; rw [if_neg c2]⟩
      · rintro ⟨x', y'⟩ ⟨w1, w2⟩
        refine tt_some ⟨?_, w2, nI_1 q, u2⟩
        rw [hfo]; exact w1
  · rintro ⟨x, y, z, i5⟩ ⟨e1, e2, e4, e3⟩
    dsimp only at e1 e2 e3 e4 ⊢
    subst e4
    have h2 : CV i5 1001 S := h.congr (fun b k _ _ => e3 b k (by omega)) hw.1
    rw [h2.1.1, hw.1.f, if_neg (nI_nlt (Nat.le_refl _) (by omega))]
    exact tt_some ⟨e1, e3⟩
  · rintro ⟨m, i5⟩ ⟨e1, e3⟩
    exact tt_some ⟨e1, cq_1 e3⟩
end API4
