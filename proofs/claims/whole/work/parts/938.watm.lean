/-! ===== waters: the reference's call ===== -/
section WATM
variable {t : MT} {i : MI} {n : Nat} {T : Nat → Int32} {S : SS} {W : PW}
theorem sgn_iff {q : Nat} {c : Int32} : (q < n ∧ win (T q) c c = true) ↔ sgn n T c q = true := by
  unfold sgn
  rw [Bool.and_eq_true, decide_eq_true_eq, decide_eq_true_eq, win_i]
  exact and_congr_right (fun _ => ⟨fun q => Int32.toInt_inj.mp (by omega), fun q => by rw [q]; omega⟩)
theorem m_lineAt (hS : SV t i) (hn : n ≤ 400) {s j : Nat} (hj : j ≤ 14) (h : RS i n T s) (hw : Wf S) (hv : MV i S) : Tt (f_Mo_readLine t i 1 (nI j)) (MPl n T i (if j < 14 then rLine n T S s else .inl s)) := by
  have hs := h.tks
  unfold f_Mo_readLine
  refine tt_bind (m_letters hn h) ?_
  rintro i1 ⟨a1, a2⟩
  have hS1 : SV t i1 := hS.congr (fun b j hb => a2 b j (by omega))
  rw [if_neg (show ¬ (1 : Int32) = 0 by decide), Option.bind_some]
  by_cases c : j < 14
  · rw [if_pos (show nI j < 14 from nI_lt (b := 14) c (by decide)), if_neg (show ¬ (1 : Int32) = 0 by decide), if_pos c]
    refine tt_bind (m_rLine hS1 hn hs a1 hw (hv.fz a2)) ?_
    rintro ⟨v, i13⟩ ⟨g, hx⟩
    dsimp only at g hx ⊢
    have g' : gx i i13 := a2.gx.trans g
    cases hr : rLine n T S s with
    | inl e =>
      rw [hr] at hx
      rcases hx with ⟨q1, q2⟩ | ⟨q1, q2⟩
      · rw [if_pos q1]; exact tt_some ⟨g', Or.inl ⟨rfl, q2⟩⟩
      · rw [if_neg (show ¬ v = 0 by rw [show v = 1 from q1]; decide)]; exact tt_some ⟨g', Or.inr ⟨rfl, q2⟩⟩
    | inr p =>
      rw [hr] at hx
      obtain ⟨q1, q2⟩ := hx
      rw [if_neg (show ¬ v = 0 by rw [show v = 1 from q1]; decide)]
      exact tt_some ⟨g', rfl, q2⟩
  · rw [if_neg (show ¬ nI j < 14 from nI_nlt (b := 14) (by omega) (by omega)), if_neg c]
    exact tt_some ⟨a2.gx, Or.inl ⟨rfl, a1.2.1⟩⟩
def gy (i i' : MI) : Prop := ∀ b j, ¬ (b = 1638 ∧ (j = 0 ∨ j = 9 ∨ j = 10 ∨ j = 11 ∨ j = 12 ∨ j = 16)) → ¬ (b = 1639 ∧ j < 417 ∧ j ≠ 5) → i' b j = i b j
theorem m_readAll1 (hS : SV t i) (hn : n ≤ 400) (ht : TM i n T) (hw : Wf S) (hv : MV i S) : Tt (f_Mo_readAll t i 1) (fun y => y.2 1638 9 = 0 ∧ y.2 1638 0 = 0 ∧ gy i y.2 ∧ match rSea n T S with
    | .inl e => y.1 = -1 ∧ y.2 1638 12 = nI e
    | .inr (S', q) => ¬ y.1 < 0 ∧ Wf S' ∧ MV y.2 S') := by
  unfold f_Mo_readAll f_Mo_uses
  refine tt_bind (P1 := fun i' => RX i' n T ∧ i' 1638 10 = nI 0 ∧ i' 1638 9 = 0 ∧ i' 1638 0 = 0 ∧ ∀ b j, ¬ (b = 1638 ∧ (j = 0 ∨ j = 9 ∨ j = 10 ∨ j = 11)) → i' b j = i b j) ?_ ?_
  · refine tt_bnd (tt_bnd (tt_bnd (tt_bnd (tt_some ⟨⟨?_, fun k hk => ?_⟩, ?_, ?_, ?_, fun b j hb => ?_⟩))))
    · rw [wr_k (by decide), wr_k (by decide), wr_s, wr_k (by decide)]; exact ht.1
    · rw [wr_a (by decide), wr_a (by decide), wr_a (by decide), wr_a (by decide)]; exact ht.2 k hk
    · rw [wr_s]; rfl
    · rw [wr_k (by decide), wr_s]
    · rw [wr_k (by decide), wr_k (by decide), wr_k (by decide), wr_s]
    · have g : ∀ (i0 : MI) (q : Nat) (v : Int32), (q = 0 ∨ q = 9 ∨ q = 10 ∨ q = 11) → wr i0 1638 q v b j = i0 b j := fun i0 q v h1 => if_neg (fun e => hb ⟨e.1, by omega⟩)
      rw [g _ _ _ (by omega), g _ _ _ (by omega), g _ _ _ (by omega), g _ _ _ (by omega)]
  rintro i1 ⟨x1, x2, x3, x4, x5⟩
  refine tt_bnd ?_
  have y1 : RX (wr i1 1638 16 0) n T := ⟨by rw [wr_k (by decide)]; exact x1.1, fun k hk => by rw [wr_a (by decide)]; exact x1.2 k hk⟩
  have y2 : wr i1 1638 16 0 1638 10 = nI 0 := by rw [wr_k (by decide)]; exact x2
  have y3 : wr i1 1638 16 0 1638 9 = 0 := by rw [wr_k (by decide)]; exact x3
  have y4 : wr i1 1638 16 0 1638 0 = 0 := by rw [wr_k (by decide)]; exact x4
  have y5 : ∀ b j, ¬ (b = 1638 ∧ (j = 0 ∨ j = 9 ∨ j = 10 ∨ j = 11 ∨ j = 16)) → wr i1 1638 16 0 b j = i b j := fun b j hb => by
    have : wr i1 1638 16 0 b j = i1 b j := if_neg (by omega)
    rw [this]; exact x5 b j (by omega)
  generalize wr i1 1638 16 0 = i2 at y1 y2 y3 y4 y5
  have hRS2 : RS i2 n T (sp n T 0) := ⟨y1, 0, Nat.zero_le n, rfl, y2⟩
  have hS2 : SV t i2 := hS.congr (fun b j hb => y5 b j (by omega))
  have hM2 : MV i2 S := hv.congr (fun k => y5 1639 k (by omega))
  have hs0 := hRS2.tks
  have hfin : ∀ (i' : MI), gx i2 i' → i' 1638 9 = 0 ∧ i' 1638 0 = 0 ∧ gy i i' := fun i' hg => ⟨(hg _ _ (by omega) (by omega)).trans y3, (hg _ _ (by omega) (by omega)).trans y4, fun b j h1 h2 => (hg b j (by omega) h2).trans (y5 b j (by omega))⟩
  have hE : ∀ (i' : MI) (e : Nat), rSea n T S = .inl e → i' 1638 12 = nI e → gx i2 i' → (i' 1638 9 = 0 ∧ i' 1638 0 = 0 ∧ gy i i' ∧ match rSea n T S with
    | .inl e => (-1 : Int32) = -1 ∧ i' 1638 12 = nI e
    | .inr (S', q) => ¬ (-1 : Int32) < 0 ∧ Wf S' ∧ MV i' S') := fun i' e h1 h2 h3 => by
    obtain ⟨a, b, c⟩ := hfin i' h3
    refine ⟨a, b, c, ?_⟩
    rw [h1]; exact ⟨rfl, h2⟩
  have hO : ∀ (i' : MI) (S' : SS) (q k : Nat), k < 1000 → rSea n T S = .inr (S', q) → Wf S' → MV i' S' → gx i2 i' → (i' 1638 9 = 0 ∧ i' 1638 0 = 0 ∧ gy i i' ∧ match rSea n T S with
    | .inl e => nI k = -1 ∧ i' 1638 12 = nI e
    | .inr (S', q) => ¬ nI k < 0 ∧ Wf S' ∧ MV i' S') := fun i' S' q k hk h1 h2 h4 h3 => by
    obtain ⟨a, b, c⟩ := hfin i' h3
    refine ⟨a, b, c, ?_⟩
    rw [h1]; exact ⟨nI_pos (by omega), h2, h4⟩
  refine tt_bind (m_blanks hn hRS2) ?_
  rintro i3 ⟨b1, b2, b3, b4⟩
  rw [b2, b1.1]
  by_cases c0 : sp n T 0 = n
  · rw [if_pos (by rw [c0])]
    have er : rSea n T S = .inr (S, n) := if_pos c0
    exact tt_some (hO i3 S n 0 (by omega) er hw (hM2.fz b4) b4.gx)
  rw [if_neg (fun q => c0 ((nI_inj (by have := hs0.1; omega) (by omega)).mp q))]
  have er : rSea n T S = rLs n T 14 0 S (sp n T 0) := if_neg c0
  refine tt_loop (fun j (x : Int32 × MI) => x.1 = nI j ∧ ∃ S1 s1, rSea n T S = (if j < 14 then rLs n T (14 - j) j S1 s1 else .inl s1) ∧ RS x.2 n T s1 ∧ MV x.2 S1 ∧ Wf S1 ∧ gx i2 x.2) 14 (by omega) ?_ ?_ ⟨rfl, S, sp n T 0, by rw [if_pos (by omega)]; exact er, ⟨b1, sp n T 0, hs0.1, hs0.2, b2⟩, hM2.fz b4, hw, b4.gx⟩
  · rintro j hj ⟨z, i7⟩ ⟨e1, S1, s1, e2, e3, e4, e5, e6⟩
    dsimp only at e1 e3 e4 e6 ⊢
    subst e1
    rw [if_pos hj, rLs_tgt hj] at e2
    refine tt_bind (m_lineAt (hS2.gx e6) hn (by omega) e3 e5 e4) ?_
    rw [if_pos hj]
    rintro ⟨v, i9⟩ ⟨g9, hx⟩
    dsimp only at g9 hx ⊢
    have f9 := e6.trans g9
    cases hr : rLine n T S1 s1 with
    | inl e =>
      rw [hr] at hx e2
      rcases hx with ⟨rfl, q2⟩ | ⟨rfl, q2, q3, q4⟩
      · rw [if_pos (show (0 : Int32) = 0 from rfl)]
        exact tt_some (hE i9 e e2 q2 f9)
      · rw [if_neg (show ¬ (1 : Int32) = 0 by decide)]
        have htk := q2.tks
        refine tt_bind (m_blanks hn q2) ?_
        rintro i12 ⟨k1, k2, k3, k4⟩
        rw [if_neg (show ¬ i12 1638 10 = i12 1638 11 by rw [k2, k1.1]; exact fun q => q3 ((nI_inj (by have := htk.1; omega) (by omega)).mp q)), m_isAt hn k1 htk.1 k2, Option.bind_some, if_neg (fun q => q4 (sgn_iff.mp q)), if_pos (show (0 : Int32) = 0 from rfl)]
        exact tt_some (hE i12 e e2 k3 (f9.trans k4.gx))
    | inr p =>
      rw [hr] at hx e2
      obtain ⟨rfl, q2, q3, q4⟩ := hx
      rw [if_neg (show ¬ (1 : Int32) = 0 by decide)]
      have htk := q4.tks
      have e2' : rSea n T S = tgt n T (j + 1) p.1 p.2 := e2
      refine tt_bind (m_blanks hn q4) ?_
      rintro i12 ⟨k1, k2, k3, k4⟩
      have hM12 := q3.fz k4
      by_cases cn : p.2 = n
      · rw [if_pos (show i12 1638 10 = i12 1638 11 by rw [k2, k1.1]; exact congrArg nI cn), nI_1]
        exact tt_some (hO i12 p.1 p.2 (j + 1) (by omega) (e2'.trans (tgt_end cn)) q2 hM12 (f9.trans k4.gx))
      · rw [if_neg (show ¬ i12 1638 10 = i12 1638 11 by rw [k2, k1.1]; exact fun q => cn ((nI_inj (by have := htk.1; omega) (by omega)).mp q)), m_isAt hn k1 htk.1 k2, Option.bind_some]
        by_cases cs : sgn n T 59 p.2 = true
        · have hlt := (sgn_iff.mpr cs).1
          rw [if_pos (sgn_iff.mpr cs), if_neg (show ¬ (1 : Int32) = 0 by decide), k2, nI_1]
          refine tt_bnd (tt_some ⟨nI_1 j, p.1, sp n T (p.2 + 1), ?_, ⟨⟨?_, fun k hk => ?_⟩, p.2 + 1, by omega, rfl, (show wr i12 1638 10 (nI (p.2 + 1)) 1638 10 = _ from wr_s)⟩, (show MV (wr i12 1638 10 (nI (p.2 + 1))) p.1 from hM12.congr (fun k => wr_a (by decide))), q2, (f9.trans k4.gx).w8 (Or.inl rfl) _⟩)
          · rw [e2']
            show (if p.2 = n then Sum.inr (p.1, p.2) else if sgn n T 59 p.2 = true then (if j + 1 < 14 then rLs n T (14 - (j + 1)) (j + 1) p.1 (sp n T (p.2 + 1)) else .inl (sp n T (p.2 + 1))) else .inl p.2) = _
            rw [if_neg cn, if_pos cs]
          · show wr i12 1638 10 (nI (p.2 + 1)) 1638 11 = nI n
            rw [wr_k (by decide)]; exact k1.1
          · show wr i12 1638 10 (nI (p.2 + 1)) 1644 k = T k
            rw [wr_a (by decide)]; exact k1.2 k hk
        · rw [if_neg (fun q => cs (sgn_iff.mp q)), if_pos (show (0 : Int32) = 0 from rfl)]
          exact tt_some (hE i12 p.2 (e2'.trans (tgt_err cn (by omega) (Or.inr ⟨cs, rfl⟩))) k3 (f9.trans k4.gx))
  · rintro ⟨z, i7⟩ ⟨e1, S1, s1, e2, e3, e4, e5, e6⟩
    dsimp only at e1 e3 e4 e6 ⊢
    subst e1
    rw [if_neg (by omega)] at e2
    refine tt_bind (m_lineAt (hS2.gx e6) hn (by omega) e3 e5 e4) ?_
    rw [if_neg (by omega)]
    rintro ⟨v, i9⟩ ⟨g9, hx⟩
    dsimp only at g9 hx ⊢
    have f9 := e6.trans g9
    rcases hx with ⟨rfl, q2⟩ | ⟨rfl, q2, q3, q4⟩
    · rw [if_pos (show (0 : Int32) = 0 from rfl)]
      exact tt_some (hE i9 s1 e2 q2 f9)
    · rw [if_neg (show ¬ (1 : Int32) = 0 by decide)]
      have htk := q2.tks
      refine tt_bind (m_blanks hn q2) ?_
      rintro i12 ⟨k1, k2, k3, k4⟩
      rw [if_neg (show ¬ i12 1638 10 = i12 1638 11 by rw [k2, k1.1]; exact fun q => q3 ((nI_inj (by have := htk.1; omega) (by omega)).mp q)), m_isAt hn k1 htk.1 k2, Option.bind_some, if_neg (fun q => q4 (sgn_iff.mp q)), if_pos (show (0 : Int32) = 0 from rfl)]
      exact tt_some (hE i12 s1 e2 k3 (f9.trans k4.gx))
/-- what the reference's call leaves alone -/
def fwM (i i' : MI) : Prop := (∀ b j, (b < 1638 ∨ b = 1640 ∨ b = 1643 ∨ b = 1644 ∨ 1658 ≤ b) → i' b j = i b j) ∧ (∀ j, ¬ (j = 0 ∨ j = 7 ∨ j = 9 ∨ j = 10 ∨ j = 11 ∨ j = 12 ∨ j = 14 ∨ j = 16) → i' 1638 j = i 1638 j) ∧ ∀ j, (417 ≤ j ∨ j = 5) → i' 1639 j = i 1639 j
def WMO (i : MI) (p : (Int32 × Int32) × Int32 × PW) : Int32 × MI → Prop := fun y => y.2 1638 0 = p.1.1 ∧ (p.1.1 = 0 → y.1 = p.1.2) ∧ MW y.2 p.2.2 ∧ y.2 1638 14 = p.2.1 ∧ y.2 1638 9 = 0 ∧ fwM i y.2
theorem m_back66 {i : MI} {α : Type} {P : α → Prop} {k : MI → Option α} (h : ∀ i', (∀ b j, i' b j = if b = 1639 ∧ j < 1266 then i 1641 j else i b j) → Tt (k i') P) : Tt ((itr (fun (x : Int32 × MI) => if x.1 < 1266 then (grd x.1 1266 (grd x.1 2115 (bnd (wr x.2 1639 (ix x.1) (x.2 1641 (ix x.1))) (fun i_42 => some (Sum.inl ((x.1 + 1), i_42)))))) else (some (Sum.inr x.2))) 1000000 ((0 : Int32), i)).bind k) P := by
  refine tt_bind (P1 := fun i' => ∀ b j, i' b j = if b = 1639 ∧ j < 1266 then i 1641 j else i b j)
    (tt_loop (fun q (s : Int32 × MI) => s.1 = nI q ∧ ∀ b j, s.2 b j = if b = 1639 ∧ j < q then i 1641 j else i b j) 1266 (by omega) ?_ ?_ ⟨rfl, fun b j => by rw [if_neg (by omega)]⟩) h
  · rintro q hq ⟨z, i2⟩ ⟨e1, e2⟩
    dsimp only at e1 e2 ⊢
    subst e1
    rw [lit_nI 1266, if_pos (nI_lt hq (by omega)), grd_nI (show q < 1266 by omega) (by decide), grd_nI (show q < 2115 by omega) (by decide), ix_nI (by omega), e2 1641 q, if_neg (by omega)]
    refine tt_bnd (tt_some ⟨nI_1 q, fun b j => ?_⟩)
    show wr i2 1639 q (i 1641 q) b j = _
    by_cases e : b = 1639 ∧ j = q
    · rw [e.1, e.2, wr_s, if_pos ⟨rfl, by omega⟩]
    · have : wr i2 1639 q (i 1641 q) b j = i2 b j := if_neg e
      rw [this, e2]
      by_cases e3 : b = 1639 ∧ j < q
      · rw [if_pos e3, if_pos ⟨e3.1, by omega⟩]
      · rw [if_neg e3, if_neg (by omega)]
  · rintro ⟨z, i2⟩ ⟨e1, e2⟩
    dsimp only at e1 e2 ⊢
    subst e1
    rw [lit_nI 1266, if_neg (nI_nlt (Nat.le_refl _) (by omega))]
    exact tt_some e2
theorem m_waters (hS : SV t i) (hn : n ≤ 400) (ht : TM i n T) (hw : WW W) (h : MW i W) : Tt (f_Mo_waters t i) (WMO i (spWaters n T W)) := by
  unfold f_Mo_waters
  refine tt_bind (P1 := fun i' => ∀ b j, i' b j = if b = 1641 ∧ j < 1266 then i 1639 j else i b j)
    (tt_loop (fun q (s : Int32 × MI) => s.1 = nI q ∧ ∀ b j, s.2 b j = if b = 1641 ∧ j < q then i 1639 j else i b j) 1266 (by omega) ?_ ?_ ⟨rfl, fun b j => by rw [if_neg (by omega)]⟩) ?_
  · rintro q hq ⟨z, i2⟩ ⟨e1, e2⟩
    dsimp only at e1 e2 ⊢
    subst e1
    rw [lit_nI 1266, if_pos (nI_lt hq (by omega)), grd_nI (show q < 2115 by omega) (by decide), grd_nI (show q < 1266 by omega) (by decide), ix_nI (by omega), e2 1639 q, if_neg (by omega)]
    refine tt_bnd (tt_some ⟨nI_1 q, fun b j => ?_⟩)
    show wr i2 1641 q (i 1639 q) b j = _
    by_cases e : b = 1641 ∧ j = q
    · rw [e.1, e.2, wr_s, if_pos ⟨rfl, by omega⟩]
    · have : wr i2 1641 q (i 1639 q) b j = i2 b j := if_neg e
      rw [this, e2]
      by_cases e3 : b = 1641 ∧ j < q
      · rw [if_pos e3, if_pos ⟨e3.1, by omega⟩]
      · rw [if_neg e3, if_neg (by omega)]
  · rintro ⟨z, i2⟩ ⟨e1, e2⟩
    dsimp only at e1 e2 ⊢
    subst e1
    rw [lit_nI 1266, if_neg (nI_nlt (Nat.le_refl _) (by omega))]
    exact tt_some e2
  rintro i3 c1
  have d1 : ∀ b j, b ≠ 1641 → i3 b j = i b j := fun b j hb => by rw [c1, if_neg (fun q => hb q.1)]
  have d2 : ∀ j, j < 1266 → i3 1641 j = i 1639 j := fun j hj => by rw [c1, if_pos ⟨rfl, hj⟩]
  refine tt_bind (m_readAll1 (hS.congr (fun b j hb => d1 b j (by omega))) hn ⟨(d1 _ _ (by decide)).trans ht.1, fun k hk => (d1 _ _ (by decide)).trans (ht.2 k hk)⟩ hw.1 (h.1.congr (fun k => d1 1639 k (by decide)))) ?_
  rintro ⟨v, i13⟩ ⟨g1, g2, g3, g4⟩
  dsimp only at g1 g2 g3 g4 ⊢
  have hfr : ∀ b j, b ≠ 1641 → ¬ (b = 1638 ∧ (j = 0 ∨ j = 9 ∨ j = 10 ∨ j = 11 ∨ j = 12 ∨ j = 16)) → ¬ (b = 1639 ∧ j < 417 ∧ j ≠ 5) → i13 b j = i b j := fun b j h1 h2 h3 => (g3 b j h2 h3).trans (d1 b j h1)
  have h41 : ∀ j, j < 1266 → i13 1641 j = i 1639 j := fun j hj => (g3 1641 j (by omega) (by omega)).trans (d2 j hj)
  cases hr : rSea n T W.1 with
  | inl e =>
    have esp : spWaters n T W = ((1, 0), nI e, W) := by unfold spWaters; rw [hr]
    rw [hr] at g4
    obtain ⟨rfl, g5⟩ := g4
    rw [esp, if_pos (show (-1 : Int32) < 0 by decide), Option.bind_some, g5]
    refine tt_bnd ?_
    rw [if_pos (show (-1 : Int32) < 0 by decide), Option.bind_some, thr1, Option.bind_some]
    dsimp only
    rw [if_neg (show ¬ (1 : Int32) = 0 by decide)]
    refine m_back66 (fun i' hb => ?_)
    have hb2 : ∀ b j, ¬ (b = 1639 ∧ j < 1266) → ¬ (b = 1638 ∧ (j = 0 ∨ j = 14)) → i' b j = i13 b j := fun b j h1 h2 => by
      rw [hb, if_neg h1]
      have a1 : wr (wr i13 1638 14 (nI e)) 1638 0 1 b j = wr i13 1638 14 (nI e) b j := if_neg (by omega)
      have a2 : wr i13 1638 14 (nI e) b j = i13 b j := if_neg (by omega)
      rw [a1, a2]
    have h39 : ∀ j, i' 1639 j = i 1639 j := fun j => by
      by_cases hj : j < 1266
      · rw [hb, if_pos ⟨rfl, hj⟩, wr_a (by decide), wr_a (by decide)]; exact h41 j hj
      · rw [hb2 _ _ (by omega) (by omega)]; exact hfr _ _ (by decide) (by omega) (by omega)
    refine tt_some ⟨?_, fun q => absurd (show (1 : Int32) = 0 from q) (by decide), ⟨h.1.congr h39, ?_⟩, ?_, ?_, ⟨fun b j h1 => ?_, fun j h1 => ?_, fun j _ => h39 j⟩⟩
    · show i' 1638 0 = 1
      rw [hb, if_neg (by omega), wr_s]
    · exact h.2.congr (fun j => (hb2 _ _ (by omega) (by omega)).trans (hfr _ _ (by decide) (by omega) (by omega))) ((hb2 _ _ (by omega) (by omega)).trans (hfr _ _ (by decide) (by omega) (by omega))) (h39 5)
    · show i' 1638 14 = nI e
      rw [hb, if_neg (by omega), wr_k (by decide), wr_s]
    · show i' 1638 9 = 0
      rw [hb2 _ _ (by omega) (by omega)]; exact g1
    · exact (hb2 b j (by omega) (by omega)).trans (hfr b j (by omega) (by omega) (by omega))
    · exact (hb2 1638 j (by omega) (by omega)).trans (hfr 1638 j (by decide) (by omega) (by omega))
  | inr p =>
    have esp : spWaters n T W = if W.1 0 0 4 = 12 then ((2, 0), -1, W) else ((0, p.1 0 0 4 + 1), -1, (su p.1 0 0 4 (p.1 0 0 4 + 1), 0, W.2.2)) := by unfold spWaters; rw [hr]
    rw [hr] at g4
    obtain ⟨g5, g6, g7⟩ := g4
    have hk4 : p.1 0 0 4 = W.1 0 0 4 := kp4_sea p.1 p.2 hr
    rw [esp, if_neg g5, Option.bind_some]
    refine tt_bnd ?_
    rw [if_neg g5, Option.bind_some, thr0, Option.bind_some]
    dsimp only
    rw [if_pos (show (0 : Int32) = 0 from rfl)]
    have e4 : wr i13 1638 14 (-1) 1639 4 = W.1 0 0 4 := by rw [wr_a (by decide), g7.1 4 (by decide) (by decide)]; exact hk4
    by_cases c12 : W.1 0 0 4 = 12
    · rw [if_pos (e4.trans c12), Option.bind_some, thr1, Option.bind_some, if_pos c12]
      dsimp only
      rw [if_neg (show ¬ (1 : Int32) = 0 by decide)]
      refine m_back66 (fun i' hb => ?_)
      have hb2 : ∀ b j, ¬ (b = 1639 ∧ j < 1266) → ¬ (b = 1638 ∧ (j = 0 ∨ j = 14)) → i' b j = i13 b j := fun b j h1 h2 => by
        rw [hb, if_neg h1]
        have a1 : wr (wr i13 1638 14 (-1)) 1638 0 2 b j = wr i13 1638 14 (-1) b j := if_neg (by omega)
        have a2 : wr i13 1638 14 (-1) b j = i13 b j := if_neg (by omega)
        rw [a1, a2]
      have h39 : ∀ j, i' 1639 j = i 1639 j := fun j => by
        by_cases hj : j < 1266
        · rw [hb, if_pos ⟨rfl, hj⟩, wr_a (by decide), wr_a (by decide)]; exact h41 j hj
        · rw [hb2 _ _ (by omega) (by omega)]; exact hfr _ _ (by decide) (by omega) (by omega)
      refine tt_some ⟨?_, fun q => absurd (show (2 : Int32) = 0 from q) (by decide), ⟨h.1.congr h39, ?_⟩, ?_, ?_, ⟨fun b j h1 => ?_, fun j h1 => ?_, fun j _ => h39 j⟩⟩
      · show i' 1638 0 = 2
        rw [hb, if_neg (by omega), wr_s]
      · exact h.2.congr (fun j => (hb2 _ _ (by omega) (by omega)).trans (hfr _ _ (by decide) (by omega) (by omega))) ((hb2 _ _ (by omega) (by omega)).trans (hfr _ _ (by decide) (by omega) (by omega))) (h39 5)
      · show i' 1638 14 = -1
        rw [hb, if_neg (by omega), wr_k (by decide), wr_s]
      · show i' 1638 9 = 0
        rw [hb2 _ _ (by omega) (by omega)]; exact g1
      · exact (hb2 b j (by omega) (by omega)).trans (hfr b j (by omega) (by omega) (by omega))
      · exact (hb2 1638 j (by omega) (by omega)).trans (hfr 1638 j (by decide) (by omega) (by omega))
    · rw [if_neg (fun q => c12 (e4.symm.trans q)), Option.bind_some, thr0, Option.bind_some, if_neg c12]
      dsimp only
      rw [if_pos (show (0 : Int32) = 0 from rfl)]
      rw [e4]
      refine tt_bnd (tt_bnd ?_)
      have hM : MV (wr (wr i13 1638 14 (-1)) 1639 4 (W.1 0 0 4 + 1)) (su p.1 0 0 4 (W.1 0 0 4 + 1)) := (g7.congr (i' := wr i13 1638 14 (-1)) (fun k => wr_a (by decide))).scal (by decide) (by decide) _
      rw [hk4]
      refine tt_some ⟨?_, fun _ => ?_, ⟨(show MV (wr (wr (wr i13 1638 14 (-1)) 1639 4 (W.1 0 0 4 + 1)) 1638 7 0) (su p.1 0 0 4 (W.1 0 0 4 + 1)) from hM.congr (fun k => wr_a (by decide))), (show wr (wr (wr i13 1638 14 (-1)) 1639 4 (W.1 0 0 4 + 1)) 1638 7 0 1638 7 = 0 from wr_s), fun k hk => absurd hk (Nat.not_lt_zero k)⟩, ?_, ?_, ⟨fun b j h1 => ?_, fun j h1 => ?_, fun j h1 => ?_⟩⟩
      · show wr (wr (wr i13 1638 14 (-1)) 1639 4 (W.1 0 0 4 + 1)) 1638 7 0 1638 0 = 0
        rw [wr_k (by decide), wr_a (by decide), wr_k (by decide)]; exact g2
      · show wr (wr (wr i13 1638 14 (-1)) 1639 4 (W.1 0 0 4 + 1)) 1638 7 0 1639 4 = W.1 0 0 4 + 1
        rw [wr_a (by decide), wr_s]
      · show wr (wr (wr i13 1638 14 (-1)) 1639 4 (W.1 0 0 4 + 1)) 1638 7 0 1638 14 = -1
        rw [wr_k (by decide), wr_a (by decide), wr_s]
      · show wr (wr (wr i13 1638 14 (-1)) 1639 4 (W.1 0 0 4 + 1)) 1638 7 0 1638 9 = 0
        rw [wr_k (by decide), wr_a (by decide), wr_k (by decide)]; exact g1
      · show wr (wr (wr i13 1638 14 (-1)) 1639 4 (W.1 0 0 4 + 1)) 1638 7 0 b j = i b j
        rw [wr_a (by omega), wr_a (by omega), wr_a (by omega)]; exact hfr b j (by omega) (by omega) (by omega)
      · show wr (wr (wr i13 1638 14 (-1)) 1639 4 (W.1 0 0 4 + 1)) 1638 7 0 1638 j = i 1638 j
        rw [wr_k (by omega), wr_a (by decide), wr_k (by omega)]; exact hfr 1638 j (by decide) (by omega) (by omega)
      · show wr (wr (wr i13 1638 14 (-1)) 1639 4 (W.1 0 0 4 + 1)) 1638 7 0 1639 j = i 1639 j
        rw [wr_a (by decide), wr_k (by omega), wr_a (by decide)]; exact hfr 1639 j (by decide) (by omega) (by omega)
end WATM
