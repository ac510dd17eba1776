/-! ===== a law's lines: the reference's lines ===== -/
def tgL (n : Nat) (T : Nat → Int32) (j : Nat) (L : LTb) (s : Nat) : Nat ⊕ (Nat × LTb) := if s = n then .inr (j, L) else if sgn n T 59 s = true then (if j < 12 then rLaws n T (12 - j) j L (sp n T (s + 1)) else .inl (sp n T (s + 1))) else .inl s
/-- the reference's rows of the first x lines -/
def TI (i : MI) (x : Nat) (L : LTb) : Prop := ∀ k, k < x → i 1639 (1267 + 4 * k) = (L.1 k).1 ∧ i 1639 (1267 + 4 * k + 1) = (L.1 k).2.1 ∧ i 1639 (1267 + 4 * k + 2) = nI (lbg L k) ∧ i 1639 (1267 + 4 * k + 3) = nI (L.1 k).2.2
def gz (i i' : MI) : Prop := ∀ b j, ¬ (b = 1638 ∧ (j = 10 ∨ j = 12 ∨ j = 13 ∨ j = 16)) → ¬ (b = 1639 ∧ 1267 ≤ j) → i' b j = i b j
section LAWJ
variable {t : MT} {i : MI} {n : Nat} {T : Nat → Int32} {c : Cd}
theorem gz.trans {i j k : MI} (h : gz i j) (h2 : gz j k) : gz i k := fun b q h1 h3 => (h2 b q h1 h3).trans (h b q h1 h3)
theorem fml.gz {x : Nat} {i j : MI} (h : fml x i j) : gz i j := fun b q h1 h3 => h b q h1 (by omega)
theorem fz.gz {i j : MI} (h : fz i j) : gz i j := fun b q h1 _ => h b q (by omega)
theorem SV.gz {i' : MI} (h : SV t i) (hf : gz i i') : SV t i' := h.congr (fun b j hb => hf b j (by omega) (by omega))
theorem rLaws_tgL {j : Nat} (hj : j < 12) (L : LTb) (s : Nat) : rLaws n T (12 - j) j L s = (match rLaw1 n T s L.2 with | .inl e => .inl e | .inr p => tgL n T (j + 1) (up1 L.1 j p.2.1, p.2.2) p.1) := by
  rw [show 12 - j = (12 - (j + 1)) + 1 by omega]
  rfl
theorem m_lawAt (hS : SV t i) (hn : n ≤ 400) {s j : Nat} (hj : j ≤ 12) (h : RS i n T s) (hc : KM i c) (hl : c.1 ≤ s) : Tt (f_Mo_readLine t i 0 (nI j)) (fun y => fml j i y.2 ∧ match (if j < 12 then rLaw1 n T s c else .inl s) with
    | .inl e => y.1 = 0 ∧ y.2 1638 12 = nI e
    | .inr p => y.1 = 1 ∧ RS y.2 n T p.1 ∧ KM y.2 p.2.2 ∧ y.2 1639 (1267 + 4 * j) = p.2.1.1 ∧ y.2 1639 (1267 + 4 * j + 1) = p.2.1.2.1 ∧ y.2 1639 (1267 + 4 * j + 2) = nI c.1 ∧ y.2 1639 (1267 + 4 * j + 3) = nI p.2.1.2.2) := by
  have hs := h.tks
  unfold f_Mo_readLine
  refine tt_bind (m_letters hn h) ?_
  rintro i1 ⟨a1, a2⟩
  rw [if_pos (show (0 : Int32) = 0 from rfl), Option.bind_some]
  by_cases cj : j < 12
  · rw [if_pos (show nI j < 12 from nI_lt (b := 12) cj (by decide)), if_pos (show (0 : Int32) = 0 from rfl), if_pos cj]
    refine tt_bind (m_law1 (hS.fmo a2.fmo) hn cj hs a1 (hc.fz a2) hl) ?_
    rintro ⟨v, i3⟩ ⟨g, hx⟩
    dsimp only at g hx ⊢
    cases hr : rLaw1 n T s c with
    | inl e =>
      rw [hr] at hx
      obtain ⟨q1, q2⟩ := hx
      rw [if_pos q1]; exact tt_some ⟨a2.fmo.fml.trans g, rfl, q2⟩
    | inr p =>
      rw [hr] at hx
      obtain ⟨q1, q2⟩ := hx
      rw [if_neg (show ¬ v = 0 by rw [show v = 1 from q1]; decide)]
      exact tt_some ⟨a2.fmo.fml.trans g, rfl, q2⟩
  · rw [if_neg (show ¬ nI j < 12 from nI_nlt (b := 12) (by omega) (by omega)), if_neg cj]
    exact tt_some ⟨a2.fmo.fml, rfl, a1.2.1⟩
theorem TI.keep {i' : MI} {x : Nat} {L : LTb} (h : TI i x L) (he : ∀ j, j < 1267 + 4 * x → i' 1639 j = i 1639 j) : TI i' x L := fun k hk => by
  rw [he _ (by omega), he _ (by omega), he _ (by omega), he _ (by omega)]; exact h k hk
theorem TI.more {i' : MI} {x : Nat} {L : LTb} (hx : x < 12) (h : TI i x L) (hf : fml x i i') {p : Nat × L1 × Cd} (hb : lbg L x = L.2.1) (e0 : i' 1639 (1267 + 4 * x) = p.2.1.1) (e1 : i' 1639 (1267 + 4 * x + 1) = p.2.1.2.1) (e2 : i' 1639 (1267 + 4 * x + 2) = nI L.2.1) (e3 : i' 1639 (1267 + 4 * x + 3) = nI p.2.1.2.2) : TI i' (x + 1) (up1 L.1 x p.2.1, p.2.2) := fun k hk => by
  have lb : lbg (up1 L.1 x p.2.1, p.2.2) k = lbg L k := by
    cases k with
    | zero => rfl
    | succ k => exact congrArg (fun z : L1 => z.2.2) (up1_o (by omega))
  rw [lb]
  show i' 1639 (1267 + 4 * k) = (up1 L.1 x p.2.1 k).1 ∧ i' 1639 (1267 + 4 * k + 1) = (up1 L.1 x p.2.1 k).2.1 ∧ i' 1639 (1267 + 4 * k + 2) = nI (lbg L k) ∧ i' 1639 (1267 + 4 * k + 3) = nI (up1 L.1 x p.2.1 k).2.2
  by_cases c : k = x
  · subst c
    rw [up1_s, hb]
    exact ⟨e0, e1, e2, e3⟩
  · rw [up1_o c]
    exact (h.keep (fun j hj => hf _ _ (by omega) (by omega))) k (by omega)
theorem m_readAll0 (hS : SV t i) (hn : n ≤ 400) (ht : TM i n T) : Tt (f_Mo_readAll t i 0) (fun y => y.2 1638 9 = 0 ∧ y.2 1638 0 = 0 ∧ (∀ b j, ¬ (b = 1638 ∧ (j = 0 ∨ j = 9 ∨ j = 10 ∨ j = 11 ∨ j = 12 ∨ j = 13 ∨ j = 16)) → ¬ (b = 1639 ∧ 1267 ≤ j) → y.2 b j = i b j) ∧ match rLawA n T with
    | .inl e => y.1 = -1 ∧ y.2 1638 12 = nI e
    | .inr p => y.1 = nI p.1 ∧ KM y.2 p.2.2 ∧ TI y.2 p.1 p.2 ∧ LOK n p.1 p.2 n) := by
  unfold f_Mo_readAll f_Mo_uses
  refine tt_bind (P1 := fun i' => RX i' n T ∧ i' 1638 10 = nI 0 ∧ i' 1638 9 = 0 ∧ i' 1638 0 = 0 ∧ ∀ b j, ¬ (b = 1638 ∧ (j = 0 ∨ j = 9 ∨ j = 10 ∨ j = 11)) → i' b j = i b j) ?_ ?_
  · refine tt_bnd (tt_bnd (tt_bnd (tt_bnd (tt_some ⟨⟨?_, fun k hk => ?_⟩, ?_, ?_, ?_, fun b j hb => ?_⟩))))
    · rw [wr_k (by decide), wr_k (by decide), wr_s, wr_k (by decide)]; exact ht.1
    · rw [wr_a (by decide), wr_a (by decide), wr_a (by decide), wr_a (by decide)]; exact ht.2 k hk
    · rw [wr_s]; rfl
    · rw [wr_k (by decide), wr_s]
    · rw [wr_k (by decide), wr_k (by decide), wr_k (by decide), wr_s]
    · have g : ∀ (i0 : MI) (q : Nat) (v : Int32), (q = 0 ∨ q = 9 ∨ q = 10 ∨ q = 11) → wr i0 1638 q v b j = i0 b j := fun i0 q v h1 => if_neg (fun e => hb ⟨e.1, by omega⟩)
      rw [g _ _ _ (by omega), g _ _ _ (by omega), g _ _ _ (by omega), g _ _ _ (by omega)]
  rintro i1 ⟨x1, x2, x3, x4, x5⟩
  refine tt_bnd ?_
  have y1 : RX (wr i1 1638 16 0) n T := ⟨by rw [wr_k (by decide)]; exact x1.1, fun k hk => by rw [wr_a (by decide)]; exact x1.2 k hk⟩
  have y2 : wr i1 1638 16 0 1638 10 = nI 0 := by rw [wr_k (by decide)]; exact x2
  have y3 : wr i1 1638 16 0 1638 9 = 0 := by rw [wr_k (by decide)]; exact x3
  have y4 : wr i1 1638 16 0 1638 0 = 0 := by rw [wr_k (by decide)]; exact x4
  have y5 : ∀ b j, ¬ (b = 1638 ∧ (j = 0 ∨ j = 9 ∨ j = 10 ∨ j = 11 ∨ j = 16)) → wr i1 1638 16 0 b j = i b j := fun b j hb => by
    have : wr i1 1638 16 0 b j = i1 b j := if_neg (by omega)
    rw [this]; exact x5 b j (by omega)
  have y6 : KM (wr i1 1638 16 0) lt0.2 := ⟨wr_s, fun k hk => absurd hk (Nat.not_lt_zero k)⟩
  generalize wr i1 1638 16 0 = i2 at y1 y2 y3 y4 y5 y6
  have hRS2 : RS i2 n T (sp n T 0) := ⟨y1, 0, Nat.zero_le n, rfl, y2⟩
  have hS2 : SV t i2 := hS.congr (fun b j hb => y5 b j (by omega))
  have hs0 := hRS2.tks
  have hfin : ∀ (i' : MI), gz i2 i' → i' 1638 9 = 0 ∧ i' 1638 0 = 0 ∧ (∀ b j, ¬ (b = 1638 ∧ (j = 0 ∨ j = 9 ∨ j = 10 ∨ j = 11 ∨ j = 12 ∨ j = 13 ∨ j = 16)) → ¬ (b = 1639 ∧ 1267 ≤ j) → i' b j = i b j) := fun i' hg => ⟨(hg _ _ (by omega) (by omega)).trans y3, (hg _ _ (by omega) (by omega)).trans y4, fun b j h1 h2 => (hg b j (by omega) h2).trans (y5 b j (by omega))⟩
  have hE : ∀ (i' : MI) (e : Nat), rLawA n T = .inl e → i' 1638 12 = nI e → gz i2 i' → (i' 1638 9 = 0 ∧ i' 1638 0 = 0 ∧ (∀ b j, ¬ (b = 1638 ∧ (j = 0 ∨ j = 9 ∨ j = 10 ∨ j = 11 ∨ j = 12 ∨ j = 13 ∨ j = 16)) → ¬ (b = 1639 ∧ 1267 ≤ j) → i' b j = i b j) ∧ match rLawA n T with
    | .inl e => (-1 : Int32) = -1 ∧ i' 1638 12 = nI e
    | .inr p => (-1 : Int32) = nI p.1 ∧ KM i' p.2.2 ∧ TI i' p.1 p.2 ∧ LOK n p.1 p.2 n) := fun i' e h1 h2 h3 => by
    obtain ⟨a, b, c⟩ := hfin i' h3
    refine ⟨a, b, c, ?_⟩
    rw [h1]; exact ⟨rfl, h2⟩
  have hO : ∀ (i' : MI) (x : Nat) (L : LTb), rLawA n T = .inr (x, L) → KM i' L.2 → TI i' x L → LOK n x L n → gz i2 i' → (i' 1638 9 = 0 ∧ i' 1638 0 = 0 ∧ (∀ b j, ¬ (b = 1638 ∧ (j = 0 ∨ j = 9 ∨ j = 10 ∨ j = 11 ∨ j = 12 ∨ j = 13 ∨ j = 16)) → ¬ (b = 1639 ∧ 1267 ≤ j) → i' b j = i b j) ∧ match rLawA n T with
    | .inl e => nI x = -1 ∧ i' 1638 12 = nI e
    | .inr p => nI x = nI p.1 ∧ KM i' p.2.2 ∧ TI i' p.1 p.2 ∧ LOK n p.1 p.2 n) := fun i' x L h1 h2 h4 h5 h3 => by
    obtain ⟨a, b, c⟩ := hfin i' h3
    refine ⟨a, b, c, ?_⟩
    rw [h1]; exact ⟨rfl, h2, h4, h5⟩
  refine tt_bind (m_blanks hn hRS2) ?_
  rintro i3 ⟨b1, b2, b3, b4⟩
  rw [b2, b1.1]
  by_cases c0 : sp n T 0 = n
  · rw [if_pos (by rw [c0])]
    have er : rLawA n T = .inr (0, lt0) := if_pos c0
    exact tt_some (hO i3 0 lt0 er (y6.fz b4) (fun k hk => absurd hk (Nat.not_lt_zero k)) (LOK0.le (Nat.zero_le n)) b4.gz)
  rw [if_neg (fun q => c0 ((nI_inj (by have := hs0.1; omega) (by omega)).mp q))]
  have er : rLawA n T = rLaws n T 12 0 lt0 (sp n T 0) := if_neg c0
  refine tt_loop (fun j (x : Int32 × MI) => x.1 = nI j ∧ ∃ L1 s1, rLawA n T = (if j < 12 then rLaws n T (12 - j) j L1 s1 else .inl s1) ∧ RS x.2 n T s1 ∧ KM x.2 L1.2 ∧ TI x.2 j L1 ∧ LOK n j L1 s1 ∧ gz i2 x.2) 12 (by omega) ?_ ?_ ⟨rfl, lt0, sp n T 0, by rw [if_pos (by omega)]; exact er, ⟨b1, sp n T 0, hs0.1, hs0.2, b2⟩, y6.fz b4, (fun k hk => absurd hk (Nat.not_lt_zero k)), LOK0.le (Nat.zero_le _), b4.gz⟩
  · rintro j hj ⟨z, i7⟩ ⟨e1, L1, s1, e2, e3, e4, e5, e7, e6⟩
    dsimp only at e1 e3 e4 e5 e6 ⊢
    subst e1
    rw [if_pos hj, rLaws_tgL hj] at e2
    refine tt_bind (m_lawAt (hS2.gz e6) hn (by omega) e3 e4 e7.1) ?_
    rw [if_pos hj]
    rintro ⟨v, i9⟩ ⟨g9, hx⟩
    dsimp only at g9 hx ⊢
    have f9 := e6.trans g9.gz
    cases hr : rLaw1 n T s1 L1.2 with
    | inl e =>
      rw [hr] at hx e2
      obtain ⟨rfl, q2⟩ := hx
      rw [if_pos (show (0 : Int32) = 0 from rfl)]
      exact tt_some (hE i9 e e2 q2 f9)
    | inr p =>
      rw [hr] at hx e2
      obtain ⟨rfl, q4, q3, k0, k1, k2, k3⟩ := hx
      rw [if_neg (show ¬ (1 : Int32) = 0 by decide)]
      have htk := q4.tks
      have e2' : rLawA n T = tgL n T (j + 1) (up1 L1.1 j p.2.1, p.2.2) p.1 := e2
      have hT := e5.more hj g9 e7.2.2.1 k0 k1 k2 k3
      have hL := e7.more hj e3.tks hr
      refine tt_bind (m_blanks hn q4) ?_
      rintro i12 ⟨k1, k2, k3, k4⟩
      have hT12 : TI i12 (j + 1) (up1 L1.1 j p.2.1, p.2.2) := hT.keep (fun k _ => k4 1639 k (by omega))
      by_cases cn : p.1 = n
      · rw [if_pos (show i12 1638 10 = i12 1638 11 by rw [k2, k1.1]; exact congrArg nI cn), nI_1]
        exact tt_some (hO i12 (j + 1) _ (e2'.trans (if_pos cn)) (q3.fz k4) hT12 (hL.le htk.1) (f9.trans k4.gz))
      · rw [if_neg (show ¬ i12 1638 10 = i12 1638 11 by rw [k2, k1.1]; exact fun q => cn ((nI_inj (by have := htk.1; omega) (by omega)).mp q)), m_isAt hn k1 htk.1 k2, Option.bind_some]
        by_cases cs : sgn n T 59 p.1 = true
        · have hlt := (sgn_iff.mpr cs).1
          have hsl := sgn_lt cs
          rw [if_pos (sgn_iff.mpr cs), if_neg (show ¬ (1 : Int32) = 0 by decide), k2, nI_1]
          have hW : gz i12 (wr i12 1638 10 (nI (p.1 + 1))) := fun b j h1 _ => if_neg (by omega)
          refine tt_bnd (tt_some ⟨nI_1 j, (up1 L1.1 j p.2.1, p.2.2), sp n T (p.1 + 1), ?_, ⟨⟨?_, fun k hk => ?_⟩, p.1 + 1, by omega, rfl, (show wr i12 1638 10 (nI (p.1 + 1)) 1638 10 = _ from wr_s)⟩, (show KM (wr i12 1638 10 (nI (p.1 + 1))) p.2.2 from (q3.fz k4).fz (fun b j h1 => if_neg (by omega))), (show TI (wr i12 1638 10 (nI (p.1 + 1))) (j + 1) (up1 L1.1 j p.2.1, p.2.2) from hT12.keep (fun k _ => wr_a (by decide))), hL.le (by omega), (f9.trans k4.gz).trans hW⟩)
          · rw [e2']
            unfold tgL
            rw [if_neg cn, if_pos cs]
          · show wr i12 1638 10 (nI (p.1 + 1)) 1638 11 = nI n
            rw [wr_k (by decide)]; exact k1.1
          · show wr i12 1638 10 (nI (p.1 + 1)) 1644 k = T k
            rw [wr_a (by decide)]; exact k1.2 k hk
        · rw [if_neg (fun q => cs (sgn_iff.mp q)), if_pos (show (0 : Int32) = 0 from rfl)]
          exact tt_some (hE i12 p.1 (e2'.trans ((if_neg cn).trans (if_neg cs))) k3 (f9.trans k4.gz))
  · rintro ⟨z, i7⟩ ⟨e1, L1, s1, e2, e3, e4, e5, e7, e6⟩
    dsimp only at e1 e3 e4 e5 e6 ⊢
    subst e1
    rw [if_neg (by omega)] at e2
    refine tt_bind (m_lawAt (hS2.gz e6) hn (by omega) e3 e4 e7.1) ?_
    rw [if_neg (by omega)]
    rintro ⟨v, i9⟩ ⟨g9, hx⟩
    dsimp only at g9 hx ⊢
    obtain ⟨rfl, q2⟩ := hx
    rw [if_pos (show (0 : Int32) = 0 from rfl)]
    exact tt_some (hE i9 s1 e2 q2 (e6.trans g9.gz))
end LAWJ
