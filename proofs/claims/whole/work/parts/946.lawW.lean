/-! ===== a law's text: the reference's sums ===== -/
def KM (i : MI) (c : Cd) : Prop := i 1638 16 = nI c.1 ∧ ∀ k, k < c.1 → i 1639 (1315 + 2 * k) = encC (c.2 k) ∧ (¬ c.2 k < 0 → i 1639 (1315 + 2 * k + 1) = c.2 k)
def fmo (i i' : MI) : Prop := ∀ b j, ¬ (b = 1638 ∧ (j = 10 ∨ j = 12 ∨ j = 13 ∨ j = 16)) → ¬ (b = 1639 ∧ 1315 ≤ j) → i' b j = i b j
def fmk (i i' : MI) : Prop := ∀ b j, ¬ (b = 1638 ∧ j = 16) → ¬ (b = 1639 ∧ 1315 ≤ j) → i' b j = i b j
def MRz (n : Nat) (T : Nat → Int32) (i : MI) (x : Rz) (y : Int32 × MI) : Prop := (match x with
  | .inl e => y.1 = 0 ∧ y.2 1638 12 = nI e
  | .inr p => y.1 = 1 ∧ RS y.2 n T p.1 ∧ KM y.2 p.2 ∧ y.2 1638 13 = i 1638 13) ∧ fmo i y.2
section LAWW
variable {t : MT} {i i' : MI} {n : Nat} {T : Nat → Int32} {c : Cd}
theorem fmo.refl (i : MI) : fmo i i := fun _ _ _ _ => rfl
theorem fmo.trans {i j k : MI} (h : fmo i j) (h2 : fmo j k) : fmo i k := fun b q h1 h3 => (h2 b q h1 h3).trans (h b q h1 h3)
theorem fz.fmo {i j : MI} (h : fz i j) : fmo i j := fun b q h1 _ => h b q (by omega)
theorem fmk.fmo {i j : MI} (h : fmk i j) : fmo i j := fun b q h1 h2 => h b q (by omega) h2
theorem SV.fmo (h : SV t i) (hf : fmo i i') : SV t i' := h.congr (fun b j hb => hf b j (by omega) (by omega))
theorem KM.fz (h : KM i c) (hf : fz i i') : KM i' c := ⟨(hf _ _ (by omega)).trans h.1, fun k hk => ⟨(hf _ _ (by omega)).trans (h.2 k hk).1, fun q => (hf _ _ (by omega)).trans ((h.2 k hk).2 q)⟩⟩
theorem RS.fmk {s : Nat} (h : RS i n T s) (he : fmk i i') : RS i' n T s := by
  obtain ⟨⟨h1, h2⟩, q, h3, h4, h5⟩ := h
  exact ⟨⟨by rw [he _ _ (by omega) (by omega)]; exact h1, fun k hk => by rw [he _ _ (by omega) (by omega)]; exact h2 k hk⟩, q, h3, h4, by rw [he _ _ (by omega) (by omega)]; exact h5⟩
theorem m_emits0 (h : i 1638 16 = nI c.1) (hl : c.1 < 400) (x y : Int32) : Tt (f_Mo_emits i x y) (fun i' => i' 1638 16 = nI (c.1 + 1) ∧ i' 1639 (1315 + 2 * c.1) = x ∧ i' 1639 (1315 + 2 * c.1 + 1) = y ∧ (∀ k, k < 1315 + 2 * c.1 → i' 1639 k = i 1639 k) ∧ fmk i i') := by
  unfold f_Mo_emits
  have e1 : (1315 : Int32) + 2 * i 1638 16 = nI (1315 + 2 * c.1) := by rw [h, lit_nI 1315, lit_nI 2, mul_nI, nI_add]
  have e2 : ix (1315 + 2 * i 1638 16) = 1315 + 2 * c.1 := by rw [e1]; exact ix_nI (by omega)
  refine tt_grd e1 (by omega) (by decide) (tt_bnd ?_)
  rw [e2]
  have e3 : wr i 1639 (1315 + 2 * c.1) x 1638 16 = i 1638 16 := wr_a (by decide)
  have e4 : ((1315 : Int32) + 2 * i 1638 16) + 1 = nI (1315 + 2 * c.1 + 1) := by rw [e1, nI_1]
  have e5 : ix ((1315 + 2 * i 1638 16) + 1) = 1315 + 2 * c.1 + 1 := by rw [e4]; exact ix_nI (by omega)
  refine tt_grd (k := 1315 + 2 * c.1 + 1) (by rw [e3]; exact e4) (by omega) (by decide) (tt_bnd (tt_bnd ?_))
  rw [e3, e5]
  refine tt_some ⟨?_, ?_, ?_, fun k hk => ?_, fun b j h1 h2 => ?_⟩
  · rw [wr_s, wr_a (by decide), e3, h, nI_1]
  · rw [wr_a (by decide), wr_k (by omega), wr_s]
  · rw [wr_a (by decide), wr_s]
  · rw [wr_a (by decide), wr_k (by omega), wr_k (by omega)]
  · have a1 : wr (wr (wr i 1639 (1315 + 2 * c.1) x) 1639 (1315 + 2 * c.1 + 1) y) 1638 16 (wr (wr i 1639 (1315 + 2 * c.1) x) 1639 (1315 + 2 * c.1 + 1) y 1638 16 + 1) b j = wr (wr i 1639 (1315 + 2 * c.1) x) 1639 (1315 + 2 * c.1 + 1) y b j := if_neg h1
    have a2 : wr (wr i 1639 (1315 + 2 * c.1) x) 1639 (1315 + 2 * c.1 + 1) y b j = wr i 1639 (1315 + 2 * c.1) x b j := if_neg (by omega)
    have a3 : wr i 1639 (1315 + 2 * c.1) x b j = i b j := if_neg (by omega)
    rw [a1, a2, a3]
theorem m_emits (h : KM i c) (hl : c.1 < 400) {s x y : Int32} (hx : x = encC s) (hy : ¬ s < 0 → y = s) : Tt (f_Mo_emits i x y) (fun i' => KM i' (pu1 c s) ∧ fmk i i') := by
  refine tt_mono (m_emits0 h.1 hl x y) (fun i' hi => ⟨⟨hi.1, fun k hk => ?_⟩, hi.2.2.2.2⟩)
  obtain ⟨_, h2, h3, h4, _⟩ := hi
  have hk2 : k < c.1 + 1 := hk
  show i' 1639 (1315 + 2 * k) = encC (up1 c.2 c.1 s k) ∧ (¬ up1 c.2 c.1 s k < 0 → i' 1639 (1315 + 2 * k + 1) = up1 c.2 c.1 s k)
  by_cases e : k = c.1
  · rw [e, up1_s]; exact ⟨h2.trans hx, fun q => h3.trans (hy q)⟩
  · rw [up1_o e, h4 _ (by omega), h4 _ (by omega)]; exact h.2 k (by omega)
theorem m_wordOfPart (hS : SV t i) (hn : n ≤ 400) {s : Nat} (hs : s ≤ n) (h : LeS i n T s) : f_Mo_wordOfPart t i = some (if pAt n T s = 0 then -1 else nI (pAt n T s - 1)) := by
  unfold f_Mo_wordOfPart pAt
  rw [show f_Mo_isWord t i 128 = some (if wd n T 76 s = true then 1 else 0) from m_isWd hS hn 63 37 (by decide) (by decide) hs h, Option.bind_some]
  by_cases h1 : wd n T 76 s = true
  · rw [if_pos h1, if_pos h1, if_neg (show ¬ (1 : Int32) = 0 by decide)]; rfl
  rw [if_neg h1, if_neg h1, if_pos (show (0 : Int32) = 0 from rfl)]
  rw [show f_Mo_isWord t i 182 = some (if wd n T 78 s = true then 1 else 0) from m_isWd hS hn 90 38 (by decide) (by decide) hs h, Option.bind_some]
  by_cases h2 : wd n T 78 s = true
  · rw [if_pos h2, if_pos h2, if_neg (show ¬ (1 : Int32) = 0 by decide)]; rfl
  rw [if_neg h2, if_neg h2, if_pos (show (0 : Int32) = 0 from rfl)]
  rw [show f_Mo_isWord t i 140 = some (if wd n T 80 s = true then 1 else 0) from m_isWd hS hn 69 39 (by decide) (by decide) hs h, Option.bind_some]
  by_cases h3 : wd n T 80 s = true
  · rw [if_pos h3, if_pos h3, if_neg (show ¬ (1 : Int32) = 0 by decide)]; rfl
  rw [if_neg h3, if_neg h3, if_pos (show (0 : Int32) = 0 from rfl)]
  rw [show f_Mo_isWord t i 142 = some (if wd n T 82 s = true then 1 else 0) from m_isWd hS hn 70 40 (by decide) (by decide) hs h, Option.bind_some]
  by_cases h4 : wd n T 82 s = true
  · rw [if_pos h4, if_pos h4, if_neg (show ¬ (1 : Int32) = 0 by decide)]; rfl
  rw [if_neg h4, if_neg h4, if_pos (show (0 : Int32) = 0 from rfl)]
  rw [show f_Mo_isWord t i 162 = some (if wd n T 84 s = true then 1 else 0) from m_isWd hS hn 80 41 (by decide) (by decide) hs h, Option.bind_some]
  by_cases h5 : wd n T 84 s = true
  · rw [if_pos h5, if_pos h5, if_neg (show ¬ (1 : Int32) = 0 by decide)]; rfl
  rw [if_neg h5, if_neg h5, if_pos (show (0 : Int32) = 0 from rfl)]
  rw [show f_Mo_isWord t i 184 = some (if wd n T 86 s = true then 1 else 0) from m_isWd hS hn 91 42 (by decide) (by decide) hs h, Option.bind_some]
  by_cases h6 : wd n T 86 s = true
  · rw [if_pos h6, if_pos h6, if_neg (show ¬ (1 : Int32) = 0 by decide)]; rfl
  rw [if_neg h6, if_neg h6, if_pos (show (0 : Int32) = 0 from rfl)]
  rw [show f_Mo_isWord t i 164 = some (if wd n T 88 s = true then 1 else 0) from m_isWd hS hn 81 43 (by decide) (by decide) hs h, Option.bind_some]
  by_cases h7 : wd n T 88 s = true
  · rw [if_pos h7, if_pos h7, if_neg (show ¬ (1 : Int32) = 0 by decide)]; rfl
  rw [if_neg h7, if_neg h7, if_pos (show (0 : Int32) = 0 from rfl)]
  rfl
theorem enc7 : ∀ z, z < 8 → z ≠ 0 → encC (-nI z) = nI (z - 1) ∧ (-nI z : Int32) < 0 ∧ ¬ nI (z - 1) < 0 := by decide +kernel
theorem enc_nI {v : Nat} (h : v ≤ 999) : encC (nI v) = 10 ∧ ¬ nI v < 0 := by
  have e : ¬ nI v < 0 := nI_nlt (b := 0) (by omega) (by omega)
  exact ⟨if_neg e, e⟩
theorem m_readPart (hS : SV t i) (hn : n ≤ 400) {s : Nat} (h : RS i n T s) (hc : KM i c) (hl : c.1 < 400) : Tt (f_Mo_readPart t i) (MRz n T i (rPart n T s c)) := by
  have hs := h.tks
  unfold f_Mo_readPart rPart
  refine tt_bind (m_letters hn h) ?_
  rintro i1 ⟨b1, b2⟩
  by_cases hL : le n T s = s
  · have p0 : pAt n T s = 0 := by
      by_cases q : pAt n T s = 0
      · exact q
      · have := (pAt_le (n := n) (T := T) s).2 q
        have hw := wd_le this
        have := (wln_lt (36 + pAt n T s) (by have := (pAt_le (n := n) (T := T) s).1; omega)).1
        omega
    rw [if_pos (show i1 1638 10 = i1 1638 12 by rw [b1.2.1, b1.2.2, hL]), Option.bind_some, if_neg (show ¬ (1 : Int32) = 0 by decide), if_pos p0]
    have hr : RS i1 n T s := ⟨b1.1, s, hs.1, hs.2, by rw [b1.2.2, hL]⟩
    refine tt_bind (tt_bind (m_number hn (lo := 0) (hi := 999) (by decide) (by decide) hr) (fun y hy => tt_some (P := fun (y : Int32 × MI) => ((∃ v q, nmb n T 0 999 s = .inr (v, q) ∧ tks n T q ∧ 0 ≤ v ∧ v ≤ 999 ∧ y.1 = nI v ∧ RS y.2 n T q) ∨ (nmb n T 0 999 s = .inl s ∧ y.1 = -1)) ∧ y.2 1638 12 = nI s ∧ fz i1 y.2) hy)) ?_
    rintro ⟨v, i2⟩ ⟨hy, d2, d3⟩
    dsimp only at hy d2 d3 ⊢
    rw [if_neg (show ¬ (1 : Int32) = 0 by decide), Option.bind_some, if_neg (show ¬ (1 : Int32) = 0 by decide), Option.bind_some]
    have F := b2.trans d3
    rcases hy with ⟨w, q, a1, a2, a3, a4, rfl, a6⟩ | ⟨a1, rfl⟩
    · rw [a1]
      obtain ⟨e1, e2⟩ := enc_nI a4
      refine tt_bind (m_emits (hc.fz F) hl (s := nI w) e1.symm (fun _ => rfl)) (fun i3 h3 => ?_)
      rw [if_neg e2]
      exact tt_some ⟨⟨rfl, a6.fmk h3.2, h3.1, (h3.2 1638 13 (by omega) (by omega)).trans (F 1638 13 (by omega))⟩, F.fmo.trans h3.2.fmo⟩
    · rw [a1]
      refine tt_bind (m_emits0 (hc.fz F).1 hl 10 (-1)) (fun i3 h3 => ?_)
      rw [if_pos (by decide)]
      exact tt_some ⟨⟨rfl, (h3.2.2.2.2 1638 12 (by omega) (by omega)).trans d2⟩, F.fmo.trans h3.2.2.2.2.fmo⟩
  · have hle := le_b (n := n) (T := T) hs.1
    rw [if_neg (show ¬ i1 1638 10 = i1 1638 12 by rw [b1.2.1, b1.2.2]; exact fun q => hL ((nI_inj (by omega) (by omega)).mp q)), Option.bind_some, if_pos (show (0 : Int32) = 0 from rfl), m_wordOfPart (hS.fmo b2.fmo) hn hs.1 b1, Option.bind_some, Option.bind_some]
    dsimp only
    rw [if_pos (show (0 : Int32) = 0 from rfl), Option.bind_some, if_pos (show (0 : Int32) = 0 from rfl), Option.bind_some]
    by_cases p0 : pAt n T s = 0
    · rw [if_pos p0, if_pos p0]
      have hd : de n T s = s := by
        have h1 := (le_gt (n := n) (T := T) hs.1).mp (by omega)
        have h2 := de_b (n := n) (T := T) hs.1
        by_cases q : s < de n T s
        · have := ((de_gt (n := n) (T := T) hs.1).mp q).2
          omega
        · omega
      rw [nmb_inl (Or.inl hd)]
      refine tt_bind (m_emits0 (hc.fz b2).1 hl (-1) 0) (fun i3 h3 => ?_)
      rw [if_pos (by decide)]
      exact tt_some ⟨⟨rfl, (h3.2.2.2.2 1638 12 (by omega) (by omega)).trans b1.2.1⟩, b2.fmo.trans h3.2.2.2.2.fmo⟩
    · rw [if_neg p0, if_neg p0]
      obtain ⟨e1, e2, e3⟩ := enc7 (pAt n T s) (by have := (pAt_le (n := n) (T := T) s).1; omega) p0
      refine tt_bind (m_emits (hc.fz b2) hl (s := -nI (pAt n T s)) e1.symm (fun q => absurd e2 q)) (fun i3 h3 => ?_)
      rw [if_neg e3]
      exact tt_some ⟨⟨rfl, (b1.rs hs.1).fmk h3.2, h3.1, (h3.2 1638 13 (by omega) (by omega)).trans (b2 1638 13 (by omega))⟩, b2.fmo.trans h3.2.fmo⟩
end LAWW
