/-! ===== a law's text: the reference's chains ===== -/
def bChM (tst rd : MI → Option (Int32 × MI)) (op : Int32) (i : MI) : Option (Int32 × MI) := (rd i).bind (fun (v_1, i_2) => if v_1 = 0 then (some ((0 : Int32), i_2)) else (itr (σ := MI) (ρ := Int32 × MI) (fun i_5 => (tst i_5).bind (fun (v_6, i_7) => if v_6 = 0 then (some (.inr (((1 : Int32), i_7)))) else ((rd i_7).bind (fun (v_10, i_11) => if v_10 = 0 then (some (.inr (((0 : Int32), i_11)))) else ((f_Mo_emits i_11 op (0 : Int32)).bind (fun i_14 => some (.inl i_14))))))) 1000000 i_2))
def RDM (t : MT) (n : Nat) (T : Nat → Int32) (d : Nat) (g : MI → Option (Int32 × MI)) (f : Nat → Cd → Rz) : Prop := ∀ i s c, SV t i → RS i n T s → KM i c → c.1 + 2 ≤ s → i 1638 13 = nI d → Tt (g i) (MRz n T i (f s c))
def TMt (t : MT) (n : Nat) (T : Nat → Int32) (tst : MI → Option (Int32 × MI)) (b : Nat → Bool) (nx : Nat → Nat) : Prop := ∀ i s, SV t i → RS i n T s → Tt (tst i) (fun y => y.1 = (if b s = true then 1 else 0) ∧ RS y.2 n T (if b s = true then nx s else s) ∧ fz i y.2)
section LAWV
variable {t : MT} {i i' : MI} {n : Nat} {T : Nat → Int32} {c : Cd}
theorem m_chain (hn : n ≤ 400) {d : Nat} {tst rd : MI → Option (Int32 × MI)} {b : Nat → Bool} {nx : Nat → Nat} {f : Nat → Cd → Rz} {op opc : Int32} {B : Bool} (ht : TMt t n T tst b nx) (hr : RDM t n T d rd f) (hg : GR n T B 0 f) (hnx : ∀ s, tks n T s → b s = true → s < nx s ∧ tks n T (nx s)) (hop : op = encC opc) (hop2 : opc < 0) : RDM t n T d (bChM tst rd op) (chf n b nx f opc) := by
  intro i s c hS hs hc hl hd
  have hk := hs.tks
  unfold bChM
  refine tt_bind (hr i s c hS hs hc hl hd) ?_
  rintro ⟨v, i1⟩ ⟨hy, hf⟩
  cases hx : f s c with
  | inl e =>
    rw [hx] at hy
    obtain ⟨a1, a2⟩ := hy
    dsimp only at a1 a2 hf
    subst a1
    refine tt_some ?_
    show MRz n T i (chf n b nx f opc s c) _
    unfold chf
    rw [hx]
    exact ⟨⟨rfl, a2⟩, hf⟩
  | inr q =>
    rw [hx] at hy
    obtain ⟨a1, a2, a3, a4⟩ := hy
    dsimp only at a1 a2 a3 a4 hf
    subst a1
    obtain ⟨g1, g2, g3⟩ := GR_at hg hk hx
    have e1 := g2.2.1
    have e2 := g2.1
    dsimp only
    rw [if_neg (show ¬ (1 : Int32) = 0 by decide)]
    refine tt_loop (fun j i2 => ∃ m p c1, chn b nx f opc m p c1 = chf n b nx f opc s c ∧ n - p ≤ m ∧ j ≤ p ∧ RS i2 n T p ∧ KM i2 c1 ∧ fmo i i2 ∧ i2 1638 13 = nI d ∧ c1.1 + 2 ≤ p) (n + 1) (by omega) (fun j hj i2 hi => ?_) (fun i2 hi => ?_) ⟨n, q.1, q.2, by unfold chf; rw [hx], by omega, by omega, a2, a3, hf, a4.trans hd, by omega⟩
    · obtain ⟨m, p, c1, h1, h2, h3, h4, h5, h6, h7, h8⟩ := hi
      refine tt_bind (ht i2 p (hS.fmo h6) h4) ?_
      rintro ⟨v, i3⟩ ⟨b1, b2, b3⟩
      dsimp only at b1 b2 b3 ⊢
      subst b1
      by_cases hb : b p = true
      · rw [if_pos hb] at b2
        rw [if_pos hb, if_neg (show ¬ (1 : Int32) = 0 by decide)]
        obtain ⟨x1, x2⟩ := hnx p h4.tks hb
        have hp2 : p < n := by have := x2.1; omega
        have F := h6.trans b3.fmo
        refine tt_bind (hr i3 (nx p) c1 (hS.fmo F) b2 (h5.fz b3) (by omega) ((b3 1638 13 (by omega)).trans h7)) ?_
        rintro ⟨w, i4⟩ ⟨hy, hf4⟩
        cases hx2 : f (nx p) c1 with
        | inl e =>
          rw [hx2] at hy
          obtain ⟨y1, y2⟩ := hy
          dsimp only at y1 y2 hf4
          subst y1
          refine tt_some ?_
          show MRz n T i (chf n b nx f opc s c) _
          rw [← h1, chn_err hb h2 hp2 hx2]
          exact ⟨⟨rfl, y2⟩, F.trans hf4⟩
        | inr q2 =>
          rw [hx2] at hy
          obtain ⟨y1, y2, y3, y4⟩ := hy
          dsimp only at y1 y2 y3 y4 hf4
          subst y1
          obtain ⟨k1, k2, k3⟩ := GR_at hg x2 hx2
          have e3 := k2.2.1
          have e4 := k2.1
          have e5 := k1.1
          dsimp only
          rw [if_neg (show ¬ (1 : Int32) = 0 by decide)]
          refine tt_bind (m_emits y3 (by omega) hop (fun q => absurd hop2 q)) (fun i5 h5 => ?_)
          obtain ⟨m', z1, z2⟩ := chn_in (op := opc) hb h2 hp2 (Nat.lt_trans x1 k2.1) hx2
          exact tt_some ⟨m', q2.1, pu1 q2.2 opc, z1.trans h1, z2, by omega, y2.fmk h5.2, h5.1, (F.trans hf4).trans h5.2.fmo, (h5.2 1638 13 (by omega) (by omega)).trans (y4.trans ((b3 1638 13 (by omega)).trans h7)), by show q2.2.1 + 1 + 2 ≤ q2.1; omega⟩
      · rw [if_neg hb] at b2
        rw [if_neg hb, if_pos (show (0 : Int32) = 0 from rfl)]
        refine tt_some ?_
        show MRz n T i (chf n b nx f opc s c) _
        rw [← h1, chn_end hb]
        exact ⟨⟨rfl, b2, h5.fz b3, ((b3 1638 13 (by omega)).trans h7).trans hd.symm⟩, h6.trans b3.fmo⟩
    · obtain ⟨m, p, c1, h1, h2, h3, h4, h5, h6, h7, h8⟩ := hi
      have := h4.tks.1
      omega
theorem t_sign (hn : n ≤ 400) (x : Int32) : TMt t n T (fun i => f_Mo_sign i x) (sgn n T x) (fun s => sp n T (s + 1)) := fun i s hS hs => tt_mono (m_sign hn hs x) (fun y hy => ⟨hy.1, hy.2.1, hy.2.2.2⟩)
theorem t_pass (hn : n ≤ 400) (k k' : Nat) (hk : k < 94) (he : wch (2 * k + 2) = wch (2 * k' + 2)) : TMt t n T (fun i => f_Mo_passes t i (2 * k + 2)) (wd n T (2 * k' + 2)) (nw n T) := fun i s hS hs => by
  refine tt_mono (m_passes hS hn hk hs) (fun y hy => ?_)
  rw [wd_eqw he] at hy
  exact ⟨hy.1, hy.2.1, hy.2.2.2⟩
theorem m_readSum (hn : n ≤ 400) {d : Nat} : RDM t n T d (fun i => f_Mo_readSum t i) (rSum n T) :=
  m_chain (rd := fun i => f_Mo_readPart t i) hn (t_sign hn 43) (fun i s c hS hs hc hl hd => m_readPart hS hn hs hc (by have := hs.tks.1; omega)) (GR_part (by decide)) (fun s hs h => sgn_lt h) (op := 11) (opc := -12) (by decide) (by decide)
theorem m_readTag (hS : SV t i) (hn : n ≤ 400) {s : Nat} (h : RS i n T s) (hc : KM i c) (hl : c.1 + 2 ≤ s) : Tt (f_Mo_readTag t i) (fun y => (y.1 = 0 ∧ ¬ wd n T 70 s = true ∧ ¬ wd n T 72 s = true ∧ ¬ wd n T 74 s = true ∧ RS y.2 n T s ∧ fz i y.2) ∨ (y.1 = 1 ∧ (∃ x, ((wd n T 70 s = true ∧ x = -8) ∨ (¬ wd n T 70 s = true ∧ wd n T 72 s = true ∧ x = -9) ∨ (¬ wd n T 70 s = true ∧ ¬ wd n T 72 s = true ∧ wd n T 74 s = true ∧ x = -10)) ∧ RS y.2 n T (nw n T s) ∧ KM y.2 (pu1 c x)) ∧ y.2 1638 13 = i 1638 13 ∧ fmo i y.2)) := by
  have hs := h.tks
  have hs1 := hs.1
  unfold f_Mo_readTag
  refine tt_bind (m_letters hn h) ?_
  rintro i1 ⟨b1, b2⟩
  have S1 := hS.fmo b2.fmo
  rw [show f_Mo_isWord t i1 176 = some (if wd n T 70 s = true then 1 else 0) from m_isWd S1 hn 87 34 (by decide) (by decide) hs1 b1, Option.bind_some]
  rw [show f_Mo_isWord t i1 178 = some (if wd n T 72 s = true then 1 else 0) from m_isWd S1 hn 88 35 (by decide) (by decide) hs1 b1, Option.bind_some]
  rw [show f_Mo_isWord t i1 180 = some (if wd n T 74 s = true then 1 else 0) from m_isWd S1 hn 89 36 (by decide) (by decide) hs1 b1, Option.bind_some]
  have fin : ∀ x y : Int32, y = encC x → x < 0 → ¬ y < 0 → Tt ((if y < 0 then (bnd (wr i1 1638 10 (i1 1638 12)) (fun i_14 => some i_14)) else ((f_Mo_emits i1 y 0).bind (fun i_16 => some i_16)) : Option (MI)).bind (fun i_12 => if y < 0 then (some ((0 : Int32), i_12)) else (some ((1 : Int32), i_12)))) (fun z => z.1 = 1 ∧ RS z.2 n T (nw n T s) ∧ KM z.2 (pu1 c x) ∧ z.2 1638 13 = i 1638 13 ∧ fmo i z.2) := fun x y e1 e2 e3 => by
    rw [if_neg e3]
    refine tt_bind (tt_bind (m_emits (hc.fz b2) (by omega) e1 (fun q => absurd e2 q)) (fun i3 h3 => tt_some (P := fun i3 => KM i3 (pu1 c x) ∧ fmk i1 i3) h3)) (fun i3 h3 => ?_)
    rw [if_neg e3]
    exact tt_some ⟨rfl, (b1.rs hs1).fmk h3.2, h3.1, (h3.2 1638 13 (by omega) (by omega)).trans (b2 1638 13 (by omega)), b2.fmo.trans h3.2.fmo⟩
  by_cases h70 : wd n T 70 s = true
  · rw [if_pos h70, if_neg (show ¬ (1 : Int32) = 0 by decide), Option.bind_some]
    exact tt_mono (fin (-8) 7 (by decide) (by decide) (by decide)) (fun z hz => Or.inr ⟨hz.1, ⟨-8, Or.inl ⟨h70, rfl⟩, hz.2.1, hz.2.2.1⟩, hz.2.2.2.1, hz.2.2.2.2⟩)
  rw [if_neg h70, if_pos (show (0 : Int32) = 0 from rfl)]
  by_cases h72 : wd n T 72 s = true
  · rw [if_pos h72, if_neg (show ¬ (1 : Int32) = 0 by decide), Option.bind_some]
    exact tt_mono (fin (-9) 8 (by decide) (by decide) (by decide)) (fun z hz => Or.inr ⟨hz.1, ⟨-9, Or.inr (Or.inl ⟨h70, h72, rfl⟩), hz.2.1, hz.2.2.1⟩, hz.2.2.2.1, hz.2.2.2.2⟩)
  rw [if_neg h72, if_pos (show (0 : Int32) = 0 from rfl)]
  by_cases h74 : wd n T 74 s = true
  · rw [if_pos h74, if_neg (show ¬ (1 : Int32) = 0 by decide), Option.bind_some]
    exact tt_mono (fin (-10) 9 (by decide) (by decide) (by decide)) (fun z hz => Or.inr ⟨hz.1, ⟨-10, Or.inr (Or.inr ⟨h70, h72, h74, rfl⟩), hz.2.1, hz.2.2.1⟩, hz.2.2.2.1, hz.2.2.2.2⟩)
  rw [if_neg h74, if_pos (show (0 : Int32) = 0 from rfl), Option.bind_some, if_pos (show (-1 : Int32) < 0 by decide)]
  dsimp only [bnd]
  rw [Option.bind_some, if_pos (show (-1 : Int32) < 0 by decide)]
  refine tt_some (Or.inl ⟨rfl, h70, h72, h74, ⟨⟨?_, fun k hk => ?_⟩, s, hs1, hs.2, ?_⟩, fz_w b2 (Or.inl rfl) _⟩)
  · show wr i1 1638 10 (i1 1638 12) 1638 11 = nI n
    rw [wr_k (by decide)]; exact b1.1.1
  · show wr i1 1638 10 (i1 1638 12) 1644 k = T k
    rw [wr_a (by decide)]; exact b1.1.2 k hk
  · show wr i1 1638 10 (i1 1638 12) 1638 10 = nI s
    rw [wr_s]; exact b1.2.1
end LAWV
