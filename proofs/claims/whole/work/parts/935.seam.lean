/-! ===== the lines of the waters: the reference ===== -/
def bhd (n : Nat) (T : Nat → Int32) (w lo hi s : Nat) : Nat ⊕ (Nat × Nat) := bd (nwd n T w s) (fun _ s2 => nmb n T lo hi s2)
theorem bhd_bd {n : Nat} {T : Nat → Int32} {w lo hi s : Nat} {β : Type} {f : Nat → Nat → Nat ⊕ β} : bd (nwd n T w s) (fun _ s2 => bd (nmb n T lo hi s2) f) = bd (bhd n T w lo hi s) f := by
  unfold bhd
  cases nwd n T w s with
  | inl e => rfl
  | inr p => rfl
section SEAM
variable {t : MT} {i : MI} {n : Nat} {T : Nat → Int32} {S : SS}
def gx (i i' : MI) : Prop := ∀ b j, ¬ (b = 1638 ∧ (j = 10 ∨ j = 12)) → ¬ (b = 1639 ∧ j < 417 ∧ j ≠ 5) → i' b j = i b j
theorem fz.gx {i i' : MI} (h : fz i i') : gx i i' := fun b j hb _ => h b j hb
theorem gx.trans {i j k : MI} (h : gx i j) (h2 : gx j k) : gx i k := fun b q h1 hb => (h2 b q h1 hb).trans (h b q h1 hb)
theorem gx.w {i j : MI} (h : gx i j) {k : Nat} (hk : k < 417 ∧ k ≠ 5) (v : Int32) : gx i (wr j 1639 k v) := fun b q h1 h2 => by
  have : wr j 1639 k v b q = j b q := if_neg (fun e => h2 ⟨e.1, by omega⟩)
  rw [this]; exact h b q h1 h2
theorem gx.w8 {i j : MI} (h : gx i j) {k : Nat} (hk : k = 10 ∨ k = 12) (v : Int32) : gx i (wr j 1638 k v) := fun b q h1 h2 => by
  have : wr j 1638 k v b q = j b q := if_neg (by omega)
  rw [this]; exact h b q h1 h2
theorem SV.gx {i' : MI} (h : SV t i) (he : gx i i') : SV t i' := h.congr (fun b j hb => he b j (by omega) (by omega))
theorem RX.gx {i' : MI} (h : RX i n T) (he : gx i i') : RX i' n T := ⟨by rw [he _ _ (by omega) (by omega)]; exact h.1, fun k hk => by rw [he _ _ (by omega) (by omega)]; exact h.2 k hk⟩
theorem RS.w {s : Nat} (h : RS i n T s) (k : Nat) (v : Int32) : RS (wr i 1639 k v) n T s := by
  obtain ⟨⟨h1, h2⟩, q, h3, h4, h5⟩ := h
  exact ⟨⟨by rw [wr_a (by decide)]; exact h1, fun k hk => by rw [wr_a (by decide)]; exact h2 k hk⟩, q, h3, h4, by rw [wr_a (by decide)]; exact h5⟩
theorem MV.fz {i' : MI} (h : MV i S) (he : fz i i') : MV i' S := h.congr (fun k => he 1639 k (by omega))
def MPl (n : Nat) (T : Nat → Int32) (i : MI) (x : Nat ⊕ (SS × Nat)) (y : Int32 × MI) : Prop := gx i y.2 ∧ match x with
  | .inl e => (y.1 = 0 ∧ y.2 1638 12 = nI e) ∨ (y.1 = 1 ∧ RS y.2 n T e ∧ ¬ e = n ∧ ¬ sgn n T 59 e = true)
  | .inr (S', q) => y.1 = 1 ∧ Wf S' ∧ MV y.2 S' ∧ RS y.2 n T q
theorem m_isWd (hS : SV t i) (hn : n ≤ 400) (k k' : Nat) {s : Nat} (hk : k < 94) (he : wch (2 * k + 2) = wch (2 * k' + 2)) (hs : s ≤ n) (h : LeS i n T s) : f_Mo_isWord t i (2 * k + 2) = some (if wd n T (2 * k' + 2) s = true then 1 else 0) := by
  rw [m_isWord hS hn hk hs h, wd_eqw he]
theorem m_kindR (hS : SV t i) (hn : n ≤ 400) {s : Nat} (h : RS i n T s) : Tt (f_Mo_wordOfKind t i) (fun y => y.1 = (if kd n T s < 4 then nI (kd n T s) else -1) ∧ LeS y.2 n T s ∧ fz i y.2) := by
  have hs := h.tks
  unfold f_Mo_wordOfKind
  refine tt_bind (m_letters hn h) ?_
  rintro i1 ⟨a1, a2⟩
  have hS1 : SV t i1 := hS.congr (fun b j hb => a2 b j (by omega))
  have w0 : f_Mo_isWord t i1 130 = some (if wd n T (18 + 2 * 0) s = true then 1 else 0) := m_isWd hS1 hn 64 8 (by decide) (by decide) hs.1 a1
  have w1 : f_Mo_isWord t i1 132 = some (if wd n T (18 + 2 * 1) s = true then 1 else 0) := m_isWd hS1 hn 65 9 (by decide) (by decide) hs.1 a1
  have w2 : f_Mo_isWord t i1 134 = some (if wd n T (18 + 2 * 2) s = true then 1 else 0) := m_isWd hS1 hn 66 10 (by decide) (by decide) hs.1 a1
  have w3 : f_Mo_isWord t i1 136 = some (if wd n T (18 + 2 * 3) s = true then 1 else 0) := m_isWd hS1 hn 67 11 (by decide) (by decide) hs.1 a1
  rw [w0, Option.bind_some]
  by_cases c0 : wd n T (18 + 2 * 0) s = true
  · rw [if_pos c0, if_neg (show ¬ (1 : Int32) = 0 by decide), kd_at (by decide) c0]
    exact tt_some ⟨rfl, a1, a2⟩
  rw [if_neg c0, if_pos (show (0 : Int32) = 0 from rfl), w1, Option.bind_some]
  by_cases c1 : wd n T (18 + 2 * 1) s = true
  · rw [if_pos c1, if_neg (show ¬ (1 : Int32) = 0 by decide), kd_at (by decide) c1]
    exact tt_some ⟨rfl, a1, a2⟩
  rw [if_neg c1, if_pos (show (0 : Int32) = 0 from rfl), w2, Option.bind_some]
  by_cases c2 : wd n T (18 + 2 * 2) s = true
  · rw [if_pos c2, if_neg (show ¬ (1 : Int32) = 0 by decide), kd_at (by decide) c2]
    exact tt_some ⟨rfl, a1, a2⟩
  rw [if_neg c2, if_pos (show (0 : Int32) = 0 from rfl), w3, Option.bind_some]
  by_cases c3 : wd n T (18 + 2 * 3) s = true
  · rw [if_pos c3, if_neg (show ¬ (1 : Int32) = 0 by decide), kd_at (by decide) c3]
    exact tt_some ⟨rfl, a1, a2⟩
  rw [if_neg c3, if_pos (show (0 : Int32) = 0 from rfl)]
  have hk : kd n T s = 4 := ffs_eq 4 0 4 (fun f _ hf => Bool.eq_false_iff.mpr (by
    rcases (by omega : f = 0 ∨ f = 1 ∨ f = 2 ∨ f = 3) with rfl | rfl | rfl | rfl
    · exact c0
    · exact c1
    · exact c2
    · exact c3)) (by omega) (by omega) (fun q => by omega)
  rw [hk, if_neg (by omega)]
  exact tt_some ⟨rfl, a1, a2⟩
theorem m_wayR (hS : SV t i) (hn : n ≤ 400) {s : Nat} (h : RS i n T s) : Tt (f_Mo_wordOfWay t i) (fun y => y.1 = (if wy n T s < 5 then nI (wy n T s) else -1) ∧ LeS y.2 n T s ∧ fz i y.2) := by
  have hs := h.tks
  unfold f_Mo_wordOfWay
  refine tt_bind (m_letters hn h) ?_
  rintro i1 ⟨a1, a2⟩
  have hS1 : SV t i1 := hS.congr (fun b j hb => a2 b j (by omega))
  have w0 : f_Mo_isWord t i1 118 = some (if wd n T (6 + 2 * 0) s = true then 1 else 0) := m_isWd hS1 hn 58 2 (by decide) (by decide) hs.1 a1
  have w1 : f_Mo_isWord t i1 120 = some (if wd n T (6 + 2 * 1) s = true then 1 else 0) := m_isWd hS1 hn 59 3 (by decide) (by decide) hs.1 a1
  have w2 : f_Mo_isWord t i1 122 = some (if wd n T (6 + 2 * 2) s = true then 1 else 0) := m_isWd hS1 hn 60 4 (by decide) (by decide) hs.1 a1
  have w3 : f_Mo_isWord t i1 124 = some (if wd n T (6 + 2 * 3) s = true then 1 else 0) := m_isWd hS1 hn 61 5 (by decide) (by decide) hs.1 a1
  have w4 : f_Mo_isWord t i1 126 = some (if wd n T (6 + 2 * 4) s = true then 1 else 0) := m_isWd hS1 hn 62 6 (by decide) (by decide) hs.1 a1
  have hat : ∀ j, j < 5 → wd n T (6 + 2 * j) s = true → (∀ f, f < j → ¬ wd n T (6 + 2 * f) s = true) → wy n T s = j := fun j hj h1 h2 => ffs_eq 5 0 j (fun f _ hf => Bool.eq_false_iff.mpr (h2 f hf)) (Nat.zero_le _) (by omega) (fun _ => h1)
  rw [w0, Option.bind_some]
  by_cases c0 : wd n T (6 + 2 * 0) s = true
  · rw [if_pos c0, if_neg (show ¬ (1 : Int32) = 0 by decide), hat 0 (by decide) c0 (fun f hf => by omega)]
    exact tt_some ⟨rfl, a1, a2⟩
  rw [if_neg c0, if_pos (show (0 : Int32) = 0 from rfl), w1, Option.bind_some]
  by_cases c1 : wd n T (6 + 2 * 1) s = true
  · rw [if_pos c1, if_neg (show ¬ (1 : Int32) = 0 by decide), hat 1 (by decide) c1 (fun f hf => by rw [show f = 0 by omega]; exact c0)]
    exact tt_some ⟨rfl, a1, a2⟩
  rw [if_neg c1, if_pos (show (0 : Int32) = 0 from rfl), w2, Option.bind_some]
  by_cases c2 : wd n T (6 + 2 * 2) s = true
  · rw [if_pos c2, if_neg (show ¬ (1 : Int32) = 0 by decide), hat 2 (by decide) c2 (fun f hf => by
      rcases (by omega : f = 0 ∨ f = 1) with rfl | rfl
      · exact c0
      · exact c1)]
    exact tt_some ⟨rfl, a1, a2⟩
  rw [if_neg c2, if_pos (show (0 : Int32) = 0 from rfl), w3, Option.bind_some]
  by_cases c3 : wd n T (6 + 2 * 3) s = true
  · rw [if_pos c3, if_neg (show ¬ (1 : Int32) = 0 by decide), hat 3 (by decide) c3 (fun f hf => by
      rcases (by omega : f = 0 ∨ f = 1 ∨ f = 2) with rfl | rfl | rfl
      · exact c0
      · exact c1
      · exact c2)]
    exact tt_some ⟨rfl, a1, a2⟩
  rw [if_neg c3, if_pos (show (0 : Int32) = 0 from rfl), w4, Option.bind_some]
  by_cases c4 : wd n T (6 + 2 * 4) s = true
  · rw [if_pos c4, if_neg (show ¬ (1 : Int32) = 0 by decide), hat 4 (by decide) c4 (fun f hf => by
      rcases (by omega : f = 0 ∨ f = 1 ∨ f = 2 ∨ f = 3) with rfl | rfl | rfl | rfl
      · exact c0
      · exact c1
      · exact c2
      · exact c3)]
    exact tt_some ⟨rfl, a1, a2⟩
  rw [if_neg c4, if_pos (show (0 : Int32) = 0 from rfl)]
  have hk : wy n T s = 5 := ffs_eq 5 0 5 (fun f _ hf => Bool.eq_false_iff.mpr (by
    rcases (by omega : f = 0 ∨ f = 1 ∨ f = 2 ∨ f = 3 ∨ f = 4) with rfl | rfl | rfl | rfl | rfl
    · exact c0
    · exact c1
    · exact c2
    · exact c3
    · exact c4)) (by omega) (by omega) (fun q => by omega)
  rw [hk, if_neg (by omega)]
  exact tt_some ⟨rfl, a1, a2⟩
theorem m_behind (hS : SV t i) (hn : n ≤ 400) (k k' : Nat) {s lo hi : Nat} (hk : k < 94) (he : wch (2 * k + 2) = wch (2 * k' + 2)) (hlo : lo < 2 ^ 31) (hhi : hi < 2 ^ 31) (h : RS i n T s) : Tt (f_Mo_behind t i (2 * k + 2) (nI lo) (nI hi)) (fun y => ((∃ v q, bhd n T (2 * k' + 2) lo hi s = .inr (v, q) ∧ lo ≤ v ∧ v ≤ hi ∧ y.1 = nI v ∧ RS y.2 n T q) ∨ (∃ e, bhd n T (2 * k' + 2) lo hi s = .inl e ∧ y.1 = -1 ∧ y.2 1638 12 = nI e)) ∧ fz i y.2) := by
  have hs := h.tks
  unfold f_Mo_behind bhd nwd
  refine tt_bind (m_letters hn h) ?_
  rintro i1 ⟨a1, a2⟩
  have hS1 : SV t i1 := hS.congr (fun b j hb => a2 b j (by omega))
  rw [m_isWd hS1 hn k k' hk he hs.1 a1, Option.bind_some]
  by_cases c : wd n T (2 * k' + 2) s = true
  · rw [if_pos c, if_neg (show ¬ (1 : Int32) = 0 by decide), if_pos c, bd_r]
    refine tt_bind (m_number hn hlo hhi (a1.rs hs.1)) ?_
    rintro ⟨v, i2⟩ ⟨hx, b2, b3⟩
    dsimp only at hx b2 b3 ⊢
    rcases hx with ⟨v', q, e1, -, e3, e4, rfl, e6⟩ | ⟨e1, rfl⟩
    · exact tt_some ⟨Or.inl ⟨v', q, e1, e3, e4, rfl, e6⟩, a2.trans b3⟩
    · exact tt_some ⟨Or.inr ⟨_, e1, rfl, b2⟩, a2.trans b3⟩
  · rw [if_neg c, if_pos (show (0 : Int32) = 0 from rfl), if_neg c, bd_l]
    exact tt_some ⟨Or.inr ⟨s, rfl, rfl, a1.2.1⟩, a2⟩
theorem m_toldN (hS : SV t i) (hn : n ≤ 400) (k k' : Nat) {s hi : Nat} (hk : k < 94) (he : wch (2 * k + 2) = wch (2 * k' + 2)) (hhi : hi < 1000) (dv : Int32) (h : RS i n T s) : Tt (f_Mo_told t i (2 * k + 2) (nI hi) dv) (fun y => ((∃ v q, tno n T (2 * k' + 2) hi dv s = .inr (v, q) ∧ (v = dv ∨ ∃ m, m ≤ hi ∧ v = nI m) ∧ y.1 = v ∧ RS y.2 n T q) ∨ (∃ e, tno n T (2 * k' + 2) hi dv s = .inl e ∧ y.1 = 1000000 ∧ y.2 1638 12 = nI e)) ∧ fz i y.2) := by
  have hs := h.tks
  unfold f_Mo_told tno
  refine tt_bind (m_passes hS hn hk h) ?_
  rintro ⟨v, i1⟩ ⟨a1, a2, a3, a4⟩
  dsimp only at a1 a2 a3 a4 ⊢
  subst a1
  rw [wd_eqw he] at a2 ⊢
  by_cases c : wd n T (2 * k' + 2) s = true
  · rw [if_pos c] at a2
    rw [if_pos c, if_neg (show ¬ (1 : Int32) = 0 by decide), if_pos c]
    refine tt_bind (m_number hn (lo := 0) (by decide) (by omega) a2) ?_
    rintro ⟨v, i2⟩ ⟨hx, b2, b3⟩
    dsimp only at hx b2 b3 ⊢
    rcases hx with ⟨v', q, e1, -, e3, e4, rfl, e6⟩ | ⟨e1, rfl⟩
    · rw [e1, bd_r, if_neg (nI_pos (by omega))]
      exact tt_some ⟨Or.inl ⟨nI v', q, rfl, Or.inr ⟨v', e4, rfl⟩, rfl, e6⟩, a4.trans b3⟩
    · rw [e1, bd_l, if_pos (show (-1 : Int32) < 0 by decide)]
      exact tt_some ⟨Or.inr ⟨_, rfl, rfl, b2⟩, a4.trans b3⟩
  · rw [if_neg c] at a2
    rw [if_neg c, if_pos (show (0 : Int32) = 0 from rfl), if_neg c]
    exact tt_some ⟨Or.inl ⟨dv, s, rfl, Or.inl rfl, rfl, a2⟩, a4⟩
theorem big_no {v : Int32} {m : Nat} (hm : m < 1000) (h : v = nI m) : ¬ v = 1000000 := fun q => by
  rw [h] at q
  have := (nI_inj (a := m) (b := 1000000) (by omega) (by decide)).mp q
  omega
theorem sfi_eq (k z c f : Int32) : sfi S k z c f = su (su (su (su (su (su S 2 (nf S) 0 k) 2 (nf S) 1 z) 2 (nf S) 2 f) 2 (nf S) 3 0) 2 (nf S) 4 c) 0 0 0 (nI (nf S + 1)) := by
  funext x y w
  unfold sfi sad sa0 su
  by_cases a : x = 2 ∧ y = nf S ∧ w = 2
  · obtain ⟨rfl, rfl, rfl⟩ := a; simp
  · simp only [if_neg a]
theorem m_isFishF (hc : Cnt S) (h : MV i S) (h8 : nf S < 8) (k c z f : Int32) : Tt (f_Mo_isFish i k c z f) (fun i' => MV i' (sfi S k z c f) ∧ ∀ b j, ¬ (b = 1639 ∧ j < 417 ∧ j ≠ 5) → i' b j = i b j) := by
  have a0 : f_Mo_fishAt (nI (nf S)) 0 = some (nI (36 + 5 * nf S + 0)) := mfa _ 0
  have a1 : f_Mo_fishAt (nI (nf S)) 1 = some (nI (36 + 5 * nf S + 1)) := mfa _ 1
  have a2 : f_Mo_fishAt (nI (nf S)) 2 = some (nI (36 + 5 * nf S + 2)) := mfa _ 2
  have a3 : f_Mo_fishAt (nI (nf S)) 3 = some (nI (36 + 5 * nf S + 3)) := mfa _ 3
  have a4 : f_Mo_fishAt (nI (nf S)) 4 = some (nI (36 + 5 * nf S + 4)) := mfa _ 4
  unfold f_Mo_isFish
  rw [m_fishes h, hc.f, Option.bind_some, a0, Option.bind_some, grd_nI (show 36 + 5 * nf S + 0 < 2115 by omega) (by decide), ix_nI (by omega)]
  refine tt_bnd ?_
  rw [a1, Option.bind_some, grd_nI (show 36 + 5 * nf S + 1 < 2115 by omega) (by decide), ix_nI (by omega)]
  refine tt_bnd ?_
  rw [a2, Option.bind_some, grd_nI (show 36 + 5 * nf S + 2 < 2115 by omega) (by decide), ix_nI (by omega)]
  refine tt_bnd ?_
  rw [a3, Option.bind_some, grd_nI (show 36 + 5 * nf S + 3 < 2115 by omega) (by decide), ix_nI (by omega)]
  refine tt_bnd ?_
  rw [a4, Option.bind_some, grd_nI (show 36 + 5 * nf S + 4 < 2115 by omega) (by decide), ix_nI (by omega)]
  refine tt_bnd (tt_bnd (tt_some ?_))
  have hM := ((((h.fish h8 (show 0 < 5 by decide) k).fish h8 (show 1 < 5 by decide) z).fish h8 (show 2 < 5 by decide) f).fish h8 (show 3 < 5 by decide) 0).fish h8 (show 4 < 5 by decide) c
  have e0 := hM.1 0 (by decide) (by decide)
  rw [e0, su_o (by omega), su_o (by omega), su_o (by omega), su_o (by omega), su_o (by omega), hc.f, nI_1, sfi_eq]
  refine ⟨hM.scal (by decide) (by decide) _, fun b j hb => ?_⟩
  have g : ∀ (i0 : MI) (q : Nat) (v : Int32), q < 417 → q ≠ 5 → wr i0 1639 q v b j = i0 b j := fun i0 q v h1 h2 => if_neg (fun e => hb ⟨e.1, by omega, by omega⟩)
  rw [g _ _ _ (by omega) (by omega), g _ _ _ (by omega) (by omega), g _ _ _ (by omega) (by omega), g _ _ _ (by omega) (by omega), g _ _ _ (by omega) (by omega), g _ _ _ (by omega) (by omega)]
theorem RS.cg {i' : MI} {s : Nat} (h : RS i n T s) (he : ∀ b j, b ≠ 1639 → i' b j = i b j) : RS i' n T s := by
  obtain ⟨⟨h1, h2⟩, q, h3, h4, h5⟩ := h
  exact ⟨⟨by rw [he _ _ (by decide)]; exact h1, fun k hk => by rw [he _ _ (by decide)]; exact h2 k hk⟩, q, h3, h4, by rw [he _ _ (by decide)]; exact h5⟩
theorem m_rFish (hS : SV t i) (hn : n ≤ 400) {s : Nat} (hs : tks n T s) (h : LeS i n T s) (hw : Wf S) (hv : MV i S) : Tt (f_Mo_readFish t i) (MPl n T i (if nf S < 8 then rFish n T S (nw n T s) else .inl s)) := by
  unfold f_Mo_readFish
  rw [m_fishes hv, hw.1.f, Option.bind_some]
  have h8' := hw.1.f8
  rcases Nat.lt_or_ge (nf S) 8 with h8 | h8
  rotate_left
  · rw [if_neg (show ¬ nf S < 8 by omega), if_pos (show nI (nf S) = 8 by rw [show nf S = 8 by omega]; rfl)]
    exact tt_some ⟨fun _ _ _ _ => rfl, Or.inl ⟨rfl, h.2.1⟩⟩
  rw [if_pos h8, if_neg (show ¬ nI (nf S) = 8 from fun q => by have := (nI_inj (by omega) (by decide)).mp (q.trans (lit_nI 8)); omega)]
  unfold rFish
  refine tt_bind (m_kindR hS hn (h.rs hs.1)) ?_
  rintro ⟨v, i5⟩ ⟨a1, a2, a3⟩
  dsimp only at a1 a2 a3 ⊢
  subst a1
  have hsn := (tks_nw (T := T) hs.1)
  unfold kdr
  by_cases ck : kd n T (nw n T s) < 4
  rotate_left
  · rw [if_neg ck, if_pos (show (-1 : Int32) < 0 by decide), Option.bind_some, if_neg ck, bd_l]
    dsimp only
    rw [if_pos (show (-1 : Int32) < 0 by decide), Option.bind_some]
    dsimp only
    rw [if_pos (show (-1 : Int32) < 0 by decide)]
    exact tt_some ⟨a3.gx, Or.inl ⟨rfl, a2.2.1⟩⟩
  rw [if_pos ck, if_neg (nI_pos (by omega)), if_pos ck, bd_r]
  have hS5 : SV t i5 := hS.congr (fun b j hb => a3 b j (by omega))
  refine tt_bind (tt_eta (m_behind hS5 hn 68 12 (by decide) (by decide) (lo := 0) (hi := 24) (by decide) (by decide) (a2.rs hsn.1))) ?_
  rintro ⟨y, i7⟩ ⟨hx, b3⟩
  dsimp only at hx b3 ⊢
  have f7 := a3.trans b3
  rw [bhd_bd]
  rcases hx.symm with ⟨e, ek, rfl, e2⟩ | ⟨c, q1, ek, -, c24, rfl, b2⟩
  · rw [show bhd n T 26 0 24 (nw n T (nw n T s)) = _ from ek, bd_l, if_pos (show (-1 : Int32) < 0 by decide), Option.bind_some]
    dsimp only
    rw [if_pos (show (-1 : Int32) < 0 by decide)]
    exact tt_some ⟨f7.gx, Or.inl ⟨rfl, e2⟩⟩
  rw [show bhd n T 26 0 24 (nw n T (nw n T s)) = _ from ek, bd_r, if_neg (nI_pos (by omega)), bhd_bd]
  have hS7 : SV t i7 := hS.congr (fun b j hb => f7 b j (by omega))
  refine tt_bind (tt_eta (m_behind hS7 hn 69 13 (by decide) (by decide) (lo := 1) (hi := 9) (by decide) (by decide) b2)) ?_
  rintro ⟨y, i13⟩ ⟨hx, c3⟩
  dsimp only at hx c3 ⊢
  have f13 := f7.trans c3
  rcases hx.symm with ⟨e, ek, rfl, e2⟩ | ⟨z, q2, ek, z1, z9, rfl, c2⟩
  · rw [show bhd n T 28 1 9 q1 = _ from ek, bd_l, if_pos (show (-1 : Int32) < 0 by decide)]
    exact tt_some ⟨f13.gx, Or.inl ⟨rfl, e2⟩⟩
  rw [show bhd n T 28 1 9 q1 = _ from ek, bd_r, if_neg (nI_pos (by omega))]
  have hS13 : SV t i13 := hS.congr (fun b j hb => f13 b j (by omega))
  refine tt_bind (m_toldN hS13 hn 70 14 (by decide) (by decide) (hi := 99) (by decide) 90 c2) ?_
  rintro ⟨y, i21⟩ ⟨hx, d3⟩
  dsimp only at hx d3 ⊢
  have f21 := f13.trans d3
  rcases hx.symm with ⟨e, ek, rfl, e2⟩ | ⟨f, q3, ek, hf, rfl, d2⟩
  · rw [show tno n T 30 99 90 q2 = _ from ek, bd_l, if_pos (show (1000000 : Int32) = 1000000 from rfl)]
    exact tt_some ⟨f21.gx, Or.inl ⟨rfl, e2⟩⟩
  obtain ⟨m, hm, em⟩ : ∃ m, m ≤ 99 ∧ y = nI m := by
    rcases hf with q | ⟨m, hm, q⟩
    · exact ⟨90, by decide, q⟩
    · exact ⟨m, hm, q⟩
  rw [show tno n T 30 99 90 q2 = _ from ek, bd_r, if_neg (big_no (by omega) em)]
  refine tt_bind (m_isFishF hw.1 (hv.fz f21) h8 (nI (kd n T (nw n T s))) (nI c) (nI z) y) ?_
  rintro i24 ⟨g1, g2⟩
  refine tt_some ⟨f21.gx.trans (fun b j _ hb => g2 b j hb), rfl, ?_, g1, ?_⟩
  · rw [em]; exact sfi_wf hw h8 ck z1 z9 (by omega) hm
  · exact d2.cg (fun b j hb => g2 b j (by omega))
theorem m_rBoat (hS : SV t i) (hn : n ≤ 400) {s : Nat} (hs : tks n T s) (h : LeS i n T s) (hw : Wf S) (hv : MV i S) : Tt (f_Mo_readBoat t i) (MPl n T i (if nb S < 3 then rBoat n T S (nw n T s) else .inl s)) := by
  unfold f_Mo_readBoat
  rw [m_boats hv, hw.1.b, Option.bind_some]
  have h8' := hw.1.b3
  rcases Nat.lt_or_ge (nb S) 3 with h8 | h8
  rotate_left
  · rw [if_neg (show ¬ nb S < 3 by omega), if_pos (show nI (nb S) = 3 by rw [show nb S = 3 by omega]; rfl)]
    exact tt_some ⟨fun _ _ _ _ => rfl, Or.inl ⟨rfl, h.2.1⟩⟩
  rw [if_pos h8, if_neg (show ¬ nI (nb S) = 3 from fun q => by have := (nI_inj (by omega) (by decide)).mp (q.trans (lit_nI 3)); omega)]
  unfold rBoat
  rw [bhd_bd]
  refine tt_bind (m_behind hS hn 72 16 (by decide) (by decide) (lo := 1) (hi := 9) (by decide) (by decide) (h.rs hs.1)) ?_
  rintro ⟨y, i5⟩ ⟨hx, b3⟩
  dsimp only at hx b3 ⊢
  rcases hx.symm with ⟨e, ek, rfl, e2⟩ | ⟨z, q1, ek, z1, z9, rfl, b2⟩
  · rw [show bhd n T 34 1 9 (nw n T s) = _ from ek, bd_l, if_pos (show (-1 : Int32) < 0 by decide)]
    exact tt_some ⟨b3.gx, Or.inl ⟨rfl, e2⟩⟩
  rw [show bhd n T 34 1 9 (nw n T s) = _ from ek, bd_r, if_neg (nI_pos (by omega))]
  have hS5 : SV t i5 := hS.congr (fun b j hb => b3 b j (by omega))
  refine tt_bind (m_toldN hS5 hn 68 12 (by decide) (by decide) (hi := 24) (by decide) 0 b2) ?_
  rintro ⟨y, i9⟩ ⟨hx, c3⟩
  dsimp only at hx c3 ⊢
  have f9 := b3.trans c3
  rcases hx.symm with ⟨e, ek, rfl, e2⟩ | ⟨c, q2, ek, hc, rfl, c2⟩
  · rw [show tno n T 26 24 0 q1 = _ from ek, bd_l, if_pos (show (1000000 : Int32) = 1000000 from rfl), Option.bind_some]
    dsimp only
    rw [if_pos (show (1000000 : Int32) = 1000000 from rfl)]
    exact tt_some ⟨f9.gx, Or.inl ⟨rfl, e2⟩⟩
  have hcc : ∃ c', c' < 25 ∧ y = nI c' := by
    rcases hc with q | ⟨m, hm, q⟩
    · exact ⟨0, by omega, q⟩
    · exact ⟨m, by omega, q⟩
  have hcb : ¬ y = 1000000 := by obtain ⟨c', hc', q⟩ := hcc; exact big_no (m := c') (by omega) q
  rw [show tno n T 26 24 0 q1 = _ from ek, bd_r, if_neg hcb]
  have hS9 : SV t i9 := hS.congr (fun b j hb => f9 b j (by omega))
  refine tt_bind (tt_eta (m_toldN hS9 hn 73 17 (by decide) (by decide) (hi := 24) (by decide) (-1) c2)) ?_
  rintro ⟨hd, i11⟩ ⟨hx, d3⟩
  dsimp only at hx d3 ⊢
  have f11 := f9.trans d3
  rcases hx.symm with ⟨e, ek, rfl, e2⟩ | ⟨hd', q3, ek, hh, rfl, d2⟩
  · rw [show tno n T 36 24 (-1) q2 = _ from ek, bd_l, if_pos (show (1000000 : Int32) = 1000000 from rfl)]
    exact tt_some ⟨f11.gx, Or.inl ⟨rfl, e2⟩⟩
  have hhd : hd = -1 ∨ ∃ c', c' < 25 ∧ hd = nI c' := by
    rcases hh with q | ⟨m, hm, q⟩
    · exact Or.inl q
    · exact Or.inr ⟨m, by omega, q⟩
  have hhb : ¬ hd = 1000000 := by
    rcases hhd with q | ⟨c', hc', q⟩
    · rw [q]; decide
    · exact big_no (m := c') (by omega) q
  rw [show tno n T 36 24 (-1) q2 = _ from ek, bd_r, if_neg hhb]
  have a0 : f_Mo_boatAt (nI (nb S)) 0 = some (nI (76 + 3 * nb S + 0)) := by unfold f_Mo_boatAt; rw [lit_nI 76, lit_nI 3, mul_nI, nI_add]; exact congrArg some (nI_add _ 0)
  have a1 : f_Mo_boatAt (nI (nb S)) 1 = some (nI (76 + 3 * nb S + 1)) := by unfold f_Mo_boatAt; rw [lit_nI 76, lit_nI 3, mul_nI, nI_add]; exact congrArg some (nI_add _ 1)
  have a2 : f_Mo_boatAt (nI (nb S)) 2 = some (nI (76 + 3 * nb S + 2)) := by unfold f_Mo_boatAt; rw [lit_nI 76, lit_nI 3, mul_nI, nI_add]; exact congrArg some (nI_add _ 2)
  rw [a0, Option.bind_some, grd_nI (show 76 + 3 * nb S + 0 < 2115 by omega) (by decide), ix_nI (by omega)]
  refine tt_bnd ?_
  rw [a1, Option.bind_some, grd_nI (show 76 + 3 * nb S + 1 < 2115 by omega) (by decide), ix_nI (by omega)]
  refine tt_bnd ?_
  rw [a2, Option.bind_some, grd_nI (show 76 + 3 * nb S + 2 < 2115 by omega) (by decide), ix_nI (by omega)]
  refine tt_bnd ?_
  have hM := (((hv.fz f11).boat h8 (show 0 < 3 by decide) y).boat h8 (show 1 < 3 by decide) hd).boat h8 (show 2 < 3 by decide) (nI z)
  have e0 := hM.1 1 (by decide) (by decide)
  rw [e0, su_o (by omega), su_o (by omega), su_o (by omega), hw.1.b, nI_1]
  refine tt_bnd (tt_some ⟨((((f11.gx.w (by omega) _).w (by omega) _).w (by omega) _).w (by omega) _), rfl, Wf_sbo hw h8 hcc hhd ⟨z, z1, z9, rfl⟩, hM.scal (by decide) (by decide) _, (((d2.w _ _).w _ _).w _ _).w _ _⟩)
theorem m_rBuyer (hS : SV t i) (hn : n ≤ 400) {s : Nat} (hs : tks n T s) (h : LeS i n T s) (hw : Wf S) (hv : MV i S) : Tt (f_Mo_readBuyer t i) (MPl n T i (if ny S < 5 then rBuyer n T S (nw n T s) else .inl s)) := by
  unfold f_Mo_readBuyer
  rw [m_buyers hv, hw.1.y, Option.bind_some]
  have h8' := hw.1.y5
  rcases Nat.lt_or_ge (ny S) 5 with h8 | h8
  rotate_left
  · rw [if_neg (show ¬ ny S < 5 by omega), if_pos (show nI (ny S) = 5 by rw [show ny S = 5 by omega]; rfl)]
    exact tt_some ⟨fun _ _ _ _ => rfl, Or.inl ⟨rfl, h.2.1⟩⟩
  rw [if_pos h8, if_neg (show ¬ nI (ny S) = 5 from fun q => by have := (nI_inj (by omega) (by decide)).mp (q.trans (lit_nI 5)); omega)]
  unfold rBuyer
  refine tt_bind (m_kindR hS hn (h.rs hs.1)) ?_
  rintro ⟨v, i5⟩ ⟨a1, a2, a3⟩
  dsimp only at a1 a2 a3 ⊢
  subst a1
  have hsn := (tks_nw (T := T) hs.1)
  unfold kdr
  by_cases ck : kd n T (nw n T s) < 4
  rotate_left
  · rw [if_neg ck, if_pos (show (-1 : Int32) < 0 by decide), Option.bind_some, if_neg ck, bd_l]
    dsimp only
    rw [if_pos (show (-1 : Int32) < 0 by decide)]
    exact tt_some ⟨a3.gx, Or.inl ⟨rfl, a2.2.1⟩⟩
  rw [if_pos ck, if_neg (nI_pos (by omega)), if_pos ck, bd_r]
  have hS5 : SV t i5 := hS.congr (fun b j hb => a3 b j (by omega))
  refine tt_bind (tt_eta (m_behind hS5 hn 75 19 (by decide) (by decide) (lo := 0) (hi := 999) (by decide) (by decide) (a2.rs hsn.1))) ?_
  rintro ⟨y, i7⟩ ⟨hx, b3⟩
  dsimp only at hx b3 ⊢
  have f7 := a3.trans b3
  rw [bhd_bd]
  rcases hx.symm with ⟨e, ek, rfl, e2⟩ | ⟨m, q1, ek, -, m9, rfl, b2⟩
  · rw [show bhd n T 40 0 999 (nw n T (nw n T s)) = _ from ek, bd_l, if_pos (show (-1 : Int32) < 0 by decide)]
    exact tt_some ⟨f7.gx, Or.inl ⟨rfl, e2⟩⟩
  rw [show bhd n T 40 0 999 (nw n T (nw n T s)) = _ from ek, bd_r, if_neg (nI_pos (by omega))]
  have hS7 : SV t i7 := hS.congr (fun b j hb => f7 b j (by omega))
  refine tt_bind (m_toldN hS7 hn 76 20 (by decide) (by decide) (hi := 99) (by decide) 0 b2) ?_
  rintro ⟨l, i15⟩ ⟨hx, c3⟩
  dsimp only at hx c3 ⊢
  have f15 := f7.trans c3
  rcases hx.symm with ⟨e, ek, rfl, e2⟩ | ⟨l', q2, ek, hl, rfl, c2⟩
  · rw [show tno n T 42 99 0 q1 = _ from ek, bd_l, if_pos (show (1000000 : Int32) = 1000000 from rfl), Option.bind_some]
    dsimp only
    rw [if_pos (show (1000000 : Int32) = 1000000 from rfl)]
    exact tt_some ⟨f15.gx, Or.inl ⟨rfl, e2⟩⟩
  have hll : ∃ c', c' ≤ 99 ∧ l = nI c' := by
    rcases hl with q | ⟨m, hm, q⟩
    · exact ⟨0, by omega, q⟩
    · exact ⟨m, by omega, q⟩
  have hlb : ¬ l = 1000000 := by obtain ⟨c', hc', q⟩ := hll; exact big_no (m := c') (by omega) q
  rw [show tno n T 42 99 0 q1 = _ from ek, bd_r, if_neg hlb]
  have hS15 : SV t i15 := hS.congr (fun b j hb => f15 b j (by omega))
  refine tt_bind (tt_eta (m_toldN hS15 hn 77 21 (by decide) (by decide) (hi := 100) (by decide) 50 c2)) ?_
  rintro ⟨u, i17⟩ ⟨hx, d3⟩
  dsimp only at hx d3 ⊢
  have f17 := f15.trans d3
  rcases hx.symm with ⟨e, ek, rfl, e2⟩ | ⟨u', q3, ek, hu, rfl, d2⟩
  · rw [show tno n T 44 100 50 q2 = _ from ek, bd_l, if_pos (show (1000000 : Int32) = 1000000 from rfl)]
    exact tt_some ⟨f17.gx, Or.inl ⟨rfl, e2⟩⟩
  have huu : ∃ c', c' ≤ 100 ∧ u = nI c' := by
    rcases hu with q | ⟨m, hm, q⟩
    · exact ⟨50, by omega, q⟩
    · exact ⟨m, by omega, q⟩
  have hub : ¬ u = 1000000 := by obtain ⟨c', hc', q⟩ := huu; exact big_no (m := c') (by omega) q
  rw [show tno n T 44 100 50 q2 = _ from ek, bd_r, if_neg hub]
  have b0 : f_Mo_buyerAt (nI (ny S)) 0 = some (nI (85 + 4 * ny S + 0)) := by unfold f_Mo_buyerAt; rw [lit_nI 85, lit_nI 4, mul_nI, nI_add]; exact congrArg some (nI_add _ 0)
  have b1 : f_Mo_buyerAt (nI (ny S)) 1 = some (nI (85 + 4 * ny S + 1)) := by unfold f_Mo_buyerAt; rw [lit_nI 85, lit_nI 4, mul_nI, nI_add]; exact congrArg some (nI_add _ 1)
  have b2' : f_Mo_buyerAt (nI (ny S)) 2 = some (nI (85 + 4 * ny S + 2)) := by unfold f_Mo_buyerAt; rw [lit_nI 85, lit_nI 4, mul_nI, nI_add]; exact congrArg some (nI_add _ 2)
  have b3' : f_Mo_buyerAt (nI (ny S)) 3 = some (nI (85 + 4 * ny S + 3)) := by unfold f_Mo_buyerAt; rw [lit_nI 85, lit_nI 4, mul_nI, nI_add]; exact congrArg some (nI_add _ 3)
  rw [b0, Option.bind_some, grd_nI (show 85 + 4 * ny S + 0 < 2115 by omega) (by decide), ix_nI (by omega)]
  refine tt_bnd ?_
  rw [b1, Option.bind_some, grd_nI (show 85 + 4 * ny S + 1 < 2115 by omega) (by decide), ix_nI (by omega)]
  refine tt_bnd ?_
  rw [b2', Option.bind_some, grd_nI (show 85 + 4 * ny S + 2 < 2115 by omega) (by decide), ix_nI (by omega)]
  refine tt_bnd ?_
  rw [b3', Option.bind_some, grd_nI (show 85 + 4 * ny S + 3 < 2115 by omega) (by decide), ix_nI (by omega)]
  refine tt_bnd ?_
  have hM := ((((hv.fz f17).buyer h8 (show 0 < 4 by decide) (nI (kd n T (nw n T s)))).buyer h8 (show 1 < 4 by decide) (nI m)).buyer h8 (show 2 < 4 by decide) l).buyer h8 (show 3 < 4 by decide) u
  have e0 := hM.1 2 (by decide) (by decide)
  rw [e0, su_o (by omega), su_o (by omega), su_o (by omega), su_o (by omega), hw.1.y, nI_1]
  refine tt_bnd (tt_some ⟨(((((f17.gx.w (by omega) _).w (by omega) _).w (by omega) _).w (by omega) _).w (by omega) _), rfl, Wf_syo hw h8 ⟨_, ck, rfl⟩ ⟨m, m9, rfl⟩ hll huu, hM.scal (by decide) (by decide) _, ((((d2.w _ _).w _ _).w _ _).w _ _).w _ _⟩)
end SEAM
