/-! ===== a law's text: the reference's conditions, at every depth ===== -/
section LAWY
variable {t : MT} {n : Nat} {T : Nat → Int32}
variable {Rc Rl Ra : MT → MI → Option (Int32 × MI)}
theorem RS.w13 {i : MI} {s : Nat} (h : RS i n T s) (v : Int32) : RS (wr i 1638 13 v) n T s := by
  obtain ⟨⟨h1, h2⟩, q, h3, h4, h5⟩ := h
  exact ⟨⟨by rw [wr_k (by decide)]; exact h1, fun k hk => by rw [wr_a (by decide)]; exact h2 k hk⟩, q, h3, h4, by rw [wr_k (by decide)]; exact h5⟩
theorem KM.w13 {i : MI} {c : Cd} (h : KM i c) (v : Int32) : KM (wr i 1638 13 v) c := ⟨by rw [wr_k (by decide)]; exact h.1, fun k hk => ⟨by rw [wr_a (by decide)]; exact (h.2 k hk).1, fun q => by rw [wr_a (by decide)]; exact (h.2 k hk).2 q⟩⟩
theorem fmo_w13 {i : MI} (v : Int32) : fmo i (wr i 1638 13 v) := fun b j h1 _ => if_neg (by omega)
theorem dn7 : ∀ d, d < 8 → nI (d + 1) - 1 = nI d := by decide +kernel
theorem sgn_nowd {k s : Nat} (hk : k < 94) (hs : s ≤ n) {x : Int32} (hx : srt x = 3) (h : sgn n T x s = true) : ¬ wd n T (2 * k + 2) s = true := fun hw => by
  have h1 := wd_le hw
  have h2 := (wln_lt k hk).1
  have h3 := (le_gt (n := n) (T := T) hs).mp (by omega)
  have h4 : T s = x := by unfold sgn at h; simp only [Bool.and_eq_true, decide_eq_true_eq] at h; exact h.2
  rw [h4, hx] at h3
  exact absurd h3.2 (by decide)
theorem m_atm (hn : n ≤ 400) {d : Nat} (hd6 : d ≤ 6) {o : Option ((Nat → Cd → Rz) × (Nat → Cd → Rz))} (h0 : o = none ↔ d = 6) (ho : ∀ R, o = some R → RDM t n T (d + 1) (fun i => Rc t i) R.1 ∧ RDM t n T (d + 1) (fun i => Ra t i) R.2 ∧ GR n T true 0 R.1 ∧ GR n T true 0 R.2) : RDM t n T d (fun i => fb_Mo_readAtom Rc Rl Ra t i) (rAtm n T o) := by
  intro i s c hS hs hc hl hd
  have hk := hs.tks
  have hk1 := hk.1
  dsimp only
  unfold fb_Mo_readAtom rAtm
  refine tt_bind (m_sign hn hs 40) ?_
  rintro ⟨v, i2⟩ ⟨b1, b2, b3, b4⟩
  dsimp only at b1 b2 b3 b4 ⊢
  subst b1
  by_cases h40 : sgn n T 40 s = true
  · rw [if_pos h40] at b2
    rw [if_pos h40, if_neg (show ¬ (1 : Int32) = 0 by decide), if_neg (sgn_nowd (k := 33) (by decide) hk1 (by decide) h40), if_pos h40]
    have D2 : i2 1638 13 = nI d := (b4 1638 13 (by omega)).trans hd
    cases o with
    | none =>
      refine tt_ifp (by rw [D2, h0.mp rfl]; rfl) ?_
      exact tt_some ⟨⟨rfl, b3⟩, b4.fmo⟩
    | some R =>
      have hd5 : d ≠ 6 := fun q => by cases h0.mpr q
      refine tt_ifn (by rw [D2]; exact fun q => hd5 ((nI_inj (b := 6) (by omega) (by omega)).mp q)) (tt_bnd ?_)
      obtain ⟨r1, _, r3, _⟩ := ho R rfl
      obtain ⟨hlt, hk2⟩ := sgn_lt h40
      have F := b4.fmo.trans (fmo_w13 (i := i2) (i2 1638 13 + 1))
      refine tt_bind (r1 (wr i2 1638 13 (i2 1638 13 + 1)) (sp n T (s + 1)) c (hS.fmo F) (b2.w13 _) ((hc.fz b4).w13 _) (by omega) (by rw [wr_s, D2, nI_1])) ?_
      rintro ⟨w, i3⟩ ⟨hw, hf3⟩
      dsimp only
      cases hq : R.1 (sp n T (s + 1)) c with
      | inl e =>
        rw [hq] at hw
        obtain ⟨w1, w2⟩ := hw
        dsimp only at w1 w2 hf3
        subst w1
        exact tt_some ⟨⟨rfl, w2⟩, F.trans hf3⟩
      | inr q =>
        rw [hq] at hw
        obtain ⟨w1, w2, w3, w4⟩ := hw
        dsimp only at w1 w2 w3 w4 hf3
        subst w1
        obtain ⟨g1, g2, g3⟩ := GR_at r3 hk2 hq
        dsimp only
        rw [if_neg (show ¬ (1 : Int32) = 0 by decide)]
        refine tt_bnd ?_
        have D3 : i3 1638 13 - 1 = nI d := by rw [w4, wr_s, D2, nI_1]; exact dn7 d (by omega)
        refine tt_bind (m_sign hn (w2.w13 (i3 1638 13 - 1)) 41) ?_
        rintro ⟨w, i4⟩ ⟨y1, y2, y3, y4⟩
        dsimp only at y1 y2 y3 y4 ⊢
        subst y1
        have F4 := (F.trans hf3).trans ((fmo_w13 (i := i3) (i3 1638 13 - 1)).trans y4.fmo)
        refine tt_grd2 (decide_eq_true (by by_cases z : sgn n T 41 q.1 = true <;> simp [z])) ?_
        by_cases h41 : sgn n T 41 q.1 = true
        · rw [if_pos h41] at y2
          rw [if_pos h41, if_pos h41]
          exact tt_some ⟨⟨rfl, y2, (w3.w13 _).fz y4, (show i4 1638 13 = i 1638 13 by rw [y4 1638 13 (by omega), wr_s, D3, hd])⟩, F4⟩
        · rw [if_neg h41, if_neg h41]
          exact tt_some ⟨⟨rfl, y3⟩, F4⟩
  rw [if_neg h40] at b2
  rw [if_neg h40, if_pos (show (0 : Int32) = 0 from rfl)]
  refine tt_bind (m_passes (k := 86) (hS.fmo b4.fmo) hn (by decide) b2) ?_
  rintro ⟨v, i3⟩ ⟨c1, c2, c3, c4⟩
  rw [wd_eqw (show wch (2 * 86 + 2) = wch (2 * 33 + 2) by decide)] at c1 c2
  rw [show wd n T (2 * 33 + 2) s = wd n T 68 s from rfl] at c1 c2
  dsimp only at c1 c2 c3 c4 ⊢
  subst c1
  have F := b4.trans c4
  by_cases h68 : wd n T 68 s = true
  · rw [if_pos h68] at c2
    rw [if_pos h68, if_neg (show ¬ (1 : Int32) = 0 by decide), if_pos h68]
    have D2 : i3 1638 13 = nI d := (F 1638 13 (by omega)).trans hd
    cases o with
    | none =>
      refine tt_ifp (by rw [D2, h0.mp rfl]; rfl) ?_
      exact tt_some ⟨⟨rfl, c3⟩, F.fmo⟩
    | some R =>
      have hd5 : d ≠ 6 := fun q => by cases h0.mpr q
      refine tt_ifn (by rw [D2]; exact fun q => hd5 ((nI_inj (b := 6) (by omega) (by omega)).mp q)) (tt_bnd ?_)
      obtain ⟨_, r1, _, r3⟩ := ho R rfl
      obtain ⟨hlt, hk2⟩ := nx_wd (k := 33) (by decide) s hk h68
      have F2 := F.fmo.trans (fmo_w13 (i := i3) (i3 1638 13 + 1))
      refine tt_bind (r1 (wr i3 1638 13 (i3 1638 13 + 1)) (nw n T s) c (hS.fmo F2) (c2.w13 _) ((hc.fz F).w13 _) (by omega) (by rw [wr_s, D2, nI_1])) ?_
      rintro ⟨w, i4⟩ ⟨hw, hf3⟩
      dsimp only
      cases hq : R.2 (nw n T s) c with
      | inl e =>
        rw [hq] at hw
        obtain ⟨w1, w2⟩ := hw
        dsimp only at w1 w2 hf3
        subst w1
        exact tt_some ⟨⟨rfl, w2⟩, F2.trans hf3⟩
      | inr q =>
        rw [hq] at hw
        obtain ⟨w1, w2, w3, w4⟩ := hw
        dsimp only at w1 w2 w3 w4 hf3
        subst w1
        obtain ⟨g1, g2, g3⟩ := GR_at r3 hk2 hq
        have := g2.2.1
        have := g1.1
        dsimp only
        rw [if_neg (show ¬ (1 : Int32) = 0 by decide)]
        refine tt_bnd ?_
        have D3 : i4 1638 13 - 1 = nI d := by rw [w4, wr_s, D2, nI_1]; exact dn7 d (by omega)
        refine tt_bind (m_emits (w3.w13 (i4 1638 13 - 1)) (by omega) (s := -11) (by decide) (fun q => absurd (show (-11 : Int32) < 0 by decide) q)) (fun i5 h5 => ?_)
        exact tt_some ⟨⟨rfl, (w2.w13 _).fmk h5.2, h5.1, (show i5 1638 13 = i 1638 13 by rw [h5.2 1638 13 (by omega) (by omega), wr_s, D3, hd])⟩, (F2.trans hf3).trans ((fmo_w13 (i := i4) (i4 1638 13 - 1)).trans h5.2.fmo)⟩
  rw [if_neg h68] at c2
  rw [if_neg h68, if_pos (show (0 : Int32) = 0 from rfl), if_neg h68, if_neg h40]
  refine tt_bind (m_readTag (hS.fmo F.fmo) hn c2 (hc.fz F) hl) ?_
  rintro ⟨v, i4⟩ (⟨e1, n1, n2, n3, e2, e3⟩ | ⟨e1, ⟨x, e2, e3, e4⟩, e5, e6⟩)
  · dsimp only at e1 e2 e3 ⊢
    subst e1
    rw [if_pos (show (0 : Int32) = 0 from rfl), if_neg n1, if_neg n2, if_neg n3]
    have F4 := F.trans e3
    refine tt_mono (m_cmp hn (d := d) i4 s c (hS.fmo F4.fmo) e2 (hc.fz F4) hl ((F4 1638 13 (by omega)).trans hd)) (fun y hy => ⟨?_, F4.fmo.trans hy.2⟩)
    have h1 := hy.1
    revert h1
    cases rCmp n T s c with
    | inl e => exact fun h1 => h1
    | inr p => exact fun h1 => ⟨h1.1, h1.2.1, h1.2.2.1, h1.2.2.2.trans (F4 1638 13 (by omega))⟩
  · dsimp only at e1 e3 e4 e5 e6 ⊢
    subst e1
    rw [if_neg (show ¬ (1 : Int32) = 0 by decide)]
    rcases e2 with ⟨n1, rfl⟩ | ⟨n1, n2, rfl⟩ | ⟨n1, n2, n3, rfl⟩
    · rw [if_pos n1]
      exact tt_some ⟨⟨rfl, e3, e4, e5.trans (F 1638 13 (by omega))⟩, F.fmo.trans e6⟩
    · rw [if_neg n1, if_pos n2]
      exact tt_some ⟨⟨rfl, e3, e4, e5.trans (F 1638 13 (by omega))⟩, F.fmo.trans e6⟩
    · rw [if_neg n1, if_neg n2, if_pos n3]
      exact tt_some ⟨⟨rfl, e3, e4, e5.trans (F 1638 13 (by omega))⟩, F.fmo.trans e6⟩
theorem m_all (hn : n ≤ 400) {d : Nat} {f : Nat → Cd → Rz} (hr : RDM t n T d (fun i => Ra t i) f) (hg : GR n T true 0 f) : RDM t n T d (fun i => fb_Mo_readAllOf Rc Rl Ra t i) (rAll n T f) :=
  m_chain (rd := fun i => Ra t i) hn (t_pass hn 92 32 (by decide) (by decide)) hr hg (nx_wd (k := 32) (by decide)) (op := 15) (opc := -15) (by decide) (by decide)
theorem m_cnd (hn : n ≤ 400) {d : Nat} {f : Nat → Cd → Rz} (hr : RDM t n T d (fun i => Rl t i) (rAll n T f)) (hg : GR n T true 1 f) : RDM t n T d (fun i => fb_Mo_readCond Rc Rl Ra t i) (rCnd n T f) :=
  m_chain (rd := fun i => Rl t i) hn (t_pass hn 93 31 (by decide) (by decide)) hr (GR_all hg) (nx_wd (k := 31) (by decide)) (op := 16) (opc := -16) (by decide) (by decide)
theorem m_lx (hn : n ≤ 400) : ∀ k, k ≤ 6 → (∀ F, 3 * k + 3 ≤ F → RDM t n T (6 - k) (fun i => (fx_Mo F).1 t i) (lx n T k).1) ∧ (∀ F, 3 * k + 1 ≤ F → RDM t n T (6 - k) (fun i => (fx_Mo F).2.2 t i) (lx n T k).2)
  | 0, _ => by
    have ha : ∀ F, 1 ≤ F → RDM t n T 6 (fun i => (fx_Mo F).2.2 t i) (lx n T 0).2 := fun F hF => by
      obtain ⟨F', rfl⟩ : ∃ F', F = F' + 1 := ⟨F - 1, by omega⟩
      exact m_atm (o := none) (Rc := (fx_Mo F').1) (Rl := (fx_Mo F').2.1) hn (d := 6) (by omega) ⟨fun _ => rfl, fun _ => rfl⟩ (fun R q => by cases q)
    refine ⟨fun F hF => ?_, ha⟩
    obtain ⟨F', rfl⟩ : ∃ F', F = F' + 1 + 1 := ⟨F - 2, by omega⟩
    have hl : RDM t n T 6 (fun i => (fx_Mo (F' + 1)).2.1 t i) (rAll n T (lx n T 0).2) := m_all (Rc := (fx_Mo F').1) (Rl := (fx_Mo F').2.1) hn (ha F' (by omega)) (GR_le (GR_lx 0 (by omega)).2 (by omega))
    exact m_cnd (Rc := (fx_Mo (F' + 1)).1) (Ra := (fx_Mo (F' + 1)).2.2) hn hl (GR_le (GR_lx 0 (by omega)).2 (by omega))
  | k + 1, hk => by
    obtain ⟨h1, h2⟩ := m_lx hn k (by omega)
    obtain ⟨g1, g2⟩ := GR_lx (n := n) (T := T) k (by omega)
    have e : 6 - (k + 1) + 1 = 6 - k := by omega
    have ha : ∀ F, 3 * (k + 1) + 1 ≤ F → RDM t n T (6 - (k + 1)) (fun i => (fx_Mo F).2.2 t i) (lx n T (k + 1)).2 := fun F hF => by
      obtain ⟨F', rfl⟩ : ∃ F', F = F' + 1 := ⟨F - 1, by omega⟩
      refine m_atm (o := some (lx n T k)) (Rc := (fx_Mo F').1) (Rl := (fx_Mo F').2.1) hn (d := 6 - (k + 1)) (by omega) ⟨(fun q => by cases q), (fun q => absurd q (by omega))⟩ (fun R q => ?_)
      cases q
      rw [e]
      exact ⟨h1 F' (by omega), h2 F' (by omega), GR_le g1 (by omega), GR_le g2 (by omega)⟩
    refine ⟨fun F hF => ?_, ha⟩
    obtain ⟨F', rfl⟩ : ∃ F', F = F' + 1 + 1 := ⟨F - 2, by omega⟩
    have hl : RDM t n T (6 - (k + 1)) (fun i => (fx_Mo (F' + 1)).2.1 t i) (rAll n T (lx n T (k + 1)).2) := m_all (Rc := (fx_Mo F').1) (Rl := (fx_Mo F').2.1) hn (ha F' (by omega)) (GR_le (GR_lx (k + 1) hk).2 (by omega))
    exact m_cnd (Rc := (fx_Mo (F' + 1)).1) (Ra := (fx_Mo (F' + 1)).2.2) hn hl (GR_le (GR_lx (k + 1) hk).2 (by omega))
end LAWY
