/-! ===== a law's text: the class's smallest conditions ===== -/
section LAWN
variable {t : MT} {n : Nat} {T : Nat → Int32}
variable {Rc Ra : MT → MI → Int32 → Option ((Unit ⊕ Nat) × MI)}
/-- a word that is a step of its own -/
theorem v_tagged (hn : n ≤ 400) {i0 i : MI} {s : Nat} {c : Cd} (h : TK i n T s) (hc : KCd i c) (hl : c.1 < 400) (hf : fl i0 i) (x : Int32) : Tt ((f_Lt_emit i x).bind (fun i_45 => (some (.inl (), i_45) : Option ((Unit ⊕ Nat) × MI)))) (CRz n T i0 (.inr (s, pu1 c x))) :=
  tt_bind (v_emit hc hl x) (fun i2 h2 => tt_some ⟨rfl, h.em h2.2, h2.1, hf.trans (fl_em h2.2)⟩)
theorem CRz_e {i0 i : MI} {x : Rz} {y : (Unit ⊕ Nat) × MI} (hf : fl i0 i) (h : CRz n T i x y) : CRz n T i0 x y := by
  cases x with
  | inl e => exact ⟨h.1, h.2.1, hf.e h.2.2⟩
  | inr p => exact ⟨h.1, h.2.1, h.2.2.1, hf.trans h.2.2.2⟩
theorem v_bAtm (hn : n ≤ 400) {d : Nat} {o : Option ((Nat → Cd → Rz) × (Nat → Cd → Rz))} (ho : ∀ R, o = some R → RD t n T (fun i => Rc t i (nI d + 1)) R.1 ∧ RD t n T (fun i => Ra t i (nI d + 1)) R.2 ∧ GR n T true 0 R.1 ∧ GR n T true 0 R.2) {i : MI} {s : Nat} {c : Cd} (hS : SV t i) (hs : tks n T s) (h : TK i n T s) (hc : KCd i c) (hl : c.1 + 2 ≤ s) (hd : (wd n T 68 s = true ∨ sgn n T 40 s = true) → o ≠ none) : Tt (bAtm Rc Ra t i (nI d)) (CRz n T i (rAtm n T o s c)) := by
  have hs1 := hs.1
  unfold bAtm rAtm
  refine tt_bind (v_takeWord (k := 33) hS hn (by decide) hs.1 h) ?_
  rintro ⟨v, i1⟩ ⟨b1, b2, b3⟩
  dsimp only at b1 b2 b3 ⊢
  subst b1
  rw [show wd n T (2 * 33 + 2) s = wd n T 68 s from rfl] at b2 ⊢
  by_cases h68 : wd n T 68 s = true
  · rw [if_pos h68] at b2
    rw [if_pos h68, if_neg (show ¬ (1 : Int32) = 0 by decide), if_pos h68]
    cases o with
    | none => exact absurd rfl (hd (Or.inl h68))
    | some R =>
      obtain ⟨_, r2, _, r4⟩ := ho R rfl
      have hlt := wd_lt hs.1 (wln_lt 33 (by decide)).1 h68
      have hk := tks_nw (T := T) hs.1
      refine tt_bind (r2 i1 (nw n T s) c (hS.fl b3.fl) hk b2 (hc.ft b3) (by omega)) ?_
      rintro ⟨w, i3⟩ hw
      dsimp only at hw ⊢
      cases hq : R.2 (nw n T s) c with
      | inl e =>
        rw [hq] at hw
        obtain ⟨w1, w2, w3⟩ := hw
        dsimp only at w1 w2 w3
        subst w1
        exact tt_some ⟨rfl, w2, b3.fl.e w3⟩
      | inr q =>
        rw [hq] at hw
        obtain ⟨w1, w2, w3, w4⟩ := hw
        dsimp only at w1 w2 w3 w4
        subst w1
        obtain ⟨g1, g2, g3⟩ := GR_at r4 hk hq
        have := g2.2.1
        have := g1.1
        exact v_tagged hn w2 w3 (by omega) (b3.fl.trans w4) (-11)
  rw [if_neg h68] at b2
  rw [if_neg h68, if_pos (show (0 : Int32) = 0 from rfl), if_neg h68]
  refine tt_bind (v_takeSign hn hs.1 b2 (c := 40) (by decide)) ?_
  rintro ⟨v, i2⟩ ⟨c1, c2, c3⟩
  dsimp only at c1 c2 c3 ⊢
  subst c1
  by_cases h40 : sgn n T 40 s = true
  · rw [if_pos h40] at c2
    rw [if_pos h40, if_neg (show ¬ (1 : Int32) = 0 by decide), if_pos h40]
    cases o with
    | none => exact absurd rfl (hd (Or.inr h40))
    | some R =>
      obtain ⟨r1, _, r3, _⟩ := ho R rfl
      obtain ⟨hlt, hk⟩ := sgn_lt h40
      have F := b3.trans c3
      refine tt_bind (r1 i2 (sp n T (s + 1)) c (hS.fl F.fl) hk c2 (hc.ft F) (by omega)) ?_
      rintro ⟨w, i3⟩ hw
      dsimp only at hw ⊢
      cases hq : R.1 (sp n T (s + 1)) c with
      | inl e =>
        rw [hq] at hw
        obtain ⟨w1, w2, w3⟩ := hw
        dsimp only at w1 w2 w3
        subst w1
        exact tt_some ⟨rfl, w2, F.fl.e w3⟩
      | inr q =>
        rw [hq] at hw
        obtain ⟨w1, w2, w3, w4⟩ := hw
        dsimp only at w1 w2 w3 w4
        subst w1
        obtain ⟨g1, g2, g3⟩ := GR_at r3 hk hq
        dsimp only
        refine tt_bind (v_needSign hn g1.1 w2 (x := 41) (by decide)) ?_
        rintro ⟨w, i4⟩ (⟨y1, y2, y3, y4⟩ | ⟨y1, y2, y3, y4⟩)
        · dsimp only at y2 y3 y4
          subst y2
          rw [if_pos y1]
          exact tt_some ⟨rfl, y3, w3.ft y4, (F.fl.trans w4).trans y4.fl⟩
        · dsimp only at y2 y3 y4
          subst y2
          rw [if_neg y1]
          exact tt_some ⟨rfl, y3, (F.fl.trans w4).e y4.fle⟩
  rw [if_neg h40] at c2
  rw [if_neg h40, if_pos (show (0 : Int32) = 0 from rfl), if_neg h40]
  have F := b3.trans c3
  refine tt_bind (v_takeWord (k := 34) (hS.fl F.fl) hn (by decide) hs.1 c2) ?_
  rintro ⟨v, i3⟩ ⟨d1, d2, d3⟩
  dsimp only at d1 d2 d3 ⊢
  subst d1
  rw [show wd n T (2 * 34 + 2) s = wd n T 70 s from rfl] at d2 ⊢
  by_cases h70 : wd n T 70 s = true
  · rw [if_pos h70] at d2
    rw [if_pos h70, if_neg (show ¬ (1 : Int32) = 0 by decide), if_pos h70]
    exact v_tagged hn d2 (hc.ft (F.trans d3)) (by omega) (F.trans d3).fl (-8)
  rw [if_neg h70] at d2
  rw [if_neg h70, if_pos (show (0 : Int32) = 0 from rfl), if_neg h70]
  have F := F.trans d3
  refine tt_bind (v_takeWord (k := 35) (hS.fl F.fl) hn (by decide) hs.1 d2) ?_
  rintro ⟨v, i4⟩ ⟨e1, e2, e3⟩
  dsimp only at e1 e2 e3 ⊢
  subst e1
  rw [show wd n T (2 * 35 + 2) s = wd n T 72 s from rfl] at e2 ⊢
  by_cases h72 : wd n T 72 s = true
  · rw [if_pos h72] at e2
    rw [if_pos h72, if_neg (show ¬ (1 : Int32) = 0 by decide), if_pos h72]
    exact v_tagged hn e2 (hc.ft (F.trans e3)) (by omega) (F.trans e3).fl (-9)
  rw [if_neg h72] at e2
  rw [if_neg h72, if_pos (show (0 : Int32) = 0 from rfl), if_neg h72]
  have F := F.trans e3
  refine tt_bind (v_takeWord (k := 36) (hS.fl F.fl) hn (by decide) hs.1 e2) ?_
  rintro ⟨v, i5⟩ ⟨g1, g2, g3⟩
  dsimp only at g1 g2 g3 ⊢
  subst g1
  rw [show wd n T (2 * 36 + 2) s = wd n T 74 s from rfl] at g2 ⊢
  by_cases h74 : wd n T 74 s = true
  · rw [if_pos h74] at g2
    rw [if_pos h74, if_neg (show ¬ (1 : Int32) = 0 by decide), if_pos h74]
    exact v_tagged hn g2 (hc.ft (F.trans g3)) (by omega) (F.trans g3).fl (-10)
  rw [if_neg h74] at g2
  rw [if_neg h74, if_pos (show (0 : Int32) = 0 from rfl), if_neg h74]
  have F := F.trans g3
  exact tt_mono (v_cmp hn i5 s c (hS.fl F.fl) hs g2 (hc.ft F) hl) (fun y hy => CRz_e F.fl hy)
theorem v_isSign (hn : n ≤ 400) {i : MI} {s : Nat} (hs : s ≤ n) (h : TK i n T s) {x : Int32} (hx : srt x = 3) : f_Ta_isSign i x = some (if sgn n T x s = true then 1 else 0) := by
  obtain ⟨y, hy, h1, _⟩ := v_takeSign hn hs h hx
  unfold f_Ta_takeSign at hy
  cases hq : f_Ta_isSign i x with
  | none => rw [hq] at hy; cases hy
  | some v =>
    rw [hq, Option.bind_some] at hy
    have e : y.1 = v := by
      by_cases h0 : v = 0
      · rw [if_pos h0] at hy
        unfold grd2 at hy
        rw [if_pos (by rw [h0]; decide)] at hy
        cases hy; rfl
      · rw [if_neg h0] at hy
        cases h3 : f_Ta_step i with
        | none => rw [h3] at hy; cases hy
        | some i4 =>
          rw [h3, Option.bind_some] at hy
          unfold grd2 at hy
          split at hy
          · cases hy; rfl
          · cases hy
    rw [← e, h1]
theorem v_atm (hn : n ≤ 400) {d : Nat} (hd : d ≤ 6) {o : Option ((Nat → Cd → Rz) × (Nat → Cd → Rz))} (h0 : o = none ↔ d = 6) (ho : ∀ R, o = some R → RD t n T (fun i => Rc t i (nI d + 1)) R.1 ∧ RD t n T (fun i => Ra t i (nI d + 1)) R.2 ∧ GR n T true 0 R.1 ∧ GR n T true 0 R.2) : RD t n T (fun i => fb_Lt_readAtom Rc Ra t i (nI d)) (rAtm n T o) := by
  intro i s c hS hs h hc hl
  dsimp only
  unfold fb_Lt_readAtom
  rw [show f_Ta_isWord t i 68 = some (if wd n T 68 s = true then 1 else 0) from v_isWord (k := 33) hS hn (by decide) hs.1 h, Option.bind_some]
  have deep : (wd n T 68 s = true ∨ sgn n T 40 s = true) → Tt (if nI d < 6 then bAtm Rc Ra t i (nI d) else (f_Ta_refuse i).bind (fun | (.inl (), i_104) => some (.inl (), i_104) | (.inr c_105, i_104) => some (.inr c_105, i_104))) (CRz n T i (rAtm n T o s c)) := fun hb => by
    by_cases h6 : d = 6
    · refine tt_ifn (by rw [h6]; decide) ?_
      rw [v_refuse h, Option.bind_some]
      have e : rAtm n T o s c = .inl s := by
        rw [h0.mpr h6]
        unfold rAtm
        by_cases h68 : wd n T 68 s = true
        · rw [if_pos h68]
        · rw [if_neg h68, if_pos (hb.resolve_left h68)]
      rw [e]
      exact tt_some ⟨rfl, (show wr i 1595 2 (nI s) 1595 2 = _ from wr_s), fe_ref.fle⟩
    · exact tt_ifp (nI_lt (b := 6) (by omega) (by decide)) (v_bAtm hn ho hS hs h hc hl (fun _ q => h6 (h0.mp q)))
  by_cases h68 : wd n T 68 s = true
  · rw [if_pos h68, if_neg (show ¬ (1 : Int32) = 0 by decide), Option.bind_some, if_neg (show ¬ (1 : Int32) = 0 by decide)]
    exact deep (Or.inl h68)
  · rw [if_neg h68, if_pos (show (0 : Int32) = 0 from rfl), v_isSign hn hs.1 h (x := 40) (by decide), Option.bind_some]
    by_cases h40 : sgn n T 40 s = true
    · rw [if_pos h40, if_neg (show ¬ (1 : Int32) = 0 by decide), Option.bind_some, if_neg (show ¬ (1 : Int32) = 0 by decide)]
      exact deep (Or.inr h40)
    · rw [if_neg h40, if_pos (show (0 : Int32) = 0 from rfl), Option.bind_some, if_pos (show (0 : Int32) = 0 from rfl)]
      exact v_bAtm hn ho hS hs h hc hl (fun q => (q.elim h68 h40).elim)
end LAWN
