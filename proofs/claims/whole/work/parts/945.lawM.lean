/-! ===== a law's text: the class's conditions, at every depth ===== -/
def bAll1 (R_Lt_readAtom : MT → MI → Int32 → Option ((Unit ⊕ Nat) × MI)) (t : MT) (x1 : Int32) (x3_6 : Int32) (i_7 : MI) : Option ((Int32 × MI) ⊕ ((MI) ⊕ ((Unit ⊕ Nat) × MI))) := (R_Lt_readAtom t i_7 x1).bind (fun | (.inl (), i_12) => (if 0 < x3_6 then ((f_Lt_emit i_12 (-15)).bind (fun i_16 => some i_16)) else (some i_12) : Option (MI)).bind (fun i_14 => some (.inl ((x3_6 + 1), i_14))) | (.inr c_13, i_12) => some (.inr (.inr ((.inr c_13, i_12)))))
def bAll (R_Lt_readAtom : MT → MI → Int32 → Option ((Unit ⊕ Nat) × MI)) (t : MT) (x1 : Int32) (i_2 : MI) : Option ((MI) ⊕ ((Unit ⊕ Nat) × MI)) := itr (σ := Int32 × MI) (ρ := (MI) ⊕ ((Unit ⊕ Nat) × MI)) (fun (x3_6, i_7) => if x3_6 < 400 then (if x3_6 = 0 then ((R_Lt_readAtom t i_7 x1).bind (fun | (.inl (), i_12) => (if 0 < x3_6 then ((f_Lt_emit i_12 (-15)).bind (fun i_16 => some i_16)) else (some i_12) : Option (MI)).bind (fun i_14 => some (.inl ((x3_6 + 1), i_14))) | (.inr c_13, i_12) => some (.inr (.inr ((.inr c_13, i_12)))))) else ((f_Ta_takeWord t i_7 66).bind (fun (v_19, i_20) => if v_19 = 0 then (some (.inr (.inl i_20))) else ((R_Lt_readAtom t i_20 x1).bind (fun | (.inl (), i_23) => (if 0 < x3_6 then ((f_Lt_emit i_23 (-15)).bind (fun i_27 => some i_27)) else (some i_23) : Option (MI)).bind (fun i_25 => some (.inl ((x3_6 + 1), i_25))) | (.inr c_24, i_23) => some (.inr (.inr ((.inr c_24, i_23))))))))) else (some (.inr (.inl i_7)))) 1000000 (0, i_2)
def bCnd1 (R_Lt_readAtom : MT → MI → Int32 → Option ((Unit ⊕ Nat) × MI)) (t : MT) (x1 : Int32) (x2_1 : Int32) (i_2 : MI) : Option ((Int32 × MI) ⊕ ((Unit ⊕ Nat) × MI)) := (itr (σ := Int32 × MI) (ρ := (MI) ⊕ ((Unit ⊕ Nat) × MI)) (fun (x3_6, i_7) => if x3_6 < 400 then (if x3_6 = 0 then ((R_Lt_readAtom t i_7 x1).bind (fun | (.inl (), i_12) => (if 0 < x3_6 then ((f_Lt_emit i_12 (-15)).bind (fun i_16 => some i_16)) else (some i_12) : Option (MI)).bind (fun i_14 => some (.inl ((x3_6 + 1), i_14))) | (.inr c_13, i_12) => some (.inr (.inr ((.inr c_13, i_12)))))) else ((f_Ta_takeWord t i_7 66).bind (fun (v_19, i_20) => if v_19 = 0 then (some (.inr (.inl i_20))) else ((R_Lt_readAtom t i_20 x1).bind (fun | (.inl (), i_23) => (if 0 < x3_6 then ((f_Lt_emit i_23 (-15)).bind (fun i_27 => some i_27)) else (some i_23) : Option (MI)).bind (fun i_25 => some (.inl ((x3_6 + 1), i_25))) | (.inr c_24, i_23) => some (.inr (.inr ((.inr c_24, i_23))))))))) else (some (.inr (.inl i_7)))) 1000000 (0, i_2)).bind (fun | .inl i_8 => (if 0 < x2_1 then ((f_Lt_emit i_8 (-16)).bind (fun i_32 => some i_32)) else (some i_8) : Option (MI)).bind (fun i_30 => some (.inl ((x2_1 + 1), i_30))) | .inr y_34 => some (.inr (y_34)))
def CRi (n : Nat) (T : Nat → Int32) (i : MI) (x : Rz) (z : MI ⊕ ((Unit ⊕ Nat) × MI)) : Prop := match x with
  | .inl e => ∃ w, z = .inr (.inr 20, w) ∧ w 1595 2 = nI e ∧ fle i w
  | .inr p => ∃ w, z = .inl w ∧ TK w n T p.1 ∧ KCd w p.2 ∧ fl i w
def L2P (n : Nat) (T : Nat → Int32) (i : MI) (x : Rz) (op : Int32) (j : Nat) {α : Type} (E : Nat → α → Prop) : (Int32 × MI) ⊕ α → Prop := lpP (fun z => z.1 = nI (j + 1) ∧ ∃ p, x = .inr p ∧ TK z.2 n T p.1 ∧ KCd z.2 (if j = 0 then p.2 else pu1 p.2 op) ∧ fl i z.2) (fun y => ∃ e, x = .inl e ∧ E e y)
section LAWM2
variable {t : MT} {n : Nat} {T : Nat → Int32}
variable {Rc Ra : MT → MI → Int32 → Option ((Unit ⊕ Nat) × MI)}
theorem v_em3 {α : Type} {i : MI} {c : Cd} {j : Nat} (hj : j < 400) {s : Nat} (h : TK i n T s) (hc : KCd i c) (hl : c.1 < 400) (op : Int32) : Tt ((if 0 < nI j then ((f_Lt_emit i op).bind (fun i_18 => some i_18)) else (some i) : Option (MI)).bind (fun i_16 => (some (.inl ((nI j + 1), i_16)) : Option ((Int32 × MI) ⊕ α)))) (lpP (fun z => z.1 = nI (j + 1) ∧ TK z.2 n T s ∧ KCd z.2 (if j = 0 then c else pu1 c op) ∧ fl i z.2) (fun _ => False)) := by
  by_cases e : j = 0
  · rw [if_neg (fun q => (nI_gt0 (by omega)).mp q e), Option.bind_some, if_pos e]
    exact tt_some ⟨nI_1 j, h, hc, fl.refl i⟩
  · rw [if_pos ((nI_gt0 (by omega)).mpr e), if_neg e]
    refine tt_bind (tt_bind (v_emit hc hl op) (fun i3 h3 => tt_some (P := fun i3 => KCd i3 (pu1 c op) ∧ (∀ b j, ¬ (b = 1598 ∧ j = 6) → b ≠ 1602 → i3 b j = i b j)) h3)) (fun i3 h3 => ?_)
    exact tt_some ⟨nI_1 j, h.em h3.2, h3.1, fl_em h3.2⟩
theorem v_bAll1 (hn : n ≤ 400) {x1 : Int32} {f : Nat → Cd → Rz} (hr : RD t n T (fun i => Ra t i x1) f) (hg : GR n T true 0 f) {i : MI} {s : Nat} {c : Cd} (hS : SV t i) (hs : tks n T s) (h : TK i n T s) (hc : KCd i c) (hl : c.1 + 2 ≤ s) {j : Nat} (hj : j < 400) : Tt (bAll1 Ra t x1 (nI j) i) (L2P n T i (f s c) (-15) j (fun e y => CRi n T i (.inl e) y)) := by
  unfold bAll1
  refine tt_bind (hr i s c hS hs h hc hl) ?_
  rintro ⟨w, i3⟩ hw
  cases hq : f s c with
  | inl e =>
    rw [hq] at hw
    obtain ⟨w1, w2, w3⟩ := hw
    dsimp only at w1 w2 w3
    subst w1
    exact tt_some ⟨e, rfl, i3, rfl, w2, w3⟩
  | inr q =>
    rw [hq] at hw
    obtain ⟨w1, w2, w3, w4⟩ := hw
    dsimp only at w1 w2 w3 w4
    subst w1
    obtain ⟨g1, g2, g3⟩ := GR_at hg hs hq
    have := g2.2.1
    have := g1.1
    refine tt_mono (v_em3 hj w2 w3 (by omega) (-15)) ?_
    rintro (z | z) hz
    · exact ⟨hz.1, q, rfl, hz.2.1, hz.2.2.1, w4.trans hz.2.2.2⟩
    · exact hz.elim
theorem v_bAll (hn : n ≤ 400) {x1 : Int32} {f : Nat → Cd → Rz} (hr : RD t n T (fun i => Ra t i x1) f) (hg : GR n T true 0 f) {i : MI} {s : Nat} {c : Cd} (hS : SV t i) (hs : tks n T s) (h : TK i n T s) (hc : KCd i c) (hl : c.1 + 2 ≤ s) : Tt (bAll Ra t x1 i) (CRi n T i (rAll n T f s c)) := by
  unfold bAll
  refine tt_loop (CI n T i (wd n T 66) (nw n T) f (-15) (rAll n T f s c) s) n (by omega) (fun j hj z hz => ?_) (fun z hz => (CI_end (by omega) hs.1 hz).elim) ⟨rfl, Or.inl ⟨rfl, rfl⟩⟩
  obtain ⟨x, i1⟩ := z
  obtain ⟨e1, hz⟩ := hz
  dsimp only at e1 hz ⊢
  subst e1
  refine tt_ifp (nI_lt (b := 400) (by omega) (by decide)) ?_
  rcases hz with ⟨rfl, rfl⟩ | ⟨hj0, m, p, c1, ht, hm, hp, hk, a1, a2, a3, a4⟩
  · refine tt_ifp rfl ?_
    have hs1 := hs.1
    refine tt_mono (v_bAll1 hn hr hg hS hs h hc hl (j := 0) (by decide)) ?_
    rintro (z | z) hz
    · obtain ⟨b1, q, b2, b3, b4, b5⟩ := hz
      obtain ⟨d1, d2, d3⟩ := GR_at hg hs b2
      exact CI_one b2 b1 d1 d2 hl b3 b4 b5
    · obtain ⟨e, b2, b3⟩ := hz
      show CRi n T i1 (chf n _ _ _ _ s c) z
      unfold chf
      rw [b2]
      exact b3
  · refine tt_ifn (fun q => absurd ((nI_inj (b := 0) (by omega) (by omega)).mp q) (by omega)) ?_
    refine tt_bind (v_takeWord (k := 32) (hS.fl a3) hn (by decide) hk.1 a1) ?_
    rintro ⟨v, i2⟩ ⟨b1, b2, b3⟩
    dsimp only at b1 b2 b3 ⊢
    subst b1
    rw [show wd n T (2 * 32 + 2) p = wd n T 66 p from rfl] at b2 ⊢
    by_cases hw : wd n T 66 p = true
    · rw [if_pos hw] at b2
      rw [if_pos hw, if_neg (show ¬ (1 : Int32) = 0 by decide)]
      obtain ⟨x1, x2⟩ := nx_wd (k := 32) (by decide) p hk hw
      have hp2 : p < n := by have := x2.1; omega
      refine tt_mono (v_bAll1 hn hr hg ((hS.fl a3).fl b3.fl) x2 b2 (a2.ft b3) (by omega) (j := j) (by omega)) ?_
      rintro (z | z) hz
      · obtain ⟨y1, q, y2, y3, y4, y5⟩ := hz
        obtain ⟨d1, d2, d3⟩ := GR_at hg x2 y2
        rw [if_neg (by omega)] at y4
        exact CI_more hw hm hp2 x1 ht hp y2 y1 d1 d2 a4 (a3.trans b3.fl) y3 y4 y5
      · obtain ⟨e, y2, y3⟩ := hz
        show CRi n T i (rAll n T f s c) z
        rw [← ht, chn_err hw hm hp2 y2]
        (obtain ⟨w, y3, y4, y5⟩ := y3; exact ⟨w, y3, y4, (a3.trans b3.fl).e y5⟩)
    · rw [if_neg hw] at b2
      rw [if_neg hw, if_pos (show (0 : Int32) = 0 from rfl)]
      refine tt_some ?_
      show CRi n T i (rAll n T f s c) _
      rw [← ht, chn_end hw]
      exact ⟨i2, rfl, b2, a2.ft b3, a3.trans b3.fl⟩
theorem v_bCnd1 (hn : n ≤ 400) {x1 : Int32} {f : Nat → Cd → Rz} (hr : RD t n T (fun i => Ra t i x1) f) (hg : GR n T true 1 f) {i : MI} {s : Nat} {c : Cd} (hS : SV t i) (hs : tks n T s) (h : TK i n T s) (hc : KCd i c) (hl : c.1 + 2 ≤ s) {j : Nat} (hj : j < 400) : Tt (bCnd1 Ra t x1 (nI j) i) (L2P n T i (rAll n T f s c) (-16) j (fun e y => CRz n T i (.inl e) y)) := by
  have hga : GR n T true 0 (rAll n T f) := GR_all hg
  unfold bCnd1
  refine tt_bind (v_bAll hn hr (GR_le hg (by omega)) hS hs h hc hl) ?_
  intro w hw
  cases hq : rAll n T f s c with
  | inl e =>
    rw [hq] at hw
    obtain ⟨w1, rfl, w2, w3⟩ := hw
    exact tt_some ⟨e, rfl, rfl, w2, w3⟩
  | inr q =>
    rw [hq] at hw
    obtain ⟨i3, rfl, w2, w3, w4⟩ := hw
    dsimp only
    obtain ⟨g1, g2, g3⟩ := GR_at hga hs hq
    have := g2.2.1
    have := g1.1
    refine tt_mono (v_em3 hj w2 w3 (by omega) (-16)) ?_
    rintro (z | z) hz
    · exact ⟨hz.1, q, rfl, hz.2.1, hz.2.2.1, w4.trans hz.2.2.2⟩
    · exact hz.elim
theorem v_cnd (hn : n ≤ 400) {x1 : Int32} {f : Nat → Cd → Rz} (hr : RD t n T (fun i => Ra t i x1) f) (hg : GR n T true 1 f) : RD t n T (fun i => fb_Lt_readCondition Rc Ra t i x1) (rCnd n T f) := by
  intro i s c hS hs h hc hl
  have hga : GR n T true 0 (rAll n T f) := GR_all hg
  dsimp only
  unfold fb_Lt_readCondition
  refine tt_loop (CI n T i (wd n T 64) (nw n T) (rAll n T f) (-16) (rCnd n T f s c) s) n (by omega) (fun j hj z hz => ?_) (fun z hz => (CI_end (by omega) hs.1 hz).elim) ⟨rfl, Or.inl ⟨rfl, rfl⟩⟩
  obtain ⟨x, i1⟩ := z
  obtain ⟨e1, hz⟩ := hz
  dsimp only at e1 hz ⊢
  subst e1
  refine tt_ifp (nI_lt (b := 400) (by omega) (by decide)) ?_
  rcases hz with ⟨rfl, rfl⟩ | ⟨hj0, m, p, c1, ht, hm, hp, hk, a1, a2, a3, a4⟩
  · refine tt_ifp rfl ?_
    have hs1 := hs.1
    refine tt_mono (v_bCnd1 hn hr hg hS hs h hc hl (j := 0) (by decide)) ?_
    rintro (z | z) hz
    · obtain ⟨b1, q, b2, b3, b4, b5⟩ := hz
      obtain ⟨d1, d2, d3⟩ := GR_at hga hs b2
      exact CI_one b2 b1 d1 d2 hl b3 b4 b5
    · obtain ⟨e, b2, b3⟩ := hz
      show CRz n T i1 (chf n _ _ _ _ s c) z
      unfold chf
      rw [b2]
      exact b3
  · refine tt_ifn (fun q => absurd ((nI_inj (b := 0) (by omega) (by omega)).mp q) (by omega)) ?_
    refine tt_bind (v_takeWord (k := 31) (hS.fl a3) hn (by decide) hk.1 a1) ?_
    rintro ⟨v, i2⟩ ⟨b1, b2, b3⟩
    dsimp only at b1 b2 b3 ⊢
    subst b1
    rw [show wd n T (2 * 31 + 2) p = wd n T 64 p from rfl] at b2 ⊢
    by_cases hw : wd n T 64 p = true
    · rw [if_pos hw] at b2
      rw [if_pos hw, if_neg (show ¬ (1 : Int32) = 0 by decide)]
      obtain ⟨x1, x2⟩ := nx_wd (k := 31) (by decide) p hk hw
      have hp2 : p < n := by have := x2.1; omega
      refine tt_mono (v_bCnd1 hn hr hg ((hS.fl a3).fl b3.fl) x2 b2 (a2.ft b3) (by omega) (j := j) (by omega)) ?_
      rintro (z | z) hz
      · obtain ⟨y1, q, y2, y3, y4, y5⟩ := hz
        obtain ⟨d1, d2, d3⟩ := GR_at hga x2 y2
        rw [if_neg (by omega)] at y4
        exact CI_more hw hm hp2 x1 ht hp y2 y1 d1 d2 a4 (a3.trans b3.fl) y3 y4 y5
      · obtain ⟨e, y2, y3⟩ := hz
        show CRz n T i (rCnd n T f s c) z
        rw [← ht, chn_err hw hm hp2 y2]
        exact ⟨y3.1, y3.2.1, (a3.trans b3.fl).e y3.2.2⟩
    · rw [if_neg hw] at b2
      rw [if_neg hw, if_pos (show (0 : Int32) = 0 from rfl)]
      refine tt_some ?_
      show CRz n T i (rCnd n T f s c) _
      rw [← ht, chn_end hw]
      exact ⟨rfl, b2, a2.ft b3, a3.trans b3.fl⟩
/-- a condition, and its smallest part, that may go k deeper -/
theorem v_lx (hn : n ≤ 400) : ∀ k, k ≤ 6 → (∀ F, 2 * k + 2 ≤ F → RD t n T (fun i => (fx_Lt F).1 t i (nI (6 - k))) (lx n T k).1) ∧ (∀ F, 2 * k + 1 ≤ F → RD t n T (fun i => (fx_Lt F).2 t i (nI (6 - k))) (lx n T k).2)
  | 0, _ => by
    have ha : ∀ F, 1 ≤ F → RD t n T (fun i => (fx_Lt F).2 t i (nI 6)) (lx n T 0).2 := fun F hF => by
      obtain ⟨F', rfl⟩ : ∃ F', F = F' + 1 := ⟨F - 1, by omega⟩
      exact v_atm hn (d := 6) (by omega) ⟨fun _ => rfl, fun _ => rfl⟩ (fun R q => by cases q)
    refine ⟨fun F hF => ?_, ha⟩
    obtain ⟨F', rfl⟩ : ∃ F', F = F' + 1 := ⟨F - 1, by omega⟩
    exact v_cnd (Rc := (fx_Lt F').1) hn (ha F' (by omega)) (GR_le (GR_lx 0 (by omega)).2 (by omega))
  | k + 1, hk => by
    obtain ⟨h1, h2⟩ := v_lx hn k (by omega)
    obtain ⟨g1, g2⟩ := GR_lx (n := n) (T := T) k (by omega)
    have e : nI (6 - (k + 1)) + 1 = nI (6 - k) := by rw [nI_1]; exact congrArg nI (by omega)
    have ha : ∀ F, 2 * (k + 1) + 1 ≤ F → RD t n T (fun i => (fx_Lt F).2 t i (nI (6 - (k + 1)))) (lx n T (k + 1)).2 := fun F hF => by
      obtain ⟨F', rfl⟩ : ∃ F', F = F' + 1 := ⟨F - 1, by omega⟩
      refine v_atm (o := some (lx n T k)) hn (d := 6 - (k + 1)) (by omega) ⟨(fun q => by cases q), (fun q => absurd q (by omega))⟩ (fun R q => ?_)
      cases q
      rw [e]
      exact ⟨h1 F' (by omega), h2 F' (by omega), GR_le g1 (by omega), GR_le g2 (by omega)⟩
    refine ⟨fun F hF => ?_, ha⟩
    obtain ⟨F', rfl⟩ : ∃ F', F = F' + 1 := ⟨F - 1, by omega⟩
    exact v_cnd (Rc := (fx_Lt F').1) hn (ha F' (by omega)) (GR_le (GR_lx (k + 1) hk).2 (by omega))
end LAWM2
