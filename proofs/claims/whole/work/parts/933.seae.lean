/-! ===== the waters: the class ===== -/
section SEAE
variable {t : MT} {i : MI} {r : MR} {n : Nat} {T : Nat → Int32} {S : SS}
theorem v_rLine (hS : SV t i) (hn : n ≤ 400) {s : Nat} (hs : tks n T s) (h : TK i n T s) (hw : Wf S) (hv : CV i 1038 S) : Tt (f_Sx_readLine t i 1038) (CPl n T i (rLine n T S s)) := by
  unfold f_Sx_readLine rLine
  rw [show f_Ta_isWord t i 4 = some (if wd n T 4 s = true then 1 else 0) from v_isWord (k := 1) hS hn (by decide) hs.1 h, Option.bind_some]
  by_cases w4 : wd n T 4 s = true
  · rw [if_pos w4, if_neg (show ¬ (1 : Int32) = 0 by decide), if_pos w4]
    refine tt_bind (v_rCur hS hn hs h hw hv w4) ?_
    rintro ⟨v | v, i2⟩ hy
    · cases v; exact tt_some hy
    · exact tt_some hy
  rw [if_neg w4, if_pos (show (0 : Int32) = 0 from rfl), if_neg w4]
  rw [show f_Ta_isWord t i 16 = some (if wd n T 16 s = true then 1 else 0) from v_isWord (k := 7) hS hn (by decide) hs.1 h, Option.bind_some]
  by_cases w16 : wd n T 16 s = true
  · rw [if_pos w16, if_neg (show ¬ (1 : Int32) = 0 by decide), if_pos w16]
    by_cases hm : nf S < 8
    · refine tt_ifp (show i 1038 7 < 8 by rw [hv.1.1, hw.1.f]; exact nI_lt (b := 8) hm (by decide)) ?_
      rw [if_pos hm]
      refine tt_bind (v_rFish hS hn hs h hw hv hm w16) ?_
      rintro ⟨v | v, i2⟩ hy
      · cases v; exact tt_some hy
      · exact tt_some hy
    · have hle := hw.1.f8; have hle2 := hw.1.b3; have hle3 := hw.1.y5; have hle4 := hw.1.d6
      refine tt_ifn (show ¬ i 1038 7 < 8 by rw [hv.1.1, hw.1.f]; exact nI_nlt (b := 8) (by omega) (by omega)) ?_
      rw [if_neg hm]
      have no32 : ¬ wd n T 32 s = true := wd_no (k := 7) (k' := 15) (by decide) (by decide) w16 (by decide)
      have no38 : ¬ wd n T 38 s = true := wd_no (k := 7) (k' := 18) (by decide) (by decide) w16 (by decide)
      have no46 : ¬ wd n T 46 s = true := wd_no (k := 7) (k' := 22) (by decide) (by decide) w16 (by decide)
      have no50 : ¬ wd n T 50 s = true := wd_no (k := 7) (k' := 24) (by decide) (by decide) w16 (by decide)
      have no52 : ¬ wd n T 52 s = true := wd_no (k := 7) (k' := 25) (by decide) (by decide) w16 (by decide)
      rw [show f_Ta_isWord t i 32 = some (if wd n T 32 s = true then 1 else 0) from v_isWord (k := 15) hS hn (by decide) hs.1 h, Option.bind_some, if_neg no32, if_pos (show (0 : Int32) = 0 from rfl)]
      rw [show f_Ta_isWord t i 38 = some (if wd n T 38 s = true then 1 else 0) from v_isWord (k := 18) hS hn (by decide) hs.1 h, Option.bind_some, if_neg no38, if_pos (show (0 : Int32) = 0 from rfl)]
      rw [show f_Ta_isWord t i 46 = some (if wd n T 46 s = true then 1 else 0) from v_isWord (k := 22) hS hn (by decide) hs.1 h, Option.bind_some, if_neg no46, if_pos (show (0 : Int32) = 0 from rfl)]
      refine tt_bind (v_takeWord (k := 24) hS hn (by decide) hs.1 h) ?_
      rintro ⟨v, i2⟩ ⟨e1, e2, e3⟩
      dsimp only at e1 e2 e3 ⊢
      subst e1
      rw [show wd n T (2 * 24 + 2) s = wd n T 50 s from rfl, if_neg no50] at e2
      rw [show wd n T (2 * 24 + 2) s = wd n T 50 s from rfl, if_neg no50, if_pos (show (0 : Int32) = 0 from rfl)]
      refine tt_bind (v_takeWord (k := 25) (hS.ft e3) hn (by decide) hs.1 e2) ?_
      rintro ⟨v, i4⟩ ⟨g1, g2, g3⟩
      dsimp only at g1 g2 g3 ⊢
      subst g1
      rw [show wd n T (2 * 25 + 2) s = wd n T 52 s from rfl, if_neg no52] at g2
      rw [show wd n T (2 * 25 + 2) s = wd n T 52 s from rfl, if_neg no52, if_pos (show (0 : Int32) = 0 from rfl), v_refuse g2, Option.bind_some]
      exact tt_some ⟨rfl, (show wr i4 1595 2 (nI s) 1595 2 = _ from wr_s), (e3.trans g3).fxs.e fe_ref⟩
  rw [if_neg w16, if_pos (show (0 : Int32) = 0 from rfl), if_neg w16]
  rw [show f_Ta_isWord t i 32 = some (if wd n T 32 s = true then 1 else 0) from v_isWord (k := 15) hS hn (by decide) hs.1 h, Option.bind_some]
  by_cases w32 : wd n T 32 s = true
  · rw [if_pos w32, if_neg (show ¬ (1 : Int32) = 0 by decide), if_pos w32]
    by_cases hm : nb S < 3
    · refine tt_ifp (show i 1038 8 < 3 by rw [hv.1.2.1, hw.1.b]; exact nI_lt (b := 3) hm (by decide)) ?_
      rw [if_pos hm]
      refine tt_bind (v_rBoat hS hn hs h hw hv hm w32) ?_
      rintro ⟨v | v, i2⟩ hy
      · cases v; exact tt_some hy
      · exact tt_some hy
    · have hle := hw.1.f8; have hle2 := hw.1.b3; have hle3 := hw.1.y5; have hle4 := hw.1.d6
      refine tt_ifn (show ¬ i 1038 8 < 3 by rw [hv.1.2.1, hw.1.b]; exact nI_nlt (b := 3) (by omega) (by omega)) ?_
      rw [if_neg hm]
      have no38 : ¬ wd n T 38 s = true := wd_no (k := 15) (k' := 18) (by decide) (by decide) w32 (by decide)
      have no46 : ¬ wd n T 46 s = true := wd_no (k := 15) (k' := 22) (by decide) (by decide) w32 (by decide)
      have no50 : ¬ wd n T 50 s = true := wd_no (k := 15) (k' := 24) (by decide) (by decide) w32 (by decide)
      have no52 : ¬ wd n T 52 s = true := wd_no (k := 15) (k' := 25) (by decide) (by decide) w32 (by decide)
      rw [show f_Ta_isWord t i 38 = some (if wd n T 38 s = true then 1 else 0) from v_isWord (k := 18) hS hn (by decide) hs.1 h, Option.bind_some, if_neg no38, if_pos (show (0 : Int32) = 0 from rfl)]
      rw [show f_Ta_isWord t i 46 = some (if wd n T 46 s = true then 1 else 0) from v_isWord (k := 22) hS hn (by decide) hs.1 h, Option.bind_some, if_neg no46, if_pos (show (0 : Int32) = 0 from rfl)]
      refine tt_bind (v_takeWord (k := 24) hS hn (by decide) hs.1 h) ?_
      rintro ⟨v, i2⟩ ⟨e1, e2, e3⟩
      dsimp only at e1 e2 e3 ⊢
      subst e1
      rw [show wd n T (2 * 24 + 2) s = wd n T 50 s from rfl, if_neg no50] at e2
      rw [show wd n T (2 * 24 + 2) s = wd n T 50 s from rfl, if_neg no50, if_pos (show (0 : Int32) = 0 from rfl)]
      refine tt_bind (v_takeWord (k := 25) (hS.ft e3) hn (by decide) hs.1 e2) ?_
      rintro ⟨v, i4⟩ ⟨g1, g2, g3⟩
      dsimp only at g1 g2 g3 ⊢
      subst g1
      rw [show wd n T (2 * 25 + 2) s = wd n T 52 s from rfl, if_neg no52] at g2
      rw [show wd n T (2 * 25 + 2) s = wd n T 52 s from rfl, if_neg no52, if_pos (show (0 : Int32) = 0 from rfl), v_refuse g2, Option.bind_some]
      exact tt_some ⟨rfl, (show wr i4 1595 2 (nI s) 1595 2 = _ from wr_s), (e3.trans g3).fxs.e fe_ref⟩
  rw [if_neg w32, if_pos (show (0 : Int32) = 0 from rfl), if_neg w32]
  rw [show f_Ta_isWord t i 38 = some (if wd n T 38 s = true then 1 else 0) from v_isWord (k := 18) hS hn (by decide) hs.1 h, Option.bind_some]
  by_cases w38 : wd n T 38 s = true
  · rw [if_pos w38, if_neg (show ¬ (1 : Int32) = 0 by decide), if_pos w38]
    by_cases hm : ny S < 5
    · refine tt_ifp (show i 1038 9 < 5 by rw [hv.1.2.2.1, hw.1.y]; exact nI_lt (b := 5) hm (by decide)) ?_
      rw [if_pos hm]
      refine tt_bind (v_rBuyer hS hn hs h hw hv hm w38) ?_
      rintro ⟨v | v, i2⟩ hy
      · cases v; exact tt_some hy
      · exact tt_some hy
    · have hle := hw.1.f8; have hle2 := hw.1.b3; have hle3 := hw.1.y5; have hle4 := hw.1.d6
      refine tt_ifn (show ¬ i 1038 9 < 5 by rw [hv.1.2.2.1, hw.1.y]; exact nI_nlt (b := 5) (by omega) (by omega)) ?_
      rw [if_neg hm]
      have no46 : ¬ wd n T 46 s = true := wd_no (k := 18) (k' := 22) (by decide) (by decide) w38 (by decide)
      have no50 : ¬ wd n T 50 s = true := wd_no (k := 18) (k' := 24) (by decide) (by decide) w38 (by decide)
      have no52 : ¬ wd n T 52 s = true := wd_no (k := 18) (k' := 25) (by decide) (by decide) w38 (by decide)
      rw [show f_Ta_isWord t i 46 = some (if wd n T 46 s = true then 1 else 0) from v_isWord (k := 22) hS hn (by decide) hs.1 h, Option.bind_some, if_neg no46, if_pos (show (0 : Int32) = 0 from rfl)]
      refine tt_bind (v_takeWord (k := 24) hS hn (by decide) hs.1 h) ?_
      rintro ⟨v, i2⟩ ⟨e1, e2, e3⟩
      dsimp only at e1 e2 e3 ⊢
      subst e1
      rw [show wd n T (2 * 24 + 2) s = wd n T 50 s from rfl, if_neg no50] at e2
      rw [show wd n T (2 * 24 + 2) s = wd n T 50 s from rfl, if_neg no50, if_pos (show (0 : Int32) = 0 from rfl)]
      refine tt_bind (v_takeWord (k := 25) (hS.ft e3) hn (by decide) hs.1 e2) ?_
      rintro ⟨v, i4⟩ ⟨g1, g2, g3⟩
      dsimp only at g1 g2 g3 ⊢
      subst g1
      rw [show wd n T (2 * 25 + 2) s = wd n T 52 s from rfl, if_neg no52] at g2
      rw [show wd n T (2 * 25 + 2) s = wd n T 52 s from rfl, if_neg no52, if_pos (show (0 : Int32) = 0 from rfl), v_refuse g2, Option.bind_some]
      exact tt_some ⟨rfl, (show wr i4 1595 2 (nI s) 1595 2 = _ from wr_s), (e3.trans g3).fxs.e fe_ref⟩
  rw [if_neg w38, if_pos (show (0 : Int32) = 0 from rfl), if_neg w38]
  rw [show f_Ta_isWord t i 46 = some (if wd n T 46 s = true then 1 else 0) from v_isWord (k := 22) hS hn (by decide) hs.1 h, Option.bind_some]
  by_cases w46 : wd n T 46 s = true
  · rw [if_pos w46, if_neg (show ¬ (1 : Int32) = 0 by decide), if_pos w46]
    by_cases hm : nd S < 6
    · refine tt_ifp (show i 1038 10 < 6 by rw [hv.1.2.2.2.1, hw.1.d]; exact nI_lt (b := 6) hm (by decide)) ?_
      rw [if_pos hm]
      refine tt_bind (v_rDead hS hn hs h hw hv hm w46) ?_
      rintro ⟨v | v, i2⟩ hy
      · cases v; exact tt_some hy
      · exact tt_some hy
    · have hle := hw.1.f8; have hle2 := hw.1.b3; have hle3 := hw.1.y5; have hle4 := hw.1.d6
      refine tt_ifn (show ¬ i 1038 10 < 6 by rw [hv.1.2.2.2.1, hw.1.d]; exact nI_nlt (b := 6) (by omega) (by omega)) ?_
      rw [if_neg hm]
      have no50 : ¬ wd n T 50 s = true := wd_no (k := 22) (k' := 24) (by decide) (by decide) w46 (by decide)
      have no52 : ¬ wd n T 52 s = true := wd_no (k := 22) (k' := 25) (by decide) (by decide) w46 (by decide)
      refine tt_bind (v_takeWord (k := 24) hS hn (by decide) hs.1 h) ?_
      rintro ⟨v, i2⟩ ⟨e1, e2, e3⟩
      dsimp only at e1 e2 e3 ⊢
      subst e1
      rw [show wd n T (2 * 24 + 2) s = wd n T 50 s from rfl, if_neg no50] at e2
      rw [show wd n T (2 * 24 + 2) s = wd n T 50 s from rfl, if_neg no50, if_pos (show (0 : Int32) = 0 from rfl)]
      refine tt_bind (v_takeWord (k := 25) (hS.ft e3) hn (by decide) hs.1 e2) ?_
      rintro ⟨v, i4⟩ ⟨g1, g2, g3⟩
      dsimp only at g1 g2 g3 ⊢
      subst g1
      rw [show wd n T (2 * 25 + 2) s = wd n T 52 s from rfl, if_neg no52] at g2
      rw [show wd n T (2 * 25 + 2) s = wd n T 52 s from rfl, if_neg no52, if_pos (show (0 : Int32) = 0 from rfl), v_refuse g2, Option.bind_some]
      exact tt_some ⟨rfl, (show wr i4 1595 2 (nI s) 1595 2 = _ from wr_s), (e3.trans g3).fxs.e fe_ref⟩
  rw [if_neg w46, if_pos (show (0 : Int32) = 0 from rfl), if_neg w46]
  refine tt_bind (v_takeWord (k := 24) hS hn (by decide) hs.1 h) ?_
  rintro ⟨v, i2⟩ ⟨e1, e2, e3⟩
  dsimp only at e1 e2 e3 ⊢
  subst e1
  rw [show wd n T (2 * 24 + 2) s = wd n T 50 s from rfl] at e2 ⊢
  by_cases w50 : wd n T 50 s = true
  · rw [if_pos w50] at e2
    rw [if_pos w50, if_neg (show ¬ (1 : Int32) = 0 by decide), if_pos w50]
    refine tt_bind (v_number hn (lo := 0) (hi := 999) (by decide) (by decide) (tks_nw hs.1).1 e2) ?_
    rintro ⟨v, i6⟩ hx
    dsimp only at hx ⊢
    rcases hx.symm with ⟨ek, rfl, d1, d2⟩ | ⟨c, q1, ek, tq1, -, c24, rfl, d1, d2⟩
    · rw [ek, bd_l]; exact tt_some ⟨rfl, d1, (e3).fxs.e d2⟩
    · rw [ek, bd_r]
      dsimp only
      have f6 := (e3).trans d2
      have hv6 : CV i6 1038 S := hv.congr (fun b j hb hb2 => f6 b j (by omega)) hw.1
      exact tt_bnd (tt_some ⟨rfl, hw.one (by first | exact Or.inl ⟨rfl, c, c24, rfl⟩ | exact Or.inr (Or.inr (Or.inl ⟨rfl, c, by omega, rfl⟩))), hv6.scal hw.1 (by omega) (nI c), d1.wr (by decide) 12 (nI c), tq1, f6.fxs.w (by omega) 12 (nI c)⟩)
  rw [if_neg w50] at e2
  rw [if_neg w50, if_pos (show (0 : Int32) = 0 from rfl), if_neg w50]
  refine tt_bind (v_takeWord (k := 25) (hS.ft e3) hn (by decide) hs.1 e2) ?_
  rintro ⟨v, i4⟩ ⟨g1, g2, g3⟩
  dsimp only at g1 g2 g3 ⊢
  subst g1
  rw [show wd n T (2 * 25 + 2) s = wd n T 52 s from rfl] at g2 ⊢
  by_cases w52 : wd n T 52 s = true
  · rw [if_pos w52] at g2
    rw [if_pos w52, if_neg (show ¬ (1 : Int32) = 0 by decide), if_pos w52]
    refine tt_bind (v_number hn (lo := 0) (hi := 999) (by decide) (by decide) (tks_nw hs.1).1 g2) ?_
    rintro ⟨v, i6⟩ hx
    dsimp only at hx ⊢
    rcases hx.symm with ⟨ek, rfl, d1, d2⟩ | ⟨c, q1, ek, tq1, -, c24, rfl, d1, d2⟩
    · rw [ek, bd_l]; exact tt_some ⟨rfl, d1, (e3.trans g3).fxs.e d2⟩
    · rw [ek, bd_r]
      dsimp only
      have f6 := (e3.trans g3).trans d2
      have hv6 : CV i6 1038 S := hv.congr (fun b j hb hb2 => f6 b j (by omega)) hw.1
      exact tt_bnd (tt_some ⟨rfl, hw.one (by first | exact Or.inl ⟨rfl, c, c24, rfl⟩ | exact Or.inr (Or.inr (Or.inl ⟨rfl, c, by omega, rfl⟩))), hv6.scal hw.1 (by omega) (nI c), d1.wr (by decide) 14 (nI c), tq1, f6.fxs.w (by omega) 14 (nI c)⟩)
  rw [if_neg w52] at g2
  rw [if_neg w52, if_pos (show (0 : Int32) = 0 from rfl), if_neg w52, v_refuse g2, Option.bind_some]
  exact tt_some ⟨rfl, (show wr i4 1595 2 (nI s) 1595 2 = _ from wr_s), (e3.trans g3).fxs.e fe_ref⟩
/-- what is left to read when j lines are read -/
def tgt (n : Nat) (T : Nat → Int32) : Nat → SS → Nat → Nat ⊕ (SS × Nat)
  | 0, S, s => if s = n then .inr (S, s) else rLs n T 14 0 S s
  | j + 1, S, s => if s = n then .inr (S, s) else if sgn n T 59 s = true then (if j + 1 < 14 then rLs n T (14 - (j + 1)) (j + 1) S (sp n T (s + 1)) else .inl (sp n T (s + 1))) else .inl s
theorem rLs_tgt {j : Nat} (hj : j < 14) (S : SS) (s : Nat) : rLs n T (14 - j) j S s = bd (rLine n T S s) fun S1 s1 => tgt n T (j + 1) S1 s1 := by
  rw [show 14 - j = (14 - (j + 1)) + 1 by omega]
  rfl
theorem rSea_tgt : rSea n T S = tgt n T 0 S (sp n T 0) := by
  show (if sp n T 0 = n then Sum.inr (S, n) else rLs n T 14 0 S (sp n T 0)) = (if sp n T 0 = n then Sum.inr (S, sp n T 0) else rLs n T 14 0 S (sp n T 0))
  by_cases c : sp n T 0 = n
  · rw [if_pos c, if_pos c, c]
  · rw [if_neg c, if_neg c]
theorem tgt_end {j s : Nat} (h : s = n) : tgt n T j S s = .inr (S, s) := by
  cases j with
  | zero => exact if_pos h
  | succ j => exact if_pos h
theorem tgt_go {j s q : Nat} (h : ¬ s = n) (hj : j < 14) (hq : j = 0 ∧ q = s ∨ 0 < j ∧ sgn n T 59 s = true ∧ q = sp n T (s + 1)) : tgt n T j S s = rLs n T (14 - j) j S q := by
  cases j with
  | zero =>
    rcases hq with ⟨-, rfl⟩ | ⟨q, -⟩
    · exact if_neg h
    · omega
  | succ j =>
    rcases hq with ⟨q, -⟩ | ⟨-, q1, rfl⟩
    · omega
    · exact (if_neg h).trans ((if_pos q1).trans (if_pos hj))
theorem tgt_err {j s e : Nat} (h : ¬ s = n) (hj : 0 < j) (hq : sgn n T 59 s = true ∧ ¬ j < 14 ∧ e = sp n T (s + 1) ∨ ¬ sgn n T 59 s = true ∧ e = s) : tgt n T j S s = .inl e := by
  cases j with
  | zero => omega
  | succ j =>
    rcases hq with ⟨q1, q2, rfl⟩ | ⟨q1, rfl⟩
    · exact (if_neg h).trans ((if_pos q1).trans (if_neg q2))
    · exact (if_neg h).trans (if_neg q1)
theorem v_next (hn : n ≤ 400) {s j : Nat} (hj : j ≤ 14) (hs : tks n T s) (h : TK i n T s) : Tt (f_Ta_hasNextLine i (nI j) 14) (fun y => (s = n ∧ y = (.inl 0, i)) ∨ (¬ s = n ∧ j < 14 ∧ ∃ q, (j = 0 ∧ q = s ∨ 0 < j ∧ sgn n T 59 s = true ∧ q = sp n T (s + 1)) ∧ tks n T q ∧ y.1 = .inl 1 ∧ TK y.2 n T q ∧ ft i y.2) ∨ (¬ s = n ∧ 0 < j ∧ ∃ e, (sgn n T 59 s = true ∧ ¬ j < 14 ∧ e = sp n T (s + 1) ∨ ¬ sgn n T 59 s = true ∧ e = s) ∧ y.1 = .inr 20 ∧ y.2 1595 2 = nI e ∧ fe i y.2)) := by
  unfold f_Ta_hasNextLine
  have h4 : i 1595 4 = 0 ↔ s = n := by
    obtain ⟨-, -, -, -, h5⟩ := h
    obtain ⟨q1, q2⟩ := srt_lt (T s)
    rw [h5]
    by_cases e : s = n
    · rw [if_pos e]; exact ⟨fun _ => e, fun _ => rfl⟩
    · rw [if_neg e, nI_z (by omega)]; omega
  by_cases e : s = n
  · by_cases c : j = 0
    · rw [if_pos (show nI j = 0 by rw [c]; rfl), if_pos (h4.mpr e)]
      exact tt_some (Or.inl ⟨e, rfl⟩)
    · rw [if_neg (fun q => c ((nI_z (by omega)).mp q)), if_pos (h4.mpr e)]
      exact tt_some (Or.inl ⟨e, rfl⟩)
  · have e4 : ¬ i 1595 4 = 0 := fun q => e (h4.mp q)
    by_cases c : j = 0
    · rw [if_pos (show nI j = 0 by rw [c]; rfl), if_neg e4]
      exact tt_some (Or.inr (Or.inl ⟨e, by omega, s, Or.inl ⟨c, rfl⟩, hs, rfl, h, ft.refl i⟩))
    · rw [if_neg (fun q => c ((nI_z (by omega)).mp q)), if_neg e4]
      refine tt_bind (v_takeSign hn hs.1 h (c := 59) (by decide)) ?_
      rintro ⟨v, i2⟩ ⟨g1, g2, g3⟩
      dsimp only at g1 g2 g3 ⊢
      subst g1
      by_cases a : sgn n T 59 s = true
      · have hlt : s < n := by
          unfold sgn at a
          rw [Bool.and_eq_true, decide_eq_true_eq] at a
          exact a.1
        rw [if_pos a] at g2
        rw [if_pos a, if_neg (show ¬ (1 : Int32) = 0 by decide)]
        by_cases b : j < 14
        · rw [if_pos (show nI j < 14 from nI_lt (b := 14) b (by decide))]
          exact tt_some (Or.inr (Or.inl ⟨e, b, sp n T (s + 1), Or.inr ⟨by omega, a, rfl⟩, tks_sp (by omega), rfl, g2, g3⟩))
        · rw [if_neg (show ¬ nI j < 14 from nI_nlt (b := 14) (by omega) (by omega)), v_refuse g2, Option.bind_some]
          exact tt_some (Or.inr (Or.inr ⟨e, by omega, sp n T (s + 1), Or.inl ⟨a, b, rfl⟩, rfl, (show wr i2 1595 2 (nI (sp n T (s + 1))) 1595 2 = _ from wr_s), g3.fe.trans fe_ref⟩))
      · rw [if_neg a] at g2
        rw [if_neg a, if_pos (show (0 : Int32) = 0 from rfl), v_refuse g2, Option.bind_some]
        exact tt_some (Or.inr (Or.inr ⟨e, by omega, s, Or.inr ⟨a, rfl⟩, rfl, (show wr i2 1595 2 (nI s) 1595 2 = _ from wr_s), g3.fe.trans fe_ref⟩))
/-- what reading leaves alone -/
def fxr (i i' : MI) : Prop := (∀ b j, (b < 1038 ∨ 1069 ≤ b) → b ≠ 1595 → i' b j = i b j) ∧ i' 1595 0 = i 1595 0
theorem v_read (hS : SV t i) (hn : n ≤ 400) (ht : TC i n T) (hw : Wf S) (hv : CV i 1038 S) : Tt (f_Sx_read t i 1038) (fun y => y.2 1595 1 = 0 ∧ fxr i y.2 ∧ match rSea n T S with
    | .inl e => y.1 = .inr 20 ∧ y.2 1595 2 = nI e
    | .inr (S', q) => y.1 = .inl () ∧ y.2 1595 2 = -1 ∧ Wf S' ∧ CV y.2 1038 S') := by
  unfold f_Sx_read f_Ta_startText
  refine tt_bind (P1 := fun i' => TK i' n T (sp n T 0) ∧ i' 1595 1 = 0 ∧ i' 1595 2 = -1 ∧ (∀ b j, b ≠ 1595 → i' b j = i b j) ∧ i' 1595 0 = i 1595 0) ?_ ?_
  · refine tt_bnd ?_
    refine tt_bnd ?_
    refine tt_bnd ?_
    refine tt_bnd ?_
    rw [ht.1]
    generalize hi4 : wr (wr (wr (wr i 1595 3 (nI n)) 1595 1 0) 1595 2 (-1)) 1595 6 0 = i4
    have k1 : i4 1595 1 = 0 := by rw [← hi4, wr_k (by decide), wr_k (by decide), wr_s]
    have k2 : i4 1595 2 = -1 := by rw [← hi4, wr_k (by decide), wr_s]
    have k3 : i4 1595 3 = nI n := by rw [← hi4, wr_k (by decide), wr_k (by decide), wr_k (by decide), wr_s]
    have k6 : i4 1595 6 = nI 0 := by rw [← hi4, wr_s]; rfl
    have k0 : ∀ b j, b ≠ 1595 → i4 b j = i b j := fun b j hb2 => by rw [← hi4, wr_a hb2, wr_a hb2, wr_a hb2, wr_a hb2]
    have k00 : i4 1595 0 = i 1595 0 := by rw [← hi4, wr_k (by decide), wr_k (by decide), wr_k (by decide), wr_k (by decide)]
    refine tt_bind (v_stepAt (T := T) hn k3 (fun k hk => (k0 _ _ (by decide)).trans (ht.2 k hk)) (Nat.zero_le n) k6) ?_
    rintro i5 ⟨a1, a2⟩
    exact tt_some ⟨a1, by rw [a2 _ _ (by omega)]; exact k1, by rw [a2 _ _ (by omega)]; exact k2, fun b j hb2 => by rw [a2 _ _ (by omega)]; exact k0 b j hb2, by rw [a2 _ _ (by omega)]; exact k00⟩
  rintro i1 ⟨a1, a2, a3, a4, a5⟩
  have hS1 : SV t i1 := hS.congr (fun b j hb => a4 b j (by omega))
  have hv1 : CV i1 1038 S := hv.congr (fun b j hb hb2 => a4 b j (by omega)) hw.1
  have hE : ∀ (i' : MI) (e : Nat), rSea n T S = .inl e → i' 1595 2 = nI e → fxe i1 i' → (i' 1595 1 = 0 ∧ fxr i i' ∧ match rSea n T S with
    | .inl e => (Sum.inr 20 : Unit ⊕ Nat) = .inr 20 ∧ i' 1595 2 = nI e
    | .inr (S', q) => (Sum.inr 20 : Unit ⊕ Nat) = .inl () ∧ i' 1595 2 = -1 ∧ Wf S' ∧ CV i' 1038 S') := fun i' e h1 h2 h3 => by
    refine ⟨(h3 _ _ (by omega) (by omega)).trans a2, ⟨fun b j hb hb2 => (h3 b j hb (by omega)).trans (a4 b j hb2), (h3 _ _ (by omega) (by omega)).trans a5⟩, ?_⟩
    rw [h1]
    exact ⟨rfl, h2⟩
  have hO : ∀ (i' : MI) (S' : SS) (q : Nat), rSea n T S = .inr (S', q) → Wf S' → CV i' 1038 S' → fxs i1 i' → (i' 1595 1 = 0 ∧ fxr i i' ∧ match rSea n T S with
    | .inl e => (Sum.inl () : Unit ⊕ Nat) = .inr 20 ∧ i' 1595 2 = nI e
    | .inr (S', q) => (Sum.inl () : Unit ⊕ Nat) = .inl () ∧ i' 1595 2 = -1 ∧ Wf S' ∧ CV i' 1038 S') := fun i' S' q h1 h2 h4 h3 => by
    refine ⟨(h3 _ _ (by omega) (by omega)).trans a2, ⟨fun b j hb hb2 => (h3 b j hb (by omega)).trans (a4 b j hb2), (h3 _ _ (by omega) (by omega)).trans a5⟩, ?_⟩
    rw [h1]
    exact ⟨rfl, (h3 _ _ (by omega) (by omega)).trans a3, h2, h4⟩
  refine tt_loop (fun j (x : Int32 × MI) => x.1 = nI j ∧ ∃ S1 s1, rSea n T S = tgt n T j S1 s1 ∧ Wf S1 ∧ CV x.2 1038 S1 ∧ TK x.2 n T s1 ∧ tks n T s1 ∧ fxs i1 x.2) 14 (by omega) ?_ ?_ ⟨rfl, S, sp n T 0, rSea_tgt, hw, hv1, a1, tks_sp (Nat.zero_le n), fun _ _ _ _ => rfl⟩
  · rintro j hj ⟨z, i2⟩ ⟨e1, S1, s1, e2, e3, e4, e5, e6, e7⟩
    dsimp only at e1 e4 e5 e7 ⊢
    subst e1
    rw [if_neg (show ¬ (14 : Int32) < nI j from nI_nlt (a := 14) (by omega) (by omega))]
    refine tt_bind (v_next hn (by omega) e6 e5) ?_
    rintro ⟨v, i7⟩ hx
    dsimp only at hx ⊢
    rcases hx with ⟨c1, c2⟩ | ⟨c1, c2, q, c3, tq, rfl, c5, c6⟩ | ⟨c1, c2, e, c3, rfl, c5, c6⟩
    · obtain ⟨rfl, rfl⟩ := Prod.mk.inj c2
      dsimp only
      rw [if_pos (show (0 : Int32) = 0 from rfl)]
      exact tt_some (hO i7 S1 s1 (e2.trans (tgt_end c1)) e3 e4 e7)
    · dsimp only
      rw [if_neg (show ¬ (1 : Int32) = 0 by decide)]
      have et : rSea n T S = bd (rLine n T S1 q) fun S1 s1 => tgt n T (j + 1) S1 s1 := e2.trans ((tgt_go c1 c2 c3).trans (rLs_tgt c2 S1 q))
      have e8 := e7.trans c6.fxs
      have hv7 : CV i7 1038 S1 := e4.congr (fun b j hb hb2 => c6 b j (by omega)) e3.1
      refine tt_bind (v_rLine (hS1.fxs e8) hn tq c5 e3 hv7) ?_
      rintro ⟨v, i11⟩ hy
      cases hr : rLine n T S1 q with
      | inl e =>
        rw [hr] at hy et
        obtain ⟨rfl, y2, y3⟩ := hy
        exact tt_some (hE i11 e et y2 (fun b j hb hb2 => (y3 b j hb hb2).trans (e8 b j hb (by omega))))
      | inr p =>
        rw [hr] at hy et
        obtain ⟨rfl, y2, y3, y4, y5, y6⟩ := hy
        exact tt_some ⟨nI_1 j, p.1, p.2, et, y2, y3, y4, y5, e8.trans y6⟩
    · dsimp only
      exact tt_some (hE i7 e (e2.trans (tgt_err c1 c2 c3)) c5 (e7.e c6))
  · rintro ⟨z, i2⟩ ⟨e1, S1, s1, e2, e3, e4, e5, e6, e7⟩
    dsimp only at e1 e4 e5 e7 ⊢
    subst e1
    rw [if_neg (show ¬ (14 : Int32) < nI 14 from nI_nlt (a := 14) (by omega) (by omega))]
    refine tt_bind (v_next hn (by omega) e6 e5) ?_
    rintro ⟨v, i7⟩ hx
    dsimp only at hx ⊢
    rcases hx with ⟨c1, c2⟩ | ⟨c1, c2, q, c3, tq, rfl, c5, c6⟩ | ⟨c1, c2, e, c3, rfl, c5, c6⟩
    · obtain ⟨rfl, rfl⟩ := Prod.mk.inj c2
      dsimp only
      rw [if_pos (show (0 : Int32) = 0 from rfl)]
      exact tt_some (hO i7 S1 s1 (e2.trans (tgt_end c1)) e3 e4 e7)
    · omega
    · dsimp only
      exact tt_some (hE i7 e (e2.trans (tgt_err c1 c2 c3)) c5 (e7.e c6))
/-! the number of texts is kept -/
theorem bd_inr {α β : Type} {x : Nat ⊕ (α × Nat)} {f : α → Nat → Nat ⊕ β} {y : β} (h : bd x f = .inr y) : ∃ a q, x = .inr (a, q) ∧ f a q = .inr y := by
  cases x with
  | inl e => exact absurd h (fun q => by cases q)
  | inr p => exact ⟨p.1, p.2, rfl, h⟩
def kp4 (S : SS) (x : Nat ⊕ (SS × Nat)) : Prop := ∀ S' q, x = .inr (S', q) → S' 0 0 4 = S 0 0 4
theorem kp4_inr {S' : SS} {q : Nat} (h : S' 0 0 4 = S 0 0 4) : kp4 S (.inr (S', q)) := fun S2 q2 e => by
  have := Sum.inr.inj e
  have h2 := (Prod.mk.inj this).1
  rw [← h2]; exact h
theorem kp4_bd {α : Type} {x : Nat ⊕ (α × Nat)} {f : α → Nat → Nat ⊕ (SS × Nat)} (h : ∀ a q, kp4 S (f a q)) : kp4 S (bd x f) := fun S2 q2 e => by
  obtain ⟨a, q, -, e2⟩ := bd_inr e
  exact h a q S2 q2 e2
theorem kp4_inl {e : Nat} : kp4 S (.inl e) := fun _ _ h => by cases h
theorem kp4_rCl : ∀ k x (S1 : SS) s, S1 0 0 4 = S 0 0 4 → kp4 S (rCl n T k x S1 s)
  | 0, _, _, _, h => kp4_inr h
  | k + 1, x, S1, s, h => by
    show kp4 S (if s < n ∧ srt (T s) = 1 then (if x = 25 then .inl s else bd (wyr n T s) fun w s1 => rCl n T k (x + 1) (su S1 1 0 x (nI w)) s1) else .inr (S1, s))
    split
    · split
      · exact kp4_inl
      · exact kp4_bd (fun a q => kp4_rCl k (x + 1) _ q ((su_o (by omega)).trans h))
    · exact kp4_inr h
theorem kp4_line (s : Nat) : kp4 S (rLine n T S s) := by
  unfold rLine
  split
  · exact kp4_bd (fun _ _ => kp4_bd (fun _ _ => kp4_rCl _ _ _ _ (su_o (by omega))))
  · split
    · split
      · exact kp4_bd (fun _ _ => kp4_bd (fun _ _ => kp4_bd (fun _ _ => kp4_bd (fun _ _ => kp4_bd (fun _ _ => kp4_bd (fun _ _ => kp4_inr (by unfold sfi sad; rw [su_o (by omega), su_o (by omega), sa0_o (by omega)])))))))
      · exact kp4_inl
    · split
      · split
        · exact kp4_bd (fun _ _ => kp4_bd (fun _ _ => kp4_bd (fun _ _ => kp4_bd (fun _ _ => kp4_inr (sbo_o (by omega) (by omega))))))
        · exact kp4_inl
      · split
        · split
          · exact kp4_bd (fun _ _ => kp4_bd (fun _ _ => kp4_bd (fun _ _ => kp4_bd (fun _ _ => kp4_bd (fun _ _ => kp4_inr (syo_o (by omega) (by omega)))))))
          · exact kp4_inl
        · split
          · split
            · exact kp4_bd (fun _ _ => kp4_bd (fun _ _ => kp4_bd (fun _ _ => kp4_inr (sdo_o (by omega) (by omega)))))
            · exact kp4_inl
          · split
            · exact kp4_bd (fun _ _ => kp4_inr (su_o (by omega)))
            · split
              · exact kp4_bd (fun _ _ => kp4_inr (su_o (by omega)))
              · exact kp4_inl
theorem kp4_rLs : ∀ k x (S1 : SS) s, S1 0 0 4 = S 0 0 4 → kp4 S (rLs n T k x S1 s)
  | 0, _, _, _, h => kp4_inr h
  | k + 1, x, S1, s, h => fun S2 q2 e => by
    obtain ⟨a, q, e1, e2⟩ := bd_inr (show bd (rLine n T S1 s) (fun S1 s1 => if s1 = n then .inr (S1, s1) else if sgn n T 59 s1 = true then (if x + 1 < 14 then rLs n T k (x + 1) S1 (sp n T (s1 + 1)) else .inl (sp n T (s1 + 1))) else .inl s1) = .inr (S2, q2) from e)
    have h2 : a 0 0 4 = S 0 0 4 := (kp4_line (S := S1) s a q e1).trans h
    have : kp4 S (if q = n then .inr (a, q) else if sgn n T 59 q = true then (if x + 1 < 14 then rLs n T k (x + 1) a (sp n T (q + 1)) else .inl (sp n T (q + 1))) else .inl q) := by
      split
      · exact kp4_inr h2
      · split
        · split
          · exact kp4_rLs k (x + 1) a _ h2
          · exact kp4_inl
        · exact kp4_inl
    exact this S2 q2 e2
theorem kp4_sea : kp4 S (rSea n T S) := by
  unfold rSea
  split
  · exact kp4_inr rfl
  · exact kp4_rLs _ _ _ _ rfl
def spWaters (n : Nat) (T : Nat → Int32) (W : PW) : (Int32 × Int32) × Int32 × PW := match rSea n T W.1 with
  | .inl e => ((1, 0), nI e, W)
  | .inr (S', _) => if W.1 0 0 4 = 12 then ((2, 0), -1, W) else ((0, S' 0 0 4 + 1), -1, (su S' 0 0 4 (S' 0 0 4 + 1), 0, W.2.2))
end SEAE
