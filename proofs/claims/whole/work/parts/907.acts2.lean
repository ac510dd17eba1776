/-! ===== acts, 2: release, sell, days, undo ===== -/
def LwOK (lw : Nat) : Prop := lw = 1032 ∨ 1659 ≤ lw
theorem LwOK.a {lw : Nat} (h : LwOK lw) : lw + 1 < 1149 ∨ 1595 ≤ lw + 1 := by unfold LwOK at h; omega
theorem LwOK.n {lw : Nat} (h : LwOK lw) : NA 1001 lw := by unfold LwOK at h; unfold NA; omega
theorem CW.congr1 {i i' : MI} {r : MR} {lw : Nat} {W : PW} (hw : WW W) (h : CW i r lw W) (hlw : LwOK lw) (he : ∀ b j, b ≠ lw + 1 → i' b j = i b j) : CW i' r lw W := by
  unfold LwOK at hlw
  exact ⟨h.1.congr (fun b j _ _ => he b j (by omega)) hw.1.1, h.2.1, h.2.2.congr hw.2.2 (fun b j _ _ => he b j (by omega)) (fun _ _ _ _ => rfl)⟩
def rel (S : SS) (f : Nat) : Int32 := if S 2 f 3 = 2 then 0 else cel S f
def spRelease (W : PW) (x : Int32) : (Int32 × Int32) × PW := if okx x (nf W.1) = true then (if W.1 2 (ix x) 3 = 0 ∨ W.1 2 (ix x) 3 = 3 then ((2, 0), W) else ((0, rel W.1 (ix x)), psh W (sfp W.1 (ix x) 0 (rel W.1 (ix x))))) else ((1, 0), W)
def spSell (W : PW) (L : LW) (x y : Int32) : (Int32 × Int32) × PW := if okx x (nf W.1) = true ∧ okx y (ny W.1) = true then (if W.1 2 (ix x) 3 = 2 ∧ ¬ W.1 4 (ix y) 1 < spr W.1 L (ix x) then ((0, spr W.1 L (ix x)), psh W (sld W.1 L (ix x) (ix y) 3)) else ((2, 0), W)) else ((1, 0), W)
def spDays (W : PW) (L : LW) (x : Int32) : (Int32 × Int32) × PW := if win x 1 60 = true then ((0, smx W.1 L true (ix x)), psh W (itx W.1 L true (ix x))) else ((1, 0), W)
def spUndo (W : PW) : (Int32 × Int32) × PW := if W.2.1 = 0 then ((0, 0), W) else ((0, 1), (W.2.2 0, W.2.1 - 1, fun k => W.2.2 (k + 1)))
theorem rel_c {S : SS} (hw : Wf S) {f : Nat} (hf : f < nf S) (h0 : ¬ (S 2 f 3 = 0 ∨ S 2 f 3 = 3)) : ∃ c, c < 25 ∧ rel S f = nI c := by
  obtain ⟨-, -, -, k3⟩ := hw.2.2.1 f hf
  unfold rel cel
  rcases k3 with ⟨e, -⟩ | ⟨e, b, hb, e2⟩ | ⟨e, -⟩ | ⟨e, -⟩
  · exact absurd (Or.inl e) h0
  · obtain ⟨⟨c, hc, ec⟩, -⟩ := hw.2.2.2.1 b hb
    rw [e, if_neg (by decide), if_neg (by decide), if_pos rfl, e2, ix_nI (by have := hw.1.b3; omega)]
    exact ⟨c, hc, ec⟩
  · rw [if_pos e]; exact ⟨0, by decide, rfl⟩
  · exact absurd (Or.inr e) h0
section ACTS2
variable {i : MI} {t : MT} {r : MR} {lw : Nat} {W : PW} {L : LW}
theorem v_release (hw : WW W) (h : CW i r lw W) (hlw : LwOK lw) (x : Int32) : Tt (f_Lc_release r i x) (CA [22, 21] lw i r (spRelease W x)) := by
  have h8 := hw.1.1.f8
  unfold f_Lc_release spRelease
  rw [v_needFish hw.1.1 h.1]
  by_cases hx : okx x (nf W.1) = true
  · rw [if_pos hx, if_pos hx, Option.bind_some]
    obtain ⟨f, hf, rfl⟩ := okx_of (by omega) hx
    dsimp only
    have f3 : i (1001 + 3 + f) 3 = W.1 2 f 3 := (h.1.2.2.1 f hf).2.2.2.1
    rw [grd_nI (show f < 8 by omega) (by decide), ix_nI (by omega)]
    by_cases c0 : W.1 2 f 3 = 0
    · rw [if_pos (Or.inl c0)]
      exact tt_ifp (f3.trans c0) (tt_some (ca_er hw h rfl))
    · refine tt_ifn (fun q => c0 (f3.symm.trans q)) ?_
      by_cases c3 : W.1 2 f 3 = 3
      · rw [if_pos (Or.inr c3)]
        exact tt_ifp (f3.trans c3) (tt_some (ca_er hw h rfl))
      · refine tt_ifn (fun q => c3 (f3.symm.trans q)) ?_
        have hn : ¬ (W.1 2 f 3 = 0 ∨ W.1 2 f 3 = 3) := fun q => q.elim c0 c3
        rw [if_neg hn]
        refine tt_bind (v_remember hw h) ?_
        rintro ⟨i2, r3⟩ hm
        have h2 : CV i2 1001 W.1 := h.1.congr (fun b j _ hb => hm.2.1 b j (by omega)) hw.1.1
        have g3 : i2 (1001 + 3 + f) 3 = W.1 2 f 3 := (h2.2.2.1 f hf).2.2.2.1
        dsimp only at hm ⊢
        refine tt_bind (P1 := fun v => v = rel W.1 f) ?_ ?_
        · unfold rel
          by_cases c2 : W.1 2 f 3 = 2
          · rw [if_pos c2]
            exact tt_ifp (g3.trans c2) (tt_some rfl)
          · rw [if_neg c2]
            refine tt_ifn (fun q => c2 (g3.symm.trans q)) ?_
            rw [v_cellOf hw.1 h2 hf]; exact tt_some rfl
        · rintro v rfl
          refine tt_bind (v_put (st := 0) (pl := rel W.1 f) hw.1.1 h2 (show f < 8 by omega) (by unfold spo; rw [if_pos rfl]) (by unfold abo; rw [if_neg (by decide)])) ?_
          rintro i4 ⟨⟨u1, -⟩, u2⟩
          exact tt_some (ca_ok hw h hlw.a (hw.1.sfp (Or.inl ⟨rfl, rel_c hw.1 hf hn⟩)) hm u1 (fun b j hb _ => u2 b j (by omega)))
  · rw [if_neg hx, if_neg hx]; exact tt_some (ca_er hw h rfl)
theorem m_release (hw : WW W) (h : MW i W) (x : Int32) : Tt (f_Mo_release i x) (MA i (spRelease W x)) := by
  have h8 := hw.1.1.f8
  have h1 := h.t 0
  unfold f_Mo_release spRelease
  refine tt_bnd ?_
  rw [m_noFish hw.1.1 h1.1, Option.bind_some]
  by_cases hx : okx x (nf W.1) = true
  · rw [if_pos hx, if_pos hx, thr0, Option.bind_some]
    obtain ⟨f, hf, rfl⟩ := okx_of (by omega) hx
    dsimp only
    have g3 : f_Mo_of (wr i 1638 0 0) (nI f) 3 = some (W.1 2 f 3) := m_of h1.1 (k := 3) (by omega) (by decide)
    rw [if_pos rfl, g3, ix_nI (by omega), Option.bind_some, Option.bind_some]
    refine tt_bind (P1 := fun v => v = if W.1 2 f 3 = 0 ∨ W.1 2 f 3 = 3 then 1 else 0) ?_ ?_
    · by_cases c0 : W.1 2 f 3 = 0
      · rw [if_pos c0, if_pos (Or.inl c0)]; exact tt_some rfl
      · rw [if_neg c0]
        by_cases c3 : W.1 2 f 3 = 3
        · rw [if_pos c3, if_pos (Or.inr c3)]; exact tt_some rfl
        · rw [if_neg c3, if_neg (fun q => q.elim c0 c3)]; exact tt_some rfl
    · rintro v rfl
      by_cases hn : W.1 2 f 3 = 0 ∨ W.1 2 f 3 = 3
      · rw [if_pos hn, if_pos hn, thr1, Option.bind_some]
        dsimp only
        rw [if_neg (by decide)]
        exact tt_some (ma_er (by decide) h)
      · rw [if_neg hn, if_neg hn, thr0, Option.bind_some]
        dsimp only
        rw [if_pos rfl]
        refine tt_bind (m_remembers hw h1) ?_
        rintro i1 ⟨e2, e3⟩
        have h2 := rem_mv h1.1 e3
        have k3 : f_Mo_of i1 (nI f) 3 = some (W.1 2 f 3) := m_of h2 (k := 3) (by omega) (by decide)
        rw [k3, Option.bind_some]
        refine tt_bind (P1 := fun v => v = rel W.1 f) ?_ ?_
        · unfold rel
          by_cases c2 : W.1 2 f 3 = 2
          · rw [if_pos c2, if_pos c2]; exact tt_some rfl
          · rw [if_neg c2, if_neg c2, m_cellOf hw.1 h2 hf]; exact tt_some rfl
        · rintro v rfl
          refine tt_bind (m_nowIn h2 (show f < 8 by omega) 0 (rel W.1 f)) ?_
          rintro i4 ⟨u1, u2, u3⟩
          have g4 := m_of u1 (show f < 8 by omega) (show 4 < 5 by decide)
          rw [show sfp W.1 f 0 (rel W.1 f) 2 f 4 = rel W.1 f by unfold sfp; rw [su_s]] at g4
          refine tt_eq g4 ?_
          refine tt_some (ma_ok ((u2 1638 0 (by decide)).trans ((e3 1638 0 (by decide) (by omega)).trans wr_s)) rfl ⟨u1, e2.congr (fun j => u2 1643 j (by decide)) (u2 1638 7 (by decide)) (u3 5 (by omega))⟩ ((fA_rem e3).trans (fA_fm (fm_of u2 u3))))
  · rw [if_neg hx, if_neg hx, thr1, Option.bind_some]
    dsimp only
    rw [if_neg (by decide)]
    exact tt_some (ma_er (by decide) h)
theorem v_sell (hw : WW W) (h : CW i r lw W) (hlw : LwOK lw) (hL : WL L) (hl : CL t i lw L) (x y : Int32) : Tt (f_Lc_sell t r i x y) (CA [22, 21] lw i r (spSell W L x y)) := by
  have h8 := hw.1.1.f8
  have h5 := hw.1.1.y5
  obtain rfl := h.2.1
  unfold f_Lc_sell spSell
  rw [v_needFish hw.1.1 h.1]
  by_cases hx : okx x (nf W.1) = true
  · rw [if_pos hx, Option.bind_some]
    dsimp only
    rw [v_needBuyer hw.1.1 h.1]
    by_cases hy : okx y (ny W.1) = true
    · rw [if_pos hy, Option.bind_some, if_pos (show okx x (nf W.1) = true ∧ okx y (ny W.1) = true from ⟨hx, hy⟩)]
      obtain ⟨f, hf, rfl⟩ := okx_of (by omega) hx
      obtain ⟨b, hb, rfl⟩ := okx_of (by omega) hy
      dsimp only
      rw [v_onSlab hw.1.1 h.1 hf, ix_nI (by omega), ix_nI (by omega)]
      by_cases c : W.1 2 f 3 = 2
      · rw [if_pos c, Option.bind_some]
        dsimp only
        refine tt_bind (v_price hw.1.1 h.1 hL hl hlw.n hf) ?_
        rintro ⟨v, i5⟩ ⟨e1, e2⟩
        dsimp only at e1 e2 ⊢
        subst e1
        have h6 := h.congr1 hw hlw e2
        have m1 : i5 (1001 + 16 + b) 1 = W.1 4 b 1 := (h6.1.2.2.2.2.1 b hb).2.1
        rw [grd_nI (show b < 5 by omega) (by decide)]
        by_cases c2 : W.1 4 b 1 < spr W.1 L f
        · rw [if_neg (fun q : W.1 2 f 3 = 2 ∧ ¬ W.1 4 b 1 < spr W.1 L f => q.2 c2)]
          refine tt_ifp (by rw [m1]; exact c2) (tt_some ⟨rfl, ⟨hw, h6⟩, fun b j _ _ hb _ => e2 b j hb, fun _ _ _ _ => rfl⟩)
        · rw [if_pos (show W.1 2 f 3 = 2 ∧ ¬ W.1 4 b 1 < spr W.1 L f from ⟨c, c2⟩)]
          refine tt_ifn (by rw [m1]; exact c2) ?_
          refine tt_bind (v_remember hw h6) ?_
          rintro ⟨i7, r8⟩ hm
          have h2 : CV i7 1001 W.1 := h6.1.congr (fun b j _ hb => hm.2.1 b j (by omega)) hw.1.1
          dsimp only at hm ⊢
          refine tt_bind (v_sellTo hw.1.1 h2 hf hb 3 (r 1001 16)) ?_
          rintro i9 ⟨u1, u2⟩
          obtain ⟨a1, a2, a3, a4⟩ := ca_ok (tg := [22, 21]) (v := spr W.1 L f) hw h6 hlw.a (sld_wf hw.1 hL hf c2).1 hm u1 (fun b j hb hb2 => u2 b j (by omega) hb2)
          exact tt_some ⟨a1, a2, fa.trans (fun b j _ _ hb _ => e2 b j hb) a3, a4⟩
      · rw [if_neg c, if_neg (fun q : W.1 2 f 3 = 2 ∧ ¬ W.1 4 b 1 < spr W.1 L f => c q.1)]; exact tt_some (ca_er hw h rfl)
    · rw [if_neg hy, if_neg (fun q : okx x (nf W.1) = true ∧ okx y (ny W.1) = true => hy q.2)]; exact tt_some (ca_er hw h rfl)
  · rw [if_neg hx, if_neg (fun q : okx x (nf W.1) = true ∧ okx y (ny W.1) = true => hx q.1)]; exact tt_some (ca_er hw h rfl)
theorem m_sell (hw : WW W) (h : MW i W) (hL : WL L) (hl : ML i L) (x y : Int32) : Tt (f_Mo_sell i x y) (MA i (spSell W L x y)) := by
  have h8 := hw.1.1.f8
  have h5 := hw.1.1.y5
  have h1 := h.t 0
  have l1 := ml_t hl 0
  unfold f_Mo_sell spSell
  refine tt_bnd ?_
  rw [m_noFish hw.1.1 h1.1, Option.bind_some]
  refine tt_bind (P1 := fun v => v = if okx x (nf W.1) = true ∧ okx y (ny W.1) = true then 0 else 1) ?_ ?_
  · by_cases hx : okx x (nf W.1) = true
    · rw [if_pos hx, if_pos rfl, m_noBuyer hw.1.1 h1.1, Option.bind_some]
      by_cases hy : okx y (ny W.1) = true
      · rw [if_pos hy, if_pos rfl, if_pos ⟨hx, hy⟩]; exact tt_some rfl
      · rw [if_neg hy, if_neg (by decide), if_neg (fun q => hy q.2)]; exact tt_some rfl
    · rw [if_neg hx, if_neg (by decide), if_neg (fun q => hx q.1)]; exact tt_some rfl
  · rintro v rfl
    by_cases hc : okx x (nf W.1) = true ∧ okx y (ny W.1) = true
    · rw [if_pos hc, if_pos hc, thr0, Option.bind_some]
      obtain ⟨f, hf, rfl⟩ := okx_of (by omega) hc.1
      obtain ⟨b, hb, rfl⟩ := okx_of (by omega) hc.2
      dsimp only
      have g3 : f_Mo_of (wr i 1638 0 0) (nI f) 3 = some (W.1 2 f 3) := m_of h1.1 (k := 3) (by omega) (by decide)
      rw [if_pos rfl, g3, ix_nI (by omega), ix_nI (by omega), Option.bind_some]
      refine tt_bind (P1 := fun v => v.1 = (if W.1 2 f 3 = 2 ∧ ¬ W.1 4 b 1 < spr W.1 L f then 0 else 1) ∧ ∀ b j, b ≠ 1646 → v.2 b j = wr i 1638 0 0 b j) ?_ ?_
      · by_cases c : W.1 2 f 3 = 2
        · refine tt_ifp c ?_
          refine tt_bind (m_price hw.1.1 h1.1 hL l1 hf) ?_
          rintro ⟨v, i5⟩ ⟨e1, e2⟩
          dsimp only at e1 e2 ⊢
          subst e1
          have h2 : MV i5 W.1 := h1.1.congr (fun k => e2 1639 k (by decide))
          have m1 : f_Mo_ofBuyer i5 (nI b) 1 = some (W.1 4 b 1) := m_buyer h2 (k := 1) (by omega) (by decide)
          rw [m1, Option.bind_some]
          by_cases c2 : W.1 4 b 1 < spr W.1 L f
          · rw [if_pos c2, if_neg (fun q => q.2 c2)]; exact tt_some ⟨rfl, e2⟩
          · rw [if_neg c2, if_pos ⟨c, c2⟩]; exact tt_some ⟨rfl, e2⟩
        · refine tt_ifn c ?_
          rw [if_neg (fun q => c q.1)]; exact tt_some ⟨rfl, fun _ _ _ => rfl⟩
      · rintro ⟨v, i5⟩ ⟨e1, e2⟩
        dsimp only at e1 e2 ⊢
        subst e1
        have h2 : MW i5 W := ⟨h1.1.congr (fun k => e2 1639 k (by decide)), h1.2.congr (fun j => e2 1643 j (by decide)) (e2 1638 7 (by decide)) (e2 1639 5 (by decide))⟩
        have f5 : fA (wr i 1638 0 0) i5 := fA_fm (fm_46 e2)
        by_cases c : W.1 2 f 3 = 2 ∧ ¬ W.1 4 b 1 < spr W.1 L f
        · rw [if_pos c, if_pos c, thr0, Option.bind_some]
          dsimp only
          rw [if_pos rfl]
          refine tt_bind (m_remembers hw h2) ?_
          rintro i6 ⟨g1, g2⟩
          have l6 : ML i6 L := l1.congr (fun k => (g2 1639 k (by decide) (by omega)).trans (e2 1639 k (by decide)))
          refine tt_bind (m_sold hw.1.1 (rem_mv h2.1 g2) hL l6 hf hb 3) ?_
          rintro ⟨v, i7⟩ ⟨u1, u2, u3⟩
          dsimp only at u1 u2 u3 ⊢
          exact tt_some (ma_ok ((u3.1 1638 0 (by decide) (by decide) (by decide)).trans ((g2 1638 0 (by decide) (by omega)).trans ((e2 1638 0 (by decide)).trans wr_s))) u1 ⟨u2, g1.congr (fun j => u3.1 1643 j (by decide) (by decide) (by decide)) (u3.1 1638 7 (by decide) (by decide) (by decide)) (u3.2 5 (by omega))⟩ ((f5.trans (fA_rem g2)).trans (fA_fm u3)))
        · rw [if_neg c, if_neg c, thr1, Option.bind_some]
          dsimp only
          rw [if_neg (by decide)]
          exact tt_some ⟨show wr i5 1638 0 2 1638 0 = 2 from wr_s, fun q => absurd q (show ¬ (2 : Int32) = 0 by decide), h2.t 2, fA_t ((fA_t (fA.refl i) 0).trans f5) 2⟩
    · rw [if_neg hc, if_neg hc, thr1, Option.bind_some]
      dsimp only
      rw [if_neg (by decide)]
      exact tt_some (ma_er (by decide) h)
theorem v_runS {S : SS} (hw : Wf S) (h : CV i 1001 S) (hL : WL L) (hl : CL t i (r 1001 16) L) (hna : NA 1001 (r 1001 16)) (bu : Bool) {n : Nat} (hn : n ≤ 60) : Tt (itr (fun (s : Int32 × Int32 × MI) => if s.2.1 < nI n then ((f_Se_passDay t r s.2.2 1001 (if bu = true then 1 else 0)).bind (fun z => some (Sum.inl (s.1 + z.1, s.2.1 + 1, z.2)))) else (some (Sum.inr (s.1, s.2.2)))) 1000000 ((0 : Int32), (0 : Int32), i)) (fun y => y.1 = smx S L bu n ∧ (Wf (itx S L bu n) ∧ kp S (itx S L bu n) ∧ CV y.2 1001 (itx S L bu n)) ∧ fr 1001 (r 1001 16) i y.2) := by
  have hna' := hna
  unfold NA at hna'
  refine tt_loop (fun q (s : Int32 × Int32 × MI) => s.1 = smx S L bu q ∧ s.2.1 = nI q ∧ (Wf (itx S L bu q) ∧ kp S (itx S L bu q) ∧ CV s.2.2 1001 (itx S L bu q)) ∧ fr 1001 (r 1001 16) i s.2.2) n (by omega) ?_ ?_ ⟨rfl, rfl, ⟨hw, kp.refl _, h⟩, fr.refl _ _ _⟩
  · rintro q hq ⟨x2, x3, i7⟩ ⟨e0, e1, ⟨e2, e3, e4⟩, e5⟩
    dsimp only at e0 e1 e2 e3 e4 e5 ⊢
    subst e0 e1
    rw [if_pos (nI_lt hq (by omega))]
    have l7 : CL t i7 (r 1001 16) L := hl.congr (fun b k hb => e5 b k (by omega) (by omega))
    refine tt_bind (v_passDay e2 e4 hL l7 hna bu) ?_
    rintro ⟨v, i8⟩ ⟨⟨u1, u2, u3⟩, u4, u5⟩
    dsimp only at u4
    subst u4
    exact tt_some ⟨rfl, nI_1 q, ⟨u1, e3.trans u2, u3⟩, e5.trans u5⟩
  · rintro ⟨x2, x3, i7⟩ ⟨e0, e1, e2, e5⟩
    dsimp only at e0 e1 e2 e5 ⊢
    subst e0 e1
    rw [if_neg (nI_nlt (Nat.le_refl _) (by omega))]
    exact tt_some ⟨rfl, e2, e5⟩
theorem v_days (hw : WW W) (h : CW i r lw W) (hlw : LwOK lw) (hL : WL L) (hl : CL t i lw L) (x : Int32) : Tt (f_Lc_days t r i x) (CA [20] lw i r (spDays W L x)) := by
  have hlw' := hlw
  unfold LwOK at hlw'
  unfold f_Lc_days spDays
  rw [v_within]
  by_cases hx : win x 1 60 = true
  · rw [if_pos hx, if_pos hx, Option.bind_some]
    obtain ⟨n, hn1, hn, rfl⟩ := win1_of (n := 60) (by decide) hx
    dsimp only
    refine tt_bind (v_remember hw h) ?_
    rintro ⟨i2, r3⟩ hm
    have h2 : CV i2 1001 W.1 := h.1.congr (fun b j _ hb => hm.2.1 b j (by omega)) hw.1.1
    dsimp only at hm ⊢
    have er : r3 1001 16 = lw := (hm.2.2 1001 16 (by omega)).trans h.2.1
    rw [ix_nI (by omega)]
    have l2 : CL t i2 (r3 1001 16) L := by rw [er]; exact hl.congr (fun b k hb => hm.2.1 b k (by omega))
    refine tt_bind (v_runS hw.1 h2 hL l2 (by rw [er]; exact hlw.n) true hn) ?_
    rintro ⟨x2, i7⟩ ⟨e0, ⟨e1, e2, e3⟩, e5⟩
    dsimp only at e0 e3 e5 ⊢
    rw [← e0]
    rw [er] at e5
    exact tt_some (ca_ok hw h hlw.a e1 hm e3 (fun b j hb hb2 => e5 b j (by omega) hb2))
  · rw [if_neg hx, if_neg hx]; exact tt_some (ca_er hw h rfl)
theorem m_days (hw : WW W) (h : MW i W) (hL : WL L) (hl : ML i L) (x : Int32) : Tt (f_Mo_days i x) (MA i (spDays W L x)) := by
  have h1 := h.t 0
  have l1 := ml_t hl 0
  unfold f_Mo_days spDays
  refine tt_bnd ?_
  rw [mo_win, Option.bind_some, mo_not, Option.bind_some]
  by_cases hx : win x 1 60 = true
  · rw [if_pos hx, if_pos hx, thr0, Option.bind_some]
    obtain ⟨n, hn1, hn, rfl⟩ := win1_of (n := 60) (by decide) hx
    dsimp only
    rw [if_pos rfl, ix_nI (by omega)]
    refine tt_bind (m_remembers hw h1) ?_
    rintro i1 ⟨e2, e3⟩
    have l2 : ML i1 L := l1.congr (fun k => e3 1639 k (by decide) (by omega))
    refine tt_bind (m_goesOn hw.1 (rem_mv h1.1 e3) hL l2 true hn) ?_
    rintro ⟨v, i7⟩ ⟨⟨u1, u2, u3⟩, u4, u5⟩
    dsimp only at u1 u2 u3 u4 u5 ⊢
    exact tt_some (ma_ok ((u5.1 1638 0 (by decide) (by decide) (by decide)).trans ((e3 1638 0 (by decide) (by omega)).trans wr_s)) u4 ⟨u3, e2.congr (fun j => u5.1 1643 j (by decide) (by decide) (by decide)) (u5.1 1638 7 (by decide) (by decide) (by decide)) (u5.2 5 (by omega))⟩ ((fA_rem e3).trans (fA_fm u5)))
  · rw [if_neg hx, if_neg hx, thr1, Option.bind_some]
    dsimp only
    rw [if_neg (by decide)]
    exact tt_some (ma_er (by decide) h)
end ACTS2
