/-! ===== calls that look ahead ===== -/
def dyg (L : LW) (bu : Bool) (X : SS) : SS := if bu = true then (sdb X L).1 else sdc X L
def itx (S : SS) (L : LW) (bu : Bool) (n : Nat) : SS := fo (fun _ X => dyg L bu X) n S
def smx (S : SS) (L : LW) (bu : Bool) (n : Nat) : Int32 := fo (fun k x => x + (if bu = true then (sdb (itx S L bu k) L).2 else 0)) n 0
/-- what is left alone beside the sea that is run ahead -/
def f75 (lw : Nat) (i i' : MI) : Prop := ∀ b j, (b < 1075 ∨ 1106 ≤ b) → b ≠ lw + 1 → i' b j = i b j
theorem f75.cq {lw : Nat} {i i' : MI} (h : f75 lw i i') : CQ lw i i' := fun b j h1 h2 => h b j (by unfold cqs at h2; omega) h1
theorem f75.trans {lw : Nat} {i j k : MI} (h : f75 lw i j) (h2 : f75 lw j k) : f75 lw i k := fun b q h1 h3 => (h2 b q h1 h3).trans (h b q h1 h3)
theorem su_id (S : SS) (x y z : Nat) : su S x y z (S x y z) = S := by
  funext a b c
  unfold su
  split
  · rename_i h
    obtain ⟨rfl, rfl, rfl⟩ := h
    rfl
  · rfl
def spWhere (S : SS) (L : LW) (x w : Int32) : Int32 × Int32 := if okx x (nf S) = true then (if win w 0 60 = true then (0, spo (itx S L false (ix w) 2 (ix x) 3) (itx S L false (ix w) 2 (ix x) 4)) else (2, 0)) else (1, 0)
def spSpoils (S : SS) (L : LW) (x : Int32) : Int32 × Int32 := if win x 0 60 = true then (0, nI (plc (itx S L false (ix x)) 3) &&& (nI (plc S 3) ^^^ -1)) else (1, 0)
def spTrial (S : SS) (L : LW) (x w : Int32) : Int32 × Int32 := if win x 0 60 = true then (0, if w = 0 then itx S L true (ix x) 0 0 7 else bc (plc (itx S L true (ix x)) 3)) else (1, 0)
def een (S : SS) (L : LW) (n s : Nat) : Int32 := itx (su S 0 0 10 (nI s)) L true n 0 0 7
def mnx (S : SS) (L : LW) (n q : Nat) : Int32 := fo (fun s x => jmin x (een S L n (s + 1))) q 9999
def mxx (S : SS) (L : LW) (n q : Nat) : Int32 := fo (fun s x => jmax x (een S L n (s + 1))) q 0
def spSpan (S : SS) (L : LW) (x w : Int32) : Int32 × Int32 := if win x 0 60 = true then (0, if w = 0 then mnx S L (ix x) 6 else mxx S L (ix x) 6) else (1, 0)
theorem mo_noDays (x : Int32) : f_Mo_noDays x = some (if win x 0 60 = true then 0 else 1) := by
  unfold f_Mo_noDays
  rw [mo_win, Option.bind_some]
  by_cases h : win x 0 60 = true
  · rw [if_pos h, if_pos h, if_neg (by decide)]
  · rw [if_neg h, if_neg h, if_pos rfl]
section AHEAD
variable {i : MI} {t : MT} {r : MR} {a : Nat} {S : SS} {L : LW}
theorem v_run (hw : Wf S) (h : CV i 1075 S) (hL : WL L) (hl : CL t i (r 1075 16) L) (hna : NA 1075 (r 1075 16)) (bu : Bool) {n : Nat} (hn : n ≤ 60) : Tt (itr (fun (s : Int32 × MI) => if s.1 < nI n then ((f_Se_passDay t r s.2 1075 (if bu = true then 1 else 0)).bind (fun z => some (Sum.inl (s.1 + 1, z.2)))) else (some (Sum.inr s.2))) 1000000 ((0 : Int32), i)) (fun i' => (Wf (itx S L bu n) ∧ kp S (itx S L bu n) ∧ CV i' 1075 (itx S L bu n)) ∧ f75 (r 1075 16) i i') := by
  have hna' := hna
  unfold NA at hna'
  refine tt_loop (fun q (s : Int32 × MI) => s.1 = nI q ∧ (Wf (itx S L bu q) ∧ kp S (itx S L bu q) ∧ CV s.2 1075 (itx S L bu q)) ∧ f75 (r 1075 16) i s.2) n (by omega) ?_ ?_ ⟨rfl, ⟨hw, kp.refl S, h⟩, fun _ _ _ _ => rfl⟩
  · rintro q hq ⟨x, i5⟩ ⟨e1, ⟨e2, e3, e4⟩, e5⟩
    dsimp only at e1 e2 e3 e4 e5 ⊢
    subst e1
    rw [if_pos (nI_lt hq (by omega))]
    have l2 : CL t i5 (r 1075 16) L := hl.congr (fun b k hb => e5 b k (by omega) (by omega))
    refine tt_bind (v_passDay e2 e4 hL l2 hna bu) ?_
    rintro ⟨v, i6⟩ ⟨⟨u1, u2, u3⟩, -, u5⟩
    exact tt_some ⟨nI_1 q, ⟨u1, e3.trans u2, u3⟩, e5.trans (fun b j hb hb2 => u5 b j (by omega) hb2)⟩
  · rintro ⟨x, i5⟩ ⟨e1, e2, e5⟩
    dsimp only at e1 e2 e5 ⊢
    subst e1
    rw [if_neg (nI_nlt (Nat.le_refl _) (by omega))]
    exact tt_some ⟨e2, e5⟩
theorem v_look (hw : Wf S) (h : CV i 1001 S) (hL : WL L) (hl : CL t i (r 1001 16) L) (hna : NA 1075 (r 1001 16)) {n : Nat} (hn : n ≤ 60) : Tt (f_Lc_lookAhead t r i (nI n)) (fun y => (Wf (itx S L false n) ∧ kp S (itx S L false n) ∧ CV y.1 1075 (itx S L false n)) ∧ f75 (r 1001 16) i y.1 ∧ RQ r y.2) := by
  have hna' := hna
  unfold NA at hna'
  unfold f_Lc_lookAhead
  refine tt_bind (v_copyFrom (a := 1075) (b := 1001) hw.1 h (by omega)) ?_
  rintro ⟨i1, r2⟩ ⟨c1, c2, c3⟩
  dsimp only at c1 c2 c3 ⊢
  have er : r2 1075 16 = r 1001 16 := by rw [c2]; exact wrR_s
  have hrq : RQ r r2 := fun b k hb => by rw [c2]; exact wrR_o (by unfold cqs at hb; omega)
  have l1 : CL t i1 (r2 1075 16) L := by rw [er]; exact hl.congr (fun b k hb => c3 b k (by omega))
  refine tt_bind (v_run hw c1 hL l1 (by rw [er]; exact hna) false hn) ?_
  rintro i6 ⟨u1, u2⟩
  rw [er] at u2
  exact tt_some ⟨u1, fun b j hb hb2 => (u2 b j hb hb2).trans (c3 b j (by omega)), hrq⟩
theorem v_try (hw : Wf S) (h : CV i 1001 S) (hL : WL L) (hl : CL t i (r 1001 16) L) (hna : NA 1075 (r 1001 16)) {n : Nat} (hn : n ≤ 60) (s : Int32) : Tt (f_Lc_tryDays t r i (nI n) s) (fun y => (Wf (itx (su S 0 0 10 s) L true n) ∧ kp S (itx (su S 0 0 10 s) L true n) ∧ CV y.1 1075 (itx (su S 0 0 10 s) L true n)) ∧ f75 (r 1001 16) i y.1 ∧ RQ r y.2) := by
  have hna' := hna
  unfold NA at hna'
  unfold f_Lc_tryDays
  refine tt_bind (v_copyFrom (a := 1075) (b := 1001) hw.1 h (by omega)) ?_
  rintro ⟨i1, r2⟩ ⟨c1, c2, c3⟩
  dsimp only at c1 c2 c3 ⊢
  have er : r2 1075 16 = r 1001 16 := by rw [c2]; exact wrR_s
  have hrq : RQ r r2 := fun b k hb => by rw [c2]; exact wrR_o (by unfold cqs at hb; omega)
  refine tt_bnd ?_
  have hw' : Wf (su S 0 0 10 s) := hw.one (by omega)
  have hk' : kp S (su S 0 0 10 s) := kp_su (by omega)
  have c1' : CV (wr i1 1075 15 s) 1075 (su S 0 0 10 s) := c1.scal hw.1 (by omega) s
  have c3' : ∀ c j, (c < 1075 ∨ 1075 + 31 ≤ c) → wr i1 1075 15 s c j = i c j := fun c j hc => by rw [wr_a (by omega)]; exact c3 c j hc
  have l1 : CL t (wr i1 1075 15 s) (r2 1075 16) L := by rw [er]; exact hl.congr (fun b k hb => c3' b k (by omega))
  refine tt_bind (v_run hw' c1' hL l1 (by rw [er]; exact hna) true hn) ?_
  rintro i6 ⟨⟨u1, u3, u4⟩, u2⟩
  rw [er] at u2
  exact tt_some ⟨⟨u1, hk'.trans u3, u4⟩, fun b j hb hb2 => (u2 b j hb hb2).trans (c3' b j (by omega)), hrq⟩
theorem m_goesOn (hw : Wf S) (h : MV i S) (hL : WL L) (hl : ML i L) (bu : Bool) {n : Nat} (hn : n ≤ 60) : Tt (f_Mo_goesOn i (nI n) (if bu = true then 0 else 1)) (fun y => (Wf (itx S L bu n) ∧ kp S (itx S L bu n) ∧ MV y.2 (itx S L bu n)) ∧ y.1 = smx S L bu n ∧ fm i y.2) := by
  unfold f_Mo_goesOn
  refine tt_bind (P1 := fun y => (Wf (itx S L bu n) ∧ kp S (itx S L bu n) ∧ MV y.2 (itx S L bu n)) ∧ y.1 = smx S L bu n ∧ fm i y.2)
    (tt_loop (fun q (s : Int32 × Int32 × MI) => s.1 = smx S L bu q ∧ s.2.1 = nI q ∧ (Wf (itx S L bu q) ∧ kp S (itx S L bu q) ∧ MV s.2.2 (itx S L bu q)) ∧ fm i s.2.2) n (by omega) ?_ ?_ ⟨rfl, rfl, ⟨hw, kp.refl S, h⟩, fm.refl i⟩) ?_
  · rintro q hq ⟨x, z, i5⟩ ⟨e0, e1, ⟨e2, e3, e4⟩, e5⟩
    dsimp only at e0 e1 e2 e3 e4 e5 ⊢
    subst e0 e1
    rw [if_pos (nI_lt hq (by omega))]
    refine tt_bind (m_oneDay e2 e4 hL (e5.law hl) bu) ?_
    rintro ⟨v, i6⟩ ⟨⟨u1, u2, u3⟩, u4, u5⟩
    dsimp only at u4
    subst u4
    exact tt_some ⟨rfl, nI_1 q, ⟨u1, e3.trans u2, u3⟩, e5.trans u5⟩
  · rintro ⟨x, z, i5⟩ ⟨e0, e1, e2, e5⟩
    dsimp only at e0 e1 e2 e5 ⊢
    subst e0 e1
    rw [if_neg (nI_nlt (Nat.le_refl _) (by omega))]
    exact tt_some ⟨e2, rfl, e5⟩
  · rintro ⟨x, i5⟩ hx
    exact tt_some hx
/-! where, spoils, trial -/
theorem v_where (hw : Wf S) (h : CV i 1001 S) (hL : WL L) (hl : CL t i (r 1001 16) L) (hna : NA 1075 (r 1001 16)) (x w : Int32) : Tt (f_Lc_where t r i x w) (CO3 [22, 20] (r 1001 16) i r (spWhere S L x w)) := by
  have h8 := hw.1.f8
  unfold f_Lc_where spWhere
  rw [v_needFish hw.1 h]
  by_cases hx : okx x (nf S) = true
  · rw [if_pos hx, if_pos hx, Option.bind_some]
    obtain ⟨f, hf, rfl⟩ := okx_of (by omega) hx
    dsimp only
    rw [v_within]
    by_cases hww : win w 0 60 = true
    · rw [if_pos hww, if_pos hww, Option.bind_some]
      obtain ⟨n, hn, rfl⟩ := win_of (n := 60) (by decide) hww
      dsimp only
      refine tt_bind (v_look hw h hL hl hna hn) ?_
      rintro ⟨i3, r4⟩ ⟨⟨u1, u2, u3⟩, u4, u5⟩
      dsimp only at u1 u2 u3 u4 u5 ⊢
      obtain ⟨-, -, -, -, f4, -⟩ := u3.2.2.1 f (by rw [u2.nf]; exact hf)
      rw [grd_nI (show f < 8 by omega) (by decide), ix_nI (by omega), ix_nI (by omega), f4]
      exact tt_some ⟨rfl, u4.cq, u5⟩
    · rw [if_neg hww, if_neg hww]; exact tt_some ⟨rfl, CQ.refl _ _, fun _ _ _ => rfl⟩
  · rw [if_neg hx, if_neg hx]; exact tt_some ⟨rfl, CQ.refl _ _, fun _ _ _ => rfl⟩
theorem m_where (hw : Wf S) (h : MV i S) (hL : WL L) (hl : ML i L) (x w : Int32) : Tt (f_Mo_where i x w) (MO i (spWhere S L x w)) := by
  have h8 := hw.1.f8
  have h1 := mv_t h 0
  have l1 := ml_t hl 0
  unfold f_Mo_where spWhere
  refine tt_bnd ?_
  rw [m_noFish hw.1 h1, Option.bind_some]
  by_cases hx : okx x (nf S) = true
  · rw [if_pos hx, if_pos hx, thr0, Option.bind_some]
    obtain ⟨f, hf, rfl⟩ := okx_of (by omega) hx
    dsimp only
    rw [if_pos rfl, mo_noDays, Option.bind_some]
    by_cases hww : win w 0 60 = true
    · rw [if_pos hww, if_pos hww, thr0, Option.bind_some]
      obtain ⟨n, hn, rfl⟩ := win_of (n := 60) (by decide) hww
      dsimp only
      rw [if_pos rfl]
      refine tt_bind (m_keepsAll (i := wr i 1638 0 0)) ?_
      intro i1 hk
      have h2 : MV i1 S := h1.congr (fun k => by rw [hk, if_neg (by omega)])
      have l2 : ML i1 L := l1.congr (fun k => by rw [hk, if_neg (by omega)])
      refine tt_bind (m_goesOn hw h2 hL l2 false hn) ?_
      rintro ⟨v, i3⟩ ⟨⟨u1, u2, u3⟩, -, u5⟩
      dsimp only at u1 u2 u3 u5 ⊢
      have g3 : f_Mo_of i3 (nI f) 3 = some (itx S L false n 2 f 3) := m_of u3 (k := 3) (by omega) (by decide)
      have g4 : f_Mo_of i3 (nI f) 4 = some (itx S L false n 2 f 4) := m_of u3 (k := 4) (by omega) (by decide)
      rw [g3, g4, Option.bind_some, ix_nI (by omega), ix_nI (by omega)]
      refine tt_bind (P1 := fun v => v = spo (itx S L false n 2 f 3) (itx S L false n 2 f 4)) ?_ ?_
      · unfold spo
        by_cases c : itx S L false n 2 f 3 = 0
        · rw [if_pos c, if_pos c]; exact tt_some rfl
        · rw [if_neg c, if_neg c]; exact tt_some rfl
      · rintro v rfl
        refine tt_bind (m_bringsBack (i := i3)) ?_
        intro i6 hb
        have hq := m_keep hk u5 hb
        exact tt_some (mo_ok (fq_k hq) ((hq 1638 0 (by decide) (by decide) (by decide)).trans wr_s) rfl)
    · rw [if_neg hww, if_neg hww, thr1, Option.bind_some]
      dsimp only
      rw [if_neg (by decide)]
      exact tt_some (mo_err (by decide) (fq_t (fq.refl i) 0))
  · rw [if_neg hx, if_neg hx, thr1, Option.bind_some]
    dsimp only
    rw [if_neg (by decide)]
    exact tt_some (mo_err (by decide) (fq_t (fq.refl i) 0))
theorem v_spoils (hw : Wf S) (h : CV i 1001 S) (hL : WL L) (hl : CL t i (r 1001 16) L) (hna : NA 1001 (r 1001 16)) (hnb : NA 1075 (r 1001 16)) (x : Int32) : Tt (f_Lc_spoils t r i x) (CO3 [20] (r 1001 16) i r (spSpoils S L x)) := by
  unfold NA at hna
  unfold f_Lc_spoils spSpoils
  rw [v_within]
  by_cases hww : win x 0 60 = true
  · rw [if_pos hww, if_pos hww, Option.bind_some]
    obtain ⟨n, hn, rfl⟩ := win_of (n := 60) (by decide) hww
    dsimp only
    refine tt_bind (v_look hw h hL hl hnb hn) ?_
    rintro ⟨i3, r4⟩ ⟨⟨u1, u2, u3⟩, u4, u5⟩
    dsimp only at u1 u2 u3 u4 u5 ⊢
    have h2 : CV i3 1001 S := h.congr (fun b k _ _ => u4 b k (by omega) (by omega)) hw.1
    rw [v_placed u1.1 u3, v_placed hw.1 h2, Option.bind_some, Option.bind_some, ix_nI (by omega)]
    exact tt_some ⟨rfl, u4.cq, u5⟩
  · rw [if_neg hww, if_neg hww]; exact tt_some ⟨rfl, CQ.refl _ _, fun _ _ _ => rfl⟩
theorem m_spoils (hw : Wf S) (h : MV i S) (hL : WL L) (hl : ML i L) (x : Int32) : Tt (f_Mo_spoils i x) (MO i (spSpoils S L x)) := by
  have h1 := mv_t h 0
  have l1 := ml_t hl 0
  unfold f_Mo_spoils spSpoils
  refine tt_bnd ?_
  rw [mo_noDays, Option.bind_some]
  by_cases hww : win x 0 60 = true
  · rw [if_pos hww, if_pos hww, thr0, Option.bind_some]
    obtain ⟨n, hn, rfl⟩ := win_of (n := 60) (by decide) hww
    dsimp only
    rw [if_pos rfl, m_allThat hw.1 h1, Option.bind_some]
    refine tt_bind (m_keepsAll (i := wr i 1638 0 0)) ?_
    intro i1 hk
    have h2 : MV i1 S := h1.congr (fun k => by rw [hk, if_neg (by omega)])
    have l2 : ML i1 L := l1.congr (fun k => by rw [hk, if_neg (by omega)])
    refine tt_bind (m_goesOn hw h2 hL l2 false hn) ?_
    rintro ⟨v, i3⟩ ⟨⟨u1, u2, u3⟩, -, u5⟩
    dsimp only at u1 u2 u3 u5 ⊢
    rw [m_allThat u1.1 u3, Option.bind_some, ix_nI (by omega)]
    refine tt_bind (m_bringsBack (i := i3)) ?_
    intro i6 hb
    have hq := m_keep hk u5 hb
    exact tt_some (mo_ok (fq_k hq) ((hq 1638 0 (by decide) (by decide) (by decide)).trans wr_s) rfl)
  · rw [if_neg hww, if_neg hww, thr1, Option.bind_some]
    dsimp only
    rw [if_neg (by decide)]
    exact tt_some (mo_err (by decide) (fq_t (fq.refl i) 0))
theorem v_trial (hw : Wf S) (h : CV i 1001 S) (hL : WL L) (hl : CL t i (r 1001 16) L) (hnb : NA 1075 (r 1001 16)) (x w : Int32) : Tt (f_Lc_trial t r i x w) (CO3 [20] (r 1001 16) i r (spTrial S L x w)) := by
  unfold f_Lc_trial spTrial
  rw [v_within]
  by_cases hww : win x 0 60 = true
  · rw [if_pos hww, if_pos hww, Option.bind_some]
    obtain ⟨n, hn, rfl⟩ := win_of (n := 60) (by decide) hww
    dsimp only
    rw [show i 1001 15 = S 0 0 10 from h.1.2.2.2.2.2.2.2.2]
    refine tt_bind (v_try hw h hL hl hnb hn (S 0 0 10)) ?_
    rw [su_id]
    rintro ⟨i3, r4⟩ ⟨⟨u1, u2, u3⟩, u4, u5⟩
    dsimp only at u1 u2 u3 u4 u5 ⊢
    rw [ix_nI (by omega)]
    by_cases c : w = 0
    · rw [if_pos c, if_pos c, show i3 1075 13 = itx S L true n 0 0 7 from u3.1.2.2.2.2.2.2.1]
      exact tt_some ⟨rfl, u4.cq, u5⟩
    · rw [if_neg c, if_neg c, v_placed u1.1 u3, Option.bind_some, j_bc, Option.bind_some]
      exact tt_some ⟨rfl, u4.cq, u5⟩
  · rw [if_neg hww, if_neg hww]; exact tt_some ⟨rfl, CQ.refl _ _, fun _ _ _ => rfl⟩
theorem m_trial (hw : Wf S) (h : MV i S) (hL : WL L) (hl : ML i L) (x w : Int32) : Tt (f_Mo_trial i x w) (MO i (spTrial S L x w)) := by
  have h1 := mv_t h 0
  have l1 := ml_t hl 0
  unfold f_Mo_trial spTrial
  refine tt_bnd ?_
  rw [mo_noDays, Option.bind_some]
  by_cases hww : win x 0 60 = true
  · rw [if_pos hww, if_pos hww, thr0, Option.bind_some]
    obtain ⟨n, hn, rfl⟩ := win_of (n := 60) (by decide) hww
    dsimp only
    rw [if_pos rfl]
    refine tt_bind (m_keepsAll (i := wr i 1638 0 0)) ?_
    intro i1 hk
    have h2 : MV i1 S := h1.congr (fun k => by rw [hk, if_neg (by omega)])
    have l2 : ML i1 L := l1.congr (fun k => by rw [hk, if_neg (by omega)])
    refine tt_bind (m_goesOn hw h2 hL l2 true hn) ?_
    rintro ⟨v, i3⟩ ⟨⟨u1, u2, u3⟩, -, u5⟩
    dsimp only at u1 u2 u3 u5 ⊢
    rw [ix_nI (by omega)]
    refine tt_bind (P1 := fun v => v = if w = 0 then itx S L true n 0 0 7 else bc (plc (itx S L true n) 3)) ?_ ?_
    · by_cases c : w = 0
      · rw [if_pos c, if_pos c, u3.1 7 (by decide) (by decide)]; exact tt_some rfl
      · rw [if_neg c, if_neg c, m_allThat u1.1 u3, Option.bind_some, j_bc, Option.bind_some]; exact tt_some rfl
    · rintro v rfl
      refine tt_bind (m_bringsBack (i := i3)) ?_
      intro i6 hb
      have hq := m_keep hk u5 hb
      exact tt_some (mo_ok (fq_k hq) ((hq 1638 0 (by decide) (by decide) (by decide)).trans wr_s) rfl)
  · rw [if_neg hww, if_neg hww, thr1, Option.bind_some]
    dsimp only
    rw [if_neg (by decide)]
    exact tt_some (mo_err (by decide) (fq_t (fq.refl i) 0))
end AHEAD
