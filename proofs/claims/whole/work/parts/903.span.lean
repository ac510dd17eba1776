/-! ===== span; what drifts together; ways ===== -/
theorem fo_q {α : Type} (g : Nat → α → α) (x : α) (q : Nat) : fo g (q + 1) x = g q (fo g q x) := rfl
/-- which of the cells a thing from c comes to -/
def vis (S : SS) (c d : Nat) : Bool := anyk (fun k => decide (sit S (nI c) k = nI d)) 26
def edn (S : SS) (d : Nat) : Nat := cntb (fun c => vis S c d) 25
def edg (S : SS) (d : Nat) (p : Int32 × Int32) : Int32 × Int32 := (if p.2 < nI (edn S d) then nI d else p.1, jmax p.2 (nI (edn S d)))
def spEddy (S : SS) : Int32 := (fo (edg S) 25 (0, 0)).1
theorem pigeon : ∀ (n : Nat) (f : Nat → Nat), (∀ k, k ≤ n → f k < n) → ∃ a b, a < b ∧ b ≤ n ∧ f a = f b
  | 0, f, h => absurd (h 0 (Nat.le_refl 0)) (Nat.not_lt_zero _)
  | n + 1, f, h => by
    by_cases hc : ∃ k, k ≤ n ∧ f k = f (n + 1)
    · obtain ⟨k, h1, h2⟩ := hc
      exact ⟨k, n + 1, by omega, Nat.le_refl _, h2⟩
    · have hne : ∀ k, k ≤ n → f k ≠ f (n + 1) := fun k hk e => hc ⟨k, hk, e⟩
      obtain ⟨a, b, h1, h2, h3⟩ := pigeon n (fun k => if f k = n then f (n + 1) else f k) (fun k hk => by
        have h4 := h k (by omega)
        have h5 := h (n + 1) (Nat.le_refl _)
        have h6 := hne k hk
        by_cases c : f k = n
        · simp only [c, if_true]; omega
        · simp only [c, if_false]; omega)
      refine ⟨a, b, h1, by omega, ?_⟩
      have ha := hne a (by omega)
      have hb := hne b h2
      by_cases c1 : f a = n <;> by_cases c2 : f b = n
      · rw [c1, c2]
      · simp only [c1, c2, if_true, if_false] at h3; exact absurd h3.symm hb
      · simp only [c1, c2, if_true, if_false] at h3; exact absurd h3 ha
      · simp only [c1, c2, if_false] at h3; exact h3
theorem anyk_mono {p : Nat → Bool} {n m : Nat} (h : n ≤ m) (hp : anyk p n = true) : anyk p m = true := by
  obtain ⟨k, h1, h2⟩ := (anyk_iff p n).mp hp
  exact (anyk_iff p m).mpr ⟨k, by omega, h2⟩
theorem sit_rep {S : SS} {c : Int32} {k j : Nat} (hj : j < k) (he : sit S c j = sit S c k) : ∀ m, ∃ q, q < k ∧ sit S c q = sit S c m
  | 0 => ⟨0, by omega, rfl⟩
  | m + 1 => by
    obtain ⟨q, h1, h2⟩ := sit_rep hj he m
    by_cases e : q + 1 = k
    · refine ⟨j, hj, ?_⟩
      rw [he, ← e]
      show sdr S (sit S c q) = sdr S (sit S c m)
      rw [h2]
    · refine ⟨q + 1, by omega, ?_⟩
      show sdr S (sit S c q) = sdr S (sit S c m)
      rw [h2]
theorem vis_of {S : SS} {c : Nat} {k : Nat} (hk : k ≤ 26) (h : ∀ m, ∃ q, q < k ∧ sit S (nI c) q = sit S (nI c) m) (d : Nat) : anyk (fun j => decide (sit S (nI c) j = nI d)) k = vis S c d := by
  apply Bool.eq_iff_iff.mpr
  constructor
  · exact anyk_mono hk
  · intro hv
    obtain ⟨m, -, h2⟩ := (anyk_iff _ _).mp hv
    obtain ⟨q, h3, h4⟩ := h m
    exact (anyk_iff _ _).mpr ⟨q, h3, by simp only [decide_eq_true_eq] at h2 ⊢; rw [h4, h2]⟩
theorem sit_25 {S : SS} (hw : Wf S) {c : Nat} (hc : c < 25) : ∀ m, ∃ q, q < 25 ∧ sit S (nI c) q = sit S (nI c) m := by
  obtain ⟨a, b, h1, h2, h3⟩ := pigeon 25 (fun k => (sit S (nI c) k).toNatClampNeg) (fun k _ => by
    obtain ⟨c', g1, g2⟩ := sit_lt hw hc k
    show (sit S (nI c) k).toNatClampNeg < 25
    rw [g2, nI_clamp (by omega)]; exact g1)
  have he : sit S (nI c) a = sit S (nI c) b := by
    obtain ⟨c1, g1, g2⟩ := sit_lt hw hc a
    obtain ⟨c2, g3, g4⟩ := sit_lt hw hc b
    rw [g2, g4, nI_clamp (by omega), nI_clamp (by omega)] at h3
    rw [g2, g4, h3]
  intro m
  obtain ⟨q, h4, h5⟩ := sit_rep h1 he m
  exact ⟨q, by omega, h5⟩
theorem edg_form {S : SS} : ∀ q, 1 ≤ q → ∃ g, g < q ∧ fo (edg S) q (0, 0) = (nI g, nI (edn S g))
  | 0, h => by omega
  | 1, _ => by
    refine ⟨0, by omega, ?_⟩
    show edg S 0 (0, 0) = _
    unfold edg
    have h25 : edn S 0 ≤ 25 := cntb_le _ 25
    dsimp only
    rw [show (0 : Int32) = nI 0 from rfl, jmax_nI (by omega) (by omega), Nat.max_eq_right (by omega), ite_self]
  | q + 2, _ => by
    obtain ⟨g, h1, h2⟩ := edg_form (S := S) (q + 1) (by omega)
    rw [fo_q, h2]
    unfold edg
    have h25 : edn S g ≤ 25 := cntb_le _ 25
    have h26 : edn S (q + 1) ≤ 25 := cntb_le _ 25
    dsimp only
    rw [jmax_nI (by omega) (by omega)]
    by_cases c : edn S g < edn S (q + 1)
    · rw [if_pos ((nI_ltI (by omega) (by omega)).mpr c)]
      exact ⟨q + 1, by omega, by rw [Nat.max_eq_right (by omega)]⟩
    · rw [if_neg (fun k => c ((nI_ltI (by omega) (by omega)).mp k))]
      exact ⟨g, by omega, by rw [Nat.max_eq_left (by omega)]⟩
theorem bt_and1 (x : Int32) {c : Nat} (hc : c < 31) : ((shr x (nI c)) &&& 1 = 0) ↔ bt x c = false := by
  have h0 : bt ((shr x (nI c)) &&& 1) 0 = bt x c := by
    rw [b_and]
    have : bt (shr x (nI c)) 0 = bt x c := by
      have := b_sshr c (by omega) x (i := 0) (by omega)
      rw [if_pos (by omega)] at this
      exact this
    rw [this, (by decide : bt 1 0 = true), Bool.and_true]
  constructor
  · intro e
    rw [← h0, e]; exact b_0 0
  · intro e
    refine b_ext (fun i hi => ?_)
    rw [b_0]
    by_cases hi0 : i = 0
    · subst hi0; rw [h0, e]
    · rw [b_and, (by decide : ∀ i, i < 32 → i ≠ 0 → bt 1 i = false) i hi hi0, Bool.and_false]
theorem bt_set (x : Int32) {c i : Nat} (hc : c < 31) (hi : i < 31) : bt (x ||| shl 1 (nI c)) i = (bt x i || decide (i = c)) := by
  have h1 : bt (shl 1 (nI c)) i = decide (i = c) := by
    have := b_shl c (by omega) 1 (i := i) (by omega)
    rw [show bt (shl 1 (nI c)) i = bt ((1 : Int32) <<< (nI c &&& 31)) i from rfl, this]
    by_cases e : i = c
    · subst e; rw [Nat.sub_self, (by decide : bt 1 0 = true)]; simp
    · by_cases e2 : c ≤ i
      · rw [(by decide : ∀ i, i < 32 → i ≠ 0 → bt 1 i = false) (i - c) (by omega) (by omega)]; simp [e]
      · simp [e, e2]
  rw [b_or, h1]
section SPAN
variable {i : MI} {t : MT} {r : MR} {a : Nat} {S : SS} {L : LW}
theorem v_span (hw : Wf S) (h : CV i 1001 S) (hL : WL L) (hl : CL t i (r 1001 16) L) (hna : NA 1001 (r 1001 16)) (hnb : NA 1075 (r 1001 16)) (x w : Int32) : Tt (f_Lc_span t r i x w) (CO3 [20] (r 1001 16) i r (spSpan S L x w)) := by
  have hnb' := hnb
  unfold NA at hna hnb'
  unfold f_Lc_span spSpan
  rw [v_within]
  by_cases hww : win x 0 60 = true
  · rw [if_pos hww, if_pos hww, Option.bind_some]
    obtain ⟨n, hn, rfl⟩ := win_of (n := 60) (by decide) hww
    dsimp only
    rw [ix_nI (by omega)]
    refine tt_bind (P1 := fun y => y.1 = mnx S L n 6 ∧ y.2.1 = mxx S L n 6 ∧ f75 (r 1001 16) i y.2.2.1 ∧ RQ r y.2.2.2)
      (tt_loop (fun q (s : Int32 × Int32 × Int32 × MI × MR) => s.1 = mnx S L n q ∧ s.2.1 = mxx S L n q ∧ s.2.2.1 = nI (q + 1) ∧ f75 (r 1001 16) i s.2.2.2.1 ∧ RQ r s.2.2.2.2) 6 (by omega) ?_ ?_ ⟨rfl, rfl, rfl, fun _ _ _ _ => rfl, fun _ _ _ => rfl⟩) ?_
    · rintro q hq ⟨x3, x4, x5, i5, r6⟩ ⟨e1, e2, e3, e4, e5⟩
      dsimp only at e1 e2 e3 e4 e5 ⊢
      subst e1 e2 e3
      rw [lit_nI 6, if_neg (nI_nlt (by omega) (by omega))]
      have er : r6 1001 16 = r 1001 16 := e5 1001 16 (by unfold cqs; omega)
      have h2 : CV i5 1001 S := h.congr (fun b k _ _ => e4 b k (by omega) (by omega)) hw.1
      have l2 : CL t i5 (r6 1001 16) L := by rw [er]; exact hl.congr (fun b k hb => e4 b k (by omega) (by omega))
      refine tt_bind (v_try hw h2 hL l2 (by rw [er]; exact hnb) hn (nI (q + 1))) ?_
      rintro ⟨i16, r17⟩ ⟨⟨u1, u2, u3⟩, u4, u5⟩
      dsimp only at u1 u2 u3 u4 u5 ⊢
      rw [show i16 1075 13 = een S L n (q + 1) from u3.1.2.2.2.2.2.2.1, j_min, Option.bind_some, j_max, Option.bind_some]
      rw [er] at u4
      exact tt_some ⟨rfl, rfl, nI_1 (q + 1), e4.trans u4, fun b k hb => (u5 b k hb).trans (e5 b k hb)⟩
    · rintro ⟨x3, x4, x5, i5, r6⟩ ⟨e1, e2, e3, e4, e5⟩
      dsimp only at e1 e2 e3 e4 e5 ⊢
      subst e3
      rw [lit_nI 6, if_pos (nI_lt (by omega) (by omega))]
      exact tt_some ⟨e1, e2, e4, e5⟩
    · rintro ⟨x3, x4, i5, r6⟩ ⟨e1, e2, e4, e5⟩
      dsimp only at e1 e2 e4 e5 ⊢
      rw [← e1, ← e2]
      by_cases c : w = 0
      · rw [if_pos c, if_pos c]; exact tt_some ⟨rfl, e4.cq, e5⟩
      · rw [if_neg c, if_neg c]; exact tt_some ⟨rfl, e4.cq, e5⟩
  · rw [if_neg hww, if_neg hww]; exact tt_some ⟨rfl, CQ.refl _ _, fun _ _ _ => rfl⟩
theorem m_span (hw : Wf S) (h : MV i S) (hL : WL L) (hl : ML i L) (x w : Int32) : Tt (f_Mo_span i x w) (MO i (spSpan S L x w)) := by
  have h1 := mv_t h 0
  have l1 := ml_t hl 0
  unfold f_Mo_span spSpan
  refine tt_bnd ?_
  rw [mo_noDays, Option.bind_some]
  by_cases hww : win x 0 60 = true
  · rw [if_pos hww, if_pos hww, thr0, Option.bind_some]
    obtain ⟨n, hn, rfl⟩ := win_of (n := 60) (by decide) hww
    dsimp only
    rw [if_pos rfl, ix_nI (by omega)]
    refine tt_bind (m_keepsAll (i := wr i 1638 0 0)) ?_
    intro i1 hk
    have hM : ∀ i' : MI, (∀ b j, b ≠ 1646 → b ≠ 1647 → i' b j = i1 b j) → MV i' S := fun i' he => h1.congr (fun k => by rw [he 1639 k (by decide) (by decide), hk, if_neg (by omega)])
    have hN : ∀ i' : MI, (∀ b j, b ≠ 1646 → b ≠ 1647 → i' b j = i1 b j) → ML i' L := fun i' he => l1.congr (fun k => by rw [he 1639 k (by decide) (by decide), hk, if_neg (by omega)])
    refine tt_bind (P1 := fun y => y.1 = (if w = 0 then mnx S L n 6 else mxx S L n 6) ∧ ∀ b j, b ≠ 1646 → b ≠ 1647 → y.2 b j = i1 b j)
      (tt_loop (fun q (s : Int32 × Int32 × MI) => s.2.1 = nI (q + 1) ∧ ((q = 0 ∧ s.1 = -1) ∨ (0 < q ∧ s.1 = (if w = 0 then mnx S L n q else mxx S L n q) ∧ ∃ z, z ≤ 9999 ∧ s.1 = nI z)) ∧ ∀ b j, b ≠ 1646 → b ≠ 1647 → s.2.2 b j = i1 b j) 6 (by omega) ?_ ?_ ⟨rfl, Or.inl ⟨rfl, rfl⟩, fun _ _ _ _ => rfl⟩) ?_
    · rintro q hq ⟨x3, x4, i9⟩ ⟨e1, e2, e3⟩
      dsimp only at e1 e2 e3 ⊢
      subst e1
      rw [lit_nI 6, if_neg (nI_nlt (by omega) (by omega))]
      refine tt_bnd ?_
      have h3 : MV (wr i9 1639 10 (nI (q + 1))) (su S 0 0 10 (nI (q + 1))) := (hM i9 e3).scal (by decide) (by decide) _
      have f3 : fm i9 (wr i9 1639 10 (nI (q + 1))) := fm_wr (fm.refl i9) (by decide) (by decide)
      have l3 : ML (wr i9 1639 10 (nI (q + 1))) L := f3.law (hN i9 e3)
      refine tt_bind (m_goesOn (hw.one (by omega)) h3 hL l3 true hn) ?_
      rintro ⟨v, i19⟩ ⟨⟨u1, u2, u3⟩, -, u5⟩
      dsimp only at u1 u2 u3 u5 ⊢
      have u6 := f3.trans u5
      refine tt_bind (m_bringsBack (i := i19)) ?_
      intro i20 hb
      have he : ∀ b j, b ≠ 1646 → b ≠ 1647 → i20 b j = i1 b j := by
        intro b j g1 g2
        rw [hb]
        by_cases c : b = 1639 ∧ j < 417
        · rw [if_pos c, u6.1 1642 j (by decide) (by decide) (by decide), e3 1642 j (by decide) (by decide), hk 1642 j, if_pos ⟨rfl, c.2⟩, c.1, hk 1639 j, if_neg (by omega)]
        · rw [if_neg c]
          by_cases c2 : b = 1639
          · subst c2
            rw [u6.2 j (by omega)]; exact e3 1639 j (by decide) (by decide)
          · rw [u6.1 b j c2 g1 g2]; exact e3 b j g1 g2
      have ev : i19 1639 7 = een S L n (q + 1) := u3.1 7 (by decide) (by decide)
      obtain ⟨e, he9, ee⟩ := u1.2.2.2.2.2.2.2.1
      have ee : een S L n (q + 1) = nI e := ee
      rw [ev]
      refine tt_bind (P1 := fun v => v = (if w = 0 then mnx S L n (q + 1) else mxx S L n (q + 1)) ∧ ∃ z, z ≤ 9999 ∧ v = nI z) ?_ ?_
      · have s1 : mnx S L n (q + 1) = jmin (mnx S L n q) (een S L n (q + 1)) := rfl
        have s2 : mxx S L n (q + 1) = jmax (mxx S L n q) (een S L n (q + 1)) := rfl
        rcases e2 with ⟨rfl, rfl⟩ | ⟨hq0, e2, z, hz, ez⟩
        · rw [if_pos (by decide)]
          refine tt_some ⟨?_, e, he9, ee⟩
          have m0 : mnx S L n 0 = nI 9999 := rfl
          have m1 : mxx S L n 0 = nI 0 := rfl
          by_cases c : w = 0
          · rw [if_pos c, s1, ee, m0, jmin_nI (by omega) (by omega), Nat.min_eq_right he9]
          · rw [if_neg c, s2, ee, m1, jmax_nI (by omega) (by omega), Nat.max_eq_right (by omega)]
        · rw [if_neg (by rw [ez]; exact nI_pos (by omega))]
          by_cases c : w = 0
          · rw [if_pos c] at e2
            rw [if_pos c, if_pos c, j_min, Option.bind_some]
            refine tt_some ⟨by rw [s1, e2], min z e, by omega, ?_⟩
            rw [ez, ee, jmin_nI (by omega) (by omega)]
          · rw [if_neg c] at e2
            rw [if_neg c, if_neg c, j_max, Option.bind_some]
            refine tt_some ⟨by rw [s2, e2], max z e, by omega, ?_⟩
            rw [ez, ee, jmax_nI (by omega) (by omega)]
      · rintro v ⟨w1, w2⟩
        exact tt_some ⟨nI_1 (q + 1), Or.inr ⟨by omega, w1, w2⟩, he⟩
    · rintro ⟨x3, x4, i9⟩ ⟨e1, e2, e3⟩
      dsimp only at e1 e2 e3 ⊢
      subst e1
      rw [lit_nI 6, if_pos (nI_lt (by omega) (by omega))]
      rcases e2 with ⟨e2, -⟩ | ⟨-, e2, -⟩
      · exact absurd e2 (by decide)
      · exact tt_some ⟨e2, e3⟩
    · rintro ⟨x3, i12⟩ ⟨e1, e3⟩
      dsimp only at e1 e3 ⊢
      have hq : ∀ b j, b ≠ 1642 → b ≠ 1646 → b ≠ 1647 → i12 b j = wr i 1638 0 0 b j := fun b j g1 g2 g3 => by rw [e3 b j g2 g3, hk, if_neg (fun q => g1 q.1)]
      exact tt_some (mo_ok (fq_k hq) ((hq 1638 0 (by decide) (by decide) (by decide)).trans wr_s) e1)
  · rw [if_neg hww, if_neg hww, thr1, Option.bind_some]
    dsimp only
    rw [if_neg (by decide)]
    exact tt_some (mo_err (by decide) (fq_t (fq.refl i) 0))
end SPAN
