/-! ===== the class's reckoning of the law: a line, and the sum ===== -/
theorem addm1 {n : Nat} (h : 1 ≤ n) : nI n + (-1 : Int32) = nI (n - 1) := by
  obtain ⟨m, rfl⟩ : ∃ m, n = m + 1 := ⟨n - 1, by omega⟩
  rw [nI_succ]
  apply Int32.toBitVec_inj.mp
  show BitVec.ofNat 32 m + 1#32 + (-1#32) = BitVec.ofNat 32 (m + 1 - 1)
  rw [BitVec.add_assoc]
  simp
theorem pos_nI {n : Nat} (h : 1 ≤ n) (hb : n < 2 ^ 31) : (0 : Int32) < nI n := nI_lt h hb
section LAWD
variable {i : MI} {t : MT} {a l : Nat} {S : SS} {L : LW}
set_option maxHeartbeats 2000000 in
theorem v_holds (hc : Cnt S) (h : CV i a S) (hw : WL L) (hL : CL t i l L) {k : Nat} (hk : k < L.2.1) {f : Nat} (hf : f < nf S) (hna : l + 1 < a ∨ a + 31 ≤ l + 1) (ly : Int32) : Tt (f_La_holds t i l (nI k) a (nI f) ly) (fun y => y.1 = (if hld S f ly L k = true then 1 else 0) ∧ ∀ b j, b ≠ l + 1 → y.2 b j = i b j) := by
  obtain ⟨hL1, ⟨hL2, hL2'⟩, ⟨hL3, hL3'⟩, ⟨hL4, hL4'⟩, hL5, hL6⟩ := hL
  obtain ⟨-, -, g, hg1, hg2, hg3, hg4⟩ := hL6 k hk
  obtain ⟨-, -, hm400, hT⟩ := hw.2.2 k hk
  unfold f_La_holds
  refine tt_grd rfl (show k < _ by omega) (by omega) ?_
  refine tt_bind (P1 := fun y => y.1 = nI (evs (fct S f ly) (lcd L k) (lm L k)).1 ∧ (∀ j, j < (evs (fct S f ly) (lcd L k) (lm L k)).1 → y.2 (l + 1) j = (evs (fct S f ly) (lcd L k) (lm L k)).2 j) ∧ ∀ b j, b ≠ l + 1 → y.2 b j = i b j)
    (tt_loop (fun q (s : Int32 × Int32 × MI) => s.1 = nI (evs (fct S f ly) (lcd L k) q).1 ∧ s.2.1 = nI (g + q) ∧ (∀ j, j < (evs (fct S f ly) (lcd L k) q).1 → s.2.2 (l + 1) j = (evs (fct S f ly) (lcd L k) q).2 j) ∧ ∀ b j, b ≠ l + 1 → s.2.2 b j = i b j) (lm L k) (by omega) ?_ ?_ ?_) ?_
  · rintro q hq ⟨tp, ixx, i5⟩ ⟨e1, e2, e3, e4⟩
    dsimp only at e1 e2 e3 e4 ⊢
    subst e1 e2
    have r1 : i5 (l + 4) (ix (nI k + 1)) = nI (g + lm L k) := by rw [nI_1, ix_nI (by omega), e4 _ _ (by omega), hg2]
    have r2 : i5 (l + 5) (ix (nI (g + q))) = lcd L k q := by rw [ix_nI (by omega), e4 _ _ (by omega), hg4 q hq]
    refine tt_grd (nI_1 k) (by omega) (by omega) ?_
    rw [r1, if_pos (nI_lt (by omega) (by omega))]
    refine tt_grd rfl (show g + q < _ by omega) (by omega) ?_
    rw [r2]
    rcases hT with hT | ⟨ty, htc, hty⟩
    · omega
    obtain ⟨T', ty', T2, ty2, p1, p2⟩ := tc_pre htc q hq
    obtain ⟨v1, v2, v3⟩ := ev_tc (F := fct S f ly) (fun s hs => fct_B hs) q T' ty' p1
    rw [v1] at e3 ⊢
    have fin : ∀ (p : Nat) (v : Int32), p < 32 → st1 (fct S f ly) (lcd L k q) (evs (fct S f ly) (lcd L k) q) = (p + 1, up1 (evs (fct S f ly) (lcd L k) q).2 p v) → p ≤ T' →
        Tt ((if nI p < (32 : Int32) then (grd (nI p) 32 (bnd (wr i5 (l + 1) (ix (nI p)) v) (fun i_86 => some ((nI p + (1 : Int32)), i_86)))) else (some (nI p, i5)) : Option (Int32 × MI)).bind (fun x => some (Sum.inl (x.1, (nI (g + q) + (1 : Int32)), x.2)))) (lpP (fun (s' : Int32 × Int32 × MI) => s'.1 = nI (evs (fct S f ly) (lcd L k) (q + 1)).1 ∧ s'.2.1 = nI (g + (q + 1)) ∧ (∀ j, j < (evs (fct S f ly) (lcd L k) (q + 1)).1 → s'.2.2 (l + 1) j = (evs (fct S f ly) (lcd L k) (q + 1)).2 j) ∧ ∀ b j, b ≠ l + 1 → s'.2.2 b j = i b j) (fun (y : Int32 × MI) => y.1 = nI (evs (fct S f ly) (lcd L k) (lm L k)).1 ∧ (∀ j, j < (evs (fct S f ly) (lcd L k) (lm L k)).1 → y.2 (l + 1) j = (evs (fct S f ly) (lcd L k) (lm L k)).2 j) ∧ ∀ b j, b ≠ l + 1 → y.2 b j = i b j)) := by
      intro p v hp hst hpT
      rw [lit_nI 32, if_pos (nI_lt hp (by omega)), grd_nI hp (by omega), ix_nI (by omega)]
      have he : evs (fct S f ly) (lcd L k) (q + 1) = (p + 1, up1 (evs (fct S f ly) (lcd L k) q).2 p v) := hst
      refine tt_some ?_
      rw [he]
      dsimp only [lpP]
      refine ⟨nI_1 p, nI_1 (g + q), fun j hj => ?_, fun b j hb => ?_⟩
      · by_cases hjp : j = p
        · subst hjp; rw [wr_s]; exact up1_s.symm
        · rw [wr_k hjp]
          show _ = up1 (evs (fct S f ly) (lcd L k) q).2 p v j
          rw [up1_o hjp]
          exact e3 j (by show j < T'; have : j < p + 1 := hj; omega)
      · rw [wr_a hb]; exact e4 b j hb
    have h5 : CV i5 a S := h.congr (fun b k' hb1 hb2 => e4 b k' (by omega)) hc
    rcases p2 with ⟨w1, w2, w3, w4, w5⟩ | ⟨w1, w2, w3, w4, w5⟩ | ⟨w1, w2, w3, w4⟩
    · obtain ⟨u1, u2⟩ := lf_lt w1
      rw [if_pos u1]
      simp only [Option.bind_some]
      rw [if_pos u2]
      simp only [Option.bind_some]
      refine tt_eq (cl_fact hc h5 hf w1) ?_
      exact fin T' _ w2 (by rw [st1_lf w1, v1]) (Nat.le_refl _)
    · have hst : st1 (fct S f ly) (lcd L k q) (evs (fct S f ly) (lcd L k) q) = (T' - 1 + 1, up1 (evs (fct S f ly) (lcd L k) q).2 (T' - 1) (1 - (evs (fct S f ly) (lcd L k) q).2 (T' - 1))) := by
        rw [w1]; unfold st1; rw [if_pos rfl, v1, Nat.sub_add_cancel w2]
      have f2 := fin (T' - 1) _ (by omega) hst (by omega)
      rw [w1]
      rw [if_pos (by decide)]
      simp only [Option.bind_some]
      rw [if_neg (by decide), if_pos (pos_nI w2 (by omega)), addm1 w2, grd_nI (by omega) (by omega), ix_nI (by omega), e3 (T' - 1) (by omega)]
      simp only [Option.bind_some]
      exact tt_eq rfl f2
    · have hpre : ∀ {β : Type} (x : Option β) (y : Option β), (if (0 : Int32) < nI T' then x else y) = x := fun x y => if_pos (pos_nI (by omega) (by omega))
      have hpre2 : ∀ {β : Type} (x : Option β) (y : Option β), (if (0 : Int32) < nI (T' - 1) then x else y) = x := fun x y => if_pos (pos_nI (by omega) (by omega))
      have a1 : nI T' + (-1 : Int32) = nI (T' - 1) := addm1 (by omega)
      have a2 : nI (T' - 1) + (-1 : Int32) = nI (T' - 2) := addm1 (by omega)
      have b1 : i5 (l + 1) (ix (nI (T' - 1))) = (evs (fct S f ly) (lcd L k) q).2 (T' - 1) := by rw [ix_nI (by omega), e3 _ (by omega)]
      have b2 : i5 (l + 1) (ix (nI (T' - 2))) = (evs (fct S f ly) (lcd L k) q).2 (T' - 2) := by rw [ix_nI (by omega), e3 _ (by omega)]
      have c1 : T' - 2 + 1 = T' - 1 := by omega
      have hs : ∀ s : Int32, lcd L k q = s → (¬ (-12 : Int32) < s) → (¬ (-11 : Int32) < s) → ∀ (v : Int32), st1 (fct S f ly) s (evs (fct S f ly) (lcd L k) q) = (T' - 2 + 1, up1 (evs (fct S f ly) (lcd L k) q).2 (T' - 2) v) → _ := fun s hs n1 n2 v hst => fin (T' - 2) v (by omega) (by rw [hs]; exact hst) (by omega)
      rcases w4 with ⟨w4, -, -, -⟩ | ⟨w4 | w4, -, -, -⟩ | ⟨w4 | w4, -, -, -⟩
      · have f2 := fin (T' - 2) ((evs (fct S f ly) (lcd L k) q).2 (T' - 2) + (evs (fct S f ly) (lcd L k) q).2 (T' - 1)) (by omega) (by rw [w4]; unfold st1; rw [if_neg (by decide), if_pos rfl, v1, c1]) (by omega)
        rw [w4, if_neg (by decide), hpre, a1, grd_nI (by omega) (by omega), b1]
        simp only [Option.bind_some]
        rw [if_neg (by decide), hpre2, a2, grd_nI (by omega) (by omega), b2]
        simp only [Option.bind_some]
        exact tt_eq rfl f2
      · have f2 := fin (T' - 2) (if (evs (fct S f ly) (lcd L k) q).2 (T' - 2) < (evs (fct S f ly) (lcd L k) q).2 (T' - 1) then 1 else 0) (by omega) (by rw [w4]; unfold st1; rw [if_neg (by decide), if_neg (by decide), if_pos rfl, v1, c1]) (by omega)
        rw [w4, if_neg (by decide), hpre, a1, grd_nI (by omega) (by omega), b1]
        simp only [Option.bind_some]
        rw [if_neg (by decide), hpre2, a2, grd_nI (by omega) (by omega), b2]
        simp only [Option.bind_some]
        refine tt_eq (v := (if (evs (fct S f ly) (lcd L k) q).2 (T' - 2) < (evs (fct S f ly) (lcd L k) q).2 (T' - 1) then 1 else 0)) ?_ f2
        show Option.bind (if (evs (fct S f ly) (lcd L k) q).2 (T' - 2) < (evs (fct S f ly) (lcd L k) q).2 (T' - 1) then some (1 : Int32) else some 0) (fun y => some y) = _
        split <;> rfl
      · have f2 := fin (T' - 2) (if (evs (fct S f ly) (lcd L k) q).2 (T' - 1) < (evs (fct S f ly) (lcd L k) q).2 (T' - 2) then 1 else 0) (by omega) (by rw [w4]; unfold st1; rw [if_neg (by decide), if_neg (by decide), if_neg (by decide), if_pos rfl, v1, c1]) (by omega)
        rw [w4, if_neg (by decide), hpre, a1, grd_nI (by omega) (by omega), b1]
        simp only [Option.bind_some]
        rw [if_neg (by decide), hpre2, a2, grd_nI (by omega) (by omega), b2]
        simp only [Option.bind_some]
        refine tt_eq (v := (if (evs (fct S f ly) (lcd L k) q).2 (T' - 1) < (evs (fct S f ly) (lcd L k) q).2 (T' - 2) then 1 else 0)) ?_ f2
        show Option.bind (if (evs (fct S f ly) (lcd L k) q).2 (T' - 1) < (evs (fct S f ly) (lcd L k) q).2 (T' - 2) then some (1 : Int32) else some 0) (fun y => some y) = _
        split <;> rfl
      · have f2 := fin (T' - 2) ((evs (fct S f ly) (lcd L k) q).2 (T' - 2) &&& (evs (fct S f ly) (lcd L k) q).2 (T' - 1)) (by omega) (by rw [w4]; unfold st1; rw [if_neg (by decide), if_neg (by decide), if_neg (by decide), if_neg (by decide), if_pos rfl, v1, c1]) (by omega)
        rw [w4, if_neg (by decide), hpre, a1, grd_nI (by omega) (by omega), b1]
        simp only [Option.bind_some]
        rw [if_neg (by decide), hpre2, a2, grd_nI (by omega) (by omega), b2]
        simp only [Option.bind_some]
        exact tt_eq rfl f2
      · have f2 := fin (T' - 2) ((evs (fct S f ly) (lcd L k) q).2 (T' - 2) ||| (evs (fct S f ly) (lcd L k) q).2 (T' - 1)) (by omega) (by rw [w4]; unfold st1; rw [if_neg (by decide), if_neg (by decide), if_neg (by decide), if_neg (by decide), if_neg (by decide), if_pos rfl, v1, c1]) (by omega)
        rw [w4, if_neg (by decide), hpre, a1, grd_nI (by omega) (by omega), b1]
        simp only [Option.bind_some]
        rw [if_neg (by decide), hpre2, a2, grd_nI (by omega) (by omega), b2]
        simp only [Option.bind_some]
        exact tt_eq rfl f2
  · rintro ⟨tp, ixx, i5⟩ ⟨e1, e2, e3, e4⟩
    dsimp only at e1 e2 e3 e4 ⊢
    subst e1 e2
    have r1 : i5 (l + 4) (ix (nI k + 1)) = nI (g + lm L k) := by rw [nI_1, ix_nI (by omega), e4 _ _ (by omega), hg2]
    refine tt_grd (nI_1 k) (by omega) (by omega) ?_
    rw [r1, if_neg (nI_nlt (Nat.le_refl _) (by omega))]
    exact tt_some ⟨rfl, e3, e4⟩
  · refine ⟨rfl, ?_, fun j hj => (Nat.not_lt_zero j hj).elim, fun b j hb => rfl⟩
    show i (l + 4) (ix (nI k)) = nI (g + 0)
    rw [ix_nI (by omega), hg1, Nat.add_zero]
  · rintro ⟨tp, i5⟩ ⟨e1, e3, e4⟩
    dsimp only at e1 e3 e4 ⊢
    subst e1
    unfold hld
    rcases hT with hT | ⟨ty, htc, hty⟩
    · rw [hT]
      rw [if_pos (show nI (evs (fct S f ly) (lcd L k) 0).1 = 0 from rfl)]
      exact tt_some ⟨by simp, e4⟩
    · obtain ⟨v1, v2, v3⟩ := ev_tc (F := fct S f ly) (fun s hs => fct_B hs) _ 1 ty htc
      rw [v1] at e3 ⊢
      have hm0 : lm L k ≠ 0 := by
        intro q
        rw [q] at htc
        cases htc
      rw [if_neg (by decide), e3 0 (by decide)]
      by_cases hz : (evs (fct S f ly) (lcd L k) (lm L k)).2 0 = 0
      · rw [if_pos hz]
        exact tt_some ⟨by simp [hz, hm0], e4⟩
      · rw [if_neg hz]
        exact tt_some ⟨by simp [hz], e4⟩
theorem v_sum (hc : Cnt S) (h : CV i a S) (hw : WL L) (hL : CL t i l L) {f : Nat} (hf : f < nf S) (hna : l + 1 < a ∨ a + 31 ≤ l + 1) (w ly : Int32) : Tt (f_La_sum t i l w a (nI f) ly) (fun y => y.1 = lsum S L w f ly ∧ ∀ b j, b ≠ l + 1 → y.2 b j = i b j) := by
  have hL0 := hL
  obtain ⟨hL1, ⟨hL2, hL2'⟩, ⟨hL3, hL3'⟩, ⟨hL4, hL4'⟩, hL5, hL6⟩ := hL
  have h12 := hw.1
  have hlt : ∀ q, q ≤ 12 → (nI q < i l 0 ↔ q < L.2.1) := by
    intro q hq
    rw [hL1]
    by_cases hb : L.1 = true
    · rw [if_pos hb, nI_ltI (by omega) (by omega)]
    · rw [if_neg hb]
      have h0 := hw.2.1 (by simpa using hb)
      rw [h0]
      refine ⟨fun h9 => absurd h9 ?_, fun h9 => absurd h9 (Nat.not_lt_zero q)⟩
      rw [Int32.lt_iff_toInt_lt, nI_toInt (by omega)]
      have : (-1 : Int32).toInt = -1 := by decide
      omega
  unfold f_La_sum
  refine tt_bind (P1 := fun y => y.1 = lsum S L w f ly ∧ ∀ b j, b ≠ l + 1 → y.2 b j = i b j)
    (tt_loop (fun q (s : Int32 × Int32 × MI) => s.1 = fo (fun k x => if lso L k = w ∧ hld S f ly L k = true then x + lam L k else x) q 0 ∧ s.2.1 = nI q ∧ ∀ b j, b ≠ l + 1 → s.2.2 b j = i b j) L.2.1 (by omega) ?_ ?_ ?_) ?_
  · rintro q hq ⟨x, ixx, i5⟩ ⟨e1, e2, e4⟩
    dsimp only at e1 e2 e4 ⊢
    subst e2
    obtain ⟨q1, q2, -⟩ := hL6 q hq
    rw [e4 l 0 (by omega), if_pos ((hlt q (by omega)).mpr hq)]
    refine tt_grd rfl (show q < _ by omega) (by omega) ?_
    have r1 : i5 (l + 2) (ix (nI q)) = lso L q := by rw [ix_nI (by omega), e4 _ _ (by omega), q1]
    have h5 : CV i5 a S := h.congr (fun b k' hb1 hb2 => e4 b k' (by omega)) hc
    have hL5 : CL t i5 l L := hL0.congr (fun b k' hb => e4 b k' (by omega))
    have hfo : fo (fun k x => if lso L k = w ∧ hld S f ly L k = true then x + lam L k else x) (q + 1) 0 = (if lso L q = w ∧ hld S f ly L q = true then x + lam L q else x) := by rw [e1]; rfl
    rw [r1]
    refine tt_bind (P1 := fun y => y.1 = (if lso L q = w ∧ hld S f ly L q = true then x + lam L q else x) ∧ ∀ b j, b ≠ l + 1 → y.2 b j = i b j) ?_ ?_
    · by_cases hs : lso L q = w
      · rw [if_pos hs]
        refine tt_bind (v_holds hc h5 hw hL5 hq hf hna ly) ?_
        rintro ⟨v, i6⟩ ⟨u1, u2⟩
        dsimp only at u1 u2 ⊢
        have u3 : ∀ b j, b ≠ l + 1 → i6 b j = i b j := fun b j hb => by rw [u2 b j hb, e4 b j hb]
        by_cases hh : hld S f ly L q = true
        · rw [if_pos hh] at u1
          subst u1
          rw [if_neg (by decide)]
          refine tt_grd rfl (show q < _ by omega) (by omega) ?_
          refine tt_some ⟨?_, u3⟩
          dsimp only
          rw [if_pos ⟨hs, hh⟩, ix_nI (by omega), u3 _ _ (by omega), q2]
        · rw [if_neg hh] at u1
          subst u1
          rw [if_pos rfl]
          refine tt_some ⟨?_, u3⟩
          rw [if_neg (fun q9 => hh q9.2)]
      · rw [if_neg hs]
        refine tt_some ⟨?_, e4⟩
        rw [if_neg (fun q9 => hs q9.1)]
    · rintro ⟨x', i6⟩ ⟨u1, u2⟩
      dsimp only at u1 u2 ⊢
      refine tt_some ⟨?_, nI_1 q, u2⟩
      dsimp only
      rw [hfo, u1]
  · rintro ⟨x, ixx, i5⟩ ⟨e1, e2, e4⟩
    dsimp only at e1 e2 e4 ⊢
    subst e2
    rw [e4 l 0 (by omega), if_neg (fun q => absurd ((hlt _ (by omega)).mp q) (Nat.lt_irrefl _))]
    exact tt_some ⟨e1, e4⟩
  · exact ⟨rfl, rfl, fun b j _ => rfl⟩
  · rintro ⟨x, i5⟩ ⟨e1, e4⟩
    exact tt_some ⟨e1, e4⟩
end LAWD
