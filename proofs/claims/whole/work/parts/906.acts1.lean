/-! ===== acts, 1 ===== -/
theorem win1_of {x : Int32} {n : Nat} (hn : n + 1 < 2 ^ 31) (h : win x 1 (nI n) = true) : ∃ k, 1 ≤ k ∧ k ≤ n ∧ x = nI k := by
  have h1 : ¬ x < 1 := by
    unfold win at h
    simp only [Bool.and_eq_true, decide_eq_true_eq] at h
    exact h.1
  have h0 : win x 0 (nI n) = true := by
    unfold win at h ⊢
    simp only [Bool.and_eq_true, decide_eq_true_eq] at h ⊢
    refine ⟨fun q => h.1 ?_, h.2⟩
    rw [Int32.lt_iff_toInt_lt] at q ⊢
    have e0 : (0 : Int32).toInt = 0 := by decide
    have e1 : (1 : Int32).toInt = 1 := by decide
    omega
  obtain ⟨k, hk, rfl⟩ := win_of hn h0
  refine ⟨k, ?_, hk, rfl⟩
  rcases Nat.lt_or_ge k 1 with h9 | h9
  · exact absurd (nI_lt (b := 1) h9 (by omega)) h1
  · exact h9
theorem mo_not {b : Bool} : (if (if b = true then (1 : Int32) else 0) = 0 then some (1 : Int32) else some 0) = some (if b = true then 0 else 1) := by
  cases b <;> rfl
theorem ca_ok {tg : List Nat} {lw : Nat} {i i2 i' : MI} {r r3 : MR} {W : PW} {S' : SS} {v : Int32} (hw : WW W) (h : CW i r lw W) (hlw : lw + 1 < 1149 ∨ 1595 ≤ lw + 1) (hS : Wf S') (hm : CP i2 r3 lw (min 12 (W.2.1 + 1)) (phi W.1 W.2.2) ∧ (∀ b j, (b < 1149 ∨ 1595 ≤ b) → i2 b j = i b j) ∧ ∀ b k, (b < 1149 ∨ 1595 ≤ b) → r3 b k = r b k) (hc : CV i' 1001 S') (hf : ∀ b j, (b < 1001 ∨ 1032 ≤ b) → b ≠ lw + 1 → i' b j = i2 b j) : CA tg lw i r ((0, v), psh W S') (.inl v, i', r3) := by
  have hW := hw.psh hS
  refine ⟨rfl, ⟨hW, hc, (hm.2.2 1001 16 (by omega)).trans h.2.1, hm.1.congr hW.2.2 (fun b j h1 h2 => hf b j (by omega) (by omega)) (fun _ _ _ _ => rfl)⟩, fun b j h1 h2 h3 h4 => (hf b j h1 h3).trans (hm.2.1 b j h2), fun b k h1 _ => hm.2.2 b k h1⟩
theorem ca_er {tg : List Nat} {lw : Nat} {i : MI} {r : MR} {W : PW} {p : Int32 × Int32} {o : Int32 ⊕ Nat} (hw : WW W) (h : CW i r lw W) (ho : o = toC tg p) : CA tg lw i r (p, W) (o, i, r) :=
  ⟨ho, ⟨hw, h⟩, fa.refl lw i, fun _ _ _ _ => rfl⟩
theorem fA_rem {i i1 : MI} (he : ∀ b j, b ≠ 1643 → ¬ (b = 1638 ∧ j = 7) → i1 b j = i b j) : fA i i1 := ⟨fun b j hb => he b j (by omega) (by omega), fun j _ h7 => he 1638 j (by decide) (by omega), fun j _ => he 1639 j (by decide) (by omega)⟩
theorem fA_wr {i i1 : MI} {k : Nat} {v : Int32} (h : fA i i1) (hk : k < 417) (h5 : k ≠ 5) : fA i (wr i1 1639 k v) := ⟨fun b j hb => by rw [wr_a (by omega)]; exact h.1 b j hb, fun j h0 h7 => by rw [wr_a (by omega)]; exact h.2.1 j h0 h7, fun j hj => by rw [wr_k (by omega)]; exact h.2.2 j hj⟩
theorem fA_t {i i1 : MI} (h : fA i i1) (v : Int32) : fA i (wr i1 1638 0 v) := ⟨fun b j hb => by rw [wr_a (by omega)]; exact h.1 b j hb, fun j h0 h7 => by rw [wr_k h0]; exact h.2.1 j h0 h7, fun j hj => by rw [wr_a (by omega)]; exact h.2.2 j hj⟩
theorem fA_fm {i i' : MI} (h : fm i i') : fA i i' := ⟨fun b j hb => h.1 b j (by omega) (by omega) (by omega), fun j _ _ => h.1 1638 j (by decide) (by decide) (by decide), fun j hj => h.2 j hj⟩
theorem MW.t {i : MI} {W : PW} (h : MW i W) (v : Int32) : MW (wr i 1638 0 v) W := ⟨mv_t h.1 v, h.2.congr (fun j => wr_a (by decide)) (wr_k (by decide)) (wr_a (by decide))⟩
theorem ma_er {i : MI} {W : PW} {b v k : Int32} (hk : ¬ k = 0) (h : MW i W) : MA i ((k, v), W) (b, wr (wr i 1638 0 0) 1638 0 k) := ⟨show wr (wr i 1638 0 0) 1638 0 k 1638 0 = k from wr_s, fun q => absurd q hk, (h.t 0).t k, fA_t (fA_t (fA.refl i) 0) k⟩
theorem ma_ok {i i' : MI} {W' : PW} {b v : Int32} (h0 : i' 1638 0 = 0) (hv : b = v) (hM : MW i' W') (hf : fA (wr i 1638 0 0) i') : MA i ((0, v), W') (b, i') := ⟨h0, fun _ => hv, hM, (fA_t (fA.refl i) 0).trans hf⟩
def spIce (W : PW) (x : Int32) : (Int32 × Int32) × PW := if win x 1 999 = true then ((0, jmin 999 (W.1 0 0 6 + x)), psh W (su W.1 0 0 6 (jmin 999 (W.1 0 0 6 + x)))) else ((1, 0), W)
def spCurrent (W : PW) (x y : Int32) : (Int32 × Int32) × PW := if okx x 25 = true then (if win y 0 4 = true then ((0, W.1 1 0 (ix x)), psh W (su W.1 1 0 (ix x) y)) else ((2, 0), W)) else ((1, 0), W)
def spHeads (W : PW) (x y : Int32) : (Int32 × Int32) × PW := if okx x (nb W.1) = true ∧ (y = -1 ∨ okx y 25 = true) then ((0, W.1 3 (ix x) 1), psh W (su W.1 3 (ix x) 1 y)) else ((1, 0), W)
def spPay (W : PW) (x y : Int32) : (Int32 × Int32) × PW := if okx x (ny W.1) = true then (if win y 1 999 = true then ((0, jmin 999 (W.1 4 (ix x) 1 + y)), psh W (su W.1 4 (ix x) 1 (jmin 999 (W.1 4 (ix x) 1 + y)))) else ((2, 0), W)) else ((1, 0), W)
def spSponge (W : PW) (x y : Int32) : (Int32 × Int32) × PW := if okx x (nf W.1) = true then (if win y 1 99 = true then (if W.1 2 (ix x) 3 = 2 then ((0, jmin 99 (W.1 2 (ix x) 2 + y)), psh W (su W.1 2 (ix x) 2 (jmin 99 (W.1 2 (ix x) 2 + y)))) else ((3, 0), W)) else ((2, 0), W)) else ((1, 0), W)
theorem wf_cur {S : SS} (hw : Wf S) {c k : Nat} (hk : k < 5) : Wf (su S 1 0 c (nI k)) := by
  refine ⟨cnt_su hw.1 (Or.inl (by decide)), fun c' hc' => ?_, fun f hf => hw.2.2.1 f hf, fun f hf => hw.2.2.2.1 f hf, fun f hf => hw.2.2.2.2.1 f hf, fun f hf => hw.2.2.2.2.2.1 f hf, hw.2.2.2.2.2.2.1, hw.2.2.2.2.2.2.2.1, hw.2.2.2.2.2.2.2.2.1, hw.2.2.2.2.2.2.2.2.2⟩
  by_cases e : c' = c
  · rw [e, su_s]; exact ⟨k, hk, rfl⟩
  · rw [su_o (by omega)]; exact hw.2.1 c' hc'
section ACTS1
variable {i : MI} {t : MT} {r : MR} {lw : Nat} {W : PW}
theorem m_isNow (hw : WW W) (h : MW i W) {k : Nat} (hk : k < 2115) (v : Int32) : Tt (f_Mo_isNow i (nI k) v) (fun y => y.1 = i 1639 k ∧ ∃ i1, MP i1 (min 12 (W.2.1 + 1)) (phi W.1 W.2.2) ∧ (∀ b j, b ≠ 1643 → ¬ (b = 1638 ∧ j = 7) → i1 b j = i b j) ∧ y.2 = wr i1 1639 k v) := by
  unfold f_Mo_isNow
  refine tt_bind (m_remembers hw h) ?_
  rintro i1 ⟨h1, h2⟩
  rw [grd_nI hk (by decide), ix_nI (by omega)]
  exact tt_bnd (tt_some ⟨h2 1639 k (by decide) (by omega), i1, h1, h2, rfl⟩)
/-- after an act that writes one number -/
theorem ma_now {i i1 : MI} {k : Nat} {v b o : Int32} {S' : SS} (hk : k < 417) (h5 : k ≠ 5) (hp : MP i1 (min 12 (W.2.1 + 1)) (phi W.1 W.2.2)) (he : ∀ b j, b ≠ 1643 → ¬ (b = 1638 ∧ j = 7) → i1 b j = wr i 1638 0 0 b j) (hv : b = o) (hM : MV (wr i1 1639 k v) S') : MA i ((0, o), psh W S') (b, wr i1 1639 k v) :=
  ma_ok ((wr_a (by decide)).trans ((he 1638 0 (by decide) (by omega)).trans wr_s)) hv ⟨hM, hp.congr (fun j => wr_a (by decide)) (wr_a (by decide)) (wr_k (by omega))⟩ (fA_wr (fA_rem he) hk h5)
theorem rem_mv {i i1 : MI} {S : SS} (h : MV i S) (he : ∀ b j, b ≠ 1643 → ¬ (b = 1638 ∧ j = 7) → i1 b j = i b j) : MV i1 S := h.congr (fun k => he 1639 k (by decide) (by omega))
theorem v_ice (hw : WW W) (h : CW i r lw W) (hlw : lw + 1 < 1149 ∨ 1595 ≤ lw + 1) (x : Int32) : Tt (f_Lc_ice r i x) (CA [20] lw i r (spIce W x)) := by
  unfold f_Lc_ice spIce
  rw [v_within]
  by_cases hx : win x 1 999 = true
  · rw [if_pos hx, if_pos hx, Option.bind_some]
    obtain ⟨k, hk1, hk, rfl⟩ := win1_of (n := 999) (by decide) hx
    dsimp only
    refine tt_bind (v_remember hw h) ?_
    rintro ⟨i2, r3⟩ hm
    have h2 : CV i2 1001 W.1 := h.1.congr (fun b j _ hb => hm.2.1 b j (by omega)) hw.1.1
    dsimp only at hm ⊢
    rw [show i2 1001 12 = W.1 0 0 6 from h2.1.2.2.2.2.2.1, j_min, Option.bind_some]
    refine tt_bnd ?_
    rw [wr_s]
    refine tt_some (ca_ok hw h hlw (hw.1.one (Or.inl ⟨rfl, ?_⟩)) hm (h2.scal hw.1.1 (by omega) _) (fun b j hb _ => wr_a (by omega)))
    obtain ⟨z, hz, ez⟩ := hw.1.2.2.2.2.2.2.1
    refine ⟨min 999 (z + k), by omega, ?_⟩
    rw [ez, nI_add, lit_nI 999, jmin_nI (by omega) (by omega)]
  · rw [if_neg hx, if_neg hx]; exact tt_some (ca_er hw h rfl)
theorem m_ice (hw : WW W) (h : MW i W) (x : Int32) : Tt (f_Mo_ice i x) (MA i (spIce W x)) := by
  have h1 := h.t 0
  unfold f_Mo_ice spIce
  refine tt_bnd ?_
  rw [mo_win, Option.bind_some, mo_not, Option.bind_some]
  by_cases hx : win x 1 999 = true
  · rw [if_pos hx, if_pos hx, thr0, Option.bind_some]
    dsimp only
    rw [if_pos rfl, h1.1.1 6 (by decide) (by decide), j_min, Option.bind_some]
    refine tt_bind (m_isNow hw h1 (k := 6) (by decide) _) ?_
    rintro ⟨y, i2⟩ ⟨-, i1, e2, e3, e4⟩
    dsimp only at e4 ⊢
    subst e4
    refine tt_some ?_
    rw [wr_s]
    exact ma_now (by decide) (by decide) e2 e3 rfl ((rem_mv h1.1 e3).scal (by decide) (by decide) _)
  · rw [if_neg hx, if_neg hx, thr1, Option.bind_some]
    dsimp only
    rw [if_neg (by decide)]
    exact tt_some (ma_er (by decide) h)
theorem v_current (hw : WW W) (h : CW i r lw W) (hlw : lw + 1 < 1149 ∨ 1595 ≤ lw + 1) (x y : Int32) : Tt (f_Lc_current r i x y) (CA [22, 20] lw i r (spCurrent W x y)) := by
  unfold f_Lc_current spCurrent
  rw [v_needCell]
  by_cases hx : okx x 25 = true
  · rw [if_pos hx, if_pos hx, Option.bind_some]
    obtain ⟨c, hc, rfl⟩ := okx_of (by decide) hx
    dsimp only
    rw [v_within]
    by_cases hy : win y 0 4 = true
    · rw [if_pos hy, if_pos hy, Option.bind_some]
      obtain ⟨k, hk, rfl⟩ := win_of (n := 4) (by decide) hy
      dsimp only
      refine tt_bind (v_remember hw h) ?_
      rintro ⟨i2, r3⟩ hm
      have h2 : CV i2 1001 W.1 := h.1.congr (fun b j _ hb => hm.2.1 b j (by omega)) hw.1.1
      dsimp only at hm ⊢
      rw [grd_nI hc (by decide), ix_nI (by omega)]
      refine tt_bnd ?_
      rw [h2.2.1 c hc]
      exact tt_some (ca_ok hw h hlw (wf_cur hw.1 (by omega)) hm (h2.cur hw.1.1 hc _) (fun b j hb _ => wr_a (by omega)))
    · rw [if_neg hy, if_neg hy]; exact tt_some (ca_er hw h rfl)
  · rw [if_neg hx, if_neg hx]; exact tt_some (ca_er hw h rfl)
theorem m_current (hw : WW W) (h : MW i W) (x y : Int32) : Tt (f_Mo_current i x y) (MA i (spCurrent W x y)) := by
  have h1 := h.t 0
  unfold f_Mo_current spCurrent
  refine tt_bnd ?_
  rw [m_noCell, Option.bind_some]
  by_cases hx : okx x 25 = true
  · rw [if_pos hx, if_pos hx, thr0, Option.bind_some]
    obtain ⟨c, hc, rfl⟩ := okx_of (by decide) hx
    dsimp only
    rw [if_pos rfl, mo_win, Option.bind_some, mo_not, Option.bind_some]
    by_cases hy : win y 0 4 = true
    · rw [if_pos hy, if_pos hy, thr0, Option.bind_some]
      dsimp only
      rw [if_pos rfl, lit_nI 11, nI_add, ix_nI (by omega)]
      refine tt_bind (m_isNow hw h1 (k := 11 + c) (by omega) _) ?_
      rintro ⟨z, i2⟩ ⟨ez, i1, e2, e3, e4⟩
      dsimp only at ez e4 ⊢
      subst e4
      rw [ez, h1.1.2.1 c hc]
      exact tt_some (ma_now (by omega) (by omega) e2 e3 rfl ((rem_mv h1.1 e3).cur hc _))
    · rw [if_neg hy, if_neg hy, thr1, Option.bind_some]
      dsimp only
      rw [if_neg (by decide)]
      exact tt_some (ma_er (by decide) h)
  · rw [if_neg hx, if_neg hx, thr1, Option.bind_some]
    dsimp only
    rw [if_neg (by decide)]
    exact tt_some (ma_er (by decide) h)
theorem v_heads (hw : WW W) (h : CW i r lw W) (hlw : lw + 1 < 1149 ∨ 1595 ≤ lw + 1) (x y : Int32) : Tt (f_Lc_heads r i x y) (CA [22] lw i r (spHeads W x y)) := by
  have h3 := hw.1.1.b3
  unfold f_Lc_heads spHeads
  rw [v_needBoat hw.1.1 h.1]
  by_cases hx : okx x (nb W.1) = true
  · rw [if_pos hx, Option.bind_some]
    dsimp only
    by_cases hy : y = -1 ∨ okx y 25 = true
    · rw [if_pos (show okx x (nb W.1) = true ∧ (y = -1 ∨ okx y 25 = true) from ⟨hx, hy⟩)]
      obtain ⟨b, hb, rfl⟩ := okx_of (by omega) hx
      have hys : y = -1 ∨ ∃ c, c < 25 ∧ y = nI c := hy.imp id (fun q => okx_of (by decide) q)
      refine tt_bind (P1 := fun v => v = .inl ()) ?_ ?_
      · by_cases e : y = -1
        · rw [if_pos e]; exact tt_some rfl
        · rw [if_neg e, v_needCell, if_pos (hy.resolve_left e), Option.bind_some]; exact tt_some rfl
      · rintro _ rfl
        dsimp only
        refine tt_bind (v_remember hw h) ?_
        rintro ⟨i2, r3⟩ hm
        have h2 : CV i2 1001 W.1 := h.1.congr (fun b j _ hb => hm.2.1 b j (by omega)) hw.1.1
        dsimp only at hm ⊢
        rw [grd_nI (show b < 3 by omega) (by decide), ix_nI (by omega)]
        refine tt_bnd ?_
        rw [(h2.2.2.2.1 b hb).2.1]
        obtain ⟨k1, k2, k3⟩ := hw.1.2.2.2.1 b hb
        refine tt_some (ca_ok hw h hlw (hw.1.boat b (fun x y z hn => su_o (by omega)) (fun _ => ⟨?_, ?_, ?_⟩)) hm (h2.boat hw.1.1 (by omega) (by decide) _) (fun b j hb _ => wr_a (by omega)))
        · rw [su_o (by omega)]; exact k1
        · rw [su_s]; exact hys
        · rw [su_o (by omega)]; exact k3
    · rw [if_neg (fun q : okx x (nb W.1) = true ∧ (y = -1 ∨ okx y 25 = true) => hy q.2)]
      have e : ¬ y = -1 := fun q => hy (Or.inl q)
      have e2 : ¬ okx y 25 = true := fun q => hy (Or.inr q)
      rw [if_neg e, v_needCell, if_neg e2]
      exact tt_some (ca_er hw h rfl)
  · rw [if_neg hx, if_neg (fun q : okx x (nb W.1) = true ∧ (y = -1 ∨ okx y 25 = true) => hx q.1)]; exact tt_some (ca_er hw h rfl)
theorem m_heads (hw : WW W) (h : MW i W) (x y : Int32) : Tt (f_Mo_heads i x y) (MA i (spHeads W x y)) := by
  have h3 := hw.1.1.b3
  have h1 := h.t 0
  unfold f_Mo_heads spHeads
  refine tt_bnd ?_
  rw [m_noBoat hw.1.1 h1.1, Option.bind_some]
  refine tt_bind (P1 := fun v => v = if okx x (nb W.1) = true ∧ (y = -1 ∨ okx y 25 = true) then 0 else 1) ?_ ?_
  · by_cases hx : okx x (nb W.1) = true
    · rw [if_pos hx, if_pos rfl]
      by_cases e : y = -1
      · rw [if_pos e, if_pos ⟨hx, Or.inl e⟩]; exact tt_some rfl
      · rw [if_neg e, m_noCell, Option.bind_some]
        by_cases e2 : okx y 25 = true
        · rw [if_pos e2, if_pos rfl, if_pos ⟨hx, Or.inr e2⟩]; exact tt_some rfl
        · rw [if_neg e2, if_neg (by decide), if_neg (fun q => q.2.elim e e2)]; exact tt_some rfl
    · rw [if_neg hx, if_neg (by decide), if_neg (fun q => hx q.1)]; exact tt_some rfl
  · rintro v rfl
    by_cases hc : okx x (nb W.1) = true ∧ (y = -1 ∨ okx y 25 = true)
    · rw [if_pos hc, if_pos hc, thr0, Option.bind_some]
      obtain ⟨b, hb, rfl⟩ := okx_of (by omega) hc.1
      dsimp only
      unfold f_Mo_boatAt
      rw [if_pos rfl, Option.bind_some, lit_nI 76, lit_nI 3, mul_nI, nI_add, lit_nI 1, nI_add, ix_nI (by omega)]
      refine tt_bind (m_isNow hw h1 (k := 76 + 3 * b + 1) (by omega) _) ?_
      rintro ⟨z, i2⟩ ⟨ez, i1, e2, e3, e4⟩
      dsimp only at ez e4 ⊢
      subst e4
      rw [ez, h1.1.2.2.2.1 b (by omega) 1 (by decide)]
      exact tt_some (ma_now (by omega) (by omega) e2 e3 rfl ((rem_mv h1.1 e3).boat (by omega) (by decide) _))
    · rw [if_neg hc, if_neg hc, thr1, Option.bind_some]
      dsimp only
      rw [if_neg (by decide)]
      exact tt_some (ma_er (by decide) h)
theorem v_pay (hw : WW W) (h : CW i r lw W) (hlw : lw + 1 < 1149 ∨ 1595 ≤ lw + 1) (x y : Int32) : Tt (f_Lc_pay r i x y) (CA [22, 20] lw i r (spPay W x y)) := by
  have h5 := hw.1.1.y5
  unfold f_Lc_pay spPay
  rw [v_needBuyer hw.1.1 h.1]
  by_cases hx : okx x (ny W.1) = true
  · rw [if_pos hx, if_pos hx, Option.bind_some]
    obtain ⟨b, hb, rfl⟩ := okx_of (by omega) hx
    dsimp only
    rw [v_within]
    by_cases hy : win y 1 999 = true
    · rw [if_pos hy, if_pos hy, Option.bind_some]
      obtain ⟨k, hk1, hk, rfl⟩ := win1_of (n := 999) (by decide) hy
      dsimp only
      refine tt_bind (v_remember hw h) ?_
      rintro ⟨i2, r3⟩ hm
      have h2 : CV i2 1001 W.1 := h.1.congr (fun b j _ hb => hm.2.1 b j (by omega)) hw.1.1
      dsimp only at hm ⊢
      rw [grd_nI (show b < 5 by omega) (by decide), ix_nI (by omega), (h2.2.2.2.2.1 b hb).2.1, j_min, Option.bind_some]
      refine tt_bnd ?_
      rw [wr_s]
      obtain ⟨k1, ⟨z, hz, ez⟩, k3, k4⟩ := hw.1.2.2.2.2.1 b hb
      refine tt_some (ca_ok hw h hlw (hw.1.buyer b (fun x y z hn => su_o (by omega)) (fun _ => ⟨?_, ?_, ?_, ?_⟩)) hm (h2.buyer hw.1.1 (by omega) (by decide) _) (fun b j hb _ => wr_a (by omega)))
      · rw [su_o (by omega)]; exact k1
      · rw [su_s]
        refine ⟨min 999 (z + k), by omega, ?_⟩
        rw [ez, nI_add, lit_nI 999, jmin_nI (by omega) (by omega)]
      · rw [su_o (by omega)]; exact k3
      · rw [su_o (by omega)]; exact k4
    · rw [if_neg hy, if_neg hy]; exact tt_some (ca_er hw h rfl)
  · rw [if_neg hx, if_neg hx]; exact tt_some (ca_er hw h rfl)
theorem m_pay (hw : WW W) (h : MW i W) (x y : Int32) : Tt (f_Mo_pay i x y) (MA i (spPay W x y)) := by
  have h5 := hw.1.1.y5
  have h1 := h.t 0
  unfold f_Mo_pay spPay
  refine tt_bnd ?_
  rw [m_noBuyer hw.1.1 h1.1, Option.bind_some]
  by_cases hx : okx x (ny W.1) = true
  · rw [if_pos hx, if_pos hx, thr0, Option.bind_some]
    obtain ⟨b, hb, rfl⟩ := okx_of (by omega) hx
    dsimp only
    rw [if_pos rfl, mo_win, Option.bind_some, mo_not, Option.bind_some]
    by_cases hy : win y 1 999 = true
    · rw [if_pos hy, if_pos hy, thr0, Option.bind_some]
      dsimp only
      have g1 : f_Mo_ofBuyer (wr i 1638 0 0) (nI b) 1 = some (W.1 4 b 1) := m_buyer h1.1 (k := 1) (by omega) (by decide)
      unfold f_Mo_buyerAt
      rw [if_pos rfl, Option.bind_some, g1, Option.bind_some, j_min, Option.bind_some, lit_nI 85, lit_nI 4, mul_nI, nI_add, nI_1, ix_nI (by omega)]
      refine tt_bind (m_isNow hw h1 (k := 85 + 4 * b + 1) (by omega) _) ?_
      rintro ⟨z, i2⟩ ⟨ez, i1, e2, e3, e4⟩
      dsimp only at ez e4 ⊢
      subst e4
      have hM := (rem_mv h1.1 e3).buyer (show b < 5 by omega) (show 1 < 4 by decide) (jmin 999 (W.1 4 b 1 + y))
      have g2 := m_buyer hM (show b < 5 by omega) (show 1 < 4 by decide)
      rw [su_s] at g2
      refine tt_eq g2 ?_
      exact tt_some (ma_now (by omega) (by omega) e2 e3 rfl hM)
    · rw [if_neg hy, if_neg hy, thr1, Option.bind_some]
      dsimp only
      rw [if_neg (by decide)]
      exact tt_some (ma_er (by decide) h)
  · rw [if_neg hx, if_neg hx, thr1, Option.bind_some]
    dsimp only
    rw [if_neg (by decide)]
    exact tt_some (ma_er (by decide) h)
theorem v_onSlab {S : SS} (hc : Cnt S) (h : CV i 1001 S) {f : Nat} (hf : f < nf S) : f_Lc_needOnSlab i (nI f) = some (if S 2 f 3 = 2 then .inl () else .inr 21) := by
  have h8 := hc.f8
  unfold f_Lc_needOnSlab
  rw [grd_nI (show f < 8 by omega) (by decide), ix_nI (by omega), (h.2.2.1 f hf).2.2.2.1]
  split <;> rfl
theorem v_sponge (hw : WW W) (h : CW i r lw W) (hlw : lw + 1 < 1149 ∨ 1595 ≤ lw + 1) (x y : Int32) : Tt (f_Lc_sponge r i x y) (CA [22, 20, 21] lw i r (spSponge W x y)) := by
  have h8 := hw.1.1.f8
  unfold f_Lc_sponge spSponge
  rw [v_needFish hw.1.1 h.1]
  by_cases hx : okx x (nf W.1) = true
  · rw [if_pos hx, if_pos hx, Option.bind_some]
    obtain ⟨f, hf, rfl⟩ := okx_of (by omega) hx
    dsimp only
    rw [v_within]
    by_cases hy : win y 1 99 = true
    · rw [if_pos hy, if_pos hy, Option.bind_some]
      obtain ⟨k, hk1, hk, rfl⟩ := win1_of (n := 99) (by decide) hy
      dsimp only
      rw [v_onSlab hw.1.1 h.1 hf, ix_nI (by omega)]
      by_cases c : W.1 2 f 3 = 2
      · rw [if_pos c, if_pos c, Option.bind_some]
        dsimp only
        refine tt_bind (v_remember hw h) ?_
        rintro ⟨i2, r3⟩ hm
        have h2 : CV i2 1001 W.1 := h.1.congr (fun b j _ hb => hm.2.1 b j (by omega)) hw.1.1
        dsimp only at hm ⊢
        obtain ⟨f0, f1, f2, f3, f4, f5⟩ := h2.2.2.1 f hf
        rw [grd_nI (show f < 8 by omega) (by decide), f2, j_min, Option.bind_some]
        refine tt_bnd ?_
        rw [wr_s]
        obtain ⟨k1, k2, ⟨z, hz, ez⟩, k4⟩ := hw.1.2.2.1 f hf
        have hv : jmin 99 (W.1 2 f 2 + nI k) = nI (min 99 (z + k)) := by rw [ez, nI_add, lit_nI 99, jmin_nI (by omega) (by omega)]
        refine tt_some (ca_ok hw h hlw (hw.1.fish f (fun x y z hn => su_o (by omega)) (fun _ => ⟨?_, ?_, ?_, ?_⟩)) hm (h2.fish hw.1.1 (show f < 8 by omega) (fun b j hb => wr_a hb) (fun x y z hn => su_o (by omega)) (fun _ => ?_)).1 (fun b j hb _ => wr_a (by omega)))
        · rw [su_o (by omega)]; exact k1
        · rw [su_o (by omega)]; exact k2
        · rw [su_s]; exact ⟨_, by omega, hv⟩
        · rw [su_o (x' := 2) (z' := 3) (by omega), su_o (x' := 2) (z' := 4) (by omega)]; exact k4
        · rw [wr_k (by decide), wr_k (by decide), wr_s, wr_k (by decide), wr_k (by decide), wr_k (by decide), su_o (x' := 2) (z' := 0) (by omega), su_o (x' := 2) (z' := 1) (by omega), su_o (x' := 2) (z' := 3) (by omega), su_o (x' := 2) (z' := 4) (by omega), su_s]
          exact ⟨f0, f1, rfl, f3, f4, f5⟩
      · rw [if_neg c, if_neg c]; exact tt_some (ca_er hw h rfl)
    · rw [if_neg hy, if_neg hy]; exact tt_some (ca_er hw h rfl)
  · rw [if_neg hx, if_neg hx]; exact tt_some (ca_er hw h rfl)
theorem m_sponge (hw : WW W) (h : MW i W) (x y : Int32) : Tt (f_Mo_sponge i x y) (MA i (spSponge W x y)) := by
  have h8 := hw.1.1.f8
  have h1 := h.t 0
  unfold f_Mo_sponge spSponge
  refine tt_bnd ?_
  rw [m_noFish hw.1.1 h1.1, Option.bind_some]
  by_cases hx : okx x (nf W.1) = true
  · rw [if_pos hx, if_pos hx, thr0, Option.bind_some]
    obtain ⟨f, hf, rfl⟩ := okx_of (by omega) hx
    dsimp only
    rw [if_pos rfl, mo_win, Option.bind_some, mo_not, Option.bind_some]
    by_cases hy : win y 1 99 = true
    · rw [if_pos hy, if_pos hy, thr0, Option.bind_some]
      dsimp only
      have g3 : f_Mo_of (wr i 1638 0 0) (nI f) 3 = some (W.1 2 f 3) := m_of h1.1 (k := 3) (by omega) (by decide)
      have g2 : f_Mo_of (wr i 1638 0 0) (nI f) 2 = some (W.1 2 f 2) := m_of h1.1 (k := 2) (by omega) (by decide)
      have ef : (36 : Int32) + (5 : Int32) * nI f + (2 : Int32) = nI (36 + 5 * f + 2) := by rw [lit_nI 36, lit_nI 5, lit_nI 2, mul_nI, nI_add, nI_add]
      rw [if_pos rfl, g3, Option.bind_some, ix_nI (by omega)]
      by_cases c : W.1 2 f 3 = 2
      · rw [if_pos c, if_pos c, Option.bind_some, thr0, Option.bind_some]
        dsimp only
        unfold f_Mo_fishAt
        rw [if_pos rfl, ef, Option.bind_some, g2, Option.bind_some, j_min, Option.bind_some]
        refine tt_bind (m_isNow hw h1 (k := 36 + 5 * f + 2) (by omega) _) ?_
        rintro ⟨z, i2⟩ ⟨ez, i1, e2, e3, e4⟩
        dsimp only at ez e4 ⊢
        subst e4
        have hM := (rem_mv h1.1 e3).fish (show f < 8 by omega) (show 2 < 5 by decide) (jmin 99 (W.1 2 f 2 + y))
        have g4 := m_of hM (show f < 8 by omega) (show 2 < 5 by decide)
        rw [su_s] at g4
        refine tt_eq g4 ?_
        exact tt_some (ma_now (by omega) (by omega) e2 e3 rfl hM)
      · rw [if_neg c, if_neg c, Option.bind_some, thr1, Option.bind_some]
        dsimp only
        rw [if_neg (by decide)]
        exact tt_some (ma_er (by decide) h)
    · rw [if_neg hy, if_neg hy, thr1, Option.bind_some]
      dsimp only
      rw [if_neg (by decide)]
      exact tt_some (ma_er (by decide) h)
  · rw [if_neg hx, if_neg hx, thr1, Option.bind_some]
    dsimp only
    rw [if_neg (by decide)]
    exact tt_some (ma_er (by decide) h)
end ACTS1
