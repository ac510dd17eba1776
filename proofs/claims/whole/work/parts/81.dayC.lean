/-! ===== the class's day: boats ===== -/
def kp (S X : SS) : Prop := X 0 0 0 = S 0 0 0 ∧ X 0 0 1 = S 0 0 1 ∧ X 0 0 2 = S 0 0 2 ∧ X 0 0 3 = S 0 0 3
theorem kp.refl (S : SS) : kp S S := ⟨rfl, rfl, rfl, rfl⟩
theorem kp.trans {S X Y : SS} (h : kp S X) (k : kp X Y) : kp S Y := ⟨k.1.trans h.1, k.2.1.trans h.2.1, k.2.2.1.trans h.2.2.1, k.2.2.2.trans h.2.2.2⟩
theorem kp.nf {S X : SS} (h : kp S X) : nf X = nf S := by show (X 0 0 0).toNatClampNeg = _; rw [h.1]; rfl
theorem kp.nb {S X : SS} (h : kp S X) : nb X = nb S := by show (X 0 0 1).toNatClampNeg = _; rw [h.2.1]; rfl
theorem kp.ny {S X : SS} (h : kp S X) : ny X = ny S := by show (X 0 0 2).toNatClampNeg = _; rw [h.2.2.1]; rfl
theorem kp.nd {S X : SS} (h : kp S X) : nd X = nd S := by show (X 0 0 3).toNatClampNeg = _; rw [h.2.2.2]; rfl
theorem kp_su {S : SS} {x y z : Nat} {v : Int32} (h : x ≠ 0 ∨ 4 ≤ z) : kp S (su S x y z v) := ⟨su_o (by omega), su_o (by omega), su_o (by omega), su_o (by omega)⟩
theorem kp_tld {S : SS} {fi what who fresh : Int32} : kp S (tld S fi what who fresh) := ⟨tld_o (by decide) (by decide), tld_o (by decide) (by decide), tld_o (by decide) (by decide), tld_o (by decide) (by decide)⟩
theorem kp_sfp {S : SS} {f : Nat} {st pl : Int32} : kp S (sfp S f st pl) := (kp_su (by omega)).trans (kp_su (by omega))
/-- what a step of the sea at a leaves alone -/
def fr (a l : Nat) (i0 i : MI) : Prop := ∀ b j, (b < a ∨ a + 31 ≤ b) → b ≠ l + 1 → i b j = i0 b j
theorem fr.refl (a l : Nat) (i : MI) : fr a l i i := fun _ _ _ _ => rfl
theorem fr.trans {a l : Nat} {i j k : MI} (h : fr a l i j) (h2 : fr a l j k) : fr a l i k := fun b q h1 h3 => (h2 b q h1 h3).trans (h b q h1 h3)
theorem fr.law {t : MT} {i i' : MI} {a l : Nat} {L : LW} (hf : fr a l i i') (hna : NA a l) (h : CL t i l L) : CL t i' l L := h.congr (fun b k hb => hf b k (by unfold NA at hna; omega) (by omega))
def cntb (p : Nat → Bool) : Nat → Nat
  | 0 => 0
  | n + 1 => if p n = true then cntb p n + 1 else cntb p n
theorem cntb_le (p : Nat → Bool) : ∀ n, cntb p n ≤ n
  | 0 => Nat.le_refl _
  | n + 1 => by
    have := cntb_le p n
    unfold cntb
    split <;> omega
theorem cntb_congr {p q : Nat → Bool} : ∀ n, (∀ f, f < n → p f = q f) → cntb p n = cntb q n
  | 0, _ => rfl
  | n + 1, h => by
    unfold cntb
    rw [h n (by omega), cntb_congr n (fun f hf => h f (by omega))]
theorem cntb_upd {p q : Nat → Bool} {f : Nat} (hp : p f = false) (hq : q f = true) (ho : ∀ g, g ≠ f → q g = p g) : ∀ n, f < n → cntb q n = cntb p n + 1
  | n + 1, h => by
    by_cases e : f = n
    · subst e
      have : cntb q f = cntb p f := cntb_congr f (fun g hg => ho g (by omega))
      unfold cntb
      rw [hp, hq, this]
      simp
    · have ih := cntb_upd hp hq ho n (by omega)
      unfold cntb
      rw [ho n (fun q => e q.symm), ih]
      split <;> omega
theorem bc_add : ∀ f, f < 8 → ∀ m, m < 2 ^ f → bc (m + 2 ^ f) = bc m + 1 := by decide +kernel
theorem bc_bits (p : Nat → Bool) : ∀ n, n ≤ 8 → bc (bits p n) = nI (cntb p n)
  | 0, _ => (by decide : bc 0 = nI 0)
  | n + 1, h => by
    have ih := bc_bits p n (by omega)
    rw [bits_succ]
    unfold cntb
    by_cases hp : p n = true
    · rw [if_pos hp, if_pos hp, bc_add n (by omega) _ (bits_lt p n), ih, nI_1]
    · rw [if_neg hp, if_neg hp, ih]
theorem room_pos : ∀ z, z < 10 → ∀ c, c < 9 → ((0 < nI z - nI c) ↔ c < z) ∧ nI z - nI c + (-1 : Int32) = nI z - nI (c + 1) := by decide +kernel
theorem fo_stay {α : Type} {g : Nat → α → α} {x0 : α} {j : Nat} (h : ∀ k, j ≤ k → g k (fo g j x0) = fo g j x0) : ∀ n, j ≤ n → fo g n x0 = fo g j x0
  | 0, hn => by rw [show j = 0 by omega]
  | n + 1, hn => by
    by_cases e : j = n + 1
    · rw [e]
    · have ih := fo_stay h n (by omega)
      show g n (fo g n x0) = _
      rw [ih]
      exact h n (by omega)
theorem gst_lt : ∀ c, c < 25 → ∀ h, h < 25 → (gst (nI c) (nI h)).toNatClampNeg < 25 ∧ gst (nI c) (nI h) = nI (gst (nI c) (nI h)).toNatClampNeg := by decide +kernel
theorem cell_ne {c : Nat} (hc : c < 25) : ¬ nI c = (-1 : Int32) := by
  intro q
  have := congrArg Int32.toInt q
  rw [nI_toInt (by omega), show (-1 : Int32).toInt = -1 from by decide] at this
  omega
theorem ssl_wf {S : SS} (hw : Wf S) (b : Nat) : Wf (ssl S b) ∧ kp S (ssl S b) ∧ (∀ x y z, x ≠ 3 → ssl S b x y z = S x y z) := by
  unfold ssl
  by_cases h1 : S 3 b 1 = -1
  · rw [if_pos h1]; exact ⟨hw, kp.refl S, fun _ _ _ _ => rfl⟩
  · rw [if_neg h1]
    refine ⟨hw.boat b (fun x y z hn => by rw [su_o (by omega), su_o (by omega)]) (fun hb => ?_), (kp_su (by omega)).trans (kp_su (by omega)), fun x y z hx => by rw [su_o (by omega), su_o (by omega)]⟩
    obtain ⟨⟨c, hc, ec⟩, hh, hz⟩ := hw.2.2.2.1 b hb
    rcases hh with hh | ⟨h, hh25, eh⟩
    · exact absurd hh h1
    obtain ⟨g1, g2⟩ := gst_lt c hc h hh25
    unfold bOK
    rw [su_o (x' := 3) (by omega), su_s, su_s, su_o (x' := 3) (by omega), su_o (x' := 3) (by omega), ec, eh]
    refine ⟨⟨_, g1, g2⟩, ?_, hz⟩
    by_cases e : gst (nI c) (nI h) = nI h
    · rw [if_pos e]; exact Or.inl rfl
    · rw [if_neg e]; exact Or.inr ⟨h, hh25, rfl⟩
section DAYC
variable {i : MI} {t : MT} {r : MR} {a : Nat} {S : SS} {L : LW}
theorem v_sail (hw : Wf S) (h : CV i a S) {b : Nat} (hb : b < nb S) : Tt (f_Se_sail i a (nI b)) (fun i' => CV i' a (ssl S b) ∧ ∀ b' j, b' ≠ a + 12 + b → i' b' j = i b' j) := by
  have hc := hw.1
  have h3 := hc.b3
  obtain ⟨p0, p1, p2⟩ := h.2.2.2.1 b hb
  unfold f_Se_sail ssl
  rw [grd_nI (show b < 3 by omega) (by decide), ix_nI (by omega), p0, p1]
  by_cases h1 : S 3 b 1 = -1
  · rw [if_pos h1, if_pos h1]
    exact tt_some ⟨h, fun b' j _ => rfl⟩
  · rw [if_neg h1, if_neg h1]
    refine tt_bind (P1 := fun v => v = gst (S 3 b 0) (S 3 b 1)) ?_ ?_
    · unfold gst
      by_cases c1 : rm (S 3 b 0) 5 = rm (S 3 b 1) 5
      · rw [if_pos c1, if_pos c1]
        by_cases c2 : S 3 b 0 = S 3 b 1
        · rw [if_pos c2, if_pos c2]; exact tt_some rfl
        · rw [if_neg c2, if_neg c2]
          by_cases c3 : S 3 b 0 < S 3 b 1
          · rw [if_pos c3, if_pos c3]; exact tt_some rfl
          · rw [if_neg c3, if_neg c3]; exact tt_some rfl
      · rw [if_neg c1, if_neg c1]
        by_cases c3 : rm (S 3 b 0) 5 < rm (S 3 b 1) 5
        · rw [if_pos c3, if_pos c3]; exact tt_some rfl
        · rw [if_neg c3, if_neg c3]; exact tt_some rfl
    · rintro v rfl
      refine tt_bnd ?_
      have k1 := h.boat hc (show b < 3 by omega) (show 0 < 3 by decide) (gst (S 3 b 0) (S 3 b 1))
      have hc1 : Cnt (su S 3 b 0 (gst (S 3 b 0) (S 3 b 1))) := cnt_su hc (by omega)
      have p1' : wr i (a + 12 + b) 0 (gst (S 3 b 0) (S 3 b 1)) (a + 12 + b) 1 = S 3 b 1 := by rw [wr_k (by decide), p1]
      by_cases c1 : gst (S 3 b 0) (S 3 b 1) = S 3 b 1
      · rw [if_pos c1, if_pos c1]
        refine tt_bnd (tt_some ⟨k1.boat hc1 (show b < 3 by omega) (show 1 < 3 by decide) (-1), fun b' j hb' => by rw [wr_a hb', wr_a hb']⟩)
      · rw [if_neg c1, if_neg c1]
        refine tt_some ⟨?_, fun b' j hb' => by rw [wr_a hb']⟩
        have e : su (su S 3 b 0 (gst (S 3 b 0) (S 3 b 1))) 3 b 1 (S 3 b 1) = su S 3 b 0 (gst (S 3 b 0) (S 3 b 1)) := by
          funext x y z
          by_cases q : x = 3 ∧ y = b ∧ z = 1
          · obtain ⟨rfl, rfl, rfl⟩ := q; rw [su_s, su_o (by omega)]
          · rw [su_o q]
        rw [e]; exact k1
theorem sflg_keep {X : SS} (hw : Wf X) {b f : Nat} (hb : b < nb X) : Wf (sflg b f X) ∧ kp X (sflg b f X) ∧ (∀ y z, sflg b f X 3 y z = X 3 y z) ∧ (∀ g z, g ≠ f → sflg b f X 2 g z = X 2 g z) := by
  unfold sflg
  split
  · refine ⟨(hw.sfp (Or.inr (Or.inl ⟨rfl, b, hb, rfl⟩))).tld, kp_sfp.trans kp_tld, fun y z => ?_, fun g z hg => ?_⟩
    · rw [tld_o (by decide) (by omega)]
      unfold sfp
      rw [su_o (by omega), su_o (by omega)]
    · rw [tld_o (by decide) (by omega)]
      unfold sfp
      rw [su_o (by omega), su_o (by omega)]
  · exact ⟨hw, kp.refl X, fun _ _ => rfl, fun _ _ _ => rfl⟩
set_option maxHeartbeats 1000000 in
theorem v_fill (hw : Wf S) (h : CV i a S) {b : Nat} (hb : b < nb S) (l : Nat) : Tt (f_Se_fill i a (nI b)) (fun i' => (Wf (sfl S b) ∧ kp S (sfl S b) ∧ CV i' a (sfl S b)) ∧ fr a l i i') := by
  have hc := hw.1
  have h3 := hc.b3
  have h8 := hc.f8
  obtain ⟨p0, p1, p2⟩ := h.2.2.2.1 b hb
  obtain ⟨-, -, hz, hz1, hz9, ez⟩ := hw.2.2.2.1 b hb
  unfold f_Se_fill
  rw [grd_nI (show b < 3 by omega) (by decide), ix_nI (show b < 2 ^ 31 by omega), v_aboard hc h, Option.bind_some, j_bc, Option.bind_some, p2, ez]
  have hab : ∀ X : SS, nf X ≤ 8 → bc (abd X (nI b)) = nI (cntb (fun f => decide (X 2 f 3 = 1 ∧ X 2 f 4 = nI b)) (nf X)) := fun X hX => bc_bits _ _ hX
  rw [hab S h8]
  refine tt_bind (P1 := fun i' => (Wf (sfl S b) ∧ kp S (sfl S b) ∧ CV i' a (sfl S b)) ∧ fr a l i i')
    (tt_loop (fun q (s : Int32 × Int32 × MI) => s.2.1 = nI q ∧ Wf (fo (sflg b) q S) ∧ kp S (fo (sflg b) q S) ∧ (∀ y z, fo (sflg b) q S 3 y z = S 3 y z) ∧ CV s.2.2 a (fo (sflg b) q S) ∧ fr a l i s.2.2 ∧ s.1 = nI hz - nI (cntb (fun f => decide (fo (sflg b) q S 2 f 3 = 1 ∧ fo (sflg b) q S 2 f 4 = nI b)) (nf S))) (nf S) (by omega) ?_ ?_ ?_) ?_
  · rintro q hq ⟨x, ixx, i5⟩ ⟨e1, e2, e3, e4, e5, e6, e7⟩
    dsimp only at e1 e2 e3 e4 e5 e6 e7 ⊢
    subst e1
    have hfo : fo (sflg b) (q + 1) S = sflg b q (fo (sflg b) q S) := rfl
    generalize hX : fo (sflg b) q S = X at e2 e3 e4 e5 e7 hfo
    have hcX := e2.1
    have hnX := e3.nf
    have hcnt := cntb_le (fun f => decide (X 2 f 3 = 1 ∧ X 2 f 4 = nI b)) (nf S)
    obtain ⟨rp1, rp2⟩ := room_pos hz (by omega) (cntb (fun f => decide (X 2 f 3 = 1 ∧ X 2 f 4 = nI b)) (nf S)) (by omega)
    have habX := hab X hcX.f8
    rw [hnX] at habX
    have hlt : bc (abd X (nI b)) < X 3 b 2 ↔ cntb (fun f => decide (X 2 f 3 = 1 ∧ X 2 f 4 = nI b)) (nf S) < hz := by rw [habX, e4, ez, nI_ltI (by omega) (by omega)]
    rw [e5.1.1, hcX.f, hnX, if_pos (nI_lt hq (by omega))]
    by_cases hroom : cntb (fun f => decide (X 2 f 3 = 1 ∧ X 2 f 4 = nI b)) (nf S) < hz
    · refine tt_ifp (by rw [e7]; exact rp1.mpr hroom) ?_
      rw [grd_nI (show q < 8 by omega) (by decide), ix_nI (show q < 2 ^ 31 by omega)]
      obtain ⟨f0, f1, f2, f3, f4, f5⟩ := e5.2.2.1 q (by omega)
      obtain ⟨y0, -, -⟩ := e5.2.2.2.1 b (by rw [e3.nb]; exact hb)
      obtain ⟨sk1, sk2, sk3, sk4⟩ := sflg_keep e2 (f := q) (show b < nb X by rw [e3.nb]; exact hb)
      have hcond : sflg b q X = if X 2 q 3 = 0 ∧ X 2 q 4 = X 3 b 0 then tld (sfp X q 1 (nI b)) (nI q) 0 (nI b) (X 2 q 2) else X := by
        unfold sflg
        by_cases c : X 2 q 3 = 0 ∧ X 2 q 4 = X 3 b 0
        · rw [if_pos c, if_pos ⟨c.1, c.2, hlt.mpr hroom⟩]
        · rw [if_neg c, if_neg (fun k => c ⟨k.1, k.2.1⟩)]
      refine tt_bind (P1 := fun (y : Int32 × MI) => CV y.2 a (sflg b q X) ∧ fr a l i y.2 ∧ y.1 = nI hz - nI (cntb (fun f => decide (sflg b q X 2 f 3 = 1 ∧ sflg b q X 2 f 4 = nI b)) (nf S))) ?_ ?_
      · rw [f3, f4, y0]
        by_cases c1 : X 2 q 3 = 0
        · rw [if_pos c1, grd_nI (show b < 3 by omega) (by decide)]
          have hsp : spo (X 2 q 3) (X 2 q 4) = X 2 q 4 := by unfold spo; rw [if_pos c1]
          rw [hsp]
          by_cases c2 : X 2 q 4 = X 3 b 0
          · rw [if_pos c2]
            refine tt_bind (v_put hcX e5 (show q < 8 by omega) (st := 1) (pl := nI b) rfl rfl) ?_
            rintro i6 ⟨⟨u1, u2⟩, u3⟩
            have u8 : i6 a 14 = sfp X q 1 (nI b) 0 0 8 := u1.1.2.2.2.2.2.2.2.1
            have uq : i6 (a + 3 + q) 2 = X 2 q 2 := by
              rw [(u1.2.2.1 q (by rw [kp_sfp.nf]; omega)).2.2.1]
              unfold sfp
              rw [su_o (by omega), su_o (by omega)]
            rw [u8, uq]
            refine tt_bind (v_add u2 u1 (nI q) 0 (nI b) (X 2 q 2)) ?_
            rintro i7 ⟨w1, w2⟩
            rw [hcond, if_pos ⟨c1, c2⟩]
            refine tt_some ⟨w1, fun b' j hb1 hb2 => ?_, ?_⟩
            · show i7 b' j = _
              rw [w2 b' j (by omega) (by omega), u3 b' j (by omega)]
              exact e6 b' j hb1 hb2
            · show x + (-1 : Int32) = _
              rw [e7, rp2]
              congr 2
              refine (cntb_upd (f := q) ?_ ?_ ?_ _ hq).symm
              · simp [c1]
              · have s3 : tld (sfp X q 1 (nI b)) (nI q) 0 (nI b) (X 2 q 2) 2 q 3 = 1 := by
                  rw [tld_o (by decide) (by omega)]; unfold sfp; rw [su_o (by omega), su_s]
                have s4 : tld (sfp X q 1 (nI b)) (nI q) 0 (nI b) (X 2 q 2) 2 q 4 = nI b := by
                  rw [tld_o (by decide) (by omega)]; unfold sfp; rw [su_s]
                rw [s3, s4]; simp
              · intro g hg
                have sg : ∀ z, tld (sfp X q 1 (nI b)) (nI q) 0 (nI b) (X 2 q 2) 2 g z = X 2 g z := fun z => by
                  rw [tld_o (by decide) (by omega)]; unfold sfp; rw [su_o (by omega), su_o (by omega)]
                rw [sg, sg]
          · rw [if_neg c2, hcond, if_neg (fun k => c2 k.2)]
            exact tt_some ⟨e5, e6, e7⟩
        · rw [if_neg c1, hcond, if_neg (fun k => c1 k.1)]
          exact tt_some ⟨e5, e6, e7⟩
      · rintro ⟨x', i6⟩ ⟨w1, w2, w3⟩
        refine tt_some ?_
        dsimp only [lpP]
        rw [hfo]
        exact ⟨nI_1 q, sk1, e3.trans sk2, fun y z => by rw [sk3, e4], w1, w2, w3⟩
    · refine tt_ifn (by rw [e7]; exact fun k => hroom (rp1.mp k)) ?_
      refine tt_some ?_
      have hst : sfl S b = X := by
        unfold sfl
        rw [← hX]
        refine fo_stay (fun k hk => ?_) _ (by omega)
        rw [hX]
        unfold sflg
        rw [if_neg (fun k => hroom (hlt.mp k.2.2))]
      dsimp only [lpP]
      rw [hst]
      exact ⟨⟨e2, e3, e5⟩, e6⟩
  · rintro ⟨x, ixx, i5⟩ ⟨e1, e2, e3, e4, e5, e6, e7⟩
    dsimp only at e1 e2 e3 e4 e5 e6 e7 ⊢
    subst e1
    have hcX := e2.1
    rw [e5.1.1, hcX.f, e3.nf, if_neg (nI_nlt (Nat.le_refl _) (by omega))]
    exact tt_some ⟨⟨e2, e3, e5⟩, e6⟩
  · exact ⟨rfl, hw, kp.refl S, fun _ _ => rfl, h, fr.refl _ _ _, rfl⟩
  · rintro i3 hi3
    exact tt_some hi3
theorem sulg_keep {X : SS} (hw : Wf X) {b f : Nat} : Wf (sulg b f X) ∧ kp X (sulg b f X) := by
  unfold sulg
  split
  · exact ⟨hw.sfp (Or.inr (Or.inr (Or.inl ⟨rfl, rfl⟩))), kp_sfp⟩
  · exact ⟨hw, kp.refl X⟩
theorem v_unload (hw : Wf S) (h : CV i a S) {b : Nat} (hb : b < nb S) (l : Nat) : Tt (f_Se_unload i a (nI b)) (fun i' => (Wf (sul S b) ∧ kp S (sul S b) ∧ CV i' a (sul S b)) ∧ fr a l i i') := by
  have hc := hw.1
  have h3 := hc.b3
  have h8 := hc.f8
  obtain ⟨p0, p1, p2⟩ := h.2.2.2.1 b hb
  unfold f_Se_unload sul
  rw [grd_nI (show b < 3 by omega) (by decide), ix_nI (show b < 2 ^ 31 by omega), p0]
  by_cases c0 : S 3 b 0 = 0
  · rw [if_pos c0, if_pos c0]
    refine tt_bind (P1 := fun i' => (Wf (fo (sulg b) (nf S) S) ∧ kp S (fo (sulg b) (nf S) S) ∧ CV i' a (fo (sulg b) (nf S) S)) ∧ fr a l i i')
      (tt_loop (fun q (s : Int32 × MI) => s.1 = nI q ∧ Wf (fo (sulg b) q S) ∧ kp S (fo (sulg b) q S) ∧ CV s.2 a (fo (sulg b) q S) ∧ fr a l i s.2) (nf S) (by omega) ?_ ?_ ?_) ?_
    · rintro q hq ⟨x, i5⟩ ⟨e1, e2, e3, e5, e6⟩
      dsimp only at e1 e2 e3 e5 e6 ⊢
      subst e1
      have hfo : fo (sulg b) (q + 1) S = sulg b q (fo (sulg b) q S) := rfl
      generalize hX : fo (sulg b) q S = X at e2 e3 e5 hfo
      have hcX := e2.1
      have hnX := e3.nf
      obtain ⟨f0, f1, f2, f3, f4, f5⟩ := e5.2.2.1 q (by omega)
      obtain ⟨sk1, sk2⟩ := sulg_keep e2 (b := b) (f := q)
      rw [e5.1.1, hcX.f, hnX, if_pos (nI_lt hq (by omega)), grd_nI (show q < 8 by omega) (by decide), ix_nI (show q < 2 ^ 31 by omega), f3, f5]
      refine tt_bind (P1 := fun i' => CV i' a (sulg b q X) ∧ fr a l i i') ?_ ?_
      · unfold sulg
        by_cases c1 : X 2 q 3 = 1
        · rw [if_pos c1]
          have hab : abo (X 2 q 3) (X 2 q 4) = X 2 q 4 := by unfold abo; rw [if_pos c1]
          rw [hab]
          by_cases c2 : X 2 q 4 = nI b
          · rw [if_pos c2, if_pos ⟨c1, c2⟩]
            refine tt_bind (v_put hcX e5 (show q < 8 by omega) (st := 2) (pl := 0) rfl rfl) ?_
            rintro i6 ⟨⟨u1, u2⟩, u3⟩
            exact tt_some ⟨u1, fun b' j hb1 hb2 => by rw [u3 b' j (by omega)]; exact e6 b' j hb1 hb2⟩
          · rw [if_neg c2, if_neg (fun k => c2 k.2)]
            exact tt_some ⟨e5, e6⟩
        · rw [if_neg c1, if_neg (fun k => c1 k.1)]
          exact tt_some ⟨e5, e6⟩
      · rintro i6 ⟨w1, w2⟩
        refine tt_some ?_
        dsimp only [lpP]
        rw [hfo]
        exact ⟨nI_1 q, sk1, e3.trans sk2, w1, w2⟩
    · rintro ⟨x, i5⟩ ⟨e1, e2, e3, e5, e6⟩
      dsimp only at e1 e2 e3 e5 e6 ⊢
      subst e1
      have hcX := e2.1
      rw [e5.1.1, hcX.f, e3.nf, if_neg (nI_nlt (Nat.le_refl _) (by omega))]
      exact tt_some ⟨⟨e2, e3, e5⟩, e6⟩
    · exact ⟨rfl, hw, kp.refl S, h, fr.refl _ _ _⟩
    · rintro i3 hi3
      exact tt_some hi3
  · rw [if_neg c0, if_neg c0]
    exact tt_some ⟨⟨hw, kp.refl S, h⟩, fr.refl _ _ _⟩
end DAYC
