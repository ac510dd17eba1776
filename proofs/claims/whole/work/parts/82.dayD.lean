/-! ===== the class's day: turning, buyers, and the whole of it ===== -/
theorem sub_toInt {x y : Int32} (h1 : -2147483648 ≤ x.toInt - y.toInt) (h2 : x.toInt - y.toInt < 2147483648) : (x - y).toInt = x.toInt - y.toInt := by
  rw [Int32.toInt_sub]
  exact Int.bmod_eq_of_le (by omega) (by omega)
theorem jmax0 (x : Int32) : jmax 0 x = if 0 < x then x else 0 := by
  unfold jmax f_J_max
  split <;> rfl
theorem jmax0_nn (x : Int32) : ¬ jmax 0 x < 0 := by
  rw [jmax0]
  split
  · rename_i h
    rw [Int32.lt_iff_toInt_lt] at h ⊢
    omega
  · decide
theorem jmax0_z (x : Int32) : jmax 0 x = 0 ↔ ¬ 0 < jmax 0 x := by
  rw [jmax0]
  by_cases h : 0 < x
  · rw [if_pos h]
    refine ⟨fun e => absurd h (by rw [e]; decide), fun e => absurd h e⟩
  · rw [if_neg h]
    exact ⟨fun _ => by decide, fun _ => rfl⟩
theorem jmax_sub {z k : Nat} (hz : z < 2 ^ 31) (hk : k < 2 ^ 31) : jmax 0 (nI z - nI k) = nI (z - k) := by
  by_cases h : k ≤ z
  · rw [sub_nI h]
    have := jmax_nI (a := 0) (b := z - k) (by omega) (by omega)
    rw [show (0 : Int32) = nI 0 from rfl, this, Nat.max_eq_right (Nat.zero_le _)]
  · rw [jmax0]
    have e : (nI z - nI k).toInt = (z : Int) - k := by
      rw [sub_toInt] <;> (rw [nI_toInt hz, nI_toInt hk]; try omega)
    rw [if_neg, show z - k = 0 by omega]
    · rfl
    · rw [Int32.lt_iff_toInt_lt, e]
      have : (0 : Int32).toInt = 0 := by decide
      omega
theorem lsum_nI {S : SS} {L : LW} (hw : WL L) (w : Int32) (f : Nat) (ly : Int32) : ∃ s, s ≤ 1188 ∧ lsum S L w f ly = nI s := by
  have h12 := hw.1
  have h := fo_ind (g := fun k x => if lso L k = w ∧ hld S f ly L k = true then x + lam L k else x) (Q := fun k x => ∃ s, s ≤ 99 * k ∧ x = nI s) (x0 := (0 : Int32)) ⟨0, by omega, rfl⟩ L.2.1 (fun j x hj hx => by
    obtain ⟨s, hs, rfl⟩ := hx
    obtain ⟨-, ⟨z, hz, e⟩, -⟩ := hw.2.2 j hj
    split
    · rw [e, nI_add]; exact ⟨s + z, by omega, rfl⟩
    · exact ⟨s, by omega, rfl⟩)
  obtain ⟨s, hs, e⟩ := h
  exact ⟨s, by omega, e⟩
theorem spr_nI {S : SS} {L : LW} (hS : Wf S) (hw : WL L) {f : Nat} (hf : f < nf S) : ∃ p, p ≤ 1215 ∧ spr S L f = nI p := by
  obtain ⟨-, ⟨z, -, hz, e1⟩, ⟨u, hu, e2⟩, -⟩ := hS.2.2.1 f hf
  obtain ⟨s, hs, e3⟩ := lsum_nI (S := S) hw 2 f (lyg S)
  unfold spr
  rw [e1, e2, e3, lit_nI 2, lit_nI 10, mul_nI, pk_div (by omega) (by decide) (by decide), nI_add, nI_add]
  exact ⟨_, by omega, rfl⟩
theorem str_nn {S : SS} {L : LW} (f : Nat) : ∃ k, k < 2 ^ 31 ∧ str S L f = nI k := nI_of (jmax0_nn _)
theorem su_same {S : SS} {x y z : Nat} {v : Int32} (h : S x y z = v) : su S x y z v = S := by
  funext a b c
  by_cases q : a = x ∧ b = y ∧ c = z
  · obtain ⟨rfl, rfl, rfl⟩ := q; rw [su_s, h]
  · rw [su_o q]
theorem stng_keep {X : SS} (hw : Wf X) {T : Nat → Int32} {f : Nat} (hT : ∃ k, k < 2 ^ 31 ∧ T f = nI k) : Wf (stng T f X) ∧ kp X (stng T f X) ∧ (∀ g z, g ≠ f → stng T f X 2 g z = X 2 g z) := by
  unfold stng
  obtain ⟨k, hk, eT⟩ := hT
  have hf1 : Wf (su X 2 f 2 (jmax 0 (X 2 f 2 - T f))) := by
    refine hw.fish f (fun x y z hn => su_o (by omega)) (fun hf => ?_)
    obtain ⟨k0, k1, ⟨z, hz, ez⟩, k3⟩ := hw.2.2.1 f hf
    unfold fOK
    rw [su_o (x' := 2) (z' := 0) (by omega), su_o (x' := 2) (z' := 1) (by omega), su_s, su_o (x' := 2) (z' := 3) (by omega), su_o (x' := 2) (z' := 4) (by omega)]
    refine ⟨k0, k1, ⟨z - k, by omega, ?_⟩, k3⟩
    rw [ez, eT, jmax_sub (by omega) hk]
  split
  · split
    · exact ⟨hf1, kp_su (by omega), fun g z hg => su_o (by omega)⟩
    · refine ⟨(hf1.sfp (Or.inr (Or.inr (Or.inr ⟨rfl, rfl⟩)))).tld, ((kp_su (by omega)).trans kp_sfp).trans kp_tld, fun g z hg => ?_⟩
      rw [tld_o (by decide) (by omega)]
      unfold sfp
      rw [su_o (by omega), su_o (by omega), su_o (by omega)]
  · exact ⟨hw, kp.refl X, fun _ _ _ => rfl⟩
theorem sld_wf {S : SS} {L : LW} (hS : Wf S) (hw : WL L) {f b : Nat} (hf : f < nf S) (hp : ¬ S 4 b 1 < spr S L f) {how : Int32} : Wf (sld S L f b how) ∧ kp S (sld S L f b how) := by
  obtain ⟨p, hp1, ep⟩ := spr_nI hS hw hf
  have w1 : Wf (su S 4 b 1 (S 4 b 1 - spr S L f)) := by
    refine hS.buyer b (fun x y z hn => su_o (by omega)) (fun hb => ?_)
    obtain ⟨k0, ⟨m, hm, em⟩, k2, k3⟩ := hS.2.2.2.2.1 b hb
    unfold yOK
    rw [su_o (x' := 4) (z' := 0) (by omega), su_s, su_o (x' := 4) (z' := 2) (by omega), su_o (x' := 4) (z' := 3) (by omega)]
    rw [em, ep, nI_ltI (by omega) (by omega)] at hp
    refine ⟨k0, ⟨m - p, by omega, ?_⟩, k2, k3⟩
    rw [em, ep, sub_nI (by omega)]
  obtain ⟨t, ht, et⟩ := hS.2.2.2.2.2.2.2.1
  have w2 : Wf (su (su S 4 b 1 (S 4 b 1 - spr S L f)) 0 0 7 (jmin 9999 (S 0 0 7 + spr S L f))) := by
    refine w1.one (Or.inr (Or.inl ⟨rfl, min 9999 (t + p), by omega, ?_⟩))
    rw [et, ep, nI_add, lit_nI 9999, jmin_nI (by omega) (by omega)]
  unfold sld
  exact ⟨(w2.sfp (Or.inr (Or.inr (Or.inr ⟨rfl, rfl⟩)))).tld, (((kp_su (by omega)).trans (kp_su (by omega))).trans kp_sfp).trans kp_tld⟩
section DAYD
variable {i : MI} {t : MT} {r : MR} {a : Nat} {S : SS} {L : LW}
theorem v_isDead (h : CV i a S) {f : Nat} (hf : f < nf S) (h8 : nf S ≤ 8) : f_Se_isDead i a (nI f) = some (if S 2 f 3 = 1 ∨ S 2 f 3 = 2 then 1 else 0) := by
  obtain ⟨f0, f1, f2, f3, -⟩ := h.2.2.1 f hf
  unfold f_Se_isDead
  rw [grd_nI (show f < 8 by omega) (by decide), ix_nI (by omega), f3]
  by_cases c1 : S 2 f 3 = 1
  · rw [if_pos c1, if_pos (Or.inl c1)]
  · rw [if_neg c1]
    by_cases c2 : S 2 f 3 = 2
    · rw [if_pos c2, if_pos (Or.inr c2)]
    · rw [if_neg c2, if_neg (fun k => k.elim c1 c2)]
theorem v_turn (hw : Wf S) (h : CV i a S) {f : Nat} (hf : f < nf S) {T : Nat → Int32} (hT : i (a + 30) f = T f) (hd : S 2 f 3 = 1 ∨ S 2 f 3 = 2) : Tt (f_Se_turn i a (nI f)) (fun i' => CV i' a (stng T f S) ∧ ∀ b j, b ≠ a + 3 + f → b ≠ a + 28 → b ≠ a + 29 → i' b j = i b j) := by
  have hc := hw.1
  have h8 := hc.f8
  obtain ⟨f0, f1, f2, f3, f4, f5⟩ := h.2.2.1 f hf
  unfold f_Se_turn stng
  rw [if_pos hd, grd_nI (show f < 8 by omega) (by decide), ix_nI (by omega), f2, hT, j_max, Option.bind_some]
  refine tt_bnd ?_
  obtain ⟨u1, u2⟩ := h.fish (i' := wr i (a + 3 + f) 2 (jmax 0 (S 2 f 2 - T f))) (S' := su S 2 f 2 (jmax 0 (S 2 f 2 - T f))) hc (show f < 8 by omega) (fun b j hb => wr_a hb) (fun x y z hn => su_o (by omega)) (fun _ => by
    rw [wr_k (by decide), wr_k (by decide), wr_s, wr_k (by decide), wr_k (by decide), wr_k (by decide), su_o (x' := 2) (z' := 0) (by omega), su_o (x' := 2) (z' := 1) (by omega), su_s, su_o (x' := 2) (z' := 3) (by omega), su_o (x' := 2) (z' := 4) (by omega)]
    exact ⟨f0, f1, rfl, f3, f4, f5⟩)
  rw [wr_s]
  by_cases c : 0 < jmax 0 (S 2 f 2 - T f)
  · rw [if_neg (fun k => (jmax0_z _).mp k c), if_pos c]
    exact tt_some ⟨u1, fun b j hb _ _ => by rw [wr_a hb]⟩
  · rw [if_pos ((jmax0_z _).mpr c), if_neg c]
    refine tt_bind (v_put u2 u1 (show f < 8 by omega) (st := 3) (pl := 0) rfl rfl) ?_
    rintro i6 ⟨⟨w1, w2⟩, w3⟩
    have w8 : i6 a 14 = sfp (su S 2 f 2 (jmax 0 (S 2 f 2 - T f))) f 3 0 0 0 8 := w1.1.2.2.2.2.2.2.2.1
    rw [w8]
    refine tt_bind (v_add w2 w1 (nI f) 1 (-1) 0) ?_
    rintro i7 ⟨z1, z2⟩
    exact tt_some ⟨z1, fun b j hb1 hb2 hb3 => by rw [z2 b j hb2 hb3, w3 b j hb1, wr_a hb1]⟩
theorem CV.turning {i' : MI} (h : CV i a S) (hc : Cnt S) {f : Nat} (hf : f < nf S) (v : Int32) (hi : ∀ b j, ¬ (b = a + 30 ∧ j = f) → i' b j = i b j) : CV i' a S := by
  obtain ⟨⟨a1, a2, a3, a4, a5, a6, a7, a8, a9⟩, h2, h3, h4, h5, h6, h7, x, hx, h8, h9⟩ := h
  have := hc.f8; have := hc.b3; have := hc.y5; have := hc.d6
  refine ⟨⟨?_, ?_, ?_, ?_, ?_, ?_, ?_, ?_, ?_⟩, fun c hc => ?_, fun f hf => ?_, fun b hb => ?_, fun y hy => ?_, fun d hd => ?_, ?_, x, hx, ?_, fun g hg k hk => ?_⟩
  · rw [hi _ _ (by omega)]; exact a1
  · rw [hi _ _ (by omega)]; exact a2
  · rw [hi _ _ (by omega)]; exact a3
  · rw [hi _ _ (by omega)]; exact a4
  · rw [hi _ _ (by omega)]; exact a5
  · rw [hi _ _ (by omega)]; exact a6
  · rw [hi _ _ (by omega)]; exact a7
  · rw [hi _ _ (by omega)]; exact a8
  · rw [hi _ _ (by omega)]; exact a9
  · rw [hi _ _ (by omega)]; exact h2 c hc
  · have q : ∀ z, i' (a + 3 + f) z = i (a + 3 + f) z := fun z => hi _ _ (by omega)
    rw [q, q, q, q, q, q]; exact h3 f hf
  · have q : ∀ z, i' (a + 12 + b) z = i (a + 12 + b) z := fun z => hi _ _ (by omega)
    rw [q, q, q]; exact h4 b hb
  · have q : ∀ z, i' (a + 16 + y) z = i (a + 16 + y) z := fun z => hi _ _ (by omega)
    rw [q, q, q, q]; exact h5 y hy
  · have q : ∀ z, i' (a + 22 + d) z = i (a + 22 + d) z := fun z => hi _ _ (by omega)
    rw [q, q]; exact h6 d hd
  · rw [hi _ _ (by omega)]; exact h7
  · rw [hi _ _ (by omega)]; exact h8
  · rw [hi _ _ (by omega)]; exact h9 g hg k hk
set_option maxHeartbeats 1000000 in
theorem v_turnAll (hw : Wf S) (h : CV i a S) (hL : WL L) (hl : CL t i (r a 16) L) (hna : NA a (r a 16)) : Tt (f_Se_turnAll t r i a) (fun i' => (Wf (stn S L) ∧ kp S (stn S L) ∧ CV i' a (stn S L)) ∧ fr a (r a 16) i i') := by
  have hc := hw.1
  have h8 := hc.f8
  unfold f_Se_turnAll
  refine tt_bind (P1 := fun i' => CV i' a S ∧ fr a (r a 16) i i' ∧ ∀ g, g < nf S → (S 2 g 3 = 1 ∨ S 2 g 3 = 2) → i' (a + 30) g = str S L g)
    (tt_loop (fun q (s : Int32 × MI) => s.1 = nI q ∧ CV s.2 a S ∧ fr a (r a 16) i s.2 ∧ ∀ g, g < q → (S 2 g 3 = 1 ∨ S 2 g 3 = 2) → s.2 (a + 30) g = str S L g) (nf S) (by omega) ?_ ?_ ?_) ?_
  · rintro q hq ⟨x, i5⟩ ⟨e1, e2, e3, e4⟩
    dsimp only at e1 e2 e3 e4 ⊢
    subst e1
    rw [e2.1.1, hc.f, if_pos (nI_lt hq (by omega)), v_isDead e2 hq h8, Option.bind_some]
    refine tt_bind (P1 := fun (y : Int32 × MI) => (∀ b j, b ≠ r a 16 + 1 → y.2 b j = i5 b j) ∧ ((S 2 q 3 = 1 ∨ S 2 q 3 = 2) → y.1 = str S L q)) ?_ ?_
    · by_cases hd : S 2 q 3 = 1 ∨ S 2 q 3 = 2
      · rw [if_pos hd]
        refine tt_ifn (by decide) ?_
        refine tt_bind (v_turns hc e2 hL (e3.law hna hl) hna hq) ?_
        rintro ⟨v, i6⟩ ⟨u1, u2⟩
        exact tt_some ⟨u2, fun _ => u1⟩
      · rw [if_neg hd]
        refine tt_ifp rfl ?_
        exact tt_some ⟨fun _ _ _ => rfl, fun k => absurd k hd⟩
    · rintro ⟨v, i6⟩ ⟨u1, u2⟩
      dsimp only at u1 u2 ⊢
      rw [grd_nI (show q < 8 by omega) (by decide), ix_nI (by omega)]
      refine tt_bnd (tt_some ?_)
      unfold NA at hna
      have hcv6 : CV i6 a S := e2.congr (fun b k _ _ => u1 b k (by omega)) hc
      refine ⟨nI_1 q, hcv6.turning hc hq v (fun b j hb => ?_), fun b j hb1 hb2 => ?_, fun g hg hd => ?_⟩
      · by_cases e : b = a + 30
        · rw [e]; exact wr_k (fun k => hb ⟨e, k⟩)
        · exact wr_a e
      · show wr _ _ _ _ b j = _
        rw [wr_a (by omega), u1 b j hb2]
        exact e3 b j hb1 hb2
      · show wr _ _ _ _ (a + 30) g = _
        by_cases e : g = q
        · subst e; rw [wr_s]; exact u2 hd
        · rw [wr_k e, u1 _ _ (by omega)]; exact e4 g (by omega) hd
  · rintro ⟨x, i5⟩ ⟨e1, e2, e3, e4⟩
    dsimp only at e1 e2 e3 e4 ⊢
    subst e1
    rw [e2.1.1, hc.f, if_neg (nI_nlt (Nat.le_refl _) (by omega))]
    exact tt_some ⟨e2, e3, e4⟩
  · exact ⟨rfl, h, fr.refl _ _ _, fun g hg => absurd hg (Nat.not_lt_zero g)⟩
  · rintro i3 ⟨g1, g2, g3⟩
    have hT : ∀ f, ∃ k, k < 2 ^ 31 ∧ str S L f = nI k := fun f => str_nn f
    refine tt_bind (P1 := fun i' => (Wf (stn S L) ∧ kp S (stn S L) ∧ CV i' a (stn S L)) ∧ fr a (r a 16) i i')
      (tt_loop (fun q (s : Int32 × MI) => s.1 = nI q ∧ Wf (fo (stng (str S L)) q S) ∧ kp S (fo (stng (str S L)) q S) ∧ CV s.2 a (fo (stng (str S L)) q S) ∧ fr a (r a 16) i s.2 ∧ (∀ g, g < nf S → (S 2 g 3 = 1 ∨ S 2 g 3 = 2) → s.2 (a + 30) g = str S L g) ∧ (∀ g z, q ≤ g → fo (stng (str S L)) q S 2 g z = S 2 g z)) (nf S) (by omega) ?_ ?_ ?_) ?_
    · rintro q hq ⟨x, i5⟩ ⟨e1, e2, e3, e5, e6, e7, e8⟩
      dsimp only at e1 e2 e3 e5 e6 e7 e8 ⊢
      subst e1
      have hfo : fo (stng (str S L)) (q + 1) S = stng (str S L) q (fo (stng (str S L)) q S) := rfl
      generalize hX : fo (stng (str S L)) q S = X at e2 e3 e5 e8 hfo
      have hcX := e2.1
      have hnX := e3.nf
      obtain ⟨sk1, sk2, sk3⟩ := stng_keep e2 (hT q)
      have hst : X 2 q 3 = S 2 q 3 := e8 q 3 (Nat.le_refl _)
      rw [e5.1.1, hcX.f, hnX, if_pos (nI_lt hq (by omega)), v_isDead e5 (by omega) (by omega), Option.bind_some]
      refine tt_bind (P1 := fun i' => CV i' a (stng (str S L) q X) ∧ fr a (r a 16) i i' ∧ (∀ g, g < nf S → (S 2 g 3 = 1 ∨ S 2 g 3 = 2) → i' (a + 30) g = str S L g)) ?_ ?_
      · by_cases hd : X 2 q 3 = 1 ∨ X 2 q 3 = 2
        · rw [if_pos hd]
          refine tt_ifn (by decide) ?_
          refine tt_bind (v_turn e2 e5 (by omega) (T := str S L) (e7 q hq (by rw [← hst]; exact hd)) hd) ?_
          rintro i6 ⟨u1, u2⟩
          refine tt_some ⟨u1, fun b j hb1 hb2 => ?_, fun g hg hgd => ?_⟩
          · rw [u2 b j (by omega) (by omega) (by omega)]; exact e6 b j hb1 hb2
          · rw [u2 _ _ (by omega) (by omega) (by omega)]; exact e7 g hg hgd
        · rw [if_neg hd]
          refine tt_ifp rfl ?_
          have : stng (str S L) q X = X := by unfold stng; rw [if_neg hd]
          rw [this]
          exact tt_some ⟨e5, e6, e7⟩
      · rintro i6 ⟨u1, u2, u3⟩
        refine tt_some ?_
        dsimp only [lpP]
        rw [hfo]
        exact ⟨nI_1 q, sk1, e3.trans sk2, u1, u2, u3, fun g z hg => by rw [sk3 g z (by omega), e8 g z (by omega)]⟩
    · rintro ⟨x, i5⟩ ⟨e1, e2, e3, e5, e6, e7, e8⟩
      dsimp only at e1 e2 e3 e5 e6 ⊢
      subst e1
      have hcX := e2.1
      rw [e5.1.1, hcX.f, e3.nf, if_neg (nI_nlt (Nat.le_refl _) (by omega))]
      exact tt_some ⟨⟨e2, e3, e5⟩, e6⟩
    · exact ⟨rfl, hw, kp.refl S, g1, g2, g3, fun _ _ _ => rfl⟩
    · rintro i4 hi4
      exact tt_some hi4
end DAYD
