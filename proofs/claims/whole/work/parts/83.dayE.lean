/-! ===== the class's day: buyers, and the whole of it ===== -/
section DAYE
variable {i : MI} {t : MT} {r : MR} {a : Nat} {S : SS} {L : LW}
theorem v_sellTo (hc : Cnt S) (h : CV i a S) {f b : Nat} (hf : f < nf S) (hb : b < ny S) (how : Int32) (l : Nat) : Tt (f_Se_sellTo i a (nI f) (nI b) (spr S L f) how) (fun i' => CV i' a (sld S L f b how) ∧ fr a l i i') := by
  have h8 := hc.f8
  have h5 := hc.y5
  unfold f_Se_sellTo
  refine tt_bind (v_put hc h (show f < 8 by omega) (st := 3) (pl := 0) rfl rfl) ?_
  rintro i1 ⟨⟨u1, u2⟩, u3⟩
  have hm : i1 (a + 16 + b) 1 = S 4 b 1 := by rw [u3 _ _ (by omega)]; exact (h.2.2.2.2.1 b hb).2.1
  rw [grd_nI (show b < 5 by omega) (by decide), ix_nI (by omega), hm]
  refine tt_bnd ?_
  have w1 := u1.buyer u2 (show b < 5 by omega) (show 1 < 4 by decide) (S 4 b 1 - spr S L f)
  have c1 : Cnt (su (sfp S f 3 0) 4 b 1 (S 4 b 1 - spr S L f)) := cnt_su u2 (by omega)
  have ht : wr i1 (a + 16 + b) 1 (S 4 b 1 - spr S L f) a 13 = S 0 0 7 := by rw [wr_a (by omega), u3 _ _ (by omega)]; exact h.1.2.2.2.2.2.2.1
  rw [ht, j_min, Option.bind_some]
  refine tt_bnd ?_
  have w2 := w1.scal c1 (Or.inr (Or.inl ⟨rfl, rfl⟩)) (jmin 9999 (S 0 0 7 + spr S L f))
  have c2 : Cnt (su (su (sfp S f 3 0) 4 b 1 (S 4 b 1 - spr S L f)) 0 0 7 (jmin 9999 (S 0 0 7 + spr S L f))) := cnt_su c1 (by omega)
  have e : su (su (sfp S f 3 0) 4 b 1 (S 4 b 1 - spr S L f)) 0 0 7 (jmin 9999 (S 0 0 7 + spr S L f)) = sfp (su (su S 4 b 1 (S 4 b 1 - spr S L f)) 0 0 7 (jmin 9999 (S 0 0 7 + spr S L f))) f 3 0 := by
    funext x y z
    unfold sfp su
    repeat' split
    all_goals first | rfl | (exfalso; omega)
  rw [e] at w2 c2
  have h14 : wr (wr i1 (a + 16 + b) 1 (S 4 b 1 - spr S L f)) a 13 (jmin 9999 (S 0 0 7 + spr S L f)) a 14 = sfp (su (su S 4 b 1 (S 4 b 1 - spr S L f)) 0 0 7 (jmin 9999 (S 0 0 7 + spr S L f))) f 3 0 0 0 8 := w2.1.2.2.2.2.2.2.2.1
  have hfr : wr (wr i1 (a + 16 + b) 1 (S 4 b 1 - spr S L f)) a 13 (jmin 9999 (S 0 0 7 + spr S L f)) (a + 3 + f) 2 = S 2 f 2 := by
    rw [wr_a (by omega), wr_a (by omega), (u1.2.2.1 f (by rw [kp_sfp.nf]; exact hf)).2.2.1]
    unfold sfp
    rw [su_o (by omega), su_o (by omega)]
  rw [grd_nI (show f < 8 by omega) (by decide), ix_nI (by omega), h14, hfr]
  refine tt_bind (v_add c2 w2 (nI f) how (nI b) (S 2 f 2)) ?_
  rintro i9 ⟨z1, z2⟩
  refine tt_some ⟨z1, fun b' j hb1 hb2 => ?_⟩
  rw [z2 b' j (by omega) (by omega), wr_a (by omega), wr_a (by omega), u3 b' j (by omega)]
theorem sdw_wf (hw : Wf S) : Wf (sdw S) ∧ kp S (sdw S) := ⟨hw.one (by omega), kp_su (by omega)⟩
theorem cho_lt (L : LW) (b : Nat) : cho S L b = -1 ∨ ∃ f, f < nf S ∧ sut S L b f = true ∧ cho S L b = nI f := frs_lt (nf S)
theorem strg_keep {p : SS × Int32} (hw : Wf p.1) (hL : WL L) {b : Nat} : Wf (strg L b p).1 ∧ kp p.1 (strg L b p).1 := by
  obtain ⟨w1, w2⟩ := sdw_wf hw
  have h8 := w1.1.f8
  unfold strg
  split
  · split
    · exact ⟨w1, w2⟩
    · rename_i hn
      rcases cho_lt (S := sdw p.1) L b with h | ⟨f, hf, hs, h⟩
      · exact absurd h hn
      · rw [h, ix_nI (by omega)]
        unfold sut at hs
        obtain ⟨-, -, -, h4⟩ := of_decide_eq_true hs
        obtain ⟨z1, z2⟩ := sld_wf w1 hL (b := b) (how := 2) hf h4
        exact ⟨z1, w2.trans z2⟩
  · exact ⟨w1, w2⟩
set_option maxHeartbeats 1000000 in
theorem v_trade (hw : Wf S) (h : CV i a S) (hL : WL L) (hl : CL t i (r a 16) L) (hna : NA a (r a 16)) : Tt (f_Se_trade t r i a) (fun y => (Wf (strd S L).1 ∧ kp S (strd S L).1 ∧ CV y.2 a (strd S L).1) ∧ y.1 = (strd S L).2 ∧ fr a (r a 16) i y.2) := by
  have h5 := hw.1.y5
  unfold f_Se_trade
  refine tt_bind (P1 := fun (y : Int32 × MI) => (Wf (strd S L).1 ∧ kp S (strd S L).1 ∧ CV y.2 a (strd S L).1) ∧ y.1 = (strd S L).2 ∧ fr a (r a 16) i y.2)
    (tt_loop (fun q (s : Int32 × Int32 × MI) => s.2.1 = nI q ∧ Wf (fo (strg L) q (S, 0)).1 ∧ kp S (fo (strg L) q (S, 0)).1 ∧ CV s.2.2 a (fo (strg L) q (S, 0)).1 ∧ s.1 = (fo (strg L) q (S, 0)).2 ∧ fr a (r a 16) i s.2.2) (ny S) (by omega) ?_ ?_ ?_) ?_
  · rintro q hq ⟨x, ixx, i5⟩ ⟨e1, e2, e3, e4, e5, e6⟩
    dsimp only at e1 e2 e3 e4 e5 e6 ⊢
    subst e1
    have hfo : fo (strg L) (q + 1) (S, 0) = strg L q (fo (strg L) q (S, 0)) := rfl
    generalize hp : fo (strg L) q (S, 0) = p at e2 e3 e4 e5 hfo
    obtain ⟨X, n⟩ := p
    dsimp only at e2 e3 e4 e5
    have hcX := e2.1
    obtain ⟨k1, k2⟩ := strg_keep (p := (X, n)) e2 hL (b := q)
    dsimp only at k1 k2
    obtain ⟨d1, d2⟩ := sdw_wf e2
    have hnyX := e3.ny
    have hny2 : ny (sdw X) = ny X := d2.ny
    have h8 := d1.1.f8
    rw [e4.1.2.2.1, hcX.y, hnyX, if_pos (nI_lt hq (by omega))]
    refine tt_bind (P1 := fun (y : Int32 × MI) => y.1 = (shr (sdw X 0 0 10) 16) &&& 32767 ∧ CV y.2 a (sdw X) ∧ fr a (r a 16) i y.2) ?_ ?_
    · unfold f_Se_draw
      rw [show i5 a 15 = X 0 0 10 from e4.1.2.2.2.2.2.2.2.2]
      refine tt_bnd (tt_some ⟨?_, e4.scal hcX (Or.inr (Or.inr (Or.inr ⟨rfl, rfl⟩))) _, fun b j hb1 hb2 => ?_⟩)
      · dsimp only
        rw [wr_s, ush16]
        unfold sdw
        rw [su_s]
      · show wr _ _ _ _ b j = _
        rw [wr_a (by omega)]; exact e6 b j hb1 hb2
    · rintro ⟨v, i6⟩ ⟨u1, u2, u3⟩
      dsimp only at u1 u2 u3 ⊢
      obtain ⟨-, -, -, y3⟩ := u2.2.2.2.2.1 q (by rw [hny2, hnyX]; exact hq)
      have hX3 : sdw X 4 q 3 = X 4 q 3 := by unfold sdw; rw [su_o (by omega)]
      rw [grd_nI (show q < 5 by omega) (by decide), ix_nI (by omega)]
      have hcnd : rm v 100 < i6 (a + 16 + q) 3 ↔ rm ((shr (sdw X 0 0 10) 16) &&& 32767) 100 < X 4 q 3 := by rw [y3, hX3, u1]
      have hl6 : CL t i6 (r a 16) L := u3.law hna hl
      refine tt_bind (P1 := fun (y : Int32) => y = if rm ((shr (sdw X 0 0 10) 16) &&& 32767) 100 < X 4 q 3 then 1 else 0) ?_ ?_
      · by_cases c0 : rm ((shr (sdw X 0 0 10) 16) &&& 32767) 100 < X 4 q 3
        · refine tt_ifp (hcnd.mpr c0) (tt_some ?_)
          rw [if_pos c0]
        · refine tt_ifn (fun k => c0 (hcnd.mp k)) (tt_some ?_)
          rw [if_neg c0]
      · rintro m hm
        refine tt_bind (P1 := fun (y : Int32 × MI) => CV y.2 a (sdw X) ∧ fr a (r a 16) i y.2 ∧ y.1 = if rm ((shr (sdw X 0 0 10) 16) &&& 32767) 100 < X 4 q 3 then cho (sdw X) L q else -1) ?_ ?_
        · by_cases c1 : rm ((shr (sdw X 0 0 10) 16) &&& 32767) 100 < X 4 q 3
          · rw [if_pos c1] at hm
            rw [if_pos c1]
            refine tt_ifn (by rw [hm]; decide) ?_
            refine tt_mono (v_choice d1.1 u2 hL hl6 hna (b := q) (by rw [hny2, hnyX]; exact hq)) ?_
            rintro ⟨v2, i7⟩ ⟨w1, w2⟩
            unfold NA at hna
            exact ⟨u2.congr (fun b k _ _ => w2 b k (by omega)) d1.1, fun b j hb1 hb2 => (w2 b j hb2).trans (u3 b j hb1 hb2), w1⟩
          · rw [if_neg c1] at hm
            rw [if_neg c1]
            refine tt_ifp hm ?_
            exact tt_some ⟨u2, u3, rfl⟩
        · rintro ⟨v2, i7⟩ ⟨w1, w2, w3⟩
          dsimp only at w1 w2 w3 ⊢
          refine tt_bind (P1 := fun (y : Int32 × MI) => CV y.2 a (strg L q (X, n)).1 ∧ y.1 = (strg L q (X, n)).2 ∧ fr a (r a 16) i y.2) ?_ ?_
          · unfold strg
            dsimp only
            by_cases c1 : rm ((shr (sdw X 0 0 10) 16) &&& 32767) 100 < X 4 q 3
            · rw [if_pos c1] at w3
              rw [if_pos c1]
              rcases cho_lt (S := sdw X) L q with hch | ⟨f, hf, hs, hch⟩
              · rw [if_pos hch]
                refine tt_ifp (by rw [w3, hch]) ?_
                exact tt_some ⟨w1, e5, w2⟩
              · have hne : ¬ cho (sdw X) L q = -1 := by rw [hch]; exact cell_ne (by omega)
                rw [if_neg hne]
                refine tt_ifn (by rw [w3]; exact hne) ?_
                rw [w3, hch, ix_nI (by omega)]
                refine tt_bind (v_price d1.1 w1 hL (w2.law hna hl) hna hf) ?_
                rintro ⟨v3, i8⟩ ⟨x1, x2⟩
                dsimp only at x1 x2 ⊢
                rw [x1]
                have hcv8 : CV i8 a (sdw X) := by
                  unfold NA at hna
                  exact w1.congr (fun b k _ _ => x2 b k (by omega)) d1.1
                refine tt_bind (v_sellTo d1.1 hcv8 hf (by rw [hny2, hnyX]; exact hq) 2 (r a 16)) ?_
                rintro i9 ⟨y1, y2⟩
                refine tt_some ⟨y1, by show x + 1 = n + 1; rw [e5], fun b j hb1 hb2 => ?_⟩
                show i9 b j = _
                rw [y2 b j hb1 hb2, x2 b j hb2]
                exact w2 b j hb1 hb2
            · rw [if_neg c1] at w3
              rw [if_neg c1]
              refine tt_ifp w3 ?_
              exact tt_some ⟨w1, e5, w2⟩
          · rintro ⟨v4, i9⟩ ⟨z1, z2, z3⟩
            refine tt_some ?_
            dsimp only [lpP]
            rw [hfo]
            exact ⟨nI_1 q, k1, e3.trans k2, z1, z2, z3⟩
  · rintro ⟨x, ixx, i5⟩ ⟨e1, e2, e3, e4, e5, e6⟩
    dsimp only at e1 e2 e3 e4 e5 e6 ⊢
    subst e1
    rw [e4.1.2.2.1, e2.1.y, e3.ny, if_neg (nI_nlt (Nat.le_refl _) (by omega))]
    exact tt_some ⟨⟨e2, e3, e4⟩, e5, e6⟩
  · exact ⟨rfl, hw, kp.refl S, h, rfl, fr.refl _ _ _⟩
  · rintro ⟨x, i3⟩ hi3
    exact tt_some hi3
def sdfg (f : Nat) (X : SS) : SS := if X 2 f 3 = 0 then su X 2 f 4 (sdr X (X 2 f 4)) else X
theorem sdfg_keep {X : SS} (hw : Wf X) {f : Nat} (hf : f < nf X) : Wf (sdfg f X) ∧ kp X (sdfg f X) := by
  unfold sdfg
  split
  · rename_i h0
    refine ⟨hw.fish f (fun x y z hn => su_o (by omega)) (fun hf => ?_), kp_su (by omega)⟩
    obtain ⟨k0, k1, k2, k3⟩ := hw.2.2.1 f hf
    rcases k3 with ⟨-, c, hc, ec⟩ | ⟨h, -⟩ | ⟨h, -⟩ | ⟨h, -⟩
    · obtain ⟨c', hc', e'⟩ := sdr_lt hw hc
      unfold fOK
      rw [su_o (x' := 2) (z' := 0) (by omega), su_o (x' := 2) (z' := 1) (by omega), su_o (x' := 2) (z' := 2) (by omega), su_o (x' := 2) (z' := 3) (by omega), su_s, ec, e']
      exact ⟨k0, k1, k2, Or.inl ⟨h0, c', hc', rfl⟩⟩
    all_goals (rw [h0] at h; exact absurd h (by decide))
  · exact ⟨hw, kp.refl X⟩
theorem sul_wf (hw : Wf S) (b : Nat) : Wf (sul S b) ∧ kp S (sul S b) := by
  unfold sul
  split
  · exact fo_ind (Q := fun _ X => Wf X ∧ kp S X) ⟨hw, kp.refl S⟩ _ (fun j x _ hx => ⟨(sulg_keep hx.1).1, hx.2.trans (sulg_keep hx.1).2⟩)
  · exact ⟨hw, kp.refl S⟩
set_option maxHeartbeats 1000000 in
theorem v_passDay (hw : Wf S) (h : CV i a S) (hL : WL L) (hl : CL t i (r a 16) L) (hna : NA a (r a 16)) (bu : Bool) : Tt (f_Se_passDay t r i a (if bu = true then 1 else 0)) (fun y => (Wf (if bu = true then (sdb S L).1 else sdc S L) ∧ kp S (if bu = true then (sdb S L).1 else sdc S L) ∧ CV y.2 a (if bu = true then (sdb S L).1 else sdc S L)) ∧ y.1 = (if bu = true then (sdb S L).2 else 0) ∧ fr a (r a 16) i y.2) := by
  have h8 := hw.1.f8
  have h3 := hw.1.b3
  unfold f_Se_passDay
  refine tt_bind (P1 := fun i' => (Wf (sdf S) ∧ kp S (sdf S) ∧ CV i' a (sdf S)) ∧ fr a (r a 16) i i')
    (tt_loop (fun q (s : Int32 × MI) => s.1 = nI q ∧ Wf (fo sdfg q S) ∧ kp S (fo sdfg q S) ∧ CV s.2 a (fo sdfg q S) ∧ fr a (r a 16) i s.2) (nf S) (by omega) ?_ ?_ ?_) ?_
  · rintro q hq ⟨x, i5⟩ ⟨e1, e2, e3, e4, e6⟩
    dsimp only at e1 e2 e3 e4 e6 ⊢
    subst e1
    have hfo : fo sdfg (q + 1) S = sdfg q (fo sdfg q S) := rfl
    generalize hX : fo sdfg q S = X at e2 e3 e4 hfo
    have hcX := e2.1
    have hnX := e3.nf
    obtain ⟨k1, k2⟩ := sdfg_keep e2 (show q < nf X by omega)
    obtain ⟨f0, f1, f2, f3, f4, f5⟩ := e4.2.2.1 q (by omega)
    rw [e4.1.1, hcX.f, hnX, if_pos (nI_lt hq (by omega)), grd_nI (show q < 8 by omega) (by decide), ix_nI (by omega), f3, f4]
    refine tt_bind (P1 := fun i' => CV i' a (sdfg q X) ∧ fr a (r a 16) i i') ?_ ?_
    · unfold sdfg
      by_cases c : X 2 q 3 = 0
      · rw [if_pos c, if_pos c]
        have hsp : spo (X 2 q 3) (X 2 q 4) = X 2 q 4 := by unfold spo; rw [if_pos c]
        have hab : abo (X 2 q 3) (X 2 q 4) = -1 := by unfold abo; rw [if_neg (by rw [c]; decide)]
        obtain ⟨-, -, -, k3⟩ := e2.2.2.1 q (by omega)
        rcases k3 with ⟨-, cc, hcc, ec⟩ | ⟨h, -⟩ | ⟨h, -⟩ | ⟨h, -⟩
        · rw [hsp, ec, v_drift e2 e4 hcc, Option.bind_some]
          refine tt_bnd (tt_some ⟨(e4.fish hcX (show q < 8 by omega) (fun b j hb => wr_a hb) (fun x y z hn => su_o (by omega)) (fun _ => ?_)).1, fun b j hb1 hb2 => ?_⟩)
          · rw [wr_k (by decide), wr_k (by decide), wr_k (by decide), wr_k (by decide), wr_s, wr_k (by decide), su_o (x' := 2) (z' := 0) (by omega), su_o (x' := 2) (z' := 1) (by omega), su_o (x' := 2) (z' := 2) (by omega), su_o (x' := 2) (z' := 3) (by omega), su_s]
            refine ⟨f0, f1, f2, f3, ?_, ?_⟩
            · unfold spo; rw [if_pos c]
            · rw [f5, hab]; unfold abo; rw [if_neg (by rw [c]; decide)]
          · show wr _ _ _ _ b j = _
            rw [wr_a (by omega)]; exact e6 b j hb1 hb2
        all_goals (rw [c] at h; exact absurd h (by decide))
      · rw [if_neg c, if_neg c]
        exact tt_some ⟨e4, e6⟩
    · rintro i6 ⟨u1, u2⟩
      refine tt_some ?_
      dsimp only [lpP]
      rw [hfo]
      exact ⟨nI_1 q, k1, e3.trans k2, u1, u2⟩
  · rintro ⟨x, i5⟩ ⟨e1, e2, e3, e4, e6⟩
    dsimp only at e1 e2 e3 e4 e6 ⊢
    subst e1
    rw [e4.1.1, e2.1.f, e3.nf, if_neg (nI_nlt (Nat.le_refl _) (by omega))]
    exact tt_some ⟨⟨e2, e3, e4⟩, e6⟩
  · exact ⟨rfl, hw, kp.refl S, h, fr.refl _ _ _⟩
  · rintro i3 ⟨⟨a1, a2, a3⟩, a4⟩
    have hnb := a2.nb
    refine tt_bind (P1 := fun i' => (Wf (sbt (sdf S)) ∧ kp S (sbt (sdf S)) ∧ CV i' a (sbt (sdf S))) ∧ fr a (r a 16) i i')
      (tt_loop (fun q (s : Int32 × MI) => s.1 = nI q ∧ Wf (fo (fun b X => sul (sfl (ssl X b) b) b) q (sdf S)) ∧ kp S (fo (fun b X => sul (sfl (ssl X b) b) b) q (sdf S)) ∧ CV s.2 a (fo (fun b X => sul (sfl (ssl X b) b) b) q (sdf S)) ∧ fr a (r a 16) i s.2) (nb (sdf S)) (by omega) ?_ ?_ ?_) ?_
    · rintro q hq ⟨x, i5⟩ ⟨e1, e2, e3, e4, e6⟩
      dsimp only at e1 e2 e3 e4 e6 ⊢
      subst e1
      have hfo : fo (fun b X => sul (sfl (ssl X b) b) b) (q + 1) (sdf S) = (fun b X => sul (sfl (ssl X b) b) b) q (fo (fun b X => sul (sfl (ssl X b) b) b) q (sdf S)) := rfl
      generalize hX : fo (fun b X => sul (sfl (ssl X b) b) b) q (sdf S) = X at e2 e3 e4 hfo
      dsimp only at hfo
      have hnX := e3.nb
      rw [e4.1.2.1, e2.1.b, if_pos (nI_lt (show q < nb X by omega) (by omega))]
      refine tt_bind (v_sail e2 e4 (show q < nb X by omega)) ?_
      rintro i6 ⟨u1, u2⟩
      obtain ⟨s1, s2, -⟩ := ssl_wf e2 q
      have n1 := s2.nb
      refine tt_bind (v_fill s1 u1 (show q < nb (ssl X q) by omega) (r a 16)) ?_
      rintro i7 ⟨⟨w1, w2, w3⟩, w4⟩
      have n2 := w2.nb
      refine tt_bind (v_unload w1 w3 (show q < nb (sfl (ssl X q) q) by omega) (r a 16)) ?_
      rintro i8 ⟨⟨x1, x2, x3⟩, x4⟩
      refine tt_some ?_
      dsimp only [lpP]
      rw [hfo]
      refine ⟨nI_1 q, x1, ((e3.trans s2).trans w2).trans x2, x3, fun b j hb1 hb2 => ?_⟩
      rw [x4 b j hb1 hb2, w4 b j hb1 hb2, u2 b j (by omega)]
      exact e6 b j hb1 hb2
    · rintro ⟨x, i5⟩ ⟨e1, e2, e3, e4, e6⟩
      dsimp only at e1 e2 e3 e4 e6 ⊢
      subst e1
      rw [e4.1.2.1, e2.1.b, e3.nb, hnb, if_neg (nI_nlt (Nat.le_refl _) (by omega))]
      exact tt_some ⟨⟨e2, e3, e4⟩, e6⟩
    · exact ⟨rfl, a1, a2, a3, a4⟩
    · rintro i4 ⟨⟨b1, b2, b3⟩, b4⟩
      refine tt_bind (v_turnAll b1 b3 hL (b4.law hna hl) hna) ?_
      rintro i5 ⟨⟨c1, c2, c3⟩, c4⟩
      have c4' := b4.trans c4
      rw [j_max, Option.bind_some]
      refine tt_bnd ?_
      obtain ⟨z, hz, ez⟩ := c1.2.2.2.2.2.2.1
      have k12 : i5 a 12 = stn (sbt (sdf S)) L 0 0 6 := c3.1.2.2.2.2.2.1
      have d1 : Wf (sic (stn (sbt (sdf S)) L)) := by
        refine c1.one (Or.inl ⟨rfl, z - 1, by omega, ?_⟩)
        rw [ez, lit_nI 1, jmax_sub (by omega) (by decide)]
      have d2 : kp S (sic (stn (sbt (sdf S)) L)) := (b2.trans c2).trans (kp_su (by omega))
      have d3 : CV (wr i5 a 12 (jmax 0 (i5 a 12 - 1))) a (sic (stn (sbt (sdf S)) L)) := by
        rw [k12]; exact c3.scal c1.1 (Or.inl ⟨rfl, rfl⟩) _
      have d4 : fr a (r a 16) i (wr i5 a 12 (jmax 0 (i5 a 12 - 1))) := fun b j hb1 hb2 => by rw [wr_a (by omega)]; exact c4' b j hb1 hb2
      generalize wr i5 a 12 (jmax 0 (i5 a 12 - 1)) = i6 at d3 d4
      have day : ∀ (X : SS) (i7 : MI) (v : Int32), Wf X → kp S X → CV i7 a X → fr a (r a 16) i i7 → Tt ((f_J_min (9999 : Int32) ((i7 a 14) + (1 : Int32))).bind (fun v_32 => bnd (wr i7 a 14 v_32) (fun i_33 => some (v, i_33)))) (fun y => (Wf (sdy X) ∧ kp S (sdy X) ∧ CV y.2 a (sdy X)) ∧ y.1 = v ∧ fr a (r a 16) i y.2) := by
        intro X i7 v w1 w2 w3 w4
        rw [j_min, Option.bind_some]
        obtain ⟨z, hz, ez⟩ := w1.2.2.2.2.2.2.2.2.1
        have k14 : i7 a 14 = X 0 0 8 := w3.1.2.2.2.2.2.2.2.1
        rw [k14]
        refine tt_bnd (tt_some ⟨⟨?_, w2.trans (kp_su (by omega)), w3.scal w1.1 (Or.inr (Or.inr (Or.inl ⟨rfl, rfl⟩))) _⟩, rfl, fun b j hb1 hb2 => ?_⟩)
        · refine w1.one (Or.inr (Or.inr (Or.inl ⟨rfl, min 9999 (z + 1), by omega, ?_⟩)))
          rw [ez, nI_1, lit_nI 9999, jmin_nI (by omega) (by omega)]
        · show wr _ _ _ _ b j = _
          rw [wr_a (by omega)]; exact w4 b j hb1 hb2
      cases bu with
      | false =>
        simp only [Bool.false_eq_true, if_false]
        unfold sdc
        refine tt_bind (P1 := fun (y : Int32 × MI) => y = (0, i6)) (by simp only [if_true]; exact tt_some rfl) ?_
        rintro _ rfl
        exact day (sic (stn (sbt (sdf S)) L)) i6 0 d1 d2 d3 d4
      | true =>
        simp only [if_true]
        unfold sdb
        dsimp only
        refine tt_bind (P1 := fun (y : Int32 × MI) => (Wf (strd (sic (stn (sbt (sdf S)) L)) L).1 ∧ kp (sic (stn (sbt (sdf S)) L)) (strd (sic (stn (sbt (sdf S)) L)) L).1 ∧ CV y.2 a (strd (sic (stn (sbt (sdf S)) L)) L).1) ∧ y.1 = (strd (sic (stn (sbt (sdf S)) L)) L).2 ∧ fr a (r a 16) i6 y.2) ?_ ?_
        · refine tt_ifn (by decide) ?_
          refine tt_bind (v_trade d1 d3 hL (d4.law hna hl) hna) ?_
          rintro ⟨v, i7⟩ hh
          exact tt_some hh
        · rintro ⟨v, i7⟩ ⟨⟨w1, w2, w3⟩, w4, w5⟩
          dsimp only at w3 w4 w5 ⊢
          rw [w4]
          exact day (strd (sic (stn (sbt (sdf S)) L)) L).1 i7 (strd (sic (stn (sbt (sdf S)) L)) L).2 w1 (d2.trans w2) w3 (d4.trans w5)
end DAYE
