/-! ===== whose: the class ===== -/
theorem tt_eta {α β : Type} {o : Option (α × β)} {P : α × β → Prop} (h : Tt o P) : Tt (o.bind fun x => some (x.1, x.2)) P := by
  obtain ⟨⟨a, b⟩, h1, h2⟩ := h
  rw [h1]
  exact ⟨(a, b), rfl, h2⟩
section WHOSEC
variable {i : MI} {S : SS} {lw : Nat} {cap : Nat → Nat}
def pre (d : Nat) : Nat → Prop := fun e => e < d
theorem pre_s {d : Nat} : pre (d + 1) d ∧ ∀ e, pre d e ↔ (pre (d + 1) e ∧ e ≠ d) := by
  unfold pre
  exact ⟨by omega, fun e => by omega⟩
theorem pre_suf : pre (nd S) = suf S (nd S) := by
  funext d
  unfold pre suf
  exact propext (by omega)
def wOK (S : SS) (cap : Nat → Nat) (i : MI) : Prop := (∀ d, d < nd S → i 1616 d = nI (cap d) ∧ cap d ≤ 99) ∧ (∀ d, d < nd S → i 1617 d = nI (bits (sd S d) (nf S) &&& fre S)) ∧ ∀ m, 0 < m → m < 2 ^ nf S → i 1618 m = nI (ssz S m (nf S))
/-- a table of yes and no -/
def yn (i : MI) (y : Nat) (F : Prop) : Prop := (i 1619 y = 1 ∧ F) ∨ (i 1619 y = 0 ∧ ¬ F)
theorem sbs_0 (m : Nat) : sbs 0 m := fun j hj => by rw [Nat.zero_testBit] at hj; exact absurd hj (by decide)
theorem sbs_tr {a b c : Nat} (h : sbs a b) (h2 : sbs b c) : sbs a c := fun j hj => h2 j (h j hj)
theorem sbs_dif (m T : Nat) : sbs (dif m T) m := fun j hj => by
  rw [dif_t] at hj
  simp only [Bool.and_eq_true] at hj
  exact hj.2.1
theorem sbs_nxt {x P Q : Nat} (h : sbs P Q) : sbs ((x - 1) &&& P) Q := sbs_tr sbs_nx h
theorem nI_m1' {x : Nat} (h : 0 < x) : nI x - 1 = nI (x - 1) := by rw [show x = (x - 1) + 1 by omega, nI_pred]; rfl
theorem dif_lt2 {m T : Nat} (hT : sbs T m) (h0 : T ≠ 0) (hm : m < 256) : dif m T < m := by
  have h1 := sbs_le (sbs_dif m T)
  rcases Nat.lt_or_eq_of_le h1 with h | h
  · exact h
  · have hT2 : T < 256 := Nat.lt_of_le_of_lt (sbs_le hT) hm
    refine absurd (m_ext hT2 (by decide : 0 < 256) (fun j hj => ?_)) h0
    rw [Nat.zero_testBit]
    cases c : T.testBit j
    · rfl
    · have h2 := dif_t m T j
      rw [h, hT j c, c] at h2
      simp at h2
theorem v_completes (hw : Wf S) (hi : wOK S cap i) {m d : Nat} (hd : d < nd S) (hm : sbs m (fre S)) {F : Nat → Prop} (hF : ∀ y, sbs y m → y < m → yn i y (F y)) : Tt (f_Pu_completes i (nI m) (nI d)) (fun v => (v = 1 ∧ ∃ T, T ≠ 0 ∧ sbs T m ∧ can S cap d T ∧ F (dif m T)) ∨ (v = 0 ∧ ¬ ∃ T, T ≠ 0 ∧ sbs T m ∧ can S cap d T ∧ F (dif m T))) := by
  have h8 := hw.1.f8
  have h6 := hw.1.d6
  have hp8 := pow_le8 h8
  have hfr := fre_lt (S := S)
  have hml := sbs_le hm
  obtain ⟨i1, i2, i3⟩ := hi
  obtain ⟨c1, c2⟩ := i1 d hd
  unfold f_Pu_completes
  rw [grd_nI (show d < 6 by omega) (by decide), ix_nI (show d < 2 ^ 31 by omega), i2 d hd, and_nI]
  generalize eT0 : m &&& (bits (sd S d) (nf S) &&& fre S) = T0
  have hT0m : sbs T0 m := fun j hj => by
    rw [← eT0, Nat.testBit_and, Bool.and_eq_true] at hj
    exact hj.1
  have hT0s : ∀ T, sbs T T0 → ∀ f, T.testBit f = true → sd S d f = true := fun T hT f hf => by
    have := hT f hf
    rw [← eT0, Nat.testBit_and, Nat.testBit_and, bits_test] at this
    simp only [Bool.and_eq_true] at this
    exact this.2.1.2
  have hT0u : ∀ T, sbs T m → can S cap d T → sbs T T0 := fun T hT hc j hj => by
    have hjn := bit_nf (show m < 2 ^ nf S by omega) (hT j hj)
    rw [← eT0, Nat.testBit_and, Nat.testBit_and, bits_test, hT j hj, hm j (hT j hj), decide_eq_true hjn, hc.1 j hj]
    rfl
  have hT0l := sbs_le hT0m
  refine tt_loopm (fun (s : Int32) => ∃ x, s = nI x ∧ sbs x T0 ∧ ∀ T, sbs T T0 → x < T → ¬ (can S cap d T ∧ F (dif m T))) (fun s => ix s) ?_ 1000000 _ ?_ ⟨T0, rfl, fun _ h => h, fun T hT hlt => by have := sbs_le hT; omega⟩
  · rintro s ⟨x, rfl, x2, x3⟩
    have hxl := sbs_le x2
    by_cases h0 : x = 0
    · subst h0
      rw [if_neg (by decide)]
      refine tt_some (Or.inr ⟨rfl, ?_⟩)
      rintro ⟨T, g1, g2, g3, g4⟩
      exact x3 T (hT0u T g2 g3) (by omega) ⟨g3, g4⟩
    · have hxT : sbs x m := sbs_tr x2 hT0m
      have hnx : nI x - 1 &&& nI T0 = nI ((x - 1) &&& T0) := by rw [nI_m1' (by omega), and_nI]
      have hnl : (x - 1) &&& T0 ≤ x - 1 := Nat.and_le_left
      have hgo : ¬ (can S cap d x ∧ F (dif m x)) → Tt (some (Sum.inl (nI x - 1 &&& nI T0)) : Option (Int32 ⊕ Int32)) (lpP (fun s' => (∃ x, s' = nI x ∧ sbs x T0 ∧ ∀ T, sbs T T0 → x < T → ¬ (can S cap d T ∧ F (dif m T))) ∧ ix s' < ix (nI x)) (fun v => (v = 1 ∧ ∃ T, T ≠ 0 ∧ sbs T m ∧ can S cap d T ∧ F (dif m T)) ∨ (v = 0 ∧ ¬ ∃ T, T ≠ 0 ∧ sbs T m ∧ can S cap d T ∧ F (dif m T)))) := fun hn => by
        rw [hnx]
        refine tt_some ⟨⟨(x - 1) &&& T0, rfl, sbs_nx, fun T hT hlt => ?_⟩, ?_⟩
        · rcases Nat.lt_trichotomy T x with q | q | q
          · have := nx_max 8 x T T0 (by omega) (sbs_and.mp x2) (sbs_and.mp hT) q
            omega
          · rw [q]; exact hn
          · exact x3 T hT q
        · show ix (nI ((x - 1) &&& T0)) < ix (nI x)
          rw [ix_nI (by omega), ix_nI (by omega)]; omega
      rw [show ix (nI x) = x from ix_nI (by omega)] at hgo
      have hsz := ssz_72 hw x
      rw [if_pos (show (0 : Int32) < nI x by rw [lit_nI 0]; exact nI_lt (by omega) (by omega)), grd_nI (show x < 256 by omega) (by decide), grd_nI (show d < 6 by omega) (by decide), ix_nI (show x < 2 ^ 31 by omega), c1, i3 x (by omega) (by omega)]
      by_cases cs : cap d < ssz S x (nf S)
      · rw [if_pos (nI_lt cs (by omega))]
        exact hgo (fun q => by have := q.1.2; omega)
      · have hcan : can S cap d x := ⟨hT0s x x2, by omega⟩
        have hdl := dif_lt2 hxT h0 (by omega)
        rw [if_neg (nI_nlt (by omega) (by omega)), dif_nI (by omega), grd_nI (dif_lt _ _) (by decide), ix_nI (by omega)]
        rcases hF (dif m x) (sbs_dif m x) hdl with ⟨q1, q2⟩ | ⟨q1, q2⟩
        · rw [q1, if_neg (by decide)]
          exact tt_some (Or.inl ⟨rfl, x, h0, hxT, hcan, q2⟩)
        · rw [q1, if_pos rfl]
          exact hgo (fun q => q2 q.2)
  · show ix (nI T0) < 1000000
    rw [ix_nI (by omega)]; omega
theorem v_mostOf (hw : Wf S) (hi : wOK S cap i) {X : Nat} (hX : sbs X (fre S)) : Tt (f_Pu_mostOf i (nI X) (nI (nd S))) (fun y => y.1 = nI (mst S cap X) ∧ ∀ b j, b ≠ 1619 → y.2 b j = i b j) := by
  have h8 := hw.1.f8
  have h6 := hw.1.d6
  have hp8 := pow_le8 h8
  have hfr := fre_lt (S := S)
  have hXl := sbs_le hX
  have hX8 : X < 256 := by omega
  have hnx : ∀ x, 0 < x → nI x - 1 &&& nI X = nI ((x - 1) &&& X) := fun x hx => by rw [nI_m1' hx, and_nI]
  have hmx : ∀ x y, x ≤ X → sbs x X → sbs y X → y < x → y ≤ (x - 1) &&& X := fun x y hx h1 h2 h3 => nx_max 8 x y X (by omega) (sbs_and.mp h1) (sbs_and.mp h2) h3
  have hOKc : ∀ i' : MI, (∀ b j, b ≠ 1619 → i' b j = i b j) → wOK S cap i' := fun i' he => ⟨fun d hd => by rw [he _ _ (by decide)]; exact hi.1 d hd, fun d hd => by rw [he _ _ (by decide)]; exact hi.2.1 d hd, fun m h0 hm => by rw [he _ _ (by decide)]; exact hi.2.2 m h0 hm⟩
  unfold f_Pu_mostOf
  refine tt_bind (P1 := fun i' => (∀ y, 0 < y → sbs y X → i' 1619 y = 0) ∧ ∀ b j, b ≠ 1619 → i' b j = i b j)
    (tt_loopm (fun (s : Int32 × MI) => ∃ x, s.1 = nI x ∧ sbs x X ∧ (∀ y, x < y → sbs y X → s.2 1619 y = 0) ∧ ∀ b j, b ≠ 1619 → s.2 b j = i b j) (fun s => ix s.1) ?_ 1000000 _ ?_ ⟨X, rfl, fun _ h => h, fun y hy hs => by have := sbs_le hs; omega, fun _ _ _ => rfl⟩) ?_
  · rintro ⟨z, i2⟩ ⟨x, e1, e2, e3, e4⟩
    dsimp only at e1 e2 e3 e4 ⊢
    subst e1
    have hxl := sbs_le e2
    by_cases h0 : x = 0
    · subst h0
      rw [if_neg (by decide)]
      exact tt_some ⟨e3, e4⟩
    · have hnl : (x - 1) &&& X ≤ x - 1 := Nat.and_le_left
      rw [if_pos (show (0 : Int32) < nI x by rw [lit_nI 0]; exact nI_lt (by omega) (by omega)), grd_nI (show x < 256 by omega) (by decide), ix_nI (by omega), hnx x (by omega)]
      refine tt_grd2 (by decide) (tt_bnd (tt_some ⟨⟨(x - 1) &&& X, rfl, sbs_nx, fun y hy hs => ?_, fun b j hb => ?_⟩, ?_⟩))
      · show wr i2 1619 x 0 1619 y = 0
        by_cases e : y = x
        · subst e; rw [wr_s]
        · rw [wr_k e]
          refine e3 y ?_ hs
          rcases Nat.lt_or_ge y x with q | q
          · have := hmx x y (by omega) e2 hs q; omega
          · omega
      · show wr i2 1619 x 0 b j = _
        rw [wr_a hb]; exact e4 b j hb
      · show ix (nI ((x - 1) &&& X)) < x
        rw [ix_nI (by omega)]; omega
  · show ix (nI X) < 1000000
    rw [ix_nI (by omega)]; omega
  rintro i1 ⟨a1, a2⟩
  refine tt_grd2 (by decide) (tt_bnd ?_)
  refine tt_bind (P1 := fun i' => (∀ y, sbs y X → yn i' y (tl S cap (pre (nd S)) y)) ∧ ∀ b j, b ≠ 1619 → i' b j = i b j)
    (tt_loop (fun d (s : Int32 × MI) => s.1 = nI d ∧ (∀ y, sbs y X → yn s.2 y (tl S cap (pre d) y)) ∧ ∀ b j, b ≠ 1619 → s.2 b j = i b j) (nd S) (by omega) ?_ ?_ ⟨rfl, fun y hs => ?_, fun b j hb => ?_⟩) ?_
  · rintro d hd ⟨z, i2⟩ ⟨e1, e2, e3⟩
    dsimp only at e1 e2 e3 ⊢
    subst e1
    rw [if_pos (nI_lt hd (by omega))]
    refine tt_bind (P1 := fun i' => (∀ y, sbs y X → yn i' y (tl S cap (pre (d + 1)) y)) ∧ ∀ b j, b ≠ 1619 → i' b j = i b j)
      (tt_loopm (fun (s : Int32 × MI) => ∃ x, s.1 = nI x ∧ sbs x X ∧ (∀ y, sbs y X → x < y → yn s.2 y (tl S cap (pre (d + 1)) y)) ∧ (∀ y, sbs y X → y ≤ x → yn s.2 y (tl S cap (pre d) y)) ∧ ∀ b j, b ≠ 1619 → s.2 b j = i b j) (fun s => ix s.1) ?_ 1000000 _ ?_ ⟨X, rfl, fun _ h => h, fun y hs hy => by have := sbs_le hs; omega, fun y hs _ => e2 y hs, e3⟩) ?_
    · rintro ⟨z, i3⟩ ⟨x, g1, g2, g3, g4, g5⟩
      dsimp only at g1 g2 g3 g4 g5 ⊢
      subst g1
      have hxl := sbs_le g2
      by_cases h0 : x = 0
      · subst h0
        rw [if_neg (by decide)]
        refine tt_some ⟨fun y hs => ?_, g5⟩
        by_cases ey : y = 0
        · subst ey
          rcases g4 0 hs (Nat.le_refl 0) with ⟨q1, -⟩ | ⟨-, q2⟩
          · exact Or.inl ⟨q1, tl_0 _⟩
          · exact absurd (tl_0 _) q2
        · exact g3 y hs (by omega)
      · have hnl : (x - 1) &&& X ≤ x - 1 := Nat.and_le_left
        obtain ⟨p1, p2⟩ := pre_s (d := d)
        have hsp := tl_split (S := S) (cap := cap) (show x < 256 by omega) p1 p2
        rw [if_pos (show (0 : Int32) < nI x by rw [lit_nI 0]; exact nI_lt (by omega) (by omega)), grd_nI (show x < 256 by omega) (by decide), ix_nI (by omega), hnx x (by omega)]
        have hyv : Tt (if i3 1619 x = 0 then (f_Pu_completes i3 (nI x) (nI d)).bind (fun v_27 => if v_27 = 0 then some (0 : Int32) else some 1) else some 1) (fun v => (v = 1 ∧ tl S cap (pre (d + 1)) x) ∨ (v = 0 ∧ ¬ tl S cap (pre (d + 1)) x)) := by
          rcases g4 x g2 (Nat.le_refl x) with ⟨q1, q2⟩ | ⟨q1, q2⟩
          · rw [if_neg (by rw [q1]; decide)]
            refine tt_some (Or.inl ⟨rfl, hsp.mpr ⟨0, sbs_0 x, ⟨fun f hf => by rw [Nat.zero_testBit] at hf; exact absurd hf (by decide), by rw [ssz_0]; exact Nat.zero_le _⟩, ?_⟩⟩)
            have : dif x 0 = x := m_ext (dif_lt _ _) (by omega) (fun j hj => by
              rw [dif_t, Nat.zero_testBit, decide_eq_true hj, Bool.not_false, Bool.and_true, Bool.true_and])
            rw [this]; exact q2
          · rw [if_pos q1]
            refine tt_bind (v_completes hw (hOKc i3 g5) hd (sbs_tr g2 hX) (F := fun y => tl S cap (pre d) y) (fun y hy hlt => g4 y (sbs_tr hy g2) (by omega))) ?_
            rintro v (⟨rfl, T, t1, t2, t3, t4⟩ | ⟨rfl, hn⟩)
            · rw [if_neg (by decide)]
              exact tt_some (Or.inl ⟨rfl, hsp.mpr ⟨T, t2, t3, t4⟩⟩)
            · rw [if_pos rfl]
              refine tt_some (Or.inr ⟨rfl, fun q => ?_⟩)
              obtain ⟨T, t2, t3, t4⟩ := hsp.mp q
              by_cases t1 : T = 0
              · subst t1
                have : dif x 0 = x := m_ext (dif_lt _ _) (by omega) (fun j hj => by
                  rw [dif_t, Nat.zero_testBit, decide_eq_true hj, Bool.not_false, Bool.and_true, Bool.true_and])
                rw [this] at t4
                exact q2 t4
              · exact hn ⟨T, t1, t2, t3, t4⟩
        refine tt_bind hyv ?_
        rintro v hv
        refine tt_grd2 (decide_eq_true (by rcases hv with ⟨e, -⟩ | ⟨e, -⟩ <;> simp [e])) (tt_bnd (tt_some ⟨⟨(x - 1) &&& X, rfl, sbs_nx, fun y hs hy => ?_, fun y hs hy => ?_, fun b j hb => ?_⟩, ?_⟩))
        · show yn (wr i3 1619 x v) y _
          unfold yn
          by_cases e : y = x
          · subst e; rw [wr_s]; exact hv
          · rw [wr_k e]
            refine g3 y hs ?_
            rcases Nat.lt_or_ge y x with q | q
            · have := hmx x y (by omega) g2 hs q; omega
            · omega
        · show yn (wr i3 1619 x v) y _
          unfold yn
          rw [wr_k (by omega)]
          exact g4 y hs (by omega)
        · show wr i3 1619 x v b j = _
          rw [wr_a hb]; exact g5 b j hb
        · show ix (nI ((x - 1) &&& X)) < x
          rw [ix_nI (by omega)]; omega
    · show ix (nI X) < 1000000
      rw [ix_nI (by omega)]; omega
    · rintro i3 ⟨g1, g2⟩
      exact tt_some ⟨nI_1 d, g1, g2⟩
  · rintro ⟨z, i2⟩ ⟨e1, e2, e3⟩
    dsimp only at e1 e2 e3 ⊢
    subst e1
    rw [if_neg (nI_nlt (Nat.le_refl _) (by omega))]
    exact tt_some ⟨e2, e3⟩
  · show yn (wr i1 1619 0 1) y _
    unfold yn
    by_cases e : y = 0
    · subst e; rw [wr_s]; exact Or.inl ⟨rfl, tl_0 _⟩
    · rw [wr_k e, a1 y (by omega) hs]
      refine Or.inr ⟨rfl, ?_⟩
      rintro ⟨w, h1, -⟩
      refine e (m_ext (show y < 256 by have := sbs_le hs; omega) (by decide) (fun j hj => ?_))
      rw [Nat.zero_testBit]
      cases c : y.testBit j
      · rfl
      · have := (h1 j c).1
        unfold pre at this
        omega
  · show wr i1 1619 0 1 b j = _
    rw [wr_a hb]; exact a2 b j hb
  rintro i2 ⟨b1, b2⟩
  refine tt_bind (P1 := fun v => v = nI (mst S cap X))
    (tt_loopm (fun (s : Int32 × Int32) => ∃ v x, s.1 = nI v ∧ v ≤ 8 ∧ s.2 = nI x ∧ sbs x X ∧ (∀ y, sbs y X → x < y → tl S cap (pre (nd S)) y → bcn y ≤ v) ∧ (v = 0 ∨ ∃ y, sbs y X ∧ tl S cap (pre (nd S)) y ∧ bcn y = v)) (fun s => ix s.2) ?_ 1000000 _ ?_ ⟨0, X, rfl, by omega, rfl, fun _ h => h, fun y hs hy => by have := sbs_le hs; omega, Or.inl rfl⟩) ?_
  · rintro ⟨x3, z⟩ ⟨v, x, e1, e2, e3, e4, e5, e6⟩
    dsimp only at e1 e2 e3 e4 e5 e6 ⊢
    subst e1 e3
    have hxl := sbs_le e4
    by_cases h0 : x = 0
    · subst h0
      rw [if_neg (by decide)]
      refine tt_some ?_
      show nI v = nI (mst S cap X)
      congr 1
      refine Nat.le_antisymm ?_ ?_
      · rcases e6 with q | ⟨y, q1, q2, q3⟩
        · omega
        · rw [← q3]
          rw [pre_suf] at q2
          exact rb_ge (nd S) X y (Nat.le_refl _) hX8 q1 q2
      · obtain ⟨m', q1, q2, q3⟩ := rb_at (S := S) (cap := cap) (nd S) X (Nat.le_refl _) hX8
        rw [← pre_suf] at q2
        unfold mst
        rw [← q3]
        by_cases em : m' = 0
        · rw [em, bcn_0]; exact Nat.zero_le _
        · exact e5 m' q1 (by omega) q2
    · have hnl : (x - 1) &&& X ≤ x - 1 := Nat.and_le_left
      obtain ⟨hbc, hbc8⟩ := bc_n x (by omega)
      rw [if_pos (show (0 : Int32) < nI x by rw [lit_nI 0]; exact nI_lt (by omega) (by omega)), grd_nI (show x < 256 by omega) (by decide), ix_nI (by omega), hnx x (by omega)]
      have hgo : ∀ v', v' ≤ 8 → v ≤ v' → (tl S cap (pre (nd S)) x → bcn x ≤ v') → (v' = 0 ∨ ∃ y, sbs y X ∧ tl S cap (pre (nd S)) y ∧ bcn y = v') → Tt (some (Sum.inl (nI v', nI ((x - 1) &&& X))) : Option ((Int32 × Int32) ⊕ Int32)) (lpP (fun s' => (∃ v x, s'.1 = nI v ∧ v ≤ 8 ∧ s'.2 = nI x ∧ sbs x X ∧ (∀ y, sbs y X → x < y → tl S cap (pre (nd S)) y → bcn y ≤ v) ∧ (v = 0 ∨ ∃ y, sbs y X ∧ tl S cap (pre (nd S)) y ∧ bcn y = v)) ∧ ix s'.2 < ix (nI x)) (fun v => v = nI (mst S cap X))) := fun v' h1 h2 h3 h4 => by
        refine tt_some ⟨⟨v', (x - 1) &&& X, rfl, h1, rfl, sbs_nx, fun y hs hy ht => ?_, h4⟩, ?_⟩
        · rcases Nat.lt_trichotomy y x with q | q | q
          · have := hmx x y (by omega) e4 hs q; omega
          · subst q; exact h3 ht
          · exact Nat.le_trans (e5 y hs q ht) h2
        · show ix (nI ((x - 1) &&& X)) < ix (nI x)
          rw [ix_nI (by omega), ix_nI (by omega)]; omega
      rw [show ix (nI x) = x from ix_nI (by omega)] at hgo
      rcases b1 x e4 with ⟨q1, q2⟩ | ⟨q1, q2⟩
      · rw [q1, if_neg (by decide), j_bc, Option.bind_some, hbc, j_max, Option.bind_some, jmax_nI (by omega) (by omega), Option.bind_some]
        refine hgo (max v (bcn x)) (Nat.max_le.mpr ⟨e2, hbc8⟩) (Nat.le_max_left _ _) (fun _ => Nat.le_max_right _ _) ?_
        rcases Nat.le_total v (bcn x) with q | q
        · rw [Nat.max_eq_right q]; exact Or.inr ⟨x, e4, q2, rfl⟩
        · rw [Nat.max_eq_left q]; exact e6
      · rw [q1, if_pos rfl, Option.bind_some]
        exact hgo v e2 (Nat.le_refl v) (fun q => absurd q q2) e6
  · show ix (nI X) < 1000000
    rw [ix_nI (by omega)]; omega
  · rintro v rfl
    exact tt_some ⟨rfl, b2⟩
theorem wfd_sp (m need f : Nat) : (wfd S cap m need f < nd S ∧ wpr S cap m need f (wfd S cap m need f) = true ∧ ∀ d, d < wfd S cap m need f → wpr S cap m need f d = false) ∨ (¬ wfd S cap m need f < nd S ∧ ∀ d, d < nd S → wpr S cap m need f d = false) := by
  obtain ⟨h1, h2, h3, h4⟩ := ffs_sp (wpr S cap m need f) (nd S) 0
  by_cases c : wfd S cap m need f < nd S
  · exact Or.inl ⟨c, h4 (by show wfd S cap m need f < 0 + nd S; omega), fun d hd => h3 d (Nat.zero_le d) hd⟩
  · exact Or.inr ⟨c, fun d hd => h3 d (Nat.zero_le d) (by show d < wfd S cap m need f; omega)⟩
theorem ssz_one {f : Nat} (hf : f < nf S) : ssz S (2 ^ f) (nf S) = (S 2 f 1).toNatClampNeg := by
  have key : ∀ q, ssz S (2 ^ f) q = if f < q then (S 2 f 1).toNatClampNeg else 0 := by
    intro q
    induction q with
    | zero => rw [if_neg (by omega)]; rfl
    | succ q ih =>
      have e : ssz S (2 ^ f) (q + 1) = if (2 ^ f).testBit q = true then ssz S (2 ^ f) q + (S 2 q 1).toNatClampNeg else ssz S (2 ^ f) q := rfl
      rw [e, ih, Nat.testBit_two_pow]
      by_cases c : f = q
      · subst c
        rw [if_pos (decide_eq_true rfl), if_neg (by omega), if_pos (by omega), Nat.zero_add]
      · rw [if_neg (by rw [decide_eq_false c]; decide)]
        by_cases c2 : f < q
        · rw [if_pos c2, if_pos (by omega)]
        · rw [if_neg c2, if_neg (by omega)]
  rw [key, if_pos hf]
theorem v_firstFor (hw : Wf S) (hi : wOK S cap i) {f X need : Nat} (hf : (fre S).testBit f = true) (hX : sbs X (fre S)) (hn : need ≤ 8) : Tt (f_Pu_firstFor i (nI f) (nI X) (nI need) (nI (nd S))) (fun y => (∀ b j, b ≠ 1616 → b ≠ 1619 → y.2 b j = i b j) ∧ ((wfd S cap X need f < nd S ∧ y.1 = nI (wfd S cap X need f) ∧ wOK S (cup S cap (wfd S cap X need f) f) y.2) ∨ (¬ wfd S cap X need f < nd S ∧ y.1 = -1 ∧ wOK S cap y.2))) := by
  have h8 := hw.1.f8
  have h6 := hw.1.d6
  have hp8 := pow_le8 h8
  have hfr := fre_lt (S := S)
  have hfn := bit_nf hfr hf
  have hXl := sbs_le hX
  obtain ⟨sz1, sz2, sz3⟩ := sz_n hw hfn
  have h2f : 2 ^ f < 2 ^ nf S := Nat.pow_lt_pow_right (by decide) hfn
  have h2p := Nat.two_pow_pos f
  have hsz : i 1618 (2 ^ f) = nI (S 2 f 1).toNatClampNeg := by rw [hi.2.2 _ h2p h2f, ssz_one hfn]
  unfold f_Pu_firstFor
  rw [shl1n f (by omega), grd_nI (show 2 ^ f < 256 by omega) (by decide), ix_nI (show 2 ^ f < 2 ^ 31 by omega), hsz]
  refine tt_loop (fun j (s : Int32 × MI) => s.1 = nI j ∧ wOK S cap s.2 ∧ (∀ d, d < j → wpr S cap X need f d = false) ∧ ∀ b j, b ≠ 1616 → b ≠ 1619 → s.2 b j = i b j) (nd S) (by omega) ?_ ?_ ⟨rfl, hi, fun d hd => by omega, fun _ _ _ _ => rfl⟩
  · rintro j hj ⟨z, i2⟩ ⟨e1, e2, e3, e4⟩
    dsimp only at e1 e2 e3 e4 ⊢
    subst e1
    obtain ⟨o1, o2, o3⟩ := e2
    obtain ⟨c1, c2⟩ := o1 j hj
    have hsub8 : bits (sd S j) (nf S) &&& fre S < 256 := Nat.lt_of_le_of_lt Nat.and_le_right (by omega)
    rw [if_pos (nI_lt hj (by omega)), grd_nI (show j < 6 by omega) (by decide), ix_nI (show j < 2 ^ 31 by omega), o2 j hj, c1]
    have hbt : (bits (sd S j) (nf S) &&& fre S).testBit f = sd S j f := by rw [Nat.testBit_and, hf, bits_test, decide_eq_true hfn, Bool.and_true, Bool.true_and]
    have hgo : ∀ i3, wpr S cap X need f j = false → wOK S cap i3 → (∀ b j, b ≠ 1616 → b ≠ 1619 → i3 b j = i b j) → Tt (some (Sum.inl (nI j + 1, i3)) : Option ((Int32 × MI) ⊕ (Int32 × MI))) (lpP (fun (s : Int32 × MI) => s.1 = nI (j + 1) ∧ wOK S cap s.2 ∧ (∀ d, d < j + 1 → wpr S cap X need f d = false) ∧ ∀ b j, b ≠ 1616 → b ≠ 1619 → s.2 b j = i b j) (fun y => (∀ b j, b ≠ 1616 → b ≠ 1619 → y.2 b j = i b j) ∧ ((wfd S cap X need f < nd S ∧ y.1 = nI (wfd S cap X need f) ∧ wOK S (cup S cap (wfd S cap X need f) f) y.2) ∨ (¬ wfd S cap X need f < nd S ∧ y.1 = -1 ∧ wOK S cap y.2)))) := fun i3 h1 h2 h3 => tt_some ⟨nI_1 j, h2, fun d hd => by
      by_cases e : d = j
      · subst e; exact h1
      · exact e3 d (by omega), h3⟩
    by_cases cs : sd S j f = true
    · rw [if_neg (fun q => (bit_sh hsub8 (by omega)).mp q (by rw [hbt]; exact cs))]
      by_cases cc : cap j < (S 2 f 1).toNatClampNeg
      · rw [if_pos (nI_lt cc (by omega))]
        exact hgo i2 (by unfold wpr; rw [decide_eq_false (by omega : ¬ (S 2 f 1).toNatClampNeg ≤ cap j), Bool.false_and, Bool.and_false]) ⟨o1, o2, o3⟩ e4
      · rw [if_neg (nI_nlt (by omega) (by omega)), sub_nI (by omega)]
        refine tt_bnd ?_
        have hok3 : wOK S (cup S cap j f) (wr i2 1616 j (nI (cap j - (S 2 f 1).toNatClampNeg))) := by
          refine ⟨fun d hd => ?_, fun d hd => by rw [wr_a (by decide)]; exact o2 d hd, fun m h0 hm => by rw [wr_a (by decide)]; exact o3 m h0 hm⟩
          unfold cup
          by_cases e : d = j
          · rw [if_pos e, e, wr_s]; exact ⟨rfl, by omega⟩
          · rw [if_neg e, wr_k e]; exact o1 d hd
        refine tt_bind (v_mostOf hw hok3 hX) ?_
        rintro ⟨v, i4⟩ ⟨u1, u2⟩
        dsimp only at u1 u2 ⊢
        subst u1
        have hml : mst S (cup S cap j f) X ≤ 8 := rb_le8 (Nat.le_refl _) (by omega)
        have hw4 : wOK S (cup S cap j f) i4 := ⟨fun d hd => by rw [u2 _ _ (by decide)]; exact hok3.1 d hd, fun d hd => by rw [u2 _ _ (by decide)]; exact hok3.2.1 d hd, fun m h0 hm => by rw [u2 _ _ (by decide)]; exact hok3.2.2 m h0 hm⟩
        have hfr4 : ∀ b j, b ≠ 1616 → b ≠ 1619 → i4 b j = i b j := fun b k h1 h2 => by rw [u2 b k h2, wr_a h1]; exact e4 b k h1 h2
        rw [show nI j = nI j from rfl, lit_nI 1, nI_add]
        have hwp : wpr S cap X need f j = decide (1 + mst S (cup S cap j f) X = need) := by
          unfold wpr
          rw [cs, decide_eq_true (show (S 2 f 1).toNatClampNeg ≤ cap j by omega), Bool.true_and, Bool.true_and]
        by_cases cn : 1 + mst S (cup S cap j f) X = need
        · rw [if_pos (by rw [cn])]
          have hj2 : j = wfd S cap X need f := by
            rcases wfd_sp (S := S) (cap := cap) X need f with ⟨q1, q2, q3⟩ | ⟨q1, q2⟩
            · rcases Nat.lt_trichotomy j (wfd S cap X need f) with q | q | q
              · have := q3 j q; rw [hwp, decide_eq_true cn] at this; exact absurd this (by decide)
              · exact q
              · rw [e3 _ q] at q2; exact absurd q2 (by decide)
            · have := q2 j hj; rw [hwp, decide_eq_true cn] at this; exact absurd this (by decide)
          refine tt_some ⟨hfr4, Or.inl ⟨by rw [← hj2]; exact hj, by rw [← hj2], by rw [← hj2]; exact hw4⟩⟩
        · rw [if_neg (fun q => cn ((nI_inj (by omega) (by omega)).mp q))]
          have e16 : i4 1616 j = nI (cap j - (S 2 f 1).toNatClampNeg) := by rw [u2 _ _ (by decide), wr_s]
          rw [e16, nI_add, show cap j - (S 2 f 1).toNatClampNeg + (S 2 f 1).toNatClampNeg = cap j by omega]
          refine tt_bnd ?_
          rw [← lit_nI 1]
          refine hgo _ (by rw [hwp, decide_eq_false cn]) ⟨fun d hd => ?_, fun d hd => by rw [wr_a (by decide)]; exact hw4.2.1 d hd, fun m h0 hm => by rw [wr_a (by decide)]; exact hw4.2.2 m h0 hm⟩ (fun b k h1 h2 => by rw [wr_a h1]; exact hfr4 b k h1 h2)
          by_cases e : d = j
          · subst e; rw [wr_s]; exact ⟨rfl, c2⟩
          · rw [wr_k e, u2 _ _ (by decide), wr_k e]; exact o1 d hd
    · rw [if_pos ((bit_sh hsub8 (by omega)).mpr (by rw [hbt]; exact cs))]
      exact hgo i2 (by unfold wpr; rw [Bool.eq_false_iff.mpr cs, Bool.false_and]) ⟨o1, o2, o3⟩ e4
  · rintro ⟨z, i2⟩ ⟨e1, e2, e3, e4⟩
    dsimp only at e1 e2 e3 e4 ⊢
    subst e1
    rw [if_neg (nI_nlt (Nat.le_refl _) (by omega))]
    refine tt_some ⟨e4, Or.inr ⟨?_, rfl, e2⟩⟩
    rcases wfd_sp (S := S) (cap := cap) X need f with ⟨q1, q2, q3⟩ | ⟨q1, q2⟩
    · rw [e3 _ q1] at q2; exact absurd q2 (by decide)
    · exact q1
theorem delb_id {m f : Nat} (hm : m < 256) (h : m.testBit f = false) : delb m f = m := m_ext (delb_lt _ _) hm (fun j hj => by
  rw [delb_t, decide_eq_true hj]
  by_cases e : f = j
  · subst e; rw [h]; rfl
  · rw [decide_eq_false e, Bool.not_false, Bool.and_true, Bool.true_and])
def fW (i i' : MI) : Prop := ∀ b j, (b < 1614 ∨ 1620 ≤ b) → i' b j = i b j
theorem v_fitting (hw : Wf S) (h : CV i 1001 S) {d : Nat} (hd : d < nd S) : f_Pu_fittingTo i 1001 (nI d) = some (nI (bits (sd S d) (nf S))) := by
  have h8 := hw.1.f8
  have h6 := hw.1.d6
  obtain ⟨⟨mk, hmk, em⟩, -⟩ := hw.2.2.2.2.2.1 d hd
  unfold f_Pu_fittingTo
  rw [show (((0 : Int32), (0 : Int32)) : Int32 × Int32) = (nI 0, nI 0) from rfl, itr_bits (sd S d) (nf S) h8]
  · rfl
  · intro j hj m
    obtain ⟨⟨k, hk, ek⟩, -⟩ := hw.2.2.1 j hj
    have e1 := (h.2.2.2.2.2.1 d hd).1
    have e2 := (h.2.2.1 j hj).1
    dsimp only
    rw [h.1.1, hw.1.f, if_pos (nI_lt hj (by omega))]
    unfold f_Se_saidKindOf sd
    rw [grd_nI (show d < 6 by omega) (by decide), grd_nI (show j < 8 by omega) (by decide), ix_nI (show d < 2 ^ 31 by omega), ix_nI (show j < 2 ^ 31 by omega), e1, e2, em, ek, ix_nI (by omega), ix_nI (by omega)]
    by_cases c : mk.testBit k = true
    · rw [if_neg (fun q => (bit_sh (by omega) (by omega)).mp q c), Option.bind_some, if_neg (by decide), if_pos c, Option.bind_some, nI_1]
    · rw [if_pos ((bit_sh (by omega) (by omega)).mpr c), Option.bind_some, if_pos rfl, if_neg c, Option.bind_some, nI_1]
  · intro m
    dsimp only
    rw [h.1.1, hw.1.f, if_neg (nI_nlt (Nat.le_refl _) (by omega))]
theorem v_szOf (hw : Wf S) (h : CV i 1001 S) {T : Nat} (hT : T < 2 ^ nf S) : f_Se_sizesOf i 1001 (nI T) = some (nI (ssz S T (nf S))) := by
  have h8 := hw.1.f8
  have hp8 := pow_le8 h8
  have key : Tt (f_Se_sizesOf i 1001 (nI T)) (fun v => v = nI (ssz S T (nf S))) := by
    unfold f_Se_sizesOf
    refine tt_bind (P1 := fun v => v = nI (ssz S T (nf S)))
      (tt_loop (fun j (s : Int32 × Int32) => s = (nI (ssz S T j), nI j)) (nf S) (by omega) ?_ ?_ rfl) (fun v hv => tt_some hv)
    · rintro j hj _ rfl
      dsimp only
      obtain ⟨s1, -, -⟩ := sz_n hw hj
      have e2 := (h.2.2.1 j hj).2.1
      refine tt_ifp (show nI j < i 1001 7 by rw [h.1.1, hw.1.f]; exact nI_lt hj (by omega)) ?_
      refine tt_bind (P1 := fun v => v = nI (ssz S T (j + 1))) ?_ (fun v hv => by subst hv; exact tt_some (by dsimp only [lpP]; rw [nI_1]))
      show Tt _ (fun v => v = nI (if T.testBit j = true then ssz S T j + (S 2 j 1).toNatClampNeg else ssz S T j))
      by_cases c : T.testBit j = true
      · rw [if_neg (fun q => (bit_sh (by omega) (by omega)).mp q c), if_pos c, grd_nI (show j < 8 by omega) (by decide), ix_nI (by omega), e2, s1, nI_add, ← s1]
        exact tt_some rfl
      · rw [if_pos ((bit_sh (by omega) (by omega)).mpr c), if_neg c]
        exact tt_some rfl
    · rintro _ rfl
      dsimp only
      refine tt_ifn (show ¬ nI (nf S) < i 1001 7 by rw [h.1.1, hw.1.f]; exact nI_nlt (Nat.le_refl _) (by omega)) ?_
      exact tt_some rfl
  obtain ⟨v, h1, rfl⟩ := key
  exact h1
theorem v_planW (hw : Wf S) (h : CV i 1001 S) : Tt (f_Pu_plan i 1001) (fun i' => i' 1614 5 = nI (mst S (cap0 S) (fre S)) ∧ (∀ f, f < nf S → i' 1615 f = (whs S (f + 1)).2.2.2) ∧ fW i i') := by
  have h8 := hw.1.f8
  have h6 := hw.1.d6
  have hp8 := pow_le8 h8
  have hpp := Nat.two_pow_pos (nf S)
  have hfr := fre_lt (S := S)
  have hC : ∀ i' : MI, fW i i' → CV i' 1001 S := fun i' hf => h.congr (fun b k _ _ => hf b k (by omega)) hw.1
  have eA : (shl 1 (i 1001 7) - 1) &&& (nI (plc S 3) ^^^ -1) = nI (fre S) := by
    rw [show i 1001 7 = nI (nf S) from h.1.1.trans hw.1.f, full_nI h8, dif_nI (by omega)]; rfl
  unfold f_Pu_plan
  rw [v_placed hw.1 h 3, Option.bind_some, eA]
  refine tt_bind (P1 := fun i' => (∀ m, 0 < m → m < 2 ^ nf S → i' 1618 m = nI (ssz S m (nf S))) ∧ fW i i') ?_ ?_
  · unfold f_Pu_addSizes
    refine tt_bind (P1 := fun i' => (∀ m, 0 < m → m < 2 ^ nf S → i' 1618 m = nI (ssz S m (nf S))) ∧ fW i i')
      (tt_loop (fun q (s : Int32 × MI) => s.1 = nI (q + 1) ∧ (∀ m, 0 < m → m < q + 1 → s.2 1618 m = nI (ssz S m (nf S))) ∧ fW i s.2) (2 ^ nf S - 1) (by omega) ?_ ?_ ⟨rfl, fun m h1 h2 => by omega, fun _ _ _ => rfl⟩) (fun i' hi => tt_some hi)
    · rintro q hq ⟨z, i2⟩ ⟨e1, e2, e3⟩
      dsimp only at e1 e2 e3 ⊢
      subst e1
      rw [show i2 1001 7 = nI (nf S) from (hC i2 e3).1.1.trans hw.1.f, shl1n _ (by omega), if_pos (nI_lt (by omega) (by omega)), v_szOf hw (hC i2 e3) (by omega), Option.bind_some, grd_nI (show q + 1 < 256 by omega) (by decide), ix_nI (by omega)]
      refine tt_bnd (tt_some ⟨nI_1 (q + 1), fun m h1 h2 => ?_, fun b j hb => ?_⟩)
      · show wr i2 1618 (q + 1) (nI (ssz S (q + 1) (nf S))) 1618 m = _
        by_cases e : m = q + 1
        · subst e; rw [wr_s]
        · rw [wr_k e]; exact e2 m h1 (by omega)
      · show wr i2 1618 (q + 1) (nI (ssz S (q + 1) (nf S))) b j = _
        rw [wr_a (by omega)]; exact e3 b j hb
    · rintro ⟨z, i2⟩ ⟨e1, e2, e3⟩
      dsimp only at e1 e2 e3 ⊢
      subst e1
      rw [show 2 ^ nf S - 1 + 1 = 2 ^ nf S by omega] at e2 ⊢
      rw [show i2 1001 7 = nI (nf S) from (hC i2 e3).1.1.trans hw.1.f, shl1n _ (by omega), if_neg (nI_nlt (Nat.le_refl _) (by omega))]
      exact tt_some ⟨e2, e3⟩
  rintro i1 ⟨a1, a2⟩
  refine tt_bind (P1 := fun i' => wOK S (cap0 S) i' ∧ fW i i')
    (tt_loop (fun q (s : Int32 × MI) => s.1 = nI q ∧ (∀ d, d < q → s.2 1616 d = nI (cap0 S d)) ∧ (∀ d, d < q → s.2 1617 d = nI (bits (sd S d) (nf S) &&& fre S)) ∧ (∀ m, 0 < m → m < 2 ^ nf S → s.2 1618 m = nI (ssz S m (nf S))) ∧ fW i s.2) (nd S) (by omega) ?_ ?_ ⟨rfl, fun d hd => by omega, fun d hd => by omega, a1, a2⟩) ?_
  · rintro q hq ⟨z, i2⟩ ⟨e1, e2, e3, e4, e5⟩
    dsimp only at e1 e2 e3 e4 e5 ⊢
    subst e1
    have hc2 := hC i2 e5
    obtain ⟨cl, ce⟩ := cap0_le hw hq
    rw [show i2 1001 10 = nI (nd S) from hc2.1.2.2.2.1.trans hw.1.d, if_pos (nI_lt hq (by omega)), grd_nI (show q < 6 by omega) (by decide), ix_nI (by omega), (hc2.2.2.2.2.2.1 q hq).2, ce]
    refine tt_bnd ?_
    have hf3 : fW i (wr i2 1616 q (nI (cap0 S q))) := fun b j hb => by rw [wr_a (by omega)]; exact e5 b j hb
    rw [v_fitting hw (hC _ hf3) hq, Option.bind_some, and_nI]
    refine tt_bnd (tt_some ⟨nI_1 q, fun d hd => ?_, fun d hd => ?_, fun m h1 h2 => ?_, fun b j hb => ?_⟩)
    · show wr (wr i2 1616 q (nI (cap0 S q))) 1617 q (nI (bits (sd S q) (nf S) &&& fre S)) 1616 d = _
      rw [wr_a (by decide)]
      by_cases e : d = q
      · subst e; rw [wr_s]
      · rw [wr_k e]; exact e2 d (by omega)
    · show wr (wr i2 1616 q (nI (cap0 S q))) 1617 q (nI (bits (sd S q) (nf S) &&& fre S)) 1617 d = _
      by_cases e : d = q
      · subst e; rw [wr_s]
      · rw [wr_k e, wr_a (by decide)]; exact e3 d (by omega)
    · show wr (wr i2 1616 q (nI (cap0 S q))) 1617 q (nI (bits (sd S q) (nf S) &&& fre S)) 1618 m = _
      rw [wr_a (by decide), wr_a (by decide)]; exact e4 m h1 h2
    · show wr (wr i2 1616 q (nI (cap0 S q))) 1617 q (nI (bits (sd S q) (nf S) &&& fre S)) b j = _
      rw [wr_a (by omega)]; exact hf3 b j hb
  · rintro ⟨z, i2⟩ ⟨e1, e2, e3, e4, e5⟩
    dsimp only at e1 e2 e3 e4 e5 ⊢
    subst e1
    rw [show i2 1001 10 = nI (nd S) from (hC i2 e5).1.2.2.2.1.trans hw.1.d, if_neg (nI_nlt (Nat.le_refl _) (by omega))]
    exact tt_some ⟨⟨fun d hd => ⟨e2 d hd, (cap0_le hw hd).1⟩, e3, e4⟩, e5⟩
  rintro i2 ⟨b1, b2⟩
  rw [show i2 1001 10 = nI (nd S) from (hC i2 b2).1.2.2.2.1.trans hw.1.d]
  refine tt_bind (v_mostOf hw b1 (fun _ h => h)) ?_
  rintro ⟨v, i3⟩ ⟨c1, c2⟩
  dsimp only at c1 c2 ⊢
  subst c1
  refine tt_bnd ?_
  have hok : ∀ i', wOK S (cap0 S) i3 → (∀ b j, b ≠ 1614 → b ≠ 1615 → i' b j = i3 b j) → wOK S (cap0 S) i' := fun i' hi he => ⟨fun d hd => by rw [he _ _ (by decide) (by decide)]; exact hi.1 d hd, fun d hd => by rw [he _ _ (by decide) (by decide)]; exact hi.2.1 d hd, fun m h0 hm => by rw [he _ _ (by decide) (by decide)]; exact hi.2.2 m h0 hm⟩
  have hok3 : wOK S (cap0 S) i3 := ⟨fun d hd => by rw [c2 _ _ (by decide)]; exact b1.1 d hd, fun d hd => by rw [c2 _ _ (by decide)]; exact b1.2.1 d hd, fun m h0 hm => by rw [c2 _ _ (by decide)]; exact b1.2.2 m h0 hm⟩
  have hf3 : fW i i3 := fun b j hb => by rw [c2 b j (by omega)]; exact b2 b j hb
  rw [wr_s]
  refine tt_bind (P1 := fun i' => i' 1614 5 = nI (mst S (cap0 S) (fre S)) ∧ (∀ f, f < nf S → i' 1615 f = (whs S (f + 1)).2.2.2) ∧ fW i i')
    (tt_loop (fun q (s : Int32 × Int32 × Int32 × MI) => s.1 = nI (whs S q).2.2.1 ∧ s.2.1 = nI (whs S q).2.1 ∧ s.2.2.1 = nI q ∧ s.2.2.2 1614 5 = nI (mst S (cap0 S) (fre S)) ∧ (∀ f, f < q → s.2.2.2 1615 f = (whs S (f + 1)).2.2.2) ∧ wOK S (whs S q).1 s.2.2.2 ∧ fW i s.2.2.2) (nf S) (by omega) ?_ ?_ ⟨rfl, rfl, rfl, ?_, fun f hf => by omega, hok _ hok3 (fun b j hb _ => wr_a hb), fun b j hb => ?_⟩) (fun i' hi => tt_some hi)
  · rintro q hq ⟨x3, x4, z, i5⟩ ⟨k0, k1, k2, k3, k4, k5, k6⟩
    dsimp only at k0 k1 k2 k3 k4 k5 k6 ⊢
    subst k0 k1 k2
    obtain ⟨s1, s2, s3, s4⟩ := whs_sp hw q (by omega)
    have hml := sbs_le s1
    refine tt_ifp (show nI q < i5 1001 7 by rw [(hC i5 k6).1.1, hw.1.f]; exact nI_lt hq (by omega)) ?_
    rw [delb_nI (by omega) (by omega)]
    have ew : whs S (q + 1) = wsp S q (whs S q) := rfl
    have hq8 := s4 q (Nat.le_refl q) (by omega)
    have hout : ∀ y i6, (∀ b j, b ≠ 1616 → b ≠ 1619 → i6 b j = i5 b j) → y = (whs S (q + 1)).2.2.2 → wOK S (whs S (q + 1)).1 i6 → delb (whs S q).2.1 q = (whs S (q + 1)).2.1 → (y = -1 → (whs S (q + 1)).2.2.1 = (whs S q).2.2.1) → (¬ y = -1 → 1 ≤ (whs S q).2.2.1 ∧ (whs S (q + 1)).2.2.1 = (whs S q).2.2.1 - 1) → Tt (grd (nI q) 8 (bnd (wr i6 1615 (ix (nI q)) y) (fun i_34 => (if (i_34 1615 (ix (nI q))) = -1 then (some (nI (whs S q).2.2.1)) else (some (nI (whs S q).2.2.1 + -1)) : Option (Int32)).bind (fun x3_35 => some (Sum.inl (x3_35, nI (delb (whs S q).2.1 q), nI q + 1, i_34)))))) (lpP (fun (s : Int32 × Int32 × Int32 × MI) => s.1 = nI (whs S (q + 1)).2.2.1 ∧ s.2.1 = nI (whs S (q + 1)).2.1 ∧ s.2.2.1 = nI (q + 1) ∧ s.2.2.2 1614 5 = nI (mst S (cap0 S) (fre S)) ∧ (∀ f, f < q + 1 → s.2.2.2 1615 f = (whs S (f + 1)).2.2.2) ∧ wOK S (whs S (q + 1)).1 s.2.2.2 ∧ fW i s.2.2.2) (fun i' => i' 1614 5 = nI (mst S (cap0 S) (fre S)) ∧ (∀ f, f < nf S → i' 1615 f = (whs S (f + 1)).2.2.2) ∧ fW i i')) := by
      intro y i6 h1 h2 h3 h4 h5 h6
      rw [grd_nI (show q < 8 by omega) (by decide), ix_nI (by omega)]
      refine tt_bnd ?_
      rw [wr_s]
      refine tt_bind (P1 := fun v => v = nI (whs S (q + 1)).2.2.1) ?_ ?_
      · by_cases c : y = -1
        · rw [if_pos c, h5 c]; exact tt_some rfl
        · obtain ⟨g1, g2⟩ := h6 c
          rw [if_neg c, addm1 g1, g2]; exact tt_some rfl
      · rintro v rfl
        refine tt_some ⟨rfl, by rw [h4], nI_1 q, ?_, fun f hf => ?_, ⟨fun d hd => ?_, fun d hd => ?_, fun m h0 hm => ?_⟩, fun b j hb => ?_⟩
        · show wr i6 1615 q y 1614 5 = _
          rw [wr_a (by decide), h1 _ _ (by decide) (by decide)]; exact k3
        · show wr i6 1615 q y 1615 f = _
          by_cases e : f = q
          · subst e; rw [wr_s]; exact h2
          · rw [wr_k e, h1 _ _ (by decide) (by decide)]; exact k4 f (by omega)
        · show wr i6 1615 q y 1616 d = _ ∧ _
          rw [wr_a (by decide)]; exact h3.1 d hd
        · show wr i6 1615 q y 1617 d = _
          rw [wr_a (by decide)]; exact h3.2.1 d hd
        · show wr i6 1615 q y 1618 m = _
          rw [wr_a (by decide)]; exact h3.2.2 m h0 hm
        · show wr i6 1615 q y b j = _
          rw [wr_a (by omega), h1 _ _ (by omega) (by omega)]; exact k6 b j hb
    by_cases c : (fre S).testBit q = true
    · have c' : (whs S q).2.1.testBit q = true := by rw [hq8]; exact c
      have hsub : sbs (delb (whs S q).2.1 q) (fre S) := fun j hj => s1 j (delb_bit hj).1
      rw [if_neg (fun q2 => (bit_sh (by omega) (by omega)).mp q2 c)]
      rw [show i5 1001 10 = nI (nd S) from (hC i5 k6).1.2.2.2.1.trans hw.1.d]
      refine tt_bind (tt_eta (v_firstFor hw k5 c hsub s3)) ?_
      rintro ⟨y, i6⟩ ⟨h1, hcase⟩
      dsimp only at h1 hcase ⊢
      rcases hcase with ⟨w1, w2, w3⟩ | ⟨w1, w2, w3⟩
      · have ev : whs S (q + 1) = (cup S (whs S q).1 (wfd S (whs S q).1 (delb (whs S q).2.1 q) (whs S q).2.2.1 q) q, delb (whs S q).2.1 q, (whs S q).2.2.1 - 1, nI (wfd S (whs S q).1 (delb (whs S q).2.1 q) (whs S q).2.2.1 q)) := by
          rw [ew]; unfold wsp; rw [if_pos c', if_pos w1]
        have hn1 : 1 ≤ (whs S q).2.2.1 := by
          rcases wfd_sp (S := S) (cap := (whs S q).1) (delb (whs S q).2.1 q) (whs S q).2.2.1 q with ⟨-, q2, -⟩ | ⟨q1, -⟩
          · unfold wpr at q2
            simp only [Bool.and_eq_true, decide_eq_true_eq] at q2
            omega
          · exact absurd w1 q1
        exact hout y i6 h1 (by rw [ev]; exact w2) (by rw [ev]; exact w3) (by rw [ev]) (fun e => by rw [w2] at e; exact absurd e (nI_m1 (by omega))) (fun _ => ⟨hn1, by rw [ev]⟩)
      · have ev : whs S (q + 1) = ((whs S q).1, delb (whs S q).2.1 q, (whs S q).2.2.1, -1) := by
          rw [ew]; unfold wsp; rw [if_pos c', if_neg w1]
        exact hout y i6 h1 (by rw [ev]; exact w2) (by rw [ev]; exact w3) (by rw [ev]) (fun _ => by rw [ev]) (fun e => absurd w2 e)
    · have c' : ¬ (whs S q).2.1.testBit q = true := by rw [hq8]; exact c
      have ev : whs S (q + 1) = ((whs S q).1, (whs S q).2.1, (whs S q).2.2.1, -1) := by
        rw [ew]; unfold wsp; rw [if_neg c']
      rw [if_pos ((bit_sh (by omega) (by omega)).mpr c), Option.bind_some]
      exact hout (-1) i5 (fun _ _ _ _ => rfl) (by rw [ev]) (by rw [ev]; exact k5) (by rw [ev]; exact delb_id (by omega) (Bool.eq_false_iff.mpr c')) (fun _ => by rw [ev]) (fun e => absurd rfl e)
  · rintro ⟨x3, x4, z, i5⟩ ⟨k0, k1, k2, k3, k4, k5, k6⟩
    dsimp only at k0 k1 k2 k3 k4 k5 k6 ⊢
    subst k2
    refine tt_ifn (show ¬ nI (nf S) < i5 1001 7 by rw [(hC i5 k6).1.1, hw.1.f]; exact nI_nlt (Nat.le_refl _) (by omega)) ?_
    exact tt_some ⟨k3, k4, k6⟩
  · show wr i3 1614 5 (nI (mst S (cap0 S) (fre S))) 1614 5 = _
    rw [wr_s]
  · show wr i3 1614 5 (nI (mst S (cap0 S) (fre S))) b j = _
    rw [wr_a (by omega)]; exact hf3 b j hb
theorem fW.cq {i i' : MI} (h : fW i i') : CQ lw i i' := fun b j _ h2 => h b j (by unfold cqs at h2; omega)
theorem v_whose (hw : Wf S) (h : CV i 1001 S) (x : Int32) : Tt (f_Lc_whose i x) (CO [22] lw i (spWhose S x)) := by
  have h8 := hw.1.f8
  unfold f_Lc_whose spWhose
  by_cases hx : x = -1
  · rw [if_pos hx, if_pos hx, Option.bind_some]
    dsimp only
    refine tt_bind (v_planW hw h) ?_
    rintro i2 ⟨e1, e2, e3⟩
    rw [if_pos hx, e1]
    exact tt_some ⟨rfl, e3.cq⟩
  · rw [if_neg hx, if_neg hx, v_needFish hw.1 h]
    by_cases ho : okx x (nf S) = true
    · rw [if_pos ho, if_pos ho, Option.bind_some]
      dsimp only
      rw [Option.bind_some]
      dsimp only
      obtain ⟨f, hf, rfl⟩ := okx_of (by omega) ho
      refine tt_bind (v_planW hw h) ?_
      rintro i2 ⟨e1, e2, e3⟩
      rw [if_neg hx, grd_nI (show f < 8 by omega) (by decide), ix_nI (by omega), e2 f hf]
      exact tt_some ⟨rfl, e3.cq⟩
    · rw [if_neg ho, if_neg ho, Option.bind_some]
      dsimp only
      rw [Option.bind_some]
      exact tt_some ⟨rfl, CQ.refl _ _⟩
end WHOSEC
