/-! ===== whose: the reference ===== -/
section WHOSEM
variable {i : MI} {S : SS} {cap : Nat → Nat}
def mOK (S : SS) (cap : Nat → Nat) (i : MI) : Prop := ∀ d, d < nd S → i 1650 d = nI (cap d) ∧ cap d ≤ 99
theorem m_said (hw : Wf S) (h : MV i S) {d f : Nat} (hd : d < nd S) (hf : f < nf S) : ∃ a b, f_Mo_ofDead i (nI d) 0 = some a ∧ f_Mo_of i (nI f) 0 = some b ∧ f_Mo_has a b = some (if sd S d f = true then 1 else 0) := by
  have h8 := hw.1.f8
  have h6 := hw.1.d6
  obtain ⟨⟨mk, hmk, em⟩, -⟩ := hw.2.2.2.2.2.1 d hd
  obtain ⟨⟨k, hk, ek⟩, -⟩ := hw.2.2.1 f hf
  refine ⟨S 5 d 0, S 2 f 0, m_dead h (k := 0) (by omega) (by decide), m_of h (k := 0) (by omega) (by decide), ?_⟩
  unfold sd
  rw [em, ek, mo_hasm (by omega) (by omega), ix_nI (by omega), ix_nI (by omega)]
theorem m_canSay (hw : Wf S) (h : MV i S) (hi : mOK S cap i) {d T : Nat} (hd : d < nd S) (hT : T < 2 ^ nf S) : f_Mo_canSayAll i (nI d) (nI T) = some (if canB S cap d T = true then 1 else 0) := by
  have h8 := hw.1.f8
  have h6 := hw.1.d6
  have hp8 := pow_le8 h8
  obtain ⟨c1, c2⟩ := hi d hd
  have key : Tt (f_Mo_canSayAll i (nI d) (nI T)) (fun v => v = if canB S cap d T = true then 1 else 0) := by
    unfold f_Mo_canSayAll
    refine tt_bind (P1 := fun s => s.1 = nI (ssz S T (nf S)) ∧ ((s.2 = 1 ∧ ∀ f, f < nf S → T.testBit f = true → sd S d f = true) ∨ (s.2 = 0 ∧ ¬ ∀ f, f < nf S → T.testBit f = true → sd S d f = true)))
      (tt_loop (fun q (s : Int32 × Int32 × Int32) => s.1 = nI (ssz S T q) ∧ s.2.2 = nI q ∧ ((s.2.1 = 1 ∧ ∀ f, f < q → T.testBit f = true → sd S d f = true) ∨ (s.2.1 = 0 ∧ ¬ ∀ f, f < q → T.testBit f = true → sd S d f = true))) (nf S) (by omega) ?_ ?_ ⟨rfl, rfl, Or.inl ⟨rfl, fun f hf => by omega⟩⟩) ?_
    · rintro q hq ⟨x3, x4, x5⟩ ⟨e1, e2, e3⟩
      dsimp only at e1 e2 e3 ⊢
      subst e1 e2
      have o1 : f_Mo_of i (nI q) 1 = some (S 2 q 1) := m_of h (k := 1) (by omega) (by decide)
      obtain ⟨s1, -, -⟩ := sz_n hw hq
      obtain ⟨a, b, oa, ob, oh⟩ := m_said hw h hd hq
      have es : ssz S T (q + 1) = if T.testBit q = true then ssz S T q + (S 2 q 1).toNatClampNeg else ssz S T q := rfl
      rw [m_fishes h, hw.1.f, Option.bind_some, if_pos (nI_lt hq (by omega)), mo_hasm (by omega) (by omega), Option.bind_some]
      by_cases c : T.testBit q = true
      · rw [if_pos c] at es
        rw [if_pos c, if_neg (show ¬ (1 : Int32) = 0 by decide), o1, s1, oa, ob, Option.bind_some, Option.bind_some, Option.bind_some, oh, Option.bind_some, nI_add]
        refine tt_bind (P1 := fun s => s.1 = nI (ssz S T (q + 1)) ∧ ((s.2 = 1 ∧ ∀ f, f < q + 1 → T.testBit f = true → sd S d f = true) ∨ (s.2 = 0 ∧ ¬ ∀ f, f < q + 1 → T.testBit f = true → sd S d f = true))) ?_ (fun s hs => tt_some ⟨hs.1, nI_1 q, hs.2⟩)
        refine tt_bind (P1 := fun v => (v = 1 ∧ ∀ f, f < q + 1 → T.testBit f = true → sd S d f = true) ∨ (v = 0 ∧ ¬ ∀ f, f < q + 1 → T.testBit f = true → sd S d f = true)) ?_ (fun v hv => tt_some ⟨by rw [es], hv⟩)
        rcases e3 with ⟨rfl, e4⟩ | ⟨rfl, e4⟩
        · rw [if_neg (show ¬ (1 : Int32) = 0 by decide)]
          by_cases cs : sd S d q = true
          · rw [if_pos cs, if_neg (show ¬ (1 : Int32) = 0 by decide)]
            refine tt_some (Or.inl ⟨rfl, fun f hf hb => ?_⟩)
            by_cases e : f = q
            · subst e; exact cs
            · exact e4 f (by omega) hb
          · rw [if_neg cs, if_pos (show (0 : Int32) = 0 from rfl)]
            exact tt_some (Or.inr ⟨rfl, fun q2 => cs (q2 q (by omega) c)⟩)
        · rw [if_pos (show (0 : Int32) = 0 from rfl)]
          exact tt_some (Or.inr ⟨rfl, fun q2 => e4 (fun f hf hb => q2 f (by omega) hb)⟩)
      · rw [if_neg c] at es
        rw [if_neg c, if_pos (show (0 : Int32) = 0 from rfl), Option.bind_some]
        refine tt_some ⟨by rw [es], nI_1 q, ?_⟩
        rcases e3 with ⟨e3, e4⟩ | ⟨e3, e4⟩
        · refine Or.inl ⟨e3, fun f hf hb => ?_⟩
          by_cases e : f = q
          · subst e; exact absurd hb c
          · exact e4 f (by omega) hb
        · exact Or.inr ⟨e3, fun q2 => e4 (fun f hf hb => q2 f (by omega) hb)⟩
    · rintro ⟨x3, x4, x5⟩ ⟨e1, e2, e3⟩
      dsimp only at e1 e2 e3 ⊢
      subst e1 e2
      rw [m_fishes h, hw.1.f, Option.bind_some, if_neg (nI_nlt (Nat.le_refl _) (by omega))]
      exact tt_some ⟨rfl, e3⟩
    · rintro ⟨x3, x4⟩ ⟨e1, e2⟩
      dsimp only at e1 e2 ⊢
      subst e1
      have hsz := ssz_72 hw T
      rcases e2 with ⟨rfl, e3⟩ | ⟨rfl, e3⟩
      · rw [if_neg (show ¬ (1 : Int32) = 0 by decide), grd_nI (show d < 6 by omega) (by decide), ix_nI (by omega), c1]
        by_cases cc : cap d < ssz S T (nf S)
        · rw [if_pos (nI_lt cc (by omega)), if_neg (fun q => by have := (canB_iff.mp q).2; omega)]
          exact tt_some rfl
        · rw [if_neg (nI_nlt (by omega) (by omega)), if_pos (canB_iff.mpr ⟨fun f hf => e3 f (bit_nf hT hf) hf, by omega⟩)]
          exact tt_some rfl
      · rw [if_pos (show (0 : Int32) = 0 from rfl), if_neg (fun q => e3 (fun f _ hb => (canB_iff.mp q).1 f hb))]
        exact tt_some rfl
  obtain ⟨v, h1, rfl⟩ := key
  exact h1
theorem mo_putAt {d : Nat} (hd : d < 7) (m : Nat) : f_Mo_putAt (nI d) (nI m) = some (nI (256 * d + m)) := by
  unfold f_Mo_putAt
  rw [(by decide +kernel : ∀ b, b < 7 → shl (nI b) 8 = nI (256 * b)) d hd, nI_add]
def rT (S : SS) (cap : Nat → Nat) (X : Nat) (i : MI) (k : Nat) : Prop := ∀ k', k' ≤ k → ∀ y, sbs y X → i 1649 (256 * (nd S - k') + y) = nI (rb S cap k' y)
theorem m_mostOf (hw : Wf S) (h : MV i S) (hi : mOK S cap i) {X : Nat} (hX : X < 2 ^ nf S) : Tt (f_Mo_mostOf i (nI X)) (fun y => y.1 = nI (mst S cap X) ∧ ∀ b j, b ≠ 1649 → y.2 b j = i b j) := by
  have h8 := hw.1.f8
  have h6 := hw.1.d6
  have hp8 := pow_le8 h8
  have hM : ∀ i' : MI, (∀ b j, b ≠ 1649 → i' b j = i b j) → MV i' S := fun i' he => h.congr (fun k => he 1639 k (by decide))
  have hO : ∀ i' : MI, (∀ b j, b ≠ 1649 → i' b j = i b j) → mOK S cap i' := fun i' he d hd => by rw [he _ _ (by decide)]; exact hi d hd
  unfold f_Mo_mostOf
  refine tt_bind (P1 := fun i' => rT S cap X i' 0 ∧ ∀ b j, b ≠ 1649 → i' b j = i b j)
    (tt_loop (fun q (s : Int32 × MI) => s.1 = nI q ∧ (∀ y, y < q → s.2 1649 (256 * nd S + y) = 0) ∧ ∀ b j, b ≠ 1649 → s.2 b j = i b j) (X + 1) (by omega) ?_ ?_ ⟨rfl, fun y hy => by omega, fun _ _ _ => rfl⟩) ?_
  · rintro q hq ⟨z, i2⟩ ⟨e1, e2, e3⟩
    dsimp only at e1 e2 e3 ⊢
    subst e1
    rw [if_neg (nI_nlt (by omega) (by omega)), m_deadOnes (hM i2 e3), hw.1.d, Option.bind_some, mo_putAt (by omega), Option.bind_some, grd_nI (show 256 * nd S + q < 1792 by omega) (by decide), ix_nI (by omega)]
    refine tt_bnd (tt_some ⟨nI_1 q, fun y hy => ?_, fun b j hb => ?_⟩)
    · show wr i2 1649 (256 * nd S + q) 0 1649 (256 * nd S + y) = 0
      by_cases e : y = q
      · subst e; rw [wr_s]
      · rw [wr_k (by omega)]; exact e2 y (by omega)
    · show wr i2 1649 (256 * nd S + q) 0 b j = _
      rw [wr_a hb]; exact e3 b j hb
  · rintro ⟨z, i2⟩ ⟨e1, e2, e3⟩
    dsimp only at e1 e2 e3 ⊢
    subst e1
    rw [if_pos (nI_lt (by omega) (by omega))]
    refine tt_some ⟨fun k' hk' y hs => ?_, e3⟩
    rw [show k' = 0 by omega, Nat.sub_zero]
    exact e2 y (by have := sbs_le hs; omega)
  rintro i1 ⟨a1, a2⟩
  rw [m_deadOnes (hM i1 a2), hw.1.d, Option.bind_some]
  refine tt_bind (P1 := fun i' => rT S cap X i' (nd S) ∧ ∀ b j, b ≠ 1649 → i' b j = i b j)
    (tt_loop (fun q (s : Int32 × MI) => s.1 = nI (nd S - q) - 1 ∧ rT S cap X s.2 q ∧ ∀ b j, b ≠ 1649 → s.2 b j = i b j) (nd S) (by omega) ?_ ?_ ⟨rfl, a1, a2⟩) ?_
  · rintro q hq ⟨z, i2⟩ ⟨e1, e2, e3⟩
    dsimp only at e1 e2 e3 ⊢
    have ez : z = nI (nd S - (q + 1)) := by rw [e1, show nd S - q = (nd S - (q + 1)) + 1 by omega, nI_pred]
    subst ez
    rw [if_neg (nI_pos (by omega))]
    refine tt_bind (P1 := fun i' => rT S cap X i' (q + 1) ∧ ∀ b j, b ≠ 1649 → i' b j = i b j)
      (tt_loop (fun m (s : Int32 × MI) => s.1 = nI m ∧ (∀ y, y < m → sbs y X → s.2 1649 (256 * (nd S - (q + 1)) + y) = nI (rb S cap (q + 1) y)) ∧ rT S cap X s.2 q ∧ ∀ b j, b ≠ 1649 → s.2 b j = i b j) (X + 1) (by omega) ?_ ?_ ⟨rfl, fun y hy => by omega, e2, e3⟩) ?_
    · rintro m hm ⟨z, i3⟩ ⟨g1, g2, g3, g4⟩
      dsimp only at g1 g2 g3 g4 ⊢
      subst g1
      have hm8 : m < 256 := by omega
      rw [if_neg (nI_nlt (by omega) (by omega)), dif_nI hm8]
      by_cases c : sbs m X
      · rw [if_pos (show nI (dif m X) = 0 by rw [(dif_z hm8).mpr c]; rfl)]
        have hcand : ∀ T, sbs T m → bcn T + rb S cap q (dif m T) ≤ 16 := fun T hT => by
          have h1 := (bc_n T (Nat.lt_of_le_of_lt (sbs_le hT) hm8)).2
          have h2 := rb_le8 (S := S) (cap := cap) (show q ≤ nd S by omega) (dif_lt m T)
          omega
        refine tt_bind (P1 := fun i' => i' = wr i3 1649 (256 * (nd S - (q + 1)) + m) (nI (rb S cap (q + 1) m))) ?_ ?_
        · refine tt_bind (P1 := fun v => v = nI (rb S cap (q + 1) m))
            (tt_loopm (fun (s : Int32 × Int32) => ∃ v, s.1 = nI v ∧ v ≤ 16 ∧ (v = 0 ∨ ∃ T, sbs T m ∧ can S cap (nd S - (q + 1)) T ∧ v = bcn T + rb S cap q (dif m T)) ∧ ((∃ x, s.2 = nI x ∧ sbs x m ∧ ∀ T, sbs T m → x < T → can S cap (nd S - (q + 1)) T → bcn T + rb S cap q (dif m T) ≤ v) ∨ (s.2 = -1 ∧ ∀ T, sbs T m → can S cap (nd S - (q + 1)) T → bcn T + rb S cap q (dif m T) ≤ v))) (fun s => if s.2 = -1 then 0 else ix s.2 + 1) ?_ 1000000 _ ?_ ⟨0, rfl, by omega, Or.inl rfl, Or.inl ⟨m, rfl, fun _ h => h, fun T hT hlt => by have := sbs_le hT; omega⟩⟩) ?_
          · rintro ⟨x4, x5⟩ ⟨v, u1, u2, u3, u4⟩
            dsimp only at u1 u2 u3 u4 ⊢
            subst u1
            rcases u4 with ⟨x, rfl, x2, x3⟩ | ⟨rfl, x3⟩
            · have hxl := sbs_le x2
              have hnl : (x - 1) &&& m ≤ x - 1 := Nat.and_le_left
              rw [if_neg (nI_pos (by omega)), m_canSay hw (hM i3 g4) (hO i3 g4) (by omega) (by omega), Option.bind_some]
              have hgo : ∀ v', v' ≤ 16 → v ≤ v' → (can S cap (nd S - (q + 1)) x → bcn x + rb S cap q (dif m x) ≤ v') → (v' = 0 ∨ ∃ T, sbs T m ∧ can S cap (nd S - (q + 1)) T ∧ v' = bcn T + rb S cap q (dif m T)) → Tt ((if nI x = 0 then some (-1 : Int32) else some (nI x - 1 &&& nI m)).bind (fun y => some (Sum.inl (nI v', y)) : Int32 → Option ((Int32 × Int32) ⊕ Int32))) (lpP (fun s' => (∃ v, s'.1 = nI v ∧ v ≤ 16 ∧ (v = 0 ∨ ∃ T, sbs T m ∧ can S cap (nd S - (q + 1)) T ∧ v = bcn T + rb S cap q (dif m T)) ∧ ((∃ x, s'.2 = nI x ∧ sbs x m ∧ ∀ T, sbs T m → x < T → can S cap (nd S - (q + 1)) T → bcn T + rb S cap q (dif m T) ≤ v) ∨ (s'.2 = -1 ∧ ∀ T, sbs T m → can S cap (nd S - (q + 1)) T → bcn T + rb S cap q (dif m T) ≤ v))) ∧ (if s'.2 = -1 then 0 else ix s'.2 + 1) < (if nI x = -1 then 0 else ix (nI x) + 1)) (fun v => v = nI (rb S cap (q + 1) m))) := fun v' h1 h2 h3 h4 => by
                have hall : ∀ T, sbs T m → x ≤ T → can S cap (nd S - (q + 1)) T → bcn T + rb S cap q (dif m T) ≤ v' := fun T hT hle hc => by
                  by_cases e : T = x
                  · subst e; exact h3 hc
                  · exact Nat.le_trans (x3 T hT (by omega) hc) h2
                by_cases h0 : x = 0
                · subst h0
                  rw [if_pos (show nI 0 = 0 from rfl), Option.bind_some]
                  refine tt_some ⟨⟨v', rfl, h1, h4, Or.inr ⟨rfl, fun T hT hc => hall T hT (Nat.zero_le T) hc⟩⟩, ?_⟩
                  show (if (-1 : Int32) = -1 then 0 else ix (-1) + 1) < _
                  rw [if_pos rfl, if_neg (nI_m1 (by omega))]; omega
                · rw [if_neg (fun q => h0 ((nI_z (by omega)).mp q)), Option.bind_some, nI_m1' (by omega), and_nI]
                  refine tt_some ⟨⟨v', rfl, h1, h4, Or.inl ⟨(x - 1) &&& m, rfl, sbs_nx, fun T hT hlt hc => ?_⟩⟩, ?_⟩
                  · refine hall T hT ?_ hc
                    rcases Nat.lt_or_ge T x with q2 | q2
                    · have := nx_max 8 x T m (by omega) (sbs_and.mp x2) (sbs_and.mp hT) q2
                      omega
                    · exact q2
                  · show (if nI ((x - 1) &&& m) = -1 then 0 else ix (nI ((x - 1) &&& m)) + 1) < _
                    rw [if_neg (nI_m1 (by omega)), if_neg (nI_m1 (by omega)), ix_nI (by omega), ix_nI (by omega)]; omega
              by_cases cb : canB S cap (nd S - (q + 1)) x = true
              · obtain ⟨hbc, hbc8⟩ := bc_n x (by omega)
                have hcx := hcand x x2
                rw [if_pos cb, if_neg (show ¬ (1 : Int32) = 0 by decide), j_bc, Option.bind_some, dif_nI hm8, nI_1, mo_putAt (by omega), Option.bind_some, grd_nI (show 256 * (nd S - (q + 1) + 1) + dif m x < 1792 by have := dif_lt m x; omega) (by decide), ix_nI (by have := dif_lt m x; omega)]
                have ht := g3 q (Nat.le_refl q) (dif m x) (sbs_tr (sbs_dif m x) c)
                rw [show nd S - q = nd S - (q + 1) + 1 by omega] at ht
                rw [ht, hbc, nI_add, j_max, Option.bind_some, jmax_nI (by omega) (by omega), Option.bind_some]
                refine hgo (max v (bcn x + rb S cap q (dif m x))) (Nat.max_le.mpr ⟨u2, hcx⟩) (Nat.le_max_left _ _) (fun _ => Nat.le_max_right _ _) ?_
                rcases Nat.le_total v (bcn x + rb S cap q (dif m x)) with q2 | q2
                · rw [Nat.max_eq_right q2]; exact Or.inr ⟨x, x2, canB_iff.mp cb, rfl⟩
                · rw [Nat.max_eq_left q2]; exact u3
              · rw [if_neg cb, if_pos (show (0 : Int32) = 0 from rfl), Option.bind_some]
                exact hgo v u2 (Nat.le_refl v) (fun q2 => absurd (canB_iff.mpr q2) cb) u3
            · rw [if_pos (show (-1 : Int32) < 0 by decide)]
              refine tt_some ?_
              show nI v = nI (rb S cap (q + 1) m)
              congr 1
              rw [rb_s]
              refine Nat.le_antisymm ?_ ?_
              · rcases u3 with q2 | ⟨T, t1, t2, t3⟩
                · omega
                · rw [t3]
                  exact mxN_ge (p := fun T => decide (T &&& m = T) && canB S cap (nd S - (q + 1)) T) (v := fun T => bcn T + rb S cap q (dif m T)) 256 T (Nat.lt_of_le_of_lt (sbs_le t1) hm8) (by rw [decide_eq_true (sbs_and.mp t1), canB_iff.mpr t2]; rfl)
              · refine mxN_le (Nat.zero_le _) 256 (fun T hT hp => ?_)
                simp only [Bool.and_eq_true, decide_eq_true_eq] at hp
                exact x3 T (sbs_and.mpr hp.1) (canB_iff.mp hp.2)
          · show (if nI m = -1 then 0 else ix (nI m) + 1) < 1000000
            rw [if_neg (nI_m1 (by omega)), ix_nI (by omega)]; omega
          · rintro v rfl
            rw [mo_putAt (by omega), Option.bind_some, grd_nI (show 256 * (nd S - (q + 1)) + m < 1792 by omega) (by decide), ix_nI (by omega)]
            exact tt_bnd (tt_some rfl)
        · rintro _ rfl
          refine tt_some ⟨nI_1 m, fun y hy hs => ?_, fun k' hk' y hs => ?_, fun b j hb => ?_⟩
          · show wr i3 1649 (256 * (nd S - (q + 1)) + m) (nI (rb S cap (q + 1) m)) 1649 (256 * (nd S - (q + 1)) + y) = _
            by_cases e : y = m
            · subst e; rw [wr_s]
            · rw [wr_k (by omega)]; exact g2 y (by omega) hs
          · show wr i3 1649 (256 * (nd S - (q + 1)) + m) (nI (rb S cap (q + 1) m)) 1649 (256 * (nd S - k') + y) = _
            have := sbs_le hs
            rw [wr_k (by omega)]; exact g3 k' hk' y hs
          · show wr i3 1649 (256 * (nd S - (q + 1)) + m) (nI (rb S cap (q + 1) m)) b j = _
            rw [wr_a hb]; exact g4 b j hb
      · rw [if_neg (show ¬ nI (dif m X) = 0 from fun e => c ((dif_z hm8).mp ((nI_z (by have := dif_lt m X; omega)).mp e))), Option.bind_some]
        refine tt_some ⟨nI_1 m, fun y hy hs => ?_, g3, g4⟩
        by_cases e : y = m
        · rw [e] at hs; exact absurd hs c
        · exact g2 y (by omega) hs
    · rintro ⟨z, i3⟩ ⟨g1, g2, g3, g4⟩
      dsimp only at g1 g2 g3 g4 ⊢
      subst g1
      rw [if_pos (nI_lt (by omega) (by omega))]
      refine tt_some ⟨fun k' hk' y hs => ?_, g4⟩
      by_cases e : k' = q + 1
      · subst e; exact g2 y (by have := sbs_le hs; omega) hs
      · exact g3 k' (by omega) y hs
    · rintro i3 ⟨g1, g2⟩
      refine tt_some ⟨?_, g1, g2⟩
      show nI (nd S - (q + 1)) + (-1 : Int32) = nI (nd S - (q + 1)) - 1
      rw [addm]
  · rintro ⟨z, i2⟩ ⟨e1, e2, e3⟩
    dsimp only at e1 e2 e3 ⊢
    subst e1
    rw [if_pos ((dn_neg2 (by omega)).mpr (by omega))]
    exact tt_some ⟨e2, e3⟩
  · rintro i2 ⟨e2, e3⟩
    rw [show (0 : Int32) = nI 0 from rfl, mo_putAt (by omega), Option.bind_some, grd_nI (show 256 * 0 + X < 1792 by omega) (by decide), ix_nI (by omega)]
    have := e2 (nd S) (Nat.le_refl _) X (fun _ h => h)
    rw [Nat.sub_self] at this
    rw [this]
    exact tt_some ⟨rfl, e3⟩
end WHOSEM
