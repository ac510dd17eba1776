/-! ===== haul, first: the reference ===== -/
section HAULM
variable {i : MI} {S : SS}
theorem ssz_step {b d c m q : Nat} (hq : q < 8) : (((cu S b d c m q).testBit q = false ∧ dfl S d q = nI c ∧ 0 < hrm S b - bc (cu S b d c m q)) ∧ cu S b d c m (q + 1) = setb (cu S b d c m q) q ∧ ssz S (dif (cu S b d c m (q + 1)) m) (q + 1) = ssz S (dif (cu S b d c m q) m) q + (S 2 q 1).toNatClampNeg) ∨ (¬ ((cu S b d c m q).testBit q = false ∧ dfl S d q = nI c ∧ 0 < hrm S b - bc (cu S b d c m q)) ∧ cu S b d c m (q + 1) = cu S b d c m q ∧ ssz S (dif (cu S b d c m (q + 1)) m) (q + 1) = ssz S (dif (cu S b d c m q) m) q) := by
  have e : cu S b d c m (q + 1) = ck S b d c q (cu S b d c m q) := rfl
  have es : ∀ T, ssz S T (q + 1) = if T.testBit q = true then ssz S T q + (S 2 q 1).toNatClampNeg else ssz S T q := fun _ => rfl
  have ht := (cu_t (S := S) (b := b) (d := d) (c := c) (m := m) q).1 q (Nat.le_refl q)
  by_cases c1 : (cu S b d c m q).testBit q = false ∧ dfl S d q = nI c ∧ 0 < hrm S b - bc (cu S b d c m q)
  · have e2 : cu S b d c m (q + 1) = setb (cu S b d c m q) q := by rw [e]; exact if_pos c1
    refine Or.inl ⟨c1, e2, ?_⟩
    have hmq : m.testBit q = false := by rw [← ht]; exact c1.1
    rw [e2, dif_setb hq hmq, es, if_pos (by rw [setb_t, decide_eq_true rfl, Bool.or_true]), ssz_congr (T := setb (dif (cu S b d c m q) m) q) (T' := dif (cu S b d c m q) m) q (fun f hf => by rw [setb_t, decide_eq_false (by omega : ¬ q = f), Bool.or_false])]
  · have e2 : cu S b d c m (q + 1) = cu S b d c m q := by rw [e]; exact if_neg c1
    refine Or.inr ⟨c1, e2, ?_⟩
    rw [e2, es, if_neg]
    rw [dif_t, ht]
    cases m.testBit q
    · rw [Bool.false_and, Bool.and_false]; decide
    · rw [Bool.not_true, Bool.and_false, Bool.and_false]; decide
theorem mo_ways {n : Nat} (hn : n ≤ 5) : f_Mo_waysOf (nI n) = some (nI (5 ^ n)) := by
  have key : Tt (f_Mo_waysOf (nI n)) (fun v => v = nI (5 ^ n)) := by
    unfold f_Mo_waysOf
    refine tt_bind (P1 := fun v => v = nI (5 ^ n)) (tt_loop (fun j (s : Int32 × Int32) => s = (nI (5 ^ j), nI j)) n (by omega) ?_ ?_ rfl) (fun v hv => tt_some hv)
    · rintro j hj _ rfl
      dsimp only
      rw [if_pos (nI_lt hj (by omega)), lit_nI 5, mul_nI]
      exact tt_some (by dsimp only [lpP]; rw [nI_1, Nat.pow_succ])
    · rintro _ rfl
      dsimp only
      rw [if_neg (nI_nlt (Nat.le_refl _) (by omega))]
      exact tt_some rfl
  obtain ⟨v, h1, rfl⟩ := key
  exact h1
def dT (S : SS) (n : Nat) (i : MI) : Prop := ∀ d, d ≤ n → ∀ f, f < nf S → i 1648 (8 * d + f) = dfl S d f
theorem m_dfl (hw : Wf S) (h : MV i S) {f : Nat} (hf : f < nf S) (d : Nat) : Tt (if dfl S d f = -1 then some (-1 : Int32) else (f_Mo_driftOf i (dfl S d f)).bind (fun v => some v)) (fun v => v = dfl S (d + 1) f) := by
  rcases dfl_c hw hf d with ⟨e1, e2⟩ | ⟨c, hc, e1, e2⟩
  · rw [e1, e2, if_pos rfl]; exact tt_some rfl
  · rw [e1, e2, if_neg (nI_m1 (by omega)), m_drift h hc]; exact tt_some rfl
theorem m_laysDrifts (hw : Wf S) (h : MV i S) {n : Nat} (hn : n ≤ 5) : Tt (f_Mo_laysDrifts i (nI n)) (fun i' => dT S n i' ∧ ∀ b j, b ≠ 1648 → i' b j = i b j) := by
  have h8 := hw.1.f8
  have hM : ∀ i' : MI, (∀ b j, b ≠ 1648 → i' b j = i b j) → MV i' S := fun i' he => h.congr (fun k => he 1639 k (by decide))
  unfold f_Mo_laysDrifts
  refine tt_bind (P1 := fun i' => dT S n i' ∧ ∀ b j, b ≠ 1648 → i' b j = i b j)
    (tt_loop (fun q (s : Int32 × MI) => s.1 = nI q ∧ (∀ d, d ≤ n → ∀ f, f < q → s.2 1648 (8 * d + f) = dfl S d f) ∧ ∀ b j, b ≠ 1648 → s.2 b j = i b j) (nf S) (by omega) ?_ ?_ ⟨rfl, fun d hd f hf => by omega, fun _ _ _ => rfl⟩) (fun i' hi => tt_some hi)
  · rintro q hq ⟨z, i2⟩ ⟨e1, e2, e3⟩
    dsimp only at e1 e2 e3 ⊢
    subst e1
    have o3 : f_Mo_of i2 (nI q) 3 = some (S 2 q 3) := m_of (hM i2 e3) (k := 3) (by omega) (by decide)
    have o4 : f_Mo_of i2 (nI q) 4 = some (S 2 q 4) := m_of (hM i2 e3) (k := 4) (by omega) (by decide)
    rw [m_fishes (hM i2 e3), hw.1.f, Option.bind_some, if_pos (nI_lt hq (by omega)), o3, o4, Option.bind_some]
    refine tt_bind (P1 := fun v => v = dfl S 0 q) ?_ ?_
    · unfold dfl
      by_cases c : S 2 q 3 = 0
      · rw [if_pos c, if_pos c]; exact tt_some rfl
      · rw [if_neg c, if_neg c]; exact tt_some rfl
    · rintro v rfl
      refine tt_bind (P1 := fun i' => (∀ d, d ≤ n → i' 1648 (8 * d + q) = dfl S d q) ∧ ∀ b j, ¬ (b = 1648 ∧ j % 8 = q) → i' b j = i2 b j)
        (tt_loop (fun p (s : Int32 × Int32 × MI) => s.1 = dfl S p q ∧ s.2.1 = nI p ∧ (∀ d, d < p → s.2.2 1648 (8 * d + q) = dfl S d q) ∧ ∀ b j, ¬ (b = 1648 ∧ j % 8 = q) → s.2.2 b j = i2 b j) (n + 1) (by omega) ?_ ?_ ⟨rfl, rfl, fun d hd => by omega, fun _ _ _ => rfl⟩) ?_
      · rintro p hp ⟨x3, x4, i3⟩ ⟨u1, u2, u3, u4⟩
        dsimp only at u1 u2 u3 u4 ⊢
        subst u1 u2
        rw [if_neg (nI_nlt (by omega) (by omega)), lit_nI 8, mul_nI, nI_add, grd_nI (show 8 * p + q < 48 by omega) (by decide), ix_nI (by omega)]
        refine tt_bnd ?_
        have hM3 : MV (wr i3 1648 (8 * p + q) (dfl S p q)) S := hM _ (fun b j hb => by rw [wr_a hb, u4 b j (fun q => hb q.1)]; exact e3 b j hb)
        refine tt_bind (m_dfl hw hM3 hq p) ?_
        rintro v rfl
        refine tt_some ⟨rfl, nI_1 p, fun d hd => ?_, fun b j hb => ?_⟩
        · show wr i3 1648 (8 * p + q) (dfl S p q) 1648 (8 * d + q) = _
          by_cases e : d = p
          · subst e; rw [wr_s]
          · rw [wr_k (by omega)]; exact u3 d (by omega)
        · show wr i3 1648 (8 * p + q) (dfl S p q) b j = _
          have : wr i3 1648 (8 * p + q) (dfl S p q) b j = i3 b j := if_neg (fun q2 => hb ⟨q2.1, by omega⟩)
          rw [this]; exact u4 b j hb
      · rintro ⟨x3, x4, i3⟩ ⟨u1, u2, u3, u4⟩
        dsimp only at u1 u2 u3 u4 ⊢
        subst u1 u2
        rw [if_pos (nI_lt (by omega) (by omega))]
        exact tt_some ⟨fun d hd => u3 d (by omega), u4⟩
      · rintro i3 ⟨u3, u4⟩
        refine tt_some ⟨nI_1 q, fun d hd f hf => ?_, fun b j hb => ?_⟩
        · show i3 1648 (8 * d + f) = _
          by_cases e : f = q
          · subst e; exact u3 d hd
          · rw [u4 _ _ (by omega)]; exact e2 d hd f (by omega)
        · show i3 b j = _
          rw [u4 b j (fun q => hb q.1)]; exact e3 b j hb
  · rintro ⟨z, i2⟩ ⟨e1, e2, e3⟩
    dsimp only at e1 e2 e3 ⊢
    subst e1
    rw [m_fishes (hM i2 e3), hw.1.f, Option.bind_some, if_neg (nI_nlt (Nat.le_refl _) (by omega))]
    exact tt_some ⟨e2, e3⟩
theorem m_hauledBy (hw : Wf S) (h : MV i S) {b n w c0 : Nat} (hb : b < nb S) (hn : n ≤ 5) (hww : w < 5 ^ n) (ec0 : S 3 b 0 = nI c0) (hc0 : c0 < 25) (hT : dT S n i) : f_Mo_hauledBy i (nI b) (nI w) (nI n) = some (pm (hway S b n 0 c0 0 w)) := by
  have h8 := hw.1.f8
  have hb3 := hw.1.b3
  have hp8 := pow_le8 h8
  have hpp := Nat.two_pow_pos (nf S)
  have h55 : 5 ^ n ≤ 3125 := Nat.pow_le_pow_right (n := 5) (by decide) hn
  have key : Tt (f_Mo_hauledBy i (nI b) (nI w) (nI n)) (fun v => v = pm (hway S b n 0 c0 0 w)) := by
    have b0 : f_Mo_ofBoat i (nI b) 0 = some (S 3 b 0) := m_boat h (k := 0) (by omega) (by decide)
    have b2 : f_Mo_ofBoat i (nI b) 2 = some (S 3 b 2) := m_boat h (k := 2) (by omega) (by decide)
    unfold f_Mo_hauledBy
    rw [b0, b2, ec0, Option.bind_some, Option.bind_some, m_aboard hw.1 h, Option.bind_some, j_bc, Option.bind_some]
    refine tt_bind (P1 := fun v => v = nI (5 ^ (n - 1)))
      (tt_loop (fun j (s : Int32 × Int32) => s = (nI (5 ^ j), nI (j + 1))) (n - 1) (by omega) ?_ ?_ rfl) ?_
    · rintro j hj _ rfl
      dsimp only
      rw [if_pos (nI_lt (by omega) (by omega)), lit_nI 5, mul_nI]
      exact tt_some (by dsimp only [lpP]; rw [nI_1, Nat.pow_succ])
    · rintro _ rfl
      dsimp only
      rw [if_neg (nI_nlt (by omega) (by omega))]
      exact tt_some rfl
    rintro v rfl
    refine tt_loop (fun j (s : Int32 × Int32 × Int32 × Int32 × Int32 × Int32) => s.2.2.2.2.2 = nI (j + 1) ∧ s.2.2.2.2.1 = nI (5 ^ (n - 1 - j)) ∧ ∃ c m tot, c < 25 ∧ m < 2 ^ nf S ∧ s.1 = nI c ∧ s.2.1 = hrm S b - bc m ∧ s.2.2.1 = nI m ∧ s.2.2.2.1 = nI tot ∧ hway S b n 0 c0 0 w = (if hway S b (n - j) j c m (w % 5 ^ (n - j)) = 0 then 0 else hway S b (n - j) j c m (w % 5 ^ (n - j)) + tot)) n (by omega) ?_ ?_ ?_
    · rintro j hj ⟨x4, x5, x6, x7, x8, x9⟩ ⟨g1, g2, c, m, tot, hc, hm, g3, g4, g5, g6, g7⟩
      dsimp only at g1 g2 g3 g4 g5 g6 g7 ⊢
      subst g1 g2 g3 g4 g5 g6
      generalize ek : n - 1 - j = k at *
      have enj : n - j = k + 1 := by omega
      rw [enj] at g7
      have h5k := Nat.pow_pos (a := 5) (n := k) (by decide)
      have hk5 : 5 ^ k ≤ 3125 := Nat.le_trans (Nat.pow_le_pow_right (n := 5) (by decide) (by omega : k ≤ n)) h55
      have hv5 : w / 5 ^ k % 5 < 5 := Nat.mod_lt _ (by decide)
      have hwk : w / 5 ^ k ≤ w := Nat.div_le_self _ _
      obtain ⟨go1, go2⟩ := hgo_lt c hc (w / 5 ^ k % 5) hv5
      have m1 : w % 5 ^ (k + 1) / 5 ^ k = w / 5 ^ k % 5 := by rw [Nat.pow_succ]; exact Nat.mod_mul_right_div_self w (5 ^ k) 5
      have m2 : w % 5 ^ (k + 1) % 5 ^ k = w % 5 ^ k := Nat.mod_mod_of_dvd w (Nat.pow_dvd_pow 5 (Nat.le_succ k))
      rw [hway_s, m1, m2] at g7
      have e8 : jmax 1 (nI (5 ^ k) / 5) = nI (5 ^ (n - 1 - (j + 1))) := by
        rw [lit_nI 5, pk_div (by omega) (by decide) (by decide), lit_nI 1, jmax_nI (by omega) (by omega)]
        cases k with
        | zero => rw [show n - 1 - (j + 1) = 0 by omega]; rfl
        | succ k' =>
          have h5k' := Nat.pow_pos (a := 5) (n := k') (by decide)
          rw [show n - 1 - (j + 1) = k' by omega, Nat.pow_succ, Nat.mul_div_cancel _ (by decide), Nat.max_eq_right (by omega)]
      have hnext : ∀ y5 y6 y7, y5 = hrm S b - bc (cu S b (j + 1) (hgo c (w / 5 ^ k % 5)) m (nf S)) → y6 = nI (cu S b (j + 1) (hgo c (w / 5 ^ k % 5)) m (nf S)) → y7 = nI (tot + ssz S (dif (cu S b (j + 1) (hgo c (w / 5 ^ k % 5)) m (nf S)) m) (nf S)) → ¬ hbad c (w / 5 ^ k % 5) = true → Tt (some (Sum.inl (nI (hgo c (w / 5 ^ k % 5)), y5, y6, y7, nI (5 ^ (n - 1 - (j + 1))), nI (j + 1) + 1)) : Option ((Int32 × Int32 × Int32 × Int32 × Int32 × Int32) ⊕ Int32)) (lpP (fun (s : Int32 × Int32 × Int32 × Int32 × Int32 × Int32) => s.2.2.2.2.2 = nI (j + 1 + 1) ∧ s.2.2.2.2.1 = nI (5 ^ (n - 1 - (j + 1))) ∧ ∃ c m tot, c < 25 ∧ m < 2 ^ nf S ∧ s.1 = nI c ∧ s.2.1 = hrm S b - bc m ∧ s.2.2.1 = nI m ∧ s.2.2.2.1 = nI tot ∧ hway S b n 0 c0 0 w = (if hway S b (n - (j + 1)) (j + 1) c m (w % 5 ^ (n - (j + 1))) = 0 then 0 else hway S b (n - (j + 1)) (j + 1) c m (w % 5 ^ (n - (j + 1))) + tot)) (fun v => v = pm (hway S b n 0 c0 0 w))) := by
        intro y5 y6 y7 t1 t2 t3 t4
        refine tt_some ⟨nI_1 (j + 1), rfl, hgo c (w / 5 ^ k % 5), cu S b (j + 1) (hgo c (w / 5 ^ k % 5)) m (nf S), tot + ssz S (dif (cu S b (j + 1) (hgo c (w / 5 ^ k % 5)) m (nf S)) m) (nf S), go1, cu_lt hw.1 hm (nf S) (Nat.le_refl _), rfl, t1, t2, t3, ?_⟩
        rw [show n - (j + 1) = k by omega, g7, if_neg t4]
        generalize hway S b k (j + 1) (hgo c (w / 5 ^ k % 5)) (cu S b (j + 1) (hgo c (w / 5 ^ k % 5)) m (nf S)) (w % 5 ^ k) = y
        by_cases cy : y = 0
        · rw [if_pos cy, if_pos rfl, if_pos cy]
        · rw [if_neg cy, if_neg (by omega), if_neg cy]; omega
      rw [if_neg (nI_nlt (by omega) (by omega))]
      refine tt_grd2 (decide_eq_true (fun q => by have := (nI_z (by omega)).mp q; omega)) ?_
      rw [pk_div (by omega) h5k (by omega), j_max, e8, Option.bind_some]
      have erm : rm (nI (w / 5 ^ k)) 5 = nI (w / 5 ^ k % 5) := by rw [lit_nI 5, rm_nI (by omega) (by decide) (by decide)]
      rw [erm, mo_beside, go2, Option.bind_some]
      by_cases c4 : w / 5 ^ k % 5 = 4
      · rw [if_pos (show nI (w / 5 ^ k % 5) = 4 by rw [c4]; rfl)]
        refine tt_bind (P1 := fun (s : Int32 × Int32 × Int32) => s.1 = hrm S b - bc (cu S b (j + 1) (hgo c (w / 5 ^ k % 5)) m (nf S)) ∧ s.2.1 = nI (cu S b (j + 1) (hgo c (w / 5 ^ k % 5)) m (nf S)) ∧ s.2.2 = nI (tot + ssz S (dif (cu S b (j + 1) (hgo c (w / 5 ^ k % 5)) m (nf S)) m) (nf S)))
          (tt_loop (fun q (s : Int32 × Int32 × Int32 × Int32) => s.1 = hrm S b - bc (cu S b (j + 1) (hgo c (w / 5 ^ k % 5)) m q) ∧ s.2.1 = nI (cu S b (j + 1) (hgo c (w / 5 ^ k % 5)) m q) ∧ s.2.2.1 = nI (tot + ssz S (dif (cu S b (j + 1) (hgo c (w / 5 ^ k % 5)) m q) m) q) ∧ s.2.2.2 = nI q) (nf S) (by omega) ?_ ?_ ⟨rfl, rfl, by show nI tot = nI (tot + 0); rfl, rfl⟩) ?_
        · rintro q hq ⟨y5, y6, y7, y12⟩ ⟨u1, u2, u3, u4⟩
          dsimp only at u1 u2 u3 u4 ⊢
          subst u1 u2 u3 u4
          have hul := cu_lt hw.1 (b := b) (d := j + 1) (c := hgo c (w / 5 ^ k % 5)) hm q (by omega)
          have hss := ssz_step (S := S) (b := b) (d := j + 1) (c := hgo c (w / 5 ^ k % 5)) (m := m) (q := q) (by omega)
          have o1 : f_Mo_of i (nI q) 1 = some (S 2 q 1) := m_of h (k := 1) (by omega) (by decide)
          obtain ⟨s1, -, -⟩ := sz_n hw hq
          rw [m_fishes h, hw.1.f, Option.bind_some, if_pos (nI_lt hq (by omega)), mo_hasm (by omega) (by omega), Option.bind_some, o1, s1, lit_nI 8, mul_nI, nI_add, grd_nI (show 8 * (j + 1) + q < 48 by omega) (by decide), ix_nI (by omega), hT (j + 1) (by omega) q hq]
          have e : cu S b (j + 1) (hgo c (w / 5 ^ k % 5)) m (q + 1) = ck S b (j + 1) (hgo c (w / 5 ^ k % 5)) q (cu S b (j + 1) (hgo c (w / 5 ^ k % 5)) m q) := rfl
          rcases hss with ⟨⟨c1, c2, c3⟩, e2, e3⟩ | ⟨c1, e2, e3⟩
          · rw [if_neg (show ¬ (cu S b (j + 1) (hgo c (w / 5 ^ k % 5)) m q).testBit q = true by rw [c1]; decide), if_pos (show (0 : Int32) = 0 from rfl), if_pos c2, if_pos c3, Option.bind_some, Option.bind_some]
            dsimp only
            have hbc := bcn_setb q (by omega) _ (show cu S b (j + 1) (hgo c (w / 5 ^ k % 5)) m q < 256 by omega) c1
            refine tt_some ⟨?_, ?_, ?_, nI_1 q⟩
            · show hrm S b - bc (cu S b (j + 1) (hgo c (w / 5 ^ k % 5)) m q) + -1 = hrm S b - bc (cu S b (j + 1) (hgo c (w / 5 ^ k % 5)) m (q + 1))
              rw [e2, (bc_n _ (show cu S b (j + 1) (hgo c (w / 5 ^ k % 5)) m q < 256 by omega)).1, (bc_n _ (show setb (cu S b (j + 1) (hgo c (w / 5 ^ k % 5)) m q) q < 256 from setb_lt (by omega) (by omega))).1, hbc, ← nI_1, addm]
              rw [Int32.sub_eq_add_neg, Int32.sub_eq_add_neg, Int32.sub_eq_add_neg, Int32.neg_add, Int32.add_assoc, Int32.sub_eq_add_neg]
            · show nI (cu S b (j + 1) (hgo c (w / 5 ^ k % 5)) m q) ||| shl 1 (nI q) = _
              rw [e2, or_setb (by omega)]
            · show nI (tot + ssz S (dif (cu S b (j + 1) (hgo c (w / 5 ^ k % 5)) m q) m) q) + nI (S 2 q 1).toNatClampNeg = _
              rw [nI_add, e3]; congr 1; omega
          · have hst : Tt (some (Sum.inl (hrm S b - bc (cu S b (j + 1) (hgo c (w / 5 ^ k % 5)) m q), nI (cu S b (j + 1) (hgo c (w / 5 ^ k % 5)) m q), nI (tot + ssz S (dif (cu S b (j + 1) (hgo c (w / 5 ^ k % 5)) m q) m) q), nI q + 1)) : Option ((Int32 × Int32 × Int32 × Int32) ⊕ (Int32 × Int32 × Int32))) (lpP (fun (s : Int32 × Int32 × Int32 × Int32) => s.1 = hrm S b - bc (cu S b (j + 1) (hgo c (w / 5 ^ k % 5)) m (q + 1)) ∧ s.2.1 = nI (cu S b (j + 1) (hgo c (w / 5 ^ k % 5)) m (q + 1)) ∧ s.2.2.1 = nI (tot + ssz S (dif (cu S b (j + 1) (hgo c (w / 5 ^ k % 5)) m (q + 1)) m) (q + 1)) ∧ s.2.2.2 = nI (q + 1)) (fun (s : Int32 × Int32 × Int32) => s.1 = hrm S b - bc (cu S b (j + 1) (hgo c (w / 5 ^ k % 5)) m (nf S)) ∧ s.2.1 = nI (cu S b (j + 1) (hgo c (w / 5 ^ k % 5)) m (nf S)) ∧ s.2.2 = nI (tot + ssz S (dif (cu S b (j + 1) (hgo c (w / 5 ^ k % 5)) m (nf S)) m) (nf S)))) := tt_some ⟨by rw [e2], by rw [e2], by rw [e3], nI_1 q⟩
            by_cases d1 : (cu S b (j + 1) (hgo c (w / 5 ^ k % 5)) m q).testBit q = true
            · rw [if_pos d1, if_neg (show ¬ (1 : Int32) = 0 by decide), Option.bind_some]
              exact hst
            · rw [if_neg d1, if_pos (show (0 : Int32) = 0 from rfl)]
              by_cases d2 : dfl S (j + 1) q = nI (hgo c (w / 5 ^ k % 5))
              · rw [if_pos d2]
                by_cases d3 : 0 < hrm S b - bc (cu S b (j + 1) (hgo c (w / 5 ^ k % 5)) m q)
                · exact absurd ⟨Bool.eq_false_iff.mpr d1, d2, d3⟩ c1
                · rw [if_neg d3, Option.bind_some]
                  exact hst
              · rw [if_neg d2, Option.bind_some]
                exact hst
        · rintro ⟨y5, y6, y7, y12⟩ ⟨u1, u2, u3, u4⟩
          dsimp only at u1 u2 u3 u4 ⊢
          subst u1 u2 u3 u4
          rw [m_fishes h, hw.1.f, Option.bind_some, if_neg (nI_nlt (Nat.le_refl _) (by omega))]
          exact tt_some ⟨rfl, rfl, rfl⟩
        · rintro ⟨y5, y6, y7⟩ ⟨u1, u2, u3⟩
          dsimp only at u1 u2 u3 ⊢
          exact hnext _ _ _ u1 u2 u3 (by unfold hbad; rw [decide_eq_false (fun q => q c4), Bool.false_and]; decide)
      · rw [if_neg (show ¬ nI (w / 5 ^ k % 5) = 4 from fun q => c4 ((nI_inj (by omega) (by decide)).mp (q.trans (lit_nI 4))))]
        by_cases cs : hgo c (w / 5 ^ k % 5) = c
        · rw [if_pos (by rw [cs])]
          refine tt_some ?_
          show (-1 : Int32) = _
          rw [g7, if_pos (show hbad c (w / 5 ^ k % 5) = true by unfold hbad; rw [decide_eq_true c4, decide_eq_true cs]; rfl), if_pos rfl, pm_0]
        · rw [if_neg (fun q => cs ((nI_inj (by omega) (by omega)).mp q))]
          refine tt_bind (P1 := fun (s : Int32 × Int32 × Int32) => s.1 = hrm S b - bc (cu S b (j + 1) (hgo c (w / 5 ^ k % 5)) m (nf S)) ∧ s.2.1 = nI (cu S b (j + 1) (hgo c (w / 5 ^ k % 5)) m (nf S)) ∧ s.2.2 = nI (tot + ssz S (dif (cu S b (j + 1) (hgo c (w / 5 ^ k % 5)) m (nf S)) m) (nf S)))
            (tt_loop (fun q (s : Int32 × Int32 × Int32 × Int32) => s.1 = hrm S b - bc (cu S b (j + 1) (hgo c (w / 5 ^ k % 5)) m q) ∧ s.2.1 = nI (cu S b (j + 1) (hgo c (w / 5 ^ k % 5)) m q) ∧ s.2.2.1 = nI (tot + ssz S (dif (cu S b (j + 1) (hgo c (w / 5 ^ k % 5)) m q) m) q) ∧ s.2.2.2 = nI q) (nf S) (by omega) ?_ ?_ ⟨rfl, rfl, by show nI tot = nI (tot + 0); rfl, rfl⟩) ?_
          · rintro q hq ⟨y5, y6, y7, y12⟩ ⟨u1, u2, u3, u4⟩
            dsimp only at u1 u2 u3 u4 ⊢
            subst u1 u2 u3 u4
            have hul := cu_lt hw.1 (b := b) (d := j + 1) (c := hgo c (w / 5 ^ k % 5)) hm q (by omega)
            have hss := ssz_step (S := S) (b := b) (d := j + 1) (c := hgo c (w / 5 ^ k % 5)) (m := m) (q := q) (by omega)
            have o1 : f_Mo_of i (nI q) 1 = some (S 2 q 1) := m_of h (k := 1) (by omega) (by decide)
            obtain ⟨s1, -, -⟩ := sz_n hw hq
            rw [m_fishes h, hw.1.f, Option.bind_some, if_pos (nI_lt hq (by omega)), mo_hasm (by omega) (by omega), Option.bind_some, o1, s1, lit_nI 8, mul_nI, nI_add, grd_nI (show 8 * (j + 1) + q < 48 by omega) (by decide), ix_nI (by omega), hT (j + 1) (by omega) q hq]
            have e : cu S b (j + 1) (hgo c (w / 5 ^ k % 5)) m (q + 1) = ck S b (j + 1) (hgo c (w / 5 ^ k % 5)) q (cu S b (j + 1) (hgo c (w / 5 ^ k % 5)) m q) := rfl
            rcases hss with ⟨⟨c1, c2, c3⟩, e2, e3⟩ | ⟨c1, e2, e3⟩
            · rw [if_neg (show ¬ (cu S b (j + 1) (hgo c (w / 5 ^ k % 5)) m q).testBit q = true by rw [c1]; decide), if_pos (show (0 : Int32) = 0 from rfl), if_pos c2, if_pos c3, Option.bind_some, Option.bind_some]
              dsimp only
              have hbc := bcn_setb q (by omega) _ (show cu S b (j + 1) (hgo c (w / 5 ^ k % 5)) m q < 256 by omega) c1
              refine tt_some ⟨?_, ?_, ?_, nI_1 q⟩
              · show hrm S b - bc (cu S b (j + 1) (hgo c (w / 5 ^ k % 5)) m q) + -1 = hrm S b - bc (cu S b (j + 1) (hgo c (w / 5 ^ k % 5)) m (q + 1))
                rw [e2, (bc_n _ (show cu S b (j + 1) (hgo c (w / 5 ^ k % 5)) m q < 256 by omega)).1, (bc_n _ (show setb (cu S b (j + 1) (hgo c (w / 5 ^ k % 5)) m q) q < 256 from setb_lt (by omega) (by omega))).1, hbc, ← nI_1, addm]
                rw [Int32.sub_eq_add_neg, Int32.sub_eq_add_neg, Int32.sub_eq_add_neg, Int32.neg_add, Int32.add_assoc, Int32.sub_eq_add_neg]
              · show nI (cu S b (j + 1) (hgo c (w / 5 ^ k % 5)) m q) ||| shl 1 (nI q) = _
                rw [e2, or_setb (by omega)]
              · show nI (tot + ssz S (dif (cu S b (j + 1) (hgo c (w / 5 ^ k % 5)) m q) m) q) + nI (S 2 q 1).toNatClampNeg = _
                rw [nI_add, e3]; congr 1; omega
            · have hst : Tt (some (Sum.inl (hrm S b - bc (cu S b (j + 1) (hgo c (w / 5 ^ k % 5)) m q), nI (cu S b (j + 1) (hgo c (w / 5 ^ k % 5)) m q), nI (tot + ssz S (dif (cu S b (j + 1) (hgo c (w / 5 ^ k % 5)) m q) m) q), nI q + 1)) : Option ((Int32 × Int32 × Int32 × Int32) ⊕ (Int32 × Int32 × Int32))) (lpP (fun (s : Int32 × Int32 × Int32 × Int32) => s.1 = hrm S b - bc (cu S b (j + 1) (hgo c (w / 5 ^ k % 5)) m (q + 1)) ∧ s.2.1 = nI (cu S b (j + 1) (hgo c (w / 5 ^ k % 5)) m (q + 1)) ∧ s.2.2.1 = nI (tot + ssz S (dif (cu S b (j + 1) (hgo c (w / 5 ^ k % 5)) m (q + 1)) m) (q + 1)) ∧ s.2.2.2 = nI (q + 1)) (fun (s : Int32 × Int32 × Int32) => s.1 = hrm S b - bc (cu S b (j + 1) (hgo c (w / 5 ^ k % 5)) m (nf S)) ∧ s.2.1 = nI (cu S b (j + 1) (hgo c (w / 5 ^ k % 5)) m (nf S)) ∧ s.2.2 = nI (tot + ssz S (dif (cu S b (j + 1) (hgo c (w / 5 ^ k % 5)) m (nf S)) m) (nf S)))) := tt_some ⟨by rw [e2], by rw [e2], by rw [e3], nI_1 q⟩
              by_cases d1 : (cu S b (j + 1) (hgo c (w / 5 ^ k % 5)) m q).testBit q = true
              · rw [if_pos d1, if_neg (show ¬ (1 : Int32) = 0 by decide), Option.bind_some]
                exact hst
              · rw [if_neg d1, if_pos (show (0 : Int32) = 0 from rfl)]
                by_cases d2 : dfl S (j + 1) q = nI (hgo c (w / 5 ^ k % 5))
                · rw [if_pos d2]
                  by_cases d3 : 0 < hrm S b - bc (cu S b (j + 1) (hgo c (w / 5 ^ k % 5)) m q)
                  · exact absurd ⟨Bool.eq_false_iff.mpr d1, d2, d3⟩ c1
                  · rw [if_neg d3, Option.bind_some]
                    exact hst
                · rw [if_neg d2, Option.bind_some]
                  exact hst
          · rintro ⟨y5, y6, y7, y12⟩ ⟨u1, u2, u3, u4⟩
            dsimp only at u1 u2 u3 u4 ⊢
            subst u1 u2 u3 u4
            rw [m_fishes h, hw.1.f, Option.bind_some, if_neg (nI_nlt (Nat.le_refl _) (by omega))]
            exact tt_some ⟨rfl, rfl, rfl⟩
          · rintro ⟨y5, y6, y7⟩ ⟨u1, u2, u3⟩
            dsimp only at u1 u2 u3 ⊢
            exact hnext _ _ _ u1 u2 u3 (by unfold hbad; rw [decide_eq_false cs, Bool.and_false]; decide)
    · rintro ⟨x4, x5, x6, x7, x8, x9⟩ ⟨g1, g2, c, m, tot, hc, hm, g3, g4, g5, g6, g7⟩
      dsimp only at g1 g2 g3 g4 g5 g6 g7 ⊢
      subst g1 g2 g3 g4 g5 g6
      rw [if_pos (nI_lt (by omega) (by omega))]
      rw [Nat.sub_self, show hway S b 0 n c m (w % 5 ^ 0) = 1 from rfl, if_neg (by decide)] at g7
      refine tt_some ?_
      show nI tot = _
      rw [g7, Nat.add_comm, pm_s]
    · refine ⟨rfl, rfl, c0, 0, 0, hc0, hpp, rfl, (show S 3 b 2 - bc (abd S (nI b)) = S 3 b 2 - bc (abd S (nI b)) - bc 0 by rw [show bc 0 = 0 by decide, Int32.sub_zero]), rfl, rfl, ?_⟩
      rw [Nat.sub_zero, Nat.mod_eq_of_lt hww]
      by_cases cy : hway S b n 0 c0 0 w = 0
      · rw [if_pos cy, cy]
      · rw [if_neg cy, Nat.add_zero]
  obtain ⟨v, h1, rfl⟩ := key
  exact h1
theorem jmax_pm {a b : Nat} (ha : a < 2 ^ 31) (hb : b < 2 ^ 31) : jmax (pm a) (pm b) = pm (max a b) := by
  rw [jmax_if]
  by_cases c : a < b
  · rw [if_pos ((pm_lt ha hb).mpr c), Nat.max_eq_right (by omega)]
  · rw [if_neg (fun q => c ((pm_lt ha hb).mp q)), Nat.max_eq_left (by omega)]
theorem m_bestWay (hw : Wf S) (h : MV i S) {b n c0 : Nat} (hb : b < nb S) (hn : n ≤ 5) (ec0 : S 3 b 0 = nI c0) (hc0 : c0 < 25) : Tt (f_Mo_bestWay i (nI b) (nI n)) (fun y => (∃ w, w < 5 ^ n ∧ y.1 = nI w ∧ hway S b n 0 c0 0 w = hM S b n 0 c0 0 ∧ ∀ k, k < w → hway S b n 0 c0 0 k < hM S b n 0 c0 0) ∧ dT S n y.2 ∧ ∀ b j, b ≠ 1648 → y.2 b j = i b j) := by
  have h55 : 5 ^ n ≤ 3125 := Nat.pow_le_pow_right (n := 5) (by decide) hn
  have hle : ∀ w, hway S b n 0 c0 0 w ≤ 361 := fun w => by have := hway_le hw (b := b) n 0 c0 0 w; omega
  unfold f_Mo_bestWay
  refine tt_bind (m_laysDrifts hw h hn) ?_
  rintro i1 ⟨t1, t2⟩
  have h1 : MV i1 S := h.congr (fun k => t2 1639 k (by decide))
  obtain ⟨bs1, bs2⟩ := bst_sp (hway S b n 0 c0 0) (5 ^ n)
  have hMp := hM_pos (S := S) (b := b) n 0 c0 0 hc0
  refine tt_bind (P1 := fun v => ∃ w, w < 5 ^ n ∧ v = nI w ∧ hway S b n 0 c0 0 w = hM S b n 0 c0 0 ∧ ∀ k, k < w → hway S b n 0 c0 0 k < hM S b n 0 c0 0)
    (tt_loop (fun q (s : Int32 × Int32 × Int32) => s.2.1 = pm (bst (hway S b n 0 c0 0) q).1 ∧ s.2.2 = nI q ∧ ∀ v, (bst (hway S b n 0 c0 0) q).2 = some v → s.1 = nI v) (5 ^ n) (by omega) ?_ ?_ ⟨rfl, rfl, fun v hv => by cases hv⟩) ?_
  · rintro q hq ⟨x3, x4, x5⟩ ⟨e1, e2, e3⟩
    dsimp only at e1 e2 e3 ⊢
    subst e1 e2
    have hB : (bst (hway S b n 0 c0 0) q).1 ≤ 361 := by
      rw [(bst_sp (hway S b n 0 c0 0) q).1]
      exact mxN_le (Nat.zero_le _) q (fun f _ _ => hle f)
    have hl := hle q
    have eb : bst (hway S b n 0 c0 0) (q + 1) = if (bst (hway S b n 0 c0 0) q).1 < hway S b n 0 c0 0 q then (hway S b n 0 c0 0 q, some q) else bst (hway S b n 0 c0 0) q := rfl
    rw [mo_ways hn, Option.bind_some, if_pos (nI_lt hq (by omega)), m_hauledBy hw h1 hb hn hq ec0 hc0 t1, Option.bind_some]
    by_cases c2 : (bst (hway S b n 0 c0 0) q).1 < hway S b n 0 c0 0 q
    · rw [if_pos c2] at eb
      rw [if_pos ((pm_lt (by omega) (by omega)).mpr c2), Option.bind_some, j_max, Option.bind_some, jmax_pm (by omega) (by omega)]
      refine tt_some ⟨by rw [eb]; show pm (max (bst (hway S b n 0 c0 0) q).1 (hway S b n 0 c0 0 q)) = pm (hway S b n 0 c0 0 q); rw [Nat.max_eq_right (by omega)], nI_1 q, fun v hv => ?_⟩
      rw [eb] at hv
      have : q = v := Option.some.inj hv
      rw [this]
    · rw [if_neg c2] at eb
      rw [if_neg (fun q => c2 ((pm_lt (by omega) (by omega)).mp q)), Option.bind_some, j_max, Option.bind_some, jmax_pm (by omega) (by omega)]
      refine tt_some ⟨by rw [eb]; show pm (max (bst (hway S b n 0 c0 0) q).1 (hway S b n 0 c0 0 q)) = pm (bst (hway S b n 0 c0 0) q).1; rw [Nat.max_eq_left (by omega)], nI_1 q, fun v hv => e3 v (by rw [eb] at hv; exact hv)⟩
  · rintro ⟨x3, x4, x5⟩ ⟨e1, e2, e3⟩
    dsimp only at e1 e2 e3 ⊢
    subst e1 e2
    rw [mo_ways hn, Option.bind_some, if_neg (nI_nlt (Nat.le_refl _) (by omega))]
    have ehM : hM S b n 0 c0 0 = (bst (hway S b n 0 c0 0) (5 ^ n)).1 := bs1.symm
    rcases bs2 with ⟨q, -⟩ | ⟨v, q1, q2, q3, q4, q5⟩
    · omega
    · exact tt_some ⟨v, q1, e3 v q2, by rw [ehM]; exact q4, fun k hk => by rw [ehM]; exact q5 k hk⟩
  · rintro v hv
    exact tt_some ⟨hv, t1, t2⟩
theorem m_wrongHaul (hw : Wf S) (h : MV i S) (x w : Int32) : Tt (f_Mo_wrongHaul i x w) (fun y => y = if okx x (nb S) = true then (if win w 0 5 = true then (0, wr i 1638 0 0) else (1, wr (wr i 1638 0 0) 1638 0 2)) else (1, wr (wr i 1638 0 0) 1638 0 1)) := by
  have h1 := mv_t h 0
  unfold f_Mo_wrongHaul
  refine tt_bnd ?_
  rw [m_noBoat hw.1 h1, Option.bind_some]
  by_cases ho : okx x (nb S) = true
  · rw [if_pos ho, if_pos ho, thr0, Option.bind_some]
    dsimp only
    rw [if_pos (show (0 : Int32) = 0 from rfl), mo_win, Option.bind_some]
    by_cases hww : win w 0 5 = true
    · rw [if_pos hww, if_pos hww, if_neg (show ¬ (1 : Int32) = 0 by decide), Option.bind_some, thr0, Option.bind_some]
      dsimp only
      rw [if_pos (show (0 : Int32) = 0 from rfl)]
      exact tt_some rfl
    · rw [if_neg hww, if_neg hww, if_pos (show (0 : Int32) = 0 from rfl), Option.bind_some, thr1, Option.bind_some]
      dsimp only
      rw [if_neg (show ¬ (1 : Int32) = 0 by decide)]
      exact tt_some rfl
  · rw [if_neg ho, if_neg ho, thr1, Option.bind_some]
    dsimp only
    rw [if_neg (show ¬ (1 : Int32) = 0 by decide)]
    exact tt_some rfl
theorem m_haul (hw : Wf S) (h : MV i S) (x w : Int32) : Tt (f_Mo_haul i x w) (MO i (spHaul S x w)) := by
  have hb3 := hw.1.b3
  have h1 := mv_t h 0
  unfold f_Mo_haul spHaul
  refine tt_bind (m_wrongHaul hw h x w) ?_
  rintro _ rfl
  by_cases ho : okx x (nb S) = true
  · rw [if_pos ho, if_pos ho]
    by_cases hww : win w 0 5 = true
    · rw [if_pos hww, if_pos hww]
      obtain ⟨b, hb, rfl⟩ := okx_of (by omega) ho
      obtain ⟨n, hn, rfl⟩ := win_of (n := 5) (by decide) hww
      obtain ⟨⟨c0, hc0, ec0⟩, -⟩ := hw.2.2.2.1 b hb
      dsimp only
      rw [if_pos (show (0 : Int32) = 0 from rfl)]
      refine tt_bind (m_bestWay hw h1 hb hn ec0 hc0) ?_
      rintro ⟨v, i2⟩ ⟨⟨w, w1, w2, w3, -⟩, t1, t2⟩
      dsimp only at w2 t1 t2 ⊢
      subst w2
      have h2 : MV i2 S := h1.congr (fun k => t2 1639 k (by decide))
      rw [m_hauledBy hw h2 hb hn w1 ec0 hc0 t1, Option.bind_some, w3, ix_nI (by omega), ix_nI (by omega), ec0, ix_nI (by omega)]
      exact tt_some (mo_ok ⟨fun b j hb => t2 b j (by omega), fun j _ => t2 1638 j (by decide)⟩ ((t2 1638 0 (by decide)).trans wr_s) rfl)
    · rw [if_neg hww, if_neg hww]
      dsimp only
      rw [if_neg (show ¬ (1 : Int32) = 0 by decide)]
      exact tt_some (mo_err (by decide) (fq_t (fq.refl i) 0))
  · rw [if_neg ho, if_neg ho]
    dsimp only
    rw [if_neg (show ¬ (1 : Int32) = 0 by decide)]
    exact tt_some (mo_err (by decide) (fq_t (fq.refl i) 0))
theorem m_first (hw : Wf S) (h : MV i S) (x w : Int32) : Tt (f_Mo_first i x w) (MO i (spFirst S x w)) := by
  have hb3 := hw.1.b3
  have h1 := mv_t h 0
  unfold f_Mo_first spFirst
  refine tt_bind (m_wrongHaul hw h x w) ?_
  rintro _ rfl
  by_cases ho : okx x (nb S) = true
  · rw [if_pos ho, if_pos ho]
    by_cases hww : win w 0 5 = true
    · rw [if_pos hww, if_pos hww]
      obtain ⟨b, hb, rfl⟩ := okx_of (by omega) ho
      obtain ⟨n, hn, rfl⟩ := win_of (n := 5) (by decide) hww
      obtain ⟨⟨c0, hc0, ec0⟩, -⟩ := hw.2.2.2.1 b hb
      dsimp only
      rw [if_pos (show (0 : Int32) = 0 from rfl)]
      cases n with
      | zero =>
        rw [if_pos (show nI 0 = 0 from rfl), if_pos (show nI 0 = 0 from rfl)]
        exact tt_some (mo_ok (fq.refl _) wr_s rfl)
      | succ n =>
        have h5n := Nat.pow_pos (a := 5) (n := n) (by decide)
        have h55 : 5 ^ n ≤ 625 := Nat.pow_le_pow_right (n := 5) (by decide) (by omega : n ≤ 4)
        have hz : ¬ nI (n + 1) = 0 := fun q => by have := (nI_z (by omega)).mp q; omega
        rw [if_neg hz, if_neg hz]
        refine tt_bind (m_bestWay hw h1 hb hn ec0 hc0) ?_
        rintro ⟨v, i2⟩ ⟨⟨w, w1, w2, w3, w4⟩, t1, t2⟩
        dsimp only at w2 t1 t2 ⊢
        subst w2
        have ew : nI (5 ^ (n + 1)) / 5 = nI (5 ^ n) := by rw [lit_nI 5, pk_div (by rw [Nat.pow_succ]; omega) (by decide) (by decide), Nat.pow_succ, Nat.mul_div_cancel _ (by decide)]
        have hwl : w < 2 ^ 31 := by rw [Nat.pow_succ] at w1; omega
        rw [mo_ways hn, Option.bind_some, ew]
        refine tt_grd2 (decide_eq_true (fun q => by have := (nI_z (by omega)).mp q; omega)) ?_
        rw [pk_div hwl h5n (by omega), hfv_way hc0 w1 w3 w4, nI_pred, ix_nI (by omega), ix_nI (by omega), ec0, ix_nI (by omega)]
        exact tt_some (mo_ok ⟨fun b j hb => t2 b j (by omega), fun j _ => t2 1638 j (by decide)⟩ ((t2 1638 0 (by decide)).trans wr_s) rfl)
    · rw [if_neg hww, if_neg hww]
      dsimp only
      rw [if_neg (show ¬ (1 : Int32) = 0 by decide)]
      exact tt_some (mo_err (by decide) (fq_t (fq.refl i) 0))
  · rw [if_neg ho, if_neg ho]
    dsimp only
    rw [if_neg (show ¬ (1 : Int32) = 0 by decide)]
    exact tt_some (mo_err (by decide) (fq_t (fq.refl i) 0))
end HAULM
