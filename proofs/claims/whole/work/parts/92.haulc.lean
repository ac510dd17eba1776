/-! ===== haul, first: the class ===== -/
section HAULC
variable {i : MI} {S : SS} {lw : Nat}
/-- what the plan of a boat's course rests on -/
def hOK (S : SS) (b n : Nat) (i : MI) : Prop := i 1603 2 = nI (plc S 0) ∧ i 1603 3 = nI n ∧ i 1603 4 = hrm S b ∧ (∀ f, f < nf S → i 1611 f = S 2 f 1) ∧ ∀ d, d ≤ 5 → ∀ f, f < nf S → i (1605 + d) f = dfl S d f
theorem ck_stop {b d c : Nat} {u : Nat} (h : ¬ 0 < hrm S b - bc u) (f : Nat) : ck S b d c f u = u := by
  unfold ck
  rw [if_neg (fun q => h q.2.2)]
theorem cu_stop {b d c m q : Nat} (h : ¬ 0 < hrm S b - bc (cu S b d c m q)) : ∀ k, cu S b d c m (q + k) = cu S b d c m q
  | 0 => rfl
  | k + 1 => by
    have ih := cu_stop h k
    have e : cu S b d c m (q + (k + 1)) = ck S b d c (q + k) (cu S b d c m (q + k)) := rfl
    rw [e, ih, ck_stop h]
theorem dif_setb {u m f : Nat} (hf : f < 8) (h : m.testBit f = false) : dif (setb u f) m = setb (dif u m) f := by
  refine Nat.eq_of_testBit_eq (fun j => ?_)
  rw [dif_t, setb_t, setb_t, dif_t]
  by_cases e : f = j
  · subst e
    rw [h, decide_eq_true hf, decide_eq_true rfl]
    cases u.testBit f <;> rfl
  · rw [decide_eq_false e, Bool.or_false, Bool.or_false]
theorem dif_refl (m : Nat) : dif m m = 0 := m_ext (dif_lt _ _) (by decide) (fun j _ => by
  rw [dif_t, Nat.zero_testBit]
  cases m.testBit j
  · rw [Bool.false_and, Bool.and_false]
  · rw [Bool.not_true, Bool.and_false, Bool.and_false])
theorem v_catchAt (hw : Wf S) {b n d c m : Nat} (hi : hOK S b n i) (hd : d ≤ 5) (hc : c < 25) (hm : m < 2 ^ nf S) : f_Co_catchAt i (nI d) (nI c) (nI m) = some (nI (dif (cu S b d c m (nf S)) m)) := by
  obtain ⟨i1, i2, i3, i4, i5⟩ := hi
  have h8 := hw.1.f8
  have hp8 := pow_le8 h8
  have hM8 : dif (plc S 0) m < 256 := dif_lt _ _
  have key : Tt (f_Co_catchAt i (nI d) (nI c) (nI m)) (fun v => v = nI (dif (cu S b d c m (nf S)) m)) := by
    unfold f_Co_catchAt
    rw [j_bc, Option.bind_some, i1, i3, dif_nI (plc_8 hw.1 0)]
    refine tt_bind (P1 := fun v => v = nI (dif (cu S b d c m (nf S)) m))
      (tt_loop (fun j (s : Int32 × Int32 × Int32) => s.1 = hrm S b - bc (cu S b d c m (min j (nf S))) ∧ s.2.1 = nI (dif (cu S b d c m (min j (nf S))) m) ∧ s.2.2 = nI j) 8 (by omega) ?_ ?_ ⟨?_, ?_, rfl⟩) (fun v hv => tt_some hv)
    · rintro j hj ⟨x4, x6, x7⟩ ⟨e1, e2, e3⟩
      dsimp only at e1 e2 e3 ⊢
      subst e1 e2 e3
      rw [lit_nI 8, if_pos (nI_lt hj (by omega))]
      have hul := cu_lt hw.1 (b := b) (d := d) (c := c) hm (min j (nf S)) (Nat.min_le_right _ _)
      obtain ⟨ut, ut2⟩ := cu_t (S := S) (b := b) (d := d) (c := c) (m := m) (min j (nf S))
      by_cases c0 : 0 < hrm S b - bc (cu S b d c m (min j (nf S)))
      · rw [if_pos c0]
        have hb : (dif (plc S 0) m).testBit j = (decide (j < nf S) && decide (S 2 j 3 = 0) && !m.testBit j) := by rw [dif_t, plc_t, decide_eq_true hj, Bool.true_and]
        have hst : ∀ x4 x6 U, cu S b d c m (min (j + 1) (nf S)) = U → x4 = hrm S b - bc U → x6 = nI (dif U m) → Tt (some (Sum.inl (x4, x6, nI j + 1)) : Option ((Int32 × Int32 × Int32) ⊕ Int32)) (lpP (fun (s : Int32 × Int32 × Int32) => s.1 = hrm S b - bc (cu S b d c m (min (j + 1) (nf S))) ∧ s.2.1 = nI (dif (cu S b d c m (min (j + 1) (nf S))) m) ∧ s.2.2 = nI (j + 1)) (fun v => v = nI (dif (cu S b d c m (nf S)) m))) := fun x4 x6 U hU h1 h2 => by subst hU; exact tt_some ⟨h1, h2, nI_1 j⟩
        by_cases hjn : j < nf S
        · have em : min j (nf S) = j := by omega
          have em1 : min (j + 1) (nf S) = j + 1 := by omega
          rw [em] at hul ut ut2 c0 ⊢
          have ej : cu S b d c m (min (j + 1) (nf S)) = ck S b d c j (cu S b d c m j) := by rw [em1]; rfl
          have hutj := ut j (Nat.le_refl j)
          rw [decide_eq_true hjn, Bool.true_and] at hb
          by_cases c1 : S 2 j 3 = 0 ∧ m.testBit j = false
          · have hbt : (dif (plc S 0) m).testBit j = true := by rw [hb, decide_eq_true c1.1, c1.2]; rfl
            rw [if_neg (fun q => (bit_sh hM8 hj).mp q hbt), grd_nI (show d < 6 by omega) (by decide), grd_nI (show j < 8 from hj) (by decide), ix_nI (by omega), ix_nI (by omega), i5 d hd j hjn]
            by_cases c2 : dfl S d j = nI c
            · have hck : ck S b d c j (cu S b d c m j) = setb (cu S b d c m j) j := if_pos ⟨by rw [hutj]; exact c1.2, c2, c0⟩
              rw [if_pos c2, Option.bind_some]
              dsimp only
              refine hst _ _ _ (ej.trans hck) ?_ ?_
              · have hbc := bcn_setb j hj (cu S b d c m j) (by omega) (by rw [hutj]; exact c1.2)
                rw [(bc_n _ (by omega)).1, (bc_n _ (show setb (cu S b d c m j) j < 256 from setb_lt (by omega) hj)).1, hbc, ← nI_1, addm]
                rw [Int32.sub_eq_add_neg, Int32.sub_eq_add_neg, Int32.sub_eq_add_neg, Int32.neg_add, Int32.add_assoc, Int32.sub_eq_add_neg]
              · rw [or_setb hj, dif_setb hj c1.2]
            · have hck : ck S b d c j (cu S b d c m j) = cu S b d c m j := if_neg (fun q => c2 q.2.1)
              rw [if_neg c2, Option.bind_some]
              dsimp only
              exact hst _ _ _ (ej.trans hck) rfl rfl
          · have hbt : ¬ (dif (plc S 0) m).testBit j = true := by
              rw [hb]
              intro q
              simp only [Bool.and_eq_true, decide_eq_true_eq, Bool.not_eq_true'] at q
              exact c1 q
            have hck : ck S b d c j (cu S b d c m j) = cu S b d c m j := by
              unfold ck
              rw [if_neg]
              rintro ⟨q1, q2, -⟩
              refine c1 ⟨?_, by rw [← hutj]; exact q1⟩
              unfold dfl at q2
              by_cases q3 : S 2 j 3 = 0
              · exact q3
              · rw [if_neg q3] at q2; exact absurd q2.symm (nI_m1 (by omega))
            rw [if_pos ((bit_sh hM8 hj).mpr hbt), Option.bind_some]
            dsimp only
            exact hst _ _ _ (ej.trans hck) rfl rfl
        · have em : min j (nf S) = nf S := by omega
          have em1 : min (j + 1) (nf S) = nf S := by omega
          rw [em]
          have hbt : ¬ (dif (plc S 0) m).testBit j = true := by rw [hb, decide_eq_false hjn, Bool.false_and, Bool.false_and]; decide
          rw [if_pos ((bit_sh hM8 hj).mpr hbt), Option.bind_some]
          dsimp only
          exact hst _ _ _ (by rw [em1]) rfl rfl
      · rw [if_neg c0]
        have hs := cu_stop c0 (nf S - min j (nf S))
        rw [show min j (nf S) + (nf S - min j (nf S)) = nf S by omega] at hs
        exact tt_some (by dsimp only [lpP]; rw [hs])
    · rintro ⟨x4, x6, x7⟩ ⟨e1, e2, e3⟩
      dsimp only at e1 e2 e3 ⊢
      subst e1 e2 e3
      rw [lit_nI 8, if_neg (nI_nlt (Nat.le_refl _) (by omega))]
      exact tt_some (by dsimp only [lpP]; rw [show min 8 (nf S) = nf S by omega])
    · dsimp only
      rw [Nat.zero_min]
      rfl
    · dsimp only
      rw [Nat.zero_min, show cu S b d c m 0 = m from rfl, dif_refl]
      rfl
  obtain ⟨v, h1, rfl⟩ := key
  exact h1
theorem shr_z : ∀ f, f < 8 → ∀ m, m < 256 → (shr (nI m) (nI f) = 0 ↔ m / 2 ^ f = 0) := by decide +kernel
theorem v_sizesOf (hw : Wf S) {b n T : Nat} (hi : hOK S b n i) (hT : T < 2 ^ nf S) : f_Co_sizesOf i (nI T) = some (nI (ssz S T (nf S))) := by
  have h8 := hw.1.f8
  have hp8 := pow_le8 h8
  have key : Tt (f_Co_sizesOf i (nI T)) (fun v => v = nI (ssz S T (nf S))) := by
    unfold f_Co_sizesOf
    refine tt_bind (P1 := fun v => v = nI (ssz S T (nf S)))
      (tt_loop (fun j (s : Int32 × Int32) => s = (nI (ssz S T j), nI j) ∧ j ≤ nf S) (nf S) (by omega) ?_ ?_ ⟨rfl, Nat.zero_le _⟩) (fun v hv => tt_some hv)
    · rintro j hj _ ⟨rfl, -⟩
      dsimp only
      have hj8 : j < 8 := by omega
      rw [lit_nI 8, if_pos (nI_lt hj8 (by omega))]
      by_cases cz : T / 2 ^ j = 0
      · rw [if_pos ((shr_z j hj8 T (by omega)).mpr cz)]
        have hTj : T < 2 ^ j := by
          rcases Nat.div_eq_zero_iff.mp cz with q | q
          · have := Nat.two_pow_pos j; omega
          · exact q
        have hz : ∀ k, ssz S T (j + k) = ssz S T j := by
          intro k
          induction k with
          | zero => rfl
          | succ k ih =>
            have e : ssz S T (j + (k + 1)) = if T.testBit (j + k) = true then ssz S T (j + k) + (S 2 (j + k) 1).toNatClampNeg else ssz S T (j + k) := rfl
            rw [e, if_neg (by rw [Nat.testBit_lt_two_pow (Nat.lt_of_lt_of_le hTj (Nat.pow_le_pow_right (by decide) (by omega)))]; decide), ih]
        have := hz (nf S - j)
        rw [show j + (nf S - j) = nf S by omega] at this
        exact tt_some (by dsimp only [lpP]; rw [this])
      · rw [if_neg (fun q => cz ((shr_z j hj8 T (by omega)).mp q))]
        refine tt_bind (P1 := fun v => v = nI (ssz S T (j + 1))) ?_ ?_
        · show Tt _ (fun v => v = nI (if T.testBit j = true then ssz S T j + (S 2 j 1).toNatClampNeg else ssz S T j))
          by_cases c : T.testBit j = true
          · obtain ⟨s1, -, -⟩ := sz_n hw hj
            rw [if_neg (fun q => (bit_sh (by omega) hj8).mp q c), if_pos c, grd_nI hj8 (by decide), ix_nI (by omega), hi.2.2.2.1 j hj, s1, nI_add]
            rw [← s1]
            exact tt_some rfl
          · rw [if_pos ((bit_sh (by omega) hj8).mpr c), if_neg c]
            exact tt_some rfl
        · rintro v rfl
          exact tt_some ⟨by rw [nI_1], by omega⟩
    · rintro _ ⟨rfl, -⟩
      dsimp only
      by_cases c8 : nf S < 8
      · rw [lit_nI 8, if_pos (nI_lt c8 (by omega)), if_pos ((shr_z _ c8 T (by omega)).mpr (Nat.div_eq_of_lt hT))]
        exact tt_some rfl
      · rw [lit_nI 8, if_neg (nI_nlt (by omega) (by omega))]
        exact tt_some rfl
  obtain ⟨v, h1, rfl⟩ := key
  exact h1
theorem sub_lt {u m N : Nat} (hu : u < 2 ^ N) : dif u m < 2 ^ N := by
  have : sbs (dif u m) u := fun j hj => by
    rw [dif_t] at hj
    simp only [Bool.and_eq_true] at hj
    exact hj.2.1
  have := sbs_le this
  omega
theorem dif_or {u m : Nat} (hu : u < 256) (h : ∀ f, m.testBit f = true → u.testBit f = true) : m ||| dif u m = u := by
  refine Nat.eq_of_testBit_eq (fun j => ?_)
  rw [Nat.testBit_or, dif_t]
  by_cases hj : j < 8
  · rw [decide_eq_true hj, Bool.true_and]
    cases c : m.testBit j
    · simp
    · rw [h j c]; rfl
  · rw [decide_eq_false hj, Bool.false_and, Bool.or_false, tb_big hu (by omega)]
    cases c : m.testBit j
    · rfl
    · have := h j c
      rw [tb_big hu (by omega)] at this
      exact absurd this (by decide)
/-- the best from a day on, behind the first -/
theorem v_most (hw : Wf S) {b N : Nat} (hN : N ≤ 5) (hi : hOK S b N i) : ∀ n d c m k, 1 ≤ d → d + n = N → c < 25 → m < 2 ^ nf S → 2 * n + 1 ≤ k → (fx_Co k).1 i (nI d) (nI c) (nI m) = some (pm (hM S b n d c m), i)
  | n, d, c, m, 0, _, _, _, _, hk => by omega
  | 0, d, c, m, k + 1, hd, hn, hc, hm, hk => by
    show fb_Co_mostFrom (fx_Co k).1 (fx_Co k).2 i (nI d) (nI c) (nI m) = _
    unfold fb_Co_mostFrom
    rw [hi.2.1, if_neg (nI_nlt (by omega) (by omega)), show hM S b 0 d c m = 1 from rfl]
    rfl
  | n + 1, d, c, m, 1, _, _, _, _, hk => by omega
  | n + 1, d, c, m, k' + 1 + 1, hd, hn, hc, hm, hk => by
    have h8 := hw.1.f8
    have hp8 := pow_le8 h8
    have key : Tt ((fx_Co (k' + 1 + 1)).1 i (nI d) (nI c) (nI m)) (fun y => y = (pm (hM S b (n + 1) d c m), i)) := by
      show Tt (fb_Co_mostFrom (fx_Co (k' + 1)).1 (fx_Co (k' + 1)).2 i (nI d) (nI c) (nI m)) _
      unfold fb_Co_mostFrom
      rw [hi.2.1, if_pos (nI_lt (by omega) (by omega))]
      refine tt_bind (P1 := fun y => y = (pm (hM S b (n + 1) d c m), i))
        (tt_loop (fun j (s : Int32 × Int32 × MI) => s.1 = pm (mxN (fun _ => true) (hY S b n d c m) j 0) ∧ s.2.1 = nI j ∧ s.2.2 = i) 5 (by omega) ?_ ?_ ⟨rfl, rfl, rfl⟩) (fun y hy => tt_some hy)
      · rintro j hj ⟨x4, x5, i2⟩ ⟨e1, e2, e3⟩
        dsimp only at e1 e2 e3 ⊢
        subst e1 e2
        rw [e3]
        have hBt : mxN (fun _ => true) (hY S b n d c m) j 0 ≤ 1 + 72 * (n + 1) := mxN_le (Nat.zero_le _) j (fun f hf _ => by
          have h1 := mxN_ge (p := fun _ => true) (v := hY S b n d c m) (x0 := 0) 5 f (by omega) rfl
          rw [← hM_s hc] at h1
          have h2 := hM_le hw b (n + 1) d c m
          omega)
        have hYl : hY S b n d c m j ≤ 1 + 72 * (n + 1) := by
          have h1 := mxN_ge (p := fun _ => true) (v := hY S b n d c m) (x0 := 0) 5 j hj rfl
          rw [← hM_s hc] at h1
          have h2 := hM_le hw b (n + 1) d c m
          omega
        rw [lit_nI 4, if_neg (nI_nlt (by omega) (by omega)), hse c hc j hj, Option.bind_some]
        refine tt_bind (P1 := fun y => y = (pm (hY S b n d c m j), i)) ?_ ?_
        · unfold hY
          by_cases c1 : hbad c j = true
          · rw [if_pos c1, if_pos (show (-1 : Int32) = -1 from rfl), if_pos c1, pm_0]
            exact tt_some rfl
          · obtain ⟨g1, -⟩ := hgo_lt c hc j hj
            have hul := cu_lt hw.1 (b := b) (d := d + 1) (c := hgo c j) hm (nf S) (Nat.le_refl _)
            obtain ⟨-, ut2⟩ := cu_t (S := S) (b := b) (d := d + 1) (c := hgo c j) (m := m) (nf S)
            have ih := v_most hw hN hi n (d + 1) (hgo c j) (cu S b (d + 1) (hgo c j) m (nf S)) k' (by omega) (by omega) g1 hul (by omega)
            have hpos := hM_pos (S := S) (b := b) n (d + 1) (hgo c j) (cu S b (d + 1) (hgo c j) m (nf S)) g1
            rw [if_neg c1, if_neg (nI_m1 (by omega)), if_neg c1, nI_1]
            have hby : (fx_Co (k' + 1)).2 i (nI (d + 1)) (nI (hgo c j)) (nI m) = some (pm (hM S b n (d + 1) (hgo c j) (cu S b (d + 1) (hgo c j) m (nf S)) + ssz S (dif (cu S b (d + 1) (hgo c j) m (nf S)) m) (nf S)), i) := by
              show fb_Co_mostBy (fx_Co k').1 (fx_Co k').2 i (nI (d + 1)) (nI (hgo c j)) (nI m) = _
              unfold fb_Co_mostBy
              rw [v_catchAt hw hi (by omega) g1 hm, Option.bind_some, v_sizesOf hw hi (sub_lt hul), Option.bind_some, or_nI, dif_or (by omega) ut2, ih, Option.bind_some]
              obtain ⟨x, hx⟩ : ∃ x, hM S b n (d + 1) (hgo c j) (cu S b (d + 1) (hgo c j) m (nf S)) = x + 1 := ⟨_, (Nat.sub_add_cancel hpos).symm⟩
              rw [hx, pm_s, show x + 1 + ssz S (dif (cu S b (d + 1) (hgo c j) m (nf S)) m) (nf S) = (ssz S (dif (cu S b (d + 1) (hgo c j) m (nf S)) m) (nf S) + x) + 1 by omega, pm_s]
              dsimp only
              rw [nI_add]
            exact tt_eq hby (tt_some rfl)
        · rintro _ rfl
          dsimp only
          have hst : ∀ x, x = pm (mxN (fun _ => true) (hY S b n d c m) (j + 1) 0) → Tt (some (Sum.inl (x, nI j + 1, i)) : Option ((Int32 × Int32 × MI) ⊕ (Int32 × MI))) (lpP (fun (s : Int32 × Int32 × MI) => s.1 = pm (mxN (fun _ => true) (hY S b n d c m) (j + 1) 0) ∧ s.2.1 = nI (j + 1) ∧ s.2.2 = i) (fun y => y = (pm (hM S b (n + 1) d c m), i))) := fun x hx => tt_some ⟨hx, nI_1 j, rfl⟩
          rw [mxN_s, if_pos rfl] at hst
          by_cases c2 : mxN (fun _ => true) (hY S b n d c m) j 0 < hY S b n d c m j
          · rw [if_pos ((pm_lt (by omega) (by omega)).mpr c2), if_neg (show ¬ nI d = 0 from fun q => by have := (nI_z (by omega)).mp q; omega), Option.bind_some]
            exact hst _ (by rw [Nat.max_eq_right (by omega)])
          · rw [if_neg (fun q => c2 ((pm_lt (by omega) (by omega)).mp q)), Option.bind_some]
            exact hst _ (by rw [Nat.max_eq_left (by omega)])
      · rintro ⟨x4, x5, i2⟩ ⟨e1, e2, e3⟩
        dsimp only at e1 e2 e3 ⊢
        subst e1 e2
        rw [e3]
        rw [lit_nI 4, if_pos (nI_lt (by decide) (by decide))]
        exact tt_some (by dsimp only [lpP]; rw [hM_s hc])
    obtain ⟨y, h1, rfl⟩ := key
    exact h1
theorem v_by (hw : Wf S) {b N : Nat} (hN : N ≤ 5) (hi : hOK S b N i) {n d c m k : Nat} (hd : d + 1 + n = N) (hc : c < 25) (hm : m < 2 ^ nf S) (hk : 2 * n + 2 ≤ k) : (fx_Co k).2 i (nI (d + 1)) (nI c) (nI m) = some (pm (hM S b n (d + 1) c (cu S b (d + 1) c m (nf S)) + ssz S (dif (cu S b (d + 1) c m (nf S)) m) (nf S)), i) := by
  have h8 := hw.1.f8
  have hp8 := pow_le8 h8
  obtain ⟨k', rfl⟩ : ∃ k', k = k' + 1 := ⟨k - 1, by omega⟩
  have hul := cu_lt hw.1 (b := b) (d := d + 1) (c := c) hm (nf S) (Nat.le_refl _)
  obtain ⟨-, ut2⟩ := cu_t (S := S) (b := b) (d := d + 1) (c := c) (m := m) (nf S)
  have ih := v_most hw hN hi n (d + 1) c (cu S b (d + 1) c m (nf S)) k' (by omega) (by omega) hc hul (by omega)
  have hpos := hM_pos (S := S) (b := b) n (d + 1) c (cu S b (d + 1) c m (nf S)) hc
  show fb_Co_mostBy (fx_Co k').1 (fx_Co k').2 i (nI (d + 1)) (nI c) (nI m) = _
  unfold fb_Co_mostBy
  rw [v_catchAt hw hi (by omega) hc hm, Option.bind_some, v_sizesOf hw hi (sub_lt hul), Option.bind_some, or_nI, dif_or (by omega) ut2, ih, Option.bind_some]
  obtain ⟨x, hx⟩ : ∃ x, hM S b n (d + 1) c (cu S b (d + 1) c m (nf S)) = x + 1 := ⟨_, (Nat.sub_add_cancel hpos).symm⟩
  rw [hx, pm_s, show x + 1 + ssz S (dif (cu S b (d + 1) c m (nf S)) m) (nf S) = (ssz S (dif (cu S b (d + 1) c m (nf S)) m) (nf S) + x) + 1 by omega, pm_s]
  dsimp only
  rw [nI_add]
theorem hOK.c6 {b N : Nat} {i' : MI} (hi : hOK S b N i) (he : ∀ b j, ¬ (b = 1603 ∧ j = 6) → i' b j = i b j) : hOK S b N i' := by
  obtain ⟨h1, h2, h3, h4, h5⟩ := hi
  exact ⟨by rw [he _ _ (by decide)]; exact h1, by rw [he _ _ (by decide)]; exact h2, by rw [he _ _ (by decide)]; exact h3, fun f hf => by rw [he _ _ (by omega)]; exact h4 f hf, fun d hd f hf => by rw [he _ _ (by omega)]; exact h5 d hd f hf⟩
theorem v_most0 (hw : Wf S) {b n c : Nat} (hn : n + 1 ≤ 5) (hi : hOK S b (n + 1) i) (hc : c < 25) : Tt ((fx_Co 12).1 i (nI 0) (nI c) (nI 0)) (fun y => y.1 = pm (hM S b (n + 1) 0 c 0) ∧ (∀ b j, ¬ (b = 1603 ∧ j = 6) → y.2 b j = i b j) ∧ y.2 1603 6 = nI (hfv S b n c)) := by
  have h8 := hw.1.f8
  have hp8 := pow_le8 h8
  have hpp := Nat.two_pow_pos (nf S)
  show Tt (fb_Co_mostFrom (fx_Co 11).1 (fx_Co 11).2 i (nI 0) (nI c) (nI 0)) _
  unfold fb_Co_mostFrom
  rw [hi.2.1, if_pos (nI_lt (by omega) (by omega))]
  obtain ⟨bs1, bs2⟩ := bst_sp (hY S b n 0 c 0) 5
  rw [← hM_s hc] at bs1
  have hMp := hM_pos (S := S) (b := b) (n + 1) 0 c 0 hc
  refine tt_bind (P1 := fun y => y.1 = pm (hM S b (n + 1) 0 c 0) ∧ (∀ b j, ¬ (b = 1603 ∧ j = 6) → y.2 b j = i b j) ∧ y.2 1603 6 = nI (hfv S b n c))
    (tt_loop (fun j (s : Int32 × Int32 × MI) => s.1 = pm (bst (hY S b n 0 c 0) j).1 ∧ s.2.1 = nI j ∧ (∀ b j, ¬ (b = 1603 ∧ j = 6) → s.2.2 b j = i b j) ∧ ∀ v, (bst (hY S b n 0 c 0) j).2 = some v → s.2.2 1603 6 = nI v) 5 (by omega) ?_ ?_ ⟨rfl, rfl, fun _ _ _ => rfl, fun v hv => by cases hv⟩) (fun y hy => tt_some hy)
  · rintro j hj ⟨x4, x5, i2⟩ ⟨e1, e2, e3, e4⟩
    dsimp only at e1 e2 e3 e4 ⊢
    subst e1 e2
    have hi2 : hOK S b (n + 1) i2 := hi.c6 e3
    have hle : ∀ v, v < 5 → hY S b n 0 c 0 v ≤ 1 + 72 * (n + 1) := fun v hv => by
      have h1 := mxN_ge (p := fun _ => true) (v := hY S b n 0 c 0) (x0 := 0) 5 v hv rfl
      rw [← hM_s hc] at h1
      have h2 := hM_le hw b (n + 1) 0 c 0
      omega
    have hBt : (bst (hY S b n 0 c 0) j).1 ≤ 1 + 72 * (n + 1) := by
      rw [(bst_sp (hY S b n 0 c 0) j).1]
      exact mxN_le (Nat.zero_le _) j (fun f hf _ => hle f (by omega))
    have hYl := hle j hj
    rw [lit_nI 4, if_neg (nI_nlt (by omega) (by omega)), hse c hc j hj, Option.bind_some]
    refine tt_bind (P1 := fun y => y = (pm (hY S b n 0 c 0 j), i2)) ?_ ?_
    · unfold hY
      by_cases c1 : hbad c j = true
      · rw [if_pos c1, if_pos (show (-1 : Int32) = -1 from rfl), if_pos c1, pm_0]
        exact tt_some rfl
      · obtain ⟨g1, -⟩ := hgo_lt c hc j hj
        rw [if_neg c1, if_neg (nI_m1 (by omega)), if_neg c1, nI_1]
        exact tt_eq (v_by hw hn hi2 (n := n) (d := 0) (m := 0) (by omega) g1 hpp (by omega)) (tt_some rfl)
    · rintro _ rfl
      dsimp only
      have eb : bst (hY S b n 0 c 0) (j + 1) = if (bst (hY S b n 0 c 0) j).1 < hY S b n 0 c 0 j then (hY S b n 0 c 0 j, some j) else bst (hY S b n 0 c 0) j := rfl
      by_cases c2 : (bst (hY S b n 0 c 0) j).1 < hY S b n 0 c 0 j
      · rw [if_pos c2] at eb
        rw [if_pos ((pm_lt (by omega) (by omega)).mpr c2), if_pos (show nI 0 = 0 from rfl)]
        refine tt_bind (P1 := fun y => y = (pm (hY S b n 0 c 0 j), wr i2 1603 6 (nI j))) (tt_bnd (tt_some rfl)) ?_
        rintro _ rfl
        refine tt_some ⟨by rw [eb], nI_1 j, fun b' j' hb => ?_, fun v hv => ?_⟩
        · show wr i2 1603 6 (nI j) b' j' = _
          have : wr i2 1603 6 (nI j) b' j' = i2 b' j' := if_neg hb
          rw [this]; exact e3 b' j' hb
        · show wr i2 1603 6 (nI j) 1603 6 = _
          rw [eb] at hv
          have : j = v := Option.some.inj hv
          rw [wr_s, this]
      · rw [if_neg c2] at eb
        rw [if_neg (fun q => c2 ((pm_lt (by omega) (by omega)).mp q)), Option.bind_some]
        exact tt_some ⟨by rw [eb], nI_1 j, e3, fun v hv => e4 v (by rw [eb] at hv; exact hv)⟩
  · rintro ⟨x4, x5, i2⟩ ⟨e1, e2, e3, e4⟩
    dsimp only at e1 e2 e3 e4 ⊢
    subst e1 e2
    rw [lit_nI 4, if_pos (nI_lt (by decide) (by decide))]
    refine tt_some ⟨by rw [bs1], e3, ?_⟩
    rcases bs2 with ⟨q, -⟩ | ⟨v, q1, q2, q3, q4, q5⟩
    · omega
    · show i2 1603 6 = _
      rw [e4 v q2, hfv_eq q1 (by rw [← bs1]; exact q4) (fun k hk => by rw [← bs1]; exact q5 k hk)]
theorem dfl_0 (f : Nat) : dfl S 0 f = spo (S 2 f 3) (S 2 f 4) := rfl
theorem dfl_c (hw : Wf S) {f : Nat} (hf : f < nf S) (d : Nat) : dfl S d f = -1 ∧ dfl S (d + 1) f = -1 ∨ ∃ c, c < 25 ∧ dfl S d f = nI c ∧ dfl S (d + 1) f = sdr S (nI c) := by
  unfold dfl
  by_cases c : S 2 f 3 = 0
  · obtain ⟨-, -, -, k3⟩ := hw.2.2.1 f hf
    rw [if_pos c, if_pos c]
    right
    rcases k3 with ⟨-, c0, hc0, ec⟩ | ⟨e, -⟩ | ⟨e, -⟩ | ⟨e, -⟩
    · obtain ⟨c', h1, h2⟩ := sit_lt hw hc0 d
      rw [ec, h2]
      refine ⟨c', h1, rfl, ?_⟩
      show sdr S (sit S (nI c0) d) = _
      rw [h2]
    · rw [e] at c; exact absurd c (by decide)
    · rw [e] at c; exact absurd c (by decide)
    · rw [e] at c; exact absurd c (by decide)
  · rw [if_neg c, if_neg c]; exact Or.inl ⟨rfl, rfl⟩
theorem v_dfl (hw : Wf S) (h : CV i 1001 S) {f : Nat} (hf : f < nf S) (d : Nat) : f_Se_drift i 1001 (dfl S d f) = some (dfl S (d + 1) f) := by
  rcases dfl_c hw hf d with ⟨e1, e2⟩ | ⟨c, hc, e1, e2⟩
  · rw [e1, e2]
    unfold f_Se_drift
    rw [if_pos (by decide)]
  · rw [e1, e2, v_drift hw h hc]
def fH (i i' : MI) : Prop := ∀ b j, (b < 1603 ∨ 1614 ≤ b) → i' b j = i b j
theorem v_planH (hw : Wf S) (h : CV i 1001 S) {b n : Nat} (hb : b < nb S) (hn : n ≤ 5) : Tt (f_Co_plan i 1001 (nI b) (nI n)) (fun i' => i' 1603 5 = pm (hM S b n 0 (ix (S 3 b 0)) 0) ∧ i' 1603 6 = (if n = 0 then -1 else nI (hfv S b (n - 1) (ix (S 3 b 0)))) ∧ fH i i') := by
  have h8 := hw.1.f8
  have hb3 := hw.1.b3
  have hC : ∀ i' : MI, fH i i' → CV i' 1001 S := fun i' hf => h.congr (fun b k _ _ => hf b k (by omega)) hw.1
  obtain ⟨⟨c0, hc0, ec0⟩, -⟩ := hw.2.2.2.1 b hb
  unfold f_Co_plan
  rw [j_min, Option.bind_some, lit_nI 5, jmin_nI (by omega) (by omega), Nat.min_eq_left hn]
  refine tt_bnd ?_
  have f1 : fH i (wr i 1603 3 (nI n)) := fun b j hb => wr_a (by omega)
  rw [grd_nI (show b < 3 by omega) (by decide), v_aboard hw.1 (hC _ f1), Option.bind_some, j_bc, Option.bind_some, ix_nI (by omega), (h.2.2.2.1 b hb |> fun q => (show wr i 1603 3 (nI n) (1001 + 12 + b) 2 = S 3 b 2 by rw [wr_a (by omega)]; exact q.2.2))]
  refine tt_bnd ?_
  have f2 : fH i (wr (wr i 1603 3 (nI n)) 1603 4 (S 3 b 2 - bc (abd S (nI b)))) := fun b j hb => by rw [wr_a (by omega)]; exact f1 b j hb
  rw [v_placed hw.1 (hC _ f2) 0, Option.bind_some]
  refine tt_bnd ?_
  generalize hi9 : wr (wr (wr i 1603 3 (nI n)) 1603 4 (S 3 b 2 - bc (abd S (nI b)))) 1603 2 (nI (plc S 0)) = i9
  have f3 : fH i i9 := fun b j hb => by rw [← hi9, wr_a (by omega)]; exact f2 b j hb
  have g2 : i9 1603 2 = nI (plc S 0) := by rw [← hi9, wr_s]
  have g3 : i9 1603 3 = nI n := by rw [← hi9, wr_k (by decide), wr_k (by decide), wr_s]
  have g4 : i9 1603 4 = hrm S b := by rw [← hi9, wr_k (by decide), wr_s]; rfl
  refine tt_bind (P1 := fun i' => hOK S b n i' ∧ fH i i')
    (tt_loop (fun q (s : Int32 × MI) => s.1 = nI q ∧ (s.2 1603 2 = nI (plc S 0) ∧ s.2 1603 3 = nI n ∧ s.2 1603 4 = hrm S b) ∧ (∀ f, f < q → s.2 1611 f = S 2 f 1) ∧ (∀ d, d ≤ 5 → ∀ f, f < q → s.2 (1605 + d) f = dfl S d f) ∧ fH i s.2) (nf S) (by omega) ?_ ?_ ⟨rfl, ⟨g2, g3, g4⟩, fun f hf => by omega, fun d hd f hf => by omega, f3⟩) ?_
  · rintro q hq ⟨z, i2⟩ ⟨e1, e2, e3, e4, e5⟩
    dsimp only at e1 e2 e3 e4 e5 ⊢
    subst e1
    have hf := (hC i2 e5).2.2.1 q hq
    refine tt_ifp (show nI q < i2 1001 7 by rw [(hC i2 e5).1.1, hw.1.f]; exact nI_lt hq (by omega)) ?_
    rw [grd_nI (show q < 8 by omega) (by decide), ix_nI (by omega), hf.2.1]
    refine tt_bnd ?_
    rw [show wr i2 1611 q (S 2 q 1) (1001 + 3 + q) 4 = spo (S 2 q 3) (S 2 q 4) by rw [wr_a (by omega)]; exact hf.2.2.2.2.1]
    refine tt_bnd ?_
    generalize hi0 : wr (wr i2 1611 q (S 2 q 1)) (1605 + 0) q (spo (S 2 q 3) (S 2 q 4)) = i0
    have k1 : ∀ b j, ¬ (b = 1611 ∧ j = q) → ¬ (b = 1605 ∧ j = q) → i0 b j = i2 b j := fun b j hb hb2 => by
      rw [← hi0]
      have a1 : wr (wr i2 1611 q (S 2 q 1)) (1605 + 0) q (spo (S 2 q 3) (S 2 q 4)) b j = wr i2 1611 q (S 2 q 1) b j := if_neg hb2
      have a2 : wr i2 1611 q (S 2 q 1) b j = i2 b j := if_neg hb
      rw [a1, a2]
    have k2 : i0 1611 q = S 2 q 1 := by rw [← hi0, wr_a (by decide), wr_s]
    have k3 : i0 (1605 + 0) q = dfl S 0 q := by rw [← hi0, wr_s, dfl_0]
    refine tt_bind (P1 := fun i' => (∀ d, d ≤ 5 → i' (1605 + d) q = dfl S d q) ∧ ∀ b j, ¬ (1605 ≤ b ∧ b ≤ 1610 ∧ j = q) → i' b j = i0 b j)
      (tt_loop (fun p (s : Int32 × MI) => s.1 = nI (p + 1) ∧ (∀ d, d ≤ p → s.2 (1605 + d) q = dfl S d q) ∧ ∀ b j, ¬ (1605 ≤ b ∧ b ≤ 1610 ∧ j = q) → s.2 b j = i0 b j) 5 (by omega) ?_ ?_ ⟨rfl, fun d hd => by rw [show d = 0 by omega]; exact k3, fun _ _ _ => rfl⟩) ?_
    · rintro p hp ⟨z, i3⟩ ⟨u1, u2, u3⟩
      dsimp only at u1 u2 u3 ⊢
      subst u1
      have hc3 : CV i3 1001 S := hC i3 (fun b j hb => by rw [u3 b j (by omega), k1 b j (by omega) (by omega)]; exact e5 b j hb)
      rw [if_neg (nI_nlt (by omega) (by omega)), grd_nI (show p + 1 < 6 by omega) (by decide), nI_pred, grd_nI (show p < 6 by omega) (by decide), grd_nI (show q < 8 by omega) (by decide), ix_nI (by omega), u2 p (Nat.le_refl p), v_dfl hw hc3 hq, Option.bind_some, ix_nI (by omega)]
      refine tt_bnd (tt_some ⟨nI_1 (p + 1), fun d hd => ?_, fun b j hb => ?_⟩)
      · show wr i3 (1605 + (p + 1)) q (dfl S (p + 1) q) (1605 + d) q = _
        by_cases e : d = p + 1
        · subst e; rw [wr_s]
        · rw [wr_a (by omega)]; exact u2 d (by omega)
      · show wr i3 (1605 + (p + 1)) q (dfl S (p + 1) q) b j = _
        have : wr i3 (1605 + (p + 1)) q (dfl S (p + 1) q) b j = i3 b j := if_neg (by omega)
        rw [this]; exact u3 b j hb
    · rintro ⟨z, i3⟩ ⟨u1, u2, u3⟩
      dsimp only at u1 u2 u3 ⊢
      subst u1
      rw [if_pos (nI_lt (by omega) (by omega))]
      exact tt_some ⟨u2, u3⟩
    · rintro i3 ⟨u2, u3⟩
      refine tt_some ⟨nI_1 q, ⟨?_, ?_, ?_⟩, fun f hf => ?_, fun d hd f hf => ?_, fun b j hb => ?_⟩
      · show i3 1603 2 = _
        rw [u3 _ _ (by omega), k1 _ _ (by omega) (by omega)]; exact e2.1
      · show i3 1603 3 = _
        rw [u3 _ _ (by omega), k1 _ _ (by omega) (by omega)]; exact e2.2.1
      · show i3 1603 4 = _
        rw [u3 _ _ (by omega), k1 _ _ (by omega) (by omega)]; exact e2.2.2
      · show i3 1611 f = _
        rw [u3 _ _ (by omega)]
        by_cases e : f = q
        · subst e; exact k2
        · rw [k1 _ _ (by omega) (by omega)]; exact e3 f (by omega)
      · show i3 (1605 + d) f = _
        by_cases e : f = q
        · subst e; exact u2 d hd
        · rw [u3 _ _ (by omega), k1 _ _ (by omega) (by omega)]; exact e4 d hd f (by omega)
      · show i3 b j = _
        rw [u3 _ _ (by omega), k1 _ _ (by omega) (by omega)]; exact e5 b j hb
  · rintro ⟨z, i2⟩ ⟨e1, e2, e3, e4, e5⟩
    dsimp only at e1 e2 e3 e4 e5 ⊢
    subst e1
    refine tt_ifn (show ¬ nI (nf S) < i2 1001 7 by rw [(hC i2 e5).1.1, hw.1.f]; exact nI_nlt (Nat.le_refl _) (by omega)) ?_
    exact tt_some ⟨⟨e2.1, e2.2.1, e2.2.2, e3, e4⟩, e5⟩
  rintro i2 ⟨hok, e5⟩
  refine tt_bnd ?_
  have hok3 : hOK S b n (wr i2 1603 6 (-1)) := hok.c6 (fun b j hb => if_neg hb)
  rw [show wr i2 1603 6 (-1) (1001 + 12 + b) 0 = nI c0 by rw [wr_a (by omega), ((hC i2 e5).2.2.2.1 b hb).1, ec0]]
  refine tt_bind (P1 := fun y => y.1 = pm (hM S b n 0 c0 0) ∧ (∀ b j, ¬ (b = 1603 ∧ j = 6) → y.2 b j = wr i2 1603 6 (-1) b j) ∧ y.2 1603 6 = (if n = 0 then -1 else nI (hfv S b (n - 1) c0))) ?_ ?_
  · cases n with
    | zero =>
      show Tt (fb_Co_mostFrom (fx_Co 11).1 (fx_Co 11).2 (wr i2 1603 6 (-1)) (nI 0) (nI c0) (nI 0)) _
      unfold fb_Co_mostFrom
      rw [hok3.2.1, if_neg (nI_nlt (Nat.le_refl _) (by omega))]
      refine tt_some ⟨?_, fun _ _ _ => rfl, ?_⟩
      · show (0 : Int32) = _
        rw [show hM S b 0 0 c0 0 = 1 from rfl]; rfl
      · show wr i2 1603 6 (-1) 1603 6 = _
        rw [wr_s, if_pos rfl]
    | succ n =>
      refine tt_mono (v_most0 hw hn hok3 hc0) ?_
      rintro y ⟨y1, y2, y3⟩
      exact ⟨y1, y2, by rw [if_neg (by omega)]; exact y3⟩
  · rintro ⟨v, i3⟩ ⟨y1, y2, y3⟩
    dsimp only at y1 y2 y3 ⊢
    subst y1
    refine tt_bnd (tt_some ⟨?_, ?_, fun b j hb => ?_⟩)
    · rw [wr_s, ec0, ix_nI (by omega)]
    · rw [wr_k (by decide), y3, ec0, ix_nI (by omega)]
    · rw [wr_a (by omega), y2 b j (by omega), wr_a (by omega)]; exact e5 b j hb
theorem fH.cq {i i' : MI} (h : fH i i') : CQ lw i i' := fun b j _ h2 => h b j (by unfold cqs at h2; omega)
theorem v_haul (hw : Wf S) (h : CV i 1001 S) (x w : Int32) : Tt (f_Lc_haul i x w) (CO [22, 20] lw i (spHaul S x w)) := by
  have hb3 := hw.1.b3
  unfold f_Lc_haul spHaul
  rw [v_needBoat hw.1 h]
  by_cases ho : okx x (nb S) = true
  · rw [if_pos ho, if_pos ho, Option.bind_some]
    obtain ⟨b, hb, rfl⟩ := okx_of (by omega) ho
    dsimp only
    rw [v_within]
    by_cases hww : win w 0 5 = true
    · rw [if_pos hww, if_pos hww, Option.bind_some]
      obtain ⟨n, hn, rfl⟩ := win_of (n := 5) (by decide) hww
      dsimp only
      refine tt_bind (v_planH hw h hb hn) ?_
      rintro i2 ⟨e1, e2, e3⟩
      rw [e1, ix_nI (by omega), ix_nI (by omega)]
      exact tt_some ⟨rfl, e3.cq⟩
    · rw [if_neg hww, if_neg hww]; exact tt_some ⟨rfl, CQ.refl _ _⟩
  · rw [if_neg ho, if_neg ho]; exact tt_some ⟨rfl, CQ.refl _ _⟩
theorem v_first (hw : Wf S) (h : CV i 1001 S) (x w : Int32) : Tt (f_Lc_first i x w) (CO [22, 20] lw i (spFirst S x w)) := by
  have hb3 := hw.1.b3
  unfold f_Lc_first spFirst
  rw [v_needBoat hw.1 h]
  by_cases ho : okx x (nb S) = true
  · rw [if_pos ho, if_pos ho, Option.bind_some]
    obtain ⟨b, hb, rfl⟩ := okx_of (by omega) ho
    dsimp only
    rw [v_within]
    by_cases hww : win w 0 5 = true
    · rw [if_pos hww, if_pos hww, Option.bind_some]
      obtain ⟨n, hn, rfl⟩ := win_of (n := 5) (by decide) hww
      dsimp only
      refine tt_bind (v_planH hw h hb hn) ?_
      rintro i2 ⟨e1, e2, e3⟩
      rw [e2, ix_nI (by omega)]
      refine tt_some ⟨?_, e3.cq⟩
      by_cases h0 : n = 0
      · subst h0; rw [if_pos rfl, if_pos (show nI 0 = 0 from rfl)]; rfl
      · rw [if_neg h0, if_neg (fun q => h0 ((nI_z (by omega)).mp q)), show nI n - 1 = nI (n - 1) by rw [show n = (n - 1) + 1 by omega, nI_pred]; rfl, ix_nI (by omega)]; rfl
    · rw [if_neg hww, if_neg hww]; exact tt_some ⟨rfl, CQ.refl _ _⟩
  · rw [if_neg ho, if_neg ho]; exact tt_some ⟨rfl, CQ.refl _ _⟩
end HAULC
