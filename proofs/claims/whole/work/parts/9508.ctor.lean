/-! ===== the constructors (written by wip/gen/mk9508.py) ===== -/
/-- a constructor ended: its region, the sorts of its cells, ints and references there -/
def CTO (lo hi dU : Nat) (TT : List (Nat × Nat × Nat)) (II : List (Nat × Nat × Int32)) (RR : List (Nat × Nat × Nat)) (U : Nat) (t : MT) (i : MI) (r : MR) (q : oR × aH) : Prop := ∃ t' i' r', q = (.inl none, (hi, U + dU, t', i', r')) ∧ (∀ b, (b < lo ∨ hi ≤ b) → t' b = t b) ∧ (∀ b j, (b < lo ∨ hi ≤ b) → i' b j = i b j) ∧ (∀ b j, (b < lo ∨ hi ≤ b) → r' b j = r b j) ∧
  (∀ x ∈ TT, t' x.1 = x.2) ∧ (∀ x ∈ II, i' x.1 x.2.1 = x.2.2) ∧ (∀ x ∈ RR, r' x.1 x.2.1 = x.2.2)
def nw2 (N n k : Nat) (t : MT) (i : MI) (r : MR) (t' : MT) (i' : MI) (r' : MR) : Prop := (∀ b, t' b = if b = N then (104, n) else if N < b ∧ b ≤ N + n then (100, k) else t b) ∧ (∀ b j, i' b j = if N ≤ b ∧ b ≤ N + n then 0 else i b j) ∧ (∀ b j, r' b j = if b = N then (if j < n then N + 1 + j else 0) else if N < b ∧ b ≤ N + n then 0 else r b j)
section CTOR
variable {d pc nx tg N U N2 U2 : Nat} {M : mM} {cst : Int32} {L S : List Value} {t : MT} {i : MI} {r : MR} {Q : oR × aH → Prop}
theorem ex_newaN {ty : ArrayType} {k : Nat} {j : Int32} (hf : M.1[pc]? = some (.newarray ty, cst, nx, tg)) (ht : tagA ty ≤ 103) (hi : j = nI k) (hn : k ≤ 1000000) (hN : N2 = N + 1) (hU : U2 = U + k) (kk : ∀ t' i' r', nwc N (tagA ty, k) t i r t' i' r' → Ex d M (nx, L, .ref N :: S, (N2, U2, t', i', r')) Q) : Ex d M (pc, L, .int j :: S, (N, U, t, i, r)) Q := by
  subst hN hU
  exact ex_newaT hf ht hi hn kk
theorem ex_newN {c : Nat} (hf : M.1[pc]? = some (.new c, cst, nx, tg)) (hc : c < 13) (hN : N2 = N + 1) (hU : U2 = U + nF c) (kk : ∀ t' i' r', nwc N (c, nF c) t i r t' i' r' → Ex d M (nx, L, .ref N :: S, (N2, U2, t', i', r')) Q) : Ex d M (pc, L, S, (N, U, t, i, r)) Q := by
  subst hN hU
  exact ex_newT hf hc kk
theorem ex_anaN {k c9 : Nat} {j : Int32} (hf : M.1[pc]? = some (.anewarray c9, cst, nx, tg)) (hi : j = nI k) (hn : k ≤ 1000000) (hN : N2 = N + 1) (hU : U2 = U + k) (kk : ∀ t' i' r', nwc N (105, k) t i r t' i' r' → Ex d M (nx, L, .ref N :: S, (N2, U2, t', i', r')) Q) : Ex d M (pc, L, .int j :: S, (N, U, t, i, r)) Q := by
  subst hN hU hi
  refine Ex.step (c' := (nx, L, .ref N :: S, aNew (N, U, t, i, r) 105 k k)) (fun kk => ?_) (kk _ _ _ ⟨fun _ => rfl, fun _ _ => rfl, fun _ _ => rfl⟩)
  simp only [stp, hf, pS, sS, nI_clamp (show k < 2 ^ 31 by omega)]
  rw [if_pos ⟨nI_pos (by omega), hn⟩]
  rfl
theorem ex_mnaN {n k : Nat} {c8 c9 : Nat} (hf : M.1[pc]? = some (.multianewarray c8 c9, cst, nx, tg)) (hn : n ≤ 10000) (hk : k ≤ 10000) (hN : N2 = N + 1 + n) (hU : U2 = U + (n + n * k)) (kk : ∀ t' i' r', nw2 N n k t i r t' i' r' → Ex d M (nx, L, .ref N :: S, (N2, U2, t', i', r')) Q) : Ex d M (pc, L, .int (nI k) :: .int (nI n) :: S, (N, U, t, i, r)) Q := by
  subst hN hU
  refine Ex.step (c' := (nx, L, .ref N :: S, aNew2 (N, U, t, i, r) n k)) (fun kk => ?_) (kk _ _ _ ⟨fun _ => rfl, fun _ _ => rfl, fun _ _ => rfl⟩)
  simp only [stp, hf, pS, sS, nI_clamp (show k < 2 ^ 31 by omega), nI_clamp (show n < 2 ^ 31 by omega)]
  rw [if_pos ⟨nI_pos (by omega), nI_pos (by omega), hn, hk⟩]
  rfl
theorem ex_iastT {a jn len : Nat} {j x : Int32} (hf : M.1[pc]? = some (.iastore, cst, nx, tg)) (ht : t a = (100, len)) (h1 : 1000 ≤ a) (hj : j = nI jn) (hl : jn < len) (hb : jn < 2 ^ 31) (kk : Ex d M (nx, L, S, (N, U, t, wr i a jn x, r)) Q) : Ex d M (pc, L, .int x :: .int j :: .ref a :: S, (N, U, t, i, r)) Q :=
  ex_iast (h := (N, U, t, i, r)) hf (by show (t a).1 = 100; rw [ht]) h1 hj (by show jn < (t a).2; rw [ht]; exact hl) hb kk
theorem ex_aastT {a jn len b : Nat} {j : Int32} (hf : M.1[pc]? = some (.aastore, cst, nx, tg)) (ht : t a = (105, len)) (h1 : 1000 ≤ a) (hb : (t b).1 = 7) (hb1 : 1000 ≤ b) (hj : j = nI jn) (hl : jn < len) (h31 : jn < 2 ^ 31) (kk : Ex d M (nx, L, S, (N, U, t, i, wrR r a jn b)) Q) : Ex d M (pc, L, .ref b :: .int j :: .ref a :: S, (N, U, t, i, r)) Q := by
  subst hj
  refine Ex.step (c' := (nx, L, S, aSR (N, U, t, i, r) a jn b)) (fun kk => ?_) kk
  simp only [stp, hf, pS, sS]
  rw [if_pos ⟨by show (t a).1 = 105; rw [ht], h1, hb, hb1, nI_pos h31, by rw [nI_clamp h31]; show jn < (t a).2; rw [ht]; exact hl⟩, nI_clamp h31]

set_option maxHeartbeats 4000000 in
theorem c_J_fill0 {n u : Nat} {t : MT} {i : MI} {r : MR} (v0 l0 : Nat) (ht0 : t v0 = (100, l0)) (hg0 : 1000 ≤ v0) (x1 : Int32) : Cn 1 369 [.ref v0, .int x1] (n, u, t, i, r) (f_J_fill i v0 l0 x1) (F_v1 n u t r) PT := by
  refine cn_of (Y := K_J_fill) (L0 := [.ref v0, .int x1, uV, uV]) rfl rfl rfl ?_
  intro d hd
  unfold f_J_fill
  refine ge_run (pc' := 3) (L' := [.ref v0, .int x1, .int (0 : Int32), uV]) (S' := [.ref v0]) 3 rfl ?_
  refine ge_alen rfl ht0 (by decide) ?_
  refine ge_run (pc' := 5) (L' := [.ref v0, .int x1, .int (0 : Int32), .int (nI l0)]) (S' := []) 1 rfl ?_
  refine ge_bind (K1 := fun (q : MI) e => ∃ w_4 : Value, e = .inl (14, [.ref v0, .int x1, w_4, .int (nI l0)], [], (n, u, t, q, r))) (ge_itr (C := fun (q : Int32 × MI) e => e = .inl (5, [.ref v0, .int x1, .int q.1, .int (nI l0)], [], (n, u, t, q.2, r))) ?_ _ _ _ rfl) ?_
  · rintro ⟨x2_1, i_2⟩ _ rfl
    try dsimp only
    refine ge_run (pc' := 7) (L' := [.ref v0, .int x1, .int x2_1, .int (nI l0)]) (S' := [.int (nI l0), .int x2_1]) 2 rfl ?_
    refine ge_ge rfl (fun h_5 => ?_) (fun h_9 => ?_)
    · refine ge_run (pc' := 11) (L' := [.ref v0, .int x1, .int x2_1, .int (nI l0)]) (S' := [.int x1, .int x2_1, .ref v0]) 3 rfl ?_
      refine ge_grd (fun g_6 g_7 => ?_)
      refine ge_iast (jn := (ix x2_1)) rfl ht0 hg0 ⟨g_6, rfl⟩ g_7 (fun i_8 => ?_)
      refine ge_run (pc' := 5) (L' := [.ref v0, .int x1, .int (x2_1 + (1 : Int32)), .int (nI l0)]) (S' := []) 2 rfl ?_
      exact ge_leaf (K := kX _ _) rfl
    · exact ge_leaf (K := kX _ _) (Exists.intro _ rfl)
  · rintro i_3 _ ⟨w_4, rfl⟩
    try dsimp only
    exact ge_retv rfl rfl (And.intro rfl trivial)
theorem r_fill {v l : Nat} (hv : t v = (100, l)) (h1 : 1000 ≤ v) (hl : l ≤ 10000) (x : Int32) (hd : 1 ≤ d) : Rn d 369 [.ref v, .int x] (N, U, t, i, r) (fun q => ∃ i', q = (.inl none, (N, U, t, i', r)) ∧ ∀ c j, i' c j = if c = v ∧ j < l then x else i c j) := by
  obtain ⟨i', ho, hi⟩ := v_filln (i := i) (v := v) hl x
  exact (c_J_fill0 v l hv h1 x d hd _ ho).2.mono (fun q hq => ⟨i', hq, hi⟩)
set_option maxHeartbeats 4000000 in
theorem rn_La_init {o : Nat} (ho : t o = (2, 6)) (hge : 1000 ≤ o) (hd : 1 ≤ d) : Rn d 17 [.ref o] (o + 1, U, t, i, r) (CTO o (o + 6) 33 [(o, 2, 6), (o + 1, 100, 32), (o + 2, 100, 0), (o + 3, 100, 0), (o + 4, 100, 1), (o + 5, 100, 0)] [(o, 0, (-1))] [(o, 1, o + 2), (o, 2, o + 3), (o, 3, o + 4), (o, 4, o + 5), (o, 5, o + 1)] U t i r) := by
  refine Rn.of' (H := 0) (M := K_La_init) (L := [.ref o]) hd rfl (by show (1 : Nat) ≤ 1; omega) rfl rfl (fun d hd => ?_)
  refine Ex.run 1 (pc' := 1) (L' := [.ref o]) (S' := [.ref o]) rfl ?_
  refine ex_obj rfl (by omega) rfl ?_
  refine Ex.run 2 (pc' := 4) (L' := [.ref o]) (S' := [.int 32, .ref o]) rfl ?_
  refine ex_newaN (k := 32) (N2 := (o + 2)) (U2 := U + 32) rfl (by decide) rfl (by decide) rfl rfl (fun t1 i1 r1 h1 => ?_)
  refine ex_putRT rfl ((h1.to (b := o) (by omega)).trans ho) (by omega) rfl (by omega) ?_
  have w2 : ∀ b j, ¬ (b = o ∧ j = 5) → wrR r1 o 5 (o + 1) b j = r1 b j := fun b j q => wrR_o q
  have v2 : wrR r1 o 5 (o + 1) o 5 = (o + 1) := wrR_s
  generalize wrR r1 o 5 (o + 1) = r2 at w2 v2 ⊢
  refine Ex.run 2 (pc' := 8) (L' := [.ref o]) (S' := [.int (-1), .ref o]) rfl ?_
  refine ex_putIT rfl ((h1.to (b := o) (by omega)).trans ho) (by omega) rfl ?_
  have w3 : ∀ b j, ¬ (b = o ∧ j = 0) → wr i1 o 0 (-1) b j = i1 b j := fun b j q => if_neg q
  have v3 : wr i1 o 0 (-1) o 0 = (-1) := wr_s
  generalize wr i1 o 0 (-1) = i3 at w3 v3 ⊢
  refine Ex.run 2 (pc' := 11) (L' := [.ref o]) (S' := [.int 0, .ref o]) rfl ?_
  refine ex_newaN (k := 0) (N2 := (o + 3)) (U2 := U + 32) rfl (by decide) rfl (by decide) rfl rfl (fun t4 i4 r4 h4 => ?_)
  refine ex_putRT rfl ((h4.to (b := o) (by omega)).trans ((h1.to (b := o) (by omega)).trans ho)) (by omega) rfl (by omega) ?_
  have w5 : ∀ b j, ¬ (b = o ∧ j = 1) → wrR r4 o 1 (o + 2) b j = r4 b j := fun b j q => wrR_o q
  have v5 : wrR r4 o 1 (o + 2) o 1 = (o + 2) := wrR_s
  generalize wrR r4 o 1 (o + 2) = r5 at w5 v5 ⊢
  refine Ex.run 2 (pc' := 15) (L' := [.ref o]) (S' := [.int 0, .ref o]) rfl ?_
  refine ex_newaN (k := 0) (N2 := (o + 4)) (U2 := U + 32) rfl (by decide) rfl (by decide) rfl rfl (fun t6 i6 r6 h6 => ?_)
  refine ex_putRT rfl ((h6.to (b := o) (by omega)).trans ((h4.to (b := o) (by omega)).trans ((h1.to (b := o) (by omega)).trans ho))) (by omega) rfl (by omega) ?_
  have w7 : ∀ b j, ¬ (b = o ∧ j = 2) → wrR r6 o 2 (o + 3) b j = r6 b j := fun b j q => wrR_o q
  have v7 : wrR r6 o 2 (o + 3) o 2 = (o + 3) := wrR_s
  generalize wrR r6 o 2 (o + 3) = r7 at w7 v7 ⊢
  refine Ex.run 2 (pc' := 19) (L' := [.ref o]) (S' := [.int 1, .ref o]) rfl ?_
  refine ex_newaN (k := 1) (N2 := (o + 5)) (U2 := U + 33) rfl (by decide) rfl (by decide) rfl rfl (fun t8 i8 r8 h8 => ?_)
  refine ex_putRT rfl ((h8.to (b := o) (by omega)).trans ((h6.to (b := o) (by omega)).trans ((h4.to (b := o) (by omega)).trans ((h1.to (b := o) (by omega)).trans ho)))) (by omega) rfl (by omega) ?_
  have w9 : ∀ b j, ¬ (b = o ∧ j = 3) → wrR r8 o 3 (o + 4) b j = r8 b j := fun b j q => wrR_o q
  have v9 : wrR r8 o 3 (o + 4) o 3 = (o + 4) := wrR_s
  generalize wrR r8 o 3 (o + 4) = r9 at w9 v9 ⊢
  refine Ex.run 2 (pc' := 23) (L' := [.ref o]) (S' := [.int 0, .ref o]) rfl ?_
  refine ex_newaN (k := 0) (N2 := (o + 6)) (U2 := U + 33) rfl (by decide) rfl (by decide) rfl rfl (fun t10 i10 r10 h10 => ?_)
  refine ex_putRT rfl ((h10.to (b := o) (by omega)).trans ((h8.to (b := o) (by omega)).trans ((h6.to (b := o) (by omega)).trans ((h4.to (b := o) (by omega)).trans ((h1.to (b := o) (by omega)).trans ho))))) (by omega) rfl (by omega) ?_
  have w11 : ∀ b j, ¬ (b = o ∧ j = 4) → wrR r10 o 4 (o + 5) b j = r10 b j := fun b j q => wrR_o q
  have v11 : wrR r10 o 4 (o + 5) o 4 = (o + 5) := wrR_s
  generalize wrR r10 o 4 (o + 5) = r11 at w11 v11 ⊢
  refine ex_retv rfl rfl ⟨t10, i10, r11, rfl, fun b hb => ((h10.to (b := b) (by omega)).trans ((h8.to (b := b) (by omega)).trans ((h6.to (b := b) (by omega)).trans ((h4.to (b := b) (by omega)).trans (h1.to (b := b) (by omega)))))), fun b j hb => ((h10.io (b := b) (j := j) (by omega)).trans ((h8.io (b := b) (j := j) (by omega)).trans ((h6.io (b := b) (j := j) (by omega)).trans ((h4.io (b := b) (j := j) (by omega)).trans ((w3 b j (by omega)).trans (h1.io (b := b) (j := j) (by omega))))))), fun b j hb => ((w11 b j (by omega)).trans ((h10.ro (b := b) (j := j) (by omega)).trans ((w9 b j (by omega)).trans ((h8.ro (b := b) (j := j) (by omega)).trans ((w7 b j (by omega)).trans ((h6.ro (b := b) (j := j) (by omega)).trans ((w5 b j (by omega)).trans ((h4.ro (b := b) (j := j) (by omega)).trans ((w2 b j (by omega)).trans (h1.ro (b := b) (j := j) (by omega))))))))))), ?_, ?_, ?_⟩
  · exact (List.forall_mem_cons.mpr ⟨((h10.to (b := o) (by omega)).trans ((h8.to (b := o) (by omega)).trans ((h6.to (b := o) (by omega)).trans ((h4.to (b := o) (by omega)).trans ((h1.to (b := o) (by omega)).trans ho))))), List.forall_mem_cons.mpr ⟨((h10.to (b := (o + 1)) (by omega)).trans ((h8.to (b := (o + 1)) (by omega)).trans ((h6.to (b := (o + 1)) (by omega)).trans ((h4.to (b := (o + 1)) (by omega)).trans h1.tn)))), List.forall_mem_cons.mpr ⟨((h10.to (b := (o + 2)) (by omega)).trans ((h8.to (b := (o + 2)) (by omega)).trans ((h6.to (b := (o + 2)) (by omega)).trans h4.tn))), List.forall_mem_cons.mpr ⟨((h10.to (b := (o + 3)) (by omega)).trans ((h8.to (b := (o + 3)) (by omega)).trans h6.tn)), List.forall_mem_cons.mpr ⟨((h10.to (b := (o + 4)) (by omega)).trans h8.tn), List.forall_mem_cons.mpr ⟨h10.tn, fun _ h => absurd h List.not_mem_nil⟩⟩⟩⟩⟩⟩)
  · exact (List.forall_mem_cons.mpr ⟨((h10.io (b := o) (j := 0) (by omega)).trans ((h8.io (b := o) (j := 0) (by omega)).trans ((h6.io (b := o) (j := 0) (by omega)).trans ((h4.io (b := o) (j := 0) (by omega)).trans v3)))), fun _ h => absurd h List.not_mem_nil⟩)
  · exact (List.forall_mem_cons.mpr ⟨((w11 o 1 (by omega)).trans ((h10.ro (b := o) (j := 1) (by omega)).trans ((w9 o 1 (by omega)).trans ((h8.ro (b := o) (j := 1) (by omega)).trans ((w7 o 1 (by omega)).trans ((h6.ro (b := o) (j := 1) (by omega)).trans v5)))))), List.forall_mem_cons.mpr ⟨((w11 o 2 (by omega)).trans ((h10.ro (b := o) (j := 2) (by omega)).trans ((w9 o 2 (by omega)).trans ((h8.ro (b := o) (j := 2) (by omega)).trans v7)))), List.forall_mem_cons.mpr ⟨((w11 o 3 (by omega)).trans ((h10.ro (b := o) (j := 3) (by omega)).trans v9)), List.forall_mem_cons.mpr ⟨v11, List.forall_mem_cons.mpr ⟨((w11 o 5 (by omega)).trans ((h10.ro (b := o) (j := 5) (by omega)).trans ((w9 o 5 (by omega)).trans ((h8.ro (b := o) (j := 5) (by omega)).trans ((w7 o 5 (by omega)).trans ((h6.ro (b := o) (j := 5) (by omega)).trans ((w5 o 5 (by omega)).trans ((h4.ro (b := o) (j := 5) (by omega)).trans v2)))))))), fun _ h => absurd h List.not_mem_nil⟩⟩⟩⟩⟩)
set_option maxHeartbeats 4000000 in
theorem rn_Lo_init {o : Nat} (ho : t o = (4, 3)) (hge : 1000 ≤ o) (hd : 1 ≤ d) : Rn d 30 [.ref o] (o + 1, U, t, i, r) (CTO o (o + 2) 300 [(o, 4, 3), (o + 1, 100, 300)] [(o, 1, 0), (o, 2, 0)] [(o, 0, o + 1)] U t i r) := by
  refine Rn.of' (H := 0) (M := K_Lo_init) (L := [.ref o]) hd rfl (by show (1 : Nat) ≤ 1; omega) rfl rfl (fun d hd => ?_)
  refine Ex.run 1 (pc' := 1) (L' := [.ref o]) (S' := [.ref o]) rfl ?_
  refine ex_obj rfl (by omega) rfl ?_
  refine Ex.run 2 (pc' := 4) (L' := [.ref o]) (S' := [.int 300, .ref o]) rfl ?_
  refine ex_newaN (k := 300) (N2 := (o + 2)) (U2 := U + 300) rfl (by decide) rfl (by decide) rfl rfl (fun t1 i1 r1 h1 => ?_)
  refine ex_putRT rfl ((h1.to (b := o) (by omega)).trans ho) (by omega) rfl (by omega) ?_
  have w2 : ∀ b j, ¬ (b = o ∧ j = 0) → wrR r1 o 0 (o + 1) b j = r1 b j := fun b j q => wrR_o q
  have v2 : wrR r1 o 0 (o + 1) o 0 = (o + 1) := wrR_s
  generalize wrR r1 o 0 (o + 1) = r2 at w2 v2 ⊢
  refine Ex.run 2 (pc' := 8) (L' := [.ref o]) (S' := [.int 0, .ref o]) rfl ?_
  refine ex_putIT rfl ((h1.to (b := o) (by omega)).trans ho) (by omega) rfl ?_
  have w3 : ∀ b j, ¬ (b = o ∧ j = 1) → wr i1 o 1 0 b j = i1 b j := fun b j q => if_neg q
  have v3 : wr i1 o 1 0 o 1 = 0 := wr_s
  generalize wr i1 o 1 0 = i3 at w3 v3 ⊢
  refine Ex.run 2 (pc' := 11) (L' := [.ref o]) (S' := [.int 0, .ref o]) rfl ?_
  refine ex_putIT rfl ((h1.to (b := o) (by omega)).trans ho) (by omega) rfl ?_
  have w4 : ∀ b j, ¬ (b = o ∧ j = 2) → wr i3 o 2 0 b j = i3 b j := fun b j q => if_neg q
  have v4 : wr i3 o 2 0 o 2 = 0 := wr_s
  generalize wr i3 o 2 0 = i4 at w4 v4 ⊢
  refine ex_retv rfl rfl ⟨t1, i4, r2, rfl, fun b hb => (h1.to (b := b) (by omega)), fun b j hb => ((w4 b j (by omega)).trans ((w3 b j (by omega)).trans (h1.io (b := b) (j := j) (by omega)))), fun b j hb => ((w2 b j (by omega)).trans (h1.ro (b := b) (j := j) (by omega))), ?_, ?_, ?_⟩
  · exact (List.forall_mem_cons.mpr ⟨((h1.to (b := o) (by omega)).trans ho), List.forall_mem_cons.mpr ⟨h1.tn, fun _ h => absurd h List.not_mem_nil⟩⟩)
  · exact (List.forall_mem_cons.mpr ⟨((w4 o 1 (by omega)).trans v3), List.forall_mem_cons.mpr ⟨v4, fun _ h => absurd h List.not_mem_nil⟩⟩)
  · exact (List.forall_mem_cons.mpr ⟨v2, fun _ h => absurd h List.not_mem_nil⟩)
set_option maxHeartbeats 4000000 in
theorem rn_Se_init {o : Nat} (ho : t o = (7, 17)) (hge : 1000 ≤ o) (hd : 2 ≤ d) : Rn d 45 [.ref o] (o + 1, U, t, i, r) (CTO o (o + 37) 486 [(o, 7, 17), (o + 1, 100, 25), (o + 2, 104, 8), (o + 3, 100, 6), (o + 4, 100, 6), (o + 5, 100, 6), (o + 6, 100, 6), (o + 7, 100, 6), (o + 8, 100, 6), (o + 9, 100, 6), (o + 10, 100, 6), (o + 11, 104, 3), (o + 12, 100, 3), (o + 13, 100, 3), (o + 14, 100, 3), (o + 15, 104, 5), (o + 16, 100, 4), (o + 17, 100, 4), (o + 18, 100, 4), (o + 19, 100, 4), (o + 20, 100, 4), (o + 21, 104, 6), (o + 22, 100, 2), (o + 23, 100, 2), (o + 24, 100, 2), (o + 25, 100, 2), (o + 26, 100, 2), (o + 27, 100, 2), (o + 28, 4, 3), (o + 29, 100, 300), (o + 30, 100, 8), (o + 31, 2, 6), (o + 32, 100, 32), (o + 33, 100, 0), (o + 34, 100, 0), (o + 35, 100, 1), (o + 36, 100, 0)] [(o, 7, 0), (o, 8, 0), (o, 9, 0), (o, 10, 0), (o, 11, 0), (o, 12, 10), (o, 13, 0), (o, 14, 0), (o, 15, 1), (o + 28, 1, 0), (o + 28, 2, 0), (o + 31, 0, (-1)), (o + 1, 0, 4), (o + 1, 1, 4), (o + 1, 2, 4), (o + 1, 3, 4), (o + 1, 4, 4), (o + 1, 5, 4), (o + 1, 6, 4), (o + 1, 7, 4), (o + 1, 8, 4), (o + 1, 9, 4), (o + 1, 10, 4), (o + 1, 11, 4), (o + 1, 12, 4), (o + 1, 13, 4), (o + 1, 14, 4), (o + 1, 15, 4), (o + 1, 16, 4), (o + 1, 17, 4), (o + 1, 18, 4), (o + 1, 19, 4), (o + 1, 20, 4), (o + 1, 21, 4), (o + 1, 22, 4), (o + 1, 23, 4), (o + 1, 24, 4)] [(o, 0, o + 1), (o, 1, o + 2), (o, 2, o + 11), (o, 3, o + 15), (o, 4, o + 21), (o, 5, o + 28), (o, 6, o + 30), (o, 16, o + 31), (o + 28, 0, o + 29), (o + 2, 0, o + 3), (o + 2, 1, o + 4), (o + 2, 2, o + 5), (o + 2, 3, o + 6), (o + 2, 4, o + 7), (o + 2, 5, o + 8), (o + 2, 6, o + 9), (o + 2, 7, o + 10), (o + 11, 0, o + 12), (o + 11, 1, o + 13), (o + 11, 2, o + 14), (o + 15, 0, o + 16), (o + 15, 1, o + 17), (o + 15, 2, o + 18), (o + 15, 3, o + 19), (o + 15, 4, o + 20), (o + 21, 0, o + 22), (o + 21, 1, o + 23), (o + 21, 2, o + 24), (o + 21, 3, o + 25), (o + 21, 4, o + 26), (o + 21, 5, o + 27), (o + 31, 1, o + 33), (o + 31, 2, o + 34), (o + 31, 3, o + 35), (o + 31, 4, o + 36), (o + 31, 5, o + 32)] U t i r) := by
  refine Rn.of' (H := 1) (M := K_Se_init) (L := [.ref o]) hd rfl (by show (1 : Nat) ≤ 1; omega) rfl rfl (fun d hd => ?_)
  refine Ex.run 1 (pc' := 1) (L' := [.ref o]) (S' := [.ref o]) rfl ?_
  refine ex_obj rfl (by omega) rfl ?_
  refine Ex.run 2 (pc' := 4) (L' := [.ref o]) (S' := [.int 25, .ref o]) rfl ?_
  refine ex_newaN (k := 25) (N2 := (o + 2)) (U2 := U + 25) rfl (by decide) rfl (by decide) rfl rfl (fun t1 i1 r1 h1 => ?_)
  refine ex_putRT rfl ((h1.to (b := o) (by omega)).trans ho) (by omega) rfl (by omega) ?_
  have w2 : ∀ b j, ¬ (b = o ∧ j = 0) → wrR r1 o 0 (o + 1) b j = r1 b j := fun b j q => wrR_o q
  have v2 : wrR r1 o 0 (o + 1) o 0 = (o + 1) := wrR_s
  generalize wrR r1 o 0 (o + 1) = r2 at w2 v2 ⊢
  refine Ex.run 3 (pc' := 9) (L' := [.ref o]) (S' := [.int 6, .int 8, .ref o]) rfl ?_
  refine ex_mnaN (n := 8) (k := 6) (N2 := (o + 11)) (U2 := U + 81) rfl (by decide) (by decide) rfl rfl (fun t3 i3 r3 h3 => ?_)
  refine ex_putRT rfl (((h3.1 o).trans ((if_neg (by omega)).trans (if_neg (by omega)))).trans ((h1.to (b := o) (by omega)).trans ho)) (by omega) rfl (by omega) ?_
  have w4 : ∀ b j, ¬ (b = o ∧ j = 1) → wrR r3 o 1 (o + 2) b j = r3 b j := fun b j q => wrR_o q
  have v4 : wrR r3 o 1 (o + 2) o 1 = (o + 2) := wrR_s
  generalize wrR r3 o 1 (o + 2) = r4 at w4 v4 ⊢
  refine Ex.run 3 (pc' := 14) (L' := [.ref o]) (S' := [.int 3, .int 3, .ref o]) rfl ?_
  refine ex_mnaN (n := 3) (k := 3) (N2 := (o + 15)) (U2 := U + 93) rfl (by decide) (by decide) rfl rfl (fun t5 i5 r5 h5 => ?_)
  refine ex_putRT rfl (((h5.1 o).trans ((if_neg (by omega)).trans (if_neg (by omega)))).trans (((h3.1 o).trans ((if_neg (by omega)).trans (if_neg (by omega)))).trans ((h1.to (b := o) (by omega)).trans ho))) (by omega) rfl (by omega) ?_
  have w6 : ∀ b j, ¬ (b = o ∧ j = 2) → wrR r5 o 2 (o + 11) b j = r5 b j := fun b j q => wrR_o q
  have v6 : wrR r5 o 2 (o + 11) o 2 = (o + 11) := wrR_s
  generalize wrR r5 o 2 (o + 11) = r6 at w6 v6 ⊢
  refine Ex.run 3 (pc' := 19) (L' := [.ref o]) (S' := [.int 4, .int 5, .ref o]) rfl ?_
  refine ex_mnaN (n := 5) (k := 4) (N2 := (o + 21)) (U2 := U + 118) rfl (by decide) (by decide) rfl rfl (fun t7 i7 r7 h7 => ?_)
  refine ex_putRT rfl (((h7.1 o).trans ((if_neg (by omega)).trans (if_neg (by omega)))).trans (((h5.1 o).trans ((if_neg (by omega)).trans (if_neg (by omega)))).trans (((h3.1 o).trans ((if_neg (by omega)).trans (if_neg (by omega)))).trans ((h1.to (b := o) (by omega)).trans ho)))) (by omega) rfl (by omega) ?_
  have w8 : ∀ b j, ¬ (b = o ∧ j = 3) → wrR r7 o 3 (o + 15) b j = r7 b j := fun b j q => wrR_o q
  have v8 : wrR r7 o 3 (o + 15) o 3 = (o + 15) := wrR_s
  generalize wrR r7 o 3 (o + 15) = r8 at w8 v8 ⊢
  refine Ex.run 3 (pc' := 24) (L' := [.ref o]) (S' := [.int 2, .int 6, .ref o]) rfl ?_
  refine ex_mnaN (n := 6) (k := 2) (N2 := (o + 28)) (U2 := U + 136) rfl (by decide) (by decide) rfl rfl (fun t9 i9 r9 h9 => ?_)
  refine ex_putRT rfl (((h9.1 o).trans ((if_neg (by omega)).trans (if_neg (by omega)))).trans (((h7.1 o).trans ((if_neg (by omega)).trans (if_neg (by omega)))).trans (((h5.1 o).trans ((if_neg (by omega)).trans (if_neg (by omega)))).trans (((h3.1 o).trans ((if_neg (by omega)).trans (if_neg (by omega)))).trans ((h1.to (b := o) (by omega)).trans ho))))) (by omega) rfl (by omega) ?_
  have w10 : ∀ b j, ¬ (b = o ∧ j = 4) → wrR r9 o 4 (o + 21) b j = r9 b j := fun b j q => wrR_o q
  have v10 : wrR r9 o 4 (o + 21) o 4 = (o + 21) := wrR_s
  generalize wrR r9 o 4 (o + 21) = r10 at w10 v10 ⊢
  refine Ex.run 1 (pc' := 27) (L' := [.ref o]) (S' := [.ref o]) rfl ?_
  refine ex_newN (N2 := (o + 29)) (U2 := U + 139) rfl (by decide) rfl rfl (fun t11 i11 r11 h11 => ?_)
  refine Ex.run 1 (pc' := 29) (L' := [.ref o]) (S' := [.ref (o + 28), .ref (o + 28), .ref o]) rfl ?_
  refine ex_callV (Or.inr ⟨rfl, by decide, by decide⟩) rfl (by decide) (congrArg Prod.fst h11.tn) rfl rfl rfl (rn_Lo_init h11.tn (by omega) (by omega)) ?_
  rintro _ ⟨t12, i12, r12, rfl, ft12, fi12, fr12, fT12, fI12, fR12⟩
  dsimp only
  refine ex_putRT rfl ((ft12 o (by omega)).trans ((h11.to (b := o) (by omega)).trans (((h9.1 o).trans ((if_neg (by omega)).trans (if_neg (by omega)))).trans (((h7.1 o).trans ((if_neg (by omega)).trans (if_neg (by omega)))).trans (((h5.1 o).trans ((if_neg (by omega)).trans (if_neg (by omega)))).trans (((h3.1 o).trans ((if_neg (by omega)).trans (if_neg (by omega)))).trans ((h1.to (b := o) (by omega)).trans ho))))))) (by omega) rfl (by omega) ?_
  have w13 : ∀ b j, ¬ (b = o ∧ j = 5) → wrR r12 o 5 (o + 28) b j = r12 b j := fun b j q => wrR_o q
  have v13 : wrR r12 o 5 (o + 28) o 5 = (o + 28) := wrR_s
  generalize wrR r12 o 5 (o + 28) = r13 at w13 v13 ⊢
  refine Ex.run 2 (pc' := 33) (L' := [.ref o]) (S' := [.int 8, .ref o]) rfl ?_
  refine ex_newaN (k := 8) (N2 := (o + 31)) (U2 := U + 447) rfl (by decide) rfl (by decide) rfl rfl (fun t14 i14 r14 h14 => ?_)
  refine ex_putRT rfl ((h14.to (b := o) (by omega)).trans ((ft12 o (by omega)).trans ((h11.to (b := o) (by omega)).trans (((h9.1 o).trans ((if_neg (by omega)).trans (if_neg (by omega)))).trans (((h7.1 o).trans ((if_neg (by omega)).trans (if_neg (by omega)))).trans (((h5.1 o).trans ((if_neg (by omega)).trans (if_neg (by omega)))).trans (((h3.1 o).trans ((if_neg (by omega)).trans (if_neg (by omega)))).trans ((h1.to (b := o) (by omega)).trans ho)))))))) (by omega) rfl (by omega) ?_
  have w15 : ∀ b j, ¬ (b = o ∧ j = 6) → wrR r14 o 6 (o + 30) b j = r14 b j := fun b j q => wrR_o q
  have v15 : wrR r14 o 6 (o + 30) o 6 = (o + 30) := wrR_s
  generalize wrR r14 o 6 (o + 30) = r15 at w15 v15 ⊢
  refine Ex.run 2 (pc' := 37) (L' := [.ref o]) (S' := [.int 0, .ref o]) rfl ?_
  refine ex_putIT rfl ((h14.to (b := o) (by omega)).trans ((ft12 o (by omega)).trans ((h11.to (b := o) (by omega)).trans (((h9.1 o).trans ((if_neg (by omega)).trans (if_neg (by omega)))).trans (((h7.1 o).trans ((if_neg (by omega)).trans (if_neg (by omega)))).trans (((h5.1 o).trans ((if_neg (by omega)).trans (if_neg (by omega)))).trans (((h3.1 o).trans ((if_neg (by omega)).trans (if_neg (by omega)))).trans ((h1.to (b := o) (by omega)).trans ho)))))))) (by omega) rfl ?_
  have w16 : ∀ b j, ¬ (b = o ∧ j = 7) → wr i14 o 7 0 b j = i14 b j := fun b j q => if_neg q
  have v16 : wr i14 o 7 0 o 7 = 0 := wr_s
  generalize wr i14 o 7 0 = i16 at w16 v16 ⊢
  refine Ex.run 2 (pc' := 40) (L' := [.ref o]) (S' := [.int 0, .ref o]) rfl ?_
  refine ex_putIT rfl ((h14.to (b := o) (by omega)).trans ((ft12 o (by omega)).trans ((h11.to (b := o) (by omega)).trans (((h9.1 o).trans ((if_neg (by omega)).trans (if_neg (by omega)))).trans (((h7.1 o).trans ((if_neg (by omega)).trans (if_neg (by omega)))).trans (((h5.1 o).trans ((if_neg (by omega)).trans (if_neg (by omega)))).trans (((h3.1 o).trans ((if_neg (by omega)).trans (if_neg (by omega)))).trans ((h1.to (b := o) (by omega)).trans ho)))))))) (by omega) rfl ?_
  have w17 : ∀ b j, ¬ (b = o ∧ j = 8) → wr i16 o 8 0 b j = i16 b j := fun b j q => if_neg q
  have v17 : wr i16 o 8 0 o 8 = 0 := wr_s
  generalize wr i16 o 8 0 = i17 at w17 v17 ⊢
  refine Ex.run 2 (pc' := 43) (L' := [.ref o]) (S' := [.int 0, .ref o]) rfl ?_
  refine ex_putIT rfl ((h14.to (b := o) (by omega)).trans ((ft12 o (by omega)).trans ((h11.to (b := o) (by omega)).trans (((h9.1 o).trans ((if_neg (by omega)).trans (if_neg (by omega)))).trans (((h7.1 o).trans ((if_neg (by omega)).trans (if_neg (by omega)))).trans (((h5.1 o).trans ((if_neg (by omega)).trans (if_neg (by omega)))).trans (((h3.1 o).trans ((if_neg (by omega)).trans (if_neg (by omega)))).trans ((h1.to (b := o) (by omega)).trans ho)))))))) (by omega) rfl ?_
  have w18 : ∀ b j, ¬ (b = o ∧ j = 9) → wr i17 o 9 0 b j = i17 b j := fun b j q => if_neg q
  have v18 : wr i17 o 9 0 o 9 = 0 := wr_s
  generalize wr i17 o 9 0 = i18 at w18 v18 ⊢
  refine Ex.run 2 (pc' := 46) (L' := [.ref o]) (S' := [.int 0, .ref o]) rfl ?_
  refine ex_putIT rfl ((h14.to (b := o) (by omega)).trans ((ft12 o (by omega)).trans ((h11.to (b := o) (by omega)).trans (((h9.1 o).trans ((if_neg (by omega)).trans (if_neg (by omega)))).trans (((h7.1 o).trans ((if_neg (by omega)).trans (if_neg (by omega)))).trans (((h5.1 o).trans ((if_neg (by omega)).trans (if_neg (by omega)))).trans (((h3.1 o).trans ((if_neg (by omega)).trans (if_neg (by omega)))).trans ((h1.to (b := o) (by omega)).trans ho)))))))) (by omega) rfl ?_
  have w19 : ∀ b j, ¬ (b = o ∧ j = 10) → wr i18 o 10 0 b j = i18 b j := fun b j q => if_neg q
  have v19 : wr i18 o 10 0 o 10 = 0 := wr_s
  generalize wr i18 o 10 0 = i19 at w19 v19 ⊢
  refine Ex.run 2 (pc' := 49) (L' := [.ref o]) (S' := [.int 0, .ref o]) rfl ?_
  refine ex_putIT rfl ((h14.to (b := o) (by omega)).trans ((ft12 o (by omega)).trans ((h11.to (b := o) (by omega)).trans (((h9.1 o).trans ((if_neg (by omega)).trans (if_neg (by omega)))).trans (((h7.1 o).trans ((if_neg (by omega)).trans (if_neg (by omega)))).trans (((h5.1 o).trans ((if_neg (by omega)).trans (if_neg (by omega)))).trans (((h3.1 o).trans ((if_neg (by omega)).trans (if_neg (by omega)))).trans ((h1.to (b := o) (by omega)).trans ho)))))))) (by omega) rfl ?_
  have w20 : ∀ b j, ¬ (b = o ∧ j = 11) → wr i19 o 11 0 b j = i19 b j := fun b j q => if_neg q
  have v20 : wr i19 o 11 0 o 11 = 0 := wr_s
  generalize wr i19 o 11 0 = i20 at w20 v20 ⊢
  refine Ex.run 2 (pc' := 52) (L' := [.ref o]) (S' := [.int 10, .ref o]) rfl ?_
  refine ex_putIT rfl ((h14.to (b := o) (by omega)).trans ((ft12 o (by omega)).trans ((h11.to (b := o) (by omega)).trans (((h9.1 o).trans ((if_neg (by omega)).trans (if_neg (by omega)))).trans (((h7.1 o).trans ((if_neg (by omega)).trans (if_neg (by omega)))).trans (((h5.1 o).trans ((if_neg (by omega)).trans (if_neg (by omega)))).trans (((h3.1 o).trans ((if_neg (by omega)).trans (if_neg (by omega)))).trans ((h1.to (b := o) (by omega)).trans ho)))))))) (by omega) rfl ?_
  have w21 : ∀ b j, ¬ (b = o ∧ j = 12) → wr i20 o 12 10 b j = i20 b j := fun b j q => if_neg q
  have v21 : wr i20 o 12 10 o 12 = 10 := wr_s
  generalize wr i20 o 12 10 = i21 at w21 v21 ⊢
  refine Ex.run 2 (pc' := 55) (L' := [.ref o]) (S' := [.int 0, .ref o]) rfl ?_
  refine ex_putIT rfl ((h14.to (b := o) (by omega)).trans ((ft12 o (by omega)).trans ((h11.to (b := o) (by omega)).trans (((h9.1 o).trans ((if_neg (by omega)).trans (if_neg (by omega)))).trans (((h7.1 o).trans ((if_neg (by omega)).trans (if_neg (by omega)))).trans (((h5.1 o).trans ((if_neg (by omega)).trans (if_neg (by omega)))).trans (((h3.1 o).trans ((if_neg (by omega)).trans (if_neg (by omega)))).trans ((h1.to (b := o) (by omega)).trans ho)))))))) (by omega) rfl ?_
  have w22 : ∀ b j, ¬ (b = o ∧ j = 13) → wr i21 o 13 0 b j = i21 b j := fun b j q => if_neg q
  have v22 : wr i21 o 13 0 o 13 = 0 := wr_s
  generalize wr i21 o 13 0 = i22 at w22 v22 ⊢
  refine Ex.run 2 (pc' := 58) (L' := [.ref o]) (S' := [.int 0, .ref o]) rfl ?_
  refine ex_putIT rfl ((h14.to (b := o) (by omega)).trans ((ft12 o (by omega)).trans ((h11.to (b := o) (by omega)).trans (((h9.1 o).trans ((if_neg (by omega)).trans (if_neg (by omega)))).trans (((h7.1 o).trans ((if_neg (by omega)).trans (if_neg (by omega)))).trans (((h5.1 o).trans ((if_neg (by omega)).trans (if_neg (by omega)))).trans (((h3.1 o).trans ((if_neg (by omega)).trans (if_neg (by omega)))).trans ((h1.to (b := o) (by omega)).trans ho)))))))) (by omega) rfl ?_
  have w23 : ∀ b j, ¬ (b = o ∧ j = 14) → wr i22 o 14 0 b j = i22 b j := fun b j q => if_neg q
  have v23 : wr i22 o 14 0 o 14 = 0 := wr_s
  generalize wr i22 o 14 0 = i23 at w23 v23 ⊢
  refine Ex.run 2 (pc' := 61) (L' := [.ref o]) (S' := [.int 1, .ref o]) rfl ?_
  refine ex_putIT rfl ((h14.to (b := o) (by omega)).trans ((ft12 o (by omega)).trans ((h11.to (b := o) (by omega)).trans (((h9.1 o).trans ((if_neg (by omega)).trans (if_neg (by omega)))).trans (((h7.1 o).trans ((if_neg (by omega)).trans (if_neg (by omega)))).trans (((h5.1 o).trans ((if_neg (by omega)).trans (if_neg (by omega)))).trans (((h3.1 o).trans ((if_neg (by omega)).trans (if_neg (by omega)))).trans ((h1.to (b := o) (by omega)).trans ho)))))))) (by omega) rfl ?_
  have w24 : ∀ b j, ¬ (b = o ∧ j = 15) → wr i23 o 15 1 b j = i23 b j := fun b j q => if_neg q
  have v24 : wr i23 o 15 1 o 15 = 1 := wr_s
  generalize wr i23 o 15 1 = i24 at w24 v24 ⊢
  refine Ex.run 1 (pc' := 63) (L' := [.ref o]) (S' := [.ref o]) rfl ?_
  refine ex_newN (N2 := (o + 32)) (U2 := U + 453) rfl (by decide) rfl rfl (fun t25 i25 r25 h25 => ?_)
  refine Ex.run 1 (pc' := 65) (L' := [.ref o]) (S' := [.ref (o + 31), .ref (o + 31), .ref o]) rfl ?_
  refine ex_callV (Or.inr ⟨rfl, by decide, by decide⟩) rfl (by decide) (congrArg Prod.fst h25.tn) rfl rfl rfl (rn_La_init h25.tn (by omega) (by omega)) ?_
  rintro _ ⟨t26, i26, r26, rfl, ft26, fi26, fr26, fT26, fI26, fR26⟩
  dsimp only
  refine ex_putRT rfl ((ft26 o (by omega)).trans ((h25.to (b := o) (by omega)).trans ((h14.to (b := o) (by omega)).trans ((ft12 o (by omega)).trans ((h11.to (b := o) (by omega)).trans (((h9.1 o).trans ((if_neg (by omega)).trans (if_neg (by omega)))).trans (((h7.1 o).trans ((if_neg (by omega)).trans (if_neg (by omega)))).trans (((h5.1 o).trans ((if_neg (by omega)).trans (if_neg (by omega)))).trans (((h3.1 o).trans ((if_neg (by omega)).trans (if_neg (by omega)))).trans ((h1.to (b := o) (by omega)).trans ho)))))))))) (by omega) rfl (by omega) ?_
  have w27 : ∀ b j, ¬ (b = o ∧ j = 16) → wrR r26 o 16 (o + 31) b j = r26 b j := fun b j q => wrR_o q
  have v27 : wrR r26 o 16 (o + 31) o 16 = (o + 31) := wrR_s
  generalize wrR r26 o 16 (o + 31) = r27 at w27 v27 ⊢
  refine Ex.run 1 (pc' := 68) (L' := [.ref o]) (S' := [.ref o]) rfl ?_
  refine ex_getRT (b := (o + 1)) rfl ((ft26 o (by omega)).trans ((h25.to (b := o) (by omega)).trans ((h14.to (b := o) (by omega)).trans ((ft12 o (by omega)).trans ((h11.to (b := o) (by omega)).trans (((h9.1 o).trans ((if_neg (by omega)).trans (if_neg (by omega)))).trans (((h7.1 o).trans ((if_neg (by omega)).trans (if_neg (by omega)))).trans (((h5.1 o).trans ((if_neg (by omega)).trans (if_neg (by omega)))).trans (((h3.1 o).trans ((if_neg (by omega)).trans (if_neg (by omega)))).trans ((h1.to (b := o) (by omega)).trans ho)))))))))) rfl ((w27 o 0 (by omega)).trans ((fr26 o 0 (by omega)).trans ((h25.ro (b := o) (j := 0) (by omega)).trans ((w15 o 0 (by omega)).trans ((h14.ro (b := o) (j := 0) (by omega)).trans ((w13 o 0 (by omega)).trans ((fr12 o 0 (by omega)).trans ((h11.ro (b := o) (j := 0) (by omega)).trans ((w10 o 0 (by omega)).trans (((h9.2.2 o 0).trans ((if_neg (by omega)).trans (if_neg (by omega)))).trans ((w8 o 0 (by omega)).trans (((h7.2.2 o 0).trans ((if_neg (by omega)).trans (if_neg (by omega)))).trans ((w6 o 0 (by omega)).trans (((h5.2.2 o 0).trans ((if_neg (by omega)).trans (if_neg (by omega)))).trans ((w4 o 0 (by omega)).trans (((h3.2.2 o 0).trans ((if_neg (by omega)).trans (if_neg (by omega)))).trans v2)))))))))))))))) (by omega) ?_
  refine Ex.run 1 (pc' := 70) (L' := [.ref o]) (S' := [.int 4, .ref (o + 1)]) rfl ?_
  refine ex_callS (S' := []) rfl rfl rfl (by show (2 : Nat) ≤ 2; omega) rfl rfl rfl (r_fill (l := 25) ((ft26 (o + 1) (by omega)).trans ((h25.to (b := (o + 1)) (by omega)).trans ((h14.to (b := (o + 1)) (by omega)).trans ((ft12 (o + 1) (by omega)).trans ((h11.to (b := (o + 1)) (by omega)).trans (((h9.1 (o + 1)).trans ((if_neg (by omega)).trans (if_neg (by omega)))).trans (((h7.1 (o + 1)).trans ((if_neg (by omega)).trans (if_neg (by omega)))).trans (((h5.1 (o + 1)).trans ((if_neg (by omega)).trans (if_neg (by omega)))).trans (((h3.1 (o + 1)).trans ((if_neg (by omega)).trans (if_neg (by omega)))).trans h1.tn))))))))) (by omega) (by omega) 4 (by omega)) ?_
  rintro _ ⟨i28, rfl, h28⟩
  dsimp only
  refine ex_retv rfl rfl ⟨t26, i28, r27, rfl, fun b hb => ((ft26 b (by omega)).trans ((h25.to (b := b) (by omega)).trans ((h14.to (b := b) (by omega)).trans ((ft12 b (by omega)).trans ((h11.to (b := b) (by omega)).trans (((h9.1 b).trans ((if_neg (by omega)).trans (if_neg (by omega)))).trans (((h7.1 b).trans ((if_neg (by omega)).trans (if_neg (by omega)))).trans (((h5.1 b).trans ((if_neg (by omega)).trans (if_neg (by omega)))).trans (((h3.1 b).trans ((if_neg (by omega)).trans (if_neg (by omega)))).trans (h1.to (b := b) (by omega))))))))))), fun b j hb => (((h28 b j).trans (if_neg (by omega))).trans ((fi26 b j (by omega)).trans ((h25.io (b := b) (j := j) (by omega)).trans ((w24 b j (by omega)).trans ((w23 b j (by omega)).trans ((w22 b j (by omega)).trans ((w21 b j (by omega)).trans ((w20 b j (by omega)).trans ((w19 b j (by omega)).trans ((w18 b j (by omega)).trans ((w17 b j (by omega)).trans ((w16 b j (by omega)).trans ((h14.io (b := b) (j := j) (by omega)).trans ((fi12 b j (by omega)).trans ((h11.io (b := b) (j := j) (by omega)).trans (((h9.2.1 b j).trans (if_neg (by omega))).trans (((h7.2.1 b j).trans (if_neg (by omega))).trans (((h5.2.1 b j).trans (if_neg (by omega))).trans (((h3.2.1 b j).trans (if_neg (by omega))).trans (h1.io (b := b) (j := j) (by omega))))))))))))))))))))), fun b j hb => ((w27 b j (by omega)).trans ((fr26 b j (by omega)).trans ((h25.ro (b := b) (j := j) (by omega)).trans ((w15 b j (by omega)).trans ((h14.ro (b := b) (j := j) (by omega)).trans ((w13 b j (by omega)).trans ((fr12 b j (by omega)).trans ((h11.ro (b := b) (j := j) (by omega)).trans ((w10 b j (by omega)).trans (((h9.2.2 b j).trans ((if_neg (by omega)).trans (if_neg (by omega)))).trans ((w8 b j (by omega)).trans (((h7.2.2 b j).trans ((if_neg (by omega)).trans (if_neg (by omega)))).trans ((w6 b j (by omega)).trans (((h5.2.2 b j).trans ((if_neg (by omega)).trans (if_neg (by omega)))).trans ((w4 b j (by omega)).trans (((h3.2.2 b j).trans ((if_neg (by omega)).trans (if_neg (by omega)))).trans ((w2 b j (by omega)).trans (h1.ro (b := b) (j := j) (by omega))))))))))))))))))), ?_, ?_, ?_⟩
  · exact (List.forall_mem_cons.mpr ⟨((ft26 o (by omega)).trans ((h25.to (b := o) (by omega)).trans ((h14.to (b := o) (by omega)).trans ((ft12 o (by omega)).trans ((h11.to (b := o) (by omega)).trans (((h9.1 o).trans ((if_neg (by omega)).trans (if_neg (by omega)))).trans (((h7.1 o).trans ((if_neg (by omega)).trans (if_neg (by omega)))).trans (((h5.1 o).trans ((if_neg (by omega)).trans (if_neg (by omega)))).trans (((h3.1 o).trans ((if_neg (by omega)).trans (if_neg (by omega)))).trans ((h1.to (b := o) (by omega)).trans ho)))))))))), List.forall_mem_cons.mpr ⟨((ft26 (o + 1) (by omega)).trans ((h25.to (b := (o + 1)) (by omega)).trans ((h14.to (b := (o + 1)) (by omega)).trans ((ft12 (o + 1) (by omega)).trans ((h11.to (b := (o + 1)) (by omega)).trans (((h9.1 (o + 1)).trans ((if_neg (by omega)).trans (if_neg (by omega)))).trans (((h7.1 (o + 1)).trans ((if_neg (by omega)).trans (if_neg (by omega)))).trans (((h5.1 (o + 1)).trans ((if_neg (by omega)).trans (if_neg (by omega)))).trans (((h3.1 (o + 1)).trans ((if_neg (by omega)).trans (if_neg (by omega)))).trans h1.tn))))))))), List.forall_mem_cons.mpr ⟨((ft26 (o + 2) (by omega)).trans ((h25.to (b := (o + 2)) (by omega)).trans ((h14.to (b := (o + 2)) (by omega)).trans ((ft12 (o + 2) (by omega)).trans ((h11.to (b := (o + 2)) (by omega)).trans (((h9.1 (o + 2)).trans ((if_neg (by omega)).trans (if_neg (by omega)))).trans (((h7.1 (o + 2)).trans ((if_neg (by omega)).trans (if_neg (by omega)))).trans (((h5.1 (o + 2)).trans ((if_neg (by omega)).trans (if_neg (by omega)))).trans ((h3.1 (o + 2)).trans (if_pos rfl)))))))))), List.forall_mem_cons.mpr ⟨((ft26 (o + 3) (by omega)).trans ((h25.to (b := (o + 3)) (by omega)).trans ((h14.to (b := (o + 3)) (by omega)).trans ((ft12 (o + 3) (by omega)).trans ((h11.to (b := (o + 3)) (by omega)).trans (((h9.1 (o + 3)).trans ((if_neg (by omega)).trans (if_neg (by omega)))).trans (((h7.1 (o + 3)).trans ((if_neg (by omega)).trans (if_neg (by omega)))).trans (((h5.1 (o + 3)).trans ((if_neg (by omega)).trans (if_neg (by omega)))).trans ((h3.1 (o + 3)).trans ((if_neg (by omega)).trans (if_pos ⟨by omega, by omega⟩))))))))))), List.forall_mem_cons.mpr ⟨((ft26 (o + 4) (by omega)).trans ((h25.to (b := (o + 4)) (by omega)).trans ((h14.to (b := (o + 4)) (by omega)).trans ((ft12 (o + 4) (by omega)).trans ((h11.to (b := (o + 4)) (by omega)).trans (((h9.1 (o + 4)).trans ((if_neg (by omega)).trans (if_neg (by omega)))).trans (((h7.1 (o + 4)).trans ((if_neg (by omega)).trans (if_neg (by omega)))).trans (((h5.1 (o + 4)).trans ((if_neg (by omega)).trans (if_neg (by omega)))).trans ((h3.1 (o + 4)).trans ((if_neg (by omega)).trans (if_pos ⟨by omega, by omega⟩))))))))))), List.forall_mem_cons.mpr ⟨((ft26 (o + 5) (by omega)).trans ((h25.to (b := (o + 5)) (by omega)).trans ((h14.to (b := (o + 5)) (by omega)).trans ((ft12 (o + 5) (by omega)).trans ((h11.to (b := (o + 5)) (by omega)).trans (((h9.1 (o + 5)).trans ((if_neg (by omega)).trans (if_neg (by omega)))).trans (((h7.1 (o + 5)).trans ((if_neg (by omega)).trans (if_neg (by omega)))).trans (((h5.1 (o + 5)).trans ((if_neg (by omega)).trans (if_neg (by omega)))).trans ((h3.1 (o + 5)).trans ((if_neg (by omega)).trans (if_pos ⟨by omega, by omega⟩))))))))))), List.forall_mem_cons.mpr ⟨((ft26 (o + 6) (by omega)).trans ((h25.to (b := (o + 6)) (by omega)).trans ((h14.to (b := (o + 6)) (by omega)).trans ((ft12 (o + 6) (by omega)).trans ((h11.to (b := (o + 6)) (by omega)).trans (((h9.1 (o + 6)).trans ((if_neg (by omega)).trans (if_neg (by omega)))).trans (((h7.1 (o + 6)).trans ((if_neg (by omega)).trans (if_neg (by omega)))).trans (((h5.1 (o + 6)).trans ((if_neg (by omega)).trans (if_neg (by omega)))).trans ((h3.1 (o + 6)).trans ((if_neg (by omega)).trans (if_pos ⟨by omega, by omega⟩))))))))))), List.forall_mem_cons.mpr ⟨((ft26 (o + 7) (by omega)).trans ((h25.to (b := (o + 7)) (by omega)).trans ((h14.to (b := (o + 7)) (by omega)).trans ((ft12 (o + 7) (by omega)).trans ((h11.to (b := (o + 7)) (by omega)).trans (((h9.1 (o + 7)).trans ((if_neg (by omega)).trans (if_neg (by omega)))).trans (((h7.1 (o + 7)).trans ((if_neg (by omega)).trans (if_neg (by omega)))).trans (((h5.1 (o + 7)).trans ((if_neg (by omega)).trans (if_neg (by omega)))).trans ((h3.1 (o + 7)).trans ((if_neg (by omega)).trans (if_pos ⟨by omega, by omega⟩))))))))))), List.forall_mem_cons.mpr ⟨((ft26 (o + 8) (by omega)).trans ((h25.to (b := (o + 8)) (by omega)).trans ((h14.to (b := (o + 8)) (by omega)).trans ((ft12 (o + 8) (by omega)).trans ((h11.to (b := (o + 8)) (by omega)).trans (((h9.1 (o + 8)).trans ((if_neg (by omega)).trans (if_neg (by omega)))).trans (((h7.1 (o + 8)).trans ((if_neg (by omega)).trans (if_neg (by omega)))).trans (((h5.1 (o + 8)).trans ((if_neg (by omega)).trans (if_neg (by omega)))).trans ((h3.1 (o + 8)).trans ((if_neg (by omega)).trans (if_pos ⟨by omega, by omega⟩))))))))))), List.forall_mem_cons.mpr ⟨((ft26 (o + 9) (by omega)).trans ((h25.to (b := (o + 9)) (by omega)).trans ((h14.to (b := (o + 9)) (by omega)).trans ((ft12 (o + 9) (by omega)).trans ((h11.to (b := (o + 9)) (by omega)).trans (((h9.1 (o + 9)).trans ((if_neg (by omega)).trans (if_neg (by omega)))).trans (((h7.1 (o + 9)).trans ((if_neg (by omega)).trans (if_neg (by omega)))).trans (((h5.1 (o + 9)).trans ((if_neg (by omega)).trans (if_neg (by omega)))).trans ((h3.1 (o + 9)).trans ((if_neg (by omega)).trans (if_pos ⟨by omega, by omega⟩))))))))))), List.forall_mem_cons.mpr ⟨((ft26 (o + 10) (by omega)).trans ((h25.to (b := (o + 10)) (by omega)).trans ((h14.to (b := (o + 10)) (by omega)).trans ((ft12 (o + 10) (by omega)).trans ((h11.to (b := (o + 10)) (by omega)).trans (((h9.1 (o + 10)).trans ((if_neg (by omega)).trans (if_neg (by omega)))).trans (((h7.1 (o + 10)).trans ((if_neg (by omega)).trans (if_neg (by omega)))).trans (((h5.1 (o + 10)).trans ((if_neg (by omega)).trans (if_neg (by omega)))).trans ((h3.1 (o + 10)).trans ((if_neg (by omega)).trans (if_pos ⟨by omega, by omega⟩))))))))))), List.forall_mem_cons.mpr ⟨((ft26 (o + 11) (by omega)).trans ((h25.to (b := (o + 11)) (by omega)).trans ((h14.to (b := (o + 11)) (by omega)).trans ((ft12 (o + 11) (by omega)).trans ((h11.to (b := (o + 11)) (by omega)).trans (((h9.1 (o + 11)).trans ((if_neg (by omega)).trans (if_neg (by omega)))).trans (((h7.1 (o + 11)).trans ((if_neg (by omega)).trans (if_neg (by omega)))).trans ((h5.1 (o + 11)).trans (if_pos rfl))))))))), List.forall_mem_cons.mpr ⟨((ft26 (o + 12) (by omega)).trans ((h25.to (b := (o + 12)) (by omega)).trans ((h14.to (b := (o + 12)) (by omega)).trans ((ft12 (o + 12) (by omega)).trans ((h11.to (b := (o + 12)) (by omega)).trans (((h9.1 (o + 12)).trans ((if_neg (by omega)).trans (if_neg (by omega)))).trans (((h7.1 (o + 12)).trans ((if_neg (by omega)).trans (if_neg (by omega)))).trans ((h5.1 (o + 12)).trans ((if_neg (by omega)).trans (if_pos ⟨by omega, by omega⟩)))))))))), List.forall_mem_cons.mpr ⟨((ft26 (o + 13) (by omega)).trans ((h25.to (b := (o + 13)) (by omega)).trans ((h14.to (b := (o + 13)) (by omega)).trans ((ft12 (o + 13) (by omega)).trans ((h11.to (b := (o + 13)) (by omega)).trans (((h9.1 (o + 13)).trans ((if_neg (by omega)).trans (if_neg (by omega)))).trans (((h7.1 (o + 13)).trans ((if_neg (by omega)).trans (if_neg (by omega)))).trans ((h5.1 (o + 13)).trans ((if_neg (by omega)).trans (if_pos ⟨by omega, by omega⟩)))))))))), List.forall_mem_cons.mpr ⟨((ft26 (o + 14) (by omega)).trans ((h25.to (b := (o + 14)) (by omega)).trans ((h14.to (b := (o + 14)) (by omega)).trans ((ft12 (o + 14) (by omega)).trans ((h11.to (b := (o + 14)) (by omega)).trans (((h9.1 (o + 14)).trans ((if_neg (by omega)).trans (if_neg (by omega)))).trans (((h7.1 (o + 14)).trans ((if_neg (by omega)).trans (if_neg (by omega)))).trans ((h5.1 (o + 14)).trans ((if_neg (by omega)).trans (if_pos ⟨by omega, by omega⟩)))))))))), List.forall_mem_cons.mpr ⟨((ft26 (o + 15) (by omega)).trans ((h25.to (b := (o + 15)) (by omega)).trans ((h14.to (b := (o + 15)) (by omega)).trans ((ft12 (o + 15) (by omega)).trans ((h11.to (b := (o + 15)) (by omega)).trans (((h9.1 (o + 15)).trans ((if_neg (by omega)).trans (if_neg (by omega)))).trans ((h7.1 (o + 15)).trans (if_pos rfl)))))))), List.forall_mem_cons.mpr ⟨((ft26 (o + 16) (by omega)).trans ((h25.to (b := (o + 16)) (by omega)).trans ((h14.to (b := (o + 16)) (by omega)).trans ((ft12 (o + 16) (by omega)).trans ((h11.to (b := (o + 16)) (by omega)).trans (((h9.1 (o + 16)).trans ((if_neg (by omega)).trans (if_neg (by omega)))).trans ((h7.1 (o + 16)).trans ((if_neg (by omega)).trans (if_pos ⟨by omega, by omega⟩))))))))), List.forall_mem_cons.mpr ⟨((ft26 (o + 17) (by omega)).trans ((h25.to (b := (o + 17)) (by omega)).trans ((h14.to (b := (o + 17)) (by omega)).trans ((ft12 (o + 17) (by omega)).trans ((h11.to (b := (o + 17)) (by omega)).trans (((h9.1 (o + 17)).trans ((if_neg (by omega)).trans (if_neg (by omega)))).trans ((h7.1 (o + 17)).trans ((if_neg (by omega)).trans (if_pos ⟨by omega, by omega⟩))))))))), List.forall_mem_cons.mpr ⟨((ft26 (o + 18) (by omega)).trans ((h25.to (b := (o + 18)) (by omega)).trans ((h14.to (b := (o + 18)) (by omega)).trans ((ft12 (o + 18) (by omega)).trans ((h11.to (b := (o + 18)) (by omega)).trans (((h9.1 (o + 18)).trans ((if_neg (by omega)).trans (if_neg (by omega)))).trans ((h7.1 (o + 18)).trans ((if_neg (by omega)).trans (if_pos ⟨by omega, by omega⟩))))))))), List.forall_mem_cons.mpr ⟨((ft26 (o + 19) (by omega)).trans ((h25.to (b := (o + 19)) (by omega)).trans ((h14.to (b := (o + 19)) (by omega)).trans ((ft12 (o + 19) (by omega)).trans ((h11.to (b := (o + 19)) (by omega)).trans (((h9.1 (o + 19)).trans ((if_neg (by omega)).trans (if_neg (by omega)))).trans ((h7.1 (o + 19)).trans ((if_neg (by omega)).trans (if_pos ⟨by omega, by omega⟩))))))))), List.forall_mem_cons.mpr ⟨((ft26 (o + 20) (by omega)).trans ((h25.to (b := (o + 20)) (by omega)).trans ((h14.to (b := (o + 20)) (by omega)).trans ((ft12 (o + 20) (by omega)).trans ((h11.to (b := (o + 20)) (by omega)).trans (((h9.1 (o + 20)).trans ((if_neg (by omega)).trans (if_neg (by omega)))).trans ((h7.1 (o + 20)).trans ((if_neg (by omega)).trans (if_pos ⟨by omega, by omega⟩))))))))), List.forall_mem_cons.mpr ⟨((ft26 (o + 21) (by omega)).trans ((h25.to (b := (o + 21)) (by omega)).trans ((h14.to (b := (o + 21)) (by omega)).trans ((ft12 (o + 21) (by omega)).trans ((h11.to (b := (o + 21)) (by omega)).trans ((h9.1 (o + 21)).trans (if_pos rfl))))))), List.forall_mem_cons.mpr ⟨((ft26 (o + 22) (by omega)).trans ((h25.to (b := (o + 22)) (by omega)).trans ((h14.to (b := (o + 22)) (by omega)).trans ((ft12 (o + 22) (by omega)).trans ((h11.to (b := (o + 22)) (by omega)).trans ((h9.1 (o + 22)).trans ((if_neg (by omega)).trans (if_pos ⟨by omega, by omega⟩)))))))), List.forall_mem_cons.mpr ⟨((ft26 (o + 23) (by omega)).trans ((h25.to (b := (o + 23)) (by omega)).trans ((h14.to (b := (o + 23)) (by omega)).trans ((ft12 (o + 23) (by omega)).trans ((h11.to (b := (o + 23)) (by omega)).trans ((h9.1 (o + 23)).trans ((if_neg (by omega)).trans (if_pos ⟨by omega, by omega⟩)))))))), List.forall_mem_cons.mpr ⟨((ft26 (o + 24) (by omega)).trans ((h25.to (b := (o + 24)) (by omega)).trans ((h14.to (b := (o + 24)) (by omega)).trans ((ft12 (o + 24) (by omega)).trans ((h11.to (b := (o + 24)) (by omega)).trans ((h9.1 (o + 24)).trans ((if_neg (by omega)).trans (if_pos ⟨by omega, by omega⟩)))))))), List.forall_mem_cons.mpr ⟨((ft26 (o + 25) (by omega)).trans ((h25.to (b := (o + 25)) (by omega)).trans ((h14.to (b := (o + 25)) (by omega)).trans ((ft12 (o + 25) (by omega)).trans ((h11.to (b := (o + 25)) (by omega)).trans ((h9.1 (o + 25)).trans ((if_neg (by omega)).trans (if_pos ⟨by omega, by omega⟩)))))))), List.forall_mem_cons.mpr ⟨((ft26 (o + 26) (by omega)).trans ((h25.to (b := (o + 26)) (by omega)).trans ((h14.to (b := (o + 26)) (by omega)).trans ((ft12 (o + 26) (by omega)).trans ((h11.to (b := (o + 26)) (by omega)).trans ((h9.1 (o + 26)).trans ((if_neg (by omega)).trans (if_pos ⟨by omega, by omega⟩)))))))), List.forall_mem_cons.mpr ⟨((ft26 (o + 27) (by omega)).trans ((h25.to (b := (o + 27)) (by omega)).trans ((h14.to (b := (o + 27)) (by omega)).trans ((ft12 (o + 27) (by omega)).trans ((h11.to (b := (o + 27)) (by omega)).trans ((h9.1 (o + 27)).trans ((if_neg (by omega)).trans (if_pos ⟨by omega, by omega⟩)))))))), List.forall_mem_cons.mpr ⟨((ft26 (o + 28) (by omega)).trans ((h25.to (b := (o + 28)) (by omega)).trans ((h14.to (b := (o + 28)) (by omega)).trans (fT12 _ (List.mem_of_getElem? (i := 0) rfl))))), List.forall_mem_cons.mpr ⟨((ft26 (o + 29) (by omega)).trans ((h25.to (b := (o + 29)) (by omega)).trans ((h14.to (b := (o + 29)) (by omega)).trans (fT12 _ (List.mem_of_getElem? (i := 1) rfl))))), List.forall_mem_cons.mpr ⟨((ft26 (o + 30) (by omega)).trans ((h25.to (b := (o + 30)) (by omega)).trans h14.tn)), List.forall_mem_cons.mpr ⟨(fT26 _ (List.mem_of_getElem? (i := 0) rfl)), List.forall_mem_cons.mpr ⟨(fT26 _ (List.mem_of_getElem? (i := 1) rfl)), List.forall_mem_cons.mpr ⟨(fT26 _ (List.mem_of_getElem? (i := 2) rfl)), List.forall_mem_cons.mpr ⟨(fT26 _ (List.mem_of_getElem? (i := 3) rfl)), List.forall_mem_cons.mpr ⟨(fT26 _ (List.mem_of_getElem? (i := 4) rfl)), List.forall_mem_cons.mpr ⟨(fT26 _ (List.mem_of_getElem? (i := 5) rfl)), fun _ h => absurd h List.not_mem_nil⟩⟩⟩⟩⟩⟩⟩⟩⟩⟩⟩⟩⟩⟩⟩⟩⟩⟩⟩⟩⟩⟩⟩⟩⟩⟩⟩⟩⟩⟩⟩⟩⟩⟩⟩⟩⟩)
  · exact (List.forall_mem_cons.mpr ⟨(((h28 o 7).trans (if_neg (by omega))).trans ((fi26 o 7 (by omega)).trans ((h25.io (b := o) (j := 7) (by omega)).trans ((w24 o 7 (by omega)).trans ((w23 o 7 (by omega)).trans ((w22 o 7 (by omega)).trans ((w21 o 7 (by omega)).trans ((w20 o 7 (by omega)).trans ((w19 o 7 (by omega)).trans ((w18 o 7 (by omega)).trans ((w17 o 7 (by omega)).trans v16))))))))))), List.forall_mem_cons.mpr ⟨(((h28 o 8).trans (if_neg (by omega))).trans ((fi26 o 8 (by omega)).trans ((h25.io (b := o) (j := 8) (by omega)).trans ((w24 o 8 (by omega)).trans ((w23 o 8 (by omega)).trans ((w22 o 8 (by omega)).trans ((w21 o 8 (by omega)).trans ((w20 o 8 (by omega)).trans ((w19 o 8 (by omega)).trans ((w18 o 8 (by omega)).trans v17)))))))))), List.forall_mem_cons.mpr ⟨(((h28 o 9).trans (if_neg (by omega))).trans ((fi26 o 9 (by omega)).trans ((h25.io (b := o) (j := 9) (by omega)).trans ((w24 o 9 (by omega)).trans ((w23 o 9 (by omega)).trans ((w22 o 9 (by omega)).trans ((w21 o 9 (by omega)).trans ((w20 o 9 (by omega)).trans ((w19 o 9 (by omega)).trans v18))))))))), List.forall_mem_cons.mpr ⟨(((h28 o 10).trans (if_neg (by omega))).trans ((fi26 o 10 (by omega)).trans ((h25.io (b := o) (j := 10) (by omega)).trans ((w24 o 10 (by omega)).trans ((w23 o 10 (by omega)).trans ((w22 o 10 (by omega)).trans ((w21 o 10 (by omega)).trans ((w20 o 10 (by omega)).trans v19)))))))), List.forall_mem_cons.mpr ⟨(((h28 o 11).trans (if_neg (by omega))).trans ((fi26 o 11 (by omega)).trans ((h25.io (b := o) (j := 11) (by omega)).trans ((w24 o 11 (by omega)).trans ((w23 o 11 (by omega)).trans ((w22 o 11 (by omega)).trans ((w21 o 11 (by omega)).trans v20))))))), List.forall_mem_cons.mpr ⟨(((h28 o 12).trans (if_neg (by omega))).trans ((fi26 o 12 (by omega)).trans ((h25.io (b := o) (j := 12) (by omega)).trans ((w24 o 12 (by omega)).trans ((w23 o 12 (by omega)).trans ((w22 o 12 (by omega)).trans v21)))))), List.forall_mem_cons.mpr ⟨(((h28 o 13).trans (if_neg (by omega))).trans ((fi26 o 13 (by omega)).trans ((h25.io (b := o) (j := 13) (by omega)).trans ((w24 o 13 (by omega)).trans ((w23 o 13 (by omega)).trans v22))))), List.forall_mem_cons.mpr ⟨(((h28 o 14).trans (if_neg (by omega))).trans ((fi26 o 14 (by omega)).trans ((h25.io (b := o) (j := 14) (by omega)).trans ((w24 o 14 (by omega)).trans v23)))), List.forall_mem_cons.mpr ⟨(((h28 o 15).trans (if_neg (by omega))).trans ((fi26 o 15 (by omega)).trans ((h25.io (b := o) (j := 15) (by omega)).trans v24))), List.forall_mem_cons.mpr ⟨(((h28 (o + 28) 1).trans (if_neg (by omega))).trans ((fi26 (o + 28) 1 (by omega)).trans ((h25.io (b := (o + 28)) (j := 1) (by omega)).trans ((w24 (o + 28) 1 (by omega)).trans ((w23 (o + 28) 1 (by omega)).trans ((w22 (o + 28) 1 (by omega)).trans ((w21 (o + 28) 1 (by omega)).trans ((w20 (o + 28) 1 (by omega)).trans ((w19 (o + 28) 1 (by omega)).trans ((w18 (o + 28) 1 (by omega)).trans ((w17 (o + 28) 1 (by omega)).trans ((w16 (o + 28) 1 (by omega)).trans ((h14.io (b := (o + 28)) (j := 1) (by omega)).trans (fI12 _ (List.mem_of_getElem? (i := 0) rfl))))))))))))))), List.forall_mem_cons.mpr ⟨(((h28 (o + 28) 2).trans (if_neg (by omega))).trans ((fi26 (o + 28) 2 (by omega)).trans ((h25.io (b := (o + 28)) (j := 2) (by omega)).trans ((w24 (o + 28) 2 (by omega)).trans ((w23 (o + 28) 2 (by omega)).trans ((w22 (o + 28) 2 (by omega)).trans ((w21 (o + 28) 2 (by omega)).trans ((w20 (o + 28) 2 (by omega)).trans ((w19 (o + 28) 2 (by omega)).trans ((w18 (o + 28) 2 (by omega)).trans ((w17 (o + 28) 2 (by omega)).trans ((w16 (o + 28) 2 (by omega)).trans ((h14.io (b := (o + 28)) (j := 2) (by omega)).trans (fI12 _ (List.mem_of_getElem? (i := 1) rfl))))))))))))))), List.forall_mem_cons.mpr ⟨(((h28 (o + 31) 0).trans (if_neg (by omega))).trans (fI26 _ (List.mem_of_getElem? (i := 0) rfl))), List.forall_mem_cons.mpr ⟨((h28 (o + 1) 0).trans (if_pos ⟨rfl, by omega⟩)), List.forall_mem_cons.mpr ⟨((h28 (o + 1) 1).trans (if_pos ⟨rfl, by omega⟩)), List.forall_mem_cons.mpr ⟨((h28 (o + 1) 2).trans (if_pos ⟨rfl, by omega⟩)), List.forall_mem_cons.mpr ⟨((h28 (o + 1) 3).trans (if_pos ⟨rfl, by omega⟩)), List.forall_mem_cons.mpr ⟨((h28 (o + 1) 4).trans (if_pos ⟨rfl, by omega⟩)), List.forall_mem_cons.mpr ⟨((h28 (o + 1) 5).trans (if_pos ⟨rfl, by omega⟩)), List.forall_mem_cons.mpr ⟨((h28 (o + 1) 6).trans (if_pos ⟨rfl, by omega⟩)), List.forall_mem_cons.mpr ⟨((h28 (o + 1) 7).trans (if_pos ⟨rfl, by omega⟩)), List.forall_mem_cons.mpr ⟨((h28 (o + 1) 8).trans (if_pos ⟨rfl, by omega⟩)), List.forall_mem_cons.mpr ⟨((h28 (o + 1) 9).trans (if_pos ⟨rfl, by omega⟩)), List.forall_mem_cons.mpr ⟨((h28 (o + 1) 10).trans (if_pos ⟨rfl, by omega⟩)), List.forall_mem_cons.mpr ⟨((h28 (o + 1) 11).trans (if_pos ⟨rfl, by omega⟩)), List.forall_mem_cons.mpr ⟨((h28 (o + 1) 12).trans (if_pos ⟨rfl, by omega⟩)), List.forall_mem_cons.mpr ⟨((h28 (o + 1) 13).trans (if_pos ⟨rfl, by omega⟩)), List.forall_mem_cons.mpr ⟨((h28 (o + 1) 14).trans (if_pos ⟨rfl, by omega⟩)), List.forall_mem_cons.mpr ⟨((h28 (o + 1) 15).trans (if_pos ⟨rfl, by omega⟩)), List.forall_mem_cons.mpr ⟨((h28 (o + 1) 16).trans (if_pos ⟨rfl, by omega⟩)), List.forall_mem_cons.mpr ⟨((h28 (o + 1) 17).trans (if_pos ⟨rfl, by omega⟩)), List.forall_mem_cons.mpr ⟨((h28 (o + 1) 18).trans (if_pos ⟨rfl, by omega⟩)), List.forall_mem_cons.mpr ⟨((h28 (o + 1) 19).trans (if_pos ⟨rfl, by omega⟩)), List.forall_mem_cons.mpr ⟨((h28 (o + 1) 20).trans (if_pos ⟨rfl, by omega⟩)), List.forall_mem_cons.mpr ⟨((h28 (o + 1) 21).trans (if_pos ⟨rfl, by omega⟩)), List.forall_mem_cons.mpr ⟨((h28 (o + 1) 22).trans (if_pos ⟨rfl, by omega⟩)), List.forall_mem_cons.mpr ⟨((h28 (o + 1) 23).trans (if_pos ⟨rfl, by omega⟩)), List.forall_mem_cons.mpr ⟨((h28 (o + 1) 24).trans (if_pos ⟨rfl, by omega⟩)), fun _ h => absurd h List.not_mem_nil⟩⟩⟩⟩⟩⟩⟩⟩⟩⟩⟩⟩⟩⟩⟩⟩⟩⟩⟩⟩⟩⟩⟩⟩⟩⟩⟩⟩⟩⟩⟩⟩⟩⟩⟩⟩⟩)
  · exact (List.forall_mem_cons.mpr ⟨((w27 o 0 (by omega)).trans ((fr26 o 0 (by omega)).trans ((h25.ro (b := o) (j := 0) (by omega)).trans ((w15 o 0 (by omega)).trans ((h14.ro (b := o) (j := 0) (by omega)).trans ((w13 o 0 (by omega)).trans ((fr12 o 0 (by omega)).trans ((h11.ro (b := o) (j := 0) (by omega)).trans ((w10 o 0 (by omega)).trans (((h9.2.2 o 0).trans ((if_neg (by omega)).trans (if_neg (by omega)))).trans ((w8 o 0 (by omega)).trans (((h7.2.2 o 0).trans ((if_neg (by omega)).trans (if_neg (by omega)))).trans ((w6 o 0 (by omega)).trans (((h5.2.2 o 0).trans ((if_neg (by omega)).trans (if_neg (by omega)))).trans ((w4 o 0 (by omega)).trans (((h3.2.2 o 0).trans ((if_neg (by omega)).trans (if_neg (by omega)))).trans v2)))))))))))))))), List.forall_mem_cons.mpr ⟨((w27 o 1 (by omega)).trans ((fr26 o 1 (by omega)).trans ((h25.ro (b := o) (j := 1) (by omega)).trans ((w15 o 1 (by omega)).trans ((h14.ro (b := o) (j := 1) (by omega)).trans ((w13 o 1 (by omega)).trans ((fr12 o 1 (by omega)).trans ((h11.ro (b := o) (j := 1) (by omega)).trans ((w10 o 1 (by omega)).trans (((h9.2.2 o 1).trans ((if_neg (by omega)).trans (if_neg (by omega)))).trans ((w8 o 1 (by omega)).trans (((h7.2.2 o 1).trans ((if_neg (by omega)).trans (if_neg (by omega)))).trans ((w6 o 1 (by omega)).trans (((h5.2.2 o 1).trans ((if_neg (by omega)).trans (if_neg (by omega)))).trans v4)))))))))))))), List.forall_mem_cons.mpr ⟨((w27 o 2 (by omega)).trans ((fr26 o 2 (by omega)).trans ((h25.ro (b := o) (j := 2) (by omega)).trans ((w15 o 2 (by omega)).trans ((h14.ro (b := o) (j := 2) (by omega)).trans ((w13 o 2 (by omega)).trans ((fr12 o 2 (by omega)).trans ((h11.ro (b := o) (j := 2) (by omega)).trans ((w10 o 2 (by omega)).trans (((h9.2.2 o 2).trans ((if_neg (by omega)).trans (if_neg (by omega)))).trans ((w8 o 2 (by omega)).trans (((h7.2.2 o 2).trans ((if_neg (by omega)).trans (if_neg (by omega)))).trans v6)))))))))))), List.forall_mem_cons.mpr ⟨((w27 o 3 (by omega)).trans ((fr26 o 3 (by omega)).trans ((h25.ro (b := o) (j := 3) (by omega)).trans ((w15 o 3 (by omega)).trans ((h14.ro (b := o) (j := 3) (by omega)).trans ((w13 o 3 (by omega)).trans ((fr12 o 3 (by omega)).trans ((h11.ro (b := o) (j := 3) (by omega)).trans ((w10 o 3 (by omega)).trans (((h9.2.2 o 3).trans ((if_neg (by omega)).trans (if_neg (by omega)))).trans v8)))))))))), List.forall_mem_cons.mpr ⟨((w27 o 4 (by omega)).trans ((fr26 o 4 (by omega)).trans ((h25.ro (b := o) (j := 4) (by omega)).trans ((w15 o 4 (by omega)).trans ((h14.ro (b := o) (j := 4) (by omega)).trans ((w13 o 4 (by omega)).trans ((fr12 o 4 (by omega)).trans ((h11.ro (b := o) (j := 4) (by omega)).trans v10)))))))), List.forall_mem_cons.mpr ⟨((w27 o 5 (by omega)).trans ((fr26 o 5 (by omega)).trans ((h25.ro (b := o) (j := 5) (by omega)).trans ((w15 o 5 (by omega)).trans ((h14.ro (b := o) (j := 5) (by omega)).trans v13))))), List.forall_mem_cons.mpr ⟨((w27 o 6 (by omega)).trans ((fr26 o 6 (by omega)).trans ((h25.ro (b := o) (j := 6) (by omega)).trans v15))), List.forall_mem_cons.mpr ⟨v27, List.forall_mem_cons.mpr ⟨((w27 (o + 28) 0 (by omega)).trans ((fr26 (o + 28) 0 (by omega)).trans ((h25.ro (b := (o + 28)) (j := 0) (by omega)).trans ((w15 (o + 28) 0 (by omega)).trans ((h14.ro (b := (o + 28)) (j := 0) (by omega)).trans ((w13 (o + 28) 0 (by omega)).trans (fR12 _ (List.mem_of_getElem? (i := 0) rfl)))))))), List.forall_mem_cons.mpr ⟨((w27 (o + 2) 0 (by omega)).trans ((fr26 (o + 2) 0 (by omega)).trans ((h25.ro (b := (o + 2)) (j := 0) (by omega)).trans ((w15 (o + 2) 0 (by omega)).trans ((h14.ro (b := (o + 2)) (j := 0) (by omega)).trans ((w13 (o + 2) 0 (by omega)).trans ((fr12 (o + 2) 0 (by omega)).trans ((h11.ro (b := (o + 2)) (j := 0) (by omega)).trans ((w10 (o + 2) 0 (by omega)).trans (((h9.2.2 (o + 2) 0).trans ((if_neg (by omega)).trans (if_neg (by omega)))).trans ((w8 (o + 2) 0 (by omega)).trans (((h7.2.2 (o + 2) 0).trans ((if_neg (by omega)).trans (if_neg (by omega)))).trans ((w6 (o + 2) 0 (by omega)).trans (((h5.2.2 (o + 2) 0).trans ((if_neg (by omega)).trans (if_neg (by omega)))).trans ((w4 (o + 2) 0 (by omega)).trans ((h3.2.2 (o + 2) 0).trans ((if_pos rfl).trans (if_pos (by omega))))))))))))))))))), List.forall_mem_cons.mpr ⟨((w27 (o + 2) 1 (by omega)).trans ((fr26 (o + 2) 1 (by omega)).trans ((h25.ro (b := (o + 2)) (j := 1) (by omega)).trans ((w15 (o + 2) 1 (by omega)).trans ((h14.ro (b := (o + 2)) (j := 1) (by omega)).trans ((w13 (o + 2) 1 (by omega)).trans ((fr12 (o + 2) 1 (by omega)).trans ((h11.ro (b := (o + 2)) (j := 1) (by omega)).trans ((w10 (o + 2) 1 (by omega)).trans (((h9.2.2 (o + 2) 1).trans ((if_neg (by omega)).trans (if_neg (by omega)))).trans ((w8 (o + 2) 1 (by omega)).trans (((h7.2.2 (o + 2) 1).trans ((if_neg (by omega)).trans (if_neg (by omega)))).trans ((w6 (o + 2) 1 (by omega)).trans (((h5.2.2 (o + 2) 1).trans ((if_neg (by omega)).trans (if_neg (by omega)))).trans ((w4 (o + 2) 1 (by omega)).trans ((h3.2.2 (o + 2) 1).trans ((if_pos rfl).trans (if_pos (by omega))))))))))))))))))), List.forall_mem_cons.mpr ⟨((w27 (o + 2) 2 (by omega)).trans ((fr26 (o + 2) 2 (by omega)).trans ((h25.ro (b := (o + 2)) (j := 2) (by omega)).trans ((w15 (o + 2) 2 (by omega)).trans ((h14.ro (b := (o + 2)) (j := 2) (by omega)).trans ((w13 (o + 2) 2 (by omega)).trans ((fr12 (o + 2) 2 (by omega)).trans ((h11.ro (b := (o + 2)) (j := 2) (by omega)).trans ((w10 (o + 2) 2 (by omega)).trans (((h9.2.2 (o + 2) 2).trans ((if_neg (by omega)).trans (if_neg (by omega)))).trans ((w8 (o + 2) 2 (by omega)).trans (((h7.2.2 (o + 2) 2).trans ((if_neg (by omega)).trans (if_neg (by omega)))).trans ((w6 (o + 2) 2 (by omega)).trans (((h5.2.2 (o + 2) 2).trans ((if_neg (by omega)).trans (if_neg (by omega)))).trans ((w4 (o + 2) 2 (by omega)).trans ((h3.2.2 (o + 2) 2).trans ((if_pos rfl).trans (if_pos (by omega))))))))))))))))))), List.forall_mem_cons.mpr ⟨((w27 (o + 2) 3 (by omega)).trans ((fr26 (o + 2) 3 (by omega)).trans ((h25.ro (b := (o + 2)) (j := 3) (by omega)).trans ((w15 (o + 2) 3 (by omega)).trans ((h14.ro (b := (o + 2)) (j := 3) (by omega)).trans ((w13 (o + 2) 3 (by omega)).trans ((fr12 (o + 2) 3 (by omega)).trans ((h11.ro (b := (o + 2)) (j := 3) (by omega)).trans ((w10 (o + 2) 3 (by omega)).trans (((h9.2.2 (o + 2) 3).trans ((if_neg (by omega)).trans (if_neg (by omega)))).trans ((w8 (o + 2) 3 (by omega)).trans (((h7.2.2 (o + 2) 3).trans ((if_neg (by omega)).trans (if_neg (by omega)))).trans ((w6 (o + 2) 3 (by omega)).trans (((h5.2.2 (o + 2) 3).trans ((if_neg (by omega)).trans (if_neg (by omega)))).trans ((w4 (o + 2) 3 (by omega)).trans ((h3.2.2 (o + 2) 3).trans ((if_pos rfl).trans (if_pos (by omega))))))))))))))))))), List.forall_mem_cons.mpr ⟨((w27 (o + 2) 4 (by omega)).trans ((fr26 (o + 2) 4 (by omega)).trans ((h25.ro (b := (o + 2)) (j := 4) (by omega)).trans ((w15 (o + 2) 4 (by omega)).trans ((h14.ro (b := (o + 2)) (j := 4) (by omega)).trans ((w13 (o + 2) 4 (by omega)).trans ((fr12 (o + 2) 4 (by omega)).trans ((h11.ro (b := (o + 2)) (j := 4) (by omega)).trans ((w10 (o + 2) 4 (by omega)).trans (((h9.2.2 (o + 2) 4).trans ((if_neg (by omega)).trans (if_neg (by omega)))).trans ((w8 (o + 2) 4 (by omega)).trans (((h7.2.2 (o + 2) 4).trans ((if_neg (by omega)).trans (if_neg (by omega)))).trans ((w6 (o + 2) 4 (by omega)).trans (((h5.2.2 (o + 2) 4).trans ((if_neg (by omega)).trans (if_neg (by omega)))).trans ((w4 (o + 2) 4 (by omega)).trans ((h3.2.2 (o + 2) 4).trans ((if_pos rfl).trans (if_pos (by omega))))))))))))))))))), List.forall_mem_cons.mpr ⟨((w27 (o + 2) 5 (by omega)).trans ((fr26 (o + 2) 5 (by omega)).trans ((h25.ro (b := (o + 2)) (j := 5) (by omega)).trans ((w15 (o + 2) 5 (by omega)).trans ((h14.ro (b := (o + 2)) (j := 5) (by omega)).trans ((w13 (o + 2) 5 (by omega)).trans ((fr12 (o + 2) 5 (by omega)).trans ((h11.ro (b := (o + 2)) (j := 5) (by omega)).trans ((w10 (o + 2) 5 (by omega)).trans (((h9.2.2 (o + 2) 5).trans ((if_neg (by omega)).trans (if_neg (by omega)))).trans ((w8 (o + 2) 5 (by omega)).trans (((h7.2.2 (o + 2) 5).trans ((if_neg (by omega)).trans (if_neg (by omega)))).trans ((w6 (o + 2) 5 (by omega)).trans (((h5.2.2 (o + 2) 5).trans ((if_neg (by omega)).trans (if_neg (by omega)))).trans ((w4 (o + 2) 5 (by omega)).trans ((h3.2.2 (o + 2) 5).trans ((if_pos rfl).trans (if_pos (by omega))))))))))))))))))), List.forall_mem_cons.mpr ⟨((w27 (o + 2) 6 (by omega)).trans ((fr26 (o + 2) 6 (by omega)).trans ((h25.ro (b := (o + 2)) (j := 6) (by omega)).trans ((w15 (o + 2) 6 (by omega)).trans ((h14.ro (b := (o + 2)) (j := 6) (by omega)).trans ((w13 (o + 2) 6 (by omega)).trans ((fr12 (o + 2) 6 (by omega)).trans ((h11.ro (b := (o + 2)) (j := 6) (by omega)).trans ((w10 (o + 2) 6 (by omega)).trans (((h9.2.2 (o + 2) 6).trans ((if_neg (by omega)).trans (if_neg (by omega)))).trans ((w8 (o + 2) 6 (by omega)).trans (((h7.2.2 (o + 2) 6).trans ((if_neg (by omega)).trans (if_neg (by omega)))).trans ((w6 (o + 2) 6 (by omega)).trans (((h5.2.2 (o + 2) 6).trans ((if_neg (by omega)).trans (if_neg (by omega)))).trans ((w4 (o + 2) 6 (by omega)).trans ((h3.2.2 (o + 2) 6).trans ((if_pos rfl).trans (if_pos (by omega))))))))))))))))))), List.forall_mem_cons.mpr ⟨((w27 (o + 2) 7 (by omega)).trans ((fr26 (o + 2) 7 (by omega)).trans ((h25.ro (b := (o + 2)) (j := 7) (by omega)).trans ((w15 (o + 2) 7 (by omega)).trans ((h14.ro (b := (o + 2)) (j := 7) (by omega)).trans ((w13 (o + 2) 7 (by omega)).trans ((fr12 (o + 2) 7 (by omega)).trans ((h11.ro (b := (o + 2)) (j := 7) (by omega)).trans ((w10 (o + 2) 7 (by omega)).trans (((h9.2.2 (o + 2) 7).trans ((if_neg (by omega)).trans (if_neg (by omega)))).trans ((w8 (o + 2) 7 (by omega)).trans (((h7.2.2 (o + 2) 7).trans ((if_neg (by omega)).trans (if_neg (by omega)))).trans ((w6 (o + 2) 7 (by omega)).trans (((h5.2.2 (o + 2) 7).trans ((if_neg (by omega)).trans (if_neg (by omega)))).trans ((w4 (o + 2) 7 (by omega)).trans ((h3.2.2 (o + 2) 7).trans ((if_pos rfl).trans (if_pos (by omega))))))))))))))))))), List.forall_mem_cons.mpr ⟨((w27 (o + 11) 0 (by omega)).trans ((fr26 (o + 11) 0 (by omega)).trans ((h25.ro (b := (o + 11)) (j := 0) (by omega)).trans ((w15 (o + 11) 0 (by omega)).trans ((h14.ro (b := (o + 11)) (j := 0) (by omega)).trans ((w13 (o + 11) 0 (by omega)).trans ((fr12 (o + 11) 0 (by omega)).trans ((h11.ro (b := (o + 11)) (j := 0) (by omega)).trans ((w10 (o + 11) 0 (by omega)).trans (((h9.2.2 (o + 11) 0).trans ((if_neg (by omega)).trans (if_neg (by omega)))).trans ((w8 (o + 11) 0 (by omega)).trans (((h7.2.2 (o + 11) 0).trans ((if_neg (by omega)).trans (if_neg (by omega)))).trans ((w6 (o + 11) 0 (by omega)).trans ((h5.2.2 (o + 11) 0).trans ((if_pos rfl).trans (if_pos (by omega))))))))))))))))), List.forall_mem_cons.mpr ⟨((w27 (o + 11) 1 (by omega)).trans ((fr26 (o + 11) 1 (by omega)).trans ((h25.ro (b := (o + 11)) (j := 1) (by omega)).trans ((w15 (o + 11) 1 (by omega)).trans ((h14.ro (b := (o + 11)) (j := 1) (by omega)).trans ((w13 (o + 11) 1 (by omega)).trans ((fr12 (o + 11) 1 (by omega)).trans ((h11.ro (b := (o + 11)) (j := 1) (by omega)).trans ((w10 (o + 11) 1 (by omega)).trans (((h9.2.2 (o + 11) 1).trans ((if_neg (by omega)).trans (if_neg (by omega)))).trans ((w8 (o + 11) 1 (by omega)).trans (((h7.2.2 (o + 11) 1).trans ((if_neg (by omega)).trans (if_neg (by omega)))).trans ((w6 (o + 11) 1 (by omega)).trans ((h5.2.2 (o + 11) 1).trans ((if_pos rfl).trans (if_pos (by omega))))))))))))))))), List.forall_mem_cons.mpr ⟨((w27 (o + 11) 2 (by omega)).trans ((fr26 (o + 11) 2 (by omega)).trans ((h25.ro (b := (o + 11)) (j := 2) (by omega)).trans ((w15 (o + 11) 2 (by omega)).trans ((h14.ro (b := (o + 11)) (j := 2) (by omega)).trans ((w13 (o + 11) 2 (by omega)).trans ((fr12 (o + 11) 2 (by omega)).trans ((h11.ro (b := (o + 11)) (j := 2) (by omega)).trans ((w10 (o + 11) 2 (by omega)).trans (((h9.2.2 (o + 11) 2).trans ((if_neg (by omega)).trans (if_neg (by omega)))).trans ((w8 (o + 11) 2 (by omega)).trans (((h7.2.2 (o + 11) 2).trans ((if_neg (by omega)).trans (if_neg (by omega)))).trans ((w6 (o + 11) 2 (by omega)).trans ((h5.2.2 (o + 11) 2).trans ((if_pos rfl).trans (if_pos (by omega))))))))))))))))), List.forall_mem_cons.mpr ⟨((w27 (o + 15) 0 (by omega)).trans ((fr26 (o + 15) 0 (by omega)).trans ((h25.ro (b := (o + 15)) (j := 0) (by omega)).trans ((w15 (o + 15) 0 (by omega)).trans ((h14.ro (b := (o + 15)) (j := 0) (by omega)).trans ((w13 (o + 15) 0 (by omega)).trans ((fr12 (o + 15) 0 (by omega)).trans ((h11.ro (b := (o + 15)) (j := 0) (by omega)).trans ((w10 (o + 15) 0 (by omega)).trans (((h9.2.2 (o + 15) 0).trans ((if_neg (by omega)).trans (if_neg (by omega)))).trans ((w8 (o + 15) 0 (by omega)).trans ((h7.2.2 (o + 15) 0).trans ((if_pos rfl).trans (if_pos (by omega))))))))))))))), List.forall_mem_cons.mpr ⟨((w27 (o + 15) 1 (by omega)).trans ((fr26 (o + 15) 1 (by omega)).trans ((h25.ro (b := (o + 15)) (j := 1) (by omega)).trans ((w15 (o + 15) 1 (by omega)).trans ((h14.ro (b := (o + 15)) (j := 1) (by omega)).trans ((w13 (o + 15) 1 (by omega)).trans ((fr12 (o + 15) 1 (by omega)).trans ((h11.ro (b := (o + 15)) (j := 1) (by omega)).trans ((w10 (o + 15) 1 (by omega)).trans (((h9.2.2 (o + 15) 1).trans ((if_neg (by omega)).trans (if_neg (by omega)))).trans ((w8 (o + 15) 1 (by omega)).trans ((h7.2.2 (o + 15) 1).trans ((if_pos rfl).trans (if_pos (by omega))))))))))))))), List.forall_mem_cons.mpr ⟨((w27 (o + 15) 2 (by omega)).trans ((fr26 (o + 15) 2 (by omega)).trans ((h25.ro (b := (o + 15)) (j := 2) (by omega)).trans ((w15 (o + 15) 2 (by omega)).trans ((h14.ro (b := (o + 15)) (j := 2) (by omega)).trans ((w13 (o + 15) 2 (by omega)).trans ((fr12 (o + 15) 2 (by omega)).trans ((h11.ro (b := (o + 15)) (j := 2) (by omega)).trans ((w10 (o + 15) 2 (by omega)).trans (((h9.2.2 (o + 15) 2).trans ((if_neg (by omega)).trans (if_neg (by omega)))).trans ((w8 (o + 15) 2 (by omega)).trans ((h7.2.2 (o + 15) 2).trans ((if_pos rfl).trans (if_pos (by omega))))))))))))))), List.forall_mem_cons.mpr ⟨((w27 (o + 15) 3 (by omega)).trans ((fr26 (o + 15) 3 (by omega)).trans ((h25.ro (b := (o + 15)) (j := 3) (by omega)).trans ((w15 (o + 15) 3 (by omega)).trans ((h14.ro (b := (o + 15)) (j := 3) (by omega)).trans ((w13 (o + 15) 3 (by omega)).trans ((fr12 (o + 15) 3 (by omega)).trans ((h11.ro (b := (o + 15)) (j := 3) (by omega)).trans ((w10 (o + 15) 3 (by omega)).trans (((h9.2.2 (o + 15) 3).trans ((if_neg (by omega)).trans (if_neg (by omega)))).trans ((w8 (o + 15) 3 (by omega)).trans ((h7.2.2 (o + 15) 3).trans ((if_pos rfl).trans (if_pos (by omega))))))))))))))), List.forall_mem_cons.mpr ⟨((w27 (o + 15) 4 (by omega)).trans ((fr26 (o + 15) 4 (by omega)).trans ((h25.ro (b := (o + 15)) (j := 4) (by omega)).trans ((w15 (o + 15) 4 (by omega)).trans ((h14.ro (b := (o + 15)) (j := 4) (by omega)).trans ((w13 (o + 15) 4 (by omega)).trans ((fr12 (o + 15) 4 (by omega)).trans ((h11.ro (b := (o + 15)) (j := 4) (by omega)).trans ((w10 (o + 15) 4 (by omega)).trans (((h9.2.2 (o + 15) 4).trans ((if_neg (by omega)).trans (if_neg (by omega)))).trans ((w8 (o + 15) 4 (by omega)).trans ((h7.2.2 (o + 15) 4).trans ((if_pos rfl).trans (if_pos (by omega))))))))))))))), List.forall_mem_cons.mpr ⟨((w27 (o + 21) 0 (by omega)).trans ((fr26 (o + 21) 0 (by omega)).trans ((h25.ro (b := (o + 21)) (j := 0) (by omega)).trans ((w15 (o + 21) 0 (by omega)).trans ((h14.ro (b := (o + 21)) (j := 0) (by omega)).trans ((w13 (o + 21) 0 (by omega)).trans ((fr12 (o + 21) 0 (by omega)).trans ((h11.ro (b := (o + 21)) (j := 0) (by omega)).trans ((w10 (o + 21) 0 (by omega)).trans ((h9.2.2 (o + 21) 0).trans ((if_pos rfl).trans (if_pos (by omega))))))))))))), List.forall_mem_cons.mpr ⟨((w27 (o + 21) 1 (by omega)).trans ((fr26 (o + 21) 1 (by omega)).trans ((h25.ro (b := (o + 21)) (j := 1) (by omega)).trans ((w15 (o + 21) 1 (by omega)).trans ((h14.ro (b := (o + 21)) (j := 1) (by omega)).trans ((w13 (o + 21) 1 (by omega)).trans ((fr12 (o + 21) 1 (by omega)).trans ((h11.ro (b := (o + 21)) (j := 1) (by omega)).trans ((w10 (o + 21) 1 (by omega)).trans ((h9.2.2 (o + 21) 1).trans ((if_pos rfl).trans (if_pos (by omega))))))))))))), List.forall_mem_cons.mpr ⟨((w27 (o + 21) 2 (by omega)).trans ((fr26 (o + 21) 2 (by omega)).trans ((h25.ro (b := (o + 21)) (j := 2) (by omega)).trans ((w15 (o + 21) 2 (by omega)).trans ((h14.ro (b := (o + 21)) (j := 2) (by omega)).trans ((w13 (o + 21) 2 (by omega)).trans ((fr12 (o + 21) 2 (by omega)).trans ((h11.ro (b := (o + 21)) (j := 2) (by omega)).trans ((w10 (o + 21) 2 (by omega)).trans ((h9.2.2 (o + 21) 2).trans ((if_pos rfl).trans (if_pos (by omega))))))))))))), List.forall_mem_cons.mpr ⟨((w27 (o + 21) 3 (by omega)).trans ((fr26 (o + 21) 3 (by omega)).trans ((h25.ro (b := (o + 21)) (j := 3) (by omega)).trans ((w15 (o + 21) 3 (by omega)).trans ((h14.ro (b := (o + 21)) (j := 3) (by omega)).trans ((w13 (o + 21) 3 (by omega)).trans ((fr12 (o + 21) 3 (by omega)).trans ((h11.ro (b := (o + 21)) (j := 3) (by omega)).trans ((w10 (o + 21) 3 (by omega)).trans ((h9.2.2 (o + 21) 3).trans ((if_pos rfl).trans (if_pos (by omega))))))))))))), List.forall_mem_cons.mpr ⟨((w27 (o + 21) 4 (by omega)).trans ((fr26 (o + 21) 4 (by omega)).trans ((h25.ro (b := (o + 21)) (j := 4) (by omega)).trans ((w15 (o + 21) 4 (by omega)).trans ((h14.ro (b := (o + 21)) (j := 4) (by omega)).trans ((w13 (o + 21) 4 (by omega)).trans ((fr12 (o + 21) 4 (by omega)).trans ((h11.ro (b := (o + 21)) (j := 4) (by omega)).trans ((w10 (o + 21) 4 (by omega)).trans ((h9.2.2 (o + 21) 4).trans ((if_pos rfl).trans (if_pos (by omega))))))))))))), List.forall_mem_cons.mpr ⟨((w27 (o + 21) 5 (by omega)).trans ((fr26 (o + 21) 5 (by omega)).trans ((h25.ro (b := (o + 21)) (j := 5) (by omega)).trans ((w15 (o + 21) 5 (by omega)).trans ((h14.ro (b := (o + 21)) (j := 5) (by omega)).trans ((w13 (o + 21) 5 (by omega)).trans ((fr12 (o + 21) 5 (by omega)).trans ((h11.ro (b := (o + 21)) (j := 5) (by omega)).trans ((w10 (o + 21) 5 (by omega)).trans ((h9.2.2 (o + 21) 5).trans ((if_pos rfl).trans (if_pos (by omega))))))))))))), List.forall_mem_cons.mpr ⟨((w27 (o + 31) 1 (by omega)).trans (fR26 _ (List.mem_of_getElem? (i := 0) rfl))), List.forall_mem_cons.mpr ⟨((w27 (o + 31) 2 (by omega)).trans (fR26 _ (List.mem_of_getElem? (i := 1) rfl))), List.forall_mem_cons.mpr ⟨((w27 (o + 31) 3 (by omega)).trans (fR26 _ (List.mem_of_getElem? (i := 2) rfl))), List.forall_mem_cons.mpr ⟨((w27 (o + 31) 4 (by omega)).trans (fR26 _ (List.mem_of_getElem? (i := 3) rfl))), List.forall_mem_cons.mpr ⟨((w27 (o + 31) 5 (by omega)).trans (fR26 _ (List.mem_of_getElem? (i := 4) rfl))), fun _ h => absurd h List.not_mem_nil⟩⟩⟩⟩⟩⟩⟩⟩⟩⟩⟩⟩⟩⟩⟩⟩⟩⟩⟩⟩⟩⟩⟩⟩⟩⟩⟩⟩⟩⟩⟩⟩⟩⟩⟩⟩)
/-- a sea's cells, as they are made -/
def SeaOK (t : MT) (r : MR) (a : Nat) : Prop := isSea (a + 37) t r a ∧ r a 16 = a + 31 ∧ t (a + 33) = (100, 0) ∧ t (a + 34) = (100, 0) ∧ t (a + 35) = (100, 1) ∧ t (a + 36) = (100, 0)
def SI (i : MI) (a : Nat) : Prop := (∀ k, 7 ≤ k → k < 16 → i a k = if k = 12 then 10 else if k = 15 then 1 else 0) ∧ (∀ c, c < 25 → i (a + 1) c = 4) ∧ i (a + 28) 1 = 0 ∧ i (a + 28) 2 = 0 ∧ i (a + 31) 0 = -1
theorem isLw.at {n n' l : Nat} {t' : MT} {r' : MR} (h : isLw n t r l) (hn : l + 6 ≤ n') (ht : ∀ b, l ≤ b → b < l + 6 → t' b = t b) (hr : ∀ j, r' l j = r l j) : isLw n' t' r' l := by
  obtain ⟨h1, h2, h3, h4, h5, h6, h7, h8, h9, h10, h11, h12, h13⟩ := h
  refine ⟨h1, hn, ?_, ?_, ?_, ?_, ?_, ?_, ?_, ?_, ?_, ?_, ?_⟩
  · rw [ht _ (by omega) (by omega)]; exact h3
  · rw [hr]; exact h4
  · rw [hr]; exact h5
  · rw [hr]; exact h6
  · rw [hr]; exact h7
  · rw [hr]; exact h8
  · rw [ht _ (by omega) (by omega)]; exact h9
  · rw [ht _ (by omega) (by omega)]; exact h10
  · rw [ht _ (by omega) (by omega)]; exact h11
  · rw [ht _ (by omega) (by omega)]; exact h12
  · rw [ht _ (by omega) (by omega)]; exact h13
theorem SeaOK.reg {a n' : Nat} {t' : MT} {r' : MR} (h : SeaOK t r a) (hn : a + 37 ≤ n') (ht : ∀ b, a ≤ b → b < a + 37 → t' b = t b) (hr : ∀ b j, a ≤ b → b < a + 37 → r' b j = r b j) : isSea n' t' r' a ∧ SeaOK t' r' a := by
  obtain ⟨⟨q1, q2, q3, q4, q5, q6, q7, q8, q9, p1, p2, p3, p4, p5⟩, e1, e2, e3, e4, e5⟩ := h
  have E : r' a 16 = a + 31 := (hr _ _ (by omega) (by omega)).trans e1
  have key : ∀ m, a + 37 ≤ m → isSea m t' r' a := by
    intro m hm
    refine ⟨fun k hk => (ht _ (by omega) (by omega)).trans (q1 k hk), (hr _ _ (by omega) (by omega)).trans q2, (hr _ _ (by omega) (by omega)).trans q3, (hr _ _ (by omega) (by omega)).trans q4, (hr _ _ (by omega) (by omega)).trans q5, (hr _ _ (by omega) (by omega)).trans q6, (hr _ _ (by omega) (by omega)).trans q7, (hr _ _ (by omega) (by omega)).trans q8, (hr _ _ (by omega) (by omega)).trans q9, fun j hj => (hr _ _ (by omega) (by omega)).trans (p1 j hj), fun j hj => (hr _ _ (by omega) (by omega)).trans (p2 j hj), fun j hj => (hr _ _ (by omega) (by omega)).trans (p3 j hj), fun j hj => (hr _ _ (by omega) (by omega)).trans (p4 j hj), ?_⟩
    rw [E]
    rw [e1] at p5
    exact p5.at (by omega) (fun b h1 h2 => ht b (by omega) (by omega)) (fun j => hr _ _ (by omega) (by omega))
  exact ⟨key n' hn, key _ (Nat.le_refl _), E, (ht _ (by omega) (by omega)).trans e2, (ht _ (by omega) (by omega)).trans e3, (ht _ (by omega) (by omega)).trans e4, (ht _ (by omega) (by omega)).trans e5⟩
theorem SI.reg {a : Nat} {i' : MI} (h : SI i a) (hi : ∀ b j, a ≤ b → b < a + 37 → i' b j = i b j) : SI i' a :=
  ⟨fun k h1 h2 => (hi _ _ (by omega) (by omega)).trans (h.1 k h1 h2), fun c hc => (hi _ _ (by omega) (by omega)).trans (h.2.1 c hc), (hi _ _ (by omega) (by omega)).trans h.2.2.1, (hi _ _ (by omega) (by omega)).trans h.2.2.2.1, (hi _ _ (by omega) (by omega)).trans h.2.2.2.2⟩
/-- a sea is made at o -/
def SEA (o : Nat) (U : Nat) (t : MT) (i : MI) (r : MR) (q : oR × aH) : Prop := ∃ t' i' r', q = (.inl none, (o + 37, U + 486, t', i', r')) ∧ (∀ b, (b < o ∨ o + 37 ≤ b) → t' b = t b) ∧ (∀ b j, (b < o ∨ o + 37 ≤ b) → i' b j = i b j) ∧ (∀ b j, (b < o ∨ o + 37 ≤ b) → r' b j = r b j) ∧ SeaOK t' r' o ∧ SI i' o
set_option maxHeartbeats 4000000 in
theorem r_Sea {o : Nat} (ho : t o = (7, 17)) (hge : 1000 ≤ o) (hd : 2 ≤ d) : Rn d 45 [.ref o] (o + 1, U, t, i, r) (SEA o U t i r) := by
  refine (rn_Se_init ho hge hd).mono ?_
  rintro q ⟨t', i', r', rfl, h2, h3, h4, h5, h6, h7⟩
  have e16 : r' o 16 = o + 31 := (h7 _ (List.mem_of_getElem? (i := 7) rfl))
  refine ⟨t', i', r', rfl, h2, h3, h4, ⟨⟨fun k hk => match k, hk with
    | 0, _ => h5 _ (List.mem_of_getElem? (i := 0) rfl)
    | 1, _ => h5 _ (List.mem_of_getElem? (i := 1) rfl)
    | 2, _ => h5 _ (List.mem_of_getElem? (i := 2) rfl)
    | 3, _ => h5 _ (List.mem_of_getElem? (i := 3) rfl)
    | 4, _ => h5 _ (List.mem_of_getElem? (i := 4) rfl)
    | 5, _ => h5 _ (List.mem_of_getElem? (i := 5) rfl)
    | 6, _ => h5 _ (List.mem_of_getElem? (i := 6) rfl)
    | 7, _ => h5 _ (List.mem_of_getElem? (i := 7) rfl)
    | 8, _ => h5 _ (List.mem_of_getElem? (i := 8) rfl)
    | 9, _ => h5 _ (List.mem_of_getElem? (i := 9) rfl)
    | 10, _ => h5 _ (List.mem_of_getElem? (i := 10) rfl)
    | 11, _ => h5 _ (List.mem_of_getElem? (i := 11) rfl)
    | 12, _ => h5 _ (List.mem_of_getElem? (i := 12) rfl)
    | 13, _ => h5 _ (List.mem_of_getElem? (i := 13) rfl)
    | 14, _ => h5 _ (List.mem_of_getElem? (i := 14) rfl)
    | 15, _ => h5 _ (List.mem_of_getElem? (i := 15) rfl)
    | 16, _ => h5 _ (List.mem_of_getElem? (i := 16) rfl)
    | 17, _ => h5 _ (List.mem_of_getElem? (i := 17) rfl)
    | 18, _ => h5 _ (List.mem_of_getElem? (i := 18) rfl)
    | 19, _ => h5 _ (List.mem_of_getElem? (i := 19) rfl)
    | 20, _ => h5 _ (List.mem_of_getElem? (i := 20) rfl)
    | 21, _ => h5 _ (List.mem_of_getElem? (i := 21) rfl)
    | 22, _ => h5 _ (List.mem_of_getElem? (i := 22) rfl)
    | 23, _ => h5 _ (List.mem_of_getElem? (i := 23) rfl)
    | 24, _ => h5 _ (List.mem_of_getElem? (i := 24) rfl)
    | 25, _ => h5 _ (List.mem_of_getElem? (i := 25) rfl)
    | 26, _ => h5 _ (List.mem_of_getElem? (i := 26) rfl)
    | 27, _ => h5 _ (List.mem_of_getElem? (i := 27) rfl)
    | 28, _ => h5 _ (List.mem_of_getElem? (i := 28) rfl)
    | 29, _ => h5 _ (List.mem_of_getElem? (i := 29) rfl)
    | 30, _ => h5 _ (List.mem_of_getElem? (i := 30) rfl)
    | k + 31, h => absurd h (by omega), (h7 _ (List.mem_of_getElem? (i := 0) rfl)), (h7 _ (List.mem_of_getElem? (i := 1) rfl)), (h7 _ (List.mem_of_getElem? (i := 2) rfl)), (h7 _ (List.mem_of_getElem? (i := 3) rfl)), (h7 _ (List.mem_of_getElem? (i := 4) rfl)), (h7 _ (List.mem_of_getElem? (i := 5) rfl)), (h7 _ (List.mem_of_getElem? (i := 6) rfl)), (h7 _ (List.mem_of_getElem? (i := 8) rfl)),
    (fun j hj => match j, hj with
    | 0, _ => h7 _ (List.mem_of_getElem? (i := 9) rfl)
    | 1, _ => h7 _ (List.mem_of_getElem? (i := 10) rfl)
    | 2, _ => h7 _ (List.mem_of_getElem? (i := 11) rfl)
    | 3, _ => h7 _ (List.mem_of_getElem? (i := 12) rfl)
    | 4, _ => h7 _ (List.mem_of_getElem? (i := 13) rfl)
    | 5, _ => h7 _ (List.mem_of_getElem? (i := 14) rfl)
    | 6, _ => h7 _ (List.mem_of_getElem? (i := 15) rfl)
    | 7, _ => h7 _ (List.mem_of_getElem? (i := 16) rfl)
    | j + 8, h => absurd h (by omega)), (fun j hj => match j, hj with
    | 0, _ => h7 _ (List.mem_of_getElem? (i := 17) rfl)
    | 1, _ => h7 _ (List.mem_of_getElem? (i := 18) rfl)
    | 2, _ => h7 _ (List.mem_of_getElem? (i := 19) rfl)
    | j + 3, h => absurd h (by omega)), (fun j hj => match j, hj with
    | 0, _ => h7 _ (List.mem_of_getElem? (i := 20) rfl)
    | 1, _ => h7 _ (List.mem_of_getElem? (i := 21) rfl)
    | 2, _ => h7 _ (List.mem_of_getElem? (i := 22) rfl)
    | 3, _ => h7 _ (List.mem_of_getElem? (i := 23) rfl)
    | 4, _ => h7 _ (List.mem_of_getElem? (i := 24) rfl)
    | j + 5, h => absurd h (by omega)), (fun j hj => match j, hj with
    | 0, _ => h7 _ (List.mem_of_getElem? (i := 25) rfl)
    | 1, _ => h7 _ (List.mem_of_getElem? (i := 26) rfl)
    | 2, _ => h7 _ (List.mem_of_getElem? (i := 27) rfl)
    | 3, _ => h7 _ (List.mem_of_getElem? (i := 28) rfl)
    | 4, _ => h7 _ (List.mem_of_getElem? (i := 29) rfl)
    | 5, _ => h7 _ (List.mem_of_getElem? (i := 30) rfl)
    | j + 6, h => absurd h (by omega)), ?_⟩, e16, (h5 _ (List.mem_of_getElem? (i := 33) rfl)), (h5 _ (List.mem_of_getElem? (i := 34) rfl)), (h5 _ (List.mem_of_getElem? (i := 35) rfl)), (h5 _ (List.mem_of_getElem? (i := 36) rfl))⟩, ⟨fun k h1 h2 => match k, h1, h2 with
    | 7, _, _ => h6 _ (List.mem_of_getElem? (i := 0) rfl)
    | 8, _, _ => h6 _ (List.mem_of_getElem? (i := 1) rfl)
    | 9, _, _ => h6 _ (List.mem_of_getElem? (i := 2) rfl)
    | 10, _, _ => h6 _ (List.mem_of_getElem? (i := 3) rfl)
    | 11, _, _ => h6 _ (List.mem_of_getElem? (i := 4) rfl)
    | 12, _, _ => h6 _ (List.mem_of_getElem? (i := 5) rfl)
    | 13, _, _ => h6 _ (List.mem_of_getElem? (i := 6) rfl)
    | 14, _, _ => h6 _ (List.mem_of_getElem? (i := 7) rfl)
    | 15, _, _ => h6 _ (List.mem_of_getElem? (i := 8) rfl)
    | k + 16, _, h => absurd h (by omega)
    | 0, h, _ => absurd h (by omega)
    | 1, h, _ => absurd h (by omega)
    | 2, h, _ => absurd h (by omega)
    | 3, h, _ => absurd h (by omega)
    | 4, h, _ => absurd h (by omega)
    | 5, h, _ => absurd h (by omega)
    | 6, h, _ => absurd h (by omega), fun c hc => match c, hc with
    | 0, _ => h6 _ (List.mem_of_getElem? (i := 12) rfl)
    | 1, _ => h6 _ (List.mem_of_getElem? (i := 13) rfl)
    | 2, _ => h6 _ (List.mem_of_getElem? (i := 14) rfl)
    | 3, _ => h6 _ (List.mem_of_getElem? (i := 15) rfl)
    | 4, _ => h6 _ (List.mem_of_getElem? (i := 16) rfl)
    | 5, _ => h6 _ (List.mem_of_getElem? (i := 17) rfl)
    | 6, _ => h6 _ (List.mem_of_getElem? (i := 18) rfl)
    | 7, _ => h6 _ (List.mem_of_getElem? (i := 19) rfl)
    | 8, _ => h6 _ (List.mem_of_getElem? (i := 20) rfl)
    | 9, _ => h6 _ (List.mem_of_getElem? (i := 21) rfl)
    | 10, _ => h6 _ (List.mem_of_getElem? (i := 22) rfl)
    | 11, _ => h6 _ (List.mem_of_getElem? (i := 23) rfl)
    | 12, _ => h6 _ (List.mem_of_getElem? (i := 24) rfl)
    | 13, _ => h6 _ (List.mem_of_getElem? (i := 25) rfl)
    | 14, _ => h6 _ (List.mem_of_getElem? (i := 26) rfl)
    | 15, _ => h6 _ (List.mem_of_getElem? (i := 27) rfl)
    | 16, _ => h6 _ (List.mem_of_getElem? (i := 28) rfl)
    | 17, _ => h6 _ (List.mem_of_getElem? (i := 29) rfl)
    | 18, _ => h6 _ (List.mem_of_getElem? (i := 30) rfl)
    | 19, _ => h6 _ (List.mem_of_getElem? (i := 31) rfl)
    | 20, _ => h6 _ (List.mem_of_getElem? (i := 32) rfl)
    | 21, _ => h6 _ (List.mem_of_getElem? (i := 33) rfl)
    | 22, _ => h6 _ (List.mem_of_getElem? (i := 34) rfl)
    | 23, _ => h6 _ (List.mem_of_getElem? (i := 35) rfl)
    | 24, _ => h6 _ (List.mem_of_getElem? (i := 36) rfl)
    | c + 25, h => absurd h (by omega), (h6 _ (List.mem_of_getElem? (i := 9) rfl)), (h6 _ (List.mem_of_getElem? (i := 10) rfl)), (h6 _ (List.mem_of_getElem? (i := 11) rfl))⟩⟩
  rw [e16]
  exact ⟨by omega, by omega, (h5 _ (List.mem_of_getElem? (i := 31) rfl)), (h7 _ (List.mem_of_getElem? (i := 31) rfl)), (h7 _ (List.mem_of_getElem? (i := 32) rfl)), (h7 _ (List.mem_of_getElem? (i := 33) rfl)), (h7 _ (List.mem_of_getElem? (i := 34) rfl)), (h7 _ (List.mem_of_getElem? (i := 35) rfl)), (h5 _ (List.mem_of_getElem? (i := 32) rfl)), (congrArg Prod.fst (h5 _ (List.mem_of_getElem? (i := 33) rfl))), (congrArg Prod.fst (h5 _ (List.mem_of_getElem? (i := 34) rfl))), (congrArg Prod.fst (h5 _ (List.mem_of_getElem? (i := 35) rfl))), (congrArg Prod.fst (h5 _ (List.mem_of_getElem? (i := 36) rfl)))⟩
set_option maxHeartbeats 4000000 in
theorem rn_Ta_init (ho : t 1595 = (10, 7)) (hge : 1000 ≤ 1595) (hd : 1 ≤ d) : Rn d 105 [.ref 1595] (1596, U, t, i, r) (CTO 1595 1597 400 [(1595, 10, 7), (1596, 101, 400)] [(1595, 1, 0), (1595, 2, (-1)), (1595, 3, 0), (1595, 4, 0), (1595, 5, 0), (1595, 6, 0)] [(1595, 0, 1596)] U t i r) := by
  refine Rn.of' (H := 0) (M := K_Ta_init) (L := [.ref 1595]) hd rfl (by show (1 : Nat) ≤ 1; omega) rfl rfl (fun d hd => ?_)
  refine Ex.run 1 (pc' := 1) (L' := [.ref 1595]) (S' := [.ref 1595]) rfl ?_
  refine ex_obj rfl (by omega) rfl ?_
  refine Ex.run 2 (pc' := 4) (L' := [.ref 1595]) (S' := [.int 400, .ref 1595]) rfl ?_
  refine ex_newaN (k := 400) (N2 := 1597) (U2 := U + 400) rfl (by decide) rfl (by decide) rfl rfl (fun t1 i1 r1 h1 => ?_)
  refine ex_putRT rfl ((h1.to (b := 1595) (by omega)).trans ho) (by omega) rfl (by omega) ?_
  have w2 : ∀ b j, ¬ (b = 1595 ∧ j = 0) → wrR r1 1595 0 1596 b j = r1 b j := fun b j q => wrR_o q
  have v2 : wrR r1 1595 0 1596 1595 0 = 1596 := wrR_s
  generalize wrR r1 1595 0 1596 = r2 at w2 v2 ⊢
  refine Ex.run 2 (pc' := 8) (L' := [.ref 1595]) (S' := [.int 0, .ref 1595]) rfl ?_
  refine ex_putIT rfl ((h1.to (b := 1595) (by omega)).trans ho) (by omega) rfl ?_
  have w3 : ∀ b j, ¬ (b = 1595 ∧ j = 1) → wr i1 1595 1 0 b j = i1 b j := fun b j q => if_neg q
  have v3 : wr i1 1595 1 0 1595 1 = 0 := wr_s
  generalize wr i1 1595 1 0 = i3 at w3 v3 ⊢
  refine Ex.run 2 (pc' := 11) (L' := [.ref 1595]) (S' := [.int (-1), .ref 1595]) rfl ?_
  refine ex_putIT rfl ((h1.to (b := 1595) (by omega)).trans ho) (by omega) rfl ?_
  have w4 : ∀ b j, ¬ (b = 1595 ∧ j = 2) → wr i3 1595 2 (-1) b j = i3 b j := fun b j q => if_neg q
  have v4 : wr i3 1595 2 (-1) 1595 2 = (-1) := wr_s
  generalize wr i3 1595 2 (-1) = i4 at w4 v4 ⊢
  refine Ex.run 2 (pc' := 14) (L' := [.ref 1595]) (S' := [.int 0, .ref 1595]) rfl ?_
  refine ex_putIT rfl ((h1.to (b := 1595) (by omega)).trans ho) (by omega) rfl ?_
  have w5 : ∀ b j, ¬ (b = 1595 ∧ j = 3) → wr i4 1595 3 0 b j = i4 b j := fun b j q => if_neg q
  have v5 : wr i4 1595 3 0 1595 3 = 0 := wr_s
  generalize wr i4 1595 3 0 = i5 at w5 v5 ⊢
  refine Ex.run 2 (pc' := 17) (L' := [.ref 1595]) (S' := [.int 0, .ref 1595]) rfl ?_
  refine ex_putIT rfl ((h1.to (b := 1595) (by omega)).trans ho) (by omega) rfl ?_
  have w6 : ∀ b j, ¬ (b = 1595 ∧ j = 4) → wr i5 1595 4 0 b j = i5 b j := fun b j q => if_neg q
  have v6 : wr i5 1595 4 0 1595 4 = 0 := wr_s
  generalize wr i5 1595 4 0 = i6 at w6 v6 ⊢
  refine Ex.run 2 (pc' := 20) (L' := [.ref 1595]) (S' := [.int 0, .ref 1595]) rfl ?_
  refine ex_putIT rfl ((h1.to (b := 1595) (by omega)).trans ho) (by omega) rfl ?_
  have w7 : ∀ b j, ¬ (b = 1595 ∧ j = 5) → wr i6 1595 5 0 b j = i6 b j := fun b j q => if_neg q
  have v7 : wr i6 1595 5 0 1595 5 = 0 := wr_s
  generalize wr i6 1595 5 0 = i7 at w7 v7 ⊢
  refine Ex.run 2 (pc' := 23) (L' := [.ref 1595]) (S' := [.int 0, .ref 1595]) rfl ?_
  refine ex_putIT rfl ((h1.to (b := 1595) (by omega)).trans ho) (by omega) rfl ?_
  have w8 : ∀ b j, ¬ (b = 1595 ∧ j = 6) → wr i7 1595 6 0 b j = i7 b j := fun b j q => if_neg q
  have v8 : wr i7 1595 6 0 1595 6 = 0 := wr_s
  generalize wr i7 1595 6 0 = i8 at w8 v8 ⊢
  refine ex_retv rfl rfl ⟨t1, i8, r2, rfl, fun b hb => (h1.to (b := b) (by omega)), fun b j hb => ((w8 b j (by omega)).trans ((w7 b j (by omega)).trans ((w6 b j (by omega)).trans ((w5 b j (by omega)).trans ((w4 b j (by omega)).trans ((w3 b j (by omega)).trans (h1.io (b := b) (j := j) (by omega)))))))), fun b j hb => ((w2 b j (by omega)).trans (h1.ro (b := b) (j := j) (by omega))), ?_, ?_, ?_⟩
  · exact (List.forall_mem_cons.mpr ⟨((h1.to (b := 1595) (by omega)).trans ho), List.forall_mem_cons.mpr ⟨h1.tn, fun _ h => absurd h List.not_mem_nil⟩⟩)
  · exact (List.forall_mem_cons.mpr ⟨((w8 1595 1 (by omega)).trans ((w7 1595 1 (by omega)).trans ((w6 1595 1 (by omega)).trans ((w5 1595 1 (by omega)).trans ((w4 1595 1 (by omega)).trans v3))))), List.forall_mem_cons.mpr ⟨((w8 1595 2 (by omega)).trans ((w7 1595 2 (by omega)).trans ((w6 1595 2 (by omega)).trans ((w5 1595 2 (by omega)).trans v4)))), List.forall_mem_cons.mpr ⟨((w8 1595 3 (by omega)).trans ((w7 1595 3 (by omega)).trans ((w6 1595 3 (by omega)).trans v5))), List.forall_mem_cons.mpr ⟨((w8 1595 4 (by omega)).trans ((w7 1595 4 (by omega)).trans v6)), List.forall_mem_cons.mpr ⟨((w8 1595 5 (by omega)).trans v7), List.forall_mem_cons.mpr ⟨v8, fun _ h => absurd h List.not_mem_nil⟩⟩⟩⟩⟩⟩)
  · exact (List.forall_mem_cons.mpr ⟨v2, fun _ h => absurd h List.not_mem_nil⟩)
set_option maxHeartbeats 4000000 in
theorem rn_Sx_init (ho : t 1597 = (8, 1)) (hge : 1000 ≤ 1597) (hd : 1 ≤ d) : Rn d 79 [.ref 1597, .ref 1595] (1598, U, t, i, r) (CTO 1597 1598 0 [(1597, 8, 1)] [] [(1597, 0, 1595)] U t i r) := by
  refine Rn.of' (H := 0) (M := K_Sx_init) (L := [.ref 1597, .ref 1595]) hd rfl (by show (2 : Nat) ≤ 2; omega) rfl rfl (fun d hd => ?_)
  refine Ex.run 1 (pc' := 1) (L' := [.ref 1597, .ref 1595]) (S' := [.ref 1597]) rfl ?_
  refine ex_obj rfl (by omega) rfl ?_
  refine Ex.run 2 (pc' := 4) (L' := [.ref 1597, .ref 1595]) (S' := [.ref 1595, .ref 1597]) rfl ?_
  refine ex_putRT rfl ho (by omega) rfl (by omega) ?_
  have w1 : ∀ b j, ¬ (b = 1597 ∧ j = 0) → wrR r 1597 0 1595 b j = r b j := fun b j q => wrR_o q
  have v1 : wrR r 1597 0 1595 1597 0 = 1595 := wrR_s
  generalize wrR r 1597 0 1595 = r1 at w1 v1 ⊢
  refine ex_retv rfl rfl ⟨t, i, r1, rfl, fun b hb => rfl, fun b j hb => rfl, fun b j hb => (w1 b j (by omega)), ?_, ?_, ?_⟩
  · exact (List.forall_mem_cons.mpr ⟨ho, fun _ h => absurd h List.not_mem_nil⟩)
  · exact (fun _ h => absurd h List.not_mem_nil)
  · exact (List.forall_mem_cons.mpr ⟨v1, fun _ h => absurd h List.not_mem_nil⟩)
set_option maxHeartbeats 4000000 in
theorem rn_Lt_init (ho : t 1598 = (3, 7)) (hge : 1000 ≤ 1598) (hd : 1 ≤ d) : Rn d 21 [.ref 1598, .ref 1595] (1599, U, t, i, r) (CTO 1598 1603 437 [(1598, 3, 7), (1599, 100, 12), (1600, 100, 12), (1601, 100, 13), (1602, 100, 400)] [(1598, 5, 0), (1598, 6, 0), (1601, 0, 0)] [(1598, 0, 1595), (1598, 1, 1599), (1598, 2, 1600), (1598, 3, 1601), (1598, 4, 1602)] U t i r) := by
  refine Rn.of' (H := 0) (M := K_Lt_init) (L := [.ref 1598, .ref 1595]) hd rfl (by show (2 : Nat) ≤ 2; omega) rfl rfl (fun d hd => ?_)
  refine Ex.run 1 (pc' := 1) (L' := [.ref 1598, .ref 1595]) (S' := [.ref 1598]) rfl ?_
  refine ex_obj rfl (by omega) rfl ?_
  refine Ex.run 2 (pc' := 4) (L' := [.ref 1598, .ref 1595]) (S' := [.int 12, .ref 1598]) rfl ?_
  refine ex_newaN (k := 12) (N2 := 1600) (U2 := U + 12) rfl (by decide) rfl (by decide) rfl rfl (fun t1 i1 r1 h1 => ?_)
  refine ex_putRT rfl ((h1.to (b := 1598) (by omega)).trans ho) (by omega) rfl (by omega) ?_
  have w2 : ∀ b j, ¬ (b = 1598 ∧ j = 1) → wrR r1 1598 1 1599 b j = r1 b j := fun b j q => wrR_o q
  have v2 : wrR r1 1598 1 1599 1598 1 = 1599 := wrR_s
  generalize wrR r1 1598 1 1599 = r2 at w2 v2 ⊢
  refine Ex.run 2 (pc' := 8) (L' := [.ref 1598, .ref 1595]) (S' := [.int 12, .ref 1598]) rfl ?_
  refine ex_newaN (k := 12) (N2 := 1601) (U2 := U + 24) rfl (by decide) rfl (by decide) rfl rfl (fun t3 i3 r3 h3 => ?_)
  refine ex_putRT rfl ((h3.to (b := 1598) (by omega)).trans ((h1.to (b := 1598) (by omega)).trans ho)) (by omega) rfl (by omega) ?_
  have w4 : ∀ b j, ¬ (b = 1598 ∧ j = 2) → wrR r3 1598 2 1600 b j = r3 b j := fun b j q => wrR_o q
  have v4 : wrR r3 1598 2 1600 1598 2 = 1600 := wrR_s
  generalize wrR r3 1598 2 1600 = r4 at w4 v4 ⊢
  refine Ex.run 2 (pc' := 12) (L' := [.ref 1598, .ref 1595]) (S' := [.int 13, .ref 1598]) rfl ?_
  refine ex_newaN (k := 13) (N2 := 1602) (U2 := U + 37) rfl (by decide) rfl (by decide) rfl rfl (fun t5 i5 r5 h5 => ?_)
  refine ex_putRT rfl ((h5.to (b := 1598) (by omega)).trans ((h3.to (b := 1598) (by omega)).trans ((h1.to (b := 1598) (by omega)).trans ho))) (by omega) rfl (by omega) ?_
  have w6 : ∀ b j, ¬ (b = 1598 ∧ j = 3) → wrR r5 1598 3 1601 b j = r5 b j := fun b j q => wrR_o q
  have v6 : wrR r5 1598 3 1601 1598 3 = 1601 := wrR_s
  generalize wrR r5 1598 3 1601 = r6 at w6 v6 ⊢
  refine Ex.run 2 (pc' := 16) (L' := [.ref 1598, .ref 1595]) (S' := [.int 400, .ref 1598]) rfl ?_
  refine ex_newaN (k := 400) (N2 := 1603) (U2 := U + 437) rfl (by decide) rfl (by decide) rfl rfl (fun t7 i7 r7 h7 => ?_)
  refine ex_putRT rfl ((h7.to (b := 1598) (by omega)).trans ((h5.to (b := 1598) (by omega)).trans ((h3.to (b := 1598) (by omega)).trans ((h1.to (b := 1598) (by omega)).trans ho)))) (by omega) rfl (by omega) ?_
  have w8 : ∀ b j, ¬ (b = 1598 ∧ j = 4) → wrR r7 1598 4 1602 b j = r7 b j := fun b j q => wrR_o q
  have v8 : wrR r7 1598 4 1602 1598 4 = 1602 := wrR_s
  generalize wrR r7 1598 4 1602 = r8 at w8 v8 ⊢
  refine Ex.run 2 (pc' := 20) (L' := [.ref 1598, .ref 1595]) (S' := [.int 0, .ref 1598]) rfl ?_
  refine ex_putIT rfl ((h7.to (b := 1598) (by omega)).trans ((h5.to (b := 1598) (by omega)).trans ((h3.to (b := 1598) (by omega)).trans ((h1.to (b := 1598) (by omega)).trans ho)))) (by omega) rfl ?_
  have w9 : ∀ b j, ¬ (b = 1598 ∧ j = 5) → wr i7 1598 5 0 b j = i7 b j := fun b j q => if_neg q
  have v9 : wr i7 1598 5 0 1598 5 = 0 := wr_s
  generalize wr i7 1598 5 0 = i9 at w9 v9 ⊢
  refine Ex.run 2 (pc' := 23) (L' := [.ref 1598, .ref 1595]) (S' := [.int 0, .ref 1598]) rfl ?_
  refine ex_putIT rfl ((h7.to (b := 1598) (by omega)).trans ((h5.to (b := 1598) (by omega)).trans ((h3.to (b := 1598) (by omega)).trans ((h1.to (b := 1598) (by omega)).trans ho)))) (by omega) rfl ?_
  have w10 : ∀ b j, ¬ (b = 1598 ∧ j = 6) → wr i9 1598 6 0 b j = i9 b j := fun b j q => if_neg q
  have v10 : wr i9 1598 6 0 1598 6 = 0 := wr_s
  generalize wr i9 1598 6 0 = i10 at w10 v10 ⊢
  refine Ex.run 2 (pc' := 26) (L' := [.ref 1598, .ref 1595]) (S' := [.ref 1595, .ref 1598]) rfl ?_
  refine ex_putRT rfl ((h7.to (b := 1598) (by omega)).trans ((h5.to (b := 1598) (by omega)).trans ((h3.to (b := 1598) (by omega)).trans ((h1.to (b := 1598) (by omega)).trans ho)))) (by omega) rfl (by omega) ?_
  have w11 : ∀ b j, ¬ (b = 1598 ∧ j = 0) → wrR r8 1598 0 1595 b j = r8 b j := fun b j q => wrR_o q
  have v11 : wrR r8 1598 0 1595 1598 0 = 1595 := wrR_s
  generalize wrR r8 1598 0 1595 = r11 at w11 v11 ⊢
  refine ex_retv rfl rfl ⟨t7, i10, r11, rfl, fun b hb => ((h7.to (b := b) (by omega)).trans ((h5.to (b := b) (by omega)).trans ((h3.to (b := b) (by omega)).trans (h1.to (b := b) (by omega))))), fun b j hb => ((w10 b j (by omega)).trans ((w9 b j (by omega)).trans ((h7.io (b := b) (j := j) (by omega)).trans ((h5.io (b := b) (j := j) (by omega)).trans ((h3.io (b := b) (j := j) (by omega)).trans (h1.io (b := b) (j := j) (by omega))))))), fun b j hb => ((w11 b j (by omega)).trans ((w8 b j (by omega)).trans ((h7.ro (b := b) (j := j) (by omega)).trans ((w6 b j (by omega)).trans ((h5.ro (b := b) (j := j) (by omega)).trans ((w4 b j (by omega)).trans ((h3.ro (b := b) (j := j) (by omega)).trans ((w2 b j (by omega)).trans (h1.ro (b := b) (j := j) (by omega)))))))))), ?_, ?_, ?_⟩
  · exact (List.forall_mem_cons.mpr ⟨((h7.to (b := 1598) (by omega)).trans ((h5.to (b := 1598) (by omega)).trans ((h3.to (b := 1598) (by omega)).trans ((h1.to (b := 1598) (by omega)).trans ho)))), List.forall_mem_cons.mpr ⟨((h7.to (b := 1599) (by omega)).trans ((h5.to (b := 1599) (by omega)).trans ((h3.to (b := 1599) (by omega)).trans h1.tn))), List.forall_mem_cons.mpr ⟨((h7.to (b := 1600) (by omega)).trans ((h5.to (b := 1600) (by omega)).trans h3.tn)), List.forall_mem_cons.mpr ⟨((h7.to (b := 1601) (by omega)).trans h5.tn), List.forall_mem_cons.mpr ⟨h7.tn, fun _ h => absurd h List.not_mem_nil⟩⟩⟩⟩⟩)
  · exact (List.forall_mem_cons.mpr ⟨((w10 1598 5 (by omega)).trans v9), List.forall_mem_cons.mpr ⟨v10, List.forall_mem_cons.mpr ⟨((w10 1601 0 (by omega)).trans ((w9 1601 0 (by omega)).trans ((h7.io (b := 1601) (j := 0) (by omega)).trans h5.iz))), fun _ h => absurd h List.not_mem_nil⟩⟩⟩)
  · exact (List.forall_mem_cons.mpr ⟨v11, List.forall_mem_cons.mpr ⟨((w11 1598 1 (by omega)).trans ((w8 1598 1 (by omega)).trans ((h7.ro (b := 1598) (j := 1) (by omega)).trans ((w6 1598 1 (by omega)).trans ((h5.ro (b := 1598) (j := 1) (by omega)).trans ((w4 1598 1 (by omega)).trans ((h3.ro (b := 1598) (j := 1) (by omega)).trans v2))))))), List.forall_mem_cons.mpr ⟨((w11 1598 2 (by omega)).trans ((w8 1598 2 (by omega)).trans ((h7.ro (b := 1598) (j := 2) (by omega)).trans ((w6 1598 2 (by omega)).trans ((h5.ro (b := 1598) (j := 2) (by omega)).trans v4))))), List.forall_mem_cons.mpr ⟨((w11 1598 3 (by omega)).trans ((w8 1598 3 (by omega)).trans ((h7.ro (b := 1598) (j := 3) (by omega)).trans v6))), List.forall_mem_cons.mpr ⟨((w11 1598 4 (by omega)).trans v8), fun _ h => absurd h List.not_mem_nil⟩⟩⟩⟩⟩)
set_option maxHeartbeats 4000000 in
theorem rn_Co_init (ho : t 1603 = (0, 9)) (hge : 1000 ≤ 1603) (hd : 1 ≤ d) : Rn d 0 [.ref 1603] (1604, U, t, i, r) (CTO 1603 1614 334 [(1603, 0, 9), (1604, 104, 6), (1605, 100, 8), (1606, 100, 8), (1607, 100, 8), (1608, 100, 8), (1609, 100, 8), (1610, 100, 8), (1611, 100, 8), (1612, 100, 136), (1613, 100, 136)] [(1603, 2, 0), (1603, 3, 0), (1603, 4, 0), (1603, 5, 0), (1603, 6, (-1))] [(1603, 0, 1604), (1603, 1, 1611), (1603, 7, 1612), (1603, 8, 1613), (1604, 0, 1605), (1604, 1, 1606), (1604, 2, 1607), (1604, 3, 1608), (1604, 4, 1609), (1604, 5, 1610)] U t i r) := by
  refine Rn.of' (H := 0) (M := K_Co_init) (L := [.ref 1603]) hd rfl (by show (1 : Nat) ≤ 1; omega) rfl rfl (fun d hd => ?_)
  refine Ex.run 1 (pc' := 1) (L' := [.ref 1603]) (S' := [.ref 1603]) rfl ?_
  refine ex_obj rfl (by omega) rfl ?_
  refine Ex.run 3 (pc' := 5) (L' := [.ref 1603]) (S' := [.int 8, .int 6, .ref 1603]) rfl ?_
  refine ex_mnaN (n := 6) (k := 8) (N2 := 1611) (U2 := U + 54) rfl (by decide) (by decide) rfl rfl (fun t1 i1 r1 h1 => ?_)
  refine ex_putRT rfl (((h1.1 1603).trans ((if_neg (by omega)).trans (if_neg (by omega)))).trans ho) (by omega) rfl (by omega) ?_
  have w2 : ∀ b j, ¬ (b = 1603 ∧ j = 0) → wrR r1 1603 0 1604 b j = r1 b j := fun b j q => wrR_o q
  have v2 : wrR r1 1603 0 1604 1603 0 = 1604 := wrR_s
  generalize wrR r1 1603 0 1604 = r2 at w2 v2 ⊢
  refine Ex.run 2 (pc' := 9) (L' := [.ref 1603]) (S' := [.int 8, .ref 1603]) rfl ?_
  refine ex_newaN (k := 8) (N2 := 1612) (U2 := U + 62) rfl (by decide) rfl (by decide) rfl rfl (fun t3 i3 r3 h3 => ?_)
  refine ex_putRT rfl ((h3.to (b := 1603) (by omega)).trans (((h1.1 1603).trans ((if_neg (by omega)).trans (if_neg (by omega)))).trans ho)) (by omega) rfl (by omega) ?_
  have w4 : ∀ b j, ¬ (b = 1603 ∧ j = 1) → wrR r3 1603 1 1611 b j = r3 b j := fun b j q => wrR_o q
  have v4 : wrR r3 1603 1 1611 1603 1 = 1611 := wrR_s
  generalize wrR r3 1603 1 1611 = r4 at w4 v4 ⊢
  refine Ex.run 2 (pc' := 13) (L' := [.ref 1603]) (S' := [.int 0, .ref 1603]) rfl ?_
  refine ex_putIT rfl ((h3.to (b := 1603) (by omega)).trans (((h1.1 1603).trans ((if_neg (by omega)).trans (if_neg (by omega)))).trans ho)) (by omega) rfl ?_
  have w5 : ∀ b j, ¬ (b = 1603 ∧ j = 2) → wr i3 1603 2 0 b j = i3 b j := fun b j q => if_neg q
  have v5 : wr i3 1603 2 0 1603 2 = 0 := wr_s
  generalize wr i3 1603 2 0 = i5 at w5 v5 ⊢
  refine Ex.run 2 (pc' := 16) (L' := [.ref 1603]) (S' := [.int 0, .ref 1603]) rfl ?_
  refine ex_putIT rfl ((h3.to (b := 1603) (by omega)).trans (((h1.1 1603).trans ((if_neg (by omega)).trans (if_neg (by omega)))).trans ho)) (by omega) rfl ?_
  have w6 : ∀ b j, ¬ (b = 1603 ∧ j = 3) → wr i5 1603 3 0 b j = i5 b j := fun b j q => if_neg q
  have v6 : wr i5 1603 3 0 1603 3 = 0 := wr_s
  generalize wr i5 1603 3 0 = i6 at w6 v6 ⊢
  refine Ex.run 2 (pc' := 19) (L' := [.ref 1603]) (S' := [.int 0, .ref 1603]) rfl ?_
  refine ex_putIT rfl ((h3.to (b := 1603) (by omega)).trans (((h1.1 1603).trans ((if_neg (by omega)).trans (if_neg (by omega)))).trans ho)) (by omega) rfl ?_
  have w7 : ∀ b j, ¬ (b = 1603 ∧ j = 4) → wr i6 1603 4 0 b j = i6 b j := fun b j q => if_neg q
  have v7 : wr i6 1603 4 0 1603 4 = 0 := wr_s
  generalize wr i6 1603 4 0 = i7 at w7 v7 ⊢
  refine Ex.run 2 (pc' := 22) (L' := [.ref 1603]) (S' := [.int 0, .ref 1603]) rfl ?_
  refine ex_putIT rfl ((h3.to (b := 1603) (by omega)).trans (((h1.1 1603).trans ((if_neg (by omega)).trans (if_neg (by omega)))).trans ho)) (by omega) rfl ?_
  have w8 : ∀ b j, ¬ (b = 1603 ∧ j = 5) → wr i7 1603 5 0 b j = i7 b j := fun b j q => if_neg q
  have v8 : wr i7 1603 5 0 1603 5 = 0 := wr_s
  generalize wr i7 1603 5 0 = i8 at w8 v8 ⊢
  refine Ex.run 2 (pc' := 25) (L' := [.ref 1603]) (S' := [.int (-1), .ref 1603]) rfl ?_
  refine ex_putIT rfl ((h3.to (b := 1603) (by omega)).trans (((h1.1 1603).trans ((if_neg (by omega)).trans (if_neg (by omega)))).trans ho)) (by omega) rfl ?_
  have w9 : ∀ b j, ¬ (b = 1603 ∧ j = 6) → wr i8 1603 6 (-1) b j = i8 b j := fun b j q => if_neg q
  have v9 : wr i8 1603 6 (-1) 1603 6 = (-1) := wr_s
  generalize wr i8 1603 6 (-1) = i9 at w9 v9 ⊢
  refine Ex.run 2 (pc' := 28) (L' := [.ref 1603]) (S' := [.int 136, .ref 1603]) rfl ?_
  refine ex_newaN (k := 136) (N2 := 1613) (U2 := U + 198) rfl (by decide) rfl (by decide) rfl rfl (fun t10 i10 r10 h10 => ?_)
  refine ex_putRT rfl ((h10.to (b := 1603) (by omega)).trans ((h3.to (b := 1603) (by omega)).trans (((h1.1 1603).trans ((if_neg (by omega)).trans (if_neg (by omega)))).trans ho))) (by omega) rfl (by omega) ?_
  have w11 : ∀ b j, ¬ (b = 1603 ∧ j = 7) → wrR r10 1603 7 1612 b j = r10 b j := fun b j q => wrR_o q
  have v11 : wrR r10 1603 7 1612 1603 7 = 1612 := wrR_s
  generalize wrR r10 1603 7 1612 = r11 at w11 v11 ⊢
  refine Ex.run 2 (pc' := 32) (L' := [.ref 1603]) (S' := [.int 136, .ref 1603]) rfl ?_
  refine ex_newaN (k := 136) (N2 := 1614) (U2 := U + 334) rfl (by decide) rfl (by decide) rfl rfl (fun t12 i12 r12 h12 => ?_)
  refine ex_putRT rfl ((h12.to (b := 1603) (by omega)).trans ((h10.to (b := 1603) (by omega)).trans ((h3.to (b := 1603) (by omega)).trans (((h1.1 1603).trans ((if_neg (by omega)).trans (if_neg (by omega)))).trans ho)))) (by omega) rfl (by omega) ?_
  have w13 : ∀ b j, ¬ (b = 1603 ∧ j = 8) → wrR r12 1603 8 1613 b j = r12 b j := fun b j q => wrR_o q
  have v13 : wrR r12 1603 8 1613 1603 8 = 1613 := wrR_s
  generalize wrR r12 1603 8 1613 = r13 at w13 v13 ⊢
  refine ex_retv rfl rfl ⟨t12, i12, r13, rfl, fun b hb => ((h12.to (b := b) (by omega)).trans ((h10.to (b := b) (by omega)).trans ((h3.to (b := b) (by omega)).trans ((h1.1 b).trans ((if_neg (by omega)).trans (if_neg (by omega))))))), fun b j hb => ((h12.io (b := b) (j := j) (by omega)).trans ((h10.io (b := b) (j := j) (by omega)).trans ((w9 b j (by omega)).trans ((w8 b j (by omega)).trans ((w7 b j (by omega)).trans ((w6 b j (by omega)).trans ((w5 b j (by omega)).trans ((h3.io (b := b) (j := j) (by omega)).trans ((h1.2.1 b j).trans (if_neg (by omega))))))))))), fun b j hb => ((w13 b j (by omega)).trans ((h12.ro (b := b) (j := j) (by omega)).trans ((w11 b j (by omega)).trans ((h10.ro (b := b) (j := j) (by omega)).trans ((w4 b j (by omega)).trans ((h3.ro (b := b) (j := j) (by omega)).trans ((w2 b j (by omega)).trans ((h1.2.2 b j).trans ((if_neg (by omega)).trans (if_neg (by omega))))))))))), ?_, ?_, ?_⟩
  · exact (List.forall_mem_cons.mpr ⟨((h12.to (b := 1603) (by omega)).trans ((h10.to (b := 1603) (by omega)).trans ((h3.to (b := 1603) (by omega)).trans (((h1.1 1603).trans ((if_neg (by omega)).trans (if_neg (by omega)))).trans ho)))), List.forall_mem_cons.mpr ⟨((h12.to (b := 1604) (by omega)).trans ((h10.to (b := 1604) (by omega)).trans ((h3.to (b := 1604) (by omega)).trans ((h1.1 1604).trans (if_pos rfl))))), List.forall_mem_cons.mpr ⟨((h12.to (b := 1605) (by omega)).trans ((h10.to (b := 1605) (by omega)).trans ((h3.to (b := 1605) (by omega)).trans ((h1.1 1605).trans ((if_neg (by omega)).trans (if_pos ⟨by omega, by omega⟩)))))), List.forall_mem_cons.mpr ⟨((h12.to (b := 1606) (by omega)).trans ((h10.to (b := 1606) (by omega)).trans ((h3.to (b := 1606) (by omega)).trans ((h1.1 1606).trans ((if_neg (by omega)).trans (if_pos ⟨by omega, by omega⟩)))))), List.forall_mem_cons.mpr ⟨((h12.to (b := 1607) (by omega)).trans ((h10.to (b := 1607) (by omega)).trans ((h3.to (b := 1607) (by omega)).trans ((h1.1 1607).trans ((if_neg (by omega)).trans (if_pos ⟨by omega, by omega⟩)))))), List.forall_mem_cons.mpr ⟨((h12.to (b := 1608) (by omega)).trans ((h10.to (b := 1608) (by omega)).trans ((h3.to (b := 1608) (by omega)).trans ((h1.1 1608).trans ((if_neg (by omega)).trans (if_pos ⟨by omega, by omega⟩)))))), List.forall_mem_cons.mpr ⟨((h12.to (b := 1609) (by omega)).trans ((h10.to (b := 1609) (by omega)).trans ((h3.to (b := 1609) (by omega)).trans ((h1.1 1609).trans ((if_neg (by omega)).trans (if_pos ⟨by omega, by omega⟩)))))), List.forall_mem_cons.mpr ⟨((h12.to (b := 1610) (by omega)).trans ((h10.to (b := 1610) (by omega)).trans ((h3.to (b := 1610) (by omega)).trans ((h1.1 1610).trans ((if_neg (by omega)).trans (if_pos ⟨by omega, by omega⟩)))))), List.forall_mem_cons.mpr ⟨((h12.to (b := 1611) (by omega)).trans ((h10.to (b := 1611) (by omega)).trans h3.tn)), List.forall_mem_cons.mpr ⟨((h12.to (b := 1612) (by omega)).trans h10.tn), List.forall_mem_cons.mpr ⟨h12.tn, fun _ h => absurd h List.not_mem_nil⟩⟩⟩⟩⟩⟩⟩⟩⟩⟩⟩)
  · exact (List.forall_mem_cons.mpr ⟨((h12.io (b := 1603) (j := 2) (by omega)).trans ((h10.io (b := 1603) (j := 2) (by omega)).trans ((w9 1603 2 (by omega)).trans ((w8 1603 2 (by omega)).trans ((w7 1603 2 (by omega)).trans ((w6 1603 2 (by omega)).trans v5)))))), List.forall_mem_cons.mpr ⟨((h12.io (b := 1603) (j := 3) (by omega)).trans ((h10.io (b := 1603) (j := 3) (by omega)).trans ((w9 1603 3 (by omega)).trans ((w8 1603 3 (by omega)).trans ((w7 1603 3 (by omega)).trans v6))))), List.forall_mem_cons.mpr ⟨((h12.io (b := 1603) (j := 4) (by omega)).trans ((h10.io (b := 1603) (j := 4) (by omega)).trans ((w9 1603 4 (by omega)).trans ((w8 1603 4 (by omega)).trans v7)))), List.forall_mem_cons.mpr ⟨((h12.io (b := 1603) (j := 5) (by omega)).trans ((h10.io (b := 1603) (j := 5) (by omega)).trans ((w9 1603 5 (by omega)).trans v8))), List.forall_mem_cons.mpr ⟨((h12.io (b := 1603) (j := 6) (by omega)).trans ((h10.io (b := 1603) (j := 6) (by omega)).trans v9)), fun _ h => absurd h List.not_mem_nil⟩⟩⟩⟩⟩)
  · exact (List.forall_mem_cons.mpr ⟨((w13 1603 0 (by omega)).trans ((h12.ro (b := 1603) (j := 0) (by omega)).trans ((w11 1603 0 (by omega)).trans ((h10.ro (b := 1603) (j := 0) (by omega)).trans ((w4 1603 0 (by omega)).trans ((h3.ro (b := 1603) (j := 0) (by omega)).trans v2)))))), List.forall_mem_cons.mpr ⟨((w13 1603 1 (by omega)).trans ((h12.ro (b := 1603) (j := 1) (by omega)).trans ((w11 1603 1 (by omega)).trans ((h10.ro (b := 1603) (j := 1) (by omega)).trans v4)))), List.forall_mem_cons.mpr ⟨((w13 1603 7 (by omega)).trans ((h12.ro (b := 1603) (j := 7) (by omega)).trans v11)), List.forall_mem_cons.mpr ⟨v13, List.forall_mem_cons.mpr ⟨((w13 1604 0 (by omega)).trans ((h12.ro (b := 1604) (j := 0) (by omega)).trans ((w11 1604 0 (by omega)).trans ((h10.ro (b := 1604) (j := 0) (by omega)).trans ((w4 1604 0 (by omega)).trans ((h3.ro (b := 1604) (j := 0) (by omega)).trans ((w2 1604 0 (by omega)).trans ((h1.2.2 1604 0).trans ((if_pos rfl).trans (if_pos (by omega))))))))))), List.forall_mem_cons.mpr ⟨((w13 1604 1 (by omega)).trans ((h12.ro (b := 1604) (j := 1) (by omega)).trans ((w11 1604 1 (by omega)).trans ((h10.ro (b := 1604) (j := 1) (by omega)).trans ((w4 1604 1 (by omega)).trans ((h3.ro (b := 1604) (j := 1) (by omega)).trans ((w2 1604 1 (by omega)).trans ((h1.2.2 1604 1).trans ((if_pos rfl).trans (if_pos (by omega))))))))))), List.forall_mem_cons.mpr ⟨((w13 1604 2 (by omega)).trans ((h12.ro (b := 1604) (j := 2) (by omega)).trans ((w11 1604 2 (by omega)).trans ((h10.ro (b := 1604) (j := 2) (by omega)).trans ((w4 1604 2 (by omega)).trans ((h3.ro (b := 1604) (j := 2) (by omega)).trans ((w2 1604 2 (by omega)).trans ((h1.2.2 1604 2).trans ((if_pos rfl).trans (if_pos (by omega))))))))))), List.forall_mem_cons.mpr ⟨((w13 1604 3 (by omega)).trans ((h12.ro (b := 1604) (j := 3) (by omega)).trans ((w11 1604 3 (by omega)).trans ((h10.ro (b := 1604) (j := 3) (by omega)).trans ((w4 1604 3 (by omega)).trans ((h3.ro (b := 1604) (j := 3) (by omega)).trans ((w2 1604 3 (by omega)).trans ((h1.2.2 1604 3).trans ((if_pos rfl).trans (if_pos (by omega))))))))))), List.forall_mem_cons.mpr ⟨((w13 1604 4 (by omega)).trans ((h12.ro (b := 1604) (j := 4) (by omega)).trans ((w11 1604 4 (by omega)).trans ((h10.ro (b := 1604) (j := 4) (by omega)).trans ((w4 1604 4 (by omega)).trans ((h3.ro (b := 1604) (j := 4) (by omega)).trans ((w2 1604 4 (by omega)).trans ((h1.2.2 1604 4).trans ((if_pos rfl).trans (if_pos (by omega))))))))))), List.forall_mem_cons.mpr ⟨((w13 1604 5 (by omega)).trans ((h12.ro (b := 1604) (j := 5) (by omega)).trans ((w11 1604 5 (by omega)).trans ((h10.ro (b := 1604) (j := 5) (by omega)).trans ((w4 1604 5 (by omega)).trans ((h3.ro (b := 1604) (j := 5) (by omega)).trans ((w2 1604 5 (by omega)).trans ((h1.2.2 1604 5).trans ((if_pos rfl).trans (if_pos (by omega))))))))))), fun _ h => absurd h List.not_mem_nil⟩⟩⟩⟩⟩⟩⟩⟩⟩⟩)
set_option maxHeartbeats 4000000 in
theorem rn_Pu_init (ho : t 1614 = (6, 6)) (hge : 1000 ≤ 1614) (hd : 1 ≤ d) : Rn d 38 [.ref 1614] (1615, U, t, i, r) (CTO 1614 1620 532 [(1614, 6, 6), (1615, 100, 8), (1616, 100, 6), (1617, 100, 6), (1618, 100, 256), (1619, 102, 256)] [(1614, 5, 0)] [(1614, 0, 1615), (1614, 1, 1616), (1614, 2, 1617), (1614, 3, 1618), (1614, 4, 1619)] U t i r) := by
  refine Rn.of' (H := 0) (M := K_Pu_init) (L := [.ref 1614]) hd rfl (by show (1 : Nat) ≤ 1; omega) rfl rfl (fun d hd => ?_)
  refine Ex.run 1 (pc' := 1) (L' := [.ref 1614]) (S' := [.ref 1614]) rfl ?_
  refine ex_obj rfl (by omega) rfl ?_
  refine Ex.run 2 (pc' := 4) (L' := [.ref 1614]) (S' := [.int 8, .ref 1614]) rfl ?_
  refine ex_newaN (k := 8) (N2 := 1616) (U2 := U + 8) rfl (by decide) rfl (by decide) rfl rfl (fun t1 i1 r1 h1 => ?_)
  refine ex_putRT rfl ((h1.to (b := 1614) (by omega)).trans ho) (by omega) rfl (by omega) ?_
  have w2 : ∀ b j, ¬ (b = 1614 ∧ j = 0) → wrR r1 1614 0 1615 b j = r1 b j := fun b j q => wrR_o q
  have v2 : wrR r1 1614 0 1615 1614 0 = 1615 := wrR_s
  generalize wrR r1 1614 0 1615 = r2 at w2 v2 ⊢
  refine Ex.run 2 (pc' := 8) (L' := [.ref 1614]) (S' := [.int 6, .ref 1614]) rfl ?_
  refine ex_newaN (k := 6) (N2 := 1617) (U2 := U + 14) rfl (by decide) rfl (by decide) rfl rfl (fun t3 i3 r3 h3 => ?_)
  refine ex_putRT rfl ((h3.to (b := 1614) (by omega)).trans ((h1.to (b := 1614) (by omega)).trans ho)) (by omega) rfl (by omega) ?_
  have w4 : ∀ b j, ¬ (b = 1614 ∧ j = 1) → wrR r3 1614 1 1616 b j = r3 b j := fun b j q => wrR_o q
  have v4 : wrR r3 1614 1 1616 1614 1 = 1616 := wrR_s
  generalize wrR r3 1614 1 1616 = r4 at w4 v4 ⊢
  refine Ex.run 2 (pc' := 12) (L' := [.ref 1614]) (S' := [.int 6, .ref 1614]) rfl ?_
  refine ex_newaN (k := 6) (N2 := 1618) (U2 := U + 20) rfl (by decide) rfl (by decide) rfl rfl (fun t5 i5 r5 h5 => ?_)
  refine ex_putRT rfl ((h5.to (b := 1614) (by omega)).trans ((h3.to (b := 1614) (by omega)).trans ((h1.to (b := 1614) (by omega)).trans ho))) (by omega) rfl (by omega) ?_
  have w6 : ∀ b j, ¬ (b = 1614 ∧ j = 2) → wrR r5 1614 2 1617 b j = r5 b j := fun b j q => wrR_o q
  have v6 : wrR r5 1614 2 1617 1614 2 = 1617 := wrR_s
  generalize wrR r5 1614 2 1617 = r6 at w6 v6 ⊢
  refine Ex.run 2 (pc' := 16) (L' := [.ref 1614]) (S' := [.int 256, .ref 1614]) rfl ?_
  refine ex_newaN (k := 256) (N2 := 1619) (U2 := U + 276) rfl (by decide) rfl (by decide) rfl rfl (fun t7 i7 r7 h7 => ?_)
  refine ex_putRT rfl ((h7.to (b := 1614) (by omega)).trans ((h5.to (b := 1614) (by omega)).trans ((h3.to (b := 1614) (by omega)).trans ((h1.to (b := 1614) (by omega)).trans ho)))) (by omega) rfl (by omega) ?_
  have w8 : ∀ b j, ¬ (b = 1614 ∧ j = 3) → wrR r7 1614 3 1618 b j = r7 b j := fun b j q => wrR_o q
  have v8 : wrR r7 1614 3 1618 1614 3 = 1618 := wrR_s
  generalize wrR r7 1614 3 1618 = r8 at w8 v8 ⊢
  refine Ex.run 2 (pc' := 20) (L' := [.ref 1614]) (S' := [.int 256, .ref 1614]) rfl ?_
  refine ex_newaN (k := 256) (N2 := 1620) (U2 := U + 532) rfl (by decide) rfl (by decide) rfl rfl (fun t9 i9 r9 h9 => ?_)
  refine ex_putRT rfl ((h9.to (b := 1614) (by omega)).trans ((h7.to (b := 1614) (by omega)).trans ((h5.to (b := 1614) (by omega)).trans ((h3.to (b := 1614) (by omega)).trans ((h1.to (b := 1614) (by omega)).trans ho))))) (by omega) rfl (by omega) ?_
  have w10 : ∀ b j, ¬ (b = 1614 ∧ j = 4) → wrR r9 1614 4 1619 b j = r9 b j := fun b j q => wrR_o q
  have v10 : wrR r9 1614 4 1619 1614 4 = 1619 := wrR_s
  generalize wrR r9 1614 4 1619 = r10 at w10 v10 ⊢
  refine Ex.run 2 (pc' := 24) (L' := [.ref 1614]) (S' := [.int 0, .ref 1614]) rfl ?_
  refine ex_putIT rfl ((h9.to (b := 1614) (by omega)).trans ((h7.to (b := 1614) (by omega)).trans ((h5.to (b := 1614) (by omega)).trans ((h3.to (b := 1614) (by omega)).trans ((h1.to (b := 1614) (by omega)).trans ho))))) (by omega) rfl ?_
  have w11 : ∀ b j, ¬ (b = 1614 ∧ j = 5) → wr i9 1614 5 0 b j = i9 b j := fun b j q => if_neg q
  have v11 : wr i9 1614 5 0 1614 5 = 0 := wr_s
  generalize wr i9 1614 5 0 = i11 at w11 v11 ⊢
  refine ex_retv rfl rfl ⟨t9, i11, r10, rfl, fun b hb => ((h9.to (b := b) (by omega)).trans ((h7.to (b := b) (by omega)).trans ((h5.to (b := b) (by omega)).trans ((h3.to (b := b) (by omega)).trans (h1.to (b := b) (by omega)))))), fun b j hb => ((w11 b j (by omega)).trans ((h9.io (b := b) (j := j) (by omega)).trans ((h7.io (b := b) (j := j) (by omega)).trans ((h5.io (b := b) (j := j) (by omega)).trans ((h3.io (b := b) (j := j) (by omega)).trans (h1.io (b := b) (j := j) (by omega))))))), fun b j hb => ((w10 b j (by omega)).trans ((h9.ro (b := b) (j := j) (by omega)).trans ((w8 b j (by omega)).trans ((h7.ro (b := b) (j := j) (by omega)).trans ((w6 b j (by omega)).trans ((h5.ro (b := b) (j := j) (by omega)).trans ((w4 b j (by omega)).trans ((h3.ro (b := b) (j := j) (by omega)).trans ((w2 b j (by omega)).trans (h1.ro (b := b) (j := j) (by omega))))))))))), ?_, ?_, ?_⟩
  · exact (List.forall_mem_cons.mpr ⟨((h9.to (b := 1614) (by omega)).trans ((h7.to (b := 1614) (by omega)).trans ((h5.to (b := 1614) (by omega)).trans ((h3.to (b := 1614) (by omega)).trans ((h1.to (b := 1614) (by omega)).trans ho))))), List.forall_mem_cons.mpr ⟨((h9.to (b := 1615) (by omega)).trans ((h7.to (b := 1615) (by omega)).trans ((h5.to (b := 1615) (by omega)).trans ((h3.to (b := 1615) (by omega)).trans h1.tn)))), List.forall_mem_cons.mpr ⟨((h9.to (b := 1616) (by omega)).trans ((h7.to (b := 1616) (by omega)).trans ((h5.to (b := 1616) (by omega)).trans h3.tn))), List.forall_mem_cons.mpr ⟨((h9.to (b := 1617) (by omega)).trans ((h7.to (b := 1617) (by omega)).trans h5.tn)), List.forall_mem_cons.mpr ⟨((h9.to (b := 1618) (by omega)).trans h7.tn), List.forall_mem_cons.mpr ⟨h9.tn, fun _ h => absurd h List.not_mem_nil⟩⟩⟩⟩⟩⟩)
  · exact (List.forall_mem_cons.mpr ⟨v11, fun _ h => absurd h List.not_mem_nil⟩)
  · exact (List.forall_mem_cons.mpr ⟨((w10 1614 0 (by omega)).trans ((h9.ro (b := 1614) (j := 0) (by omega)).trans ((w8 1614 0 (by omega)).trans ((h7.ro (b := 1614) (j := 0) (by omega)).trans ((w6 1614 0 (by omega)).trans ((h5.ro (b := 1614) (j := 0) (by omega)).trans ((w4 1614 0 (by omega)).trans ((h3.ro (b := 1614) (j := 0) (by omega)).trans v2)))))))), List.forall_mem_cons.mpr ⟨((w10 1614 1 (by omega)).trans ((h9.ro (b := 1614) (j := 1) (by omega)).trans ((w8 1614 1 (by omega)).trans ((h7.ro (b := 1614) (j := 1) (by omega)).trans ((w6 1614 1 (by omega)).trans ((h5.ro (b := 1614) (j := 1) (by omega)).trans v4)))))), List.forall_mem_cons.mpr ⟨((w10 1614 2 (by omega)).trans ((h9.ro (b := 1614) (j := 2) (by omega)).trans ((w8 1614 2 (by omega)).trans ((h7.ro (b := 1614) (j := 2) (by omega)).trans v6)))), List.forall_mem_cons.mpr ⟨((w10 1614 3 (by omega)).trans ((h9.ro (b := 1614) (j := 3) (by omega)).trans v8)), List.forall_mem_cons.mpr ⟨v10, fun _ h => absurd h List.not_mem_nil⟩⟩⟩⟩⟩)
set_option maxHeartbeats 4000000 in
theorem rn_Sl_init (ho : t 1620 = (9, 5)) (hge : 1000 ≤ 1620) (hd : 1 ≤ d) : Rn d 93 [.ref 1620] (1621, U, t, i, r) (CTO 1620 1631 1566 [(1620, 9, 5), (1621, 104, 6), (1622, 100, 256), (1623, 100, 256), (1624, 100, 256), (1625, 100, 256), (1626, 100, 256), (1627, 100, 256), (1628, 100, 8), (1629, 100, 8), (1630, 100, 8)] [(1620, 4, 0)] [(1620, 0, 1621), (1620, 1, 1628), (1620, 2, 1629), (1620, 3, 1630), (1621, 0, 1622), (1621, 1, 1623), (1621, 2, 1624), (1621, 3, 1625), (1621, 4, 1626), (1621, 5, 1627)] U t i r) := by
  refine Rn.of' (H := 0) (M := K_Sl_init) (L := [.ref 1620]) hd rfl (by show (1 : Nat) ≤ 1; omega) rfl rfl (fun d hd => ?_)
  refine Ex.run 1 (pc' := 1) (L' := [.ref 1620]) (S' := [.ref 1620]) rfl ?_
  refine ex_obj rfl (by omega) rfl ?_
  refine Ex.run 3 (pc' := 5) (L' := [.ref 1620]) (S' := [.int 256, .int 6, .ref 1620]) rfl ?_
  refine ex_mnaN (n := 6) (k := 256) (N2 := 1628) (U2 := U + 1542) rfl (by decide) (by decide) rfl rfl (fun t1 i1 r1 h1 => ?_)
  refine ex_putRT rfl (((h1.1 1620).trans ((if_neg (by omega)).trans (if_neg (by omega)))).trans ho) (by omega) rfl (by omega) ?_
  have w2 : ∀ b j, ¬ (b = 1620 ∧ j = 0) → wrR r1 1620 0 1621 b j = r1 b j := fun b j q => wrR_o q
  have v2 : wrR r1 1620 0 1621 1620 0 = 1621 := wrR_s
  generalize wrR r1 1620 0 1621 = r2 at w2 v2 ⊢
  refine Ex.run 2 (pc' := 9) (L' := [.ref 1620]) (S' := [.int 8, .ref 1620]) rfl ?_
  refine ex_newaN (k := 8) (N2 := 1629) (U2 := U + 1550) rfl (by decide) rfl (by decide) rfl rfl (fun t3 i3 r3 h3 => ?_)
  refine ex_putRT rfl ((h3.to (b := 1620) (by omega)).trans (((h1.1 1620).trans ((if_neg (by omega)).trans (if_neg (by omega)))).trans ho)) (by omega) rfl (by omega) ?_
  have w4 : ∀ b j, ¬ (b = 1620 ∧ j = 1) → wrR r3 1620 1 1628 b j = r3 b j := fun b j q => wrR_o q
  have v4 : wrR r3 1620 1 1628 1620 1 = 1628 := wrR_s
  generalize wrR r3 1620 1 1628 = r4 at w4 v4 ⊢
  refine Ex.run 2 (pc' := 13) (L' := [.ref 1620]) (S' := [.int 8, .ref 1620]) rfl ?_
  refine ex_newaN (k := 8) (N2 := 1630) (U2 := U + 1558) rfl (by decide) rfl (by decide) rfl rfl (fun t5 i5 r5 h5 => ?_)
  refine ex_putRT rfl ((h5.to (b := 1620) (by omega)).trans ((h3.to (b := 1620) (by omega)).trans (((h1.1 1620).trans ((if_neg (by omega)).trans (if_neg (by omega)))).trans ho))) (by omega) rfl (by omega) ?_
  have w6 : ∀ b j, ¬ (b = 1620 ∧ j = 2) → wrR r5 1620 2 1629 b j = r5 b j := fun b j q => wrR_o q
  have v6 : wrR r5 1620 2 1629 1620 2 = 1629 := wrR_s
  generalize wrR r5 1620 2 1629 = r6 at w6 v6 ⊢
  refine Ex.run 2 (pc' := 17) (L' := [.ref 1620]) (S' := [.int 8, .ref 1620]) rfl ?_
  refine ex_newaN (k := 8) (N2 := 1631) (U2 := U + 1566) rfl (by decide) rfl (by decide) rfl rfl (fun t7 i7 r7 h7 => ?_)
  refine ex_putRT rfl ((h7.to (b := 1620) (by omega)).trans ((h5.to (b := 1620) (by omega)).trans ((h3.to (b := 1620) (by omega)).trans (((h1.1 1620).trans ((if_neg (by omega)).trans (if_neg (by omega)))).trans ho)))) (by omega) rfl (by omega) ?_
  have w8 : ∀ b j, ¬ (b = 1620 ∧ j = 3) → wrR r7 1620 3 1630 b j = r7 b j := fun b j q => wrR_o q
  have v8 : wrR r7 1620 3 1630 1620 3 = 1630 := wrR_s
  generalize wrR r7 1620 3 1630 = r8 at w8 v8 ⊢
  refine Ex.run 2 (pc' := 21) (L' := [.ref 1620]) (S' := [.int 0, .ref 1620]) rfl ?_
  refine ex_putIT rfl ((h7.to (b := 1620) (by omega)).trans ((h5.to (b := 1620) (by omega)).trans ((h3.to (b := 1620) (by omega)).trans (((h1.1 1620).trans ((if_neg (by omega)).trans (if_neg (by omega)))).trans ho)))) (by omega) rfl ?_
  have w9 : ∀ b j, ¬ (b = 1620 ∧ j = 4) → wr i7 1620 4 0 b j = i7 b j := fun b j q => if_neg q
  have v9 : wr i7 1620 4 0 1620 4 = 0 := wr_s
  generalize wr i7 1620 4 0 = i9 at w9 v9 ⊢
  refine ex_retv rfl rfl ⟨t7, i9, r8, rfl, fun b hb => ((h7.to (b := b) (by omega)).trans ((h5.to (b := b) (by omega)).trans ((h3.to (b := b) (by omega)).trans ((h1.1 b).trans ((if_neg (by omega)).trans (if_neg (by omega))))))), fun b j hb => ((w9 b j (by omega)).trans ((h7.io (b := b) (j := j) (by omega)).trans ((h5.io (b := b) (j := j) (by omega)).trans ((h3.io (b := b) (j := j) (by omega)).trans ((h1.2.1 b j).trans (if_neg (by omega))))))), fun b j hb => ((w8 b j (by omega)).trans ((h7.ro (b := b) (j := j) (by omega)).trans ((w6 b j (by omega)).trans ((h5.ro (b := b) (j := j) (by omega)).trans ((w4 b j (by omega)).trans ((h3.ro (b := b) (j := j) (by omega)).trans ((w2 b j (by omega)).trans ((h1.2.2 b j).trans ((if_neg (by omega)).trans (if_neg (by omega))))))))))), ?_, ?_, ?_⟩
  · exact (List.forall_mem_cons.mpr ⟨((h7.to (b := 1620) (by omega)).trans ((h5.to (b := 1620) (by omega)).trans ((h3.to (b := 1620) (by omega)).trans (((h1.1 1620).trans ((if_neg (by omega)).trans (if_neg (by omega)))).trans ho)))), List.forall_mem_cons.mpr ⟨((h7.to (b := 1621) (by omega)).trans ((h5.to (b := 1621) (by omega)).trans ((h3.to (b := 1621) (by omega)).trans ((h1.1 1621).trans (if_pos rfl))))), List.forall_mem_cons.mpr ⟨((h7.to (b := 1622) (by omega)).trans ((h5.to (b := 1622) (by omega)).trans ((h3.to (b := 1622) (by omega)).trans ((h1.1 1622).trans ((if_neg (by omega)).trans (if_pos ⟨by omega, by omega⟩)))))), List.forall_mem_cons.mpr ⟨((h7.to (b := 1623) (by omega)).trans ((h5.to (b := 1623) (by omega)).trans ((h3.to (b := 1623) (by omega)).trans ((h1.1 1623).trans ((if_neg (by omega)).trans (if_pos ⟨by omega, by omega⟩)))))), List.forall_mem_cons.mpr ⟨((h7.to (b := 1624) (by omega)).trans ((h5.to (b := 1624) (by omega)).trans ((h3.to (b := 1624) (by omega)).trans ((h1.1 1624).trans ((if_neg (by omega)).trans (if_pos ⟨by omega, by omega⟩)))))), List.forall_mem_cons.mpr ⟨((h7.to (b := 1625) (by omega)).trans ((h5.to (b := 1625) (by omega)).trans ((h3.to (b := 1625) (by omega)).trans ((h1.1 1625).trans ((if_neg (by omega)).trans (if_pos ⟨by omega, by omega⟩)))))), List.forall_mem_cons.mpr ⟨((h7.to (b := 1626) (by omega)).trans ((h5.to (b := 1626) (by omega)).trans ((h3.to (b := 1626) (by omega)).trans ((h1.1 1626).trans ((if_neg (by omega)).trans (if_pos ⟨by omega, by omega⟩)))))), List.forall_mem_cons.mpr ⟨((h7.to (b := 1627) (by omega)).trans ((h5.to (b := 1627) (by omega)).trans ((h3.to (b := 1627) (by omega)).trans ((h1.1 1627).trans ((if_neg (by omega)).trans (if_pos ⟨by omega, by omega⟩)))))), List.forall_mem_cons.mpr ⟨((h7.to (b := 1628) (by omega)).trans ((h5.to (b := 1628) (by omega)).trans h3.tn)), List.forall_mem_cons.mpr ⟨((h7.to (b := 1629) (by omega)).trans h5.tn), List.forall_mem_cons.mpr ⟨h7.tn, fun _ h => absurd h List.not_mem_nil⟩⟩⟩⟩⟩⟩⟩⟩⟩⟩⟩)
  · exact (List.forall_mem_cons.mpr ⟨v9, fun _ h => absurd h List.not_mem_nil⟩)
  · exact (List.forall_mem_cons.mpr ⟨((w8 1620 0 (by omega)).trans ((h7.ro (b := 1620) (j := 0) (by omega)).trans ((w6 1620 0 (by omega)).trans ((h5.ro (b := 1620) (j := 0) (by omega)).trans ((w4 1620 0 (by omega)).trans ((h3.ro (b := 1620) (j := 0) (by omega)).trans v2)))))), List.forall_mem_cons.mpr ⟨((w8 1620 1 (by omega)).trans ((h7.ro (b := 1620) (j := 1) (by omega)).trans ((w6 1620 1 (by omega)).trans ((h5.ro (b := 1620) (j := 1) (by omega)).trans v4)))), List.forall_mem_cons.mpr ⟨((w8 1620 2 (by omega)).trans ((h7.ro (b := 1620) (j := 2) (by omega)).trans v6)), List.forall_mem_cons.mpr ⟨v8, List.forall_mem_cons.mpr ⟨((w8 1621 0 (by omega)).trans ((h7.ro (b := 1621) (j := 0) (by omega)).trans ((w6 1621 0 (by omega)).trans ((h5.ro (b := 1621) (j := 0) (by omega)).trans ((w4 1621 0 (by omega)).trans ((h3.ro (b := 1621) (j := 0) (by omega)).trans ((w2 1621 0 (by omega)).trans ((h1.2.2 1621 0).trans ((if_pos rfl).trans (if_pos (by omega))))))))))), List.forall_mem_cons.mpr ⟨((w8 1621 1 (by omega)).trans ((h7.ro (b := 1621) (j := 1) (by omega)).trans ((w6 1621 1 (by omega)).trans ((h5.ro (b := 1621) (j := 1) (by omega)).trans ((w4 1621 1 (by omega)).trans ((h3.ro (b := 1621) (j := 1) (by omega)).trans ((w2 1621 1 (by omega)).trans ((h1.2.2 1621 1).trans ((if_pos rfl).trans (if_pos (by omega))))))))))), List.forall_mem_cons.mpr ⟨((w8 1621 2 (by omega)).trans ((h7.ro (b := 1621) (j := 2) (by omega)).trans ((w6 1621 2 (by omega)).trans ((h5.ro (b := 1621) (j := 2) (by omega)).trans ((w4 1621 2 (by omega)).trans ((h3.ro (b := 1621) (j := 2) (by omega)).trans ((w2 1621 2 (by omega)).trans ((h1.2.2 1621 2).trans ((if_pos rfl).trans (if_pos (by omega))))))))))), List.forall_mem_cons.mpr ⟨((w8 1621 3 (by omega)).trans ((h7.ro (b := 1621) (j := 3) (by omega)).trans ((w6 1621 3 (by omega)).trans ((h5.ro (b := 1621) (j := 3) (by omega)).trans ((w4 1621 3 (by omega)).trans ((h3.ro (b := 1621) (j := 3) (by omega)).trans ((w2 1621 3 (by omega)).trans ((h1.2.2 1621 3).trans ((if_pos rfl).trans (if_pos (by omega))))))))))), List.forall_mem_cons.mpr ⟨((w8 1621 4 (by omega)).trans ((h7.ro (b := 1621) (j := 4) (by omega)).trans ((w6 1621 4 (by omega)).trans ((h5.ro (b := 1621) (j := 4) (by omega)).trans ((w4 1621 4 (by omega)).trans ((h3.ro (b := 1621) (j := 4) (by omega)).trans ((w2 1621 4 (by omega)).trans ((h1.2.2 1621 4).trans ((if_pos rfl).trans (if_pos (by omega))))))))))), List.forall_mem_cons.mpr ⟨((w8 1621 5 (by omega)).trans ((h7.ro (b := 1621) (j := 5) (by omega)).trans ((w6 1621 5 (by omega)).trans ((h5.ro (b := 1621) (j := 5) (by omega)).trans ((w4 1621 5 (by omega)).trans ((h3.ro (b := 1621) (j := 5) (by omega)).trans ((w2 1621 5 (by omega)).trans ((h1.2.2 1621 5).trans ((if_pos rfl).trans (if_pos (by omega))))))))))), fun _ h => absurd h List.not_mem_nil⟩⟩⟩⟩⟩⟩⟩⟩⟩⟩)
set_option maxHeartbeats 4000000 in
theorem rn_Gu_init (ho : t 1631 = (1, 6)) (hge : 1000 ≤ 1631) (hd : 1 ≤ d) : Rn d 10 [.ref 1631] (1632, U, t, i, r) (CTO 1631 1636 2140 [(1631, 1, 6), (1632, 100, 20), (1633, 100, 20), (1634, 100, 2000), (1635, 100, 100)] [(1631, 4, 0), (1631, 5, 0)] [(1631, 0, 1632), (1631, 1, 1633), (1631, 2, 1634), (1631, 3, 1635)] U t i r) := by
  refine Rn.of' (H := 0) (M := K_Gu_init) (L := [.ref 1631]) hd rfl (by show (1 : Nat) ≤ 1; omega) rfl rfl (fun d hd => ?_)
  refine Ex.run 1 (pc' := 1) (L' := [.ref 1631]) (S' := [.ref 1631]) rfl ?_
  refine ex_obj rfl (by omega) rfl ?_
  refine Ex.run 2 (pc' := 4) (L' := [.ref 1631]) (S' := [.int 20, .ref 1631]) rfl ?_
  refine ex_newaN (k := 20) (N2 := 1633) (U2 := U + 20) rfl (by decide) rfl (by decide) rfl rfl (fun t1 i1 r1 h1 => ?_)
  refine ex_putRT rfl ((h1.to (b := 1631) (by omega)).trans ho) (by omega) rfl (by omega) ?_
  have w2 : ∀ b j, ¬ (b = 1631 ∧ j = 0) → wrR r1 1631 0 1632 b j = r1 b j := fun b j q => wrR_o q
  have v2 : wrR r1 1631 0 1632 1631 0 = 1632 := wrR_s
  generalize wrR r1 1631 0 1632 = r2 at w2 v2 ⊢
  refine Ex.run 2 (pc' := 8) (L' := [.ref 1631]) (S' := [.int 20, .ref 1631]) rfl ?_
  refine ex_newaN (k := 20) (N2 := 1634) (U2 := U + 40) rfl (by decide) rfl (by decide) rfl rfl (fun t3 i3 r3 h3 => ?_)
  refine ex_putRT rfl ((h3.to (b := 1631) (by omega)).trans ((h1.to (b := 1631) (by omega)).trans ho)) (by omega) rfl (by omega) ?_
  have w4 : ∀ b j, ¬ (b = 1631 ∧ j = 1) → wrR r3 1631 1 1633 b j = r3 b j := fun b j q => wrR_o q
  have v4 : wrR r3 1631 1 1633 1631 1 = 1633 := wrR_s
  generalize wrR r3 1631 1 1633 = r4 at w4 v4 ⊢
  refine Ex.run 2 (pc' := 12) (L' := [.ref 1631]) (S' := [.int 2000, .ref 1631]) rfl ?_
  refine ex_newaN (k := 2000) (N2 := 1635) (U2 := U + 2040) rfl (by decide) rfl (by decide) rfl rfl (fun t5 i5 r5 h5 => ?_)
  refine ex_putRT rfl ((h5.to (b := 1631) (by omega)).trans ((h3.to (b := 1631) (by omega)).trans ((h1.to (b := 1631) (by omega)).trans ho))) (by omega) rfl (by omega) ?_
  have w6 : ∀ b j, ¬ (b = 1631 ∧ j = 2) → wrR r5 1631 2 1634 b j = r5 b j := fun b j q => wrR_o q
  have v6 : wrR r5 1631 2 1634 1631 2 = 1634 := wrR_s
  generalize wrR r5 1631 2 1634 = r6 at w6 v6 ⊢
  refine Ex.run 2 (pc' := 16) (L' := [.ref 1631]) (S' := [.int 100, .ref 1631]) rfl ?_
  refine ex_newaN (k := 100) (N2 := 1636) (U2 := U + 2140) rfl (by decide) rfl (by decide) rfl rfl (fun t7 i7 r7 h7 => ?_)
  refine ex_putRT rfl ((h7.to (b := 1631) (by omega)).trans ((h5.to (b := 1631) (by omega)).trans ((h3.to (b := 1631) (by omega)).trans ((h1.to (b := 1631) (by omega)).trans ho)))) (by omega) rfl (by omega) ?_
  have w8 : ∀ b j, ¬ (b = 1631 ∧ j = 3) → wrR r7 1631 3 1635 b j = r7 b j := fun b j q => wrR_o q
  have v8 : wrR r7 1631 3 1635 1631 3 = 1635 := wrR_s
  generalize wrR r7 1631 3 1635 = r8 at w8 v8 ⊢
  refine Ex.run 2 (pc' := 20) (L' := [.ref 1631]) (S' := [.int 0, .ref 1631]) rfl ?_
  refine ex_putIT rfl ((h7.to (b := 1631) (by omega)).trans ((h5.to (b := 1631) (by omega)).trans ((h3.to (b := 1631) (by omega)).trans ((h1.to (b := 1631) (by omega)).trans ho)))) (by omega) rfl ?_
  have w9 : ∀ b j, ¬ (b = 1631 ∧ j = 4) → wr i7 1631 4 0 b j = i7 b j := fun b j q => if_neg q
  have v9 : wr i7 1631 4 0 1631 4 = 0 := wr_s
  generalize wr i7 1631 4 0 = i9 at w9 v9 ⊢
  refine Ex.run 2 (pc' := 23) (L' := [.ref 1631]) (S' := [.int 0, .ref 1631]) rfl ?_
  refine ex_putIT rfl ((h7.to (b := 1631) (by omega)).trans ((h5.to (b := 1631) (by omega)).trans ((h3.to (b := 1631) (by omega)).trans ((h1.to (b := 1631) (by omega)).trans ho)))) (by omega) rfl ?_
  have w10 : ∀ b j, ¬ (b = 1631 ∧ j = 5) → wr i9 1631 5 0 b j = i9 b j := fun b j q => if_neg q
  have v10 : wr i9 1631 5 0 1631 5 = 0 := wr_s
  generalize wr i9 1631 5 0 = i10 at w10 v10 ⊢
  refine ex_retv rfl rfl ⟨t7, i10, r8, rfl, fun b hb => ((h7.to (b := b) (by omega)).trans ((h5.to (b := b) (by omega)).trans ((h3.to (b := b) (by omega)).trans (h1.to (b := b) (by omega))))), fun b j hb => ((w10 b j (by omega)).trans ((w9 b j (by omega)).trans ((h7.io (b := b) (j := j) (by omega)).trans ((h5.io (b := b) (j := j) (by omega)).trans ((h3.io (b := b) (j := j) (by omega)).trans (h1.io (b := b) (j := j) (by omega))))))), fun b j hb => ((w8 b j (by omega)).trans ((h7.ro (b := b) (j := j) (by omega)).trans ((w6 b j (by omega)).trans ((h5.ro (b := b) (j := j) (by omega)).trans ((w4 b j (by omega)).trans ((h3.ro (b := b) (j := j) (by omega)).trans ((w2 b j (by omega)).trans (h1.ro (b := b) (j := j) (by omega))))))))), ?_, ?_, ?_⟩
  · exact (List.forall_mem_cons.mpr ⟨((h7.to (b := 1631) (by omega)).trans ((h5.to (b := 1631) (by omega)).trans ((h3.to (b := 1631) (by omega)).trans ((h1.to (b := 1631) (by omega)).trans ho)))), List.forall_mem_cons.mpr ⟨((h7.to (b := 1632) (by omega)).trans ((h5.to (b := 1632) (by omega)).trans ((h3.to (b := 1632) (by omega)).trans h1.tn))), List.forall_mem_cons.mpr ⟨((h7.to (b := 1633) (by omega)).trans ((h5.to (b := 1633) (by omega)).trans h3.tn)), List.forall_mem_cons.mpr ⟨((h7.to (b := 1634) (by omega)).trans h5.tn), List.forall_mem_cons.mpr ⟨h7.tn, fun _ h => absurd h List.not_mem_nil⟩⟩⟩⟩⟩)
  · exact (List.forall_mem_cons.mpr ⟨((w10 1631 4 (by omega)).trans v9), List.forall_mem_cons.mpr ⟨v10, fun _ h => absurd h List.not_mem_nil⟩⟩)
  · exact (List.forall_mem_cons.mpr ⟨((w8 1631 0 (by omega)).trans ((h7.ro (b := 1631) (j := 0) (by omega)).trans ((w6 1631 0 (by omega)).trans ((h5.ro (b := 1631) (j := 0) (by omega)).trans ((w4 1631 0 (by omega)).trans ((h3.ro (b := 1631) (j := 0) (by omega)).trans v2)))))), List.forall_mem_cons.mpr ⟨((w8 1631 1 (by omega)).trans ((h7.ro (b := 1631) (j := 1) (by omega)).trans ((w6 1631 1 (by omega)).trans ((h5.ro (b := 1631) (j := 1) (by omega)).trans v4)))), List.forall_mem_cons.mpr ⟨((w8 1631 2 (by omega)).trans ((h7.ro (b := 1631) (j := 2) (by omega)).trans v6)), List.forall_mem_cons.mpr ⟨v8, fun _ h => absurd h List.not_mem_nil⟩⟩⟩⟩)
end CTOR
