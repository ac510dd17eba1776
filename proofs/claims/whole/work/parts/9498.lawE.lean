/-! ===== new cells; law: the class's new law ===== -/
/-- a new cell N of that tag and length -/
def nwc (N : Nat) (x : Nat × Nat) (t : MT) (i : MI) (r : MR) (t' : MT) (i' : MI) (r' : MR) : Prop := (∀ b, t' b = if b = N then x else t b) ∧ (∀ b j, i' b j = if b = N then 0 else i b j) ∧ (∀ b j, r' b j = if b = N then 0 else r b j)
section ALC
variable {d pc nx tg N U : Nat} {M : mM} {cst : Int32} {L S : List Value} {t t' : MT} {i i' : MI} {r r' : MR} {Q : oR × aH → Prop}
theorem nwc.tn {x : Nat × Nat} (h : nwc N x t i r t' i' r') : t' N = x := by rw [h.1, if_pos rfl]
theorem nwc.to {x : Nat × Nat} {b : Nat} (h : nwc N x t i r t' i' r') (hb : b ≠ N) : t' b = t b := by rw [h.1, if_neg hb]
theorem nwc.io {x : Nat × Nat} {b j : Nat} (h : nwc N x t i r t' i' r') (hb : b ≠ N) : i' b j = i b j := by rw [h.2.1, if_neg hb]
theorem nwc.ro {x : Nat × Nat} {b j : Nat} (h : nwc N x t i r t' i' r') (hb : b ≠ N) : r' b j = r b j := by rw [h.2.2, if_neg hb]
theorem nwc.iz {x : Nat × Nat} {j : Nat} (h : nwc N x t i r t' i' r') : i' N j = 0 := by rw [h.2.1, if_pos rfl]
theorem nwc.rz {x : Nat × Nat} {j : Nat} (h : nwc N x t i r t' i' r') : r' N j = 0 := by rw [h.2.2, if_pos rfl]
theorem ex_newaT {ty : ArrayType} {k : Nat} {j : Int32} (hf : M.1[pc]? = some (.newarray ty, cst, nx, tg)) (ht : tagA ty ≤ 103) (hi : j = nI k) (hn : k ≤ 1000000) (kk : ∀ t' i' r', nwc N (tagA ty, k) t i r t' i' r' → Ex d M (nx, L, .ref N :: S, (N + 1, U + k, t', i', r')) Q) : Ex d M (pc, L, .int j :: S, (N, U, t, i, r)) Q :=
  ex_newa (h := (N, U, t, i, r)) hf ht hi hn (kk _ _ _ ⟨fun _ => rfl, fun _ _ => rfl, fun _ _ => rfl⟩)
theorem ex_newT {c : Nat} (hf : M.1[pc]? = some (.new c, cst, nx, tg)) (hc : c < 13) (kk : ∀ t' i' r', nwc N (c, nF c) t i r t' i' r' → Ex d M (nx, L, .ref N :: S, (N + 1, U + nF c, t', i', r')) Q) : Ex d M (pc, L, S, (N, U, t, i, r)) Q :=
  ex_new (h := (N, U, t, i, r)) hf hc (kk _ _ _ ⟨fun _ => rfl, fun _ _ => rfl, fun _ _ => rfl⟩)
theorem ex_putIT {a k len : Nat} {x : Int32} (hf : M.1[pc]? = some (.putfield k, cst, nx, tg)) (ht : t a = (tg, len)) (ha : 1000 ≤ a) (hk : (decide (tg < 13) && decide (k < nF tg) && decide (fK tg k = 0)) = true) (kk : Ex d M (nx, L, S, (N, U, t, wr i a k x, r)) Q) : Ex d M (pc, L, .int x :: .ref a :: S, (N, U, t, i, r)) Q := by
  simp only [Bool.and_eq_true, decide_eq_true_eq] at hk
  exact ex_putI (h := (N, U, t, i, r)) hf ⟨by show (t a).1 = tg; rw [ht], hk.1.1, ha, hk.1.2⟩ (Or.inl hk.2) kk
theorem ex_putZT {a k len : Nat} {x : Int32} (hf : M.1[pc]? = some (.putfield k, cst, nx, tg)) (ht : t a = (tg, len)) (ha : 1000 ≤ a) (hk : (decide (tg < 13) && decide (k < nF tg) && decide (fK tg k = 2)) = true) (hx : x = 0 ∨ x = 1) (kk : Ex d M (nx, L, S, (N, U, t, wr i a k x, r)) Q) : Ex d M (pc, L, .int x :: .ref a :: S, (N, U, t, i, r)) Q := by
  simp only [Bool.and_eq_true, decide_eq_true_eq] at hk
  exact ex_putI (h := (N, U, t, i, r)) hf ⟨by show (t a).1 = tg; rw [ht], hk.1.1, ha, hk.1.2⟩ (Or.inr ⟨hk.2, hx⟩) kk
theorem ex_putRT {a k b len : Nat} (hf : M.1[pc]? = some (.putfield k, cst, nx, tg)) (ht : t a = (tg, len)) (ha : 1000 ≤ a) (hk : (decide (tg < 13) && decide (k < nF tg) && decide (fK tg k = 1)) = true) (hb : 1000 ≤ b) (kk : Ex d M (nx, L, S, (N, U, t, i, wrR r a k b)) Q) : Ex d M (pc, L, .ref b :: .ref a :: S, (N, U, t, i, r)) Q := by
  simp only [Bool.and_eq_true, decide_eq_true_eq] at hk
  exact ex_putR (h := (N, U, t, i, r)) hf ⟨by show (t a).1 = tg; rw [ht], hk.1.1, ha, hk.1.2⟩ hk.2 hb kk
theorem ex_getIT {a k len : Nat} {x : Int32} (hf : M.1[pc]? = some (.getfield k, cst, nx, tg)) (ht : t a = (tg, len)) (hk : (decide (k < nF tg) && !decide (fK tg k = 1)) = true) (hx : i a k = x) (kk : Ex d M (nx, L, .int x :: S, (N, U, t, i, r)) Q) : Ex d M (pc, L, .ref a :: S, (N, U, t, i, r)) Q := by
  simp only [Bool.and_eq_true, decide_eq_true_eq, Bool.not_eq_true', decide_eq_false_iff_not] at hk
  refine ex_getI (h := (N, U, t, i, r)) hf (by show (t a).1 = tg; rw [ht]) hk.1 hk.2 ?_
  show Ex d M (nx, L, .int (i a k) :: S, (N, U, t, i, r)) Q
  rw [hx]; exact kk
theorem ex_getRT {a k b len : Nat} (hf : M.1[pc]? = some (.getfield k, cst, nx, tg)) (ht : t a = (tg, len)) (hk : (decide (k < nF tg) && decide (fK tg k = 1)) = true) (hb : r a k = b) (h0 : b ≠ 0) (kk : Ex d M (nx, L, .ref b :: S, (N, U, t, i, r)) Q) : Ex d M (pc, L, .ref a :: S, (N, U, t, i, r)) Q := by
  simp only [Bool.and_eq_true, decide_eq_true_eq] at hk
  exact ex_getR (h := (N, U, t, i, r)) hf (by show (t a).1 = tg; rw [ht]) hk.1 hk.2 hb h0 kk
theorem wrRo {b k v b' k' : Nat} (h : ¬ (b' = b ∧ k' = k)) : wrR r b k v b' k' = r b' k' := wrR_o h
theorem isLw.grow {n n' l : Nat} (h : isLw n t r l) (hn : n ≤ n') (ht : ∀ b, b < n → t' b = t b) (hr : ∀ b j, b < n → r' b j = r b j) : isLw n' t' r' l := by
  obtain ⟨h1, h2, h3, h4, h5, h6, h7, h8, h9, h10, h11, h12, h13⟩ := h
  refine ⟨h1, by omega, ?_, ?_, ?_, ?_, ?_, ?_, ?_, ?_, ?_, ?_, ?_⟩
  · rw [ht _ (by omega)]; exact h3
  · rw [hr _ _ (by omega)]; exact h4
  · rw [hr _ _ (by omega)]; exact h5
  · rw [hr _ _ (by omega)]; exact h6
  · rw [hr _ _ (by omega)]; exact h7
  · rw [hr _ _ (by omega)]; exact h8
  · rw [ht _ (by omega)]; exact h9
  · rw [ht _ (by omega)]; exact h10
  · rw [ht _ (by omega)]; exact h11
  · rw [ht _ (by omega)]; exact h12
  · rw [ht _ (by omega)]; exact h13
theorem Sh.grow {n n' : Nat} (s : Sh n t r) (hn : n ≤ n') (ht : ∀ b, b < n → t' b = t b) (hr : ∀ b j, b < n → r' b j = r b j) : Sh n' t' r' := by
  obtain ⟨s1, s2, s3, s4, s5, ⟨s6, s7⟩, s8, s9⟩ := s
  have hsea : ∀ b, SeaAd b → b + 37 < 1659 := fun b hb => by rcases hb with ⟨j, hj, rfl⟩ | ⟨j, hj, rfl⟩ <;> omega
  refine ⟨by omega, fun a ha => ?_, fun x hx => ?_, fun x hx => ?_, fun j hj => ?_, ⟨fun j hj => ?_, fun j hj => ?_⟩, ?_, fun k hk => ?_⟩
  · have ha2 := hsea a ha
    obtain ⟨q1, q2, q3, q4, q5, q6, q7, q8, q9, p1, p2, p3, p4, p5⟩ := s2 a ha
    refine ⟨fun k hk => ?_, ?_, ?_, ?_, ?_, ?_, ?_, ?_, ?_, fun j hj => ?_, fun j hj => ?_, fun j hj => ?_, fun j hj => ?_, ?_⟩
    · rw [ht _ (by omega)]; exact q1 k hk
    · rw [hr _ _ (by omega)]; exact q2
    · rw [hr _ _ (by omega)]; exact q3
    · rw [hr _ _ (by omega)]; exact q4
    · rw [hr _ _ (by omega)]; exact q5
    · rw [hr _ _ (by omega)]; exact q6
    · rw [hr _ _ (by omega)]; exact q7
    · rw [hr _ _ (by omega)]; exact q8
    · rw [hr _ _ (by omega)]; exact q9
    · rw [hr _ _ (by omega)]; exact p1 j hj
    · rw [hr _ _ (by omega)]; exact p2 j hj
    · rw [hr _ _ (by omega)]; exact p3 j hj
    · rw [hr _ _ (by omega)]; exact p4 j hj
    · rw [hr _ _ (by omega)]; exact p5.grow hn ht hr
  · have : x.1 < 1659 := (by decide : ∀ x ∈ TL, x.1 < 1659) x hx
    rw [ht _ (by omega)]; exact s3 x hx
  · have : x.1 < 1659 := (by decide : ∀ x ∈ RL, x.1 < 1659) x hx
    rw [hr _ _ (by omega)]; exact s4 x hx
  · rw [hr _ _ (by omega)]; exact s5 j hj
  · rw [hr _ _ (by omega), ht _ (by omega)]; exact s6 j hj
  · rw [hr _ _ (by omega), ht _ (by omega)]; exact s7 j hj
  · rw [hr _ _ (by omega), hr _ _ (by omega)]; exact s8
  · rw [ht _ (by omega), ht _ (by omega), hr _ _ (by omega)]; exact s9 k hk
/-- Arrays.copyOf -/
def CPO (N U a la k : Nat) (t : MT) (i : MI) (r : MR) : oR × aH → Prop := fun q => ∃ t' i' r', q = (.inl (some (.ref N)), (N + 1, U + k, t', i', r')) ∧ (∀ b, t' b = if b = N then (100, k) else t b) ∧ (∀ b j, r' b j = if b = N then 0 else r b j) ∧ (∀ b j, b ≠ N → i' b j = i b j) ∧ ∀ j, j < k → j < la → i' N j = i a j
set_option maxHeartbeats 4000000 in
theorem r_copyOf {n0 a la k : Nat} (s : Sh n0 t r) (hN : n0 ≤ N) (hta : t a = (100, la)) (ha : 1000 ≤ a) (haN : a < N) (hk : k ≤ 1000000) (hla : la ≤ 1000000) (hd : 2 ≤ d) : Rn d 370 [.ref a, .int (nI k)] (N, U, t, i, r) (CPO N U a la k t i r) := by
  have h1659 : 1659 ≤ N := Nat.le_trans s.1 hN
  refine Rn.of' (H := 1) (M := K_J_copyOf) (L := [.ref a, .int (nI k), uV]) hd rfl (by show (2 : Nat) ≤ 3; omega) rfl rfl (fun d hd => ?_)
  refine Ex.run 2 (pc' := 2) (L' := [.ref a, .int (nI k), uV]) (S' := [.ref a, .int (nI k)]) rfl ?_
  refine ex_alen (n := la) rfl (by show 100 ≤ (t a).1 ∧ (t a).1 ≤ 105; rw [hta]; show (100 : Nat) ≤ 100 ∧ (100 : Nat) ≤ 105; decide) (by show (t a).2 = la; rw [hta]) ?_
  refine ex_ne rfl (fun h1 => ?_) (fun h1 => ?_)
  · have e : k = la := (nI_inj (by omega) (by omega)).mp h1
    subst e
    refine Ex.run 1 (pc' := 5) (L' := [.ref a, .int (nI k), uV]) (S' := [.ref a]) rfl ?_
    refine ex_cln rfl ⟨by show (t a).1 = 100; rw [hta], ha⟩ rfl ?_
    refine ex_cst rfl ⟨?_, by show 1000 ≤ N; omega⟩ ?_
    · show (if N = N then (100, (t a).2) else t N).1 = 100
      rw [if_pos rfl]
    have e2 : aCln (N, U, t, i, r) a = (N + 1, U + k, (fun b => if b = N then (100, (t a).2) else t b), (fun b j => if b = N then i a j else i b j), (fun b j => if b = N then 0 else r b j)) := by
      show (N + 1, U + (t a).2, (fun b => if b = N then (100, (t a).2) else t b), (fun b j => if b = N then i a j else i b j), (fun b j => if b = N then 0 else r b j)) = _
      rw [hta]
    refine ex_reta rfl rfl ⟨_, _, _, congrArg (fun x : aH => ((Sum.inl (some (Value.ref N)) : oR), x)) e2, fun b => ?_, fun b j => rfl, fun b j hb => if_neg hb, fun j _ _ => if_pos rfl⟩
    · show (if b = N then (100, (t a).2) else t b) = _
      rw [hta]
  · refine Ex.run 1 (pc' := 9) (L' := [.ref a, .int (nI k), uV]) (S' := [.int (nI k)]) rfl ?_
    refine ex_newaT rfl (by decide) rfl hk (fun t1 i1 r1 h => ?_)
    refine Ex.run 6 (pc' := 16) (L' := [.ref a, .int (nI k), .ref N]) (S' := [.ref a, .int 0, .ref N, .int 0, .ref a]) rfl ?_
    have hta1 : t1 a = (100, la) := (h.to (by omega)).trans hta
    refine ex_alen (n := la) rfl (by show 100 ≤ (t1 a).1 ∧ (t1 a).1 ≤ 105; rw [hta1]; show (100 : Nat) ≤ 100 ∧ (100 : Nat) ≤ 105; decide) (by show (t1 a).2 = la; rw [hta1]) ?_
    refine Ex.run 1 (pc' := 18) (L' := [.ref a, .int (nI k), .ref N]) (S' := [.int (nI k), .int (nI la), .int 0, .ref N, .int 0, .ref a]) rfl ?_
    have s1 : Sh (N + 1) t1 r1 := s.grow (by omega) (fun b hb => h.to (by omega)) (fun b j hb => h.ro (by omega))
    have hmin : f_J_min (nI la) (nI k) = some (nI (min la k)) := by
      unfold f_J_min
      by_cases c : k < la
      · rw [if_pos (show nI k < nI la from nI_lt c (by omega)), Nat.min_eq_right (by omega)]
      · rw [if_neg (show ¬ nI k < nI la from nI_nlt (by omega) (by omega)), Nat.min_eq_left (by omega)]
    refine ex_cs rfl rfl rfl (by show (2 : Nat) ≤ 6; omega) rfl rfl rfl (c_J_min s1 (nI la) (nI k) d hd _ hmin).2 ?_
    refine ex_cpy (sp := 0) (dp := 0) (n := min la k) rfl ⟨by show (t1 a).1 = 100; rw [hta1], by show (t1 N).1 = 100; rw [h.tn]; rfl, by omega⟩ rfl rfl rfl rfl (by omega) (by omega) (by omega) (by show 0 + min la k ≤ (t1 a).2; rw [hta1]; show 0 + min la k ≤ la; omega) (by show 0 + min la k ≤ (t1 N).2; rw [h.tn]; show 0 + min la k ≤ k; omega) ?_
    refine Ex.run 1 (pc' := 21) (L' := [.ref a, .int (nI k), .ref N]) (S' := [.ref N]) rfl ?_
    refine ex_reta rfl rfl ⟨_, _, _, rfl, h.1, h.2.2, fun b j hb => ?_, fun j h1 h2 => ?_⟩
    · show (if b = N ∧ 0 ≤ j ∧ j < 0 + min la k then i1 a (0 + (j - 0)) else i1 b j) = i b j
      rw [if_neg (fun q => hb q.1)]; exact h.io hb
    · show (if N = N ∧ 0 ≤ j ∧ j < 0 + min la k then i1 a (0 + (j - 0)) else i1 N j) = i a j
      rw [if_pos ⟨rfl, by omega, by omega⟩, show 0 + (j - 0) = j by omega]; exact h.io (by omega)
/-- a new law of the read lines: what its cells are -/
def NLW (N U o x z : Nat) (t : MT) (i : MI) (r : MR) (q : oR × aH) : Prop := ∃ t' i' r', q = (.inl none, (N + 5, U + (33 + 3 * x + z), t', i', r')) ∧
  (∀ b, (b < N ∨ N + 5 ≤ b) → t' b = t b) ∧ t' N = (100, 32) ∧ t' (N + 1) = (100, x) ∧ t' (N + 2) = (100, x) ∧ t' (N + 3) = (100, x + 1) ∧ t' (N + 4) = (100, z) ∧
  (∀ b j, b ≠ o → (b < N ∨ N + 5 ≤ b) → i' b j = i b j) ∧ i' o 0 = nI x ∧ (∀ k, k < x → i' (N + 1) k = i 1599 k) ∧ (∀ k, k < x → i' (N + 2) k = i 1600 k) ∧ (∀ k, k < x + 1 → i' (N + 3) k = i 1601 k) ∧ (∀ k, k < z → i' (N + 4) k = i 1602 k) ∧
  (∀ b j, b ≠ o → (b < N ∨ N + 5 ≤ b) → r' b j = r b j) ∧ r' o 5 = N ∧ r' o 1 = N + 1 ∧ r' o 2 = N + 2 ∧ r' o 3 = N + 3 ∧ r' o 4 = N + 4
set_option maxHeartbeats 8000000 in
theorem rn_La_init_ {n0 o x z : Nat} (s : Sh n0 t r) (ho : t o = (2, 6)) (hon : n0 ≤ o) (hN : N = o + 1) (hx : i 1598 5 = nI x) (hx12 : x ≤ 12) (hz : i 1598 6 = nI z) (hz400 : z ≤ 400) (hd : 3 ≤ d) : Rn d 18 [.ref o, .ref 1598] (N, U, t, i, r) (NLW N U o x z t i r) := by
  have h59 : 1659 ≤ o := Nat.le_trans s.1 hon
  refine Rn.of' (H := 2) (M := K_La_init_) (L := [.ref o, .ref 1598]) hd rfl (by show (2 : Nat) ≤ 2; omega) rfl rfl (fun d hd => ?_)
  refine Ex.run 1 (pc' := 1) (L' := [.ref o, .ref 1598]) (S' := [.ref o]) rfl ?_
  refine ex_obj rfl (by omega) rfl ?_
  refine Ex.run 2 (pc' := 4) (L' := [.ref o, .ref 1598]) (S' := [.int 32, .ref o]) rfl ?_
  refine ex_newaT (k := 32) rfl (by decide) rfl (by omega) (fun t1 i1 r1 h1 => ?_)
  refine ex_putRT rfl ((h1.to (by omega)).trans ho) (by omega) rfl (by omega) ?_
  have S1 : Sh n0 t1 (wrR r1 o 5 N) := s.grow (Nat.le_refl _) (fun b hb => h1.to (by omega)) (fun b j hb => (wrRo (by omega)).trans (h1.ro (by omega)))
  have T1 : t1 o = (2, 6) := (h1.to (by omega)).trans ho
  have e5 : wrR r1 o 5 N o 5 = N := wrR_s
  have R1 : ∀ b j, b ≠ o → b ≠ N → wrR r1 o 5 N b j = r b j := fun b j q1 q2 => (wrRo (fun e => q1 e.1)).trans (h1.ro q2)
  generalize wrR r1 o 5 N = r2 at S1 e5 R1
  refine Ex.run 2 (pc' := 8) (L' := [.ref o, .ref 1598]) (S' := [.ref 1598, .ref o]) rfl ?_
  refine ex_getIT (x := nI x) rfl (t1598 S1) rfl ((h1.io (by omega)).trans hx) ?_
  refine ex_putIT rfl T1 (by omega) rfl ?_
  have I1 : ∀ b j, b ≠ o → b ≠ N → wr i1 o 0 (nI x) b j = i b j := fun b j q1 q2 => (wr_a q1).trans (h1.io q2)
  have f0 : wr i1 o 0 (nI x) o 0 = nI x := wr_s
  generalize wr i1 o 0 (nI x) = i2 at I1 f0
  refine Ex.run 2 (pc' := 12) (L' := [.ref o, .ref 1598]) (S' := [.ref 1598, .ref o]) rfl ?_
  refine ex_getRT (b := 1599) rfl (t1598 S1) rfl (r1598_1 S1) (by decide) ?_
  refine Ex.run 1 (pc' := 14) (L' := [.ref o, .ref 1598]) (S' := [.ref 1598, .ref 1599, .ref o]) rfl ?_
  refine ex_getIT (x := nI x) rfl (t1598 S1) rfl ((I1 _ _ (by omega) (by omega)).trans hx) ?_
  refine ex_callS rfl rfl rfl (by show (2 : Nat) ≤ 3; omega) rfl rfl rfl (r_copyOf S1 (by omega) (t1599 S1) (by omega) (by omega) (by omega) (by omega) hd) ?_
  rintro _ ⟨t2, i3', r3', rfl, a1, b1, c1, d1⟩
  dsimp only
  have T2 : t2 o = (2, 6) := (a1 o).trans ((if_neg (by omega)).trans T1)
  refine ex_putRT rfl T2 (by omega) rfl (by omega) ?_
  have S2 : Sh n0 t2 (wrR r3' o 1 (N + 1)) := S1.grow (Nat.le_refl _) (fun b hb => (a1 b).trans (if_neg (by omega))) (fun b j hb => (wrRo (by omega)).trans ((b1 b j).trans (if_neg (by omega))))
  have k1 : wrR r3' o 1 (N + 1) o 1 = (N + 1) := wrR_s
  have R2 : ∀ b j, (b ≠ o ∨ j ≠ 1) → b ≠ (N + 1) → wrR r3' o 1 (N + 1) b j = r2 b j := fun b j q1 q2 => (wrRo (by omega)).trans ((b1 b j).trans (if_neg q2))
  generalize wrR r3' o 1 (N + 1) = r3 at S2 k1 R2
  have I2 : ∀ b j, b ≠ o → b < N → i3' b j = i b j := fun b j q1 q2 => (c1 b j (by omega)).trans (I1 b j q1 (by omega))
  refine Ex.run 2 (pc' := 19) (L' := [.ref o, .ref 1598]) (S' := [.ref 1598, .ref o]) rfl ?_
  refine ex_getRT (b := 1600) rfl (t1598 S2) rfl (r1598_2 S2) (by decide) ?_
  refine Ex.run 1 (pc' := 21) (L' := [.ref o, .ref 1598]) (S' := [.ref 1598, .ref 1600, .ref o]) rfl ?_
  refine ex_getIT (x := nI x) rfl (t1598 S2) rfl ((I2 _ _ (by omega) (by omega)).trans hx) ?_
  refine ex_callS rfl rfl rfl (by show (2 : Nat) ≤ 3; omega) rfl rfl rfl (r_copyOf S2 (by omega) (t1600 S2) (by omega) (by omega) (by omega) (by omega) hd) ?_
  rintro _ ⟨t3, i4', r4', rfl, a2, b2, c2, d2⟩
  dsimp only
  have T3 : t3 o = (2, 6) := (a2 o).trans ((if_neg (by omega)).trans T2)
  refine ex_putRT rfl T3 (by omega) rfl (by omega) ?_
  have S3 : Sh n0 t3 (wrR r4' o 2 (N + 2)) := S2.grow (Nat.le_refl _) (fun b hb => (a2 b).trans (if_neg (by omega))) (fun b j hb => (wrRo (by omega)).trans ((b2 b j).trans (if_neg (by omega))))
  have k2 : wrR r4' o 2 (N + 2) o 2 = (N + 2) := wrR_s
  have R3 : ∀ b j, (b ≠ o ∨ j ≠ 2) → b ≠ (N + 2) → wrR r4' o 2 (N + 2) b j = r3 b j := fun b j q1 q2 => (wrRo (by omega)).trans ((b2 b j).trans (if_neg q2))
  generalize wrR r4' o 2 (N + 2) = r4 at S3 k2 R3
  have I3 : ∀ b j, b ≠ o → b < N → i4' b j = i b j := fun b j q1 q2 => (c2 b j (by omega)).trans (I2 b j q1 q2)
  refine Ex.run 2 (pc' := 26) (L' := [.ref o, .ref 1598]) (S' := [.ref 1598, .ref o]) rfl ?_
  refine ex_getRT (b := 1601) rfl (t1598 S3) rfl (r1598_3 S3) (by decide) ?_
  refine Ex.run 1 (pc' := 28) (L' := [.ref o, .ref 1598]) (S' := [.ref 1598, .ref 1601, .ref o]) rfl ?_
  refine ex_getIT (x := nI x) rfl (t1598 S3) rfl ((I3 _ _ (by omega) (by omega)).trans hx) ?_
  refine Ex.run 2 (pc' := 31) (L' := [.ref o, .ref 1598]) (S' := [.int (nI x + 1), .ref 1601, .ref o]) rfl ?_
  rw [nI_1]
  refine ex_callS rfl rfl rfl (by show (2 : Nat) ≤ 3; omega) rfl rfl rfl (r_copyOf S3 (by omega) (t1601 S3) (by omega) (by omega) (by omega) (by omega) hd) ?_
  rintro _ ⟨t4, i5', r5', rfl, a3, b3, c3, d3⟩
  dsimp only
  have T4 : t4 o = (2, 6) := (a3 o).trans ((if_neg (by omega)).trans T3)
  refine ex_putRT rfl T4 (by omega) rfl (by omega) ?_
  have S4 : Sh n0 t4 (wrR r5' o 3 (N + 3)) := S3.grow (Nat.le_refl _) (fun b hb => (a3 b).trans (if_neg (by omega))) (fun b j hb => (wrRo (by omega)).trans ((b3 b j).trans (if_neg (by omega))))
  have k3 : wrR r5' o 3 (N + 3) o 3 = (N + 3) := wrR_s
  have R4 : ∀ b j, (b ≠ o ∨ j ≠ 3) → b ≠ (N + 3) → wrR r5' o 3 (N + 3) b j = r4 b j := fun b j q1 q2 => (wrRo (by omega)).trans ((b3 b j).trans (if_neg q2))
  generalize wrR r5' o 3 (N + 3) = r5 at S4 k3 R4
  have I4 : ∀ b j, b ≠ o → b < N → i5' b j = i b j := fun b j q1 q2 => (c3 b j (by omega)).trans (I3 b j q1 q2)
  refine Ex.run 2 (pc' := 35) (L' := [.ref o, .ref 1598]) (S' := [.ref 1598, .ref o]) rfl ?_
  refine ex_getRT (b := 1602) rfl (t1598 S4) rfl (r1598_4 S4) (by decide) ?_
  refine Ex.run 1 (pc' := 37) (L' := [.ref o, .ref 1598]) (S' := [.ref 1598, .ref 1602, .ref o]) rfl ?_
  refine ex_getIT (x := nI z) rfl (t1598 S4) rfl ((I4 _ _ (by omega) (by omega)).trans hz) ?_
  refine ex_callS rfl rfl rfl (by show (2 : Nat) ≤ 3; omega) rfl rfl rfl (r_copyOf S4 (by omega) (t1602 S4) (by omega) (by omega) (by omega) (by omega) hd) ?_
  rintro _ ⟨t5, i6', r6', rfl, a4, b4, c4, d4⟩
  dsimp only
  have T5 : t5 o = (2, 6) := (a4 o).trans ((if_neg (by omega)).trans T4)
  refine ex_putRT rfl T5 (by omega) rfl (by omega) ?_
  have S5 : Sh n0 t5 (wrR r6' o 4 (N + 4)) := S4.grow (Nat.le_refl _) (fun b hb => (a4 b).trans (if_neg (by omega))) (fun b j hb => (wrRo (by omega)).trans ((b4 b j).trans (if_neg (by omega))))
  have k4 : wrR r6' o 4 (N + 4) o 4 = (N + 4) := wrR_s
  have R5 : ∀ b j, (b ≠ o ∨ j ≠ 4) → b ≠ (N + 4) → wrR r6' o 4 (N + 4) b j = r5 b j := fun b j q1 q2 => (wrRo (by omega)).trans ((b4 b j).trans (if_neg q2))
  generalize wrR r6' o 4 (N + 4) = r6 at S5 k4 R5
  refine ex_retv rfl rfl ⟨t5, i6', r6, ?_, fun b hb => ?_, ?_, ?_, ?_, ?_, ?_, fun b j q1 hb => ?_, ?_, fun k hk => ?_, fun k hk => ?_, fun k hk => ?_, fun k hk => ?_, fun b j q1 hb => ?_, ?_, ?_, ?_, ?_, ?_⟩
  · rw [show U + (33 + 3 * x + z) = U + 32 + x + x + (x + 1) + z by omega]
  · rw [a4, if_neg (by omega), a3, if_neg (by omega), a2, if_neg (by omega), a1, if_neg (by omega)]; exact h1.to (by omega)
  · rw [a4, if_neg (by omega), a3, if_neg (by omega), a2, if_neg (by omega), a1, if_neg (by omega)]; exact h1.tn
  · rw [a4, if_neg (by omega), a3, if_neg (by omega), a2, if_neg (by omega), a1, if_pos rfl]
  · rw [a4, if_neg (by omega), a3, if_neg (by omega), a2, if_pos rfl]
  · rw [a4, if_neg (by omega), a3, if_pos rfl]
  · rw [a4, if_pos rfl]
  · rw [c4 b j (by omega), c3 b j (by omega), c2 b j (by omega), c1 b j (by omega)]; exact I1 b j q1 (by omega)
  · rw [c4 _ _ (by omega), c3 _ _ (by omega), c2 _ _ (by omega), c1 _ _ (by omega)]; exact f0
  · rw [c4 _ _ (by omega), c3 _ _ (by omega), c2 _ _ (by omega), d1 k hk (by omega)]; exact I1 _ _ (by omega) (by omega)
  · rw [c4 _ _ (by omega), c3 _ _ (by omega), d2 k hk (by omega)]; exact I2 _ _ (by omega) (by omega)
  · rw [c4 _ _ (by omega), d3 k hk (by omega)]; exact I3 _ _ (by omega) (by omega)
  · rw [d4 k hk (by omega)]; exact I4 _ _ (by omega) (by omega)
  · rw [R5 b j (Or.inl q1) (by omega), R4 b j (Or.inl q1) (by omega), R3 b j (Or.inl q1) (by omega), R2 b j (Or.inl q1) (by omega)]; exact R1 b j q1 (by omega)
  · rw [R5 o 5 (by omega) (by omega), R4 o 5 (by omega) (by omega), R3 o 5 (by omega) (by omega), R2 o 5 (by omega) (by omega)]; exact e5
  · rw [R5 o 1 (by omega) (by omega), R4 o 1 (by omega) (by omega), R3 o 1 (by omega) (by omega)]; exact k1
  · rw [R5 o 2 (by omega) (by omega), R4 o 2 (by omega) (by omega)]; exact k2
  · rw [R5 o 3 (by omega) (by omega)]; exact k3
  · exact k4
/-- LawText.read -/
def LRD (N U n : Nat) (T : Nat → Int32) (t : MT) (i : MI) (r : MR) (q : oR × aH) : Prop := match rLawA n T with
  | .inl e => ∃ i', q = (.inr N, aNew (N, U, t, i', r) 20 0 6) ∧ i' 1595 1 = 0 ∧ i' 1601 0 = 0 ∧ i' 1595 2 = nI e ∧ (∀ b j, b ≠ 1595 → b ≠ 1598 → (b < 1599 ∨ 1603 ≤ b) → i' b j = i b j)
  | .inr p => ∃ t' i' r', q = (.inl (some (.ref N)), (N + 6, U + (39 + 3 * p.1 + p.2.2.1), t', i', r')) ∧ LOK n p.1 p.2 n ∧ i' 1595 1 = 0 ∧ i' 1601 0 = 0 ∧ i' 1595 2 = -1 ∧ isLw (N + 6) t' r' N ∧ (∀ b, b < N → t' b = t b) ∧ CL t' i' N (lawOf p.1 p.2) ∧ (∀ b j, b < N → b ≠ 1595 → b ≠ 1598 → (b < 1599 ∨ 1603 ≤ b) → i' b j = i b j) ∧ (∀ b j, b < N → r' b j = r b j)
set_option maxHeartbeats 8000000 in
theorem rn_Lt_read {n : Nat} {T : Nat → Int32} (s : Sh N t r) (hS : SV t i) (hn : n ≤ 400) (ht : TC i n T) (h0 : i 1601 0 = 0) (hd : 161 ≤ d) : Rn d 22 [.ref 1598] (N, U, t, i, r) (LRD N U n T t i r) := by
  have h59 : 1659 ≤ N := s.1
  refine Rn.of' (H := 160) (M := K_Lt_read) (L := [.ref 1598]) hd rfl (by show (1 : Nat) ≤ 1; omega) rfl rfl (fun d hd => ?_)
  obtain ⟨x, hx, hp⟩ := v_lines hS hn ht h0
  refine g_Lt_lines s hd x hx _ (fun e' he => ?_)
  obtain ⟨v, i1⟩ := x
  obtain ⟨p1, p2, p3, p4⟩ := hp
  dsimp only at p1 p2 p3 p4
  unfold LRD
  cases hr : rLawA n T with
  | inl e =>
    rw [hr] at p4
    obtain ⟨rfl, p5⟩ := p4
    have he : e' = .inr (.inr N, aNew (N, U, t, i1, r) 20 0 6) := he
    subst he
    exact ⟨i1, rfl, p1, p2, p5, p3⟩
  | inr p =>
    rw [hr] at p4
    obtain ⟨rfl, p5, p6, p7, p8, p9⟩ := p4
    have he : e' = .inl (65, [.ref 1598], [], (N, U, t, i1, r)) := he
    subst he
    show Ex d K_Lt_read (65, [.ref 1598], [], (N, U, t, i1, r)) _
    have l1 := p9.1
    have l2 := p9.2.1
    refine ex_newT rfl (by decide) (fun t2 i2 r2 h => ?_)
    refine Ex.run 2 (pc' := 68) (L' := [.ref 1598]) (S' := [.ref 1598, .ref N, .ref N]) rfl ?_
    have s2 : Sh N t2 r2 := s.grow (Nat.le_refl _) (fun b hb => h.to (by omega)) (fun b j hb => h.ro (by omega))
    have hC := rn_La_init_ (N := N + 1) (U := U + nF 2) (d := d) (o := N) (x := p.1) (z := p.2.2.1) (t := t2) (i := i2) (r := r2) s2 h.tn (Nat.le_refl _) rfl ((h.io (by omega)).trans p6) l2 ((h.io (by omega)).trans p7.1) (by omega) (by omega)
    refine ex_callV (Or.inr ⟨rfl, by decide, by show (2 : Nat) < 13; omega⟩) rfl (by show (2 : Nat) < 14; omega) (by show (t2 N).1 = 2; rw [h.tn]) rfl rfl rfl hC ?_
    rintro _ ⟨t3, i3, r3, rfl, a1, a2, a3, a4, a5, a6, b1, b2, b3, b4, b5, b6, c1, c2, c3, c4, c5, c6⟩
    dsimp only
    have tN : t3 N = (2, 6) := (a1 _ (by omega)).trans h.tn
    have I3 : ∀ b j, b < N → i3 b j = i1 b j := fun b j hb => (b1 b j (by omega) (by omega)).trans (h.io (by omega))
    refine ex_reta rfl rfl ⟨t3, i3, r3, ?_, p9, ?_, ?_, ?_, ?_, fun b hb => (a1 b (by omega)).trans (h.to (by omega)), ?_, fun b j q1 q2 q3 q4 => (I3 b j q1).trans (p3 b j q2 q3 q4), fun b j hb => (c1 b j (by omega) (by omega)).trans (h.ro (by omega))⟩
    · rw [show U + (39 + 3 * p.1 + p.2.2.1) = U + nF 2 + (33 + 3 * p.1 + p.2.2.1) by show _ = U + 6 + _; omega]
    · exact (I3 _ _ (by omega)).trans p1
    · exact (I3 _ _ (by omega)).trans p2
    · exact (I3 _ _ (by omega)).trans p5
    · refine ⟨by omega, Nat.le_refl _, tN, c3, c4, c5, c6, c2, a2, ?_, ?_, ?_, ?_⟩
      · rw [show N + 2 = N + 1 + 1 by omega, a3]
      · rw [show N + 3 = N + 1 + 2 by omega, a4]
      · rw [show N + 4 = N + 1 + 3 by omega, a5]
      · rw [show N + 5 = N + 1 + 4 by omega, a6]
    · have e1 : (i2 1599 = i1 1599) ∧ (i2 1600 = i1 1600) ∧ (i2 1601 = i1 1601) ∧ (i2 1602 = i1 1602) := ⟨funext fun k => h.io (by omega), funext fun k => h.io (by omega), funext fun k => h.io (by omega), funext fun k => h.io (by omega)⟩
      obtain ⟨e1, e2, e3, e4⟩ := e1
      rw [e1] at b3; rw [e2] at b4; rw [e3] at b5; rw [e4] at b6
      have hlb : ∀ k, k < p.1 + 1 → i3 (N + 4) k = nI (lbg p.2 k) := fun k hk => by
        rw [show N + 4 = N + 1 + 3 by omega, b5 k hk]
        cases k with
        | zero => exact p8.1
        | succ k => exact (p8.2 k (by omega)).2.2
      refine ⟨b2, ?_, ?_, ?_, ?_, fun k hk => ?_⟩
      · rw [show N + 2 = N + 1 + 1 by omega, a3]; exact ⟨Nat.le_refl _, l2⟩
      · rw [show N + 3 = N + 1 + 2 by omega, a4]; exact ⟨Nat.le_refl _, l2⟩
      · rw [show N + 4 = N + 1 + 3 by omega, a5]; exact ⟨Nat.le_refl _, Nat.succ_le_succ l2⟩
      · rw [show N + 5 = N + 1 + 4 by omega, a6]; show p.2.2.1 ≤ 400; omega
      · have hk : k < p.1 := hk
        obtain ⟨q1, q2, q3⟩ := p8.2 k hk
        obtain ⟨w1, w2, w3, w4, w5⟩ := p9.2.2.2 k hk
        have sb : lbg p.2 k + ((p.2.1 k).2.2 - lbg p.2 k) = (p.2.1 k).2.2 := by omega
        refine ⟨?_, ?_, lbg p.2 k, hlb k (by omega), ?_, ?_, fun q hq => ?_⟩
        · rw [show N + 2 = N + 1 + 1 by omega, b3 k hk]; exact q1
        · rw [show N + 3 = N + 1 + 2 by omega, b4 k hk]; exact q2
        · rw [hlb (k + 1) (by omega)]
          show nI (p.2.1 k).2.2 = nI (lbg p.2 k + ((p.2.1 k).2.2 - lbg p.2 k))
          rw [sb]
        · rw [show N + 5 = N + 1 + 4 by omega, a6]
          show lbg p.2 k + ((p.2.1 k).2.2 - lbg p.2 k) ≤ p.2.2.1
          omega
        · have hq : q < (p.2.1 k).2.2 - lbg p.2 k := hq
          rw [show N + 5 = N + 1 + 4 by omega, b6 _ (by omega)]
          exact p7.2 _ (by omega)
/-- the class's law -/
def LWC (N U n : Nat) (T : Nat → Int32) (t : MT) (i : MI) (r : MR) (q : oR × aH) : Prop := match rLawA n T with
  | .inl e => ∃ i', q = (.inr N, aNew (N, U, t, i', r) 20 0 6) ∧ i' 1595 1 = 0 ∧ i' 1601 0 = 0 ∧ i' 1595 2 = nI e ∧ (∀ b j, b ≠ 1595 → b ≠ 1598 → (b < 1599 ∨ 1603 ≤ b) → i' b j = i b j)
  | .inr p => ∃ t' i' r', q = (.inl (some (.int (nI p.1))), (N + 6, U + (39 + 3 * p.1 + p.2.2.1), t', i', r')) ∧ p.1 ≤ 12 ∧ p.2.2.1 ≤ 400 ∧ i' 1595 1 = 0 ∧ i' 1601 0 = 0 ∧ i' 1595 2 = -1 ∧ i' 1149 1 = 0 ∧ r' 1001 16 = N ∧ Sh (N + 6) t' r' ∧ (∀ b, b < N → t' b = t b) ∧ CL t' i' N (lawOf p.1 p.2) ∧ WL (lawOf p.1 p.2) ∧ (∀ b j, b < N → b ≠ 1595 → b ≠ 1598 → (b < 1599 ∨ 1603 ≤ b) → ¬ (b = 1149 ∧ j = 1) → i' b j = i b j) ∧ (∀ b j, b < N → ¬ (b = 1001 ∧ j = 16) → r' b j = r b j)
set_option maxHeartbeats 8000000 in
theorem rn_Lc_law {n : Nat} {T : Nat → Int32} (s : Sh N t r) (hS : SV t i) (hn : n ≤ 400) (ht : TC i n T) (h0 : i 1601 0 = 0) (hd : 162 ≤ d) : Rn d 124 [.ref 1000] (N, U, t, i, r) (LWC N U n T t i r) := by
  have h59 : 1659 ≤ N := s.1
  refine Rn.of' (H := 161) (M := K_Lc_law) (L := [.ref 1000]) hd rfl (by show (1 : Nat) ≤ 1; omega) rfl rfl (fun d hd => ?_)
  refine Ex.run 1 (pc' := 1) (L' := [.ref 1000]) (S' := [.ref 1000]) rfl ?_
  refine ex_getRT (b := 1001) rfl (t1000 s) rfl (r1000_0 s) (by decide) ?_
  refine Ex.run 1 (pc' := 3) (L' := [.ref 1000]) (S' := [.ref 1000, .ref 1001]) rfl ?_
  refine ex_getRT (b := 1598) rfl (t1000 s) rfl (r1000_8 s) (by decide) ?_
  refine ex_callV (Or.inl rfl) rfl (by show (3 : Nat) < 14; omega) (by show (t 1598).1 = 3; rw [t1598 s]) rfl rfl rfl (rn_Lt_read s hS hn ht h0 hd) ?_
  intro q hq
  unfold LRD at hq
  unfold LWC
  cases hr : rLawA n T with
  | inl e =>
    rw [hr] at hq
    obtain ⟨i1, rfl, q1, q2, q3, q4⟩ := hq
    exact ⟨i1, rfl, q1, q2, q3, q4⟩
  | inr p =>
    rw [hr] at hq
    obtain ⟨t1, i1, r1, rfl, a1, a2, a3, a4, a5, a6, a7, a8, a9⟩ := hq
    dsimp only
    have s1 : Sh (N + 6) t1 r1 := s.grow (by omega) a6 a9
    have s2 : Sh (N + 6) t1 (wrR r1 1001 16 N) := shLaw s1 sea1001 a5
    have e16 : wrR r1 1001 16 N 1001 16 = N := wrR_s
    have R2 : ∀ b j, b < N → ¬ (b = 1001 ∧ j = 16) → wrR r1 1001 16 N b j = r b j := fun b j q1 q2 => (wrRo q2).trans (a9 b j q1)
    refine ex_putRT rfl (sT0 s1 sea1001) (by omega) rfl (by omega) ?_
    generalize wrR r1 1001 16 N = r2 at s2 e16 R2
    refine Ex.run 1 (pc' := 7) (L' := [.ref 1000]) (S' := [.ref 1000]) rfl ?_
    refine ex_getRT (b := 1149) rfl (t1000 s2) rfl (r1000_5 s2) (by decide) ?_
    have hfg : f_Pa_forget i1 = some (wr i1 1149 1 0) := rfl
    refine ex_cvv rfl rfl (by show (5 : Nat) < 14; omega) (by show (t1 1149).1 = 5; rw [t1149 s2]) rfl rfl rfl (c_Pa_forget s2 d (by omega) _ hfg).2 ?_
    refine Ex.run 1 (pc' := 10) (L' := [.ref 1000]) (S' := [.ref 1000]) rfl ?_
    refine ex_getRT (b := 1001) rfl (t1000 s2) rfl (r1000_0 s2) (by decide) ?_
    refine ex_getRT (b := N) rfl (sT0 s2 sea1001) rfl e16 (by omega) ?_
    refine ex_getIT (x := nI p.1) rfl a5.2.2.1 rfl ((wr_a (by omega)).trans a7.1) ?_
    have w : ∀ b j, ¬ (b = 1149 ∧ j = 1) → wr i1 1149 1 0 b j = i1 b j := fun b j hb => if_neg hb
    refine ex_ret rfl (Or.inl rfl) ⟨t1, _, r2, rfl, a1.2.1, ?_, ?_, ?_, ?_, wr_s, e16, s2, a6, a7.congr (fun b k hb => w b k (by omega)), a1.wl hn, fun b j q1 q2 q3 q4 q5 => (w b j q5).trans (a8 b j q1 q2 q3 q4), R2⟩
    · have := a1.1; omega
    · exact (w _ _ (by omega)).trans a2
    · exact (w _ _ (by omega)).trans a3
    · exact (w _ _ (by omega)).trans a4
end ALC
