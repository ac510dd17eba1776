/-! ===== methods as functions, part 4 (written by wip/gen/decall.py) ===== -/
def f_Lc_tryDays (t : MT) (r : MR) (i : MI) (x1 : Int32) (x2 : Int32) : Option (MI × MR) :=
  (f_Se_copyFrom r i 1075 1001).bind (fun (i_1, r_2) => bnd (wr i_1 1075 15 x2) (fun i_4 => (itr (σ := Int32 × MI) (ρ := MI) (fun (x3_5, i_6) => if x3_5 < x1 then ((f_Se_passDay t r_2 i_6 1075 (1 : Int32)).bind (fun (v_10, i_11) => some (.inl ((x3_5 + (1 : Int32)), i_11)))) else (some (.inr i_6))) 1000000 ((0 : Int32), i_4)).bind (fun i_7 => some (i_7, r_2))))
set_option maxHeartbeats 4000000 in
theorem c_Lc_tryDays {n u : Nat} {t : MT} {i : MI} {r : MR} (s : Sh n t r) (x1 : Int32) (x2 : Int32) : Cn 7 184 [.ref 1000, .int x1, .int x2] (n, u, t, i, r) (f_Lc_tryDays t r i x1 x2) (F_v2 n u t) (PS1 n t) := by
  refine cn_of (Y := K_Lc_tryDays) (L0 := [.ref 1000, .int x1, .int x2, uV]) rfl rfl rfl ?_
  intro d hd
  unfold f_Lc_tryDays
  refine ge_run (pc' := 1) (L' := [.ref 1000, .int x1, .int x2, uV]) (S' := [.ref 1000]) 1 rfl ?_
  refine ge_getR (b := 1075) rfl (t1000 s) rfl (r1000_2 s) (Nat.le_of_ble_eq_true rfl) ?_
  refine ge_run (pc' := 3) (L' := [.ref 1000, .int x1, .int x2, uV]) (S' := [.ref 1000, .ref 1075]) 1 rfl ?_
  refine ge_getR (b := 1001) rfl (t1000 s) rfl (r1000_0 s) (Nat.le_of_ble_eq_true rfl) ?_
  refine ge_cv rfl rfl rfl (sT0 s sea1075) rfl rfl rfl (D := 3) (Nat.le_trans (by decide) hd) (c_Se_copyFrom (n := n) (u := u) (t := t) (i := i) (r := r) s 1075 sea1075 1001 sea1001) ?_
  rintro ⟨i_1, r_2⟩ s_3
  dsimp only [bkE, F_v2]
  refine ge_run (pc' := 6) (L' := [.ref 1000, .int x1, .int x2, uV]) (S' := [.ref 1000]) 1 rfl ?_
  refine ge_getR (b := 1075) rfl (t1000 s_3) rfl (r1000_2 s_3) (Nat.le_of_ble_eq_true rfl) ?_
  refine ge_run (pc' := 8) (L' := [.ref 1000, .int x1, .int x2, uV]) (S' := [.int x2, .ref 1075]) 1 rfl ?_
  refine ge_putI rfl (sT0 s_3 sea1075) (sge0 sea1075) rfl (fun i_4 => ?_)
  refine ge_run (pc' := 11) (L' := [.ref 1000, .int x1, .int x2, .int (0 : Int32)]) (S' := []) 2 rfl ?_
  refine ge_bind (K1 := fun (q : MI) e => ∃ w_8 : Value, e = .inl (21, [.ref 1000, .int x1, .int x2, w_8], [], (n, u, t, q, r_2))) (ge_itr (C := fun (q : Int32 × MI) e => e = .inl (11, [.ref 1000, .int x1, .int x2, .int q.1], [], (n, u, t, q.2, r_2))) ?_ _ _ _ rfl) ?_
  · rintro ⟨x3_5, i_6⟩ _ rfl
    try dsimp only
    refine ge_run (pc' := 13) (L' := [.ref 1000, .int x1, .int x2, .int x3_5]) (S' := [.int x1, .int x3_5]) 2 rfl ?_
    refine ge_ge rfl (fun h_9 => ?_) (fun h_12 => ?_)
    · refine ge_run (pc' := 15) (L' := [.ref 1000, .int x1, .int x2, .int x3_5]) (S' := [.ref 1000]) 1 rfl ?_
      refine ge_getR (b := 1075) rfl (t1000 s_3) rfl (r1000_2 s_3) (Nat.le_of_ble_eq_true rfl) ?_
      refine ge_run (pc' := 17) (L' := [.ref 1000, .int x1, .int x2, .int x3_5]) (S' := [.int (1 : Int32), .ref 1075]) 1 rfl ?_
      refine ge_cv rfl rfl rfl (sT0 s_3 sea1075) rfl rfl rfl (D := 6) (Nat.le_trans (by decide) hd) (c_Se_passDay (n := n) (u := u) (t := t) (i := i_6) (r := r_2) s_3 1075 sea1075 (1 : Int32)) ?_
      rintro ⟨v_10, i_11⟩ -
      dsimp only [bkE, F_i1]
      refine ge_run (pc' := 11) (L' := [.ref 1000, .int x1, .int x2, .int (x3_5 + (1 : Int32))]) (S' := []) 3 rfl ?_
      exact ge_leaf (K := kX _ _) rfl
    · exact ge_leaf (K := kX _ _) (Exists.intro _ rfl)
  · rintro i_7 _ ⟨w_8, rfl⟩
    try dsimp only
    exact ge_retv rfl rfl (And.intro rfl s_3)
def f_Lc_trial (t : MT) (r : MR) (i : MI) (x1 : Int32) (x2 : Int32) : Option ((Int32 ⊕ Nat) × MI × MR) :=
  (f_Lc_needWithin x1 (0 : Int32) (60 : Int32)).bind (fun | .inl () => (f_Lc_tryDays t r i x1 (i 1001 15)).bind (fun (i_2, r_3) => if x2 = 0 then (some (.inl (i_2 1075 13), i_2, r_3)) else ((f_Se_placed i_2 1075 (3 : Int32)).bind (fun v_7 => (f_J_bitCount v_7).bind (fun v_8 => some (.inl v_8, i_2, r_3))))) | .inr c_1 => some (.inr c_1, i, r))
set_option maxHeartbeats 4000000 in
theorem c_Lc_trial {n u : Nat} {t : MT} {i : MI} {r : MR} (s : Sh n t r) (x1 : Int32) (x2 : Int32) : Cn 8 166 [.ref 1000, .int x1, .int x2] (n, u, t, i, r) (f_Lc_trial t r i x1 x2) (F_ti2 n u t) (PS2 n t) := by
  refine cn_of (Y := K_Lc_trial) (L0 := [.ref 1000, .int x1, .int x2]) rfl rfl rfl ?_
  intro d hd
  unfold f_Lc_trial
  refine ge_run (pc' := 3) (L' := [.ref 1000, .int x1, .int x2]) (S' := [.int (60 : Int32), .int (0 : Int32), .int x1]) 3 rfl ?_
  refine ge_cs rfl rfl rfl rfl rfl rfl (D := 1) (Nat.le_trans (by decide) hd) (c_Lc_needWithin (n := n) (u := u) (t := t) (i := i) (r := r) s x1 (0 : Int32) (60 : Int32)) ?_
  rintro (⟨⟩ | c_1) -
  · dsimp only [bkE, F_tv0]
    refine ge_run (pc' := 7) (L' := [.ref 1000, .int x1, .int x2]) (S' := [.ref 1000, .int x1, .ref 1000]) 3 rfl ?_
    refine ge_getR (b := 1001) rfl (t1000 s) rfl (r1000_0 s) (Nat.le_of_ble_eq_true rfl) ?_
    refine ge_getI rfl (sT0 s sea1001) rfl ?_
    refine ge_cv rfl rfl rfl (t1000 s) rfl rfl rfl (D := 7) (Nat.le_trans (by decide) hd) (c_Lc_tryDays (n := n) (u := u) (t := t) (i := i) (r := r) s x1 (i 1001 15)) ?_
    rintro ⟨i_2, r_3⟩ s_4
    dsimp only [bkE, F_v2]
    refine ge_run (pc' := 11) (L' := [.ref 1000, .int x1, .int x2]) (S' := [.int x2]) 1 rfl ?_
    refine ge_eq0 rfl (fun h_5 => ?_) (fun h_6 => ?_)
    · refine ge_run (pc' := 19) (L' := [.ref 1000, .int x1, .int x2]) (S' := [.ref 1000]) 1 rfl ?_
      refine ge_getR (b := 1075) rfl (t1000 s_4) rfl (r1000_2 s_4) (Nat.le_of_ble_eq_true rfl) ?_
      refine ge_getI rfl (sT0 s_4 sea1075) rfl ?_
      exact ge_ret rfl rfl (And.intro rfl s_4)
    · refine ge_run (pc' := 13) (L' := [.ref 1000, .int x1, .int x2]) (S' := [.ref 1000]) 1 rfl ?_
      refine ge_getR (b := 1075) rfl (t1000 s_4) rfl (r1000_2 s_4) (Nat.le_of_ble_eq_true rfl) ?_
      refine ge_run (pc' := 15) (L' := [.ref 1000, .int x1, .int x2]) (S' := [.int (3 : Int32), .ref 1075]) 1 rfl ?_
      refine ge_cv rfl rfl rfl (sT0 s_4 sea1075) rfl rfl rfl (D := 1) (Nat.le_trans (by decide) hd) (c_Se_placed (n := n) (u := u) (t := t) (i := i_2) (r := r_3) s_4 1075 sea1075 (3 : Int32)) ?_
      rintro v_7 -
      dsimp only [bkE, F_i0]
      refine ge_cs rfl rfl rfl rfl rfl rfl (D := 1) (Nat.le_trans (by decide) hd) (c_J_bitCount (n := n) (u := u) (t := t) (i := i_2) (r := r_3) s_4 v_7) ?_
      rintro v_8 -
      dsimp only [bkE, F_i0]
      refine ge_run (pc' := 21) (L' := [.ref 1000, .int x1, .int x2]) (S' := [.int v_8]) 1 rfl ?_
      exact ge_ret rfl rfl (And.intro rfl s_4)
  · exact ge_leaf (And.intro rfl s)
def f_Lc_span (t : MT) (r : MR) (i : MI) (x1 : Int32) (x2 : Int32) : Option ((Int32 ⊕ Nat) × MI × MR) :=
  (f_Lc_needWithin x1 (0 : Int32) (60 : Int32)).bind (fun | .inl () => (itr (σ := Int32 × Int32 × Int32 × MI × MR) (ρ := Int32 × Int32 × MI × MR) (fun (x3_2, x4_3, x5_4, i_5, r_6) => if (6 : Int32) < x5_4 then (some (.inr (x3_2, x4_3, i_5, r_6))) else ((f_Lc_tryDays t r_6 i_5 x1 x5_4).bind (fun (i_16, r_17) => (f_J_min x3_2 (i_16 1075 13)).bind (fun v_19 => (f_J_max x4_3 (i_16 1075 13)).bind (fun v_20 => some (.inl (v_19, v_20, (x5_4 + (1 : Int32)), i_16, r_17))))))) 1000000 ((9999 : Int32), (0 : Int32), (1 : Int32), i, r)).bind (fun (x3_8, x4_9, i_10, r_11) => if x2 = 0 then (some (.inl x3_8, i_10, r_11)) else (some (.inl x4_9, i_10, r_11))) | .inr c_1 => some (.inr c_1, i, r))
set_option maxHeartbeats 4000000 in
theorem c_Lc_span {n u : Nat} {t : MT} {i : MI} {r : MR} (s : Sh n t r) (x1 : Int32) (x2 : Int32) : Cn 8 167 [.ref 1000, .int x1, .int x2] (n, u, t, i, r) (f_Lc_span t r i x1 x2) (F_ti2 n u t) (PS2 n t) := by
  refine cn_of (Y := K_Lc_span) (L0 := [.ref 1000, .int x1, .int x2, uV, uV, uV]) rfl rfl rfl ?_
  intro d hd
  unfold f_Lc_span
  refine ge_run (pc' := 3) (L' := [.ref 1000, .int x1, .int x2, uV, uV, uV]) (S' := [.int (60 : Int32), .int (0 : Int32), .int x1]) 3 rfl ?_
  refine ge_cs rfl rfl rfl rfl rfl rfl (D := 1) (Nat.le_trans (by decide) hd) (c_Lc_needWithin (n := n) (u := u) (t := t) (i := i) (r := r) s x1 (0 : Int32) (60 : Int32)) ?_
  rintro (⟨⟩ | c_1) -
  · dsimp only [bkE, F_tv0]
    refine ge_run (pc' := 10) (L' := [.ref 1000, .int x1, .int x2, .int (9999 : Int32), .int (0 : Int32), .int (1 : Int32)]) (S' := []) 6 rfl ?_
    refine ge_bind (K1 := fun (q : Int32 × Int32 × MI × MR) e => Sh n t q.2.2.2 ∧ ∃ w_12 : Value, e = .inl (31, [.ref 1000, .int x1, .int x2, .int q.1, .int q.2.1, w_12], [], (n, u, t, q.2.2.1, q.2.2.2))) (ge_itr (C := fun (q : Int32 × Int32 × Int32 × MI × MR) e => Sh n t q.2.2.2.2 ∧ e = .inl (10, [.ref 1000, .int x1, .int x2, .int q.1, .int q.2.1, .int q.2.2.1], [], (n, u, t, q.2.2.2.1, q.2.2.2.2))) ?_ _ _ _ (And.intro s rfl)) ?_
    · rintro ⟨x3_2, x4_3, x5_4, i_5, r_6⟩ _ ⟨s_7, rfl⟩
      try dsimp only
      refine ge_run (pc' := 12) (L' := [.ref 1000, .int x1, .int x2, .int x3_2, .int x4_3, .int x5_4]) (S' := [.int (6 : Int32), .int x5_4]) 2 rfl ?_
      refine ge_gt rfl (fun h_14 => ?_) (fun h_15 => ?_)
      · exact ge_leaf (K := kX _ _) (And.intro s_7 (Exists.intro _ rfl))
      · refine ge_run (pc' := 16) (L' := [.ref 1000, .int x1, .int x2, .int x3_2, .int x4_3, .int x5_4]) (S' := [.int x5_4, .int x1, .ref 1000]) 3 rfl ?_
        refine ge_cv rfl rfl rfl (t1000 s_7) rfl rfl rfl (D := 7) (Nat.le_trans (by decide) hd) (c_Lc_tryDays (n := n) (u := u) (t := t) (i := i_5) (r := r_6) s_7 x1 x5_4) ?_
        rintro ⟨i_16, r_17⟩ s_18
        dsimp only [bkE, F_v2]
        refine ge_run (pc' := 19) (L' := [.ref 1000, .int x1, .int x2, .int x3_2, .int x4_3, .int x5_4]) (S' := [.ref 1000, .int x3_2]) 2 rfl ?_
        refine ge_getR (b := 1075) rfl (t1000 s_18) rfl (r1000_2 s_18) (Nat.le_of_ble_eq_true rfl) ?_
        refine ge_getI rfl (sT0 s_18 sea1075) rfl ?_
        refine ge_cs rfl rfl rfl rfl rfl rfl (D := 1) (Nat.le_trans (by decide) hd) (c_J_min (n := n) (u := u) (t := t) (i := i_16) (r := r_17) s_18 x3_2 (i_16 1075 13)) ?_
        rintro v_19 -
        dsimp only [bkE, F_i0]
        refine ge_run (pc' := 25) (L' := [.ref 1000, .int x1, .int x2, .int v_19, .int x4_3, .int x5_4]) (S' := [.ref 1000, .int x4_3]) 3 rfl ?_
        refine ge_getR (b := 1075) rfl (t1000 s_18) rfl (r1000_2 s_18) (Nat.le_of_ble_eq_true rfl) ?_
        refine ge_getI rfl (sT0 s_18 sea1075) rfl ?_
        refine ge_cs rfl rfl rfl rfl rfl rfl (D := 1) (Nat.le_trans (by decide) hd) (c_J_max (n := n) (u := u) (t := t) (i := i_16) (r := r_17) s_18 x4_3 (i_16 1075 13)) ?_
        rintro v_20 -
        dsimp only [bkE, F_i0]
        refine ge_run (pc' := 10) (L' := [.ref 1000, .int x1, .int x2, .int v_19, .int v_20, .int (x5_4 + (1 : Int32))]) (S' := []) 3 rfl ?_
        exact ge_leaf (K := kX _ _) (And.intro s_18 rfl)
    · rintro ⟨x3_8, x4_9, i_10, r_11⟩ _ ⟨s_13, w_12, rfl⟩
      try dsimp only
      refine ge_run (pc' := 32) (L' := [.ref 1000, .int x1, .int x2, .int x3_8, .int x4_9, w_12]) (S' := [.int x2]) 1 rfl ?_
      refine ge_eq0 rfl (fun h_21 => ?_) (fun h_22 => ?_)
      · refine ge_run (pc' := 36) (L' := [.ref 1000, .int x1, .int x2, .int x3_8, .int x4_9, w_12]) (S' := [.int x3_8]) 1 rfl ?_
        exact ge_ret rfl rfl (And.intro rfl s_13)
      · refine ge_run (pc' := 36) (L' := [.ref 1000, .int x1, .int x2, .int x3_8, .int x4_9, w_12]) (S' := [.int x4_9]) 2 rfl ?_
        exact ge_ret rfl rfl (And.intro rfl s_13)
  · exact ge_leaf (And.intro rfl s)
def f_Lc_led (i : MI) (x1 : Int32) (x2 : Int32) : Option ((Int32 ⊕ Nat)) :=
  (f_Lc_needFish i x1).bind (fun | .inl () => (itr (σ := Int32 × Int32 × Int32) (ρ := Int32 × Int32) (fun (x3_2, x4_3, x5_4) => if x5_4 < 0 then (some (.inr (x3_2, x4_3))) else ((f_Lo_told i 1001 x5_4 (1 : Int32)).bind (fun v_10 => (if v_10 = x1 then ((f_Lo_told i 1001 x5_4 (0 : Int32)).bind (fun v_14 => some ((x3_2 + (1 : Int32)), v_14))) else (some (x3_2, x4_3)) : Option (Int32 × Int32)).bind (fun (x3_11, x4_12) => some (.inl (x3_11, x4_12, (x5_4 + (-1 : Int32)))))))) 1000000 ((0 : Int32), (-1 : Int32), ((i (1001 + 28) 1) - (1 : Int32)))).bind (fun (x3_5, x4_6) => if x2 = 0 then (some (.inl x3_5)) else (some (.inl x4_6))) | .inr c_1 => some (.inr c_1))
set_option maxHeartbeats 4000000 in
theorem c_Lc_led {n u : Nat} {t : MT} {i : MI} {r : MR} (s : Sh n t r) (x1 : Int32) (x2 : Int32) : Cn 2 168 [.ref 1000, .int x1, .int x2] (n, u, t, i, r) (f_Lc_led i x1 x2) (F_ti0 n u t i r) PT := by
  refine cn_of (Y := K_Lc_led) (L0 := [.ref 1000, .int x1, .int x2, uV, uV, uV]) rfl rfl rfl ?_
  intro d hd
  unfold f_Lc_led
  refine ge_run (pc' := 2) (L' := [.ref 1000, .int x1, .int x2, uV, uV, uV]) (S' := [.int x1, .ref 1000]) 2 rfl ?_
  refine ge_cv rfl rfl rfl (t1000 s) rfl rfl rfl (D := 1) (Nat.le_trans (by decide) hd) (c_Lc_needFish (n := n) (u := u) (t := t) (i := i) (r := r) s x1) ?_
  rintro (⟨⟩ | c_1) -
  · dsimp only [bkE, F_tv0]
    refine ge_run (pc' := 8) (L' := [.ref 1000, .int x1, .int x2, .int (0 : Int32), .int (-1 : Int32), uV]) (S' := [.ref 1000]) 5 rfl ?_
    refine ge_getR (b := 1001) rfl (t1000 s) rfl (r1000_0 s) (Nat.le_of_ble_eq_true rfl) ?_
    refine ge_getR (b := (1001 + 28)) rfl (sT0 s sea1001) rfl (sR5 s sea1001) (sge sea1001) ?_
    refine ge_getI rfl (sT28 s sea1001) rfl ?_
    refine ge_run (pc' := 14) (L' := [.ref 1000, .int x1, .int x2, .int (0 : Int32), .int (-1 : Int32), .int ((i (1001 + 28) 1) - (1 : Int32))]) (S' := []) 3 rfl ?_
    refine ge_bind (K1 := fun (q : Int32 × Int32) e => ∃ w_7 : Value, e = .inl (34, [.ref 1000, .int x1, .int x2, .int q.1, .int q.2, w_7], [], (n, u, t, i, r))) (ge_itr (C := fun (q : Int32 × Int32 × Int32) e => e = .inl (14, [.ref 1000, .int x1, .int x2, .int q.1, .int q.2.1, .int q.2.2], [], (n, u, t, i, r))) ?_ _ _ _ rfl) ?_
    · rintro ⟨x3_2, x4_3, x5_4⟩ _ rfl
      try dsimp only
      refine ge_run (pc' := 15) (L' := [.ref 1000, .int x1, .int x2, .int x3_2, .int x4_3, .int x5_4]) (S' := [.int x5_4]) 1 rfl ?_
      refine ge_lt0 rfl (fun h_8 => ?_) (fun h_9 => ?_)
      · exact ge_leaf (K := kX _ _) (Exists.intro _ rfl)
      · refine ge_run (pc' := 17) (L' := [.ref 1000, .int x1, .int x2, .int x3_2, .int x4_3, .int x5_4]) (S' := [.ref 1000]) 1 rfl ?_
        refine ge_getR (b := 1001) rfl (t1000 s) rfl (r1000_0 s) (Nat.le_of_ble_eq_true rfl) ?_
        refine ge_getR (b := (1001 + 28)) rfl (sT0 s sea1001) rfl (sR5 s sea1001) (sge sea1001) ?_
        refine ge_run (pc' := 21) (L' := [.ref 1000, .int x1, .int x2, .int x3_2, .int x4_3, .int x5_4]) (S' := [.int (1 : Int32), .int x5_4, .ref (1001 + 28)]) 2 rfl ?_
        refine ge_cv rfl rfl rfl (sT28 s sea1001) rfl rfl rfl (D := 1) (Nat.le_trans (by decide) hd) (c_Lo_told (n := n) (u := u) (t := t) (i := i) (r := r) s 1001 sea1001 x5_4 (1 : Int32)) ?_
        rintro v_10 -
        dsimp only [bkE, F_i0]
        refine ge_run (pc' := 23) (L' := [.ref 1000, .int x1, .int x2, .int x3_2, .int x4_3, .int x5_4]) (S' := [.int x1, .int v_10]) 1 rfl ?_
        refine ge_bind (K1 := fun (q : Int32 × Int32) e => e = .inl (32, [.ref 1000, .int x1, .int x2, .int q.1, .int q.2, .int x5_4], [], (n, u, t, i, r))) ?_ ?_
        · refine ge_ne rfl (fun h_13 => ?_) (fun h_15 => ?_)
          · refine ge_run (pc' := 26) (L' := [.ref 1000, .int x1, .int x2, .int (x3_2 + (1 : Int32)), .int x4_3, .int x5_4]) (S' := [.ref 1000]) 2 rfl ?_
            refine ge_getR (b := 1001) rfl (t1000 s) rfl (r1000_0 s) (Nat.le_of_ble_eq_true rfl) ?_
            refine ge_getR (b := (1001 + 28)) rfl (sT0 s sea1001) rfl (sR5 s sea1001) (sge sea1001) ?_
            refine ge_run (pc' := 30) (L' := [.ref 1000, .int x1, .int x2, .int (x3_2 + (1 : Int32)), .int x4_3, .int x5_4]) (S' := [.int (0 : Int32), .int x5_4, .ref (1001 + 28)]) 2 rfl ?_
            refine ge_cv rfl rfl rfl (sT28 s sea1001) rfl rfl rfl (D := 1) (Nat.le_trans (by decide) hd) (c_Lo_told (n := n) (u := u) (t := t) (i := i) (r := r) s 1001 sea1001 x5_4 (0 : Int32)) ?_
            rintro v_14 -
            dsimp only [bkE, F_i0]
            refine ge_run (pc' := 32) (L' := [.ref 1000, .int x1, .int x2, .int (x3_2 + (1 : Int32)), .int v_14, .int x5_4]) (S' := []) 1 rfl ?_
            exact ge_leaf rfl
          · exact ge_leaf rfl
        · rintro ⟨x3_11, x4_12⟩ _ rfl
          try dsimp only
          refine ge_run (pc' := 14) (L' := [.ref 1000, .int x1, .int x2, .int x3_11, .int x4_12, .int (x5_4 + (-1 : Int32))]) (S' := []) 2 rfl ?_
          exact ge_leaf (K := kX _ _) rfl
    · rintro ⟨x3_5, x4_6⟩ _ ⟨w_7, rfl⟩
      try dsimp only
      refine ge_run (pc' := 35) (L' := [.ref 1000, .int x1, .int x2, .int x3_5, .int x4_6, w_7]) (S' := [.int x2]) 1 rfl ?_
      refine ge_eq0 rfl (fun h_16 => ?_) (fun h_17 => ?_)
      · refine ge_run (pc' := 39) (L' := [.ref 1000, .int x1, .int x2, .int x3_5, .int x4_6, w_7]) (S' := [.int x3_5]) 1 rfl ?_
        exact ge_ret rfl rfl (And.intro rfl trivial)
      · refine ge_run (pc' := 39) (L' := [.ref 1000, .int x1, .int x2, .int x3_5, .int x4_6, w_7]) (S' := [.int x4_6]) 2 rfl ?_
        exact ge_ret rfl rfl (And.intro rfl trivial)
  · exact ge_leaf (And.intro rfl trivial)
def f_Lc_log (i : MI) (x1 : Int32) (x2 : Int32) : Option ((Int32 ⊕ Nat)) :=
  if x2 < 0 then (some (.inr 24)) else (if x2 < (5 : Int32) then ((f_Lo_told i 1001 x1 x2).bind (fun v_4 => some (.inl v_4))) else (some (.inr 24)))
set_option maxHeartbeats 4000000 in
theorem c_Lc_log {n u : Nat} {t : MT} {i : MI} {r : MR} (s : Sh n t r) (x1 : Int32) (x2 : Int32) : Cn 2 169 [.ref 1000, .int x1, .int x2] (n, u, t, i, r) (f_Lc_log i x1 x2) (F_ti0 n u t i r) PT := by
  refine cn_of (Y := K_Lc_log) (L0 := [.ref 1000, .int x1, .int x2]) rfl rfl rfl ?_
  intro d hd
  unfold f_Lc_log
  refine ge_run (pc' := 1) (L' := [.ref 1000, .int x1, .int x2]) (S' := [.int x2]) 1 rfl ?_
  refine ge_lt0 rfl (fun h_1 => ?_) (fun h_2 => ?_)
  · exact ge_throw rfl (by decide) rfl rfl (And.intro rfl trivial)
  · refine ge_run (pc' := 4) (L' := [.ref 1000, .int x1, .int x2]) (S' := [.int (5 : Int32), .int x2]) 2 rfl ?_
    refine ge_lt rfl (fun h_3 => ?_) (fun h_5 => ?_)
    · refine ge_run (pc' := 8) (L' := [.ref 1000, .int x1, .int x2]) (S' := [.ref 1000]) 1 rfl ?_
      refine ge_getR (b := 1001) rfl (t1000 s) rfl (r1000_0 s) (Nat.le_of_ble_eq_true rfl) ?_
      refine ge_getR (b := (1001 + 28)) rfl (sT0 s sea1001) rfl (sR5 s sea1001) (sge sea1001) ?_
      refine ge_run (pc' := 12) (L' := [.ref 1000, .int x1, .int x2]) (S' := [.int x2, .int x1, .ref (1001 + 28)]) 2 rfl ?_
      refine ge_cv rfl rfl rfl (sT28 s sea1001) rfl rfl rfl (D := 1) (Nat.le_trans (by decide) hd) (c_Lo_told (n := n) (u := u) (t := t) (i := i) (r := r) s 1001 sea1001 x1 x2) ?_
      rintro v_4 -
      dsimp only [bkE, F_i0]
      exact ge_ret rfl rfl (And.intro rfl trivial)
    · exact ge_throw rfl (by decide) rfl rfl (And.intro rfl trivial)
def f_Lc_seed (i : MI) (x1 : Int32) : Option (Int32 × MI) :=
  bnd (wr i 1001 15 x1) (fun i_1 => some ((i 1001 15), i_1))
set_option maxHeartbeats 4000000 in
theorem c_Lc_seed {n u : Nat} {t : MT} {i : MI} {r : MR} (s : Sh n t r) (x1 : Int32) : Cn 1 170 [.ref 1000, .int x1] (n, u, t, i, r) (f_Lc_seed i x1) (F_i1 n u t r) PT := by
  refine cn_of (Y := K_Lc_seed) (L0 := [.ref 1000, .int x1, uV]) rfl rfl rfl ?_
  intro d hd
  unfold f_Lc_seed
  refine ge_run (pc' := 1) (L' := [.ref 1000, .int x1, uV]) (S' := [.ref 1000]) 1 rfl ?_
  refine ge_getR (b := 1001) rfl (t1000 s) rfl (r1000_0 s) (Nat.le_of_ble_eq_true rfl) ?_
  refine ge_getI rfl (sT0 s sea1001) rfl ?_
  refine ge_run (pc' := 5) (L' := [.ref 1000, .int x1, .int (i 1001 15)]) (S' := [.ref 1000]) 2 rfl ?_
  refine ge_getR (b := 1001) rfl (t1000 s) rfl (r1000_0 s) (Nat.le_of_ble_eq_true rfl) ?_
  refine ge_run (pc' := 7) (L' := [.ref 1000, .int x1, .int (i 1001 15)]) (S' := [.int x1, .ref 1001]) 1 rfl ?_
  refine ge_putI rfl (sT0 s sea1001) (sge0 sea1001) rfl (fun i_1 => ?_)
  refine ge_run (pc' := 9) (L' := [.ref 1000, .int x1, .int (i 1001 15)]) (S' := [.int (i 1001 15)]) 1 rfl ?_
  exact ge_ret rfl rfl (And.intro rfl trivial)
def f_Lc_undo (r : MR) (i : MI) : Option (Int32 × MI × MR) :=
  (f_Pa_bringBack r i 1001).bind (fun (v_1, i_2, r_3) => grd2 (decide (v_1 = 0 ∨ v_1 = 1)) (some (v_1, i_2, r_3)))
set_option maxHeartbeats 4000000 in
theorem c_Lc_undo {n u : Nat} {t : MT} {i : MI} {r : MR} (s : Sh n t r)  : Cn 5 171 [.ref 1000] (n, u, t, i, r) (f_Lc_undo r i ) (F_i2 n u t) (PS2 n t) := by
  refine cn_of (Y := K_Lc_undo) (L0 := [.ref 1000]) rfl rfl rfl ?_
  intro d hd
  unfold f_Lc_undo
  refine ge_run (pc' := 1) (L' := [.ref 1000]) (S' := [.ref 1000]) 1 rfl ?_
  refine ge_getR (b := 1149) rfl (t1000 s) rfl (r1000_5 s) (Nat.le_of_ble_eq_true rfl) ?_
  refine ge_run (pc' := 3) (L' := [.ref 1000]) (S' := [.ref 1000, .ref 1149]) 1 rfl ?_
  refine ge_getR (b := 1001) rfl (t1000 s) rfl (r1000_0 s) (Nat.le_of_ble_eq_true rfl) ?_
  refine ge_cv rfl rfl rfl (t1149 s) rfl rfl rfl (D := 4) (Nat.le_trans (by decide) hd) (c_Pa_bringBack (n := n) (u := u) (t := t) (i := i) (r := r) s 1001 sea1001) ?_
  rintro ⟨v_1, i_2, r_3⟩ s_4
  dsimp only [bkE, F_i2]
  exact ge_retZ rfl rfl (And.intro rfl s_4)
def f_Lc_image (r : MR) (i : MI) : Option (MI × MR) :=
  (f_Se_copyFrom r i 1112 1001).bind (fun (i_1, r_2) => bnd (wr i_1 1000 4 (1 : Int32)) (fun i_4 => some (i_4, r_2)))
set_option maxHeartbeats 4000000 in
theorem c_Lc_image {n u : Nat} {t : MT} {i : MI} {r : MR} (s : Sh n t r)  : Cn 4 172 [.ref 1000] (n, u, t, i, r) (f_Lc_image r i ) (F_v2 n u t) (PS1 n t) := by
  refine cn_of (Y := K_Lc_image) (L0 := [.ref 1000]) rfl rfl rfl ?_
  intro d hd
  unfold f_Lc_image
  refine ge_run (pc' := 1) (L' := [.ref 1000]) (S' := [.ref 1000]) 1 rfl ?_
  refine ge_getR (b := 1112) rfl (t1000 s) rfl (r1000_3 s) (Nat.le_of_ble_eq_true rfl) ?_
  refine ge_run (pc' := 3) (L' := [.ref 1000]) (S' := [.ref 1000, .ref 1112]) 1 rfl ?_
  refine ge_getR (b := 1001) rfl (t1000 s) rfl (r1000_0 s) (Nat.le_of_ble_eq_true rfl) ?_
  refine ge_cv rfl rfl rfl (sT0 s sea1112) rfl rfl rfl (D := 3) (Nat.le_trans (by decide) hd) (c_Se_copyFrom (n := n) (u := u) (t := t) (i := i) (r := r) s 1112 sea1112 1001 sea1001) ?_
  rintro ⟨i_1, r_2⟩ s_3
  dsimp only [bkE, F_v2]
  refine ge_run (pc' := 7) (L' := [.ref 1000]) (S' := [.int (1 : Int32), .ref 1000]) 2 rfl ?_
  refine ge_putZ rfl (t1000 s_3) (Nat.le_of_ble_eq_true rfl) rfl (Or.inr rfl) (fun i_4 => ?_)
  exact ge_retv rfl rfl (And.intro rfl s_3)
def f_Lc_back (r : MR) (i : MI) : Option (Int32 × MI × MR) :=
  if (i 1000 4) = 0 then (some ((0 : Int32), i, r)) else ((f_Se_copyFrom r i 1001 1112).bind (fun (i_3, r_4) => (f_Pa_forget i_3).bind (fun i_6 => some ((1 : Int32), i_6, r_4))))
set_option maxHeartbeats 4000000 in
theorem c_Lc_back {n u : Nat} {t : MT} {i : MI} {r : MR} (s : Sh n t r)  : Cn 4 173 [.ref 1000] (n, u, t, i, r) (f_Lc_back r i ) (F_i2 n u t) (PS2 n t) := by
  refine cn_of (Y := K_Lc_back) (L0 := [.ref 1000]) rfl rfl rfl ?_
  intro d hd
  unfold f_Lc_back
  refine ge_run (pc' := 1) (L' := [.ref 1000]) (S' := [.ref 1000]) 1 rfl ?_
  refine ge_getI rfl (t1000 s) rfl ?_
  refine ge_ne0 rfl (fun h_1 => ?_) (fun h_2 => ?_)
  · refine ge_run (pc' := 4) (L' := [.ref 1000]) (S' := [.int (0 : Int32)]) 1 rfl ?_
    exact ge_retz rfl rfl (Or.inl rfl) (And.intro rfl s)
  · refine ge_run (pc' := 6) (L' := [.ref 1000]) (S' := [.ref 1000]) 1 rfl ?_
    refine ge_getR (b := 1001) rfl (t1000 s) rfl (r1000_0 s) (Nat.le_of_ble_eq_true rfl) ?_
    refine ge_run (pc' := 8) (L' := [.ref 1000]) (S' := [.ref 1000, .ref 1001]) 1 rfl ?_
    refine ge_getR (b := 1112) rfl (t1000 s) rfl (r1000_3 s) (Nat.le_of_ble_eq_true rfl) ?_
    refine ge_cv rfl rfl rfl (sT0 s sea1001) rfl rfl rfl (D := 3) (Nat.le_trans (by decide) hd) (c_Se_copyFrom (n := n) (u := u) (t := t) (i := i) (r := r) s 1001 sea1001 1112 sea1112) ?_
    rintro ⟨i_3, r_4⟩ s_5
    dsimp only [bkE, F_v2]
    refine ge_run (pc' := 11) (L' := [.ref 1000]) (S' := [.ref 1000]) 1 rfl ?_
    refine ge_getR (b := 1149) rfl (t1000 s_5) rfl (r1000_5 s_5) (Nat.le_of_ble_eq_true rfl) ?_
    refine ge_cv rfl rfl rfl (t1149 s_5) rfl rfl rfl (D := 1) (Nat.le_trans (by decide) hd) (c_Pa_forget (n := n) (u := u) (t := t) (i := i_3) (r := r_4) s_5 ) ?_
    rintro i_6 -
    dsimp only [bkE, F_v1]
    refine ge_run (pc' := 14) (L' := [.ref 1000]) (S' := [.int (1 : Int32)]) 1 rfl ?_
    exact ge_retz rfl rfl (Or.inr rfl) (And.intro rfl s_5)
def f_Lc_count (r : MR) (i : MI) (x1 : Int32) : Option (Int32) :=
  sw x1 0 [(some ((i 1001 7))), (some ((i 1001 8))), (some ((i 1001 9))), (some ((i 1001 10))), (some ((i 1001 11))), (some ((i (r 1001 16) 0))), (some ((i 1001 12))), (some ((i 1001 13))), (some ((i 1001 14))), ((f_Se_moneyOfAll i 1001).bind (fun v_11 => some (v_11))), (some ((i (1001 + 28) 1))), (some ((i 1149 1)))] ((some ((-1 : Int32))))
set_option maxHeartbeats 4000000 in
theorem c_Lc_count {n u : Nat} {t : MT} {i : MI} {r : MR} (s : Sh n t r) (x1 : Int32) : Cn 2 174 [.ref 1000, .int x1] (n, u, t, i, r) (f_Lc_count r i x1) (F_i0 n u t i r) PT := by
  refine cn_of (Y := K_Lc_count) (L0 := [.ref 1000, .int x1]) rfl rfl rfl ?_
  intro d hd
  unfold f_Lc_count
  refine ge_run (pc' := 1) (L' := [.ref 1000, .int x1]) (S' := [.int x1]) 1 rfl ?_
  refine ge_sw rfl rfl (And.intro ?_ (And.intro ?_ (And.intro ?_ (And.intro ?_ (And.intro ?_ (And.intro ?_ (And.intro ?_ (And.intro ?_ (And.intro ?_ (And.intro ?_ (And.intro ?_ (And.intro ?_ trivial)))))))))))) ?_
  · refine ge_run (pc' := 3) (L' := [.ref 1000, .int x1]) (S' := [.ref 1000]) 1 rfl ?_
    refine ge_getR (b := 1001) rfl (t1000 s) rfl (r1000_0 s) (Nat.le_of_ble_eq_true rfl) ?_
    refine ge_getI rfl (sT0 s sea1001) rfl ?_
    exact ge_ret rfl rfl (And.intro rfl trivial)
  · refine ge_run (pc' := 7) (L' := [.ref 1000, .int x1]) (S' := [.ref 1000]) 1 rfl ?_
    refine ge_getR (b := 1001) rfl (t1000 s) rfl (r1000_0 s) (Nat.le_of_ble_eq_true rfl) ?_
    refine ge_getI rfl (sT0 s sea1001) rfl ?_
    exact ge_ret rfl rfl (And.intro rfl trivial)
  · refine ge_run (pc' := 11) (L' := [.ref 1000, .int x1]) (S' := [.ref 1000]) 1 rfl ?_
    refine ge_getR (b := 1001) rfl (t1000 s) rfl (r1000_0 s) (Nat.le_of_ble_eq_true rfl) ?_
    refine ge_getI rfl (sT0 s sea1001) rfl ?_
    exact ge_ret rfl rfl (And.intro rfl trivial)
  · refine ge_run (pc' := 15) (L' := [.ref 1000, .int x1]) (S' := [.ref 1000]) 1 rfl ?_
    refine ge_getR (b := 1001) rfl (t1000 s) rfl (r1000_0 s) (Nat.le_of_ble_eq_true rfl) ?_
    refine ge_getI rfl (sT0 s sea1001) rfl ?_
    exact ge_ret rfl rfl (And.intro rfl trivial)
  · refine ge_run (pc' := 19) (L' := [.ref 1000, .int x1]) (S' := [.ref 1000]) 1 rfl ?_
    refine ge_getR (b := 1001) rfl (t1000 s) rfl (r1000_0 s) (Nat.le_of_ble_eq_true rfl) ?_
    refine ge_getI rfl (sT0 s sea1001) rfl ?_
    exact ge_ret rfl rfl (And.intro rfl trivial)
  · refine ge_run (pc' := 23) (L' := [.ref 1000, .int x1]) (S' := [.ref 1000]) 1 rfl ?_
    refine ge_getR (b := 1001) rfl (t1000 s) rfl (r1000_0 s) (Nat.le_of_ble_eq_true rfl) ?_
    refine ge_getR (b := (r 1001 16)) rfl (sT0 s sea1001) rfl rfl (lge (sLaw s sea1001)) ?_
    refine ge_getI rfl (lT (sLaw s sea1001)) rfl ?_
    exact ge_ret rfl rfl (And.intro rfl trivial)
  · refine ge_run (pc' := 28) (L' := [.ref 1000, .int x1]) (S' := [.ref 1000]) 1 rfl ?_
    refine ge_getR (b := 1001) rfl (t1000 s) rfl (r1000_0 s) (Nat.le_of_ble_eq_true rfl) ?_
    refine ge_getI rfl (sT0 s sea1001) rfl ?_
    exact ge_ret rfl rfl (And.intro rfl trivial)
  · refine ge_run (pc' := 32) (L' := [.ref 1000, .int x1]) (S' := [.ref 1000]) 1 rfl ?_
    refine ge_getR (b := 1001) rfl (t1000 s) rfl (r1000_0 s) (Nat.le_of_ble_eq_true rfl) ?_
    refine ge_getI rfl (sT0 s sea1001) rfl ?_
    exact ge_ret rfl rfl (And.intro rfl trivial)
  · refine ge_run (pc' := 36) (L' := [.ref 1000, .int x1]) (S' := [.ref 1000]) 1 rfl ?_
    refine ge_getR (b := 1001) rfl (t1000 s) rfl (r1000_0 s) (Nat.le_of_ble_eq_true rfl) ?_
    refine ge_getI rfl (sT0 s sea1001) rfl ?_
    exact ge_ret rfl rfl (And.intro rfl trivial)
  · refine ge_run (pc' := 40) (L' := [.ref 1000, .int x1]) (S' := [.ref 1000]) 1 rfl ?_
    refine ge_getR (b := 1001) rfl (t1000 s) rfl (r1000_0 s) (Nat.le_of_ble_eq_true rfl) ?_
    refine ge_cv rfl rfl rfl (sT0 s sea1001) rfl rfl rfl (D := 1) (Nat.le_trans (by decide) hd) (c_Se_moneyOfAll (n := n) (u := u) (t := t) (i := i) (r := r) s 1001 sea1001) ?_
    rintro v_11 -
    dsimp only [bkE, F_i0]
    exact ge_ret rfl rfl (And.intro rfl trivial)
  · refine ge_run (pc' := 44) (L' := [.ref 1000, .int x1]) (S' := [.ref 1000]) 1 rfl ?_
    refine ge_getR (b := 1001) rfl (t1000 s) rfl (r1000_0 s) (Nat.le_of_ble_eq_true rfl) ?_
    refine ge_getR (b := (1001 + 28)) rfl (sT0 s sea1001) rfl (sR5 s sea1001) (sge sea1001) ?_
    refine ge_getI rfl (sT28 s sea1001) rfl ?_
    exact ge_ret rfl rfl (And.intro rfl trivial)
  · refine ge_run (pc' := 49) (L' := [.ref 1000, .int x1]) (S' := [.ref 1000]) 1 rfl ?_
    refine ge_getR (b := 1149) rfl (t1000 s) rfl (r1000_5 s) (Nat.le_of_ble_eq_true rfl) ?_
    refine ge_getI rfl (t1149 s) rfl ?_
    exact ge_ret rfl rfl (And.intro rfl trivial)
  · refine ge_run (pc' := 53) (L' := [.ref 1000, .int x1]) (S' := [.int (-1 : Int32)]) 1 rfl ?_
    exact ge_ret rfl rfl (And.intro rfl trivial)
def f_J_numberOfTrailingZeros (x0 : Int32) : Option (Int32) :=
  if 0 < ((x0 ^^^ (-1 : Int32)) &&& (x0 - (1 : Int32))) then ((if (65536 : Int32) < ((x0 ^^^ (-1 : Int32)) &&& (x0 - (1 : Int32))) then (some ((ushr ((x0 ^^^ (-1 : Int32)) &&& (x0 - (1 : Int32))) (16 : Int32)), ((1 : Int32) + (16 : Int32)))) else (some (((x0 ^^^ (-1 : Int32)) &&& (x0 - (1 : Int32))), (1 : Int32))) : Option (Int32 × Int32)).bind (fun (x0_2, x1_3) => (if (256 : Int32) < x0_2 then (some ((ushr x0_2 (8 : Int32)), (x1_3 + (8 : Int32)))) else (some (x0_2, x1_3)) : Option (Int32 × Int32)).bind (fun (x0_6, x1_7) => (if (16 : Int32) < x0_6 then (some ((ushr x0_6 (4 : Int32)), (x1_7 + (4 : Int32)))) else (some (x0_6, x1_7)) : Option (Int32 × Int32)).bind (fun (x0_10, x1_11) => if (4 : Int32) < x0_10 then (some (((x1_11 + (2 : Int32)) + (ushr (ushr x0_10 (2 : Int32)) (1 : Int32))))) else (some ((x1_11 + (ushr x0_10 (1 : Int32))))))))) else (some ((((x0 ^^^ (-1 : Int32)) &&& (x0 - (1 : Int32))) &&& (32 : Int32))))
set_option maxHeartbeats 4000000 in
theorem c_J_numberOfTrailingZeros {n u : Nat} {t : MT} {i : MI} {r : MR} (s : Sh n t r) (x0 : Int32) : Cn 1 365 [.int x0] (n, u, t, i, r) (f_J_numberOfTrailingZeros  x0) (F_i0 n u t i r) PT := by
  refine cn_of (Y := K_J_numberOfTrailingZeros) (L0 := [.int x0, uV]) rfl rfl rfl ?_
  intro d hd
  unfold f_J_numberOfTrailingZeros
  refine ge_run (pc' := 9) (L' := [.int ((x0 ^^^ (-1 : Int32)) &&& (x0 - (1 : Int32))), uV]) (S' := [.int ((x0 ^^^ (-1 : Int32)) &&& (x0 - (1 : Int32)))]) 9 rfl ?_
  refine ge_gt0 rfl (fun h_1 => ?_) (fun h_16 => ?_)
  · refine ge_run (pc' := 18) (L' := [.int ((x0 ^^^ (-1 : Int32)) &&& (x0 - (1 : Int32))), .int (1 : Int32)]) (S' := [.int (65536 : Int32), .int ((x0 ^^^ (-1 : Int32)) &&& (x0 - (1 : Int32)))]) 4 rfl ?_
    refine ge_bind (K1 := fun (q : Int32 × Int32) e => e = .inl (24, [.int q.1, .int q.2], [], (n, u, t, i, r))) ?_ ?_
    · refine ge_le rfl (fun h_4 => ?_) (fun h_5 => ?_)
      · refine ge_run (pc' := 24) (L' := [.int (ushr ((x0 ^^^ (-1 : Int32)) &&& (x0 - (1 : Int32))) (16 : Int32)), .int ((1 : Int32) + (16 : Int32))]) (S' := []) 5 rfl ?_
        exact ge_leaf rfl
      · exact ge_leaf rfl
    · rintro ⟨x0_2, x1_3⟩ _ rfl
      try dsimp only
      refine ge_run (pc' := 26) (L' := [.int x0_2, .int x1_3]) (S' := [.int (256 : Int32), .int x0_2]) 2 rfl ?_
      refine ge_bind (K1 := fun (q : Int32 × Int32) e => e = .inl (32, [.int q.1, .int q.2], [], (n, u, t, i, r))) ?_ ?_
      · refine ge_le rfl (fun h_8 => ?_) (fun h_9 => ?_)
        · refine ge_run (pc' := 32) (L' := [.int (ushr x0_2 (8 : Int32)), .int (x1_3 + (8 : Int32))]) (S' := []) 5 rfl ?_
          exact ge_leaf rfl
        · exact ge_leaf rfl
      · rintro ⟨x0_6, x1_7⟩ _ rfl
        try dsimp only
        refine ge_run (pc' := 34) (L' := [.int x0_6, .int x1_7]) (S' := [.int (16 : Int32), .int x0_6]) 2 rfl ?_
        refine ge_bind (K1 := fun (q : Int32 × Int32) e => e = .inl (40, [.int q.1, .int q.2], [], (n, u, t, i, r))) ?_ ?_
        · refine ge_le rfl (fun h_12 => ?_) (fun h_13 => ?_)
          · refine ge_run (pc' := 40) (L' := [.int (ushr x0_6 (4 : Int32)), .int (x1_7 + (4 : Int32))]) (S' := []) 5 rfl ?_
            exact ge_leaf rfl
          · exact ge_leaf rfl
        · rintro ⟨x0_10, x1_11⟩ _ rfl
          try dsimp only
          refine ge_run (pc' := 42) (L' := [.int x0_10, .int x1_11]) (S' := [.int (4 : Int32), .int x0_10]) 2 rfl ?_
          refine ge_le rfl (fun h_14 => ?_) (fun h_15 => ?_)
          · refine ge_run (pc' := 53) (L' := [.int (ushr x0_10 (2 : Int32)), .int (x1_11 + (2 : Int32))]) (S' := [.int ((x1_11 + (2 : Int32)) + (ushr (ushr x0_10 (2 : Int32)) (1 : Int32)))]) 10 rfl ?_
            exact ge_ret rfl rfl (And.intro rfl trivial)
          · refine ge_run (pc' := 53) (L' := [.int x0_10, .int x1_11]) (S' := [.int (x1_11 + (ushr x0_10 (1 : Int32)))]) 5 rfl ?_
            exact ge_ret rfl rfl (And.intro rfl trivial)
  · refine ge_run (pc' := 13) (L' := [.int ((x0 ^^^ (-1 : Int32)) &&& (x0 - (1 : Int32))), uV]) (S' := [.int (((x0 ^^^ (-1 : Int32)) &&& (x0 - (1 : Int32))) &&& (32 : Int32))]) 3 rfl ?_
    exact ge_ret rfl rfl (And.intro rfl trivial)
def f_Mo_thrown (i : MI) : Option (Int32) :=
  some ((i 1638 0))
set_option maxHeartbeats 4000000 in
theorem c_Mo_thrown {n u : Nat} {t : MT} {i : MI} {r : MR} (s : Sh n t r)  : Cn 1 191 [.ref 1638] (n, u, t, i, r) (f_Mo_thrown i ) (F_i0 n u t i r) PT := by
  refine cn_of (Y := K_Mo_thrown) (L0 := [.ref 1638]) rfl rfl rfl ?_
  intro d hd
  unfold f_Mo_thrown
  refine ge_run (pc' := 1) (L' := [.ref 1638]) (S' := [.ref 1638]) 1 rfl ?_
  refine ge_getI rfl (t1638 s) rfl ?_
  exact ge_ret rfl rfl (And.intro rfl trivial)
def f_Mo_throwsIf (i : MI) (x1 : Int32) (x2 : Int32) : Option (Int32 × MI) :=
  if x1 = 0 then (grd2 (decide (x1 = 0 ∨ x1 = 1)) (some (x1, i))) else (bnd (wr i 1638 0 x2) (fun i_3 => grd2 (decide (x1 = 0 ∨ x1 = 1)) (some (x1, i_3))))
set_option maxHeartbeats 4000000 in
theorem c_Mo_throwsIf {n u : Nat} {t : MT} {i : MI} {r : MR} (s : Sh n t r) (x1 : Int32) (x2 : Int32) : Cn 1 192 [.ref 1638, .int x1, .int x2] (n, u, t, i, r) (f_Mo_throwsIf i x1 x2) (F_i1 n u t r) PT := by
  refine cn_of (Y := K_Mo_throwsIf) (L0 := [.ref 1638, .int x1, .int x2]) rfl rfl rfl ?_
  intro d hd
  unfold f_Mo_throwsIf
  refine ge_run (pc' := 1) (L' := [.ref 1638, .int x1, .int x2]) (S' := [.int x1]) 1 rfl ?_
  refine ge_eq0 rfl (fun h_1 => ?_) (fun h_2 => ?_)
  · refine ge_run (pc' := 6) (L' := [.ref 1638, .int x1, .int x2]) (S' := [.int x1]) 1 rfl ?_
    exact ge_retZ rfl rfl (And.intro rfl trivial)
  · refine ge_run (pc' := 4) (L' := [.ref 1638, .int x1, .int x2]) (S' := [.int x2, .ref 1638]) 2 rfl ?_
    refine ge_putI rfl (t1638 s) (Nat.le_of_ble_eq_true rfl) rfl (fun i_3 => ?_)
    refine ge_run (pc' := 6) (L' := [.ref 1638, .int x1, .int x2]) (S' := [.int x1]) 1 rfl ?_
    exact ge_retZ rfl rfl (And.intro rfl trivial)
def f_Mo_in (x0 : Int32) (x1 : Int32) (x2 : Int32) : Option (Int32) :=
  if x0 < x1 then (some ((0 : Int32))) else (if x2 < x0 then (some ((0 : Int32))) else (some ((1 : Int32))))
set_option maxHeartbeats 4000000 in
theorem c_Mo_in {n u : Nat} {t : MT} {i : MI} {r : MR} (s : Sh n t r) (x0 : Int32) (x1 : Int32) (x2 : Int32) : Cn 1 193 [.int x0, .int x1, .int x2] (n, u, t, i, r) (f_Mo_in  x0 x1 x2) (F_i0 n u t i r) PT := by
  refine cn_of (Y := K_Mo_in) (L0 := [.int x0, .int x1, .int x2]) rfl rfl rfl ?_
  intro d hd
  unfold f_Mo_in
  refine ge_run (pc' := 2) (L' := [.int x0, .int x1, .int x2]) (S' := [.int x1, .int x0]) 2 rfl ?_
  refine ge_lt rfl (fun h_1 => ?_) (fun h_2 => ?_)
  · refine ge_run (pc' := 9) (L' := [.int x0, .int x1, .int x2]) (S' := [.int (0 : Int32)]) 1 rfl ?_
    exact ge_retz rfl rfl (Or.inl rfl) (And.intro rfl trivial)
  · refine ge_run (pc' := 5) (L' := [.int x0, .int x1, .int x2]) (S' := [.int x2, .int x0]) 2 rfl ?_
    refine ge_gt rfl (fun h_3 => ?_) (fun h_4 => ?_)
    · refine ge_run (pc' := 9) (L' := [.int x0, .int x1, .int x2]) (S' := [.int (0 : Int32)]) 1 rfl ?_
      exact ge_retz rfl rfl (Or.inl rfl) (And.intro rfl trivial)
    · refine ge_run (pc' := 9) (L' := [.int x0, .int x1, .int x2]) (S' := [.int (1 : Int32)]) 2 rfl ?_
      exact ge_retz rfl rfl (Or.inr rfl) (And.intro rfl trivial)
def f_Mo_has (x0 : Int32) (x1 : Int32) : Option (Int32) :=
  if ((shr x0 x1) &&& (1 : Int32)) = (1 : Int32) then (some ((1 : Int32))) else (some ((0 : Int32)))
set_option maxHeartbeats 4000000 in
theorem c_Mo_has {n u : Nat} {t : MT} {i : MI} {r : MR} (s : Sh n t r) (x0 : Int32) (x1 : Int32) : Cn 1 194 [.int x0, .int x1] (n, u, t, i, r) (f_Mo_has  x0 x1) (F_i0 n u t i r) PT := by
  refine cn_of (Y := K_Mo_has) (L0 := [.int x0, .int x1]) rfl rfl rfl ?_
  intro d hd
  unfold f_Mo_has
  refine ge_run (pc' := 6) (L' := [.int x0, .int x1]) (S' := [.int (1 : Int32), .int ((shr x0 x1) &&& (1 : Int32))]) 6 rfl ?_
  refine ge_ne rfl (fun h_1 => ?_) (fun h_2 => ?_)
  · refine ge_run (pc' := 10) (L' := [.int x0, .int x1]) (S' := [.int (1 : Int32)]) 2 rfl ?_
    exact ge_retz rfl rfl (Or.inr rfl) (And.intro rfl trivial)
  · refine ge_run (pc' := 10) (L' := [.int x0, .int x1]) (S' := [.int (0 : Int32)]) 1 rfl ?_
    exact ge_retz rfl rfl (Or.inl rfl) (And.intro rfl trivial)
def f_Mo_image (i : MI) : Option (MI) :=
  bnd (wr i 1638 0 (0 : Int32)) (fun i_1 => (itr (σ := Int32 × MI) (ρ := MI) (fun (x1_2, i_3) => if x1_2 < (1266 : Int32) then (grd x1_2 2115 (grd x1_2 1266 (bnd (wr i_3 1640 (ix x1_2) (i_3 1639 (ix x1_2))) (fun i_11 => some (.inl ((x1_2 + (1 : Int32)), i_11)))))) else (some (.inr i_3))) 1000000 ((0 : Int32), i_1)).bind (fun i_4 => bnd (wr i_4 1638 6 (1 : Int32)) (fun i_13 => some i_13)))
set_option maxHeartbeats 4000000 in
theorem c_Mo_image {n u : Nat} {t : MT} {i : MI} {r : MR} (s : Sh n t r)  : Cn 1 196 [.ref 1638] (n, u, t, i, r) (f_Mo_image i ) (F_v1 n u t r) PT := by
  refine cn_of (Y := K_Mo_image) (L0 := [.ref 1638, uV]) rfl rfl rfl ?_
  intro d hd
  unfold f_Mo_image
  refine ge_run (pc' := 2) (L' := [.ref 1638, uV]) (S' := [.int (0 : Int32), .ref 1638]) 2 rfl ?_
  refine ge_putI rfl (t1638 s) (Nat.le_of_ble_eq_true rfl) rfl (fun i_1 => ?_)
  refine ge_run (pc' := 5) (L' := [.ref 1638, .int (0 : Int32)]) (S' := []) 2 rfl ?_
  refine ge_bind (K1 := fun (q : MI) e => ∃ w_5 : Value, e = .inl (18, [.ref 1638, w_5], [], (n, u, t, q, r))) (ge_itr (C := fun (q : Int32 × MI) e => e = .inl (5, [.ref 1638, .int q.1], [], (n, u, t, q.2, r))) ?_ _ _ _ rfl) ?_
  · rintro ⟨x1_2, i_3⟩ _ rfl
    try dsimp only
    refine ge_run (pc' := 7) (L' := [.ref 1638, .int x1_2]) (S' := [.int (1266 : Int32), .int x1_2]) 2 rfl ?_
    refine ge_ge rfl (fun h_6 => ?_) (fun h_12 => ?_)
    · refine ge_run (pc' := 9) (L' := [.ref 1638, .int x1_2]) (S' := [.ref 1638]) 1 rfl ?_
      refine ge_getR (b := 1640) rfl (t1638 s) rfl (r1638_2 s) (Nat.le_of_ble_eq_true rfl) ?_
      refine ge_run (pc' := 12) (L' := [.ref 1638, .int x1_2]) (S' := [.ref 1638, .int x1_2, .ref 1640]) 2 rfl ?_
      refine ge_getR (b := 1639) rfl (t1638 s) rfl (r1638_1 s) (Nat.le_of_ble_eq_true rfl) ?_
      refine ge_run (pc' := 14) (L' := [.ref 1638, .int x1_2]) (S' := [.int x1_2, .ref 1639, .int x1_2, .ref 1640]) 1 rfl ?_
      refine ge_grd (fun g_7 g_8 => ?_)
      refine ge_iald (jn := (ix x1_2)) rfl (t1639 s) ⟨g_7, rfl⟩ g_8 ?_
      refine ge_grd (fun g_9 g_10 => ?_)
      refine ge_iast (jn := (ix x1_2)) rfl (t1640 s) (Nat.le_of_ble_eq_true rfl) ⟨g_9, rfl⟩ g_10 (fun i_11 => ?_)
      refine ge_run (pc' := 5) (L' := [.ref 1638, .int (x1_2 + (1 : Int32))]) (S' := []) 2 rfl ?_
      exact ge_leaf (K := kX _ _) rfl
    · exact ge_leaf (K := kX _ _) (Exists.intro _ rfl)
  · rintro i_4 _ ⟨w_5, rfl⟩
    try dsimp only
    refine ge_run (pc' := 20) (L' := [.ref 1638, w_5]) (S' := [.int (1 : Int32), .ref 1638]) 2 rfl ?_
    refine ge_putZ rfl (t1638 s) (Nat.le_of_ble_eq_true rfl) rfl (Or.inr rfl) (fun i_13 => ?_)
    exact ge_retv rfl rfl (And.intro rfl trivial)
def f_Mo_back (i : MI) : Option (Int32 × MI) :=
  bnd (wr i 1638 0 (0 : Int32)) (fun i_1 => if (i_1 1638 6) = 0 then (some ((0 : Int32), i_1)) else ((itr (σ := Int32 × MI) (ρ := MI) (fun (x1_4, i_5) => if x1_4 < (1266 : Int32) then (grd x1_4 1266 (grd x1_4 2115 (bnd (wr i_5 1639 (ix x1_4) (i_5 1640 (ix x1_4))) (fun i_13 => some (.inl ((x1_4 + (1 : Int32)), i_13)))))) else (some (.inr i_5))) 1000000 ((0 : Int32), i_1)).bind (fun i_6 => bnd (wr i_6 1638 7 (0 : Int32)) (fun i_15 => some ((1 : Int32), i_15)))))
set_option maxHeartbeats 4000000 in
theorem c_Mo_back {n u : Nat} {t : MT} {i : MI} {r : MR} (s : Sh n t r)  : Cn 1 197 [.ref 1638] (n, u, t, i, r) (f_Mo_back i ) (F_i1 n u t r) PT := by
  refine cn_of (Y := K_Mo_back) (L0 := [.ref 1638, uV]) rfl rfl rfl ?_
  intro d hd
  unfold f_Mo_back
  refine ge_run (pc' := 2) (L' := [.ref 1638, uV]) (S' := [.int (0 : Int32), .ref 1638]) 2 rfl ?_
  refine ge_putI rfl (t1638 s) (Nat.le_of_ble_eq_true rfl) rfl (fun i_1 => ?_)
  refine ge_run (pc' := 4) (L' := [.ref 1638, uV]) (S' := [.ref 1638]) 1 rfl ?_
  refine ge_getI rfl (t1638 s) rfl ?_
  refine ge_ne0 rfl (fun h_2 => ?_) (fun h_3 => ?_)
  · refine ge_run (pc' := 7) (L' := [.ref 1638, uV]) (S' := [.int (0 : Int32)]) 1 rfl ?_
    exact ge_retz rfl rfl (Or.inl rfl) (And.intro rfl trivial)
  · refine ge_run (pc' := 10) (L' := [.ref 1638, .int (0 : Int32)]) (S' := []) 2 rfl ?_
    refine ge_bind (K1 := fun (q : MI) e => ∃ w_7 : Value, e = .inl (23, [.ref 1638, w_7], [], (n, u, t, q, r))) (ge_itr (C := fun (q : Int32 × MI) e => e = .inl (10, [.ref 1638, .int q.1], [], (n, u, t, q.2, r))) ?_ _ _ _ rfl) ?_
    · rintro ⟨x1_4, i_5⟩ _ rfl
      try dsimp only
      refine ge_run (pc' := 12) (L' := [.ref 1638, .int x1_4]) (S' := [.int (1266 : Int32), .int x1_4]) 2 rfl ?_
      refine ge_ge rfl (fun h_8 => ?_) (fun h_14 => ?_)
      · refine ge_run (pc' := 14) (L' := [.ref 1638, .int x1_4]) (S' := [.ref 1638]) 1 rfl ?_
        refine ge_getR (b := 1639) rfl (t1638 s) rfl (r1638_1 s) (Nat.le_of_ble_eq_true rfl) ?_
        refine ge_run (pc' := 17) (L' := [.ref 1638, .int x1_4]) (S' := [.ref 1638, .int x1_4, .ref 1639]) 2 rfl ?_
        refine ge_getR (b := 1640) rfl (t1638 s) rfl (r1638_2 s) (Nat.le_of_ble_eq_true rfl) ?_
        refine ge_run (pc' := 19) (L' := [.ref 1638, .int x1_4]) (S' := [.int x1_4, .ref 1640, .int x1_4, .ref 1639]) 1 rfl ?_
        refine ge_grd (fun g_9 g_10 => ?_)
        refine ge_iald (jn := (ix x1_4)) rfl (t1640 s) ⟨g_9, rfl⟩ g_10 ?_
        refine ge_grd (fun g_11 g_12 => ?_)
        refine ge_iast (jn := (ix x1_4)) rfl (t1639 s) (Nat.le_of_ble_eq_true rfl) ⟨g_11, rfl⟩ g_12 (fun i_13 => ?_)
        refine ge_run (pc' := 10) (L' := [.ref 1638, .int (x1_4 + (1 : Int32))]) (S' := []) 2 rfl ?_
        exact ge_leaf (K := kX _ _) rfl
      · exact ge_leaf (K := kX _ _) (Exists.intro _ rfl)
    · rintro i_6 _ ⟨w_7, rfl⟩
      try dsimp only
      refine ge_run (pc' := 25) (L' := [.ref 1638, w_7]) (S' := [.int (0 : Int32), .ref 1638]) 2 rfl ?_
      refine ge_putI rfl (t1638 s) (Nat.le_of_ble_eq_true rfl) rfl (fun i_15 => ?_)
      refine ge_run (pc' := 27) (L' := [.ref 1638, w_7]) (S' := [.int (1 : Int32)]) 1 rfl ?_
      exact ge_retz rfl rfl (Or.inr rfl) (And.intro rfl trivial)
def f_Mo_remembers (i : MI) : Option (MI) :=
  (if (i 1638 7) = (12 : Int32) then ((itr (σ := Int32 × MI) (ρ := MI) (fun (x1_4, i_5) => if x1_4 < (4587 : Int32) then (grd (x1_4 + (417 : Int32)) 5004 (grd x1_4 5004 (bnd (wr i_5 1643 (ix x1_4) (i_5 1643 (ix (x1_4 + (417 : Int32))))) (fun i_13 => some (.inl ((x1_4 + (1 : Int32)), i_13)))))) else (some (.inr i_5))) 1000000 ((0 : Int32), i)).bind (fun i_6 => some i_6)) else (bnd (wr i 1638 7 ((i 1638 7) + (1 : Int32))) (fun i_16 => some i_16)) : Option (MI)).bind (fun i_1 => (itr (σ := Int32 × MI) (ρ := MI) (fun (x1_17, i_18) => if x1_17 < (417 : Int32) then (grd x1_17 2115 (grd (((417 : Int32) * ((i_18 1638 7) - (1 : Int32))) + x1_17) 5004 (bnd (wr i_18 1643 (ix (((417 : Int32) * ((i_18 1638 7) - (1 : Int32))) + x1_17)) (i_18 1639 (ix x1_17))) (fun i_26 => some (.inl ((x1_17 + (1 : Int32)), i_26)))))) else (some (.inr i_18))) 1000000 ((0 : Int32), i_1)).bind (fun i_19 => some i_19))
set_option maxHeartbeats 4000000 in
theorem c_Mo_remembers {n u : Nat} {t : MT} {i : MI} {r : MR} (s : Sh n t r)  : Cn 1 198 [.ref 1638] (n, u, t, i, r) (f_Mo_remembers i ) (F_v1 n u t r) PT := by
  refine cn_of (Y := K_Mo_remembers) (L0 := [.ref 1638, uV]) rfl rfl rfl ?_
  intro d hd
  unfold f_Mo_remembers
  refine ge_run (pc' := 1) (L' := [.ref 1638, uV]) (S' := [.ref 1638]) 1 rfl ?_
  refine ge_getI rfl (t1638 s) rfl ?_
  refine ge_run (pc' := 3) (L' := [.ref 1638, uV]) (S' := [.int (12 : Int32), .int (i 1638 7)]) 1 rfl ?_
  refine ge_bind (K1 := fun (q : MI) e => ∃ w_2 : Value, e = .inl (28, [.ref 1638, w_2], [], (n, u, t, q, r))) ?_ ?_
  · refine ge_ne rfl (fun h_3 => ?_) (fun h_15 => ?_)
    · refine ge_run (pc' := 6) (L' := [.ref 1638, .int (0 : Int32)]) (S' := []) 2 rfl ?_
      refine ge_bind (K1 := fun (q : MI) e => ∃ w_7 : Value, e = .inl (21, [.ref 1638, w_7], [], (n, u, t, q, r))) (ge_itr (C := fun (q : Int32 × MI) e => e = .inl (6, [.ref 1638, .int q.1], [], (n, u, t, q.2, r))) ?_ _ _ _ rfl) ?_
      · rintro ⟨x1_4, i_5⟩ _ rfl
        try dsimp only
        refine ge_run (pc' := 8) (L' := [.ref 1638, .int x1_4]) (S' := [.int (4587 : Int32), .int x1_4]) 2 rfl ?_
        refine ge_ge rfl (fun h_8 => ?_) (fun h_14 => ?_)
        · refine ge_run (pc' := 10) (L' := [.ref 1638, .int x1_4]) (S' := [.ref 1638]) 1 rfl ?_
          refine ge_getR (b := 1643) rfl (t1638 s) rfl (r1638_5 s) (Nat.le_of_ble_eq_true rfl) ?_
          refine ge_run (pc' := 13) (L' := [.ref 1638, .int x1_4]) (S' := [.ref 1638, .int x1_4, .ref 1643]) 2 rfl ?_
          refine ge_getR (b := 1643) rfl (t1638 s) rfl (r1638_5 s) (Nat.le_of_ble_eq_true rfl) ?_
          refine ge_run (pc' := 17) (L' := [.ref 1638, .int x1_4]) (S' := [.int (x1_4 + (417 : Int32)), .ref 1643, .int x1_4, .ref 1643]) 3 rfl ?_
          refine ge_grd (fun g_9 g_10 => ?_)
          refine ge_iald (jn := (ix (x1_4 + (417 : Int32)))) rfl (t1643 s) ⟨g_9, rfl⟩ g_10 ?_
          refine ge_grd (fun g_11 g_12 => ?_)
          refine ge_iast (jn := (ix x1_4)) rfl (t1643 s) (Nat.le_of_ble_eq_true rfl) ⟨g_11, rfl⟩ g_12 (fun i_13 => ?_)
          refine ge_run (pc' := 6) (L' := [.ref 1638, .int (x1_4 + (1 : Int32))]) (S' := []) 2 rfl ?_
          exact ge_leaf (K := kX _ _) rfl
        · exact ge_leaf (K := kX _ _) (Exists.intro _ rfl)
      · rintro i_6 _ ⟨w_7, rfl⟩
        try dsimp only
        refine ge_run (pc' := 28) (L' := [.ref 1638, w_7]) (S' := []) 1 rfl ?_
        exact ge_leaf (Exists.intro _ rfl)
    · refine ge_run (pc' := 24) (L' := [.ref 1638, uV]) (S' := [.ref 1638, .ref 1638]) 2 rfl ?_
      refine ge_getI rfl (t1638 s) rfl ?_
      refine ge_run (pc' := 27) (L' := [.ref 1638, uV]) (S' := [.int ((i 1638 7) + (1 : Int32)), .ref 1638]) 2 rfl ?_
      refine ge_putI rfl (t1638 s) (Nat.le_of_ble_eq_true rfl) rfl (fun i_16 => ?_)
      exact ge_leaf (Exists.intro _ rfl)
  · rintro i_1 _ ⟨w_2, rfl⟩
    try dsimp only
    refine ge_run (pc' := 30) (L' := [.ref 1638, .int (0 : Int32)]) (S' := []) 2 rfl ?_
    refine ge_bind (K1 := fun (q : MI) e => ∃ w_20 : Value, e = .inl (50, [.ref 1638, w_20], [], (n, u, t, q, r))) (ge_itr (C := fun (q : Int32 × MI) e => e = .inl (30, [.ref 1638, .int q.1], [], (n, u, t, q.2, r))) ?_ _ _ _ rfl) ?_
    · rintro ⟨x1_17, i_18⟩ _ rfl
      try dsimp only
      refine ge_run (pc' := 32) (L' := [.ref 1638, .int x1_17]) (S' := [.int (417 : Int32), .int x1_17]) 2 rfl ?_
      refine ge_ge rfl (fun h_21 => ?_) (fun h_27 => ?_)
      · refine ge_run (pc' := 34) (L' := [.ref 1638, .int x1_17]) (S' := [.ref 1638]) 1 rfl ?_
        refine ge_getR (b := 1643) rfl (t1638 s) rfl (r1638_5 s) (Nat.le_of_ble_eq_true rfl) ?_
        refine ge_run (pc' := 37) (L' := [.ref 1638, .int x1_17]) (S' := [.ref 1638, .int (417 : Int32), .ref 1643]) 2 rfl ?_
        refine ge_getI rfl (t1638 s) rfl ?_
        refine ge_run (pc' := 44) (L' := [.ref 1638, .int x1_17]) (S' := [.ref 1638, .int (((417 : Int32) * ((i_18 1638 7) - (1 : Int32))) + x1_17), .ref 1643]) 6 rfl ?_
        refine ge_getR (b := 1639) rfl (t1638 s) rfl (r1638_1 s) (Nat.le_of_ble_eq_true rfl) ?_
        refine ge_run (pc' := 46) (L' := [.ref 1638, .int x1_17]) (S' := [.int x1_17, .ref 1639, .int (((417 : Int32) * ((i_18 1638 7) - (1 : Int32))) + x1_17), .ref 1643]) 1 rfl ?_
        refine ge_grd (fun g_22 g_23 => ?_)
        refine ge_iald (jn := (ix x1_17)) rfl (t1639 s) ⟨g_22, rfl⟩ g_23 ?_
        refine ge_grd (fun g_24 g_25 => ?_)
        refine ge_iast (jn := (ix (((417 : Int32) * ((i_18 1638 7) - (1 : Int32))) + x1_17))) rfl (t1643 s) (Nat.le_of_ble_eq_true rfl) ⟨g_24, rfl⟩ g_25 (fun i_26 => ?_)
        refine ge_run (pc' := 30) (L' := [.ref 1638, .int (x1_17 + (1 : Int32))]) (S' := []) 2 rfl ?_
        exact ge_leaf (K := kX _ _) rfl
      · exact ge_leaf (K := kX _ _) (Exists.intro _ rfl)
    · rintro i_19 _ ⟨w_20, rfl⟩
      try dsimp only
      exact ge_retv rfl rfl (And.intro rfl trivial)
def f_Mo_undo (i : MI) : Option (Int32 × MI) :=
  bnd (wr i 1638 0 (0 : Int32)) (fun i_1 => if (i_1 1638 7) = 0 then (some ((0 : Int32), i_1)) else (bnd (wr i_1 1638 7 ((i_1 1638 7) - (1 : Int32))) (fun i_4 => (itr (σ := Int32 × MI) (ρ := MI) (fun (x1_5, i_6) => if x1_5 < (417 : Int32) then (grd (((417 : Int32) * (i_6 1638 7)) + x1_5) 5004 (grd x1_5 2115 (bnd (wr i_6 1639 (ix x1_5) (i_6 1643 (ix (((417 : Int32) * (i_6 1638 7)) + x1_5)))) (fun i_14 => some (.inl ((x1_5 + (1 : Int32)), i_14)))))) else (some (.inr i_6))) 1000000 ((0 : Int32), i_4)).bind (fun i_7 => some ((1 : Int32), i_7)))))
set_option maxHeartbeats 4000000 in
theorem c_Mo_undo {n u : Nat} {t : MT} {i : MI} {r : MR} (s : Sh n t r)  : Cn 1 199 [.ref 1638] (n, u, t, i, r) (f_Mo_undo i ) (F_i1 n u t r) PT := by
  refine cn_of (Y := K_Mo_undo) (L0 := [.ref 1638, uV]) rfl rfl rfl ?_
  intro d hd
  unfold f_Mo_undo
  refine ge_run (pc' := 2) (L' := [.ref 1638, uV]) (S' := [.int (0 : Int32), .ref 1638]) 2 rfl ?_
  refine ge_putI rfl (t1638 s) (Nat.le_of_ble_eq_true rfl) rfl (fun i_1 => ?_)
  refine ge_run (pc' := 4) (L' := [.ref 1638, uV]) (S' := [.ref 1638]) 1 rfl ?_
  refine ge_getI rfl (t1638 s) rfl ?_
  refine ge_ne0 rfl (fun h_2 => ?_) (fun h_3 => ?_)
  · refine ge_run (pc' := 7) (L' := [.ref 1638, uV]) (S' := [.int (0 : Int32)]) 1 rfl ?_
    exact ge_retz rfl rfl (Or.inl rfl) (And.intro rfl trivial)
  · refine ge_run (pc' := 10) (L' := [.ref 1638, uV]) (S' := [.ref 1638, .ref 1638]) 2 rfl ?_
    refine ge_getI rfl (t1638 s) rfl ?_
    refine ge_run (pc' := 13) (L' := [.ref 1638, uV]) (S' := [.int ((i_1 1638 7) - (1 : Int32)), .ref 1638]) 2 rfl ?_
    refine ge_putI rfl (t1638 s) (Nat.le_of_ble_eq_true rfl) rfl (fun i_4 => ?_)
    refine ge_run (pc' := 16) (L' := [.ref 1638, .int (0 : Int32)]) (S' := []) 2 rfl ?_
    refine ge_bind (K1 := fun (q : MI) e => ∃ w_8 : Value, e = .inl (34, [.ref 1638, w_8], [], (n, u, t, q, r))) (ge_itr (C := fun (q : Int32 × MI) e => e = .inl (16, [.ref 1638, .int q.1], [], (n, u, t, q.2, r))) ?_ _ _ _ rfl) ?_
    · rintro ⟨x1_5, i_6⟩ _ rfl
      try dsimp only
      refine ge_run (pc' := 18) (L' := [.ref 1638, .int x1_5]) (S' := [.int (417 : Int32), .int x1_5]) 2 rfl ?_
      refine ge_ge rfl (fun h_9 => ?_) (fun h_15 => ?_)
      · refine ge_run (pc' := 20) (L' := [.ref 1638, .int x1_5]) (S' := [.ref 1638]) 1 rfl ?_
        refine ge_getR (b := 1639) rfl (t1638 s) rfl (r1638_1 s) (Nat.le_of_ble_eq_true rfl) ?_
        refine ge_run (pc' := 23) (L' := [.ref 1638, .int x1_5]) (S' := [.ref 1638, .int x1_5, .ref 1639]) 2 rfl ?_
        refine ge_getR (b := 1643) rfl (t1638 s) rfl (r1638_5 s) (Nat.le_of_ble_eq_true rfl) ?_
        refine ge_run (pc' := 26) (L' := [.ref 1638, .int x1_5]) (S' := [.ref 1638, .int (417 : Int32), .ref 1643, .int x1_5, .ref 1639]) 2 rfl ?_
        refine ge_getI rfl (t1638 s) rfl ?_
        refine ge_run (pc' := 30) (L' := [.ref 1638, .int x1_5]) (S' := [.int (((417 : Int32) * (i_6 1638 7)) + x1_5), .ref 1643, .int x1_5, .ref 1639]) 3 rfl ?_
        refine ge_grd (fun g_10 g_11 => ?_)
        refine ge_iald (jn := (ix (((417 : Int32) * (i_6 1638 7)) + x1_5))) rfl (t1643 s) ⟨g_10, rfl⟩ g_11 ?_
        refine ge_grd (fun g_12 g_13 => ?_)
        refine ge_iast (jn := (ix x1_5)) rfl (t1639 s) (Nat.le_of_ble_eq_true rfl) ⟨g_12, rfl⟩ g_13 (fun i_14 => ?_)
        refine ge_run (pc' := 16) (L' := [.ref 1638, .int (x1_5 + (1 : Int32))]) (S' := []) 2 rfl ?_
        exact ge_leaf (K := kX _ _) rfl
      · exact ge_leaf (K := kX _ _) (Exists.intro _ rfl)
    · rintro i_7 _ ⟨w_8, rfl⟩
      try dsimp only
      refine ge_run (pc' := 35) (L' := [.ref 1638, w_8]) (S' := [.int (1 : Int32)]) 1 rfl ?_
      exact ge_retz rfl rfl (Or.inr rfl) (And.intro rfl trivial)
def f_Mo_keepsAll (i : MI) : Option (MI) :=
  (itr (σ := Int32 × MI) (ρ := MI) (fun (x1_1, i_2) => if x1_1 < (417 : Int32) then (grd x1_1 2115 (grd x1_1 417 (bnd (wr i_2 1642 (ix x1_1) (i_2 1639 (ix x1_1))) (fun i_10 => some (.inl ((x1_1 + (1 : Int32)), i_10)))))) else (some (.inr i_2))) 1000000 ((0 : Int32), i)).bind (fun i_3 => some i_3)
set_option maxHeartbeats 4000000 in
theorem c_Mo_keepsAll {n u : Nat} {t : MT} {i : MI} {r : MR} (s : Sh n t r)  : Cn 1 200 [.ref 1638] (n, u, t, i, r) (f_Mo_keepsAll i ) (F_v1 n u t r) PT := by
  refine cn_of (Y := K_Mo_keepsAll) (L0 := [.ref 1638, uV]) rfl rfl rfl ?_
  intro d hd
  unfold f_Mo_keepsAll
  refine ge_run (pc' := 2) (L' := [.ref 1638, .int (0 : Int32)]) (S' := []) 2 rfl ?_
  refine ge_bind (K1 := fun (q : MI) e => ∃ w_4 : Value, e = .inl (15, [.ref 1638, w_4], [], (n, u, t, q, r))) (ge_itr (C := fun (q : Int32 × MI) e => e = .inl (2, [.ref 1638, .int q.1], [], (n, u, t, q.2, r))) ?_ _ _ _ rfl) ?_
  · rintro ⟨x1_1, i_2⟩ _ rfl
    try dsimp only
    refine ge_run (pc' := 4) (L' := [.ref 1638, .int x1_1]) (S' := [.int (417 : Int32), .int x1_1]) 2 rfl ?_
    refine ge_ge rfl (fun h_5 => ?_) (fun h_11 => ?_)
    · refine ge_run (pc' := 6) (L' := [.ref 1638, .int x1_1]) (S' := [.ref 1638]) 1 rfl ?_
      refine ge_getR (b := 1642) rfl (t1638 s) rfl (r1638_4 s) (Nat.le_of_ble_eq_true rfl) ?_
      refine ge_run (pc' := 9) (L' := [.ref 1638, .int x1_1]) (S' := [.ref 1638, .int x1_1, .ref 1642]) 2 rfl ?_
      refine ge_getR (b := 1639) rfl (t1638 s) rfl (r1638_1 s) (Nat.le_of_ble_eq_true rfl) ?_
      refine ge_run (pc' := 11) (L' := [.ref 1638, .int x1_1]) (S' := [.int x1_1, .ref 1639, .int x1_1, .ref 1642]) 1 rfl ?_
      refine ge_grd (fun g_6 g_7 => ?_)
      refine ge_iald (jn := (ix x1_1)) rfl (t1639 s) ⟨g_6, rfl⟩ g_7 ?_
      refine ge_grd (fun g_8 g_9 => ?_)
      refine ge_iast (jn := (ix x1_1)) rfl (t1642 s) (Nat.le_of_ble_eq_true rfl) ⟨g_8, rfl⟩ g_9 (fun i_10 => ?_)
      refine ge_run (pc' := 2) (L' := [.ref 1638, .int (x1_1 + (1 : Int32))]) (S' := []) 2 rfl ?_
      exact ge_leaf (K := kX _ _) rfl
    · exact ge_leaf (K := kX _ _) (Exists.intro _ rfl)
  · rintro i_3 _ ⟨w_4, rfl⟩
    try dsimp only
    exact ge_retv rfl rfl (And.intro rfl trivial)
def f_Mo_bringsBack (i : MI) : Option (MI) :=
  (itr (σ := Int32 × MI) (ρ := MI) (fun (x1_1, i_2) => if x1_1 < (417 : Int32) then (grd x1_1 417 (grd x1_1 2115 (bnd (wr i_2 1639 (ix x1_1) (i_2 1642 (ix x1_1))) (fun i_10 => some (.inl ((x1_1 + (1 : Int32)), i_10)))))) else (some (.inr i_2))) 1000000 ((0 : Int32), i)).bind (fun i_3 => some i_3)
set_option maxHeartbeats 4000000 in
theorem c_Mo_bringsBack {n u : Nat} {t : MT} {i : MI} {r : MR} (s : Sh n t r)  : Cn 1 201 [.ref 1638] (n, u, t, i, r) (f_Mo_bringsBack i ) (F_v1 n u t r) PT := by
  refine cn_of (Y := K_Mo_bringsBack) (L0 := [.ref 1638, uV]) rfl rfl rfl ?_
  intro d hd
  unfold f_Mo_bringsBack
  refine ge_run (pc' := 2) (L' := [.ref 1638, .int (0 : Int32)]) (S' := []) 2 rfl ?_
  refine ge_bind (K1 := fun (q : MI) e => ∃ w_4 : Value, e = .inl (15, [.ref 1638, w_4], [], (n, u, t, q, r))) (ge_itr (C := fun (q : Int32 × MI) e => e = .inl (2, [.ref 1638, .int q.1], [], (n, u, t, q.2, r))) ?_ _ _ _ rfl) ?_
  · rintro ⟨x1_1, i_2⟩ _ rfl
    try dsimp only
    refine ge_run (pc' := 4) (L' := [.ref 1638, .int x1_1]) (S' := [.int (417 : Int32), .int x1_1]) 2 rfl ?_
    refine ge_ge rfl (fun h_5 => ?_) (fun h_11 => ?_)
    · refine ge_run (pc' := 6) (L' := [.ref 1638, .int x1_1]) (S' := [.ref 1638]) 1 rfl ?_
      refine ge_getR (b := 1639) rfl (t1638 s) rfl (r1638_1 s) (Nat.le_of_ble_eq_true rfl) ?_
      refine ge_run (pc' := 9) (L' := [.ref 1638, .int x1_1]) (S' := [.ref 1638, .int x1_1, .ref 1639]) 2 rfl ?_
      refine ge_getR (b := 1642) rfl (t1638 s) rfl (r1638_4 s) (Nat.le_of_ble_eq_true rfl) ?_
      refine ge_run (pc' := 11) (L' := [.ref 1638, .int x1_1]) (S' := [.int x1_1, .ref 1642, .int x1_1, .ref 1639]) 1 rfl ?_
      refine ge_grd (fun g_6 g_7 => ?_)
      refine ge_iald (jn := (ix x1_1)) rfl (t1642 s) ⟨g_6, rfl⟩ g_7 ?_
      refine ge_grd (fun g_8 g_9 => ?_)
      refine ge_iast (jn := (ix x1_1)) rfl (t1639 s) (Nat.le_of_ble_eq_true rfl) ⟨g_8, rfl⟩ g_9 (fun i_10 => ?_)
      refine ge_run (pc' := 2) (L' := [.ref 1638, .int (x1_1 + (1 : Int32))]) (S' := []) 2 rfl ?_
      exact ge_leaf (K := kX _ _) rfl
    · exact ge_leaf (K := kX _ _) (Exists.intro _ rfl)
  · rintro i_3 _ ⟨w_4, rfl⟩
    try dsimp only
    exact ge_retv rfl rfl (And.intro rfl trivial)
def f_Mo_fishes (i : MI) : Option (Int32) :=
  some ((i 1639 0))
set_option maxHeartbeats 4000000 in
theorem c_Mo_fishes {n u : Nat} {t : MT} {i : MI} {r : MR} (s : Sh n t r)  : Cn 1 202 [.ref 1638] (n, u, t, i, r) (f_Mo_fishes i ) (F_i0 n u t i r) PT := by
  refine cn_of (Y := K_Mo_fishes) (L0 := [.ref 1638]) rfl rfl rfl ?_
  intro d hd
  unfold f_Mo_fishes
  refine ge_run (pc' := 1) (L' := [.ref 1638]) (S' := [.ref 1638]) 1 rfl ?_
  refine ge_getR (b := 1639) rfl (t1638 s) rfl (r1638_1 s) (Nat.le_of_ble_eq_true rfl) ?_
  refine ge_run (pc' := 3) (L' := [.ref 1638]) (S' := [.int (0 : Int32), .ref 1639]) 1 rfl ?_
  refine ge_iald (jn := 0) rfl (t1639 s) lk0 (by decide) ?_
  exact ge_ret rfl rfl (And.intro rfl trivial)
def f_Mo_boats (i : MI) : Option (Int32) :=
  some ((i 1639 1))
set_option maxHeartbeats 4000000 in
theorem c_Mo_boats {n u : Nat} {t : MT} {i : MI} {r : MR} (s : Sh n t r)  : Cn 1 203 [.ref 1638] (n, u, t, i, r) (f_Mo_boats i ) (F_i0 n u t i r) PT := by
  refine cn_of (Y := K_Mo_boats) (L0 := [.ref 1638]) rfl rfl rfl ?_
  intro d hd
  unfold f_Mo_boats
  refine ge_run (pc' := 1) (L' := [.ref 1638]) (S' := [.ref 1638]) 1 rfl ?_
  refine ge_getR (b := 1639) rfl (t1638 s) rfl (r1638_1 s) (Nat.le_of_ble_eq_true rfl) ?_
  refine ge_run (pc' := 3) (L' := [.ref 1638]) (S' := [.int (1 : Int32), .ref 1639]) 1 rfl ?_
  refine ge_iald (jn := 1) rfl (t1639 s) lk1 (by decide) ?_
  exact ge_ret rfl rfl (And.intro rfl trivial)
def f_Mo_buyers (i : MI) : Option (Int32) :=
  some ((i 1639 2))
set_option maxHeartbeats 4000000 in
theorem c_Mo_buyers {n u : Nat} {t : MT} {i : MI} {r : MR} (s : Sh n t r)  : Cn 1 204 [.ref 1638] (n, u, t, i, r) (f_Mo_buyers i ) (F_i0 n u t i r) PT := by
  refine cn_of (Y := K_Mo_buyers) (L0 := [.ref 1638]) rfl rfl rfl ?_
  intro d hd
  unfold f_Mo_buyers
  refine ge_run (pc' := 1) (L' := [.ref 1638]) (S' := [.ref 1638]) 1 rfl ?_
  refine ge_getR (b := 1639) rfl (t1638 s) rfl (r1638_1 s) (Nat.le_of_ble_eq_true rfl) ?_
  refine ge_run (pc' := 3) (L' := [.ref 1638]) (S' := [.int (2 : Int32), .ref 1639]) 1 rfl ?_
  refine ge_iald (jn := 2) rfl (t1639 s) lk2 (by decide) ?_
  exact ge_ret rfl rfl (And.intro rfl trivial)
def f_Mo_deadOnes (i : MI) : Option (Int32) :=
  some ((i 1639 3))
set_option maxHeartbeats 4000000 in
theorem c_Mo_deadOnes {n u : Nat} {t : MT} {i : MI} {r : MR} (s : Sh n t r)  : Cn 1 205 [.ref 1638] (n, u, t, i, r) (f_Mo_deadOnes i ) (F_i0 n u t i r) PT := by
  refine cn_of (Y := K_Mo_deadOnes) (L0 := [.ref 1638]) rfl rfl rfl ?_
  intro d hd
  unfold f_Mo_deadOnes
  refine ge_run (pc' := 1) (L' := [.ref 1638]) (S' := [.ref 1638]) 1 rfl ?_
  refine ge_getR (b := 1639) rfl (t1638 s) rfl (r1638_1 s) (Nat.le_of_ble_eq_true rfl) ?_
  refine ge_run (pc' := 3) (L' := [.ref 1638]) (S' := [.int (3 : Int32), .ref 1639]) 1 rfl ?_
  refine ge_iald (jn := 3) rfl (t1639 s) lk3 (by decide) ?_
  exact ge_ret rfl rfl (And.intro rfl trivial)
def f_Mo_fishAt (x0 : Int32) (x1 : Int32) : Option (Int32) :=
  some ((((36 : Int32) + ((5 : Int32) * x0)) + x1))
set_option maxHeartbeats 4000000 in
theorem c_Mo_fishAt {n u : Nat} {t : MT} {i : MI} {r : MR} (s : Sh n t r) (x0 : Int32) (x1 : Int32) : Cn 1 206 [.int x0, .int x1] (n, u, t, i, r) (f_Mo_fishAt  x0 x1) (F_i0 n u t i r) PT := by
  refine cn_of (Y := K_Mo_fishAt) (L0 := [.int x0, .int x1]) rfl rfl rfl ?_
  intro d hd
  unfold f_Mo_fishAt
  refine ge_run (pc' := 7) (L' := [.int x0, .int x1]) (S' := [.int (((36 : Int32) + ((5 : Int32) * x0)) + x1)]) 7 rfl ?_
  exact ge_ret rfl rfl (And.intro rfl trivial)
def f_Mo_of (i : MI) (x1 : Int32) (x2 : Int32) : Option (Int32) :=
  (f_Mo_fishAt x1 x2).bind (fun v_1 => grd v_1 2115 (some ((i 1639 (ix v_1)))))
set_option maxHeartbeats 4000000 in
theorem c_Mo_of {n u : Nat} {t : MT} {i : MI} {r : MR} (s : Sh n t r) (x1 : Int32) (x2 : Int32) : Cn 2 207 [.ref 1638, .int x1, .int x2] (n, u, t, i, r) (f_Mo_of i x1 x2) (F_i0 n u t i r) PT := by
  refine cn_of (Y := K_Mo_of) (L0 := [.ref 1638, .int x1, .int x2]) rfl rfl rfl ?_
  intro d hd
  unfold f_Mo_of
  refine ge_run (pc' := 1) (L' := [.ref 1638, .int x1, .int x2]) (S' := [.ref 1638]) 1 rfl ?_
  refine ge_getR (b := 1639) rfl (t1638 s) rfl (r1638_1 s) (Nat.le_of_ble_eq_true rfl) ?_
  refine ge_run (pc' := 4) (L' := [.ref 1638, .int x1, .int x2]) (S' := [.int x2, .int x1, .ref 1639]) 2 rfl ?_
  refine ge_cs rfl rfl rfl rfl rfl rfl (D := 1) (Nat.le_trans (by decide) hd) (c_Mo_fishAt (n := n) (u := u) (t := t) (i := i) (r := r) s x1 x2) ?_
  rintro v_1 -
  dsimp only [bkE, F_i0]
  refine ge_grd (fun g_2 g_3 => ?_)
  refine ge_iald (jn := (ix v_1)) rfl (t1639 s) ⟨g_2, rfl⟩ g_3 ?_
  exact ge_ret rfl rfl (And.intro rfl trivial)
def f_Mo_boatAt (x0 : Int32) (x1 : Int32) : Option (Int32) :=
  some ((((76 : Int32) + ((3 : Int32) * x0)) + x1))
set_option maxHeartbeats 4000000 in
theorem c_Mo_boatAt {n u : Nat} {t : MT} {i : MI} {r : MR} (s : Sh n t r) (x0 : Int32) (x1 : Int32) : Cn 1 208 [.int x0, .int x1] (n, u, t, i, r) (f_Mo_boatAt  x0 x1) (F_i0 n u t i r) PT := by
  refine cn_of (Y := K_Mo_boatAt) (L0 := [.int x0, .int x1]) rfl rfl rfl ?_
  intro d hd
  unfold f_Mo_boatAt
  refine ge_run (pc' := 7) (L' := [.int x0, .int x1]) (S' := [.int (((76 : Int32) + ((3 : Int32) * x0)) + x1)]) 7 rfl ?_
  exact ge_ret rfl rfl (And.intro rfl trivial)
def f_Mo_ofBoat (i : MI) (x1 : Int32) (x2 : Int32) : Option (Int32) :=
  (f_Mo_boatAt x1 x2).bind (fun v_1 => grd v_1 2115 (some ((i 1639 (ix v_1)))))
set_option maxHeartbeats 4000000 in
theorem c_Mo_ofBoat {n u : Nat} {t : MT} {i : MI} {r : MR} (s : Sh n t r) (x1 : Int32) (x2 : Int32) : Cn 2 209 [.ref 1638, .int x1, .int x2] (n, u, t, i, r) (f_Mo_ofBoat i x1 x2) (F_i0 n u t i r) PT := by
  refine cn_of (Y := K_Mo_ofBoat) (L0 := [.ref 1638, .int x1, .int x2]) rfl rfl rfl ?_
  intro d hd
  unfold f_Mo_ofBoat
  refine ge_run (pc' := 1) (L' := [.ref 1638, .int x1, .int x2]) (S' := [.ref 1638]) 1 rfl ?_
  refine ge_getR (b := 1639) rfl (t1638 s) rfl (r1638_1 s) (Nat.le_of_ble_eq_true rfl) ?_
  refine ge_run (pc' := 4) (L' := [.ref 1638, .int x1, .int x2]) (S' := [.int x2, .int x1, .ref 1639]) 2 rfl ?_
  refine ge_cs rfl rfl rfl rfl rfl rfl (D := 1) (Nat.le_trans (by decide) hd) (c_Mo_boatAt (n := n) (u := u) (t := t) (i := i) (r := r) s x1 x2) ?_
  rintro v_1 -
  dsimp only [bkE, F_i0]
  refine ge_grd (fun g_2 g_3 => ?_)
  refine ge_iald (jn := (ix v_1)) rfl (t1639 s) ⟨g_2, rfl⟩ g_3 ?_
  exact ge_ret rfl rfl (And.intro rfl trivial)
def f_Mo_buyerAt (x0 : Int32) (x1 : Int32) : Option (Int32) :=
  some ((((85 : Int32) + ((4 : Int32) * x0)) + x1))
set_option maxHeartbeats 4000000 in
theorem c_Mo_buyerAt {n u : Nat} {t : MT} {i : MI} {r : MR} (s : Sh n t r) (x0 : Int32) (x1 : Int32) : Cn 1 210 [.int x0, .int x1] (n, u, t, i, r) (f_Mo_buyerAt  x0 x1) (F_i0 n u t i r) PT := by
  refine cn_of (Y := K_Mo_buyerAt) (L0 := [.int x0, .int x1]) rfl rfl rfl ?_
  intro d hd
  unfold f_Mo_buyerAt
  refine ge_run (pc' := 7) (L' := [.int x0, .int x1]) (S' := [.int (((85 : Int32) + ((4 : Int32) * x0)) + x1)]) 7 rfl ?_
  exact ge_ret rfl rfl (And.intro rfl trivial)
def f_Mo_ofBuyer (i : MI) (x1 : Int32) (x2 : Int32) : Option (Int32) :=
  (f_Mo_buyerAt x1 x2).bind (fun v_1 => grd v_1 2115 (some ((i 1639 (ix v_1)))))
set_option maxHeartbeats 4000000 in
theorem c_Mo_ofBuyer {n u : Nat} {t : MT} {i : MI} {r : MR} (s : Sh n t r) (x1 : Int32) (x2 : Int32) : Cn 2 211 [.ref 1638, .int x1, .int x2] (n, u, t, i, r) (f_Mo_ofBuyer i x1 x2) (F_i0 n u t i r) PT := by
  refine cn_of (Y := K_Mo_ofBuyer) (L0 := [.ref 1638, .int x1, .int x2]) rfl rfl rfl ?_
  intro d hd
  unfold f_Mo_ofBuyer
  refine ge_run (pc' := 1) (L' := [.ref 1638, .int x1, .int x2]) (S' := [.ref 1638]) 1 rfl ?_
  refine ge_getR (b := 1639) rfl (t1638 s) rfl (r1638_1 s) (Nat.le_of_ble_eq_true rfl) ?_
  refine ge_run (pc' := 4) (L' := [.ref 1638, .int x1, .int x2]) (S' := [.int x2, .int x1, .ref 1639]) 2 rfl ?_
  refine ge_cs rfl rfl rfl rfl rfl rfl (D := 1) (Nat.le_trans (by decide) hd) (c_Mo_buyerAt (n := n) (u := u) (t := t) (i := i) (r := r) s x1 x2) ?_
  rintro v_1 -
  dsimp only [bkE, F_i0]
  refine ge_grd (fun g_2 g_3 => ?_)
  refine ge_iald (jn := (ix v_1)) rfl (t1639 s) ⟨g_2, rfl⟩ g_3 ?_
  exact ge_ret rfl rfl (And.intro rfl trivial)
def f_Mo_ofDead (i : MI) (x1 : Int32) (x2 : Int32) : Option (Int32) :=
  grd (((105 : Int32) + ((2 : Int32) * x1)) + x2) 2115 (some ((i 1639 (ix (((105 : Int32) + ((2 : Int32) * x1)) + x2)))))
set_option maxHeartbeats 4000000 in
theorem c_Mo_ofDead {n u : Nat} {t : MT} {i : MI} {r : MR} (s : Sh n t r) (x1 : Int32) (x2 : Int32) : Cn 1 212 [.ref 1638, .int x1, .int x2] (n, u, t, i, r) (f_Mo_ofDead i x1 x2) (F_i0 n u t i r) PT := by
  refine cn_of (Y := K_Mo_ofDead) (L0 := [.ref 1638, .int x1, .int x2]) rfl rfl rfl ?_
  intro d hd
  unfold f_Mo_ofDead
  refine ge_run (pc' := 1) (L' := [.ref 1638, .int x1, .int x2]) (S' := [.ref 1638]) 1 rfl ?_
  refine ge_getR (b := 1639) rfl (t1638 s) rfl (r1638_1 s) (Nat.le_of_ble_eq_true rfl) ?_
  refine ge_run (pc' := 9) (L' := [.ref 1638, .int x1, .int x2]) (S' := [.int (((105 : Int32) + ((2 : Int32) * x1)) + x2), .ref 1639]) 7 rfl ?_
  refine ge_grd (fun g_1 g_2 => ?_)
  refine ge_iald (jn := (ix (((105 : Int32) + ((2 : Int32) * x1)) + x2))) rfl (t1639 s) ⟨g_1, rfl⟩ g_2 ?_
  exact ge_ret rfl rfl (And.intro rfl trivial)
def f_Mo_allThat (i : MI) (x1 : Int32) : Option (Int32) :=
  (itr (σ := Int32 × Int32) (ρ := Int32) (fun (x2_1, x3_2) => (f_Mo_fishes i).bind (fun v_5 => if x3_2 < v_5 then ((f_Mo_of i x3_2 (3 : Int32)).bind (fun v_7 => (if v_7 = x1 then (some (shl (1 : Int32) x3_2)) else (some (0 : Int32)) : Option (Int32)).bind (fun y_8 => some (.inl ((x2_1 ||| y_8), (x3_2 + (1 : Int32))))))) else (some (.inr x2_1)))) 1000000 ((0 : Int32), (0 : Int32))).bind (fun x2_3 => some (x2_3))
set_option maxHeartbeats 4000000 in
theorem c_Mo_allThat {n u : Nat} {t : MT} {i : MI} {r : MR} (s : Sh n t r) (x1 : Int32) : Cn 3 213 [.ref 1638, .int x1] (n, u, t, i, r) (f_Mo_allThat i x1) (F_i0 n u t i r) PT := by
  refine cn_of (Y := K_Mo_allThat) (L0 := [.ref 1638, .int x1, uV, uV]) rfl rfl rfl ?_
  intro d hd
  unfold f_Mo_allThat
  refine ge_run (pc' := 4) (L' := [.ref 1638, .int x1, .int (0 : Int32), .int (0 : Int32)]) (S' := []) 4 rfl ?_
  refine ge_bind (K1 := fun (q : Int32) e => ∃ w_4 : Value, e = .inl (24, [.ref 1638, .int x1, .int q, w_4], [], (n, u, t, i, r))) (ge_itr (C := fun (q : Int32 × Int32) e => e = .inl (4, [.ref 1638, .int x1, .int q.1, .int q.2], [], (n, u, t, i, r))) ?_ _ _ _ rfl) ?_
  · rintro ⟨x2_1, x3_2⟩ _ rfl
    try dsimp only
    refine ge_run (pc' := 6) (L' := [.ref 1638, .int x1, .int x2_1, .int x3_2]) (S' := [.ref 1638, .int x3_2]) 2 rfl ?_
    refine ge_cv rfl rfl rfl (t1638 s) rfl rfl rfl (D := 1) (Nat.le_trans (by decide) hd) (c_Mo_fishes (n := n) (u := u) (t := t) (i := i) (r := r) s ) ?_
    rintro v_5 -
    dsimp only [bkE, F_i0]
    refine ge_ge rfl (fun h_6 => ?_) (fun h_11 => ?_)
    · refine ge_run (pc' := 12) (L' := [.ref 1638, .int x1, .int x2_1, .int x3_2]) (S' := [.int (3 : Int32), .int x3_2, .ref 1638, .int x2_1]) 4 rfl ?_
      refine ge_cv rfl rfl rfl (t1638 s) rfl rfl rfl (D := 2) (Nat.le_trans (by decide) hd) (c_Mo_of (n := n) (u := u) (t := t) (i := i) (r := r) s x3_2 (3 : Int32)) ?_
      rintro v_7 -
      dsimp only [bkE, F_i0]
      refine ge_run (pc' := 14) (L' := [.ref 1638, .int x1, .int x2_1, .int x3_2]) (S' := [.int x1, .int v_7, .int x2_1]) 1 rfl ?_
      refine ge_bind (K1 := fun (q : Int32) e => e = .inl (20, [.ref 1638, .int x1, .int x2_1, .int x3_2], [.int q, .int x2_1], (n, u, t, i, r))) ?_ ?_
      · refine ge_ne rfl (fun h_9 => ?_) (fun h_10 => ?_)
        · refine ge_run (pc' := 20) (L' := [.ref 1638, .int x1, .int x2_1, .int x3_2]) (S' := [.int (shl (1 : Int32) x3_2), .int x2_1]) 4 rfl ?_
          exact ge_leaf rfl
        · refine ge_run (pc' := 20) (L' := [.ref 1638, .int x1, .int x2_1, .int x3_2]) (S' := [.int (0 : Int32), .int x2_1]) 1 rfl ?_
          exact ge_leaf rfl
      · rintro y_8 _ rfl
        try dsimp only
        refine ge_run (pc' := 4) (L' := [.ref 1638, .int x1, .int (x2_1 ||| y_8), .int (x3_2 + (1 : Int32))]) (S' := []) 4 rfl ?_
        exact ge_leaf (K := kX _ _) rfl
    · exact ge_leaf (K := kX _ _) (Exists.intro _ rfl)
  · rintro x2_3 _ ⟨w_4, rfl⟩
    try dsimp only
    refine ge_run (pc' := 25) (L' := [.ref 1638, .int x1, .int x2_3, w_4]) (S' := [.int x2_3]) 1 rfl ?_
    exact ge_ret rfl rfl (And.intro rfl trivial)
def f_Mo_aboard (i : MI) (x1 : Int32) : Option (Int32) :=
  (itr (σ := Int32 × Int32) (ρ := Int32) (fun (x2_1, x3_2) => (f_Mo_fishes i).bind (fun v_5 => if x3_2 < v_5 then ((f_Mo_of i x3_2 (3 : Int32)).bind (fun v_7 => (if v_7 = (1 : Int32) then ((f_Mo_of i x3_2 (4 : Int32)).bind (fun v_10 => if v_10 = x1 then (some (shl (1 : Int32) x3_2)) else (some (0 : Int32)))) else (some (0 : Int32)) : Option (Int32)).bind (fun y_8 => some (.inl ((x2_1 ||| y_8), (x3_2 + (1 : Int32))))))) else (some (.inr x2_1)))) 1000000 ((0 : Int32), (0 : Int32))).bind (fun x2_3 => some (x2_3))
set_option maxHeartbeats 4000000 in
theorem c_Mo_aboard {n u : Nat} {t : MT} {i : MI} {r : MR} (s : Sh n t r) (x1 : Int32) : Cn 3 214 [.ref 1638, .int x1] (n, u, t, i, r) (f_Mo_aboard i x1) (F_i0 n u t i r) PT := by
  refine cn_of (Y := K_Mo_aboard) (L0 := [.ref 1638, .int x1, uV, uV]) rfl rfl rfl ?_
  intro d hd
  unfold f_Mo_aboard
  refine ge_run (pc' := 4) (L' := [.ref 1638, .int x1, .int (0 : Int32), .int (0 : Int32)]) (S' := []) 4 rfl ?_
  refine ge_bind (K1 := fun (q : Int32) e => ∃ w_4 : Value, e = .inl (30, [.ref 1638, .int x1, .int q, w_4], [], (n, u, t, i, r))) (ge_itr (C := fun (q : Int32 × Int32) e => e = .inl (4, [.ref 1638, .int x1, .int q.1, .int q.2], [], (n, u, t, i, r))) ?_ _ _ _ rfl) ?_
  · rintro ⟨x2_1, x3_2⟩ _ rfl
    try dsimp only
    refine ge_run (pc' := 6) (L' := [.ref 1638, .int x1, .int x2_1, .int x3_2]) (S' := [.ref 1638, .int x3_2]) 2 rfl ?_
    refine ge_cv rfl rfl rfl (t1638 s) rfl rfl rfl (D := 1) (Nat.le_trans (by decide) hd) (c_Mo_fishes (n := n) (u := u) (t := t) (i := i) (r := r) s ) ?_
    rintro v_5 -
    dsimp only [bkE, F_i0]
    refine ge_ge rfl (fun h_6 => ?_) (fun h_14 => ?_)
    · refine ge_run (pc' := 12) (L' := [.ref 1638, .int x1, .int x2_1, .int x3_2]) (S' := [.int (3 : Int32), .int x3_2, .ref 1638, .int x2_1]) 4 rfl ?_
      refine ge_cv rfl rfl rfl (t1638 s) rfl rfl rfl (D := 2) (Nat.le_trans (by decide) hd) (c_Mo_of (n := n) (u := u) (t := t) (i := i) (r := r) s x3_2 (3 : Int32)) ?_
      rintro v_7 -
      dsimp only [bkE, F_i0]
      refine ge_run (pc' := 14) (L' := [.ref 1638, .int x1, .int x2_1, .int x3_2]) (S' := [.int (1 : Int32), .int v_7, .int x2_1]) 1 rfl ?_
      refine ge_bind (K1 := fun (q : Int32) e => e = .inl (26, [.ref 1638, .int x1, .int x2_1, .int x3_2], [.int q, .int x2_1], (n, u, t, i, r))) ?_ ?_
      · refine ge_ne rfl (fun h_9 => ?_) (fun h_13 => ?_)
        · refine ge_run (pc' := 18) (L' := [.ref 1638, .int x1, .int x2_1, .int x3_2]) (S' := [.int (4 : Int32), .int x3_2, .ref 1638, .int x2_1]) 3 rfl ?_
          refine ge_cv rfl rfl rfl (t1638 s) rfl rfl rfl (D := 2) (Nat.le_trans (by decide) hd) (c_Mo_of (n := n) (u := u) (t := t) (i := i) (r := r) s x3_2 (4 : Int32)) ?_
          rintro v_10 -
          dsimp only [bkE, F_i0]
          refine ge_run (pc' := 20) (L' := [.ref 1638, .int x1, .int x2_1, .int x3_2]) (S' := [.int x1, .int v_10, .int x2_1]) 1 rfl ?_
          refine ge_ne rfl (fun h_11 => ?_) (fun h_12 => ?_)
          · refine ge_run (pc' := 26) (L' := [.ref 1638, .int x1, .int x2_1, .int x3_2]) (S' := [.int (shl (1 : Int32) x3_2), .int x2_1]) 4 rfl ?_
            exact ge_leaf rfl
          · refine ge_run (pc' := 26) (L' := [.ref 1638, .int x1, .int x2_1, .int x3_2]) (S' := [.int (0 : Int32), .int x2_1]) 1 rfl ?_
            exact ge_leaf rfl
        · refine ge_run (pc' := 26) (L' := [.ref 1638, .int x1, .int x2_1, .int x3_2]) (S' := [.int (0 : Int32), .int x2_1]) 1 rfl ?_
          exact ge_leaf rfl
      · rintro y_8 _ rfl
        try dsimp only
        refine ge_run (pc' := 4) (L' := [.ref 1638, .int x1, .int (x2_1 ||| y_8), .int (x3_2 + (1 : Int32))]) (S' := []) 4 rfl ?_
        exact ge_leaf (K := kX _ _) rfl
    · exact ge_leaf (K := kX _ _) (Exists.intro _ rfl)
  · rintro x2_3 _ ⟨w_4, rfl⟩
    try dsimp only
    refine ge_run (pc' := 31) (L' := [.ref 1638, .int x1, .int x2_3, w_4]) (S' := [.int x2_3]) 1 rfl ?_
    exact ge_ret rfl rfl (And.intro rfl trivial)
def f_Mo_noCell (x0 : Int32) : Option (Int32) :=
  (f_Mo_in x0 (0 : Int32) (24 : Int32)).bind (fun v_1 => if v_1 = 0 then (some ((1 : Int32))) else (some ((0 : Int32))))
set_option maxHeartbeats 4000000 in
theorem c_Mo_noCell {n u : Nat} {t : MT} {i : MI} {r : MR} (s : Sh n t r) (x0 : Int32) : Cn 2 215 [.int x0] (n, u, t, i, r) (f_Mo_noCell  x0) (F_i0 n u t i r) PT := by
  refine cn_of (Y := K_Mo_noCell) (L0 := [.int x0]) rfl rfl rfl ?_
  intro d hd
  unfold f_Mo_noCell
  refine ge_run (pc' := 3) (L' := [.int x0]) (S' := [.int (24 : Int32), .int (0 : Int32), .int x0]) 3 rfl ?_
  refine ge_cs rfl rfl rfl rfl rfl rfl (D := 1) (Nat.le_trans (by decide) hd) (c_Mo_in (n := n) (u := u) (t := t) (i := i) (r := r) s x0 (0 : Int32) (24 : Int32)) ?_
  rintro v_1 -
  dsimp only [bkE, F_i0]
  refine ge_ne0 rfl (fun h_2 => ?_) (fun h_3 => ?_)
  · refine ge_run (pc' := 8) (L' := [.int x0]) (S' := [.int (1 : Int32)]) 2 rfl ?_
    exact ge_retz rfl rfl (Or.inr rfl) (And.intro rfl trivial)
  · refine ge_run (pc' := 8) (L' := [.int x0]) (S' := [.int (0 : Int32)]) 1 rfl ?_
    exact ge_retz rfl rfl (Or.inl rfl) (And.intro rfl trivial)
def f_Mo_noFish (i : MI) (x1 : Int32) : Option (Int32) :=
  (f_Mo_fishes i).bind (fun v_1 => (f_Mo_in x1 (0 : Int32) (v_1 - (1 : Int32))).bind (fun v_2 => if v_2 = 0 then (some ((1 : Int32))) else (some ((0 : Int32)))))
set_option maxHeartbeats 4000000 in
theorem c_Mo_noFish {n u : Nat} {t : MT} {i : MI} {r : MR} (s : Sh n t r) (x1 : Int32) : Cn 2 216 [.ref 1638, .int x1] (n, u, t, i, r) (f_Mo_noFish i x1) (F_i0 n u t i r) PT := by
  refine cn_of (Y := K_Mo_noFish) (L0 := [.ref 1638, .int x1]) rfl rfl rfl ?_
  intro d hd
  unfold f_Mo_noFish
  refine ge_run (pc' := 3) (L' := [.ref 1638, .int x1]) (S' := [.ref 1638, .int (0 : Int32), .int x1]) 3 rfl ?_
  refine ge_cv rfl rfl rfl (t1638 s) rfl rfl rfl (D := 1) (Nat.le_trans (by decide) hd) (c_Mo_fishes (n := n) (u := u) (t := t) (i := i) (r := r) s ) ?_
  rintro v_1 -
  dsimp only [bkE, F_i0]
  refine ge_run (pc' := 6) (L' := [.ref 1638, .int x1]) (S' := [.int (v_1 - (1 : Int32)), .int (0 : Int32), .int x1]) 2 rfl ?_
  refine ge_cs rfl rfl rfl rfl rfl rfl (D := 1) (Nat.le_trans (by decide) hd) (c_Mo_in (n := n) (u := u) (t := t) (i := i) (r := r) s x1 (0 : Int32) (v_1 - (1 : Int32))) ?_
  rintro v_2 -
  dsimp only [bkE, F_i0]
  refine ge_ne0 rfl (fun h_3 => ?_) (fun h_4 => ?_)
  · refine ge_run (pc' := 11) (L' := [.ref 1638, .int x1]) (S' := [.int (1 : Int32)]) 2 rfl ?_
    exact ge_retz rfl rfl (Or.inr rfl) (And.intro rfl trivial)
  · refine ge_run (pc' := 11) (L' := [.ref 1638, .int x1]) (S' := [.int (0 : Int32)]) 1 rfl ?_
    exact ge_retz rfl rfl (Or.inl rfl) (And.intro rfl trivial)
def f_Mo_noBoat (i : MI) (x1 : Int32) : Option (Int32) :=
  (f_Mo_boats i).bind (fun v_1 => (f_Mo_in x1 (0 : Int32) (v_1 - (1 : Int32))).bind (fun v_2 => if v_2 = 0 then (some ((1 : Int32))) else (some ((0 : Int32)))))
set_option maxHeartbeats 4000000 in
theorem c_Mo_noBoat {n u : Nat} {t : MT} {i : MI} {r : MR} (s : Sh n t r) (x1 : Int32) : Cn 2 217 [.ref 1638, .int x1] (n, u, t, i, r) (f_Mo_noBoat i x1) (F_i0 n u t i r) PT := by
  refine cn_of (Y := K_Mo_noBoat) (L0 := [.ref 1638, .int x1]) rfl rfl rfl ?_
  intro d hd
  unfold f_Mo_noBoat
  refine ge_run (pc' := 3) (L' := [.ref 1638, .int x1]) (S' := [.ref 1638, .int (0 : Int32), .int x1]) 3 rfl ?_
  refine ge_cv rfl rfl rfl (t1638 s) rfl rfl rfl (D := 1) (Nat.le_trans (by decide) hd) (c_Mo_boats (n := n) (u := u) (t := t) (i := i) (r := r) s ) ?_
  rintro v_1 -
  dsimp only [bkE, F_i0]
  refine ge_run (pc' := 6) (L' := [.ref 1638, .int x1]) (S' := [.int (v_1 - (1 : Int32)), .int (0 : Int32), .int x1]) 2 rfl ?_
  refine ge_cs rfl rfl rfl rfl rfl rfl (D := 1) (Nat.le_trans (by decide) hd) (c_Mo_in (n := n) (u := u) (t := t) (i := i) (r := r) s x1 (0 : Int32) (v_1 - (1 : Int32))) ?_
  rintro v_2 -
  dsimp only [bkE, F_i0]
  refine ge_ne0 rfl (fun h_3 => ?_) (fun h_4 => ?_)
  · refine ge_run (pc' := 11) (L' := [.ref 1638, .int x1]) (S' := [.int (1 : Int32)]) 2 rfl ?_
    exact ge_retz rfl rfl (Or.inr rfl) (And.intro rfl trivial)
  · refine ge_run (pc' := 11) (L' := [.ref 1638, .int x1]) (S' := [.int (0 : Int32)]) 1 rfl ?_
    exact ge_retz rfl rfl (Or.inl rfl) (And.intro rfl trivial)
def f_Mo_noBuyer (i : MI) (x1 : Int32) : Option (Int32) :=
  (f_Mo_buyers i).bind (fun v_1 => (f_Mo_in x1 (0 : Int32) (v_1 - (1 : Int32))).bind (fun v_2 => if v_2 = 0 then (some ((1 : Int32))) else (some ((0 : Int32)))))
set_option maxHeartbeats 4000000 in
theorem c_Mo_noBuyer {n u : Nat} {t : MT} {i : MI} {r : MR} (s : Sh n t r) (x1 : Int32) : Cn 2 218 [.ref 1638, .int x1] (n, u, t, i, r) (f_Mo_noBuyer i x1) (F_i0 n u t i r) PT := by
  refine cn_of (Y := K_Mo_noBuyer) (L0 := [.ref 1638, .int x1]) rfl rfl rfl ?_
  intro d hd
  unfold f_Mo_noBuyer
  refine ge_run (pc' := 3) (L' := [.ref 1638, .int x1]) (S' := [.ref 1638, .int (0 : Int32), .int x1]) 3 rfl ?_
  refine ge_cv rfl rfl rfl (t1638 s) rfl rfl rfl (D := 1) (Nat.le_trans (by decide) hd) (c_Mo_buyers (n := n) (u := u) (t := t) (i := i) (r := r) s ) ?_
  rintro v_1 -
  dsimp only [bkE, F_i0]
  refine ge_run (pc' := 6) (L' := [.ref 1638, .int x1]) (S' := [.int (v_1 - (1 : Int32)), .int (0 : Int32), .int x1]) 2 rfl ?_
  refine ge_cs rfl rfl rfl rfl rfl rfl (D := 1) (Nat.le_trans (by decide) hd) (c_Mo_in (n := n) (u := u) (t := t) (i := i) (r := r) s x1 (0 : Int32) (v_1 - (1 : Int32))) ?_
  rintro v_2 -
  dsimp only [bkE, F_i0]
  refine ge_ne0 rfl (fun h_3 => ?_) (fun h_4 => ?_)
  · refine ge_run (pc' := 11) (L' := [.ref 1638, .int x1]) (S' := [.int (1 : Int32)]) 2 rfl ?_
    exact ge_retz rfl rfl (Or.inr rfl) (And.intro rfl trivial)
  · refine ge_run (pc' := 11) (L' := [.ref 1638, .int x1]) (S' := [.int (0 : Int32)]) 1 rfl ?_
    exact ge_retz rfl rfl (Or.inl rfl) (And.intro rfl trivial)
def f_Mo_drawn (i : MI) (x1 : Int32) : Option (Int32 × MI) :=
  bnd (wr i 1639 10 (((1103515245 : Int32) * (i 1639 10)) + (12345 : Int32))) (fun i_1 => grd2 (decide (¬ x1 = 0)) (some ((rm ((shr (i_1 1639 10) (16 : Int32)) &&& (32767 : Int32)) x1), i_1)))
set_option maxHeartbeats 4000000 in
theorem c_Mo_drawn {n u : Nat} {t : MT} {i : MI} {r : MR} (s : Sh n t r) (x1 : Int32) : Cn 1 219 [.ref 1638, .int x1] (n, u, t, i, r) (f_Mo_drawn i x1) (F_i1 n u t r) PT := by
  refine cn_of (Y := K_Mo_drawn) (L0 := [.ref 1638, .int x1]) rfl rfl rfl ?_
  intro d hd
  unfold f_Mo_drawn
  refine ge_run (pc' := 1) (L' := [.ref 1638, .int x1]) (S' := [.ref 1638]) 1 rfl ?_
  refine ge_getR (b := 1639) rfl (t1638 s) rfl (r1638_1 s) (Nat.le_of_ble_eq_true rfl) ?_
  refine ge_run (pc' := 5) (L' := [.ref 1638, .int x1]) (S' := [.ref 1638, .int (1103515245 : Int32), .int (10 : Int32), .ref 1639]) 3 rfl ?_
  refine ge_getR (b := 1639) rfl (t1638 s) rfl (r1638_1 s) (Nat.le_of_ble_eq_true rfl) ?_
  refine ge_run (pc' := 7) (L' := [.ref 1638, .int x1]) (S' := [.int (10 : Int32), .ref 1639, .int (1103515245 : Int32), .int (10 : Int32), .ref 1639]) 1 rfl ?_
  refine ge_iald (jn := 10) rfl (t1639 s) lk10 (by decide) ?_
  refine ge_run (pc' := 11) (L' := [.ref 1638, .int x1]) (S' := [.int (((1103515245 : Int32) * (i 1639 10)) + (12345 : Int32)), .int (10 : Int32), .ref 1639]) 3 rfl ?_
  refine ge_iast (jn := 10) rfl (t1639 s) (Nat.le_of_ble_eq_true rfl) lk10 (by decide) (fun i_1 => ?_)
  refine ge_run (pc' := 13) (L' := [.ref 1638, .int x1]) (S' := [.ref 1638]) 1 rfl ?_
  refine ge_getR (b := 1639) rfl (t1638 s) rfl (r1638_1 s) (Nat.le_of_ble_eq_true rfl) ?_
  refine ge_run (pc' := 15) (L' := [.ref 1638, .int x1]) (S' := [.int (10 : Int32), .ref 1639]) 1 rfl ?_
  refine ge_iald (jn := 10) rfl (t1639 s) lk10 (by decide) ?_
  refine ge_run (pc' := 21) (L' := [.ref 1638, .int x1]) (S' := [.int x1, .int ((shr (i_1 1639 10) (16 : Int32)) &&& (32767 : Int32))]) 5 rfl ?_
  refine ge_grd2 (fun h_2 => ?_)
  refine ge_rem rfl (of_decide_eq_true h_2) ?_
  exact ge_ret rfl rfl (And.intro rfl trivial)
def f_Mo_beside (x0 : Int32) (x1 : Int32) : Option (Int32) :=
  sw x1 0 [(if 0 < (rm x0 (5 : Int32)) then (some ((x0 - (1 : Int32)))) else (some (x0))), (if (rm x0 (5 : Int32)) < (4 : Int32) then (some ((x0 + (1 : Int32)))) else (some (x0))), (if x0 < (5 : Int32) then (some (x0)) else (some ((x0 - (5 : Int32))))), (if x0 < (20 : Int32) then (some ((x0 + (5 : Int32)))) else (some (x0)))] ((some (x0)))
set_option maxHeartbeats 4000000 in
theorem c_Mo_beside {n u : Nat} {t : MT} {i : MI} {r : MR} (s : Sh n t r) (x0 : Int32) (x1 : Int32) : Cn 1 220 [.int x0, .int x1] (n, u, t, i, r) (f_Mo_beside  x0 x1) (F_i0 n u t i r) PT := by
  refine cn_of (Y := K_Mo_beside) (L0 := [.int x0, .int x1, uV]) rfl rfl rfl ?_
  intro d hd
  unfold f_Mo_beside
  refine ge_run (pc' := 2) (L' := [.int x0, .int x1, uV]) (S' := [.int (5 : Int32), .int x0]) 2 rfl ?_
  refine ge_rem rfl (by decide) ?_
  refine ge_run (pc' := 5) (L' := [.int x0, .int x1, .int (rm x0 (5 : Int32))]) (S' := [.int x1]) 2 rfl ?_
  refine ge_sw rfl rfl (And.intro ?_ (And.intro ?_ (And.intro ?_ (And.intro ?_ trivial)))) ?_
  · refine ge_run (pc' := 7) (L' := [.int x0, .int x1, .int (rm x0 (5 : Int32))]) (S' := [.int (rm x0 (5 : Int32))]) 1 rfl ?_
    refine ge_le0 rfl (fun h_2 => ?_) (fun h_3 => ?_)
    · refine ge_run (pc' := 13) (L' := [.int x0, .int x1, .int (rm x0 (5 : Int32))]) (S' := [.int (x0 - (1 : Int32))]) 4 rfl ?_
      exact ge_ret rfl rfl (And.intro rfl trivial)
    · refine ge_run (pc' := 13) (L' := [.int x0, .int x1, .int (rm x0 (5 : Int32))]) (S' := [.int x0]) 1 rfl ?_
      exact ge_ret rfl rfl (And.intro rfl trivial)
  · refine ge_run (pc' := 16) (L' := [.int x0, .int x1, .int (rm x0 (5 : Int32))]) (S' := [.int (4 : Int32), .int (rm x0 (5 : Int32))]) 2 rfl ?_
    refine ge_ge rfl (fun h_5 => ?_) (fun h_6 => ?_)
    · refine ge_run (pc' := 22) (L' := [.int x0, .int x1, .int (rm x0 (5 : Int32))]) (S' := [.int (x0 + (1 : Int32))]) 4 rfl ?_
      exact ge_ret rfl rfl (And.intro rfl trivial)
    · refine ge_run (pc' := 22) (L' := [.int x0, .int x1, .int (rm x0 (5 : Int32))]) (S' := [.int x0]) 1 rfl ?_
      exact ge_ret rfl rfl (And.intro rfl trivial)
  · refine ge_run (pc' := 25) (L' := [.int x0, .int x1, .int (rm x0 (5 : Int32))]) (S' := [.int (5 : Int32), .int x0]) 2 rfl ?_
    refine ge_lt rfl (fun h_8 => ?_) (fun h_9 => ?_)
    · refine ge_run (pc' := 31) (L' := [.int x0, .int x1, .int (rm x0 (5 : Int32))]) (S' := [.int x0]) 1 rfl ?_
      exact ge_ret rfl rfl (And.intro rfl trivial)
    · refine ge_run (pc' := 31) (L' := [.int x0, .int x1, .int (rm x0 (5 : Int32))]) (S' := [.int (x0 - (5 : Int32))]) 4 rfl ?_
      exact ge_ret rfl rfl (And.intro rfl trivial)
  · refine ge_run (pc' := 34) (L' := [.int x0, .int x1, .int (rm x0 (5 : Int32))]) (S' := [.int (20 : Int32), .int x0]) 2 rfl ?_
    refine ge_ge rfl (fun h_11 => ?_) (fun h_12 => ?_)
    · refine ge_run (pc' := 40) (L' := [.int x0, .int x1, .int (rm x0 (5 : Int32))]) (S' := [.int (x0 + (5 : Int32))]) 4 rfl ?_
      exact ge_ret rfl rfl (And.intro rfl trivial)
    · refine ge_run (pc' := 40) (L' := [.int x0, .int x1, .int (rm x0 (5 : Int32))]) (S' := [.int x0]) 1 rfl ?_
      exact ge_ret rfl rfl (And.intro rfl trivial)
  · refine ge_run (pc' := 42) (L' := [.int x0, .int x1, .int (rm x0 (5 : Int32))]) (S' := [.int x0]) 1 rfl ?_
    exact ge_ret rfl rfl (And.intro rfl trivial)
def f_Mo_driftOf (i : MI) (x1 : Int32) : Option (Int32) :=
  grd ((11 : Int32) + x1) 2115 ((f_Mo_beside x1 (i 1639 (ix ((11 : Int32) + x1)))).bind (fun v_3 => some (v_3)))
set_option maxHeartbeats 4000000 in
theorem c_Mo_driftOf {n u : Nat} {t : MT} {i : MI} {r : MR} (s : Sh n t r) (x1 : Int32) : Cn 2 221 [.ref 1638, .int x1] (n, u, t, i, r) (f_Mo_driftOf i x1) (F_i0 n u t i r) PT := by
  refine cn_of (Y := K_Mo_driftOf) (L0 := [.ref 1638, .int x1]) rfl rfl rfl ?_
  intro d hd
  unfold f_Mo_driftOf
  refine ge_run (pc' := 2) (L' := [.ref 1638, .int x1]) (S' := [.ref 1638, .int x1]) 2 rfl ?_
  refine ge_getR (b := 1639) rfl (t1638 s) rfl (r1638_1 s) (Nat.le_of_ble_eq_true rfl) ?_
  refine ge_run (pc' := 6) (L' := [.ref 1638, .int x1]) (S' := [.int ((11 : Int32) + x1), .ref 1639, .int x1]) 3 rfl ?_
  refine ge_grd (fun g_1 g_2 => ?_)
  refine ge_iald (jn := (ix ((11 : Int32) + x1))) rfl (t1639 s) ⟨g_1, rfl⟩ g_2 ?_
  refine ge_cs rfl rfl rfl rfl rfl rfl (D := 1) (Nat.le_trans (by decide) hd) (c_Mo_beside (n := n) (u := u) (t := t) (i := i) (r := r) s x1 (i 1639 (ix ((11 : Int32) + x1)))) ?_
  rintro v_3 -
  dsimp only [bkE, F_i0]
  exact ge_ret rfl rfl (And.intro rfl trivial)
def f_Mo_feed (i : MI) (x1 : Int32) (x2 : Int32) (x3 : Int32) (x4 : Int32) (x5 : Int32) : Option (Int32 × MI) :=
  bnd (wr i 1638 0 (0 : Int32)) (fun i_1 => if (400 : Int32) < ((i_1 1638 9) + (20 : Int32)) then (some ((-1 : Int32), i_1)) else (bnd (wr i_1 1645 0 x1) (fun i_4 => bnd (wr i_4 1645 1 x2) (fun i_5 => bnd (wr i_5 1645 2 x3) (fun i_6 => bnd (wr i_6 1645 3 x4) (fun i_7 => bnd (wr i_7 1645 4 x5) (fun i_8 => (itr (σ := Int32 × MI) (ρ := MI) (fun (x6_9, i_10) => if x6_9 < (20 : Int32) then (grd (x6_9 / (4 : Int32)) 5 (grd ((i_10 1638 9) + x6_9) 400 (bnd (wr i_10 1644 (ix ((i_10 1638 9) + x6_9)) ((shr (i_10 1645 (ix (x6_9 / (4 : Int32)))) ((24 : Int32) - ((8 : Int32) * (rm x6_9 (4 : Int32)))))).toInt8.toInt32.toInt8.toInt32) (fun i_18 => some (.inl ((x6_9 + (1 : Int32)), i_18)))))) else (some (.inr i_10))) 1000000 ((0 : Int32), i_8)).bind (fun i_11 => bnd (wr i_11 1638 9 ((i_11 1638 9) + (20 : Int32))) (fun i_20 => some ((i_20 1638 9), i_20))))))))))
set_option maxHeartbeats 4000000 in
theorem c_Mo_feed {n u : Nat} {t : MT} {i : MI} {r : MR} (s : Sh n t r) (x1 : Int32) (x2 : Int32) (x3 : Int32) (x4 : Int32) (x5 : Int32) : Cn 1 222 [.ref 1638, .int x1, .int x2, .int x3, .int x4, .int x5] (n, u, t, i, r) (f_Mo_feed i x1 x2 x3 x4 x5) (F_i1 n u t r) PT := by
  refine cn_of (Y := K_Mo_feed) (L0 := [.ref 1638, .int x1, .int x2, .int x3, .int x4, .int x5, uV]) rfl rfl rfl ?_
  intro d hd
  unfold f_Mo_feed
  refine ge_run (pc' := 2) (L' := [.ref 1638, .int x1, .int x2, .int x3, .int x4, .int x5, uV]) (S' := [.int (0 : Int32), .ref 1638]) 2 rfl ?_
  refine ge_putI rfl (t1638 s) (Nat.le_of_ble_eq_true rfl) rfl (fun i_1 => ?_)
  refine ge_run (pc' := 4) (L' := [.ref 1638, .int x1, .int x2, .int x3, .int x4, .int x5, uV]) (S' := [.ref 1638]) 1 rfl ?_
  refine ge_getI rfl (t1638 s) rfl ?_
  refine ge_run (pc' := 8) (L' := [.ref 1638, .int x1, .int x2, .int x3, .int x4, .int x5, uV]) (S' := [.int (400 : Int32), .int ((i_1 1638 9) + (20 : Int32))]) 3 rfl ?_
  refine ge_le rfl (fun h_2 => ?_) (fun h_3 => ?_)
  · refine ge_run (pc' := 10) (L' := [.ref 1638, .int x1, .int x2, .int x3, .int x4, .int x5, uV]) (S' := [.int (-1 : Int32)]) 1 rfl ?_
    exact ge_ret rfl rfl (And.intro rfl trivial)
  · refine ge_run (pc' := 12) (L' := [.ref 1638, .int x1, .int x2, .int x3, .int x4, .int x5, uV]) (S' := [.ref 1638]) 1 rfl ?_
    refine ge_getR (b := 1645) rfl (t1638 s) rfl (r1638_15 s) (Nat.le_of_ble_eq_true rfl) ?_
    refine ge_run (pc' := 15) (L' := [.ref 1638, .int x1, .int x2, .int x3, .int x4, .int x5, uV]) (S' := [.int x1, .int (0 : Int32), .ref 1645]) 2 rfl ?_
    refine ge_iast (jn := 0) rfl (t1645 s) (Nat.le_of_ble_eq_true rfl) lk0 (by decide) (fun i_4 => ?_)
    refine ge_run (pc' := 17) (L' := [.ref 1638, .int x1, .int x2, .int x3, .int x4, .int x5, uV]) (S' := [.ref 1638]) 1 rfl ?_
    refine ge_getR (b := 1645) rfl (t1638 s) rfl (r1638_15 s) (Nat.le_of_ble_eq_true rfl) ?_
    refine ge_run (pc' := 20) (L' := [.ref 1638, .int x1, .int x2, .int x3, .int x4, .int x5, uV]) (S' := [.int x2, .int (1 : Int32), .ref 1645]) 2 rfl ?_
    refine ge_iast (jn := 1) rfl (t1645 s) (Nat.le_of_ble_eq_true rfl) lk1 (by decide) (fun i_5 => ?_)
    refine ge_run (pc' := 22) (L' := [.ref 1638, .int x1, .int x2, .int x3, .int x4, .int x5, uV]) (S' := [.ref 1638]) 1 rfl ?_
    refine ge_getR (b := 1645) rfl (t1638 s) rfl (r1638_15 s) (Nat.le_of_ble_eq_true rfl) ?_
    refine ge_run (pc' := 25) (L' := [.ref 1638, .int x1, .int x2, .int x3, .int x4, .int x5, uV]) (S' := [.int x3, .int (2 : Int32), .ref 1645]) 2 rfl ?_
    refine ge_iast (jn := 2) rfl (t1645 s) (Nat.le_of_ble_eq_true rfl) lk2 (by decide) (fun i_6 => ?_)
    refine ge_run (pc' := 27) (L' := [.ref 1638, .int x1, .int x2, .int x3, .int x4, .int x5, uV]) (S' := [.ref 1638]) 1 rfl ?_
    refine ge_getR (b := 1645) rfl (t1638 s) rfl (r1638_15 s) (Nat.le_of_ble_eq_true rfl) ?_
    refine ge_run (pc' := 30) (L' := [.ref 1638, .int x1, .int x2, .int x3, .int x4, .int x5, uV]) (S' := [.int x4, .int (3 : Int32), .ref 1645]) 2 rfl ?_
    refine ge_iast (jn := 3) rfl (t1645 s) (Nat.le_of_ble_eq_true rfl) lk3 (by decide) (fun i_7 => ?_)
    refine ge_run (pc' := 32) (L' := [.ref 1638, .int x1, .int x2, .int x3, .int x4, .int x5, uV]) (S' := [.ref 1638]) 1 rfl ?_
    refine ge_getR (b := 1645) rfl (t1638 s) rfl (r1638_15 s) (Nat.le_of_ble_eq_true rfl) ?_
    refine ge_run (pc' := 35) (L' := [.ref 1638, .int x1, .int x2, .int x3, .int x4, .int x5, uV]) (S' := [.int x5, .int (4 : Int32), .ref 1645]) 2 rfl ?_
    refine ge_iast (jn := 4) rfl (t1645 s) (Nat.le_of_ble_eq_true rfl) lk4 (by decide) (fun i_8 => ?_)
    refine ge_run (pc' := 38) (L' := [.ref 1638, .int x1, .int x2, .int x3, .int x4, .int x5, .int (0 : Int32)]) (S' := []) 2 rfl ?_
    refine ge_bind (K1 := fun (q : MI) e => ∃ w_12 : Value, e = .inl (65, [.ref 1638, .int x1, .int x2, .int x3, .int x4, .int x5, w_12], [], (n, u, t, q, r))) (ge_itr (C := fun (q : Int32 × MI) e => e = .inl (38, [.ref 1638, .int x1, .int x2, .int x3, .int x4, .int x5, .int q.1], [], (n, u, t, q.2, r))) ?_ _ _ _ rfl) ?_
    · rintro ⟨x6_9, i_10⟩ _ rfl
      try dsimp only
      refine ge_run (pc' := 40) (L' := [.ref 1638, .int x1, .int x2, .int x3, .int x4, .int x5, .int x6_9]) (S' := [.int (20 : Int32), .int x6_9]) 2 rfl ?_
      refine ge_ge rfl (fun h_13 => ?_) (fun h_19 => ?_)
      · refine ge_run (pc' := 42) (L' := [.ref 1638, .int x1, .int x2, .int x3, .int x4, .int x5, .int x6_9]) (S' := [.ref 1638]) 1 rfl ?_
        refine ge_getR (b := 1644) rfl (t1638 s) rfl (r1638_8 s) (Nat.le_of_ble_eq_true rfl) ?_
        refine ge_run (pc' := 44) (L' := [.ref 1638, .int x1, .int x2, .int x3, .int x4, .int x5, .int x6_9]) (S' := [.ref 1638, .ref 1644]) 1 rfl ?_
        refine ge_getI rfl (t1638 s) rfl ?_
        refine ge_run (pc' := 48) (L' := [.ref 1638, .int x1, .int x2, .int x3, .int x4, .int x5, .int x6_9]) (S' := [.ref 1638, .int ((i_10 1638 9) + x6_9), .ref 1644]) 3 rfl ?_
        refine ge_getR (b := 1645) rfl (t1638 s) rfl (r1638_15 s) (Nat.le_of_ble_eq_true rfl) ?_
        refine ge_run (pc' := 51) (L' := [.ref 1638, .int x1, .int x2, .int x3, .int x4, .int x5, .int x6_9]) (S' := [.int (4 : Int32), .int x6_9, .ref 1645, .int ((i_10 1638 9) + x6_9), .ref 1644]) 2 rfl ?_
        refine ge_div rfl (by decide) ?_
        refine ge_grd (fun g_14 g_15 => ?_)
        refine ge_iald (jn := (ix (x6_9 / (4 : Int32)))) rfl (t1645 s) ⟨g_14, rfl⟩ g_15 ?_
        refine ge_run (pc' := 57) (L' := [.ref 1638, .int x1, .int x2, .int x3, .int x4, .int x5, .int x6_9]) (S' := [.int (4 : Int32), .int x6_9, .int (8 : Int32), .int (24 : Int32), .int (i_10 1645 (ix (x6_9 / (4 : Int32)))), .int ((i_10 1638 9) + x6_9), .ref 1644]) 4 rfl ?_
        refine ge_rem rfl (by decide) ?_
        refine ge_run (pc' := 62) (L' := [.ref 1638, .int x1, .int x2, .int x3, .int x4, .int x5, .int x6_9]) (S' := [.int ((shr (i_10 1645 (ix (x6_9 / (4 : Int32)))) ((24 : Int32) - ((8 : Int32) * (rm x6_9 (4 : Int32)))))).toInt8.toInt32, .int ((i_10 1638 9) + x6_9), .ref 1644]) 4 rfl ?_
        refine ge_grd (fun g_16 g_17 => ?_)
        refine ge_bast (jn := (ix ((i_10 1638 9) + x6_9))) rfl (t1644 s) (Nat.le_of_ble_eq_true rfl) ⟨g_16, rfl⟩ g_17 (fun i_18 => ?_)
        refine ge_run (pc' := 38) (L' := [.ref 1638, .int x1, .int x2, .int x3, .int x4, .int x5, .int (x6_9 + (1 : Int32))]) (S' := []) 2 rfl ?_
        exact ge_leaf (K := kX _ _) rfl
      · exact ge_leaf (K := kX _ _) (Exists.intro _ rfl)
    · rintro i_11 _ ⟨w_12, rfl⟩
      try dsimp only
      refine ge_run (pc' := 67) (L' := [.ref 1638, .int x1, .int x2, .int x3, .int x4, .int x5, w_12]) (S' := [.ref 1638, .ref 1638]) 2 rfl ?_
      refine ge_getI rfl (t1638 s) rfl ?_
      refine ge_run (pc' := 70) (L' := [.ref 1638, .int x1, .int x2, .int x3, .int x4, .int x5, w_12]) (S' := [.int ((i_11 1638 9) + (20 : Int32)), .ref 1638]) 2 rfl ?_
      refine ge_putI rfl (t1638 s) (Nat.le_of_ble_eq_true rfl) rfl (fun i_20 => ?_)
      refine ge_run (pc' := 72) (L' := [.ref 1638, .int x1, .int x2, .int x3, .int x4, .int x5, w_12]) (S' := [.ref 1638]) 1 rfl ?_
      refine ge_getI rfl (t1638 s) rfl ?_
      exact ge_ret rfl rfl (And.intro rfl trivial)
def f_Mo_end (i : MI) (x1 : Int32) : Option (Int32 × MI) :=
  bnd (wr i 1638 0 (0 : Int32)) (fun i_1 => if x1 < 0 then (some ((0 : Int32), i_1)) else (if (i_1 1638 9) < x1 then (some ((0 : Int32), i_1)) else (bnd (wr i_1 1638 9 x1) (fun i_6 => some ((1 : Int32), i_6)))))
set_option maxHeartbeats 4000000 in
theorem c_Mo_end {n u : Nat} {t : MT} {i : MI} {r : MR} (s : Sh n t r) (x1 : Int32) : Cn 1 223 [.ref 1638, .int x1] (n, u, t, i, r) (f_Mo_end i x1) (F_i1 n u t r) PT := by
  refine cn_of (Y := K_Mo_end) (L0 := [.ref 1638, .int x1]) rfl rfl rfl ?_
  intro d hd
  unfold f_Mo_end
  refine ge_run (pc' := 2) (L' := [.ref 1638, .int x1]) (S' := [.int (0 : Int32), .ref 1638]) 2 rfl ?_
  refine ge_putI rfl (t1638 s) (Nat.le_of_ble_eq_true rfl) rfl (fun i_1 => ?_)
  refine ge_run (pc' := 4) (L' := [.ref 1638, .int x1]) (S' := [.int x1]) 1 rfl ?_
  refine ge_lt0 rfl (fun h_2 => ?_) (fun h_3 => ?_)
  · refine ge_run (pc' := 10) (L' := [.ref 1638, .int x1]) (S' := [.int (0 : Int32)]) 1 rfl ?_
    exact ge_retz rfl rfl (Or.inl rfl) (And.intro rfl trivial)
  · refine ge_run (pc' := 7) (L' := [.ref 1638, .int x1]) (S' := [.ref 1638, .int x1]) 2 rfl ?_
    refine ge_getI rfl (t1638 s) rfl ?_
    refine ge_le rfl (fun h_4 => ?_) (fun h_5 => ?_)
    · refine ge_run (pc' := 10) (L' := [.ref 1638, .int x1]) (S' := [.int (0 : Int32)]) 1 rfl ?_
      exact ge_retz rfl rfl (Or.inl rfl) (And.intro rfl trivial)
    · refine ge_run (pc' := 13) (L' := [.ref 1638, .int x1]) (S' := [.int x1, .ref 1638]) 2 rfl ?_
      refine ge_putI rfl (t1638 s) (Nat.le_of_ble_eq_true rfl) rfl (fun i_6 => ?_)
      refine ge_run (pc' := 15) (L' := [.ref 1638, .int x1]) (S' := [.int (1 : Int32)]) 1 rfl ?_
      exact ge_retz rfl rfl (Or.inr rfl) (And.intro rfl trivial)
def f_Mo_isAt (i : MI) (x1 : Int32) (x2 : Int32) : Option (Int32) :=
  if (i 1638 10) < (i 1638 11) then (grd (i 1638 10) 400 (if (i 1644 (ix (i 1638 10))) < x1 then (some ((0 : Int32))) else (if x2 < (i 1644 (ix (i 1638 10))) then (some ((0 : Int32))) else (some ((1 : Int32)))))) else (some ((0 : Int32)))
set_option maxHeartbeats 4000000 in
theorem c_Mo_isAt {n u : Nat} {t : MT} {i : MI} {r : MR} (s : Sh n t r) (x1 : Int32) (x2 : Int32) : Cn 1 224 [.ref 1638, .int x1, .int x2] (n, u, t, i, r) (f_Mo_isAt i x1 x2) (F_i0 n u t i r) PT := by
  refine cn_of (Y := K_Mo_isAt) (L0 := [.ref 1638, .int x1, .int x2]) rfl rfl rfl ?_
  intro d hd
  unfold f_Mo_isAt
  refine ge_run (pc' := 1) (L' := [.ref 1638, .int x1, .int x2]) (S' := [.ref 1638]) 1 rfl ?_
  refine ge_getI rfl (t1638 s) rfl ?_
  refine ge_run (pc' := 3) (L' := [.ref 1638, .int x1, .int x2]) (S' := [.ref 1638, .int (i 1638 10)]) 1 rfl ?_
  refine ge_getI rfl (t1638 s) rfl ?_
  refine ge_ge rfl (fun h_1 => ?_) (fun h_8 => ?_)
  · refine ge_run (pc' := 6) (L' := [.ref 1638, .int x1, .int x2]) (S' := [.ref 1638]) 1 rfl ?_
    refine ge_getR (b := 1644) rfl (t1638 s) rfl (r1638_8 s) (Nat.le_of_ble_eq_true rfl) ?_
    refine ge_run (pc' := 8) (L' := [.ref 1638, .int x1, .int x2]) (S' := [.ref 1638, .ref 1644]) 1 rfl ?_
    refine ge_getI rfl (t1638 s) rfl ?_
    refine ge_grd (fun g_2 g_3 => ?_)
    refine ge_bald (jn := (ix (i 1638 10))) rfl (Or.inl (t1644 s)) ⟨g_2, rfl⟩ g_3 ?_
    refine ge_run (pc' := 11) (L' := [.ref 1638, .int x1, .int x2]) (S' := [.int x1, .int (i 1644 (ix (i 1638 10)))]) 1 rfl ?_
    refine ge_lt rfl (fun h_4 => ?_) (fun h_5 => ?_)
    · refine ge_run (pc' := 22) (L' := [.ref 1638, .int x1, .int x2]) (S' := [.int (0 : Int32)]) 1 rfl ?_
      exact ge_retz rfl rfl (Or.inl rfl) (And.intro rfl trivial)
    · refine ge_run (pc' := 13) (L' := [.ref 1638, .int x1, .int x2]) (S' := [.ref 1638]) 1 rfl ?_
      refine ge_getR (b := 1644) rfl (t1638 s) rfl (r1638_8 s) (Nat.le_of_ble_eq_true rfl) ?_
      refine ge_run (pc' := 15) (L' := [.ref 1638, .int x1, .int x2]) (S' := [.ref 1638, .ref 1644]) 1 rfl ?_
      refine ge_getI rfl (t1638 s) rfl ?_
      refine ge_bald (jn := (ix (i 1638 10))) rfl (Or.inl (t1644 s)) ⟨g_2, rfl⟩ g_3 ?_
      refine ge_run (pc' := 18) (L' := [.ref 1638, .int x1, .int x2]) (S' := [.int x2, .int (i 1644 (ix (i 1638 10)))]) 1 rfl ?_
      refine ge_gt rfl (fun h_6 => ?_) (fun h_7 => ?_)
      · refine ge_run (pc' := 22) (L' := [.ref 1638, .int x1, .int x2]) (S' := [.int (0 : Int32)]) 1 rfl ?_
        exact ge_retz rfl rfl (Or.inl rfl) (And.intro rfl trivial)
      · refine ge_run (pc' := 22) (L' := [.ref 1638, .int x1, .int x2]) (S' := [.int (1 : Int32)]) 2 rfl ?_
        exact ge_retz rfl rfl (Or.inr rfl) (And.intro rfl trivial)
  · refine ge_run (pc' := 22) (L' := [.ref 1638, .int x1, .int x2]) (S' := [.int (0 : Int32)]) 1 rfl ?_
    exact ge_retz rfl rfl (Or.inl rfl) (And.intro rfl trivial)
def f_Mo_blanks (i : MI) : Option (MI) :=
  (itr (σ := MI) (ρ := MI) (fun i_1 => (f_Mo_isAt i_1 (32 : Int32) (32 : Int32)).bind (fun v_3 => if v_3 = 0 then (some (.inr i_1)) else (bnd (wr i_1 1638 10 ((i_1 1638 10) + (1 : Int32))) (fun i_6 => some (.inl i_6))))) 1000000 i).bind (fun i_2 => bnd (wr i_2 1638 12 (i_2 1638 10)) (fun i_7 => some i_7))
set_option maxHeartbeats 4000000 in
theorem c_Mo_blanks {n u : Nat} {t : MT} {i : MI} {r : MR} (s : Sh n t r)  : Cn 2 225 [.ref 1638] (n, u, t, i, r) (f_Mo_blanks i ) (F_v1 n u t r) PT := by
  refine cn_of (Y := K_Mo_blanks) (L0 := [.ref 1638]) rfl rfl rfl ?_
  intro d hd
  unfold f_Mo_blanks
  refine ge_bind (K1 := fun (q : MI) e => e = .inl (12, [.ref 1638], [], (n, u, t, q, r))) (ge_itr (C := fun (q : MI) e => e = .inl (0, [.ref 1638], [], (n, u, t, q, r))) ?_ _ _ _ rfl) ?_
  · rintro i_1 _ rfl
    try dsimp only
    refine ge_run (pc' := 3) (L' := [.ref 1638]) (S' := [.int (32 : Int32), .int (32 : Int32), .ref 1638]) 3 rfl ?_
    refine ge_cv rfl rfl rfl (t1638 s) rfl rfl rfl (D := 1) (Nat.le_trans (by decide) hd) (c_Mo_isAt (n := n) (u := u) (t := t) (i := i_1) (r := r) s (32 : Int32) (32 : Int32)) ?_
    rintro v_3 -
    dsimp only [bkE, F_i0]
    refine ge_eq0 rfl (fun h_4 => ?_) (fun h_5 => ?_)
    · exact ge_leaf (K := kX _ _) rfl
    · refine ge_run (pc' := 7) (L' := [.ref 1638]) (S' := [.ref 1638, .ref 1638]) 2 rfl ?_
      refine ge_getI rfl (t1638 s) rfl ?_
      refine ge_run (pc' := 10) (L' := [.ref 1638]) (S' := [.int ((i_1 1638 10) + (1 : Int32)), .ref 1638]) 2 rfl ?_
      refine ge_putI rfl (t1638 s) (Nat.le_of_ble_eq_true rfl) rfl (fun i_6 => ?_)
      refine ge_run (pc' := 0) (L' := [.ref 1638]) (S' := []) 1 rfl ?_
      exact ge_leaf (K := kX _ _) rfl
  · rintro i_2 _ rfl
    try dsimp only
    refine ge_run (pc' := 14) (L' := [.ref 1638]) (S' := [.ref 1638, .ref 1638]) 2 rfl ?_
    refine ge_getI rfl (t1638 s) rfl ?_
    refine ge_putI rfl (t1638 s) (Nat.le_of_ble_eq_true rfl) rfl (fun i_7 => ?_)
    exact ge_retv rfl rfl (And.intro rfl trivial)
def f_Mo_letters (i : MI) : Option (MI) :=
  (f_Mo_blanks i).bind (fun i_1 => (itr (σ := MI) (ρ := MI) (fun i_2 => (f_Mo_isAt i_2 (97 : Int32) (122 : Int32)).bind (fun v_4 => if v_4 = 0 then (some (.inr i_2)) else (bnd (wr i_2 1638 10 ((i_2 1638 10) + (1 : Int32))) (fun i_7 => some (.inl i_7))))) 1000000 i_1).bind (fun i_3 => some i_3))
set_option maxHeartbeats 4000000 in
theorem c_Mo_letters {n u : Nat} {t : MT} {i : MI} {r : MR} (s : Sh n t r)  : Cn 3 226 [.ref 1638] (n, u, t, i, r) (f_Mo_letters i ) (F_v1 n u t r) PT := by
  refine cn_of (Y := K_Mo_letters) (L0 := [.ref 1638]) rfl rfl rfl ?_
  intro d hd
  unfold f_Mo_letters
  refine ge_run (pc' := 1) (L' := [.ref 1638]) (S' := [.ref 1638]) 1 rfl ?_
  refine ge_cv rfl rfl rfl (t1638 s) rfl rfl rfl (D := 2) (Nat.le_trans (by decide) hd) (c_Mo_blanks (n := n) (u := u) (t := t) (i := i) (r := r) s ) ?_
  rintro i_1 -
  dsimp only [bkE, F_v1]
  refine ge_bind (K1 := fun (q : MI) e => e = .inl (14, [.ref 1638], [], (n, u, t, q, r))) (ge_itr (C := fun (q : MI) e => e = .inl (2, [.ref 1638], [], (n, u, t, q, r))) ?_ _ _ _ rfl) ?_
  · rintro i_2 _ rfl
    try dsimp only
    refine ge_run (pc' := 5) (L' := [.ref 1638]) (S' := [.int (122 : Int32), .int (97 : Int32), .ref 1638]) 3 rfl ?_
    refine ge_cv rfl rfl rfl (t1638 s) rfl rfl rfl (D := 1) (Nat.le_trans (by decide) hd) (c_Mo_isAt (n := n) (u := u) (t := t) (i := i_2) (r := r) s (97 : Int32) (122 : Int32)) ?_
    rintro v_4 -
    dsimp only [bkE, F_i0]
    refine ge_eq0 rfl (fun h_5 => ?_) (fun h_6 => ?_)
    · exact ge_leaf (K := kX _ _) rfl
    · refine ge_run (pc' := 9) (L' := [.ref 1638]) (S' := [.ref 1638, .ref 1638]) 2 rfl ?_
      refine ge_getI rfl (t1638 s) rfl ?_
      refine ge_run (pc' := 12) (L' := [.ref 1638]) (S' := [.int ((i_2 1638 10) + (1 : Int32)), .ref 1638]) 2 rfl ?_
      refine ge_putI rfl (t1638 s) (Nat.le_of_ble_eq_true rfl) rfl (fun i_7 => ?_)
      refine ge_run (pc' := 2) (L' := [.ref 1638]) (S' := []) 1 rfl ?_
      exact ge_leaf (K := kX _ _) rfl
  · rintro i_3 _ rfl
    try dsimp only
    exact ge_retv rfl rfl (And.intro rfl trivial)
def f_Mo_isWord (t : MT) (i : MI) (w1 : Nat) : Option (Int32) :=
  (f_J_length t i w1).bind (fun v_1 => (if ((i 1638 10) - (i 1638 12)) = v_1 then (some (1 : Int32)) else (some (0 : Int32)) : Option (Int32)).bind (fun y_2 => (itr (σ := Int32 × Int32) (ρ := Int32) (fun (x2_5, x3_6) => if x2_5 = 0 then (some (.inr x2_5)) else ((f_J_length t i w1).bind (fun v_11 => if x3_6 < v_11 then (grd ((i 1638 12) + x3_6) 400 ((f_J_charAt t i w1 x3_6).bind (fun v_15 => (if (i 1644 (ix ((i 1638 12) + x3_6))) = v_15 then (some (1 : Int32)) else (some (0 : Int32)) : Option (Int32)).bind (fun y_16 => some (.inl (y_16, (x3_6 + (1 : Int32)))))))) else (some (.inr x2_5))))) 1000000 (y_2, (0 : Int32))).bind (fun x2_7 => grd2 (decide (x2_7 = 0 ∨ x2_7 = 1)) (some (x2_7)))))
set_option maxHeartbeats 4000000 in
theorem c_Mo_isWord {n u : Nat} {t : MT} {i : MI} {r : MR} (s : Sh n t r) (w1 : Nat) (hw1 : StrAd w1) : Cn 5 227 [.ref 1638, .ref w1] (n, u, t, i, r) (f_Mo_isWord t i w1) (F_i0 n u t i r) PT := by
  refine cn_of (Y := K_Mo_isWord) (L0 := [.ref 1638, .ref w1, uV, uV]) rfl rfl rfl ?_
  intro d hd
  unfold f_Mo_isWord
  refine ge_run (pc' := 1) (L' := [.ref 1638, .ref w1, uV, uV]) (S' := [.ref 1638]) 1 rfl ?_
  refine ge_getI rfl (t1638 s) rfl ?_
  refine ge_run (pc' := 3) (L' := [.ref 1638, .ref w1, uV, uV]) (S' := [.ref 1638, .int (i 1638 10)]) 1 rfl ?_
  refine ge_getI rfl (t1638 s) rfl ?_
  refine ge_run (pc' := 6) (L' := [.ref 1638, .ref w1, uV, uV]) (S' := [.ref w1, .int ((i 1638 10) - (i 1638 12))]) 2 rfl ?_
  refine ge_cv rfl rfl rfl (strT s hw1) rfl rfl rfl (D := 2) (Nat.le_trans (by decide) hd) (c_J_length (n := n) (u := u) (t := t) (i := i) (r := r) s w1 hw1) ?_
  rintro v_1 -
  dsimp only [bkE, F_i0]
  refine ge_bind (K1 := fun (q : Int32) e => e = .inl (11, [.ref 1638, .ref w1, uV, uV], [.int q], (n, u, t, i, r))) ?_ ?_
  · refine ge_ne rfl (fun h_3 => ?_) (fun h_4 => ?_)
    · refine ge_run (pc' := 11) (L' := [.ref 1638, .ref w1, uV, uV]) (S' := [.int (1 : Int32)]) 2 rfl ?_
      exact ge_leaf rfl
    · refine ge_run (pc' := 11) (L' := [.ref 1638, .ref w1, uV, uV]) (S' := [.int (0 : Int32)]) 1 rfl ?_
      exact ge_leaf rfl
  · rintro y_2 _ rfl
    try dsimp only
    refine ge_run (pc' := 14) (L' := [.ref 1638, .ref w1, .int y_2, .int (0 : Int32)]) (S' := []) 3 rfl ?_
    refine ge_bind (K1 := fun (q : Int32) e => ∃ w_8 : Value, e = .inl (37, [.ref 1638, .ref w1, .int q, w_8], [], (n, u, t, i, r))) (ge_itr (C := fun (q : Int32 × Int32) e => e = .inl (14, [.ref 1638, .ref w1, .int q.1, .int q.2], [], (n, u, t, i, r))) ?_ _ _ _ rfl) ?_
    · rintro ⟨x2_5, x3_6⟩ _ rfl
      try dsimp only
      refine ge_run (pc' := 15) (L' := [.ref 1638, .ref w1, .int x2_5, .int x3_6]) (S' := [.int x2_5]) 1 rfl ?_
      refine ge_eq0 rfl (fun h_9 => ?_) (fun h_10 => ?_)
      · exact ge_leaf (K := kX _ _) (Exists.intro _ rfl)
      · refine ge_run (pc' := 18) (L' := [.ref 1638, .ref w1, .int x2_5, .int x3_6]) (S' := [.ref w1, .int x3_6]) 2 rfl ?_
        refine ge_cv rfl rfl rfl (strT s hw1) rfl rfl rfl (D := 2) (Nat.le_trans (by decide) hd) (c_J_length (n := n) (u := u) (t := t) (i := i) (r := r) s w1 hw1) ?_
        rintro v_11 -
        dsimp only [bkE, F_i0]
        refine ge_ge rfl (fun h_12 => ?_) (fun h_19 => ?_)
        · refine ge_run (pc' := 21) (L' := [.ref 1638, .ref w1, .int x2_5, .int x3_6]) (S' := [.ref 1638]) 1 rfl ?_
          refine ge_getR (b := 1644) rfl (t1638 s) rfl (r1638_8 s) (Nat.le_of_ble_eq_true rfl) ?_
          refine ge_run (pc' := 23) (L' := [.ref 1638, .ref w1, .int x2_5, .int x3_6]) (S' := [.ref 1638, .ref 1644]) 1 rfl ?_
          refine ge_getI rfl (t1638 s) rfl ?_
          refine ge_run (pc' := 26) (L' := [.ref 1638, .ref w1, .int x2_5, .int x3_6]) (S' := [.int ((i 1638 12) + x3_6), .ref 1644]) 2 rfl ?_
          refine ge_grd (fun g_13 g_14 => ?_)
          refine ge_bald (jn := (ix ((i 1638 12) + x3_6))) rfl (Or.inl (t1644 s)) ⟨g_13, rfl⟩ g_14 ?_
          refine ge_run (pc' := 29) (L' := [.ref 1638, .ref w1, .int x2_5, .int x3_6]) (S' := [.int x3_6, .ref w1, .int (i 1644 (ix ((i 1638 12) + x3_6)))]) 2 rfl ?_
          refine ge_cv rfl rfl rfl (strT s hw1) rfl rfl rfl (D := 4) (Nat.le_trans (by decide) hd) (c_J_charAt (n := n) (u := u) (t := t) (i := i) (r := r) s w1 hw1 x3_6) ?_
          rintro v_15 -
          dsimp only [bkE, F_i0]
          refine ge_bind (K1 := fun (q : Int32) e => e = .inl (34, [.ref 1638, .ref w1, .int x2_5, .int x3_6], [.int q], (n, u, t, i, r))) ?_ ?_
          · refine ge_ne rfl (fun h_17 => ?_) (fun h_18 => ?_)
            · refine ge_run (pc' := 34) (L' := [.ref 1638, .ref w1, .int x2_5, .int x3_6]) (S' := [.int (1 : Int32)]) 2 rfl ?_
              exact ge_leaf rfl
            · refine ge_run (pc' := 34) (L' := [.ref 1638, .ref w1, .int x2_5, .int x3_6]) (S' := [.int (0 : Int32)]) 1 rfl ?_
              exact ge_leaf rfl
          · rintro y_16 _ rfl
            try dsimp only
            refine ge_run (pc' := 14) (L' := [.ref 1638, .ref w1, .int y_16, .int (x3_6 + (1 : Int32))]) (S' := []) 3 rfl ?_
            exact ge_leaf (K := kX _ _) rfl
        · exact ge_leaf (K := kX _ _) (Exists.intro _ rfl)
    · rintro x2_7 _ ⟨w_8, rfl⟩
      try dsimp only
      refine ge_run (pc' := 38) (L' := [.ref 1638, .ref w1, .int x2_7, w_8]) (S' := [.int x2_7]) 1 rfl ?_
      exact ge_retZ rfl rfl (And.intro rfl trivial)
def f_Mo_passes (t : MT) (i : MI) (w1 : Nat) : Option (Int32 × MI) :=
  (f_Mo_letters i).bind (fun i_1 => (f_Mo_isWord t i_1 w1).bind (fun v_2 => if v_2 = 0 then (bnd (wr i_1 1638 10 (i_1 1638 12)) (fun i_4 => some ((0 : Int32), i_4))) else (some ((1 : Int32), i_1))))
set_option maxHeartbeats 4000000 in
theorem c_Mo_passes {n u : Nat} {t : MT} {i : MI} {r : MR} (s : Sh n t r) (w1 : Nat) (hw1 : StrAd w1) : Cn 6 228 [.ref 1638, .ref w1] (n, u, t, i, r) (f_Mo_passes t i w1) (F_i1 n u t r) PT := by
  refine cn_of (Y := K_Mo_passes) (L0 := [.ref 1638, .ref w1]) rfl rfl rfl ?_
  intro d hd
  unfold f_Mo_passes
  refine ge_run (pc' := 1) (L' := [.ref 1638, .ref w1]) (S' := [.ref 1638]) 1 rfl ?_
  refine ge_cv rfl rfl rfl (t1638 s) rfl rfl rfl (D := 3) (Nat.le_trans (by decide) hd) (c_Mo_letters (n := n) (u := u) (t := t) (i := i) (r := r) s ) ?_
  rintro i_1 -
  dsimp only [bkE, F_v1]
  refine ge_run (pc' := 4) (L' := [.ref 1638, .ref w1]) (S' := [.ref w1, .ref 1638]) 2 rfl ?_
  refine ge_cv rfl rfl rfl (t1638 s) rfl rfl rfl (D := 5) (Nat.le_trans (by decide) hd) (c_Mo_isWord (n := n) (u := u) (t := t) (i := i_1) (r := r) s w1 hw1) ?_
  rintro v_2 -
  dsimp only [bkE, F_i0]
  refine ge_eq0 rfl (fun h_3 => ?_) (fun h_5 => ?_)
  · refine ge_run (pc' := 10) (L' := [.ref 1638, .ref w1]) (S' := [.ref 1638, .ref 1638]) 2 rfl ?_
    refine ge_getI rfl (t1638 s) rfl ?_
    refine ge_putI rfl (t1638 s) (Nat.le_of_ble_eq_true rfl) rfl (fun i_4 => ?_)
    refine ge_run (pc' := 13) (L' := [.ref 1638, .ref w1]) (S' := [.int (0 : Int32)]) 1 rfl ?_
    exact ge_retz rfl rfl (Or.inl rfl) (And.intro rfl trivial)
  · refine ge_run (pc' := 7) (L' := [.ref 1638, .ref w1]) (S' := [.int (1 : Int32)]) 1 rfl ?_
    exact ge_retz rfl rfl (Or.inr rfl) (And.intro rfl trivial)
def f_Mo_sign (i : MI) (x1 : Int32) : Option (Int32 × MI) :=
  (f_Mo_blanks i).bind (fun i_1 => (f_Mo_isAt i_1 x1 x1).bind (fun v_2 => if v_2 = 0 then (some ((0 : Int32), i_1)) else (bnd (wr i_1 1638 10 ((i_1 1638 10) + (1 : Int32))) (fun i_5 => some ((1 : Int32), i_5)))))
set_option maxHeartbeats 4000000 in
theorem c_Mo_sign {n u : Nat} {t : MT} {i : MI} {r : MR} (s : Sh n t r) (x1 : Int32) : Cn 3 229 [.ref 1638, .int x1] (n, u, t, i, r) (f_Mo_sign i x1) (F_i1 n u t r) PT := by
  refine cn_of (Y := K_Mo_sign) (L0 := [.ref 1638, .int x1]) rfl rfl rfl ?_
  intro d hd
  unfold f_Mo_sign
  refine ge_run (pc' := 1) (L' := [.ref 1638, .int x1]) (S' := [.ref 1638]) 1 rfl ?_
  refine ge_cv rfl rfl rfl (t1638 s) rfl rfl rfl (D := 2) (Nat.le_trans (by decide) hd) (c_Mo_blanks (n := n) (u := u) (t := t) (i := i) (r := r) s ) ?_
  rintro i_1 -
  dsimp only [bkE, F_v1]
  refine ge_run (pc' := 5) (L' := [.ref 1638, .int x1]) (S' := [.int x1, .int x1, .ref 1638]) 3 rfl ?_
  refine ge_cv rfl rfl rfl (t1638 s) rfl rfl rfl (D := 1) (Nat.le_trans (by decide) hd) (c_Mo_isAt (n := n) (u := u) (t := t) (i := i_1) (r := r) s x1 x1) ?_
  rintro v_2 -
  dsimp only [bkE, F_i0]
  refine ge_ne0 rfl (fun h_3 => ?_) (fun h_4 => ?_)
  · refine ge_run (pc' := 8) (L' := [.ref 1638, .int x1]) (S' := [.int (0 : Int32)]) 1 rfl ?_
    exact ge_retz rfl rfl (Or.inl rfl) (And.intro rfl trivial)
  · refine ge_run (pc' := 11) (L' := [.ref 1638, .int x1]) (S' := [.ref 1638, .ref 1638]) 2 rfl ?_
    refine ge_getI rfl (t1638 s) rfl ?_
    refine ge_run (pc' := 14) (L' := [.ref 1638, .int x1]) (S' := [.int ((i_1 1638 10) + (1 : Int32)), .ref 1638]) 2 rfl ?_
    refine ge_putI rfl (t1638 s) (Nat.le_of_ble_eq_true rfl) rfl (fun i_5 => ?_)
    refine ge_run (pc' := 16) (L' := [.ref 1638, .int x1]) (S' := [.int (1 : Int32)]) 1 rfl ?_
    exact ge_retz rfl rfl (Or.inr rfl) (And.intro rfl trivial)
def f_Mo_number (i : MI) (x1 : Int32) (x2 : Int32) : Option (Int32 × MI) :=
  (f_Mo_blanks i).bind (fun i_1 => (itr (σ := Int32 × MI) (ρ := Int32 × MI) (fun (x3_2, i_3) => (f_Mo_isAt i_3 (48 : Int32) (57 : Int32)).bind (fun v_6 => if v_6 = 0 then (some (.inr (x3_2, i_3))) else ((if ((i_3 1638 10) - (i_3 1638 12)) < (3 : Int32) then (grd (i_3 1638 10) 400 (some ((((10 : Int32) * x3_2) + (i_3 1644 (ix (i_3 1638 10)))) - (48 : Int32)))) else (some x3_2) : Option (Int32)).bind (fun y_9 => bnd (wr i_3 1638 10 ((i_3 1638 10) + (1 : Int32))) (fun i_14 => some (.inl (y_9, i_14))))))) 1000000 ((0 : Int32), i_1)).bind (fun (x3_4, i_5) => if (i_5 1638 10) = (i_5 1638 12) then (some ((-1 : Int32), i_5)) else (if (3 : Int32) < ((i_5 1638 10) - (i_5 1638 12)) then (some ((-1 : Int32), i_5)) else (if x3_4 < x1 then (some ((-1 : Int32), i_5)) else (if x2 < x3_4 then (some ((-1 : Int32), i_5)) else (some (x3_4, i_5)))))))
set_option maxHeartbeats 4000000 in
theorem c_Mo_number {n u : Nat} {t : MT} {i : MI} {r : MR} (s : Sh n t r) (x1 : Int32) (x2 : Int32) : Cn 3 230 [.ref 1638, .int x1, .int x2] (n, u, t, i, r) (f_Mo_number i x1 x2) (F_i1 n u t r) PT := by
  refine cn_of (Y := K_Mo_number) (L0 := [.ref 1638, .int x1, .int x2, uV]) rfl rfl rfl ?_
  intro d hd
  unfold f_Mo_number
  refine ge_run (pc' := 1) (L' := [.ref 1638, .int x1, .int x2, uV]) (S' := [.ref 1638]) 1 rfl ?_
  refine ge_cv rfl rfl rfl (t1638 s) rfl rfl rfl (D := 2) (Nat.le_trans (by decide) hd) (c_Mo_blanks (n := n) (u := u) (t := t) (i := i) (r := r) s ) ?_
  rintro i_1 -
  dsimp only [bkE, F_v1]
  refine ge_run (pc' := 4) (L' := [.ref 1638, .int x1, .int x2, .int (0 : Int32)]) (S' := []) 2 rfl ?_
  refine ge_bind (K1 := fun (q : Int32 × MI) e => e = .inl (37, [.ref 1638, .int x1, .int x2, .int q.1], [], (n, u, t, q.2, r))) (ge_itr (C := fun (q : Int32 × MI) e => e = .inl (4, [.ref 1638, .int x1, .int x2, .int q.1], [], (n, u, t, q.2, r))) ?_ _ _ _ rfl) ?_
  · rintro ⟨x3_2, i_3⟩ _ rfl
    try dsimp only
    refine ge_run (pc' := 7) (L' := [.ref 1638, .int x1, .int x2, .int x3_2]) (S' := [.int (57 : Int32), .int (48 : Int32), .ref 1638]) 3 rfl ?_
    refine ge_cv rfl rfl rfl (t1638 s) rfl rfl rfl (D := 1) (Nat.le_trans (by decide) hd) (c_Mo_isAt (n := n) (u := u) (t := t) (i := i_3) (r := r) s (48 : Int32) (57 : Int32)) ?_
    rintro v_6 -
    dsimp only [bkE, F_i0]
    refine ge_eq0 rfl (fun h_7 => ?_) (fun h_8 => ?_)
    · exact ge_leaf (K := kX _ _) rfl
    · refine ge_run (pc' := 10) (L' := [.ref 1638, .int x1, .int x2, .int x3_2]) (S' := [.ref 1638]) 1 rfl ?_
      refine ge_getI rfl (t1638 s) rfl ?_
      refine ge_run (pc' := 12) (L' := [.ref 1638, .int x1, .int x2, .int x3_2]) (S' := [.ref 1638, .int (i_3 1638 10)]) 1 rfl ?_
      refine ge_getI rfl (t1638 s) rfl ?_
      refine ge_run (pc' := 15) (L' := [.ref 1638, .int x1, .int x2, .int x3_2]) (S' := [.int (3 : Int32), .int ((i_3 1638 10) - (i_3 1638 12))]) 2 rfl ?_
      refine ge_bind (K1 := fun (q : Int32) e => e = .inl (29, [.ref 1638, .int x1, .int x2, .int x3_2], [.int q], (n, u, t, i_3, r))) ?_ ?_
      · refine ge_ge rfl (fun h_10 => ?_) (fun h_13 => ?_)
        · refine ge_run (pc' := 20) (L' := [.ref 1638, .int x1, .int x2, .int x3_2]) (S' := [.ref 1638, .int ((10 : Int32) * x3_2)]) 4 rfl ?_
          refine ge_getR (b := 1644) rfl (t1638 s) rfl (r1638_8 s) (Nat.le_of_ble_eq_true rfl) ?_
          refine ge_run (pc' := 22) (L' := [.ref 1638, .int x1, .int x2, .int x3_2]) (S' := [.ref 1638, .ref 1644, .int ((10 : Int32) * x3_2)]) 1 rfl ?_
          refine ge_getI rfl (t1638 s) rfl ?_
          refine ge_grd (fun g_11 g_12 => ?_)
          refine ge_bald (jn := (ix (i_3 1638 10))) rfl (Or.inl (t1644 s)) ⟨g_11, rfl⟩ g_12 ?_
          refine ge_run (pc' := 29) (L' := [.ref 1638, .int x1, .int x2, .int x3_2]) (S' := [.int ((((10 : Int32) * x3_2) + (i_3 1644 (ix (i_3 1638 10)))) - (48 : Int32))]) 4 rfl ?_
          exact ge_leaf rfl
        · refine ge_run (pc' := 29) (L' := [.ref 1638, .int x1, .int x2, .int x3_2]) (S' := [.int x3_2]) 1 rfl ?_
          exact ge_leaf rfl
      · rintro y_9 _ rfl
        try dsimp only
        refine ge_run (pc' := 32) (L' := [.ref 1638, .int x1, .int x2, .int y_9]) (S' := [.ref 1638, .ref 1638]) 3 rfl ?_
        refine ge_getI rfl (t1638 s) rfl ?_
        refine ge_run (pc' := 35) (L' := [.ref 1638, .int x1, .int x2, .int y_9]) (S' := [.int ((i_3 1638 10) + (1 : Int32)), .ref 1638]) 2 rfl ?_
        refine ge_putI rfl (t1638 s) (Nat.le_of_ble_eq_true rfl) rfl (fun i_14 => ?_)
        refine ge_run (pc' := 4) (L' := [.ref 1638, .int x1, .int x2, .int y_9]) (S' := []) 1 rfl ?_
        exact ge_leaf (K := kX _ _) rfl
  · rintro ⟨x3_4, i_5⟩ _ rfl
    try dsimp only
    refine ge_run (pc' := 38) (L' := [.ref 1638, .int x1, .int x2, .int x3_4]) (S' := [.ref 1638]) 1 rfl ?_
    refine ge_getI rfl (t1638 s) rfl ?_
    refine ge_run (pc' := 40) (L' := [.ref 1638, .int x1, .int x2, .int x3_4]) (S' := [.ref 1638, .int (i_5 1638 10)]) 1 rfl ?_
    refine ge_getI rfl (t1638 s) rfl ?_
    refine ge_eq rfl (fun h_15 => ?_) (fun h_16 => ?_)
    · refine ge_run (pc' := 58) (L' := [.ref 1638, .int x1, .int x2, .int x3_4]) (S' := [.int (-1 : Int32)]) 2 rfl ?_
      exact ge_ret rfl rfl (And.intro rfl trivial)
    · refine ge_run (pc' := 43) (L' := [.ref 1638, .int x1, .int x2, .int x3_4]) (S' := [.ref 1638]) 1 rfl ?_
      refine ge_getI rfl (t1638 s) rfl ?_
      refine ge_run (pc' := 45) (L' := [.ref 1638, .int x1, .int x2, .int x3_4]) (S' := [.ref 1638, .int (i_5 1638 10)]) 1 rfl ?_
      refine ge_getI rfl (t1638 s) rfl ?_
      refine ge_run (pc' := 48) (L' := [.ref 1638, .int x1, .int x2, .int x3_4]) (S' := [.int (3 : Int32), .int ((i_5 1638 10) - (i_5 1638 12))]) 2 rfl ?_
      refine ge_gt rfl (fun h_17 => ?_) (fun h_18 => ?_)
      · refine ge_run (pc' := 58) (L' := [.ref 1638, .int x1, .int x2, .int x3_4]) (S' := [.int (-1 : Int32)]) 2 rfl ?_
        exact ge_ret rfl rfl (And.intro rfl trivial)
      · refine ge_run (pc' := 51) (L' := [.ref 1638, .int x1, .int x2, .int x3_4]) (S' := [.int x1, .int x3_4]) 2 rfl ?_
        refine ge_lt rfl (fun h_19 => ?_) (fun h_20 => ?_)
        · refine ge_run (pc' := 58) (L' := [.ref 1638, .int x1, .int x2, .int x3_4]) (S' := [.int (-1 : Int32)]) 2 rfl ?_
          exact ge_ret rfl rfl (And.intro rfl trivial)
        · refine ge_run (pc' := 54) (L' := [.ref 1638, .int x1, .int x2, .int x3_4]) (S' := [.int x2, .int x3_4]) 2 rfl ?_
          refine ge_le rfl (fun h_21 => ?_) (fun h_22 => ?_)
          · refine ge_run (pc' := 58) (L' := [.ref 1638, .int x1, .int x2, .int x3_4]) (S' := [.int (-1 : Int32)]) 2 rfl ?_
            exact ge_ret rfl rfl (And.intro rfl trivial)
          · refine ge_run (pc' := 58) (L' := [.ref 1638, .int x1, .int x2, .int x3_4]) (S' := [.int x3_4]) 1 rfl ?_
            exact ge_ret rfl rfl (And.intro rfl trivial)
def f_Mo_behind (t : MT) (i : MI) (w1 : Nat) (x2 : Int32) (x3 : Int32) : Option (Int32 × MI) :=
  (f_Mo_letters i).bind (fun i_1 => (f_Mo_isWord t i_1 w1).bind (fun v_2 => if v_2 = 0 then (some ((-1 : Int32), i_1)) else ((f_Mo_number i_1 x2 x3).bind (fun (v_5, i_6) => some (v_5, i_6)))))
set_option maxHeartbeats 4000000 in
theorem c_Mo_behind {n u : Nat} {t : MT} {i : MI} {r : MR} (s : Sh n t r) (w1 : Nat) (hw1 : StrAd w1) (x2 : Int32) (x3 : Int32) : Cn 6 231 [.ref 1638, .ref w1, .int x2, .int x3] (n, u, t, i, r) (f_Mo_behind t i w1 x2 x3) (F_i1 n u t r) PT := by
  refine cn_of (Y := K_Mo_behind) (L0 := [.ref 1638, .ref w1, .int x2, .int x3]) rfl rfl rfl ?_
  intro d hd
  unfold f_Mo_behind
  refine ge_run (pc' := 1) (L' := [.ref 1638, .ref w1, .int x2, .int x3]) (S' := [.ref 1638]) 1 rfl ?_
  refine ge_cv rfl rfl rfl (t1638 s) rfl rfl rfl (D := 3) (Nat.le_trans (by decide) hd) (c_Mo_letters (n := n) (u := u) (t := t) (i := i) (r := r) s ) ?_
  rintro i_1 -
  dsimp only [bkE, F_v1]
  refine ge_run (pc' := 4) (L' := [.ref 1638, .ref w1, .int x2, .int x3]) (S' := [.ref w1, .ref 1638]) 2 rfl ?_
  refine ge_cv rfl rfl rfl (t1638 s) rfl rfl rfl (D := 5) (Nat.le_trans (by decide) hd) (c_Mo_isWord (n := n) (u := u) (t := t) (i := i_1) (r := r) s w1 hw1) ?_
  rintro v_2 -
  dsimp only [bkE, F_i0]
  refine ge_eq0 rfl (fun h_3 => ?_) (fun h_4 => ?_)
  · refine ge_run (pc' := 12) (L' := [.ref 1638, .ref w1, .int x2, .int x3]) (S' := [.int (-1 : Int32)]) 1 rfl ?_
    exact ge_ret rfl rfl (And.intro rfl trivial)
  · refine ge_run (pc' := 9) (L' := [.ref 1638, .ref w1, .int x2, .int x3]) (S' := [.int x3, .int x2, .ref 1638]) 3 rfl ?_
    refine ge_cv rfl rfl rfl (t1638 s) rfl rfl rfl (D := 3) (Nat.le_trans (by decide) hd) (c_Mo_number (n := n) (u := u) (t := t) (i := i_1) (r := r) s x2 x3) ?_
    rintro ⟨v_5, i_6⟩ -
    dsimp only [bkE, F_i1]
    refine ge_run (pc' := 12) (L' := [.ref 1638, .ref w1, .int x2, .int x3]) (S' := [.int v_5]) 1 rfl ?_
    exact ge_ret rfl rfl (And.intro rfl trivial)
def f_Mo_told (t : MT) (i : MI) (w1 : Nat) (x2 : Int32) (x3 : Int32) : Option (Int32 × MI) :=
  (f_Mo_passes t i w1).bind (fun (v_1, i_2) => if v_1 = 0 then (some (x3, i_2)) else ((f_Mo_number i_2 (0 : Int32) x2).bind (fun (v_5, i_6) => if v_5 < 0 then (some ((1000000 : Int32), i_6)) else (some (v_5, i_6)))))
set_option maxHeartbeats 4000000 in
theorem c_Mo_told {n u : Nat} {t : MT} {i : MI} {r : MR} (s : Sh n t r) (w1 : Nat) (hw1 : StrAd w1) (x2 : Int32) (x3 : Int32) : Cn 7 232 [.ref 1638, .ref w1, .int x2, .int x3] (n, u, t, i, r) (f_Mo_told t i w1 x2 x3) (F_i1 n u t r) PT := by
  refine cn_of (Y := K_Mo_told) (L0 := [.ref 1638, .ref w1, .int x2, .int x3, uV]) rfl rfl rfl ?_
  intro d hd
  unfold f_Mo_told
  refine ge_run (pc' := 2) (L' := [.ref 1638, .ref w1, .int x2, .int x3, uV]) (S' := [.ref w1, .ref 1638]) 2 rfl ?_
  refine ge_cv rfl rfl rfl (t1638 s) rfl rfl rfl (D := 6) (Nat.le_trans (by decide) hd) (c_Mo_passes (n := n) (u := u) (t := t) (i := i) (r := r) s w1 hw1) ?_
  rintro ⟨v_1, i_2⟩ -
  dsimp only [bkE, F_i1]
  refine ge_ne0 rfl (fun h_3 => ?_) (fun h_4 => ?_)
  · refine ge_run (pc' := 5) (L' := [.ref 1638, .ref w1, .int x2, .int x3, uV]) (S' := [.int x3]) 1 rfl ?_
    exact ge_ret rfl rfl (And.intro rfl trivial)
  · refine ge_run (pc' := 9) (L' := [.ref 1638, .ref w1, .int x2, .int x3, uV]) (S' := [.int x2, .int (0 : Int32), .ref 1638]) 3 rfl ?_
    refine ge_cv rfl rfl rfl (t1638 s) rfl rfl rfl (D := 3) (Nat.le_trans (by decide) hd) (c_Mo_number (n := n) (u := u) (t := t) (i := i_2) (r := r) s (0 : Int32) x2) ?_
    rintro ⟨v_5, i_6⟩ -
    dsimp only [bkE, F_i1]
    refine ge_run (pc' := 12) (L' := [.ref 1638, .ref w1, .int x2, .int x3, .int v_5]) (S' := [.int v_5]) 2 rfl ?_
    refine ge_ge0 rfl (fun h_7 => ?_) (fun h_8 => ?_)
    · refine ge_run (pc' := 16) (L' := [.ref 1638, .ref w1, .int x2, .int x3, .int v_5]) (S' := [.int (1000000 : Int32)]) 2 rfl ?_
      exact ge_ret rfl rfl (And.intro rfl trivial)
    · refine ge_run (pc' := 16) (L' := [.ref 1638, .ref w1, .int x2, .int x3, .int v_5]) (S' := [.int v_5]) 1 rfl ?_
      exact ge_ret rfl rfl (And.intro rfl trivial)
def f_Mo_fault (i : MI) : Option (Int32 × MI) :=
  bnd (wr i 1638 0 (0 : Int32)) (fun i_1 => some ((i_1 1638 14), i_1))
set_option maxHeartbeats 4000000 in
theorem c_Mo_fault {n u : Nat} {t : MT} {i : MI} {r : MR} (s : Sh n t r)  : Cn 1 233 [.ref 1638] (n, u, t, i, r) (f_Mo_fault i ) (F_i1 n u t r) PT := by
  refine cn_of (Y := K_Mo_fault) (L0 := [.ref 1638]) rfl rfl rfl ?_
  intro d hd
  unfold f_Mo_fault
  refine ge_run (pc' := 2) (L' := [.ref 1638]) (S' := [.int (0 : Int32), .ref 1638]) 2 rfl ?_
  refine ge_putI rfl (t1638 s) (Nat.le_of_ble_eq_true rfl) rfl (fun i_1 => ?_)
  refine ge_run (pc' := 4) (L' := [.ref 1638]) (S' := [.ref 1638]) 1 rfl ?_
  refine ge_getI rfl (t1638 s) rfl ?_
  exact ge_ret rfl rfl (And.intro rfl trivial)
def f_Mo_uses (i : MI) : Option (MI) :=
  bnd (wr i 1638 0 (0 : Int32)) (fun i_1 => bnd (wr i_1 1638 11 (i_1 1638 9)) (fun i_2 => bnd (wr i_2 1638 9 (0 : Int32)) (fun i_3 => bnd (wr i_3 1638 10 (0 : Int32)) (fun i_4 => some i_4))))
set_option maxHeartbeats 4000000 in
theorem c_Mo_uses {n u : Nat} {t : MT} {i : MI} {r : MR} (s : Sh n t r)  : Cn 1 234 [.ref 1638] (n, u, t, i, r) (f_Mo_uses i ) (F_v1 n u t r) PT := by
  refine cn_of (Y := K_Mo_uses) (L0 := [.ref 1638]) rfl rfl rfl ?_
  intro d hd
  unfold f_Mo_uses
  refine ge_run (pc' := 2) (L' := [.ref 1638]) (S' := [.int (0 : Int32), .ref 1638]) 2 rfl ?_
  refine ge_putI rfl (t1638 s) (Nat.le_of_ble_eq_true rfl) rfl (fun i_1 => ?_)
  refine ge_run (pc' := 5) (L' := [.ref 1638]) (S' := [.ref 1638, .ref 1638]) 2 rfl ?_
  refine ge_getI rfl (t1638 s) rfl ?_
  refine ge_putI rfl (t1638 s) (Nat.le_of_ble_eq_true rfl) rfl (fun i_2 => ?_)
  refine ge_run (pc' := 9) (L' := [.ref 1638]) (S' := [.int (0 : Int32), .ref 1638]) 2 rfl ?_
  refine ge_putI rfl (t1638 s) (Nat.le_of_ble_eq_true rfl) rfl (fun i_3 => ?_)
  refine ge_run (pc' := 12) (L' := [.ref 1638]) (S' := [.int (0 : Int32), .ref 1638]) 2 rfl ?_
  refine ge_putI rfl (t1638 s) (Nat.le_of_ble_eq_true rfl) rfl (fun i_4 => ?_)
  exact ge_retv rfl rfl (And.intro rfl trivial)
def f_Mo_readNumber (i : MI) (x1 : Int32) (x2 : Int32) (x3 : Int32) : Option (Int32 × MI) :=
  (f_Mo_number i x2 x3).bind (fun (v_1, i_2) => (if v_1 < 0 then (grd x1 2115 (some (i_2 1639 (ix x1)))) else (some v_1) : Option (Int32)).bind (fun y_3 => grd x1 2115 (bnd (wr i_2 1639 (ix x1) y_3) (fun i_10 => if v_1 < 0 then (some ((0 : Int32), i_10)) else (some ((1 : Int32), i_10))))))
set_option maxHeartbeats 4000000 in
theorem c_Mo_readNumber {n u : Nat} {t : MT} {i : MI} {r : MR} (s : Sh n t r) (x1 : Int32) (x2 : Int32) (x3 : Int32) : Cn 4 235 [.ref 1638, .int x1, .int x2, .int x3] (n, u, t, i, r) (f_Mo_readNumber i x1 x2 x3) (F_i1 n u t r) PT := by
  refine cn_of (Y := K_Mo_readNumber) (L0 := [.ref 1638, .int x1, .int x2, .int x3, uV]) rfl rfl rfl ?_
  intro d hd
  unfold f_Mo_readNumber
  refine ge_run (pc' := 3) (L' := [.ref 1638, .int x1, .int x2, .int x3, uV]) (S' := [.int x3, .int x2, .ref 1638]) 3 rfl ?_
  refine ge_cv rfl rfl rfl (t1638 s) rfl rfl rfl (D := 3) (Nat.le_trans (by decide) hd) (c_Mo_number (n := n) (u := u) (t := t) (i := i) (r := r) s x2 x3) ?_
  rintro ⟨v_1, i_2⟩ -
  dsimp only [bkE, F_i1]
  refine ge_run (pc' := 6) (L' := [.ref 1638, .int x1, .int x2, .int x3, .int v_1]) (S' := [.ref 1638]) 2 rfl ?_
  refine ge_getR (b := 1639) rfl (t1638 s) rfl (r1638_1 s) (Nat.le_of_ble_eq_true rfl) ?_
  refine ge_run (pc' := 9) (L' := [.ref 1638, .int x1, .int x2, .int x3, .int v_1]) (S' := [.int v_1, .int x1, .ref 1639]) 2 rfl ?_
  refine ge_bind (K1 := fun (q : Int32) e => e = .inl (16, [.ref 1638, .int x1, .int x2, .int x3, .int v_1], [.int q, .int x1, .ref 1639], (n, u, t, i_2, r))) ?_ ?_
  · refine ge_ge0 rfl (fun h_4 => ?_) (fun h_7 => ?_)
    · refine ge_run (pc' := 11) (L' := [.ref 1638, .int x1, .int x2, .int x3, .int v_1]) (S' := [.ref 1638, .int x1, .ref 1639]) 1 rfl ?_
      refine ge_getR (b := 1639) rfl (t1638 s) rfl (r1638_1 s) (Nat.le_of_ble_eq_true rfl) ?_
      refine ge_run (pc' := 13) (L' := [.ref 1638, .int x1, .int x2, .int x3, .int v_1]) (S' := [.int x1, .ref 1639, .int x1, .ref 1639]) 1 rfl ?_
      refine ge_grd (fun g_5 g_6 => ?_)
      refine ge_iald (jn := (ix x1)) rfl (t1639 s) ⟨g_5, rfl⟩ g_6 ?_
      refine ge_run (pc' := 16) (L' := [.ref 1638, .int x1, .int x2, .int x3, .int v_1]) (S' := [.int (i_2 1639 (ix x1)), .int x1, .ref 1639]) 1 rfl ?_
      exact ge_leaf rfl
    · refine ge_run (pc' := 16) (L' := [.ref 1638, .int x1, .int x2, .int x3, .int v_1]) (S' := [.int v_1, .int x1, .ref 1639]) 1 rfl ?_
      exact ge_leaf rfl
  · rintro y_3 _ rfl
    try dsimp only
    refine ge_grd (fun g_8 g_9 => ?_)
    refine ge_iast (jn := (ix x1)) rfl (t1639 s) (Nat.le_of_ble_eq_true rfl) ⟨g_8, rfl⟩ g_9 (fun i_10 => ?_)
    refine ge_run (pc' := 18) (L' := [.ref 1638, .int x1, .int x2, .int x3, .int v_1]) (S' := [.int v_1]) 1 rfl ?_
    refine ge_lt0 rfl (fun h_11 => ?_) (fun h_12 => ?_)
    · refine ge_run (pc' := 22) (L' := [.ref 1638, .int x1, .int x2, .int x3, .int v_1]) (S' := [.int (0 : Int32)]) 1 rfl ?_
      exact ge_retz rfl rfl (Or.inl rfl) (And.intro rfl trivial)
    · refine ge_run (pc' := 22) (L' := [.ref 1638, .int x1, .int x2, .int x3, .int v_1]) (S' := [.int (1 : Int32)]) 2 rfl ?_
      exact ge_retz rfl rfl (Or.inr rfl) (And.intro rfl trivial)
def f_Mo_wordOfWay (t : MT) (i : MI) : Option (Int32 × MI) :=
  (f_Mo_letters i).bind (fun i_1 => (f_Mo_isWord t i_1 118).bind (fun v_2 => if v_2 = 0 then ((f_Mo_isWord t i_1 120).bind (fun v_4 => if v_4 = 0 then ((f_Mo_isWord t i_1 122).bind (fun v_6 => if v_6 = 0 then ((f_Mo_isWord t i_1 124).bind (fun v_8 => if v_8 = 0 then ((f_Mo_isWord t i_1 126).bind (fun v_10 => if v_10 = 0 then (some ((-1 : Int32), i_1)) else (some ((4 : Int32), i_1)))) else (some ((3 : Int32), i_1)))) else (some ((2 : Int32), i_1)))) else (some ((1 : Int32), i_1)))) else (some ((0 : Int32), i_1))))
set_option maxHeartbeats 4000000 in
theorem c_Mo_wordOfWay {n u : Nat} {t : MT} {i : MI} {r : MR} (s : Sh n t r)  : Cn 6 236 [.ref 1638] (n, u, t, i, r) (f_Mo_wordOfWay t i ) (F_i1 n u t r) PT := by
  refine cn_of (Y := K_Mo_wordOfWay) (L0 := [.ref 1638]) rfl rfl rfl ?_
  intro d hd
  unfold f_Mo_wordOfWay
  refine ge_run (pc' := 1) (L' := [.ref 1638]) (S' := [.ref 1638]) 1 rfl ?_
  refine ge_cv rfl rfl rfl (t1638 s) rfl rfl rfl (D := 3) (Nat.le_trans (by decide) hd) (c_Mo_letters (n := n) (u := u) (t := t) (i := i) (r := r) s ) ?_
  rintro i_1 -
  dsimp only [bkE, F_v1]
  refine ge_run (pc' := 4) (L' := [.ref 1638]) (S' := [.ref 118, .ref 1638]) 2 rfl ?_
  refine ge_cv rfl rfl rfl (t1638 s) rfl rfl rfl (D := 5) (Nat.le_trans (by decide) hd) (c_Mo_isWord (n := n) (u := u) (t := t) (i := i_1) (r := r) s 118 (strAd 58)) ?_
  rintro v_2 -
  dsimp only [bkE, F_i0]
  refine ge_eq0 rfl (fun h_3 => ?_) (fun h_16 => ?_)
  · refine ge_run (pc' := 10) (L' := [.ref 1638]) (S' := [.ref 120, .ref 1638]) 2 rfl ?_
    refine ge_cv rfl rfl rfl (t1638 s) rfl rfl rfl (D := 5) (Nat.le_trans (by decide) hd) (c_Mo_isWord (n := n) (u := u) (t := t) (i := i_1) (r := r) s 120 (strAd 59)) ?_
    rintro v_4 -
    dsimp only [bkE, F_i0]
    refine ge_eq0 rfl (fun h_5 => ?_) (fun h_15 => ?_)
    · refine ge_run (pc' := 16) (L' := [.ref 1638]) (S' := [.ref 122, .ref 1638]) 2 rfl ?_
      refine ge_cv rfl rfl rfl (t1638 s) rfl rfl rfl (D := 5) (Nat.le_trans (by decide) hd) (c_Mo_isWord (n := n) (u := u) (t := t) (i := i_1) (r := r) s 122 (strAd 60)) ?_
      rintro v_6 -
      dsimp only [bkE, F_i0]
      refine ge_eq0 rfl (fun h_7 => ?_) (fun h_14 => ?_)
      · refine ge_run (pc' := 22) (L' := [.ref 1638]) (S' := [.ref 124, .ref 1638]) 2 rfl ?_
        refine ge_cv rfl rfl rfl (t1638 s) rfl rfl rfl (D := 5) (Nat.le_trans (by decide) hd) (c_Mo_isWord (n := n) (u := u) (t := t) (i := i_1) (r := r) s 124 (strAd 61)) ?_
        rintro v_8 -
        dsimp only [bkE, F_i0]
        refine ge_eq0 rfl (fun h_9 => ?_) (fun h_13 => ?_)
        · refine ge_run (pc' := 28) (L' := [.ref 1638]) (S' := [.ref 126, .ref 1638]) 2 rfl ?_
          refine ge_cv rfl rfl rfl (t1638 s) rfl rfl rfl (D := 5) (Nat.le_trans (by decide) hd) (c_Mo_isWord (n := n) (u := u) (t := t) (i := i_1) (r := r) s 126 (strAd 62)) ?_
          rintro v_10 -
          dsimp only [bkE, F_i0]
          refine ge_eq0 rfl (fun h_11 => ?_) (fun h_12 => ?_)
          · refine ge_run (pc' := 33) (L' := [.ref 1638]) (S' := [.int (-1 : Int32)]) 1 rfl ?_
            exact ge_ret rfl rfl (And.intro rfl trivial)
          · refine ge_run (pc' := 33) (L' := [.ref 1638]) (S' := [.int (4 : Int32)]) 2 rfl ?_
            exact ge_ret rfl rfl (And.intro rfl trivial)
        · refine ge_run (pc' := 25) (L' := [.ref 1638]) (S' := [.int (3 : Int32)]) 1 rfl ?_
          exact ge_ret rfl rfl (And.intro rfl trivial)
      · refine ge_run (pc' := 19) (L' := [.ref 1638]) (S' := [.int (2 : Int32)]) 1 rfl ?_
        exact ge_ret rfl rfl (And.intro rfl trivial)
    · refine ge_run (pc' := 13) (L' := [.ref 1638]) (S' := [.int (1 : Int32)]) 1 rfl ?_
      exact ge_ret rfl rfl (And.intro rfl trivial)
  · refine ge_run (pc' := 7) (L' := [.ref 1638]) (S' := [.int (0 : Int32)]) 1 rfl ?_
    exact ge_ret rfl rfl (And.intro rfl trivial)
def f_Mo_readCurrent (t : MT) (i : MI) : Option (Int32 × MI) :=
  (f_Mo_number i (0 : Int32) (24 : Int32)).bind (fun (v_1, i_2) => if v_1 < 0 then (some ((0 : Int32), i_2)) else ((f_Mo_wordOfWay t i_2).bind (fun (v_5, i_6) => (if v_5 = (-1 : Int32) then (some (0 : Int32)) else (some (1 : Int32)) : Option (Int32)).bind (fun y_7 => (itr (σ := Int32 × Int32 × Int32 × MI) (ρ := Int32 × MI) (fun (x1_10, x2_11, x3_12, i_13) => if x2_11 = (-1 : Int32) then (some (.inr (x3_12, i_13))) else (if x3_12 = 0 then (some (.inr (x3_12, i_13))) else ((if x1_10 < (25 : Int32) then (some (1 : Int32)) else (some (0 : Int32)) : Option (Int32)).bind (fun y_24 => (if y_24 = 0 then (some i_13) else (grd ((11 : Int32) + x1_10) 2115 (bnd (wr i_13 1639 (ix ((11 : Int32) + x1_10)) x2_11) (fun i_32 => some i_32))) : Option (MI)).bind (fun i_27 => (if y_24 = 0 then (some ((-1 : Int32), i_27)) else ((f_Mo_wordOfWay t i_27).bind (fun (v_37, i_38) => some (v_37, i_38))) : Option (Int32 × MI)).bind (fun (y_33, i_34) => (if y_33 = (-1 : Int32) then (if y_24 = 0 then (some i_34) else (bnd (wr i_34 1638 10 (i_27 1638 10)) (fun i_43 => some i_43))) else (some i_34) : Option (MI)).bind (fun i_39 => some (.inl ((x1_10 + (1 : Int32)), y_33, y_24, i_39))))))))) 1000000 (v_1, v_5, y_7, i_6)).bind (fun (x3_15, i_16) => grd2 (decide (x3_15 = 0 ∨ x3_15 = 1)) (some (x3_15, i_16)))))))
set_option maxHeartbeats 4000000 in
theorem c_Mo_readCurrent {n u : Nat} {t : MT} {i : MI} {r : MR} (s : Sh n t r)  : Cn 7 237 [.ref 1638] (n, u, t, i, r) (f_Mo_readCurrent t i ) (F_i1 n u t r) PT := by
  refine cn_of (Y := K_Mo_readCurrent) (L0 := [.ref 1638, uV, uV, uV, uV]) rfl rfl rfl ?_
  intro d hd
  unfold f_Mo_readCurrent
  refine ge_run (pc' := 3) (L' := [.ref 1638, uV, uV, uV, uV]) (S' := [.int (24 : Int32), .int (0 : Int32), .ref 1638]) 3 rfl ?_
  refine ge_cv rfl rfl rfl (t1638 s) rfl rfl rfl (D := 3) (Nat.le_trans (by decide) hd) (c_Mo_number (n := n) (u := u) (t := t) (i := i) (r := r) s (0 : Int32) (24 : Int32)) ?_
  rintro ⟨v_1, i_2⟩ -
  dsimp only [bkE, F_i1]
  refine ge_run (pc' := 6) (L' := [.ref 1638, .int v_1, uV, uV, uV]) (S' := [.int v_1]) 2 rfl ?_
  refine ge_ge0 rfl (fun h_3 => ?_) (fun h_4 => ?_)
  · refine ge_run (pc' := 8) (L' := [.ref 1638, .int v_1, uV, uV, uV]) (S' := [.int (0 : Int32)]) 1 rfl ?_
    exact ge_retz rfl rfl (Or.inl rfl) (And.intro rfl trivial)
  · refine ge_run (pc' := 10) (L' := [.ref 1638, .int v_1, uV, uV, uV]) (S' := [.ref 1638]) 1 rfl ?_
    refine ge_cv rfl rfl rfl (t1638 s) rfl rfl rfl (D := 6) (Nat.le_trans (by decide) hd) (c_Mo_wordOfWay (n := n) (u := u) (t := t) (i := i_2) (r := r) s ) ?_
    rintro ⟨v_5, i_6⟩ -
    dsimp only [bkE, F_i1]
    refine ge_run (pc' := 14) (L' := [.ref 1638, .int v_1, .int v_5, uV, uV]) (S' := [.int (-1 : Int32), .int v_5]) 3 rfl ?_
    refine ge_bind (K1 := fun (q : Int32) e => e = .inl (18, [.ref 1638, .int v_1, .int v_5, uV, uV], [.int q], (n, u, t, i_6, r))) ?_ ?_
    · refine ge_eq rfl (fun h_8 => ?_) (fun h_9 => ?_)
      · refine ge_run (pc' := 18) (L' := [.ref 1638, .int v_1, .int v_5, uV, uV]) (S' := [.int (0 : Int32)]) 1 rfl ?_
        exact ge_leaf rfl
      · refine ge_run (pc' := 18) (L' := [.ref 1638, .int v_1, .int v_5, uV, uV]) (S' := [.int (1 : Int32)]) 2 rfl ?_
        exact ge_leaf rfl
    · rintro y_7 _ rfl
      try dsimp only
      refine ge_run (pc' := 19) (L' := [.ref 1638, .int v_1, .int v_5, .int y_7, uV]) (S' := []) 1 rfl ?_
      refine ge_bind (K1 := fun (q : Int32 × MI) e => ∃ w_17 w_18 w_19 : Value, e = .inl (60, [.ref 1638, w_17, w_18, .int q.1, w_19], [], (n, u, t, q.2, r))) (ge_itr (C := fun (q : Int32 × Int32 × Int32 × MI) e => ∃ w_14 : Value, e = .inl (19, [.ref 1638, .int q.1, .int q.2.1, .int q.2.2.1, w_14], [], (n, u, t, q.2.2.2, r))) ?_ _ _ _ (Exists.intro _ rfl)) ?_
      · rintro ⟨x1_10, x2_11, x3_12, i_13⟩ _ ⟨w_14, rfl⟩
        try dsimp only
        refine ge_run (pc' := 21) (L' := [.ref 1638, .int x1_10, .int x2_11, .int x3_12, w_14]) (S' := [.int (-1 : Int32), .int x2_11]) 2 rfl ?_
        refine ge_eq rfl (fun h_20 => ?_) (fun h_21 => ?_)
        · exact ge_leaf (K := kX _ _) (Exists.intro _ (Exists.intro _ (Exists.intro _ rfl)))
        · refine ge_run (pc' := 23) (L' := [.ref 1638, .int x1_10, .int x2_11, .int x3_12, w_14]) (S' := [.int x3_12]) 1 rfl ?_
          refine ge_eq0 rfl (fun h_22 => ?_) (fun h_23 => ?_)
          · exact ge_leaf (K := kX _ _) (Exists.intro _ (Exists.intro _ (Exists.intro _ rfl)))
          · refine ge_run (pc' := 26) (L' := [.ref 1638, .int x1_10, .int x2_11, .int x3_12, w_14]) (S' := [.int (25 : Int32), .int x1_10]) 2 rfl ?_
            refine ge_bind (K1 := fun (q : Int32) e => e = .inl (30, [.ref 1638, .int x1_10, .int x2_11, .int x3_12, w_14], [.int q], (n, u, t, i_13, r))) ?_ ?_
            · refine ge_ge rfl (fun h_25 => ?_) (fun h_26 => ?_)
              · refine ge_run (pc' := 30) (L' := [.ref 1638, .int x1_10, .int x2_11, .int x3_12, w_14]) (S' := [.int (1 : Int32)]) 2 rfl ?_
                exact ge_leaf rfl
              · refine ge_run (pc' := 30) (L' := [.ref 1638, .int x1_10, .int x2_11, .int x3_12, w_14]) (S' := [.int (0 : Int32)]) 1 rfl ?_
                exact ge_leaf rfl
            · rintro y_24 _ rfl
              try dsimp only
              refine ge_run (pc' := 32) (L' := [.ref 1638, .int x1_10, .int x2_11, .int y_24, w_14]) (S' := [.int y_24]) 2 rfl ?_
              refine ge_bind (K1 := fun (q : MI) e => e = .inl (40, [.ref 1638, .int x1_10, .int x2_11, .int y_24, w_14], [], (n, u, t, q, r))) ?_ ?_
              · refine ge_eq0 rfl (fun h_28 => ?_) (fun h_29 => ?_)
                · exact ge_leaf rfl
                · refine ge_run (pc' := 34) (L' := [.ref 1638, .int x1_10, .int x2_11, .int y_24, w_14]) (S' := [.ref 1638]) 1 rfl ?_
                  refine ge_getR (b := 1639) rfl (t1638 s) rfl (r1638_1 s) (Nat.le_of_ble_eq_true rfl) ?_
                  refine ge_run (pc' := 39) (L' := [.ref 1638, .int x1_10, .int x2_11, .int y_24, w_14]) (S' := [.int x2_11, .int ((11 : Int32) + x1_10), .ref 1639]) 4 rfl ?_
                  refine ge_grd (fun g_30 g_31 => ?_)
                  refine ge_iast (jn := (ix ((11 : Int32) + x1_10))) rfl (t1639 s) (Nat.le_of_ble_eq_true rfl) ⟨g_30, rfl⟩ g_31 (fun i_32 => ?_)
                  exact ge_leaf rfl
              · rintro i_27 _ rfl
                try dsimp only
                refine ge_run (pc' := 42) (L' := [.ref 1638, .int (x1_10 + (1 : Int32)), .int x2_11, .int y_24, w_14]) (S' := [.ref 1638]) 2 rfl ?_
                refine ge_getI rfl (t1638 s) rfl ?_
                refine ge_run (pc' := 45) (L' := [.ref 1638, .int (x1_10 + (1 : Int32)), .int x2_11, .int y_24, .int (i_27 1638 10)]) (S' := [.int y_24]) 2 rfl ?_
                refine ge_bind (K1 := fun (q : Int32 × MI) e => e = .inl (50, [.ref 1638, .int (x1_10 + (1 : Int32)), .int x2_11, .int y_24, .int (i_27 1638 10)], [.int q.1], (n, u, t, q.2, r))) ?_ ?_
                · refine ge_eq0 rfl (fun h_35 => ?_) (fun h_36 => ?_)
                  · refine ge_run (pc' := 50) (L' := [.ref 1638, .int (x1_10 + (1 : Int32)), .int x2_11, .int y_24, .int (i_27 1638 10)]) (S' := [.int (-1 : Int32)]) 1 rfl ?_
                    exact ge_leaf rfl
                  · refine ge_run (pc' := 47) (L' := [.ref 1638, .int (x1_10 + (1 : Int32)), .int x2_11, .int y_24, .int (i_27 1638 10)]) (S' := [.ref 1638]) 1 rfl ?_
                    refine ge_cv rfl rfl rfl (t1638 s) rfl rfl rfl (D := 6) (Nat.le_trans (by decide) hd) (c_Mo_wordOfWay (n := n) (u := u) (t := t) (i := i_27) (r := r) s ) ?_
                    rintro ⟨v_37, i_38⟩ -
                    dsimp only [bkE, F_i1]
                    refine ge_run (pc' := 50) (L' := [.ref 1638, .int (x1_10 + (1 : Int32)), .int x2_11, .int y_24, .int (i_27 1638 10)]) (S' := [.int v_37]) 1 rfl ?_
                    exact ge_leaf rfl
                · rintro ⟨y_33, i_34⟩ _ rfl
                  try dsimp only
                  refine ge_run (pc' := 53) (L' := [.ref 1638, .int (x1_10 + (1 : Int32)), .int y_33, .int y_24, .int (i_27 1638 10)]) (S' := [.int (-1 : Int32), .int y_33]) 3 rfl ?_
                  refine ge_bind (K1 := fun (q : MI) e => e = .inl (59, [.ref 1638, .int (x1_10 + (1 : Int32)), .int y_33, .int y_24, .int (i_27 1638 10)], [], (n, u, t, q, r))) ?_ ?_
                  · refine ge_ne rfl (fun h_40 => ?_) (fun h_44 => ?_)
                    · refine ge_run (pc' := 55) (L' := [.ref 1638, .int (x1_10 + (1 : Int32)), .int y_33, .int y_24, .int (i_27 1638 10)]) (S' := [.int y_24]) 1 rfl ?_
                      refine ge_eq0 rfl (fun h_41 => ?_) (fun h_42 => ?_)
                      · exact ge_leaf rfl
                      · refine ge_run (pc' := 58) (L' := [.ref 1638, .int (x1_10 + (1 : Int32)), .int y_33, .int y_24, .int (i_27 1638 10)]) (S' := [.int (i_27 1638 10), .ref 1638]) 2 rfl ?_
                        refine ge_putI rfl (t1638 s) (Nat.le_of_ble_eq_true rfl) rfl (fun i_43 => ?_)
                        exact ge_leaf rfl
                    · exact ge_leaf rfl
                  · rintro i_39 _ rfl
                    try dsimp only
                    refine ge_run (pc' := 19) (L' := [.ref 1638, .int (x1_10 + (1 : Int32)), .int y_33, .int y_24, .int (i_27 1638 10)]) (S' := []) 1 rfl ?_
                    exact ge_leaf (K := kX _ _) (Exists.intro _ rfl)
      · rintro ⟨x3_15, i_16⟩ _ ⟨w_17, w_18, w_19, rfl⟩
        try dsimp only
        refine ge_run (pc' := 61) (L' := [.ref 1638, w_17, w_18, .int x3_15, w_19]) (S' := [.int x3_15]) 1 rfl ?_
        exact ge_retZ rfl rfl (And.intro rfl trivial)
def f_Mo_wordOfKind (t : MT) (i : MI) : Option (Int32 × MI) :=
  (f_Mo_letters i).bind (fun i_1 => (f_Mo_isWord t i_1 130).bind (fun v_2 => if v_2 = 0 then ((f_Mo_isWord t i_1 132).bind (fun v_4 => if v_4 = 0 then ((f_Mo_isWord t i_1 134).bind (fun v_6 => if v_6 = 0 then ((f_Mo_isWord t i_1 136).bind (fun v_8 => if v_8 = 0 then (some ((-1 : Int32), i_1)) else (some ((3 : Int32), i_1)))) else (some ((2 : Int32), i_1)))) else (some ((1 : Int32), i_1)))) else (some ((0 : Int32), i_1))))
set_option maxHeartbeats 4000000 in
theorem c_Mo_wordOfKind {n u : Nat} {t : MT} {i : MI} {r : MR} (s : Sh n t r)  : Cn 6 238 [.ref 1638] (n, u, t, i, r) (f_Mo_wordOfKind t i ) (F_i1 n u t r) PT := by
  refine cn_of (Y := K_Mo_wordOfKind) (L0 := [.ref 1638]) rfl rfl rfl ?_
  intro d hd
  unfold f_Mo_wordOfKind
  refine ge_run (pc' := 1) (L' := [.ref 1638]) (S' := [.ref 1638]) 1 rfl ?_
  refine ge_cv rfl rfl rfl (t1638 s) rfl rfl rfl (D := 3) (Nat.le_trans (by decide) hd) (c_Mo_letters (n := n) (u := u) (t := t) (i := i) (r := r) s ) ?_
  rintro i_1 -
  dsimp only [bkE, F_v1]
  refine ge_run (pc' := 4) (L' := [.ref 1638]) (S' := [.ref 130, .ref 1638]) 2 rfl ?_
  refine ge_cv rfl rfl rfl (t1638 s) rfl rfl rfl (D := 5) (Nat.le_trans (by decide) hd) (c_Mo_isWord (n := n) (u := u) (t := t) (i := i_1) (r := r) s 130 (strAd 64)) ?_
  rintro v_2 -
  dsimp only [bkE, F_i0]
  refine ge_eq0 rfl (fun h_3 => ?_) (fun h_13 => ?_)
  · refine ge_run (pc' := 10) (L' := [.ref 1638]) (S' := [.ref 132, .ref 1638]) 2 rfl ?_
    refine ge_cv rfl rfl rfl (t1638 s) rfl rfl rfl (D := 5) (Nat.le_trans (by decide) hd) (c_Mo_isWord (n := n) (u := u) (t := t) (i := i_1) (r := r) s 132 (strAd 65)) ?_
    rintro v_4 -
    dsimp only [bkE, F_i0]
    refine ge_eq0 rfl (fun h_5 => ?_) (fun h_12 => ?_)
    · refine ge_run (pc' := 16) (L' := [.ref 1638]) (S' := [.ref 134, .ref 1638]) 2 rfl ?_
      refine ge_cv rfl rfl rfl (t1638 s) rfl rfl rfl (D := 5) (Nat.le_trans (by decide) hd) (c_Mo_isWord (n := n) (u := u) (t := t) (i := i_1) (r := r) s 134 (strAd 66)) ?_
      rintro v_6 -
      dsimp only [bkE, F_i0]
      refine ge_eq0 rfl (fun h_7 => ?_) (fun h_11 => ?_)
      · refine ge_run (pc' := 22) (L' := [.ref 1638]) (S' := [.ref 136, .ref 1638]) 2 rfl ?_
        refine ge_cv rfl rfl rfl (t1638 s) rfl rfl rfl (D := 5) (Nat.le_trans (by decide) hd) (c_Mo_isWord (n := n) (u := u) (t := t) (i := i_1) (r := r) s 136 (strAd 67)) ?_
        rintro v_8 -
        dsimp only [bkE, F_i0]
        refine ge_eq0 rfl (fun h_9 => ?_) (fun h_10 => ?_)
        · refine ge_run (pc' := 27) (L' := [.ref 1638]) (S' := [.int (-1 : Int32)]) 1 rfl ?_
          exact ge_ret rfl rfl (And.intro rfl trivial)
        · refine ge_run (pc' := 27) (L' := [.ref 1638]) (S' := [.int (3 : Int32)]) 2 rfl ?_
          exact ge_ret rfl rfl (And.intro rfl trivial)
      · refine ge_run (pc' := 19) (L' := [.ref 1638]) (S' := [.int (2 : Int32)]) 1 rfl ?_
        exact ge_ret rfl rfl (And.intro rfl trivial)
    · refine ge_run (pc' := 13) (L' := [.ref 1638]) (S' := [.int (1 : Int32)]) 1 rfl ?_
      exact ge_ret rfl rfl (And.intro rfl trivial)
  · refine ge_run (pc' := 7) (L' := [.ref 1638]) (S' := [.int (0 : Int32)]) 1 rfl ?_
    exact ge_ret rfl rfl (And.intro rfl trivial)
def f_Mo_isFish (i : MI) (x1 : Int32) (x2 : Int32) (x3 : Int32) (x4 : Int32) : Option (MI) :=
  (f_Mo_fishes i).bind (fun v_1 => (f_Mo_fishAt v_1 (0 : Int32)).bind (fun v_2 => grd v_2 2115 (bnd (wr i 1639 (ix v_2) x1) (fun i_5 => (f_Mo_fishAt v_1 (1 : Int32)).bind (fun v_6 => grd v_6 2115 (bnd (wr i_5 1639 (ix v_6) x3) (fun i_9 => (f_Mo_fishAt v_1 (2 : Int32)).bind (fun v_10 => grd v_10 2115 (bnd (wr i_9 1639 (ix v_10) x4) (fun i_13 => (f_Mo_fishAt v_1 (3 : Int32)).bind (fun v_14 => grd v_14 2115 (bnd (wr i_13 1639 (ix v_14) (0 : Int32)) (fun i_17 => (f_Mo_fishAt v_1 (4 : Int32)).bind (fun v_18 => grd v_18 2115 (bnd (wr i_17 1639 (ix v_18) x2) (fun i_21 => bnd (wr i_21 1639 0 ((i_21 1639 0) + (1 : Int32))) (fun i_22 => some i_22)))))))))))))))))
set_option maxHeartbeats 4000000 in
theorem c_Mo_isFish {n u : Nat} {t : MT} {i : MI} {r : MR} (s : Sh n t r) (x1 : Int32) (x2 : Int32) (x3 : Int32) (x4 : Int32) : Cn 2 239 [.ref 1638, .int x1, .int x2, .int x3, .int x4] (n, u, t, i, r) (f_Mo_isFish i x1 x2 x3 x4) (F_v1 n u t r) PT := by
  refine cn_of (Y := K_Mo_isFish) (L0 := [.ref 1638, .int x1, .int x2, .int x3, .int x4, uV]) rfl rfl rfl ?_
  intro d hd
  unfold f_Mo_isFish
  refine ge_run (pc' := 1) (L' := [.ref 1638, .int x1, .int x2, .int x3, .int x4, uV]) (S' := [.ref 1638]) 1 rfl ?_
  refine ge_cv rfl rfl rfl (t1638 s) rfl rfl rfl (D := 1) (Nat.le_trans (by decide) hd) (c_Mo_fishes (n := n) (u := u) (t := t) (i := i) (r := r) s ) ?_
  rintro v_1 -
  dsimp only [bkE, F_i0]
  refine ge_run (pc' := 4) (L' := [.ref 1638, .int x1, .int x2, .int x3, .int x4, .int v_1]) (S' := [.ref 1638]) 2 rfl ?_
  refine ge_getR (b := 1639) rfl (t1638 s) rfl (r1638_1 s) (Nat.le_of_ble_eq_true rfl) ?_
  refine ge_run (pc' := 7) (L' := [.ref 1638, .int x1, .int x2, .int x3, .int x4, .int v_1]) (S' := [.int (0 : Int32), .int v_1, .ref 1639]) 2 rfl ?_
  refine ge_cs rfl rfl rfl rfl rfl rfl (D := 1) (Nat.le_trans (by decide) hd) (c_Mo_fishAt (n := n) (u := u) (t := t) (i := i) (r := r) s v_1 (0 : Int32)) ?_
  rintro v_2 -
  dsimp only [bkE, F_i0]
  refine ge_run (pc' := 9) (L' := [.ref 1638, .int x1, .int x2, .int x3, .int x4, .int v_1]) (S' := [.int x1, .int v_2, .ref 1639]) 1 rfl ?_
  refine ge_grd (fun g_3 g_4 => ?_)
  refine ge_iast (jn := (ix v_2)) rfl (t1639 s) (Nat.le_of_ble_eq_true rfl) ⟨g_3, rfl⟩ g_4 (fun i_5 => ?_)
  refine ge_run (pc' := 11) (L' := [.ref 1638, .int x1, .int x2, .int x3, .int x4, .int v_1]) (S' := [.ref 1638]) 1 rfl ?_
  refine ge_getR (b := 1639) rfl (t1638 s) rfl (r1638_1 s) (Nat.le_of_ble_eq_true rfl) ?_
  refine ge_run (pc' := 14) (L' := [.ref 1638, .int x1, .int x2, .int x3, .int x4, .int v_1]) (S' := [.int (1 : Int32), .int v_1, .ref 1639]) 2 rfl ?_
  refine ge_cs rfl rfl rfl rfl rfl rfl (D := 1) (Nat.le_trans (by decide) hd) (c_Mo_fishAt (n := n) (u := u) (t := t) (i := i_5) (r := r) s v_1 (1 : Int32)) ?_
  rintro v_6 -
  dsimp only [bkE, F_i0]
  refine ge_run (pc' := 16) (L' := [.ref 1638, .int x1, .int x2, .int x3, .int x4, .int v_1]) (S' := [.int x3, .int v_6, .ref 1639]) 1 rfl ?_
  refine ge_grd (fun g_7 g_8 => ?_)
  refine ge_iast (jn := (ix v_6)) rfl (t1639 s) (Nat.le_of_ble_eq_true rfl) ⟨g_7, rfl⟩ g_8 (fun i_9 => ?_)
  refine ge_run (pc' := 18) (L' := [.ref 1638, .int x1, .int x2, .int x3, .int x4, .int v_1]) (S' := [.ref 1638]) 1 rfl ?_
  refine ge_getR (b := 1639) rfl (t1638 s) rfl (r1638_1 s) (Nat.le_of_ble_eq_true rfl) ?_
  refine ge_run (pc' := 21) (L' := [.ref 1638, .int x1, .int x2, .int x3, .int x4, .int v_1]) (S' := [.int (2 : Int32), .int v_1, .ref 1639]) 2 rfl ?_
  refine ge_cs rfl rfl rfl rfl rfl rfl (D := 1) (Nat.le_trans (by decide) hd) (c_Mo_fishAt (n := n) (u := u) (t := t) (i := i_9) (r := r) s v_1 (2 : Int32)) ?_
  rintro v_10 -
  dsimp only [bkE, F_i0]
  refine ge_run (pc' := 23) (L' := [.ref 1638, .int x1, .int x2, .int x3, .int x4, .int v_1]) (S' := [.int x4, .int v_10, .ref 1639]) 1 rfl ?_
  refine ge_grd (fun g_11 g_12 => ?_)
  refine ge_iast (jn := (ix v_10)) rfl (t1639 s) (Nat.le_of_ble_eq_true rfl) ⟨g_11, rfl⟩ g_12 (fun i_13 => ?_)
  refine ge_run (pc' := 25) (L' := [.ref 1638, .int x1, .int x2, .int x3, .int x4, .int v_1]) (S' := [.ref 1638]) 1 rfl ?_
  refine ge_getR (b := 1639) rfl (t1638 s) rfl (r1638_1 s) (Nat.le_of_ble_eq_true rfl) ?_
  refine ge_run (pc' := 28) (L' := [.ref 1638, .int x1, .int x2, .int x3, .int x4, .int v_1]) (S' := [.int (3 : Int32), .int v_1, .ref 1639]) 2 rfl ?_
  refine ge_cs rfl rfl rfl rfl rfl rfl (D := 1) (Nat.le_trans (by decide) hd) (c_Mo_fishAt (n := n) (u := u) (t := t) (i := i_13) (r := r) s v_1 (3 : Int32)) ?_
  rintro v_14 -
  dsimp only [bkE, F_i0]
  refine ge_run (pc' := 30) (L' := [.ref 1638, .int x1, .int x2, .int x3, .int x4, .int v_1]) (S' := [.int (0 : Int32), .int v_14, .ref 1639]) 1 rfl ?_
  refine ge_grd (fun g_15 g_16 => ?_)
  refine ge_iast (jn := (ix v_14)) rfl (t1639 s) (Nat.le_of_ble_eq_true rfl) ⟨g_15, rfl⟩ g_16 (fun i_17 => ?_)
  refine ge_run (pc' := 32) (L' := [.ref 1638, .int x1, .int x2, .int x3, .int x4, .int v_1]) (S' := [.ref 1638]) 1 rfl ?_
  refine ge_getR (b := 1639) rfl (t1638 s) rfl (r1638_1 s) (Nat.le_of_ble_eq_true rfl) ?_
  refine ge_run (pc' := 35) (L' := [.ref 1638, .int x1, .int x2, .int x3, .int x4, .int v_1]) (S' := [.int (4 : Int32), .int v_1, .ref 1639]) 2 rfl ?_
  refine ge_cs rfl rfl rfl rfl rfl rfl (D := 1) (Nat.le_trans (by decide) hd) (c_Mo_fishAt (n := n) (u := u) (t := t) (i := i_17) (r := r) s v_1 (4 : Int32)) ?_
  rintro v_18 -
  dsimp only [bkE, F_i0]
  refine ge_run (pc' := 37) (L' := [.ref 1638, .int x1, .int x2, .int x3, .int x4, .int v_1]) (S' := [.int x2, .int v_18, .ref 1639]) 1 rfl ?_
  refine ge_grd (fun g_19 g_20 => ?_)
  refine ge_iast (jn := (ix v_18)) rfl (t1639 s) (Nat.le_of_ble_eq_true rfl) ⟨g_19, rfl⟩ g_20 (fun i_21 => ?_)
  refine ge_run (pc' := 39) (L' := [.ref 1638, .int x1, .int x2, .int x3, .int x4, .int v_1]) (S' := [.ref 1638]) 1 rfl ?_
  refine ge_getR (b := 1639) rfl (t1638 s) rfl (r1638_1 s) (Nat.le_of_ble_eq_true rfl) ?_
  refine ge_run (pc' := 42) (L' := [.ref 1638, .int x1, .int x2, .int x3, .int x4, .int v_1]) (S' := [.int (0 : Int32), .ref 1639, .int (0 : Int32), .ref 1639]) 2 rfl ?_
  refine ge_iald (jn := 0) rfl (t1639 s) lk0 (by decide) ?_
  refine ge_run (pc' := 45) (L' := [.ref 1638, .int x1, .int x2, .int x3, .int x4, .int v_1]) (S' := [.int ((i_21 1639 0) + (1 : Int32)), .int (0 : Int32), .ref 1639]) 2 rfl ?_
  refine ge_iast (jn := 0) rfl (t1639 s) (Nat.le_of_ble_eq_true rfl) lk0 (by decide) (fun i_22 => ?_)
  exact ge_retv rfl rfl (And.intro rfl trivial)
def f_Mo_readFish (t : MT) (i : MI) : Option (Int32 × MI) :=
  (f_Mo_fishes i).bind (fun v_1 => if v_1 = (8 : Int32) then (some ((0 : Int32), i)) else ((f_Mo_wordOfKind t i).bind (fun (v_4, i_5) => (if v_4 < 0 then (some ((-1 : Int32), i_5)) else ((f_Mo_behind t i_5 138 (0 : Int32) (24 : Int32)).bind (fun (v_10, i_11) => some (v_10, i_11))) : Option (Int32 × MI)).bind (fun (y_6, i_7) => (if y_6 < 0 then (some ((-1 : Int32), i_7)) else ((f_Mo_behind t i_7 140 (1 : Int32) (9 : Int32)).bind (fun (v_16, i_17) => some (v_16, i_17))) : Option (Int32 × MI)).bind (fun (y_12, i_13) => if y_12 < 0 then (some ((0 : Int32), i_13)) else ((f_Mo_told t i_13 142 (99 : Int32) (90 : Int32)).bind (fun (v_20, i_21) => if v_20 = (1000000 : Int32) then (some ((0 : Int32), i_21)) else ((f_Mo_isFish i_21 v_4 y_6 y_12 v_20).bind (fun i_24 => some ((1 : Int32), i_24))))))))))
set_option maxHeartbeats 4000000 in
theorem c_Mo_readFish {n u : Nat} {t : MT} {i : MI} {r : MR} (s : Sh n t r)  : Cn 8 240 [.ref 1638] (n, u, t, i, r) (f_Mo_readFish t i ) (F_i1 n u t r) PT := by
  refine cn_of (Y := K_Mo_readFish) (L0 := [.ref 1638, uV, uV, uV, uV]) rfl rfl rfl ?_
  intro d hd
  unfold f_Mo_readFish
  refine ge_run (pc' := 1) (L' := [.ref 1638, uV, uV, uV, uV]) (S' := [.ref 1638]) 1 rfl ?_
  refine ge_cv rfl rfl rfl (t1638 s) rfl rfl rfl (D := 1) (Nat.le_trans (by decide) hd) (c_Mo_fishes (n := n) (u := u) (t := t) (i := i) (r := r) s ) ?_
  rintro v_1 -
  dsimp only [bkE, F_i0]
  refine ge_run (pc' := 3) (L' := [.ref 1638, uV, uV, uV, uV]) (S' := [.int (8 : Int32), .int v_1]) 1 rfl ?_
  refine ge_ne rfl (fun h_2 => ?_) (fun h_3 => ?_)
  · refine ge_run (pc' := 5) (L' := [.ref 1638, uV, uV, uV, uV]) (S' := [.int (0 : Int32)]) 1 rfl ?_
    exact ge_retz rfl rfl (Or.inl rfl) (And.intro rfl trivial)
  · refine ge_run (pc' := 7) (L' := [.ref 1638, uV, uV, uV, uV]) (S' := [.ref 1638]) 1 rfl ?_
    refine ge_cv rfl rfl rfl (t1638 s) rfl rfl rfl (D := 6) (Nat.le_trans (by decide) hd) (c_Mo_wordOfKind (n := n) (u := u) (t := t) (i := i) (r := r) s ) ?_
    rintro ⟨v_4, i_5⟩ -
    dsimp only [bkE, F_i1]
    refine ge_run (pc' := 10) (L' := [.ref 1638, .int v_4, uV, uV, uV]) (S' := [.int v_4]) 2 rfl ?_
    refine ge_bind (K1 := fun (q : Int32 × MI) e => e = .inl (18, [.ref 1638, .int v_4, uV, uV, uV], [.int q.1], (n, u, t, q.2, r))) ?_ ?_
    · refine ge_ge0 rfl (fun h_8 => ?_) (fun h_9 => ?_)
      · refine ge_run (pc' := 18) (L' := [.ref 1638, .int v_4, uV, uV, uV]) (S' := [.int (-1 : Int32)]) 2 rfl ?_
        exact ge_leaf rfl
      · refine ge_run (pc' := 17) (L' := [.ref 1638, .int v_4, uV, uV, uV]) (S' := [.int (24 : Int32), .int (0 : Int32), .ref 138, .ref 1638]) 4 rfl ?_
        refine ge_cv rfl rfl rfl (t1638 s) rfl rfl rfl (D := 6) (Nat.le_trans (by decide) hd) (c_Mo_behind (n := n) (u := u) (t := t) (i := i_5) (r := r) s 138 (strAd 68) (0 : Int32) (24 : Int32)) ?_
        rintro ⟨v_10, i_11⟩ -
        dsimp only [bkE, F_i1]
        exact ge_leaf rfl
    · rintro ⟨y_6, i_7⟩ _ rfl
      try dsimp only
      refine ge_run (pc' := 20) (L' := [.ref 1638, .int v_4, .int y_6, uV, uV]) (S' := [.int y_6]) 2 rfl ?_
      refine ge_bind (K1 := fun (q : Int32 × MI) e => e = .inl (28, [.ref 1638, .int v_4, .int y_6, uV, uV], [.int q.1], (n, u, t, q.2, r))) ?_ ?_
      · refine ge_ge0 rfl (fun h_14 => ?_) (fun h_15 => ?_)
        · refine ge_run (pc' := 28) (L' := [.ref 1638, .int v_4, .int y_6, uV, uV]) (S' := [.int (-1 : Int32)]) 2 rfl ?_
          exact ge_leaf rfl
        · refine ge_run (pc' := 27) (L' := [.ref 1638, .int v_4, .int y_6, uV, uV]) (S' := [.int (9 : Int32), .int (1 : Int32), .ref 140, .ref 1638]) 4 rfl ?_
          refine ge_cv rfl rfl rfl (t1638 s) rfl rfl rfl (D := 6) (Nat.le_trans (by decide) hd) (c_Mo_behind (n := n) (u := u) (t := t) (i := i_7) (r := r) s 140 (strAd 69) (1 : Int32) (9 : Int32)) ?_
          rintro ⟨v_16, i_17⟩ -
          dsimp only [bkE, F_i1]
          exact ge_leaf rfl
      · rintro ⟨y_12, i_13⟩ _ rfl
        try dsimp only
        refine ge_run (pc' := 30) (L' := [.ref 1638, .int v_4, .int y_6, .int y_12, uV]) (S' := [.int y_12]) 2 rfl ?_
        refine ge_ge0 rfl (fun h_18 => ?_) (fun h_19 => ?_)
        · refine ge_run (pc' := 32) (L' := [.ref 1638, .int v_4, .int y_6, .int y_12, uV]) (S' := [.int (0 : Int32)]) 1 rfl ?_
          exact ge_retz rfl rfl (Or.inl rfl) (And.intro rfl trivial)
        · refine ge_run (pc' := 37) (L' := [.ref 1638, .int v_4, .int y_6, .int y_12, uV]) (S' := [.int (90 : Int32), .int (99 : Int32), .ref 142, .ref 1638]) 4 rfl ?_
          refine ge_cv rfl rfl rfl (t1638 s) rfl rfl rfl (D := 7) (Nat.le_trans (by decide) hd) (c_Mo_told (n := n) (u := u) (t := t) (i := i_13) (r := r) s 142 (strAd 70) (99 : Int32) (90 : Int32)) ?_
          rintro ⟨v_20, i_21⟩ -
          dsimp only [bkE, F_i1]
          refine ge_run (pc' := 41) (L' := [.ref 1638, .int v_4, .int y_6, .int y_12, .int v_20]) (S' := [.int (1000000 : Int32), .int v_20]) 3 rfl ?_
          refine ge_ne rfl (fun h_22 => ?_) (fun h_23 => ?_)
          · refine ge_run (pc' := 43) (L' := [.ref 1638, .int v_4, .int y_6, .int y_12, .int v_20]) (S' := [.int (0 : Int32)]) 1 rfl ?_
            exact ge_retz rfl rfl (Or.inl rfl) (And.intro rfl trivial)
          · refine ge_run (pc' := 49) (L' := [.ref 1638, .int v_4, .int y_6, .int y_12, .int v_20]) (S' := [.int v_20, .int y_12, .int y_6, .int v_4, .ref 1638]) 5 rfl ?_
            refine ge_cv rfl rfl rfl (t1638 s) rfl rfl rfl (D := 2) (Nat.le_trans (by decide) hd) (c_Mo_isFish (n := n) (u := u) (t := t) (i := i_21) (r := r) s v_4 y_6 y_12 v_20) ?_
            rintro i_24 -
            dsimp only [bkE, F_v1]
            refine ge_run (pc' := 51) (L' := [.ref 1638, .int v_4, .int y_6, .int y_12, .int v_20]) (S' := [.int (1 : Int32)]) 1 rfl ?_
            exact ge_retz rfl rfl (Or.inr rfl) (And.intro rfl trivial)
def f_Mo_readBoat (t : MT) (i : MI) : Option (Int32 × MI) :=
  (f_Mo_boats i).bind (fun v_1 => if v_1 = (3 : Int32) then (some ((0 : Int32), i)) else ((f_Mo_behind t i 146 (1 : Int32) (9 : Int32)).bind (fun (v_4, i_5) => if v_4 < 0 then (some ((0 : Int32), i_5)) else ((f_Mo_told t i_5 138 (24 : Int32) (0 : Int32)).bind (fun (v_8, i_9) => (if v_8 = (1000000 : Int32) then (some ((1000000 : Int32), i_9)) else ((f_Mo_told t i_9 148 (24 : Int32) (-1 : Int32)).bind (fun (v_14, i_15) => some (v_14, i_15))) : Option (Int32 × MI)).bind (fun (y_10, i_11) => if y_10 = (1000000 : Int32) then (some ((0 : Int32), i_11)) else ((f_Mo_boatAt v_1 (0 : Int32)).bind (fun v_18 => grd v_18 2115 (bnd (wr i_11 1639 (ix v_18) v_8) (fun i_21 => (f_Mo_boatAt v_1 (1 : Int32)).bind (fun v_22 => grd v_22 2115 (bnd (wr i_21 1639 (ix v_22) y_10) (fun i_25 => (f_Mo_boatAt v_1 (2 : Int32)).bind (fun v_26 => grd v_26 2115 (bnd (wr i_25 1639 (ix v_26) v_4) (fun i_29 => bnd (wr i_29 1639 1 ((i_29 1639 1) + (1 : Int32))) (fun i_30 => some ((1 : Int32), i_30))))))))))))))))))
set_option maxHeartbeats 4000000 in
theorem c_Mo_readBoat {n u : Nat} {t : MT} {i : MI} {r : MR} (s : Sh n t r)  : Cn 8 241 [.ref 1638] (n, u, t, i, r) (f_Mo_readBoat t i ) (F_i1 n u t r) PT := by
  refine cn_of (Y := K_Mo_readBoat) (L0 := [.ref 1638, uV, uV, uV, uV]) rfl rfl rfl ?_
  intro d hd
  unfold f_Mo_readBoat
  refine ge_run (pc' := 1) (L' := [.ref 1638, uV, uV, uV, uV]) (S' := [.ref 1638]) 1 rfl ?_
  refine ge_cv rfl rfl rfl (t1638 s) rfl rfl rfl (D := 1) (Nat.le_trans (by decide) hd) (c_Mo_boats (n := n) (u := u) (t := t) (i := i) (r := r) s ) ?_
  rintro v_1 -
  dsimp only [bkE, F_i0]
  refine ge_run (pc' := 5) (L' := [.ref 1638, .int v_1, uV, uV, uV]) (S' := [.int (3 : Int32), .int v_1]) 3 rfl ?_
  refine ge_ne rfl (fun h_2 => ?_) (fun h_3 => ?_)
  · refine ge_run (pc' := 7) (L' := [.ref 1638, .int v_1, uV, uV, uV]) (S' := [.int (0 : Int32)]) 1 rfl ?_
    exact ge_retz rfl rfl (Or.inl rfl) (And.intro rfl trivial)
  · refine ge_run (pc' := 12) (L' := [.ref 1638, .int v_1, uV, uV, uV]) (S' := [.int (9 : Int32), .int (1 : Int32), .ref 146, .ref 1638]) 4 rfl ?_
    refine ge_cv rfl rfl rfl (t1638 s) rfl rfl rfl (D := 6) (Nat.le_trans (by decide) hd) (c_Mo_behind (n := n) (u := u) (t := t) (i := i) (r := r) s 146 (strAd 72) (1 : Int32) (9 : Int32)) ?_
    rintro ⟨v_4, i_5⟩ -
    dsimp only [bkE, F_i1]
    refine ge_run (pc' := 15) (L' := [.ref 1638, .int v_1, .int v_4, uV, uV]) (S' := [.int v_4]) 2 rfl ?_
    refine ge_ge0 rfl (fun h_6 => ?_) (fun h_7 => ?_)
    · refine ge_run (pc' := 17) (L' := [.ref 1638, .int v_1, .int v_4, uV, uV]) (S' := [.int (0 : Int32)]) 1 rfl ?_
      exact ge_retz rfl rfl (Or.inl rfl) (And.intro rfl trivial)
    · refine ge_run (pc' := 22) (L' := [.ref 1638, .int v_1, .int v_4, uV, uV]) (S' := [.int (0 : Int32), .int (24 : Int32), .ref 138, .ref 1638]) 4 rfl ?_
      refine ge_cv rfl rfl rfl (t1638 s) rfl rfl rfl (D := 7) (Nat.le_trans (by decide) hd) (c_Mo_told (n := n) (u := u) (t := t) (i := i_5) (r := r) s 138 (strAd 68) (24 : Int32) (0 : Int32)) ?_
      rintro ⟨v_8, i_9⟩ -
      dsimp only [bkE, F_i1]
      refine ge_run (pc' := 26) (L' := [.ref 1638, .int v_1, .int v_4, .int v_8, uV]) (S' := [.int (1000000 : Int32), .int v_8]) 3 rfl ?_
      refine ge_bind (K1 := fun (q : Int32 × MI) e => e = .inl (34, [.ref 1638, .int v_1, .int v_4, .int v_8, uV], [.int q.1], (n, u, t, q.2, r))) ?_ ?_
      · refine ge_ne rfl (fun h_12 => ?_) (fun h_13 => ?_)
        · refine ge_run (pc' := 34) (L' := [.ref 1638, .int v_1, .int v_4, .int v_8, uV]) (S' := [.int (1000000 : Int32)]) 2 rfl ?_
          exact ge_leaf rfl
        · refine ge_run (pc' := 33) (L' := [.ref 1638, .int v_1, .int v_4, .int v_8, uV]) (S' := [.int (-1 : Int32), .int (24 : Int32), .ref 148, .ref 1638]) 4 rfl ?_
          refine ge_cv rfl rfl rfl (t1638 s) rfl rfl rfl (D := 7) (Nat.le_trans (by decide) hd) (c_Mo_told (n := n) (u := u) (t := t) (i := i_9) (r := r) s 148 (strAd 73) (24 : Int32) (-1 : Int32)) ?_
          rintro ⟨v_14, i_15⟩ -
          dsimp only [bkE, F_i1]
          exact ge_leaf rfl
      · rintro ⟨y_10, i_11⟩ _ rfl
        try dsimp only
        refine ge_run (pc' := 37) (L' := [.ref 1638, .int v_1, .int v_4, .int v_8, .int y_10]) (S' := [.int (1000000 : Int32), .int y_10]) 3 rfl ?_
        refine ge_ne rfl (fun h_16 => ?_) (fun h_17 => ?_)
        · refine ge_run (pc' := 39) (L' := [.ref 1638, .int v_1, .int v_4, .int v_8, .int y_10]) (S' := [.int (0 : Int32)]) 1 rfl ?_
          exact ge_retz rfl rfl (Or.inl rfl) (And.intro rfl trivial)
        · refine ge_run (pc' := 41) (L' := [.ref 1638, .int v_1, .int v_4, .int v_8, .int y_10]) (S' := [.ref 1638]) 1 rfl ?_
          refine ge_getR (b := 1639) rfl (t1638 s) rfl (r1638_1 s) (Nat.le_of_ble_eq_true rfl) ?_
          refine ge_run (pc' := 44) (L' := [.ref 1638, .int v_1, .int v_4, .int v_8, .int y_10]) (S' := [.int (0 : Int32), .int v_1, .ref 1639]) 2 rfl ?_
          refine ge_cs rfl rfl rfl rfl rfl rfl (D := 1) (Nat.le_trans (by decide) hd) (c_Mo_boatAt (n := n) (u := u) (t := t) (i := i_11) (r := r) s v_1 (0 : Int32)) ?_
          rintro v_18 -
          dsimp only [bkE, F_i0]
          refine ge_run (pc' := 46) (L' := [.ref 1638, .int v_1, .int v_4, .int v_8, .int y_10]) (S' := [.int v_8, .int v_18, .ref 1639]) 1 rfl ?_
          refine ge_grd (fun g_19 g_20 => ?_)
          refine ge_iast (jn := (ix v_18)) rfl (t1639 s) (Nat.le_of_ble_eq_true rfl) ⟨g_19, rfl⟩ g_20 (fun i_21 => ?_)
          refine ge_run (pc' := 48) (L' := [.ref 1638, .int v_1, .int v_4, .int v_8, .int y_10]) (S' := [.ref 1638]) 1 rfl ?_
          refine ge_getR (b := 1639) rfl (t1638 s) rfl (r1638_1 s) (Nat.le_of_ble_eq_true rfl) ?_
          refine ge_run (pc' := 51) (L' := [.ref 1638, .int v_1, .int v_4, .int v_8, .int y_10]) (S' := [.int (1 : Int32), .int v_1, .ref 1639]) 2 rfl ?_
          refine ge_cs rfl rfl rfl rfl rfl rfl (D := 1) (Nat.le_trans (by decide) hd) (c_Mo_boatAt (n := n) (u := u) (t := t) (i := i_21) (r := r) s v_1 (1 : Int32)) ?_
          rintro v_22 -
          dsimp only [bkE, F_i0]
          refine ge_run (pc' := 53) (L' := [.ref 1638, .int v_1, .int v_4, .int v_8, .int y_10]) (S' := [.int y_10, .int v_22, .ref 1639]) 1 rfl ?_
          refine ge_grd (fun g_23 g_24 => ?_)
          refine ge_iast (jn := (ix v_22)) rfl (t1639 s) (Nat.le_of_ble_eq_true rfl) ⟨g_23, rfl⟩ g_24 (fun i_25 => ?_)
          refine ge_run (pc' := 55) (L' := [.ref 1638, .int v_1, .int v_4, .int v_8, .int y_10]) (S' := [.ref 1638]) 1 rfl ?_
          refine ge_getR (b := 1639) rfl (t1638 s) rfl (r1638_1 s) (Nat.le_of_ble_eq_true rfl) ?_
          refine ge_run (pc' := 58) (L' := [.ref 1638, .int v_1, .int v_4, .int v_8, .int y_10]) (S' := [.int (2 : Int32), .int v_1, .ref 1639]) 2 rfl ?_
          refine ge_cs rfl rfl rfl rfl rfl rfl (D := 1) (Nat.le_trans (by decide) hd) (c_Mo_boatAt (n := n) (u := u) (t := t) (i := i_25) (r := r) s v_1 (2 : Int32)) ?_
          rintro v_26 -
          dsimp only [bkE, F_i0]
          refine ge_run (pc' := 60) (L' := [.ref 1638, .int v_1, .int v_4, .int v_8, .int y_10]) (S' := [.int v_4, .int v_26, .ref 1639]) 1 rfl ?_
          refine ge_grd (fun g_27 g_28 => ?_)
          refine ge_iast (jn := (ix v_26)) rfl (t1639 s) (Nat.le_of_ble_eq_true rfl) ⟨g_27, rfl⟩ g_28 (fun i_29 => ?_)
          refine ge_run (pc' := 62) (L' := [.ref 1638, .int v_1, .int v_4, .int v_8, .int y_10]) (S' := [.ref 1638]) 1 rfl ?_
          refine ge_getR (b := 1639) rfl (t1638 s) rfl (r1638_1 s) (Nat.le_of_ble_eq_true rfl) ?_
          refine ge_run (pc' := 65) (L' := [.ref 1638, .int v_1, .int v_4, .int v_8, .int y_10]) (S' := [.int (1 : Int32), .ref 1639, .int (1 : Int32), .ref 1639]) 2 rfl ?_
          refine ge_iald (jn := 1) rfl (t1639 s) lk1 (by decide) ?_
          refine ge_run (pc' := 68) (L' := [.ref 1638, .int v_1, .int v_4, .int v_8, .int y_10]) (S' := [.int ((i_29 1639 1) + (1 : Int32)), .int (1 : Int32), .ref 1639]) 2 rfl ?_
          refine ge_iast (jn := 1) rfl (t1639 s) (Nat.le_of_ble_eq_true rfl) lk1 (by decide) (fun i_30 => ?_)
          refine ge_run (pc' := 70) (L' := [.ref 1638, .int v_1, .int v_4, .int v_8, .int y_10]) (S' := [.int (1 : Int32)]) 1 rfl ?_
          exact ge_retz rfl rfl (Or.inr rfl) (And.intro rfl trivial)
def f_Mo_readBuyer (t : MT) (i : MI) : Option (Int32 × MI) :=
  (f_Mo_buyers i).bind (fun v_1 => if v_1 = (5 : Int32) then (some ((0 : Int32), i)) else ((f_Mo_wordOfKind t i).bind (fun (v_4, i_5) => (if v_4 < 0 then (some ((-1 : Int32), i_5)) else ((f_Mo_behind t i_5 152 (0 : Int32) (999 : Int32)).bind (fun (v_10, i_11) => some (v_10, i_11))) : Option (Int32 × MI)).bind (fun (y_6, i_7) => if y_6 < 0 then (some ((0 : Int32), i_7)) else ((f_Mo_told t i_7 154 (99 : Int32) (0 : Int32)).bind (fun (v_14, i_15) => (if v_14 = (1000000 : Int32) then (some ((1000000 : Int32), i_15)) else ((f_Mo_told t i_15 156 (100 : Int32) (50 : Int32)).bind (fun (v_20, i_21) => some (v_20, i_21))) : Option (Int32 × MI)).bind (fun (y_16, i_17) => if y_16 = (1000000 : Int32) then (some ((0 : Int32), i_17)) else ((f_Mo_buyerAt v_1 (0 : Int32)).bind (fun v_24 => grd v_24 2115 (bnd (wr i_17 1639 (ix v_24) v_4) (fun i_27 => (f_Mo_buyerAt v_1 (1 : Int32)).bind (fun v_28 => grd v_28 2115 (bnd (wr i_27 1639 (ix v_28) y_6) (fun i_31 => (f_Mo_buyerAt v_1 (2 : Int32)).bind (fun v_32 => grd v_32 2115 (bnd (wr i_31 1639 (ix v_32) v_14) (fun i_35 => (f_Mo_buyerAt v_1 (3 : Int32)).bind (fun v_36 => grd v_36 2115 (bnd (wr i_35 1639 (ix v_36) y_16) (fun i_39 => bnd (wr i_39 1639 2 ((i_39 1639 2) + (1 : Int32))) (fun i_40 => some ((1 : Int32), i_40))))))))))))))))))))))
set_option maxHeartbeats 4000000 in
theorem c_Mo_readBuyer {n u : Nat} {t : MT} {i : MI} {r : MR} (s : Sh n t r)  : Cn 8 242 [.ref 1638] (n, u, t, i, r) (f_Mo_readBuyer t i ) (F_i1 n u t r) PT := by
  refine cn_of (Y := K_Mo_readBuyer) (L0 := [.ref 1638, uV, uV, uV, uV, uV]) rfl rfl rfl ?_
  intro d hd
  unfold f_Mo_readBuyer
  refine ge_run (pc' := 1) (L' := [.ref 1638, uV, uV, uV, uV, uV]) (S' := [.ref 1638]) 1 rfl ?_
  refine ge_cv rfl rfl rfl (t1638 s) rfl rfl rfl (D := 1) (Nat.le_trans (by decide) hd) (c_Mo_buyers (n := n) (u := u) (t := t) (i := i) (r := r) s ) ?_
  rintro v_1 -
  dsimp only [bkE, F_i0]
  refine ge_run (pc' := 5) (L' := [.ref 1638, .int v_1, uV, uV, uV, uV]) (S' := [.int (5 : Int32), .int v_1]) 3 rfl ?_
  refine ge_ne rfl (fun h_2 => ?_) (fun h_3 => ?_)
  · refine ge_run (pc' := 7) (L' := [.ref 1638, .int v_1, uV, uV, uV, uV]) (S' := [.int (0 : Int32)]) 1 rfl ?_
    exact ge_retz rfl rfl (Or.inl rfl) (And.intro rfl trivial)
  · refine ge_run (pc' := 9) (L' := [.ref 1638, .int v_1, uV, uV, uV, uV]) (S' := [.ref 1638]) 1 rfl ?_
    refine ge_cv rfl rfl rfl (t1638 s) rfl rfl rfl (D := 6) (Nat.le_trans (by decide) hd) (c_Mo_wordOfKind (n := n) (u := u) (t := t) (i := i) (r := r) s ) ?_
    rintro ⟨v_4, i_5⟩ -
    dsimp only [bkE, F_i1]
    refine ge_run (pc' := 12) (L' := [.ref 1638, .int v_1, .int v_4, uV, uV, uV]) (S' := [.int v_4]) 2 rfl ?_
    refine ge_bind (K1 := fun (q : Int32 × MI) e => e = .inl (20, [.ref 1638, .int v_1, .int v_4, uV, uV, uV], [.int q.1], (n, u, t, q.2, r))) ?_ ?_
    · refine ge_ge0 rfl (fun h_8 => ?_) (fun h_9 => ?_)
      · refine ge_run (pc' := 20) (L' := [.ref 1638, .int v_1, .int v_4, uV, uV, uV]) (S' := [.int (-1 : Int32)]) 2 rfl ?_
        exact ge_leaf rfl
      · refine ge_run (pc' := 19) (L' := [.ref 1638, .int v_1, .int v_4, uV, uV, uV]) (S' := [.int (999 : Int32), .int (0 : Int32), .ref 152, .ref 1638]) 4 rfl ?_
        refine ge_cv rfl rfl rfl (t1638 s) rfl rfl rfl (D := 6) (Nat.le_trans (by decide) hd) (c_Mo_behind (n := n) (u := u) (t := t) (i := i_5) (r := r) s 152 (strAd 75) (0 : Int32) (999 : Int32)) ?_
        rintro ⟨v_10, i_11⟩ -
        dsimp only [bkE, F_i1]
        exact ge_leaf rfl
    · rintro ⟨y_6, i_7⟩ _ rfl
      try dsimp only
      refine ge_run (pc' := 22) (L' := [.ref 1638, .int v_1, .int v_4, .int y_6, uV, uV]) (S' := [.int y_6]) 2 rfl ?_
      refine ge_ge0 rfl (fun h_12 => ?_) (fun h_13 => ?_)
      · refine ge_run (pc' := 24) (L' := [.ref 1638, .int v_1, .int v_4, .int y_6, uV, uV]) (S' := [.int (0 : Int32)]) 1 rfl ?_
        exact ge_retz rfl rfl (Or.inl rfl) (And.intro rfl trivial)
      · refine ge_run (pc' := 29) (L' := [.ref 1638, .int v_1, .int v_4, .int y_6, uV, uV]) (S' := [.int (0 : Int32), .int (99 : Int32), .ref 154, .ref 1638]) 4 rfl ?_
        refine ge_cv rfl rfl rfl (t1638 s) rfl rfl rfl (D := 7) (Nat.le_trans (by decide) hd) (c_Mo_told (n := n) (u := u) (t := t) (i := i_7) (r := r) s 154 (strAd 76) (99 : Int32) (0 : Int32)) ?_
        rintro ⟨v_14, i_15⟩ -
        dsimp only [bkE, F_i1]
        refine ge_run (pc' := 33) (L' := [.ref 1638, .int v_1, .int v_4, .int y_6, .int v_14, uV]) (S' := [.int (1000000 : Int32), .int v_14]) 3 rfl ?_
        refine ge_bind (K1 := fun (q : Int32 × MI) e => e = .inl (41, [.ref 1638, .int v_1, .int v_4, .int y_6, .int v_14, uV], [.int q.1], (n, u, t, q.2, r))) ?_ ?_
        · refine ge_ne rfl (fun h_18 => ?_) (fun h_19 => ?_)
          · refine ge_run (pc' := 41) (L' := [.ref 1638, .int v_1, .int v_4, .int y_6, .int v_14, uV]) (S' := [.int (1000000 : Int32)]) 2 rfl ?_
            exact ge_leaf rfl
          · refine ge_run (pc' := 40) (L' := [.ref 1638, .int v_1, .int v_4, .int y_6, .int v_14, uV]) (S' := [.int (50 : Int32), .int (100 : Int32), .ref 156, .ref 1638]) 4 rfl ?_
            refine ge_cv rfl rfl rfl (t1638 s) rfl rfl rfl (D := 7) (Nat.le_trans (by decide) hd) (c_Mo_told (n := n) (u := u) (t := t) (i := i_15) (r := r) s 156 (strAd 77) (100 : Int32) (50 : Int32)) ?_
            rintro ⟨v_20, i_21⟩ -
            dsimp only [bkE, F_i1]
            exact ge_leaf rfl
        · rintro ⟨y_16, i_17⟩ _ rfl
          try dsimp only
          refine ge_run (pc' := 44) (L' := [.ref 1638, .int v_1, .int v_4, .int y_6, .int v_14, .int y_16]) (S' := [.int (1000000 : Int32), .int y_16]) 3 rfl ?_
          refine ge_ne rfl (fun h_22 => ?_) (fun h_23 => ?_)
          · refine ge_run (pc' := 46) (L' := [.ref 1638, .int v_1, .int v_4, .int y_6, .int v_14, .int y_16]) (S' := [.int (0 : Int32)]) 1 rfl ?_
            exact ge_retz rfl rfl (Or.inl rfl) (And.intro rfl trivial)
          · refine ge_run (pc' := 48) (L' := [.ref 1638, .int v_1, .int v_4, .int y_6, .int v_14, .int y_16]) (S' := [.ref 1638]) 1 rfl ?_
            refine ge_getR (b := 1639) rfl (t1638 s) rfl (r1638_1 s) (Nat.le_of_ble_eq_true rfl) ?_
            refine ge_run (pc' := 51) (L' := [.ref 1638, .int v_1, .int v_4, .int y_6, .int v_14, .int y_16]) (S' := [.int (0 : Int32), .int v_1, .ref 1639]) 2 rfl ?_
            refine ge_cs rfl rfl rfl rfl rfl rfl (D := 1) (Nat.le_trans (by decide) hd) (c_Mo_buyerAt (n := n) (u := u) (t := t) (i := i_17) (r := r) s v_1 (0 : Int32)) ?_
            rintro v_24 -
            dsimp only [bkE, F_i0]
            refine ge_run (pc' := 53) (L' := [.ref 1638, .int v_1, .int v_4, .int y_6, .int v_14, .int y_16]) (S' := [.int v_4, .int v_24, .ref 1639]) 1 rfl ?_
            refine ge_grd (fun g_25 g_26 => ?_)
            refine ge_iast (jn := (ix v_24)) rfl (t1639 s) (Nat.le_of_ble_eq_true rfl) ⟨g_25, rfl⟩ g_26 (fun i_27 => ?_)
            refine ge_run (pc' := 55) (L' := [.ref 1638, .int v_1, .int v_4, .int y_6, .int v_14, .int y_16]) (S' := [.ref 1638]) 1 rfl ?_
            refine ge_getR (b := 1639) rfl (t1638 s) rfl (r1638_1 s) (Nat.le_of_ble_eq_true rfl) ?_
            refine ge_run (pc' := 58) (L' := [.ref 1638, .int v_1, .int v_4, .int y_6, .int v_14, .int y_16]) (S' := [.int (1 : Int32), .int v_1, .ref 1639]) 2 rfl ?_
            refine ge_cs rfl rfl rfl rfl rfl rfl (D := 1) (Nat.le_trans (by decide) hd) (c_Mo_buyerAt (n := n) (u := u) (t := t) (i := i_27) (r := r) s v_1 (1 : Int32)) ?_
            rintro v_28 -
            dsimp only [bkE, F_i0]
            refine ge_run (pc' := 60) (L' := [.ref 1638, .int v_1, .int v_4, .int y_6, .int v_14, .int y_16]) (S' := [.int y_6, .int v_28, .ref 1639]) 1 rfl ?_
            refine ge_grd (fun g_29 g_30 => ?_)
            refine ge_iast (jn := (ix v_28)) rfl (t1639 s) (Nat.le_of_ble_eq_true rfl) ⟨g_29, rfl⟩ g_30 (fun i_31 => ?_)
            refine ge_run (pc' := 62) (L' := [.ref 1638, .int v_1, .int v_4, .int y_6, .int v_14, .int y_16]) (S' := [.ref 1638]) 1 rfl ?_
            refine ge_getR (b := 1639) rfl (t1638 s) rfl (r1638_1 s) (Nat.le_of_ble_eq_true rfl) ?_
            refine ge_run (pc' := 65) (L' := [.ref 1638, .int v_1, .int v_4, .int y_6, .int v_14, .int y_16]) (S' := [.int (2 : Int32), .int v_1, .ref 1639]) 2 rfl ?_
            refine ge_cs rfl rfl rfl rfl rfl rfl (D := 1) (Nat.le_trans (by decide) hd) (c_Mo_buyerAt (n := n) (u := u) (t := t) (i := i_31) (r := r) s v_1 (2 : Int32)) ?_
            rintro v_32 -
            dsimp only [bkE, F_i0]
            refine ge_run (pc' := 67) (L' := [.ref 1638, .int v_1, .int v_4, .int y_6, .int v_14, .int y_16]) (S' := [.int v_14, .int v_32, .ref 1639]) 1 rfl ?_
            refine ge_grd (fun g_33 g_34 => ?_)
            refine ge_iast (jn := (ix v_32)) rfl (t1639 s) (Nat.le_of_ble_eq_true rfl) ⟨g_33, rfl⟩ g_34 (fun i_35 => ?_)
            refine ge_run (pc' := 69) (L' := [.ref 1638, .int v_1, .int v_4, .int y_6, .int v_14, .int y_16]) (S' := [.ref 1638]) 1 rfl ?_
            refine ge_getR (b := 1639) rfl (t1638 s) rfl (r1638_1 s) (Nat.le_of_ble_eq_true rfl) ?_
            refine ge_run (pc' := 72) (L' := [.ref 1638, .int v_1, .int v_4, .int y_6, .int v_14, .int y_16]) (S' := [.int (3 : Int32), .int v_1, .ref 1639]) 2 rfl ?_
            refine ge_cs rfl rfl rfl rfl rfl rfl (D := 1) (Nat.le_trans (by decide) hd) (c_Mo_buyerAt (n := n) (u := u) (t := t) (i := i_35) (r := r) s v_1 (3 : Int32)) ?_
            rintro v_36 -
            dsimp only [bkE, F_i0]
            refine ge_run (pc' := 74) (L' := [.ref 1638, .int v_1, .int v_4, .int y_6, .int v_14, .int y_16]) (S' := [.int y_16, .int v_36, .ref 1639]) 1 rfl ?_
            refine ge_grd (fun g_37 g_38 => ?_)
            refine ge_iast (jn := (ix v_36)) rfl (t1639 s) (Nat.le_of_ble_eq_true rfl) ⟨g_37, rfl⟩ g_38 (fun i_39 => ?_)
            refine ge_run (pc' := 76) (L' := [.ref 1638, .int v_1, .int v_4, .int y_6, .int v_14, .int y_16]) (S' := [.ref 1638]) 1 rfl ?_
            refine ge_getR (b := 1639) rfl (t1638 s) rfl (r1638_1 s) (Nat.le_of_ble_eq_true rfl) ?_
            refine ge_run (pc' := 79) (L' := [.ref 1638, .int v_1, .int v_4, .int y_6, .int v_14, .int y_16]) (S' := [.int (2 : Int32), .ref 1639, .int (2 : Int32), .ref 1639]) 2 rfl ?_
            refine ge_iald (jn := 2) rfl (t1639 s) lk2 (by decide) ?_
            refine ge_run (pc' := 82) (L' := [.ref 1638, .int v_1, .int v_4, .int y_6, .int v_14, .int y_16]) (S' := [.int ((i_39 1639 2) + (1 : Int32)), .int (2 : Int32), .ref 1639]) 2 rfl ?_
            refine ge_iast (jn := 2) rfl (t1639 s) (Nat.le_of_ble_eq_true rfl) lk2 (by decide) (fun i_40 => ?_)
            refine ge_run (pc' := 84) (L' := [.ref 1638, .int v_1, .int v_4, .int y_6, .int v_14, .int y_16]) (S' := [.int (1 : Int32)]) 1 rfl ?_
            exact ge_retz rfl rfl (Or.inr rfl) (And.intro rfl trivial)
def f_Mo_readDead (t : MT) (i : MI) : Option (Int32 × MI) :=
  (f_Mo_deadOnes i).bind (fun v_1 => if v_1 = (6 : Int32) then (some ((0 : Int32), i)) else ((f_Mo_wordOfKind t i).bind (fun (v_4, i_5) => (itr (σ := Int32 × Int32 × MI) (ρ := Int32 × Int32 × MI) (fun (x2_6, x3_7, i_8) => if x3_7 < 0 then (some (.inr (x2_6, x3_7, i_8))) else ((f_Mo_has x2_6 x3_7).bind (fun v_14 => if v_14 = 0 then ((f_Mo_wordOfKind t i_8).bind (fun (v_16, i_17) => some (.inl ((x2_6 ||| (shl (1 : Int32) x3_7)), v_16, i_17)))) else (some (.inr (x2_6, x3_7, i_8)))))) 1000000 ((0 : Int32), v_4, i_5)).bind (fun (x2_9, x3_10, i_11) => if x2_9 = 0 then (some ((0 : Int32), i_11)) else (if x3_10 < 0 then ((f_Mo_isWord t i_11 160).bind (fun v_22 => if v_22 = 0 then (some ((0 : Int32), i_11)) else ((f_Mo_number i_11 (0 : Int32) (99 : Int32)).bind (fun (v_25, i_26) => if v_25 < 0 then (some ((0 : Int32), i_26)) else (grd (((105 : Int32) + ((2 : Int32) * v_1)) + (0 : Int32)) 2115 (bnd (wr i_26 1639 (ix (((105 : Int32) + ((2 : Int32) * v_1)) + (0 : Int32))) x2_9) (fun i_31 => grd (((105 : Int32) + ((2 : Int32) * v_1)) + (1 : Int32)) 2115 (bnd (wr i_31 1639 (ix (((105 : Int32) + ((2 : Int32) * v_1)) + (1 : Int32))) v_25) (fun i_34 => bnd (wr i_34 1639 3 ((i_34 1639 3) + (1 : Int32))) (fun i_35 => some ((1 : Int32), i_35))))))))))) else (some ((0 : Int32), i_11)))))))
set_option maxHeartbeats 4000000 in
theorem c_Mo_readDead {n u : Nat} {t : MT} {i : MI} {r : MR} (s : Sh n t r)  : Cn 7 243 [.ref 1638] (n, u, t, i, r) (f_Mo_readDead t i ) (F_i1 n u t r) PT := by
  refine cn_of (Y := K_Mo_readDead) (L0 := [.ref 1638, uV, uV, uV, uV]) rfl rfl rfl ?_
  intro d hd
  unfold f_Mo_readDead
  refine ge_run (pc' := 1) (L' := [.ref 1638, uV, uV, uV, uV]) (S' := [.ref 1638]) 1 rfl ?_
  refine ge_cv rfl rfl rfl (t1638 s) rfl rfl rfl (D := 1) (Nat.le_trans (by decide) hd) (c_Mo_deadOnes (n := n) (u := u) (t := t) (i := i) (r := r) s ) ?_
  rintro v_1 -
  dsimp only [bkE, F_i0]
  refine ge_run (pc' := 5) (L' := [.ref 1638, .int v_1, uV, uV, uV]) (S' := [.int (6 : Int32), .int v_1]) 3 rfl ?_
  refine ge_ne rfl (fun h_2 => ?_) (fun h_3 => ?_)
  · refine ge_run (pc' := 7) (L' := [.ref 1638, .int v_1, uV, uV, uV]) (S' := [.int (0 : Int32)]) 1 rfl ?_
    exact ge_retz rfl rfl (Or.inl rfl) (And.intro rfl trivial)
  · refine ge_run (pc' := 11) (L' := [.ref 1638, .int v_1, .int (0 : Int32), uV, uV]) (S' := [.ref 1638]) 3 rfl ?_
    refine ge_cv rfl rfl rfl (t1638 s) rfl rfl rfl (D := 6) (Nat.le_trans (by decide) hd) (c_Mo_wordOfKind (n := n) (u := u) (t := t) (i := i) (r := r) s ) ?_
    rintro ⟨v_4, i_5⟩ -
    dsimp only [bkE, F_i1]
    refine ge_run (pc' := 13) (L' := [.ref 1638, .int v_1, .int (0 : Int32), .int v_4, uV]) (S' := []) 1 rfl ?_
    refine ge_bind (K1 := fun (q : Int32 × Int32 × MI) e => e = .inl (29, [.ref 1638, .int v_1, .int q.1, .int q.2.1, uV], [], (n, u, t, q.2.2, r))) (ge_itr (C := fun (q : Int32 × Int32 × MI) e => e = .inl (13, [.ref 1638, .int v_1, .int q.1, .int q.2.1, uV], [], (n, u, t, q.2.2, r))) ?_ _ _ _ rfl) ?_
    · rintro ⟨x2_6, x3_7, i_8⟩ _ rfl
      try dsimp only
      refine ge_run (pc' := 14) (L' := [.ref 1638, .int v_1, .int x2_6, .int x3_7, uV]) (S' := [.int x3_7]) 1 rfl ?_
      refine ge_lt0 rfl (fun h_12 => ?_) (fun h_13 => ?_)
      · exact ge_leaf (K := kX _ _) rfl
      · refine ge_run (pc' := 17) (L' := [.ref 1638, .int v_1, .int x2_6, .int x3_7, uV]) (S' := [.int x3_7, .int x2_6]) 2 rfl ?_
        refine ge_cs rfl rfl rfl rfl rfl rfl (D := 1) (Nat.le_trans (by decide) hd) (c_Mo_has (n := n) (u := u) (t := t) (i := i_8) (r := r) s x2_6 x3_7) ?_
        rintro v_14 -
        dsimp only [bkE, F_i0]
        refine ge_ne0 rfl (fun h_15 => ?_) (fun h_18 => ?_)
        · refine ge_run (pc' := 26) (L' := [.ref 1638, .int v_1, .int (x2_6 ||| (shl (1 : Int32) x3_7)), .int x3_7, uV]) (S' := [.ref 1638]) 7 rfl ?_
          refine ge_cv rfl rfl rfl (t1638 s) rfl rfl rfl (D := 6) (Nat.le_trans (by decide) hd) (c_Mo_wordOfKind (n := n) (u := u) (t := t) (i := i_8) (r := r) s ) ?_
          rintro ⟨v_16, i_17⟩ -
          dsimp only [bkE, F_i1]
          refine ge_run (pc' := 13) (L' := [.ref 1638, .int v_1, .int (x2_6 ||| (shl (1 : Int32) x3_7)), .int v_16, uV]) (S' := []) 2 rfl ?_
          exact ge_leaf (K := kX _ _) rfl
        · exact ge_leaf (K := kX _ _) rfl
    · rintro ⟨x2_9, x3_10, i_11⟩ _ rfl
      try dsimp only
      refine ge_run (pc' := 30) (L' := [.ref 1638, .int v_1, .int x2_9, .int x3_10, uV]) (S' := [.int x2_9]) 1 rfl ?_
      refine ge_eq0 rfl (fun h_19 => ?_) (fun h_20 => ?_)
      · refine ge_run (pc' := 38) (L' := [.ref 1638, .int v_1, .int x2_9, .int x3_10, uV]) (S' := [.int (0 : Int32)]) 1 rfl ?_
        exact ge_retz rfl rfl (Or.inl rfl) (And.intro rfl trivial)
      · refine ge_run (pc' := 32) (L' := [.ref 1638, .int v_1, .int x2_9, .int x3_10, uV]) (S' := [.int x3_10]) 1 rfl ?_
        refine ge_ge0 rfl (fun h_21 => ?_) (fun h_36 => ?_)
        · refine ge_run (pc' := 35) (L' := [.ref 1638, .int v_1, .int x2_9, .int x3_10, uV]) (S' := [.ref 160, .ref 1638]) 2 rfl ?_
          refine ge_cv rfl rfl rfl (t1638 s) rfl rfl rfl (D := 5) (Nat.le_trans (by decide) hd) (c_Mo_isWord (n := n) (u := u) (t := t) (i := i_11) (r := r) s 160 (strAd 79)) ?_
          rintro v_22 -
          dsimp only [bkE, F_i0]
          refine ge_ne0 rfl (fun h_23 => ?_) (fun h_24 => ?_)
          · refine ge_run (pc' := 38) (L' := [.ref 1638, .int v_1, .int x2_9, .int x3_10, uV]) (S' := [.int (0 : Int32)]) 1 rfl ?_
            exact ge_retz rfl rfl (Or.inl rfl) (And.intro rfl trivial)
          · refine ge_run (pc' := 42) (L' := [.ref 1638, .int v_1, .int x2_9, .int x3_10, uV]) (S' := [.int (99 : Int32), .int (0 : Int32), .ref 1638]) 3 rfl ?_
            refine ge_cv rfl rfl rfl (t1638 s) rfl rfl rfl (D := 3) (Nat.le_trans (by decide) hd) (c_Mo_number (n := n) (u := u) (t := t) (i := i_11) (r := r) s (0 : Int32) (99 : Int32)) ?_
            rintro ⟨v_25, i_26⟩ -
            dsimp only [bkE, F_i1]
            refine ge_run (pc' := 45) (L' := [.ref 1638, .int v_1, .int x2_9, .int x3_10, .int v_25]) (S' := [.int v_25]) 2 rfl ?_
            refine ge_ge0 rfl (fun h_27 => ?_) (fun h_28 => ?_)
            · refine ge_run (pc' := 47) (L' := [.ref 1638, .int v_1, .int x2_9, .int x3_10, .int v_25]) (S' := [.int (0 : Int32)]) 1 rfl ?_
              exact ge_retz rfl rfl (Or.inl rfl) (And.intro rfl trivial)
            · refine ge_run (pc' := 49) (L' := [.ref 1638, .int v_1, .int x2_9, .int x3_10, .int v_25]) (S' := [.ref 1638]) 1 rfl ?_
              refine ge_getR (b := 1639) rfl (t1638 s) rfl (r1638_1 s) (Nat.le_of_ble_eq_true rfl) ?_
              refine ge_run (pc' := 58) (L' := [.ref 1638, .int v_1, .int x2_9, .int x3_10, .int v_25]) (S' := [.int x2_9, .int (((105 : Int32) + ((2 : Int32) * v_1)) + (0 : Int32)), .ref 1639]) 8 rfl ?_
              refine ge_grd (fun g_29 g_30 => ?_)
              refine ge_iast (jn := (ix (((105 : Int32) + ((2 : Int32) * v_1)) + (0 : Int32)))) rfl (t1639 s) (Nat.le_of_ble_eq_true rfl) ⟨g_29, rfl⟩ g_30 (fun i_31 => ?_)
              refine ge_run (pc' := 60) (L' := [.ref 1638, .int v_1, .int x2_9, .int x3_10, .int v_25]) (S' := [.ref 1638]) 1 rfl ?_
              refine ge_getR (b := 1639) rfl (t1638 s) rfl (r1638_1 s) (Nat.le_of_ble_eq_true rfl) ?_
              refine ge_run (pc' := 69) (L' := [.ref 1638, .int v_1, .int x2_9, .int x3_10, .int v_25]) (S' := [.int v_25, .int (((105 : Int32) + ((2 : Int32) * v_1)) + (1 : Int32)), .ref 1639]) 8 rfl ?_
              refine ge_grd (fun g_32 g_33 => ?_)
              refine ge_iast (jn := (ix (((105 : Int32) + ((2 : Int32) * v_1)) + (1 : Int32)))) rfl (t1639 s) (Nat.le_of_ble_eq_true rfl) ⟨g_32, rfl⟩ g_33 (fun i_34 => ?_)
              refine ge_run (pc' := 71) (L' := [.ref 1638, .int v_1, .int x2_9, .int x3_10, .int v_25]) (S' := [.ref 1638]) 1 rfl ?_
              refine ge_getR (b := 1639) rfl (t1638 s) rfl (r1638_1 s) (Nat.le_of_ble_eq_true rfl) ?_
              refine ge_run (pc' := 74) (L' := [.ref 1638, .int v_1, .int x2_9, .int x3_10, .int v_25]) (S' := [.int (3 : Int32), .ref 1639, .int (3 : Int32), .ref 1639]) 2 rfl ?_
              refine ge_iald (jn := 3) rfl (t1639 s) lk3 (by decide) ?_
              refine ge_run (pc' := 77) (L' := [.ref 1638, .int v_1, .int x2_9, .int x3_10, .int v_25]) (S' := [.int ((i_34 1639 3) + (1 : Int32)), .int (3 : Int32), .ref 1639]) 2 rfl ?_
              refine ge_iast (jn := 3) rfl (t1639 s) (Nat.le_of_ble_eq_true rfl) lk3 (by decide) (fun i_35 => ?_)
              refine ge_run (pc' := 79) (L' := [.ref 1638, .int v_1, .int x2_9, .int x3_10, .int v_25]) (S' := [.int (1 : Int32)]) 1 rfl ?_
              exact ge_retz rfl rfl (Or.inr rfl) (And.intro rfl trivial)
        · refine ge_run (pc' := 38) (L' := [.ref 1638, .int v_1, .int x2_9, .int x3_10, uV]) (S' := [.int (0 : Int32)]) 1 rfl ?_
          exact ge_retz rfl rfl (Or.inl rfl) (And.intro rfl trivial)
def f_Mo_readSeaLine (t : MT) (i : MI) : Option (Int32 × MI) :=
  (f_Mo_isWord t i 116).bind (fun v_1 => if v_1 = 0 then ((f_Mo_isWord t i 128).bind (fun v_3 => if v_3 = 0 then ((f_Mo_isWord t i 144).bind (fun v_5 => if v_5 = 0 then ((f_Mo_isWord t i 150).bind (fun v_7 => if v_7 = 0 then ((f_Mo_isWord t i 158).bind (fun v_9 => if v_9 = 0 then ((f_Mo_isWord t i 162).bind (fun v_11 => if v_11 = 0 then ((f_Mo_isWord t i 164).bind (fun v_13 => if v_13 = 0 then (some ((0 : Int32), i)) else ((f_Mo_readNumber i (8 : Int32) (0 : Int32) (999 : Int32)).bind (fun (v_16, i_17) => if v_16 = 0 then (some ((0 : Int32), i_17)) else (some ((1 : Int32), i_17)))))) else ((f_Mo_readNumber i (6 : Int32) (0 : Int32) (999 : Int32)).bind (fun (v_21, i_22) => grd2 (decide (v_21 = 0 ∨ v_21 = 1)) (some (v_21, i_22)))))) else ((f_Mo_readDead t i).bind (fun (v_24, i_25) => grd2 (decide (v_24 = 0 ∨ v_24 = 1)) (some (v_24, i_25)))))) else ((f_Mo_readBuyer t i).bind (fun (v_27, i_28) => grd2 (decide (v_27 = 0 ∨ v_27 = 1)) (some (v_27, i_28)))))) else ((f_Mo_readBoat t i).bind (fun (v_30, i_31) => grd2 (decide (v_30 = 0 ∨ v_30 = 1)) (some (v_30, i_31)))))) else ((f_Mo_readFish t i).bind (fun (v_33, i_34) => grd2 (decide (v_33 = 0 ∨ v_33 = 1)) (some (v_33, i_34)))))) else ((f_Mo_readCurrent t i).bind (fun (v_36, i_37) => grd2 (decide (v_36 = 0 ∨ v_36 = 1)) (some (v_36, i_37)))))
set_option maxHeartbeats 4000000 in
theorem c_Mo_readSeaLine {n u : Nat} {t : MT} {i : MI} {r : MR} (s : Sh n t r)  : Cn 9 244 [.ref 1638] (n, u, t, i, r) (f_Mo_readSeaLine t i ) (F_i1 n u t r) PT := by
  refine cn_of (Y := K_Mo_readSeaLine) (L0 := [.ref 1638]) rfl rfl rfl ?_
  intro d hd
  unfold f_Mo_readSeaLine
  refine ge_run (pc' := 2) (L' := [.ref 1638]) (S' := [.ref 116, .ref 1638]) 2 rfl ?_
  refine ge_cv rfl rfl rfl (t1638 s) rfl rfl rfl (D := 5) (Nat.le_trans (by decide) hd) (c_Mo_isWord (n := n) (u := u) (t := t) (i := i) (r := r) s 116 (strAd 57)) ?_
  rintro v_1 -
  dsimp only [bkE, F_i0]
  refine ge_eq0 rfl (fun h_2 => ?_) (fun h_35 => ?_)
  · refine ge_run (pc' := 9) (L' := [.ref 1638]) (S' := [.ref 128, .ref 1638]) 2 rfl ?_
    refine ge_cv rfl rfl rfl (t1638 s) rfl rfl rfl (D := 5) (Nat.le_trans (by decide) hd) (c_Mo_isWord (n := n) (u := u) (t := t) (i := i) (r := r) s 128 (strAd 63)) ?_
    rintro v_3 -
    dsimp only [bkE, F_i0]
    refine ge_eq0 rfl (fun h_4 => ?_) (fun h_32 => ?_)
    · refine ge_run (pc' := 16) (L' := [.ref 1638]) (S' := [.ref 144, .ref 1638]) 2 rfl ?_
      refine ge_cv rfl rfl rfl (t1638 s) rfl rfl rfl (D := 5) (Nat.le_trans (by decide) hd) (c_Mo_isWord (n := n) (u := u) (t := t) (i := i) (r := r) s 144 (strAd 71)) ?_
      rintro v_5 -
      dsimp only [bkE, F_i0]
      refine ge_eq0 rfl (fun h_6 => ?_) (fun h_29 => ?_)
      · refine ge_run (pc' := 23) (L' := [.ref 1638]) (S' := [.ref 150, .ref 1638]) 2 rfl ?_
        refine ge_cv rfl rfl rfl (t1638 s) rfl rfl rfl (D := 5) (Nat.le_trans (by decide) hd) (c_Mo_isWord (n := n) (u := u) (t := t) (i := i) (r := r) s 150 (strAd 74)) ?_
        rintro v_7 -
        dsimp only [bkE, F_i0]
        refine ge_eq0 rfl (fun h_8 => ?_) (fun h_26 => ?_)
        · refine ge_run (pc' := 30) (L' := [.ref 1638]) (S' := [.ref 158, .ref 1638]) 2 rfl ?_
          refine ge_cv rfl rfl rfl (t1638 s) rfl rfl rfl (D := 5) (Nat.le_trans (by decide) hd) (c_Mo_isWord (n := n) (u := u) (t := t) (i := i) (r := r) s 158 (strAd 78)) ?_
          rintro v_9 -
          dsimp only [bkE, F_i0]
          refine ge_eq0 rfl (fun h_10 => ?_) (fun h_23 => ?_)
          · refine ge_run (pc' := 37) (L' := [.ref 1638]) (S' := [.ref 162, .ref 1638]) 2 rfl ?_
            refine ge_cv rfl rfl rfl (t1638 s) rfl rfl rfl (D := 5) (Nat.le_trans (by decide) hd) (c_Mo_isWord (n := n) (u := u) (t := t) (i := i) (r := r) s 162 (strAd 80)) ?_
            rintro v_11 -
            dsimp only [bkE, F_i0]
            refine ge_eq0 rfl (fun h_12 => ?_) (fun h_20 => ?_)
            · refine ge_run (pc' := 47) (L' := [.ref 1638]) (S' := [.ref 164, .ref 1638]) 2 rfl ?_
              refine ge_cv rfl rfl rfl (t1638 s) rfl rfl rfl (D := 5) (Nat.le_trans (by decide) hd) (c_Mo_isWord (n := n) (u := u) (t := t) (i := i) (r := r) s 164 (strAd 81)) ?_
              rintro v_13 -
              dsimp only [bkE, F_i0]
              refine ge_eq0 rfl (fun h_14 => ?_) (fun h_15 => ?_)
              · refine ge_run (pc' := 58) (L' := [.ref 1638]) (S' := [.int (0 : Int32)]) 1 rfl ?_
                exact ge_retz rfl rfl (Or.inl rfl) (And.intro rfl trivial)
              · refine ge_run (pc' := 53) (L' := [.ref 1638]) (S' := [.int (999 : Int32), .int (0 : Int32), .int (8 : Int32), .ref 1638]) 4 rfl ?_
                refine ge_cv rfl rfl rfl (t1638 s) rfl rfl rfl (D := 4) (Nat.le_trans (by decide) hd) (c_Mo_readNumber (n := n) (u := u) (t := t) (i := i) (r := r) s (8 : Int32) (0 : Int32) (999 : Int32)) ?_
                rintro ⟨v_16, i_17⟩ -
                dsimp only [bkE, F_i1]
                refine ge_eq0 rfl (fun h_18 => ?_) (fun h_19 => ?_)
                · refine ge_run (pc' := 58) (L' := [.ref 1638]) (S' := [.int (0 : Int32)]) 1 rfl ?_
                  exact ge_retz rfl rfl (Or.inl rfl) (And.intro rfl trivial)
                · refine ge_run (pc' := 58) (L' := [.ref 1638]) (S' := [.int (1 : Int32)]) 2 rfl ?_
                  exact ge_retz rfl rfl (Or.inr rfl) (And.intro rfl trivial)
            · refine ge_run (pc' := 43) (L' := [.ref 1638]) (S' := [.int (999 : Int32), .int (0 : Int32), .int (6 : Int32), .ref 1638]) 4 rfl ?_
              refine ge_cv rfl rfl rfl (t1638 s) rfl rfl rfl (D := 4) (Nat.le_trans (by decide) hd) (c_Mo_readNumber (n := n) (u := u) (t := t) (i := i) (r := r) s (6 : Int32) (0 : Int32) (999 : Int32)) ?_
              rintro ⟨v_21, i_22⟩ -
              dsimp only [bkE, F_i1]
              exact ge_retZ rfl rfl (And.intro rfl trivial)
          · refine ge_run (pc' := 33) (L' := [.ref 1638]) (S' := [.ref 1638]) 1 rfl ?_
            refine ge_cv rfl rfl rfl (t1638 s) rfl rfl rfl (D := 7) (Nat.le_trans (by decide) hd) (c_Mo_readDead (n := n) (u := u) (t := t) (i := i) (r := r) s ) ?_
            rintro ⟨v_24, i_25⟩ -
            dsimp only [bkE, F_i1]
            exact ge_retZ rfl rfl (And.intro rfl trivial)
        · refine ge_run (pc' := 26) (L' := [.ref 1638]) (S' := [.ref 1638]) 1 rfl ?_
          refine ge_cv rfl rfl rfl (t1638 s) rfl rfl rfl (D := 8) (Nat.le_trans (by decide) hd) (c_Mo_readBuyer (n := n) (u := u) (t := t) (i := i) (r := r) s ) ?_
          rintro ⟨v_27, i_28⟩ -
          dsimp only [bkE, F_i1]
          exact ge_retZ rfl rfl (And.intro rfl trivial)
      · refine ge_run (pc' := 19) (L' := [.ref 1638]) (S' := [.ref 1638]) 1 rfl ?_
        refine ge_cv rfl rfl rfl (t1638 s) rfl rfl rfl (D := 8) (Nat.le_trans (by decide) hd) (c_Mo_readBoat (n := n) (u := u) (t := t) (i := i) (r := r) s ) ?_
        rintro ⟨v_30, i_31⟩ -
        dsimp only [bkE, F_i1]
        exact ge_retZ rfl rfl (And.intro rfl trivial)
    · refine ge_run (pc' := 12) (L' := [.ref 1638]) (S' := [.ref 1638]) 1 rfl ?_
      refine ge_cv rfl rfl rfl (t1638 s) rfl rfl rfl (D := 8) (Nat.le_trans (by decide) hd) (c_Mo_readFish (n := n) (u := u) (t := t) (i := i) (r := r) s ) ?_
      rintro ⟨v_33, i_34⟩ -
      dsimp only [bkE, F_i1]
      exact ge_retZ rfl rfl (And.intro rfl trivial)
  · refine ge_run (pc' := 5) (L' := [.ref 1638]) (S' := [.ref 1638]) 1 rfl ?_
    refine ge_cv rfl rfl rfl (t1638 s) rfl rfl rfl (D := 7) (Nat.le_trans (by decide) hd) (c_Mo_readCurrent (n := n) (u := u) (t := t) (i := i) (r := r) s ) ?_
    rintro ⟨v_36, i_37⟩ -
    dsimp only [bkE, F_i1]
    exact ge_retZ rfl rfl (And.intro rfl trivial)
def f_Mo_emits (i : MI) (x1 : Int32) (x2 : Int32) : Option (MI) :=
  grd ((1315 : Int32) + ((2 : Int32) * (i 1638 16))) 2115 (bnd (wr i 1639 (ix ((1315 : Int32) + ((2 : Int32) * (i 1638 16)))) x1) (fun i_3 => grd (((1315 : Int32) + ((2 : Int32) * (i_3 1638 16))) + (1 : Int32)) 2115 (bnd (wr i_3 1639 (ix (((1315 : Int32) + ((2 : Int32) * (i_3 1638 16))) + (1 : Int32))) x2) (fun i_6 => bnd (wr i_6 1638 16 ((i_6 1638 16) + (1 : Int32))) (fun i_7 => some i_7)))))
set_option maxHeartbeats 4000000 in
theorem c_Mo_emits {n u : Nat} {t : MT} {i : MI} {r : MR} (s : Sh n t r) (x1 : Int32) (x2 : Int32) : Cn 1 245 [.ref 1638, .int x1, .int x2] (n, u, t, i, r) (f_Mo_emits i x1 x2) (F_v1 n u t r) PT := by
  refine cn_of (Y := K_Mo_emits) (L0 := [.ref 1638, .int x1, .int x2]) rfl rfl rfl ?_
  intro d hd
  unfold f_Mo_emits
  refine ge_run (pc' := 1) (L' := [.ref 1638, .int x1, .int x2]) (S' := [.ref 1638]) 1 rfl ?_
  refine ge_getR (b := 1639) rfl (t1638 s) rfl (r1638_1 s) (Nat.le_of_ble_eq_true rfl) ?_
  refine ge_run (pc' := 5) (L' := [.ref 1638, .int x1, .int x2]) (S' := [.ref 1638, .int (2 : Int32), .int (1315 : Int32), .ref 1639]) 3 rfl ?_
  refine ge_getI rfl (t1638 s) rfl ?_
  refine ge_run (pc' := 9) (L' := [.ref 1638, .int x1, .int x2]) (S' := [.int x1, .int ((1315 : Int32) + ((2 : Int32) * (i 1638 16))), .ref 1639]) 3 rfl ?_
  refine ge_grd (fun g_1 g_2 => ?_)
  refine ge_iast (jn := (ix ((1315 : Int32) + ((2 : Int32) * (i 1638 16))))) rfl (t1639 s) (Nat.le_of_ble_eq_true rfl) ⟨g_1, rfl⟩ g_2 (fun i_3 => ?_)
  refine ge_run (pc' := 11) (L' := [.ref 1638, .int x1, .int x2]) (S' := [.ref 1638]) 1 rfl ?_
  refine ge_getR (b := 1639) rfl (t1638 s) rfl (r1638_1 s) (Nat.le_of_ble_eq_true rfl) ?_
  refine ge_run (pc' := 15) (L' := [.ref 1638, .int x1, .int x2]) (S' := [.ref 1638, .int (2 : Int32), .int (1315 : Int32), .ref 1639]) 3 rfl ?_
  refine ge_getI rfl (t1638 s) rfl ?_
  refine ge_run (pc' := 21) (L' := [.ref 1638, .int x1, .int x2]) (S' := [.int x2, .int (((1315 : Int32) + ((2 : Int32) * (i_3 1638 16))) + (1 : Int32)), .ref 1639]) 5 rfl ?_
  refine ge_grd (fun g_4 g_5 => ?_)
  refine ge_iast (jn := (ix (((1315 : Int32) + ((2 : Int32) * (i_3 1638 16))) + (1 : Int32)))) rfl (t1639 s) (Nat.le_of_ble_eq_true rfl) ⟨g_4, rfl⟩ g_5 (fun i_6 => ?_)
  refine ge_run (pc' := 24) (L' := [.ref 1638, .int x1, .int x2]) (S' := [.ref 1638, .ref 1638]) 2 rfl ?_
  refine ge_getI rfl (t1638 s) rfl ?_
  refine ge_run (pc' := 27) (L' := [.ref 1638, .int x1, .int x2]) (S' := [.int ((i_6 1638 16) + (1 : Int32)), .ref 1638]) 2 rfl ?_
  refine ge_putI rfl (t1638 s) (Nat.le_of_ble_eq_true rfl) rfl (fun i_7 => ?_)
  exact ge_retv rfl rfl (And.intro rfl trivial)
def f_Mo_wordOfPart (t : MT) (i : MI) : Option (Int32) :=
  (f_Mo_isWord t i 128).bind (fun v_1 => if v_1 = 0 then ((f_Mo_isWord t i 182).bind (fun v_3 => if v_3 = 0 then ((f_Mo_isWord t i 140).bind (fun v_5 => if v_5 = 0 then ((f_Mo_isWord t i 142).bind (fun v_7 => if v_7 = 0 then ((f_Mo_isWord t i 162).bind (fun v_9 => if v_9 = 0 then ((f_Mo_isWord t i 184).bind (fun v_11 => if v_11 = 0 then ((f_Mo_isWord t i 164).bind (fun v_13 => if v_13 = 0 then (some ((-1 : Int32))) else (some ((6 : Int32))))) else (some ((5 : Int32))))) else (some ((4 : Int32))))) else (some ((3 : Int32))))) else (some ((2 : Int32))))) else (some ((1 : Int32))))) else (some ((0 : Int32))))
set_option maxHeartbeats 4000000 in
theorem c_Mo_wordOfPart {n u : Nat} {t : MT} {i : MI} {r : MR} (s : Sh n t r)  : Cn 6 246 [.ref 1638] (n, u, t, i, r) (f_Mo_wordOfPart t i ) (F_i0 n u t i r) PT := by
  refine cn_of (Y := K_Mo_wordOfPart) (L0 := [.ref 1638]) rfl rfl rfl ?_
  intro d hd
  unfold f_Mo_wordOfPart
  refine ge_run (pc' := 2) (L' := [.ref 1638]) (S' := [.ref 128, .ref 1638]) 2 rfl ?_
  refine ge_cv rfl rfl rfl (t1638 s) rfl rfl rfl (D := 5) (Nat.le_trans (by decide) hd) (c_Mo_isWord (n := n) (u := u) (t := t) (i := i) (r := r) s 128 (strAd 63)) ?_
  rintro v_1 -
  dsimp only [bkE, F_i0]
  refine ge_eq0 rfl (fun h_2 => ?_) (fun h_21 => ?_)
  · refine ge_run (pc' := 8) (L' := [.ref 1638]) (S' := [.ref 182, .ref 1638]) 2 rfl ?_
    refine ge_cv rfl rfl rfl (t1638 s) rfl rfl rfl (D := 5) (Nat.le_trans (by decide) hd) (c_Mo_isWord (n := n) (u := u) (t := t) (i := i) (r := r) s 182 (strAd 90)) ?_
    rintro v_3 -
    dsimp only [bkE, F_i0]
    refine ge_eq0 rfl (fun h_4 => ?_) (fun h_20 => ?_)
    · refine ge_run (pc' := 14) (L' := [.ref 1638]) (S' := [.ref 140, .ref 1638]) 2 rfl ?_
      refine ge_cv rfl rfl rfl (t1638 s) rfl rfl rfl (D := 5) (Nat.le_trans (by decide) hd) (c_Mo_isWord (n := n) (u := u) (t := t) (i := i) (r := r) s 140 (strAd 69)) ?_
      rintro v_5 -
      dsimp only [bkE, F_i0]
      refine ge_eq0 rfl (fun h_6 => ?_) (fun h_19 => ?_)
      · refine ge_run (pc' := 20) (L' := [.ref 1638]) (S' := [.ref 142, .ref 1638]) 2 rfl ?_
        refine ge_cv rfl rfl rfl (t1638 s) rfl rfl rfl (D := 5) (Nat.le_trans (by decide) hd) (c_Mo_isWord (n := n) (u := u) (t := t) (i := i) (r := r) s 142 (strAd 70)) ?_
        rintro v_7 -
        dsimp only [bkE, F_i0]
        refine ge_eq0 rfl (fun h_8 => ?_) (fun h_18 => ?_)
        · refine ge_run (pc' := 26) (L' := [.ref 1638]) (S' := [.ref 162, .ref 1638]) 2 rfl ?_
          refine ge_cv rfl rfl rfl (t1638 s) rfl rfl rfl (D := 5) (Nat.le_trans (by decide) hd) (c_Mo_isWord (n := n) (u := u) (t := t) (i := i) (r := r) s 162 (strAd 80)) ?_
          rintro v_9 -
          dsimp only [bkE, F_i0]
          refine ge_eq0 rfl (fun h_10 => ?_) (fun h_17 => ?_)
          · refine ge_run (pc' := 32) (L' := [.ref 1638]) (S' := [.ref 184, .ref 1638]) 2 rfl ?_
            refine ge_cv rfl rfl rfl (t1638 s) rfl rfl rfl (D := 5) (Nat.le_trans (by decide) hd) (c_Mo_isWord (n := n) (u := u) (t := t) (i := i) (r := r) s 184 (strAd 91)) ?_
            rintro v_11 -
            dsimp only [bkE, F_i0]
            refine ge_eq0 rfl (fun h_12 => ?_) (fun h_16 => ?_)
            · refine ge_run (pc' := 38) (L' := [.ref 1638]) (S' := [.ref 164, .ref 1638]) 2 rfl ?_
              refine ge_cv rfl rfl rfl (t1638 s) rfl rfl rfl (D := 5) (Nat.le_trans (by decide) hd) (c_Mo_isWord (n := n) (u := u) (t := t) (i := i) (r := r) s 164 (strAd 81)) ?_
              rintro v_13 -
              dsimp only [bkE, F_i0]
              refine ge_eq0 rfl (fun h_14 => ?_) (fun h_15 => ?_)
              · refine ge_run (pc' := 43) (L' := [.ref 1638]) (S' := [.int (-1 : Int32)]) 1 rfl ?_
                exact ge_ret rfl rfl (And.intro rfl trivial)
              · refine ge_run (pc' := 43) (L' := [.ref 1638]) (S' := [.int (6 : Int32)]) 2 rfl ?_
                exact ge_ret rfl rfl (And.intro rfl trivial)
            · refine ge_run (pc' := 35) (L' := [.ref 1638]) (S' := [.int (5 : Int32)]) 1 rfl ?_
              exact ge_ret rfl rfl (And.intro rfl trivial)
          · refine ge_run (pc' := 29) (L' := [.ref 1638]) (S' := [.int (4 : Int32)]) 1 rfl ?_
            exact ge_ret rfl rfl (And.intro rfl trivial)
        · refine ge_run (pc' := 23) (L' := [.ref 1638]) (S' := [.int (3 : Int32)]) 1 rfl ?_
          exact ge_ret rfl rfl (And.intro rfl trivial)
      · refine ge_run (pc' := 17) (L' := [.ref 1638]) (S' := [.int (2 : Int32)]) 1 rfl ?_
        exact ge_ret rfl rfl (And.intro rfl trivial)
    · refine ge_run (pc' := 11) (L' := [.ref 1638]) (S' := [.int (1 : Int32)]) 1 rfl ?_
      exact ge_ret rfl rfl (And.intro rfl trivial)
  · refine ge_run (pc' := 5) (L' := [.ref 1638]) (S' := [.int (0 : Int32)]) 1 rfl ?_
    exact ge_ret rfl rfl (And.intro rfl trivial)
def f_Mo_readPart (t : MT) (i : MI) : Option (Int32 × MI) :=
  (f_Mo_letters i).bind (fun i_1 => (if (i_1 1638 10) = (i_1 1638 12) then (some (1 : Int32)) else (some (0 : Int32)) : Option (Int32)).bind (fun y_2 => (if y_2 = 0 then ((f_Mo_wordOfPart t i_1).bind (fun v_8 => some (v_8, i_1))) else ((f_Mo_number i_1 (0 : Int32) (999 : Int32)).bind (fun (v_10, i_11) => some (v_10, i_11))) : Option (Int32 × MI)).bind (fun (y_5, i_6) => (if y_2 = 0 then (some y_5) else (some (10 : Int32)) : Option (Int32)).bind (fun y_12 => (if y_2 = 0 then (some (0 : Int32)) else (some y_5) : Option (Int32)).bind (fun y_15 => (f_Mo_emits i_6 y_12 y_15).bind (fun i_18 => if y_5 < 0 then (some ((0 : Int32), i_18)) else (some ((1 : Int32), i_18))))))))
set_option maxHeartbeats 4000000 in
theorem c_Mo_readPart {n u : Nat} {t : MT} {i : MI} {r : MR} (s : Sh n t r)  : Cn 7 247 [.ref 1638] (n, u, t, i, r) (f_Mo_readPart t i ) (F_i1 n u t r) PT := by
  refine cn_of (Y := K_Mo_readPart) (L0 := [.ref 1638, uV, uV]) rfl rfl rfl ?_
  intro d hd
  unfold f_Mo_readPart
  refine ge_run (pc' := 1) (L' := [.ref 1638, uV, uV]) (S' := [.ref 1638]) 1 rfl ?_
  refine ge_cv rfl rfl rfl (t1638 s) rfl rfl rfl (D := 3) (Nat.le_trans (by decide) hd) (c_Mo_letters (n := n) (u := u) (t := t) (i := i) (r := r) s ) ?_
  rintro i_1 -
  dsimp only [bkE, F_v1]
  refine ge_run (pc' := 3) (L' := [.ref 1638, uV, uV]) (S' := [.ref 1638]) 1 rfl ?_
  refine ge_getI rfl (t1638 s) rfl ?_
  refine ge_run (pc' := 5) (L' := [.ref 1638, uV, uV]) (S' := [.ref 1638, .int (i_1 1638 10)]) 1 rfl ?_
  refine ge_getI rfl (t1638 s) rfl ?_
  refine ge_bind (K1 := fun (q : Int32) e => e = .inl (10, [.ref 1638, uV, uV], [.int q], (n, u, t, i_1, r))) ?_ ?_
  · refine ge_ne rfl (fun h_3 => ?_) (fun h_4 => ?_)
    · refine ge_run (pc' := 10) (L' := [.ref 1638, uV, uV]) (S' := [.int (1 : Int32)]) 2 rfl ?_
      exact ge_leaf rfl
    · refine ge_run (pc' := 10) (L' := [.ref 1638, uV, uV]) (S' := [.int (0 : Int32)]) 1 rfl ?_
      exact ge_leaf rfl
  · rintro y_2 _ rfl
    try dsimp only
    refine ge_run (pc' := 12) (L' := [.ref 1638, .int y_2, uV]) (S' := [.int y_2]) 2 rfl ?_
    refine ge_bind (K1 := fun (q : Int32 × MI) e => e = .inl (20, [.ref 1638, .int y_2, uV], [.int q.1], (n, u, t, q.2, r))) ?_ ?_
    · refine ge_eq0 rfl (fun h_7 => ?_) (fun h_9 => ?_)
      · refine ge_run (pc' := 19) (L' := [.ref 1638, .int y_2, uV]) (S' := [.ref 1638]) 1 rfl ?_
        refine ge_cv rfl rfl rfl (t1638 s) rfl rfl rfl (D := 6) (Nat.le_trans (by decide) hd) (c_Mo_wordOfPart (n := n) (u := u) (t := t) (i := i_1) (r := r) s ) ?_
        rintro v_8 -
        dsimp only [bkE, F_i0]
        exact ge_leaf rfl
      · refine ge_run (pc' := 16) (L' := [.ref 1638, .int y_2, uV]) (S' := [.int (999 : Int32), .int (0 : Int32), .ref 1638]) 3 rfl ?_
        refine ge_cv rfl rfl rfl (t1638 s) rfl rfl rfl (D := 3) (Nat.le_trans (by decide) hd) (c_Mo_number (n := n) (u := u) (t := t) (i := i_1) (r := r) s (0 : Int32) (999 : Int32)) ?_
        rintro ⟨v_10, i_11⟩ -
        dsimp only [bkE, F_i1]
        refine ge_run (pc' := 20) (L' := [.ref 1638, .int y_2, uV]) (S' := [.int v_10]) 1 rfl ?_
        exact ge_leaf rfl
    · rintro ⟨y_5, i_6⟩ _ rfl
      try dsimp only
      refine ge_run (pc' := 23) (L' := [.ref 1638, .int y_2, .int y_5]) (S' := [.int y_2, .ref 1638]) 3 rfl ?_
      refine ge_bind (K1 := fun (q : Int32) e => e = .inl (27, [.ref 1638, .int y_2, .int y_5], [.int q, .ref 1638], (n, u, t, i_6, r))) ?_ ?_
      · refine ge_eq0 rfl (fun h_13 => ?_) (fun h_14 => ?_)
        · refine ge_run (pc' := 27) (L' := [.ref 1638, .int y_2, .int y_5]) (S' := [.int y_5, .ref 1638]) 1 rfl ?_
          exact ge_leaf rfl
        · refine ge_run (pc' := 27) (L' := [.ref 1638, .int y_2, .int y_5]) (S' := [.int (10 : Int32), .ref 1638]) 2 rfl ?_
          exact ge_leaf rfl
      · rintro y_12 _ rfl
        try dsimp only
        refine ge_run (pc' := 28) (L' := [.ref 1638, .int y_2, .int y_5]) (S' := [.int y_2, .int y_12, .ref 1638]) 1 rfl ?_
        refine ge_bind (K1 := fun (q : Int32) e => e = .inl (32, [.ref 1638, .int y_2, .int y_5], [.int q, .int y_12, .ref 1638], (n, u, t, i_6, r))) ?_ ?_
        · refine ge_eq0 rfl (fun h_16 => ?_) (fun h_17 => ?_)
          · refine ge_run (pc' := 32) (L' := [.ref 1638, .int y_2, .int y_5]) (S' := [.int (0 : Int32), .int y_12, .ref 1638]) 1 rfl ?_
            exact ge_leaf rfl
          · refine ge_run (pc' := 32) (L' := [.ref 1638, .int y_2, .int y_5]) (S' := [.int y_5, .int y_12, .ref 1638]) 2 rfl ?_
            exact ge_leaf rfl
        · rintro y_15 _ rfl
          try dsimp only
          refine ge_cv rfl rfl rfl (t1638 s) rfl rfl rfl (D := 1) (Nat.le_trans (by decide) hd) (c_Mo_emits (n := n) (u := u) (t := t) (i := i_6) (r := r) s y_12 y_15) ?_
          rintro i_18 -
          dsimp only [bkE, F_v1]
          refine ge_run (pc' := 34) (L' := [.ref 1638, .int y_2, .int y_5]) (S' := [.int y_5]) 1 rfl ?_
          refine ge_lt0 rfl (fun h_19 => ?_) (fun h_20 => ?_)
          · refine ge_run (pc' := 38) (L' := [.ref 1638, .int y_2, .int y_5]) (S' := [.int (0 : Int32)]) 1 rfl ?_
            exact ge_retz rfl rfl (Or.inl rfl) (And.intro rfl trivial)
          · refine ge_run (pc' := 38) (L' := [.ref 1638, .int y_2, .int y_5]) (S' := [.int (1 : Int32)]) 2 rfl ?_
            exact ge_retz rfl rfl (Or.inr rfl) (And.intro rfl trivial)
def f_Mo_readSum (t : MT) (i : MI) : Option (Int32 × MI) :=
  (f_Mo_readPart t i).bind (fun (v_1, i_2) => if v_1 = 0 then (some ((0 : Int32), i_2)) else (itr (σ := MI) (ρ := Int32 × MI) (fun i_5 => (f_Mo_sign i_5 (43 : Int32)).bind (fun (v_6, i_7) => if v_6 = 0 then (some (.inr (((1 : Int32), i_7)))) else ((f_Mo_readPart t i_7).bind (fun (v_10, i_11) => if v_10 = 0 then (some (.inr (((0 : Int32), i_11)))) else ((f_Mo_emits i_11 (11 : Int32) (0 : Int32)).bind (fun i_14 => some (.inl i_14))))))) 1000000 i_2))
set_option maxHeartbeats 4000000 in
theorem c_Mo_readSum {n u : Nat} {t : MT} {i : MI} {r : MR} (s : Sh n t r)  : Cn 8 248 [.ref 1638] (n, u, t, i, r) (f_Mo_readSum t i ) (F_i1 n u t r) PT := by
  refine cn_of (Y := K_Mo_readSum) (L0 := [.ref 1638]) rfl rfl rfl ?_
  intro d hd
  unfold f_Mo_readSum
  refine ge_run (pc' := 1) (L' := [.ref 1638]) (S' := [.ref 1638]) 1 rfl ?_
  refine ge_cv rfl rfl rfl (t1638 s) rfl rfl rfl (D := 7) (Nat.le_trans (by decide) hd) (c_Mo_readPart (n := n) (u := u) (t := t) (i := i) (r := r) s ) ?_
  rintro ⟨v_1, i_2⟩ -
  dsimp only [bkE, F_i1]
  refine ge_ne0 rfl (fun h_3 => ?_) (fun h_4 => ?_)
  · refine ge_run (pc' := 4) (L' := [.ref 1638]) (S' := [.int (0 : Int32)]) 1 rfl ?_
    exact ge_retz rfl rfl (Or.inl rfl) (And.intro rfl trivial)
  · refine ge_itr (C := fun (q : MI) e => e = .inl (5, [.ref 1638], [], (n, u, t, q, r))) ?_ _ _ _ rfl
    rintro i_5 _ rfl
    try dsimp only
    refine ge_run (pc' := 7) (L' := [.ref 1638]) (S' := [.int (43 : Int32), .ref 1638]) 2 rfl ?_
    refine ge_cv rfl rfl rfl (t1638 s) rfl rfl rfl (D := 3) (Nat.le_trans (by decide) hd) (c_Mo_sign (n := n) (u := u) (t := t) (i := i_5) (r := r) s (43 : Int32)) ?_
    rintro ⟨v_6, i_7⟩ -
    dsimp only [bkE, F_i1]
    refine ge_eq0 rfl (fun h_8 => ?_) (fun h_9 => ?_)
    · refine ge_run (pc' := 20) (L' := [.ref 1638]) (S' := [.int (1 : Int32)]) 1 rfl ?_
      exact ge_retz rfl rfl (Or.inr rfl) (And.intro rfl trivial)
    · refine ge_run (pc' := 10) (L' := [.ref 1638]) (S' := [.ref 1638]) 1 rfl ?_
      refine ge_cv rfl rfl rfl (t1638 s) rfl rfl rfl (D := 7) (Nat.le_trans (by decide) hd) (c_Mo_readPart (n := n) (u := u) (t := t) (i := i_7) (r := r) s ) ?_
      rintro ⟨v_10, i_11⟩ -
      dsimp only [bkE, F_i1]
      refine ge_ne0 rfl (fun h_12 => ?_) (fun h_13 => ?_)
      · refine ge_run (pc' := 13) (L' := [.ref 1638]) (S' := [.int (0 : Int32)]) 1 rfl ?_
        exact ge_retz rfl rfl (Or.inl rfl) (And.intro rfl trivial)
      · refine ge_run (pc' := 17) (L' := [.ref 1638]) (S' := [.int (0 : Int32), .int (11 : Int32), .ref 1638]) 3 rfl ?_
        refine ge_cv rfl rfl rfl (t1638 s) rfl rfl rfl (D := 1) (Nat.le_trans (by decide) hd) (c_Mo_emits (n := n) (u := u) (t := t) (i := i_11) (r := r) s (11 : Int32) (0 : Int32)) ?_
        rintro i_14 -
        dsimp only [bkE, F_v1]
        refine ge_run (pc' := 5) (L' := [.ref 1638]) (S' := []) 1 rfl ?_
        exact ge_leaf (K := kX _ _) rfl
def f_Mo_readTag (t : MT) (i : MI) : Option (Int32 × MI) :=
  (f_Mo_letters i).bind (fun i_1 => (f_Mo_isWord t i_1 176).bind (fun v_2 => (if v_2 = 0 then ((f_Mo_isWord t i_1 178).bind (fun v_5 => if v_5 = 0 then ((f_Mo_isWord t i_1 180).bind (fun v_7 => if v_7 = 0 then (some (-1 : Int32)) else (some (9 : Int32)))) else (some (8 : Int32)))) else (some (7 : Int32)) : Option (Int32)).bind (fun y_3 => (if y_3 < 0 then (bnd (wr i_1 1638 10 (i_1 1638 12)) (fun i_14 => some i_14)) else ((f_Mo_emits i_1 y_3 (0 : Int32)).bind (fun i_16 => some i_16)) : Option (MI)).bind (fun i_12 => if y_3 < 0 then (some ((0 : Int32), i_12)) else (some ((1 : Int32), i_12))))))
set_option maxHeartbeats 4000000 in
theorem c_Mo_readTag {n u : Nat} {t : MT} {i : MI} {r : MR} (s : Sh n t r)  : Cn 6 249 [.ref 1638] (n, u, t, i, r) (f_Mo_readTag t i ) (F_i1 n u t r) PT := by
  refine cn_of (Y := K_Mo_readTag) (L0 := [.ref 1638, uV]) rfl rfl rfl ?_
  intro d hd
  unfold f_Mo_readTag
  refine ge_run (pc' := 1) (L' := [.ref 1638, uV]) (S' := [.ref 1638]) 1 rfl ?_
  refine ge_cv rfl rfl rfl (t1638 s) rfl rfl rfl (D := 3) (Nat.le_trans (by decide) hd) (c_Mo_letters (n := n) (u := u) (t := t) (i := i) (r := r) s ) ?_
  rintro i_1 -
  dsimp only [bkE, F_v1]
  refine ge_run (pc' := 4) (L' := [.ref 1638, uV]) (S' := [.ref 176, .ref 1638]) 2 rfl ?_
  refine ge_cv rfl rfl rfl (t1638 s) rfl rfl rfl (D := 5) (Nat.le_trans (by decide) hd) (c_Mo_isWord (n := n) (u := u) (t := t) (i := i_1) (r := r) s 176 (strAd 87)) ?_
  rintro v_2 -
  dsimp only [bkE, F_i0]
  refine ge_bind (K1 := fun (q : Int32) e => e = .inl (21, [.ref 1638, uV], [.int q], (n, u, t, i_1, r))) ?_ ?_
  · refine ge_eq0 rfl (fun h_4 => ?_) (fun h_11 => ?_)
    · refine ge_run (pc' := 10) (L' := [.ref 1638, uV]) (S' := [.ref 178, .ref 1638]) 2 rfl ?_
      refine ge_cv rfl rfl rfl (t1638 s) rfl rfl rfl (D := 5) (Nat.le_trans (by decide) hd) (c_Mo_isWord (n := n) (u := u) (t := t) (i := i_1) (r := r) s 178 (strAd 88)) ?_
      rintro v_5 -
      dsimp only [bkE, F_i0]
      refine ge_eq0 rfl (fun h_6 => ?_) (fun h_10 => ?_)
      · refine ge_run (pc' := 16) (L' := [.ref 1638, uV]) (S' := [.ref 180, .ref 1638]) 2 rfl ?_
        refine ge_cv rfl rfl rfl (t1638 s) rfl rfl rfl (D := 5) (Nat.le_trans (by decide) hd) (c_Mo_isWord (n := n) (u := u) (t := t) (i := i_1) (r := r) s 180 (strAd 89)) ?_
        rintro v_7 -
        dsimp only [bkE, F_i0]
        refine ge_eq0 rfl (fun h_8 => ?_) (fun h_9 => ?_)
        · refine ge_run (pc' := 21) (L' := [.ref 1638, uV]) (S' := [.int (-1 : Int32)]) 1 rfl ?_
          exact ge_leaf rfl
        · refine ge_run (pc' := 21) (L' := [.ref 1638, uV]) (S' := [.int (9 : Int32)]) 2 rfl ?_
          exact ge_leaf rfl
      · refine ge_run (pc' := 21) (L' := [.ref 1638, uV]) (S' := [.int (8 : Int32)]) 2 rfl ?_
        exact ge_leaf rfl
    · refine ge_run (pc' := 21) (L' := [.ref 1638, uV]) (S' := [.int (7 : Int32)]) 2 rfl ?_
      exact ge_leaf rfl
  · rintro y_3 _ rfl
    try dsimp only
    refine ge_run (pc' := 23) (L' := [.ref 1638, .int y_3]) (S' := [.int y_3]) 2 rfl ?_
    refine ge_bind (K1 := fun (q : MI) e => e = .inl (33, [.ref 1638, .int y_3], [], (n, u, t, q, r))) ?_ ?_
    · refine ge_lt0 rfl (fun h_13 => ?_) (fun h_15 => ?_)
      · refine ge_run (pc' := 31) (L' := [.ref 1638, .int y_3]) (S' := [.ref 1638, .ref 1638]) 2 rfl ?_
        refine ge_getI rfl (t1638 s) rfl ?_
        refine ge_putI rfl (t1638 s) (Nat.le_of_ble_eq_true rfl) rfl (fun i_14 => ?_)
        exact ge_leaf rfl
      · refine ge_run (pc' := 27) (L' := [.ref 1638, .int y_3]) (S' := [.int (0 : Int32), .int y_3, .ref 1638]) 3 rfl ?_
        refine ge_cv rfl rfl rfl (t1638 s) rfl rfl rfl (D := 1) (Nat.le_trans (by decide) hd) (c_Mo_emits (n := n) (u := u) (t := t) (i := i_1) (r := r) s y_3 (0 : Int32)) ?_
        rintro i_16 -
        dsimp only [bkE, F_v1]
        refine ge_run (pc' := 33) (L' := [.ref 1638, .int y_3]) (S' := []) 1 rfl ?_
        exact ge_leaf rfl
    · rintro i_12 _ rfl
      try dsimp only
      refine ge_run (pc' := 34) (L' := [.ref 1638, .int y_3]) (S' := [.int y_3]) 1 rfl ?_
      refine ge_lt0 rfl (fun h_17 => ?_) (fun h_18 => ?_)
      · refine ge_run (pc' := 38) (L' := [.ref 1638, .int y_3]) (S' := [.int (0 : Int32)]) 1 rfl ?_
        exact ge_retz rfl rfl (Or.inl rfl) (And.intro rfl trivial)
      · refine ge_run (pc' := 38) (L' := [.ref 1638, .int y_3]) (S' := [.int (1 : Int32)]) 2 rfl ?_
        exact ge_retz rfl rfl (Or.inr rfl) (And.intro rfl trivial)
