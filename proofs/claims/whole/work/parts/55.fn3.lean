/-! ===== methods as functions, part 3 (written by wip/gen/decall.py) ===== -/
def f_Sl_bestPairs (i : MI) (b1 : Nat) (x2 : Int32) : Option (Int32) :=
  (f_Se_leastOf i b1 x2).bind (fun v_1 => grd (x2 &&& ((shl (1 : Int32) v_1) ^^^ (-1 : Int32))) 256 ((itr (σ := Int32 × Int32) (ρ := Int32) (fun (x5_4, x6_5) => if x6_5 < (i b1 7) then ((if ((shr (x2 &&& ((shl (1 : Int32) v_1) ^^^ (-1 : Int32))) x6_5) &&& (1 : Int32)) = 0 then (some (-1 : Int32)) else ((f_Sl_pairSize i b1 v_1 x6_5).bind (fun v_14 => some v_14)) : Option (Int32)).bind (fun y_11 => (if y_11 = (-1 : Int32) then (some x5_4) else (grd ((x2 &&& ((shl (1 : Int32) v_1) ^^^ (-1 : Int32))) &&& ((shl (1 : Int32) x6_5) ^^^ (-1 : Int32))) 256 ((f_J_max x5_4 (y_11 + (i (1622 + 0) (ix ((x2 &&& ((shl (1 : Int32) v_1) ^^^ (-1 : Int32))) &&& ((shl (1 : Int32) x6_5) ^^^ (-1 : Int32))))))).bind (fun v_20 => some v_20))) : Option (Int32)).bind (fun x5_15 => some (.inl (x5_15, (x6_5 + (1 : Int32))))))) else (some (.inr x5_4))) 1000000 ((i (1622 + 0) (ix (x2 &&& ((shl (1 : Int32) v_1) ^^^ (-1 : Int32))))), (v_1 + (1 : Int32)))).bind (fun x5_7 => some (x5_7))))
set_option maxHeartbeats 4000000 in
theorem c_Sl_bestPairs {n u : Nat} {t : MT} {i : MI} {r : MR} (s : Sh n t r) (b1 : Nat) (hb1 : SeaAd b1) (x2 : Int32) : Cn 2 103 [.ref 1620, .ref b1, .int x2] (n, u, t, i, r) (f_Sl_bestPairs i b1 x2) (F_i0 n u t i r) PT := by
  refine cn_of (Y := K_Sl_bestPairs) (L0 := [.ref 1620, .ref b1, .int x2, uV, uV, uV, uV, uV]) rfl rfl rfl ?_
  intro d hd
  unfold f_Sl_bestPairs
  refine ge_run (pc' := 2) (L' := [.ref 1620, .ref b1, .int x2, uV, uV, uV, uV, uV]) (S' := [.int x2, .ref b1]) 2 rfl ?_
  refine ge_cv rfl rfl rfl (sT0 s hb1) rfl rfl rfl (D := 1) (Nat.le_trans (by decide) hd) (c_Se_leastOf (n := n) (u := u) (t := t) (i := i) (r := r) s b1 hb1 x2) ?_
  rintro v_1 -
  dsimp only [bkE, F_i0]
  refine ge_run (pc' := 13) (L' := [.ref 1620, .ref b1, .int x2, .int v_1, .int (x2 &&& ((shl (1 : Int32) v_1) ^^^ (-1 : Int32))), uV, uV, uV]) (S' := [.ref 1620]) 10 rfl ?_
  refine ge_getR (b := 1621) rfl (t1620 s) rfl (r1620_0 s) (Nat.le_of_ble_eq_true rfl) ?_
  refine ge_run (pc' := 15) (L' := [.ref 1620, .ref b1, .int x2, .int v_1, .int (x2 &&& ((shl (1 : Int32) v_1) ^^^ (-1 : Int32))), uV, uV, uV]) (S' := [.int (0 : Int32), .ref 1621]) 1 rfl ?_
  refine ge_aald (jn := 0) (b := (1622 + 0)) rfl (t1621 s) (Or.inl rfl) lk0 (by decide) (rowR1622 s (by decide)) (Nat.le_trans (Nat.le_of_ble_eq_true rfl) (Nat.le_add_right 1622 _)) ?_
  refine ge_run (pc' := 17) (L' := [.ref 1620, .ref b1, .int x2, .int v_1, .int (x2 &&& ((shl (1 : Int32) v_1) ^^^ (-1 : Int32))), uV, uV, uV]) (S' := [.int (x2 &&& ((shl (1 : Int32) v_1) ^^^ (-1 : Int32))), .ref (1622 + 0)]) 1 rfl ?_
  refine ge_grd (fun g_2 g_3 => ?_)
  refine ge_iald (jn := (ix (x2 &&& ((shl (1 : Int32) v_1) ^^^ (-1 : Int32))))) rfl (rowT1622 s (by decide)) ⟨g_2, rfl⟩ g_3 ?_
  refine ge_run (pc' := 23) (L' := [.ref 1620, .ref b1, .int x2, .int v_1, .int (x2 &&& ((shl (1 : Int32) v_1) ^^^ (-1 : Int32))), .int (i (1622 + 0) (ix (x2 &&& ((shl (1 : Int32) v_1) ^^^ (-1 : Int32))))), .int (v_1 + (1 : Int32)), uV]) (S' := []) 5 rfl ?_
  refine ge_bind (K1 := fun (q : Int32) e => ∃ w_8 w_9 : Value, e = .inl (62, [.ref 1620, .ref b1, .int x2, .int v_1, .int (x2 &&& ((shl (1 : Int32) v_1) ^^^ (-1 : Int32))), .int q, w_8, w_9], [], (n, u, t, i, r))) (ge_itr (C := fun (q : Int32 × Int32) e => ∃ w_6 : Value, e = .inl (23, [.ref 1620, .ref b1, .int x2, .int v_1, .int (x2 &&& ((shl (1 : Int32) v_1) ^^^ (-1 : Int32))), .int q.1, .int q.2, w_6], [], (n, u, t, i, r))) ?_ _ _ _ (Exists.intro _ rfl)) ?_
  · rintro ⟨x5_4, x6_5⟩ _ ⟨w_6, rfl⟩
    try dsimp only
    refine ge_run (pc' := 25) (L' := [.ref 1620, .ref b1, .int x2, .int v_1, .int (x2 &&& ((shl (1 : Int32) v_1) ^^^ (-1 : Int32))), .int x5_4, .int x6_5, w_6]) (S' := [.ref b1, .int x6_5]) 2 rfl ?_
    refine ge_getI rfl (sT0 s hb1) rfl ?_
    refine ge_ge rfl (fun h_10 => ?_) (fun h_21 => ?_)
    · refine ge_run (pc' := 32) (L' := [.ref 1620, .ref b1, .int x2, .int v_1, .int (x2 &&& ((shl (1 : Int32) v_1) ^^^ (-1 : Int32))), .int x5_4, .int x6_5, w_6]) (S' := [.int ((shr (x2 &&& ((shl (1 : Int32) v_1) ^^^ (-1 : Int32))) x6_5) &&& (1 : Int32))]) 5 rfl ?_
      refine ge_bind (K1 := fun (q : Int32) e => e = .inl (39, [.ref 1620, .ref b1, .int x2, .int v_1, .int (x2 &&& ((shl (1 : Int32) v_1) ^^^ (-1 : Int32))), .int x5_4, .int x6_5, w_6], [.int q], (n, u, t, i, r))) ?_ ?_
      · refine ge_eq0 rfl (fun h_12 => ?_) (fun h_13 => ?_)
        · refine ge_run (pc' := 39) (L' := [.ref 1620, .ref b1, .int x2, .int v_1, .int (x2 &&& ((shl (1 : Int32) v_1) ^^^ (-1 : Int32))), .int x5_4, .int x6_5, w_6]) (S' := [.int (-1 : Int32)]) 1 rfl ?_
          exact ge_leaf rfl
        · refine ge_run (pc' := 36) (L' := [.ref 1620, .ref b1, .int x2, .int v_1, .int (x2 &&& ((shl (1 : Int32) v_1) ^^^ (-1 : Int32))), .int x5_4, .int x6_5, w_6]) (S' := [.int x6_5, .int v_1, .ref b1]) 3 rfl ?_
          refine ge_cs rfl rfl rfl rfl rfl rfl (D := 1) (Nat.le_trans (by decide) hd) (c_Sl_pairSize (n := n) (u := u) (t := t) (i := i) (r := r) s b1 hb1 v_1 x6_5) ?_
          rintro v_14 -
          dsimp only [bkE, F_i0]
          refine ge_run (pc' := 39) (L' := [.ref 1620, .ref b1, .int x2, .int v_1, .int (x2 &&& ((shl (1 : Int32) v_1) ^^^ (-1 : Int32))), .int x5_4, .int x6_5, w_6]) (S' := [.int v_14]) 1 rfl ?_
          exact ge_leaf rfl
      · rintro y_11 _ rfl
        try dsimp only
        refine ge_run (pc' := 42) (L' := [.ref 1620, .ref b1, .int x2, .int v_1, .int (x2 &&& ((shl (1 : Int32) v_1) ^^^ (-1 : Int32))), .int x5_4, .int x6_5, .int y_11]) (S' := [.int (-1 : Int32), .int y_11]) 3 rfl ?_
        refine ge_bind (K1 := fun (q : Int32) e => e = .inl (60, [.ref 1620, .ref b1, .int x2, .int v_1, .int (x2 &&& ((shl (1 : Int32) v_1) ^^^ (-1 : Int32))), .int q, .int x6_5, .int y_11], [], (n, u, t, i, r))) ?_ ?_
        · refine ge_eq rfl (fun h_16 => ?_) (fun h_17 => ?_)
          · exact ge_leaf rfl
          · refine ge_run (pc' := 46) (L' := [.ref 1620, .ref b1, .int x2, .int v_1, .int (x2 &&& ((shl (1 : Int32) v_1) ^^^ (-1 : Int32))), .int x5_4, .int x6_5, .int y_11]) (S' := [.ref 1620, .int y_11, .int x5_4]) 3 rfl ?_
            refine ge_getR (b := 1621) rfl (t1620 s) rfl (r1620_0 s) (Nat.le_of_ble_eq_true rfl) ?_
            refine ge_run (pc' := 48) (L' := [.ref 1620, .ref b1, .int x2, .int v_1, .int (x2 &&& ((shl (1 : Int32) v_1) ^^^ (-1 : Int32))), .int x5_4, .int x6_5, .int y_11]) (S' := [.int (0 : Int32), .ref 1621, .int y_11, .int x5_4]) 1 rfl ?_
            refine ge_aald (jn := 0) (b := (1622 + 0)) rfl (t1621 s) (Or.inl rfl) lk0 (by decide) (rowR1622 s (by decide)) (Nat.le_trans (Nat.le_of_ble_eq_true rfl) (Nat.le_add_right 1622 _)) ?_
            refine ge_run (pc' := 56) (L' := [.ref 1620, .ref b1, .int x2, .int v_1, .int (x2 &&& ((shl (1 : Int32) v_1) ^^^ (-1 : Int32))), .int x5_4, .int x6_5, .int y_11]) (S' := [.int ((x2 &&& ((shl (1 : Int32) v_1) ^^^ (-1 : Int32))) &&& ((shl (1 : Int32) x6_5) ^^^ (-1 : Int32))), .ref (1622 + 0), .int y_11, .int x5_4]) 7 rfl ?_
            refine ge_grd (fun g_18 g_19 => ?_)
            refine ge_iald (jn := (ix ((x2 &&& ((shl (1 : Int32) v_1) ^^^ (-1 : Int32))) &&& ((shl (1 : Int32) x6_5) ^^^ (-1 : Int32))))) rfl (rowT1622 s (by decide)) ⟨g_18, rfl⟩ g_19 ?_
            refine ge_run (pc' := 58) (L' := [.ref 1620, .ref b1, .int x2, .int v_1, .int (x2 &&& ((shl (1 : Int32) v_1) ^^^ (-1 : Int32))), .int x5_4, .int x6_5, .int y_11]) (S' := [.int (y_11 + (i (1622 + 0) (ix ((x2 &&& ((shl (1 : Int32) v_1) ^^^ (-1 : Int32))) &&& ((shl (1 : Int32) x6_5) ^^^ (-1 : Int32)))))), .int x5_4]) 1 rfl ?_
            refine ge_cs rfl rfl rfl rfl rfl rfl (D := 1) (Nat.le_trans (by decide) hd) (c_J_max (n := n) (u := u) (t := t) (i := i) (r := r) s x5_4 (y_11 + (i (1622 + 0) (ix ((x2 &&& ((shl (1 : Int32) v_1) ^^^ (-1 : Int32))) &&& ((shl (1 : Int32) x6_5) ^^^ (-1 : Int32))))))) ?_
            rintro v_20 -
            dsimp only [bkE, F_i0]
            refine ge_run (pc' := 60) (L' := [.ref 1620, .ref b1, .int x2, .int v_1, .int (x2 &&& ((shl (1 : Int32) v_1) ^^^ (-1 : Int32))), .int v_20, .int x6_5, .int y_11]) (S' := []) 1 rfl ?_
            exact ge_leaf rfl
        · rintro x5_15 _ rfl
          try dsimp only
          refine ge_run (pc' := 23) (L' := [.ref 1620, .ref b1, .int x2, .int v_1, .int (x2 &&& ((shl (1 : Int32) v_1) ^^^ (-1 : Int32))), .int x5_15, .int (x6_5 + (1 : Int32)), .int y_11]) (S' := []) 2 rfl ?_
          exact ge_leaf (K := kX _ _) (Exists.intro _ rfl)
    · exact ge_leaf (K := kX _ _) (Exists.intro _ (Exists.intro _ rfl))
  · rintro x5_7 _ ⟨w_8, w_9, rfl⟩
    try dsimp only
    refine ge_run (pc' := 63) (L' := [.ref 1620, .ref b1, .int x2, .int v_1, .int (x2 &&& ((shl (1 : Int32) v_1) ^^^ (-1 : Int32))), .int x5_7, w_8, w_9]) (S' := [.int x5_7]) 1 rfl ?_
    exact ge_ret rfl rfl (And.intro rfl trivial)
def f_Sl_firstPair (i : MI) (b1 : Nat) (x2 : Int32) (x3 : Int32) : Option (Int32) :=
  grd (x2 &&& ((shl (1 : Int32) x3) ^^^ (-1 : Int32))) 256 (grd x2 256 (if (i (1622 + 0) (ix (x2 &&& ((shl (1 : Int32) x3) ^^^ (-1 : Int32))))) = (i (1622 + 0) (ix x2)) then (some ((-1 : Int32))) else (itr (σ := Int32) (ρ := Int32) (fun x5_7 => if x5_7 < (i b1 7) then ((if ((shr (x2 &&& ((shl (1 : Int32) x3) ^^^ (-1 : Int32))) x5_7) &&& (1 : Int32)) = 0 then (some (-1 : Int32)) else ((f_Sl_pairSize i b1 x3 x5_7).bind (fun v_13 => some v_13)) : Option (Int32)).bind (fun y_10 => if y_10 = (-1 : Int32) then (some (.inl (x5_7 + (1 : Int32)))) else (grd ((x2 &&& ((shl (1 : Int32) x3) ^^^ (-1 : Int32))) &&& ((shl (1 : Int32) x5_7) ^^^ (-1 : Int32))) 256 (grd x2 256 (if (y_10 + (i (1622 + 0) (ix ((x2 &&& ((shl (1 : Int32) x3) ^^^ (-1 : Int32))) &&& ((shl (1 : Int32) x5_7) ^^^ (-1 : Int32)))))) = (i (1622 + 0) (ix x2)) then (some (.inr ((x5_7)))) else (some (.inl (x5_7 + (1 : Int32))))))))) else (some (.inr (((-1 : Int32)))))) 1000000 (x3 + (1 : Int32)))))
set_option maxHeartbeats 4000000 in
theorem c_Sl_firstPair {n u : Nat} {t : MT} {i : MI} {r : MR} (s : Sh n t r) (b1 : Nat) (hb1 : SeaAd b1) (x2 : Int32) (x3 : Int32) : Cn 2 104 [.ref 1620, .ref b1, .int x2, .int x3] (n, u, t, i, r) (f_Sl_firstPair i b1 x2 x3) (F_i0 n u t i r) PT := by
  refine cn_of (Y := K_Sl_firstPair) (L0 := [.ref 1620, .ref b1, .int x2, .int x3, uV, uV, uV]) rfl rfl rfl ?_
  intro d hd
  unfold f_Sl_firstPair
  refine ge_run (pc' := 9) (L' := [.ref 1620, .ref b1, .int x2, .int x3, .int (x2 &&& ((shl (1 : Int32) x3) ^^^ (-1 : Int32))), uV, uV]) (S' := [.ref 1620]) 9 rfl ?_
  refine ge_getR (b := 1621) rfl (t1620 s) rfl (r1620_0 s) (Nat.le_of_ble_eq_true rfl) ?_
  refine ge_run (pc' := 11) (L' := [.ref 1620, .ref b1, .int x2, .int x3, .int (x2 &&& ((shl (1 : Int32) x3) ^^^ (-1 : Int32))), uV, uV]) (S' := [.int (0 : Int32), .ref 1621]) 1 rfl ?_
  refine ge_aald (jn := 0) (b := (1622 + 0)) rfl (t1621 s) (Or.inl rfl) lk0 (by decide) (rowR1622 s (by decide)) (Nat.le_trans (Nat.le_of_ble_eq_true rfl) (Nat.le_add_right 1622 _)) ?_
  refine ge_run (pc' := 13) (L' := [.ref 1620, .ref b1, .int x2, .int x3, .int (x2 &&& ((shl (1 : Int32) x3) ^^^ (-1 : Int32))), uV, uV]) (S' := [.int (x2 &&& ((shl (1 : Int32) x3) ^^^ (-1 : Int32))), .ref (1622 + 0)]) 1 rfl ?_
  refine ge_grd (fun g_1 g_2 => ?_)
  refine ge_iald (jn := (ix (x2 &&& ((shl (1 : Int32) x3) ^^^ (-1 : Int32))))) rfl (rowT1622 s (by decide)) ⟨g_1, rfl⟩ g_2 ?_
  refine ge_run (pc' := 15) (L' := [.ref 1620, .ref b1, .int x2, .int x3, .int (x2 &&& ((shl (1 : Int32) x3) ^^^ (-1 : Int32))), uV, uV]) (S' := [.ref 1620, .int (i (1622 + 0) (ix (x2 &&& ((shl (1 : Int32) x3) ^^^ (-1 : Int32)))))]) 1 rfl ?_
  refine ge_getR (b := 1621) rfl (t1620 s) rfl (r1620_0 s) (Nat.le_of_ble_eq_true rfl) ?_
  refine ge_run (pc' := 17) (L' := [.ref 1620, .ref b1, .int x2, .int x3, .int (x2 &&& ((shl (1 : Int32) x3) ^^^ (-1 : Int32))), uV, uV]) (S' := [.int (0 : Int32), .ref 1621, .int (i (1622 + 0) (ix (x2 &&& ((shl (1 : Int32) x3) ^^^ (-1 : Int32)))))]) 1 rfl ?_
  refine ge_aald (jn := 0) (b := (1622 + 0)) rfl (t1621 s) (Or.inl rfl) lk0 (by decide) (rowR1622 s (by decide)) (Nat.le_trans (Nat.le_of_ble_eq_true rfl) (Nat.le_add_right 1622 _)) ?_
  refine ge_run (pc' := 19) (L' := [.ref 1620, .ref b1, .int x2, .int x3, .int (x2 &&& ((shl (1 : Int32) x3) ^^^ (-1 : Int32))), uV, uV]) (S' := [.int x2, .ref (1622 + 0), .int (i (1622 + 0) (ix (x2 &&& ((shl (1 : Int32) x3) ^^^ (-1 : Int32)))))]) 1 rfl ?_
  refine ge_grd (fun g_3 g_4 => ?_)
  refine ge_iald (jn := (ix x2)) rfl (rowT1622 s (by decide)) ⟨g_3, rfl⟩ g_4 ?_
  refine ge_ne rfl (fun h_5 => ?_) (fun h_6 => ?_)
  · refine ge_run (pc' := 22) (L' := [.ref 1620, .ref b1, .int x2, .int x3, .int (x2 &&& ((shl (1 : Int32) x3) ^^^ (-1 : Int32))), uV, uV]) (S' := [.int (-1 : Int32)]) 1 rfl ?_
    exact ge_ret rfl rfl (And.intro rfl trivial)
  · refine ge_run (pc' := 27) (L' := [.ref 1620, .ref b1, .int x2, .int x3, .int (x2 &&& ((shl (1 : Int32) x3) ^^^ (-1 : Int32))), .int (x3 + (1 : Int32)), uV]) (S' := []) 4 rfl ?_
    refine ge_itr (C := fun (q : Int32) e => ∃ w_8 : Value, e = .inl (27, [.ref 1620, .ref b1, .int x2, .int x3, .int (x2 &&& ((shl (1 : Int32) x3) ^^^ (-1 : Int32))), .int q, w_8], [], (n, u, t, i, r))) ?_ _ _ _ (Exists.intro _ rfl)
    rintro x5_7 _ ⟨w_8, rfl⟩
    try dsimp only
    refine ge_run (pc' := 29) (L' := [.ref 1620, .ref b1, .int x2, .int x3, .int (x2 &&& ((shl (1 : Int32) x3) ^^^ (-1 : Int32))), .int x5_7, w_8]) (S' := [.ref b1, .int x5_7]) 2 rfl ?_
    refine ge_getI rfl (sT0 s hb1) rfl ?_
    refine ge_ge rfl (fun h_9 => ?_) (fun h_22 => ?_)
    · refine ge_run (pc' := 36) (L' := [.ref 1620, .ref b1, .int x2, .int x3, .int (x2 &&& ((shl (1 : Int32) x3) ^^^ (-1 : Int32))), .int x5_7, w_8]) (S' := [.int ((shr (x2 &&& ((shl (1 : Int32) x3) ^^^ (-1 : Int32))) x5_7) &&& (1 : Int32))]) 5 rfl ?_
      refine ge_bind (K1 := fun (q : Int32) e => e = .inl (43, [.ref 1620, .ref b1, .int x2, .int x3, .int (x2 &&& ((shl (1 : Int32) x3) ^^^ (-1 : Int32))), .int x5_7, w_8], [.int q], (n, u, t, i, r))) ?_ ?_
      · refine ge_eq0 rfl (fun h_11 => ?_) (fun h_12 => ?_)
        · refine ge_run (pc' := 43) (L' := [.ref 1620, .ref b1, .int x2, .int x3, .int (x2 &&& ((shl (1 : Int32) x3) ^^^ (-1 : Int32))), .int x5_7, w_8]) (S' := [.int (-1 : Int32)]) 1 rfl ?_
          exact ge_leaf rfl
        · refine ge_run (pc' := 40) (L' := [.ref 1620, .ref b1, .int x2, .int x3, .int (x2 &&& ((shl (1 : Int32) x3) ^^^ (-1 : Int32))), .int x5_7, w_8]) (S' := [.int x5_7, .int x3, .ref b1]) 3 rfl ?_
          refine ge_cs rfl rfl rfl rfl rfl rfl (D := 1) (Nat.le_trans (by decide) hd) (c_Sl_pairSize (n := n) (u := u) (t := t) (i := i) (r := r) s b1 hb1 x3 x5_7) ?_
          rintro v_13 -
          dsimp only [bkE, F_i0]
          refine ge_run (pc' := 43) (L' := [.ref 1620, .ref b1, .int x2, .int x3, .int (x2 &&& ((shl (1 : Int32) x3) ^^^ (-1 : Int32))), .int x5_7, w_8]) (S' := [.int v_13]) 1 rfl ?_
          exact ge_leaf rfl
      · rintro y_10 _ rfl
        try dsimp only
        refine ge_run (pc' := 46) (L' := [.ref 1620, .ref b1, .int x2, .int x3, .int (x2 &&& ((shl (1 : Int32) x3) ^^^ (-1 : Int32))), .int x5_7, .int y_10]) (S' := [.int (-1 : Int32), .int y_10]) 3 rfl ?_
        refine ge_eq rfl (fun h_14 => ?_) (fun h_15 => ?_)
        · refine ge_run (pc' := 27) (L' := [.ref 1620, .ref b1, .int x2, .int x3, .int (x2 &&& ((shl (1 : Int32) x3) ^^^ (-1 : Int32))), .int (x5_7 + (1 : Int32)), .int y_10]) (S' := []) 2 rfl ?_
          exact ge_leaf (K := kX _ _) (Exists.intro _ rfl)
        · refine ge_run (pc' := 49) (L' := [.ref 1620, .ref b1, .int x2, .int x3, .int (x2 &&& ((shl (1 : Int32) x3) ^^^ (-1 : Int32))), .int x5_7, .int y_10]) (S' := [.ref 1620, .int y_10]) 2 rfl ?_
          refine ge_getR (b := 1621) rfl (t1620 s) rfl (r1620_0 s) (Nat.le_of_ble_eq_true rfl) ?_
          refine ge_run (pc' := 51) (L' := [.ref 1620, .ref b1, .int x2, .int x3, .int (x2 &&& ((shl (1 : Int32) x3) ^^^ (-1 : Int32))), .int x5_7, .int y_10]) (S' := [.int (0 : Int32), .ref 1621, .int y_10]) 1 rfl ?_
          refine ge_aald (jn := 0) (b := (1622 + 0)) rfl (t1621 s) (Or.inl rfl) lk0 (by decide) (rowR1622 s (by decide)) (Nat.le_trans (Nat.le_of_ble_eq_true rfl) (Nat.le_add_right 1622 _)) ?_
          refine ge_run (pc' := 59) (L' := [.ref 1620, .ref b1, .int x2, .int x3, .int (x2 &&& ((shl (1 : Int32) x3) ^^^ (-1 : Int32))), .int x5_7, .int y_10]) (S' := [.int ((x2 &&& ((shl (1 : Int32) x3) ^^^ (-1 : Int32))) &&& ((shl (1 : Int32) x5_7) ^^^ (-1 : Int32))), .ref (1622 + 0), .int y_10]) 7 rfl ?_
          refine ge_grd (fun g_16 g_17 => ?_)
          refine ge_iald (jn := (ix ((x2 &&& ((shl (1 : Int32) x3) ^^^ (-1 : Int32))) &&& ((shl (1 : Int32) x5_7) ^^^ (-1 : Int32))))) rfl (rowT1622 s (by decide)) ⟨g_16, rfl⟩ g_17 ?_
          refine ge_run (pc' := 62) (L' := [.ref 1620, .ref b1, .int x2, .int x3, .int (x2 &&& ((shl (1 : Int32) x3) ^^^ (-1 : Int32))), .int x5_7, .int y_10]) (S' := [.ref 1620, .int (y_10 + (i (1622 + 0) (ix ((x2 &&& ((shl (1 : Int32) x3) ^^^ (-1 : Int32))) &&& ((shl (1 : Int32) x5_7) ^^^ (-1 : Int32))))))]) 2 rfl ?_
          refine ge_getR (b := 1621) rfl (t1620 s) rfl (r1620_0 s) (Nat.le_of_ble_eq_true rfl) ?_
          refine ge_run (pc' := 64) (L' := [.ref 1620, .ref b1, .int x2, .int x3, .int (x2 &&& ((shl (1 : Int32) x3) ^^^ (-1 : Int32))), .int x5_7, .int y_10]) (S' := [.int (0 : Int32), .ref 1621, .int (y_10 + (i (1622 + 0) (ix ((x2 &&& ((shl (1 : Int32) x3) ^^^ (-1 : Int32))) &&& ((shl (1 : Int32) x5_7) ^^^ (-1 : Int32))))))]) 1 rfl ?_
          refine ge_aald (jn := 0) (b := (1622 + 0)) rfl (t1621 s) (Or.inl rfl) lk0 (by decide) (rowR1622 s (by decide)) (Nat.le_trans (Nat.le_of_ble_eq_true rfl) (Nat.le_add_right 1622 _)) ?_
          refine ge_run (pc' := 66) (L' := [.ref 1620, .ref b1, .int x2, .int x3, .int (x2 &&& ((shl (1 : Int32) x3) ^^^ (-1 : Int32))), .int x5_7, .int y_10]) (S' := [.int x2, .ref (1622 + 0), .int (y_10 + (i (1622 + 0) (ix ((x2 &&& ((shl (1 : Int32) x3) ^^^ (-1 : Int32))) &&& ((shl (1 : Int32) x5_7) ^^^ (-1 : Int32))))))]) 1 rfl ?_
          refine ge_grd (fun g_18 g_19 => ?_)
          refine ge_iald (jn := (ix x2)) rfl (rowT1622 s (by decide)) ⟨g_18, rfl⟩ g_19 ?_
          refine ge_ne rfl (fun h_20 => ?_) (fun h_21 => ?_)
          · refine ge_run (pc' := 69) (L' := [.ref 1620, .ref b1, .int x2, .int x3, .int (x2 &&& ((shl (1 : Int32) x3) ^^^ (-1 : Int32))), .int x5_7, .int y_10]) (S' := [.int x5_7]) 1 rfl ?_
            exact ge_ret rfl rfl (And.intro rfl trivial)
          · refine ge_run (pc' := 27) (L' := [.ref 1620, .ref b1, .int x2, .int x3, .int (x2 &&& ((shl (1 : Int32) x3) ^^^ (-1 : Int32))), .int (x5_7 + (1 : Int32)), .int y_10]) (S' := []) 2 rfl ?_
            exact ge_leaf (K := kX _ _) (Exists.intro _ rfl)
    · refine ge_run (pc' := 73) (L' := [.ref 1620, .ref b1, .int x2, .int x3, .int (x2 &&& ((shl (1 : Int32) x3) ^^^ (-1 : Int32))), .int x5_7, w_8]) (S' := [.int (-1 : Int32)]) 1 rfl ?_
      exact ge_ret rfl rfl (And.intro rfl trivial)
def f_Sl_planPairs (i : MI) (b1 : Nat) : Option (MI) :=
  (f_Se_placed i b1 (3 : Int32)).bind (fun v_1 => bnd (wr i (1622 + 0) 0 (0 : Int32)) (fun i_2 => (itr (σ := Int32 × MI) (ρ := MI) (fun (x4_3, i_4) => if x4_3 < (shl (1 : Int32) (i b1 7)) then ((if (x4_3 &&& v_1) = 0 then ((f_Sl_bestPairs i_4 b1 x4_3).bind (fun v_10 => some v_10)) else (some (0 : Int32)) : Option (Int32)).bind (fun y_8 => grd x4_3 256 (bnd (wr i_4 (1622 + 0) (ix x4_3) y_8) (fun i_14 => some (.inl ((x4_3 + (1 : Int32)), i_14)))))) else (some (.inr i_4))) 1000000 ((1 : Int32), i_2)).bind (fun i_5 => grd (((shl (1 : Int32) (i b1 7)) - (1 : Int32)) &&& (v_1 ^^^ (-1 : Int32))) 256 (bnd (wr i_5 1620 4 (i_5 (1622 + 0) (ix (((shl (1 : Int32) (i b1 7)) - (1 : Int32)) &&& (v_1 ^^^ (-1 : Int32)))))) (fun i_18 => (f_J_fill i_18 1630 8 (-1 : Int32)).bind (fun i_19 => (itr (σ := Int32 × Int32 × MI) (ρ := MI) (fun (x4_20, x5_21, i_22) => if x5_21 < (i_22 b1 7) then ((if ((shr x4_20 x5_21) &&& (1 : Int32)) = 0 then (some (x4_20, i_22)) else ((f_Sl_firstPair i_22 b1 x4_20 x5_21).bind (fun v_34 => if v_34 = (-1 : Int32) then (some ((x4_20 &&& ((shl (1 : Int32) x5_21) ^^^ (-1 : Int32))), i_22)) else (grd x5_21 8 (bnd (wr i_22 1630 (ix x5_21) v_34) (fun i_39 => grd v_34 8 (bnd (wr i_39 1630 (ix v_34) x5_21) (fun i_42 => some (((x4_20 &&& ((shl (1 : Int32) x5_21) ^^^ (-1 : Int32))) &&& ((shl (1 : Int32) v_34) ^^^ (-1 : Int32))), i_42)))))))) : Option (Int32 × MI)).bind (fun (x4_29, i_30) => some (.inl (x4_29, (x5_21 + (1 : Int32)), i_30)))) else (some (.inr i_22))) 1000000 ((((shl (1 : Int32) (i b1 7)) - (1 : Int32)) &&& (v_1 ^^^ (-1 : Int32))), (0 : Int32), i_19)).bind (fun i_24 => some i_24)))))))
set_option maxHeartbeats 4000000 in
theorem c_Sl_planPairs {n u : Nat} {t : MT} {i : MI} {r : MR} (s : Sh n t r) (b1 : Nat) (hb1 : SeaAd b1) : Cn 3 101 [.ref 1620, .ref b1] (n, u, t, i, r) (f_Sl_planPairs i b1) (F_v1 n u t r) PT := by
  refine cn_of (Y := K_Sl_planPairs) (L0 := [.ref 1620, .ref b1, uV, uV, uV, uV, uV]) rfl rfl rfl ?_
  intro d hd
  unfold f_Sl_planPairs
  refine ge_run (pc' := 2) (L' := [.ref 1620, .ref b1, uV, uV, uV, uV, uV]) (S' := [.ref b1, .int (1 : Int32)]) 2 rfl ?_
  refine ge_getI rfl (sT0 s hb1) rfl ?_
  refine ge_run (pc' := 7) (L' := [.ref 1620, .ref b1, .int (shl (1 : Int32) (i b1 7)), uV, uV, uV, uV]) (S' := [.int (3 : Int32), .ref b1]) 4 rfl ?_
  refine ge_cv rfl rfl rfl (sT0 s hb1) rfl rfl rfl (D := 1) (Nat.le_trans (by decide) hd) (c_Se_placed (n := n) (u := u) (t := t) (i := i) (r := r) s b1 hb1 (3 : Int32)) ?_
  rintro v_1 -
  dsimp only [bkE, F_i0]
  refine ge_run (pc' := 10) (L' := [.ref 1620, .ref b1, .int (shl (1 : Int32) (i b1 7)), .int v_1, uV, uV, uV]) (S' := [.ref 1620]) 2 rfl ?_
  refine ge_getR (b := 1621) rfl (t1620 s) rfl (r1620_0 s) (Nat.le_of_ble_eq_true rfl) ?_
  refine ge_run (pc' := 12) (L' := [.ref 1620, .ref b1, .int (shl (1 : Int32) (i b1 7)), .int v_1, uV, uV, uV]) (S' := [.int (0 : Int32), .ref 1621]) 1 rfl ?_
  refine ge_aald (jn := 0) (b := (1622 + 0)) rfl (t1621 s) (Or.inl rfl) lk0 (by decide) (rowR1622 s (by decide)) (Nat.le_trans (Nat.le_of_ble_eq_true rfl) (Nat.le_add_right 1622 _)) ?_
  refine ge_run (pc' := 15) (L' := [.ref 1620, .ref b1, .int (shl (1 : Int32) (i b1 7)), .int v_1, uV, uV, uV]) (S' := [.int (0 : Int32), .int (0 : Int32), .ref (1622 + 0)]) 2 rfl ?_
  refine ge_iast (jn := 0) rfl (rowT1622 s (by decide)) (Nat.le_trans (Nat.le_of_ble_eq_true rfl) (Nat.le_add_right 1622 _)) lk0 (by decide) (fun i_2 => ?_)
  refine ge_run (pc' := 18) (L' := [.ref 1620, .ref b1, .int (shl (1 : Int32) (i b1 7)), .int v_1, .int (1 : Int32), uV, uV]) (S' := []) 2 rfl ?_
  refine ge_bind (K1 := fun (q : MI) e => ∃ w_6 : Value, e = .inl (39, [.ref 1620, .ref b1, .int (shl (1 : Int32) (i b1 7)), .int v_1, w_6, uV, uV], [], (n, u, t, q, r))) (ge_itr (C := fun (q : Int32 × MI) e => e = .inl (18, [.ref 1620, .ref b1, .int (shl (1 : Int32) (i b1 7)), .int v_1, .int q.1, uV, uV], [], (n, u, t, q.2, r))) ?_ _ _ _ rfl) ?_
  · rintro ⟨x4_3, i_4⟩ _ rfl
    try dsimp only
    refine ge_run (pc' := 20) (L' := [.ref 1620, .ref b1, .int (shl (1 : Int32) (i b1 7)), .int v_1, .int x4_3, uV, uV]) (S' := [.int (shl (1 : Int32) (i b1 7)), .int x4_3]) 2 rfl ?_
    refine ge_ge rfl (fun h_7 => ?_) (fun h_15 => ?_)
    · refine ge_run (pc' := 22) (L' := [.ref 1620, .ref b1, .int (shl (1 : Int32) (i b1 7)), .int v_1, .int x4_3, uV, uV]) (S' := [.ref 1620]) 1 rfl ?_
      refine ge_getR (b := 1621) rfl (t1620 s) rfl (r1620_0 s) (Nat.le_of_ble_eq_true rfl) ?_
      refine ge_run (pc' := 24) (L' := [.ref 1620, .ref b1, .int (shl (1 : Int32) (i b1 7)), .int v_1, .int x4_3, uV, uV]) (S' := [.int (0 : Int32), .ref 1621]) 1 rfl ?_
      refine ge_aald (jn := 0) (b := (1622 + 0)) rfl (t1621 s) (Or.inl rfl) lk0 (by decide) (rowR1622 s (by decide)) (Nat.le_trans (Nat.le_of_ble_eq_true rfl) (Nat.le_add_right 1622 _)) ?_
      refine ge_run (pc' := 29) (L' := [.ref 1620, .ref b1, .int (shl (1 : Int32) (i b1 7)), .int v_1, .int x4_3, uV, uV]) (S' := [.int (x4_3 &&& v_1), .int x4_3, .ref (1622 + 0)]) 4 rfl ?_
      refine ge_bind (K1 := fun (q : Int32) e => e = .inl (36, [.ref 1620, .ref b1, .int (shl (1 : Int32) (i b1 7)), .int v_1, .int x4_3, uV, uV], [.int q, .int x4_3, .ref (1622 + 0)], (n, u, t, i_4, r))) ?_ ?_
      · refine ge_eq0 rfl (fun h_9 => ?_) (fun h_11 => ?_)
        · refine ge_run (pc' := 35) (L' := [.ref 1620, .ref b1, .int (shl (1 : Int32) (i b1 7)), .int v_1, .int x4_3, uV, uV]) (S' := [.int x4_3, .ref b1, .ref 1620, .int x4_3, .ref (1622 + 0)]) 3 rfl ?_
          refine ge_cv rfl rfl rfl (t1620 s) rfl rfl rfl (D := 2) (Nat.le_trans (by decide) hd) (c_Sl_bestPairs (n := n) (u := u) (t := t) (i := i_4) (r := r) s b1 hb1 x4_3) ?_
          rintro v_10 -
          dsimp only [bkE, F_i0]
          exact ge_leaf rfl
        · refine ge_run (pc' := 36) (L' := [.ref 1620, .ref b1, .int (shl (1 : Int32) (i b1 7)), .int v_1, .int x4_3, uV, uV]) (S' := [.int (0 : Int32), .int x4_3, .ref (1622 + 0)]) 2 rfl ?_
          exact ge_leaf rfl
      · rintro y_8 _ rfl
        try dsimp only
        refine ge_grd (fun g_12 g_13 => ?_)
        refine ge_iast (jn := (ix x4_3)) rfl (rowT1622 s (by decide)) (Nat.le_trans (Nat.le_of_ble_eq_true rfl) (Nat.le_add_right 1622 _)) ⟨g_12, rfl⟩ g_13 (fun i_14 => ?_)
        refine ge_run (pc' := 18) (L' := [.ref 1620, .ref b1, .int (shl (1 : Int32) (i b1 7)), .int v_1, .int (x4_3 + (1 : Int32)), uV, uV]) (S' := []) 2 rfl ?_
        exact ge_leaf (K := kX _ _) rfl
    · exact ge_leaf (K := kX _ _) (Exists.intro _ rfl)
  · rintro i_5 _ ⟨w_6, rfl⟩
    try dsimp only
    refine ge_run (pc' := 49) (L' := [.ref 1620, .ref b1, .int (shl (1 : Int32) (i b1 7)), .int v_1, .int (((shl (1 : Int32) (i b1 7)) - (1 : Int32)) &&& (v_1 ^^^ (-1 : Int32))), uV, uV]) (S' := [.ref 1620, .ref 1620]) 10 rfl ?_
    refine ge_getR (b := 1621) rfl (t1620 s) rfl (r1620_0 s) (Nat.le_of_ble_eq_true rfl) ?_
    refine ge_run (pc' := 51) (L' := [.ref 1620, .ref b1, .int (shl (1 : Int32) (i b1 7)), .int v_1, .int (((shl (1 : Int32) (i b1 7)) - (1 : Int32)) &&& (v_1 ^^^ (-1 : Int32))), uV, uV]) (S' := [.int (0 : Int32), .ref 1621, .ref 1620]) 1 rfl ?_
    refine ge_aald (jn := 0) (b := (1622 + 0)) rfl (t1621 s) (Or.inl rfl) lk0 (by decide) (rowR1622 s (by decide)) (Nat.le_trans (Nat.le_of_ble_eq_true rfl) (Nat.le_add_right 1622 _)) ?_
    refine ge_run (pc' := 53) (L' := [.ref 1620, .ref b1, .int (shl (1 : Int32) (i b1 7)), .int v_1, .int (((shl (1 : Int32) (i b1 7)) - (1 : Int32)) &&& (v_1 ^^^ (-1 : Int32))), uV, uV]) (S' := [.int (((shl (1 : Int32) (i b1 7)) - (1 : Int32)) &&& (v_1 ^^^ (-1 : Int32))), .ref (1622 + 0), .ref 1620]) 1 rfl ?_
    refine ge_grd (fun g_16 g_17 => ?_)
    refine ge_iald (jn := (ix (((shl (1 : Int32) (i b1 7)) - (1 : Int32)) &&& (v_1 ^^^ (-1 : Int32))))) rfl (rowT1622 s (by decide)) ⟨g_16, rfl⟩ g_17 ?_
    refine ge_putI rfl (t1620 s) (Nat.le_of_ble_eq_true rfl) rfl (fun i_18 => ?_)
    refine ge_run (pc' := 56) (L' := [.ref 1620, .ref b1, .int (shl (1 : Int32) (i b1 7)), .int v_1, .int (((shl (1 : Int32) (i b1 7)) - (1 : Int32)) &&& (v_1 ^^^ (-1 : Int32))), uV, uV]) (S' := [.ref 1620]) 1 rfl ?_
    refine ge_getR (b := 1630) rfl (t1620 s) rfl (r1620_3 s) (Nat.le_of_ble_eq_true rfl) ?_
    refine ge_run (pc' := 58) (L' := [.ref 1620, .ref b1, .int (shl (1 : Int32) (i b1 7)), .int v_1, .int (((shl (1 : Int32) (i b1 7)) - (1 : Int32)) &&& (v_1 ^^^ (-1 : Int32))), uV, uV]) (S' := [.int (-1 : Int32), .ref 1630]) 1 rfl ?_
    refine ge_cs rfl rfl rfl rfl rfl rfl (D := 1) (Nat.le_trans (by decide) hd) (c_J_fill (n := n) (u := u) (t := t) (i := i_18) (r := r) s 1630 8 (t1630 s) (Nat.le_of_ble_eq_true rfl) (-1 : Int32)) ?_
    rintro i_19 -
    dsimp only [bkE, F_v1]
    refine ge_run (pc' := 61) (L' := [.ref 1620, .ref b1, .int (shl (1 : Int32) (i b1 7)), .int v_1, .int (((shl (1 : Int32) (i b1 7)) - (1 : Int32)) &&& (v_1 ^^^ (-1 : Int32))), .int (0 : Int32), uV]) (S' := []) 2 rfl ?_
    refine ge_bind (K1 := fun (q : MI) e => ∃ w_25 w_26 w_27 : Value, e = .inl (108, [.ref 1620, .ref b1, .int (shl (1 : Int32) (i b1 7)), .int v_1, w_25, w_26, w_27], [], (n, u, t, q, r))) (ge_itr (C := fun (q : Int32 × Int32 × MI) e => ∃ w_23 : Value, e = .inl (61, [.ref 1620, .ref b1, .int (shl (1 : Int32) (i b1 7)), .int v_1, .int q.1, .int q.2.1, w_23], [], (n, u, t, q.2.2, r))) ?_ _ _ _ (Exists.intro _ rfl)) ?_
    · rintro ⟨x4_20, x5_21, i_22⟩ _ ⟨w_23, rfl⟩
      try dsimp only
      refine ge_run (pc' := 63) (L' := [.ref 1620, .ref b1, .int (shl (1 : Int32) (i b1 7)), .int v_1, .int x4_20, .int x5_21, w_23]) (S' := [.ref b1, .int x5_21]) 2 rfl ?_
      refine ge_getI rfl (sT0 s hb1) rfl ?_
      refine ge_ge rfl (fun h_28 => ?_) (fun h_43 => ?_)
      · refine ge_run (pc' := 70) (L' := [.ref 1620, .ref b1, .int (shl (1 : Int32) (i b1 7)), .int v_1, .int x4_20, .int x5_21, w_23]) (S' := [.int ((shr x4_20 x5_21) &&& (1 : Int32))]) 5 rfl ?_
        refine ge_bind (K1 := fun (q : Int32 × MI) e => ∃ w_31 : Value, e = .inl (106, [.ref 1620, .ref b1, .int (shl (1 : Int32) (i b1 7)), .int v_1, .int q.1, .int x5_21, w_31], [], (n, u, t, q.2, r))) ?_ ?_
        · refine ge_eq0 rfl (fun h_32 => ?_) (fun h_33 => ?_)
          · exact ge_leaf (Exists.intro _ rfl)
          · refine ge_run (pc' := 75) (L' := [.ref 1620, .ref b1, .int (shl (1 : Int32) (i b1 7)), .int v_1, .int x4_20, .int x5_21, w_23]) (S' := [.int x5_21, .int x4_20, .ref b1, .ref 1620]) 4 rfl ?_
            refine ge_cv rfl rfl rfl (t1620 s) rfl rfl rfl (D := 2) (Nat.le_trans (by decide) hd) (c_Sl_firstPair (n := n) (u := u) (t := t) (i := i_22) (r := r) s b1 hb1 x4_20 x5_21) ?_
            rintro v_34 -
            dsimp only [bkE, F_i0]
            refine ge_run (pc' := 87) (L' := [.ref 1620, .ref b1, .int (shl (1 : Int32) (i b1 7)), .int v_1, .int (x4_20 &&& ((shl (1 : Int32) x5_21) ^^^ (-1 : Int32))), .int x5_21, .int v_34]) (S' := [.int (-1 : Int32), .int v_34]) 11 rfl ?_
            refine ge_eq rfl (fun h_35 => ?_) (fun h_36 => ?_)
            · exact ge_leaf (Exists.intro _ rfl)
            · refine ge_run (pc' := 89) (L' := [.ref 1620, .ref b1, .int (shl (1 : Int32) (i b1 7)), .int v_1, .int (x4_20 &&& ((shl (1 : Int32) x5_21) ^^^ (-1 : Int32))), .int x5_21, .int v_34]) (S' := [.ref 1620]) 1 rfl ?_
              refine ge_getR (b := 1630) rfl (t1620 s) rfl (r1620_3 s) (Nat.le_of_ble_eq_true rfl) ?_
              refine ge_run (pc' := 92) (L' := [.ref 1620, .ref b1, .int (shl (1 : Int32) (i b1 7)), .int v_1, .int (x4_20 &&& ((shl (1 : Int32) x5_21) ^^^ (-1 : Int32))), .int x5_21, .int v_34]) (S' := [.int v_34, .int x5_21, .ref 1630]) 2 rfl ?_
              refine ge_grd (fun g_37 g_38 => ?_)
              refine ge_iast (jn := (ix x5_21)) rfl (t1630 s) (Nat.le_of_ble_eq_true rfl) ⟨g_37, rfl⟩ g_38 (fun i_39 => ?_)
              refine ge_run (pc' := 94) (L' := [.ref 1620, .ref b1, .int (shl (1 : Int32) (i b1 7)), .int v_1, .int (x4_20 &&& ((shl (1 : Int32) x5_21) ^^^ (-1 : Int32))), .int x5_21, .int v_34]) (S' := [.ref 1620]) 1 rfl ?_
              refine ge_getR (b := 1630) rfl (t1620 s) rfl (r1620_3 s) (Nat.le_of_ble_eq_true rfl) ?_
              refine ge_run (pc' := 97) (L' := [.ref 1620, .ref b1, .int (shl (1 : Int32) (i b1 7)), .int v_1, .int (x4_20 &&& ((shl (1 : Int32) x5_21) ^^^ (-1 : Int32))), .int x5_21, .int v_34]) (S' := [.int x5_21, .int v_34, .ref 1630]) 2 rfl ?_
              refine ge_grd (fun g_40 g_41 => ?_)
              refine ge_iast (jn := (ix v_34)) rfl (t1630 s) (Nat.le_of_ble_eq_true rfl) ⟨g_40, rfl⟩ g_41 (fun i_42 => ?_)
              refine ge_run (pc' := 106) (L' := [.ref 1620, .ref b1, .int (shl (1 : Int32) (i b1 7)), .int v_1, .int ((x4_20 &&& ((shl (1 : Int32) x5_21) ^^^ (-1 : Int32))) &&& ((shl (1 : Int32) v_34) ^^^ (-1 : Int32))), .int x5_21, .int v_34]) (S' := []) 8 rfl ?_
              exact ge_leaf (Exists.intro _ rfl)
        · rintro ⟨x4_29, i_30⟩ _ ⟨w_31, rfl⟩
          try dsimp only
          refine ge_run (pc' := 61) (L' := [.ref 1620, .ref b1, .int (shl (1 : Int32) (i b1 7)), .int v_1, .int x4_29, .int (x5_21 + (1 : Int32)), w_31]) (S' := []) 2 rfl ?_
          exact ge_leaf (K := kX _ _) (Exists.intro _ rfl)
      · exact ge_leaf (K := kX _ _) (Exists.intro _ (Exists.intro _ (Exists.intro _ rfl)))
    · rintro i_24 _ ⟨w_25, w_26, w_27, rfl⟩
      try dsimp only
      exact ge_retv rfl rfl (And.intro rfl trivial)
def f_Ta_hasRoom (i : MI) : Option (Int32) :=
  if (400 : Int32) < ((i 1595 1) + (20 : Int32)) then (some ((0 : Int32))) else (some ((1 : Int32)))
set_option maxHeartbeats 4000000 in
theorem c_Ta_hasRoom {n u : Nat} {t : MT} {i : MI} {r : MR} (s : Sh n t r)  : Cn 1 106 [.ref 1595] (n, u, t, i, r) (f_Ta_hasRoom i ) (F_i0 n u t i r) PT := by
  refine cn_of (Y := K_Ta_hasRoom) (L0 := [.ref 1595]) rfl rfl rfl ?_
  intro d hd
  unfold f_Ta_hasRoom
  refine ge_run (pc' := 1) (L' := [.ref 1595]) (S' := [.ref 1595]) 1 rfl ?_
  refine ge_getI rfl (t1595 s) rfl ?_
  refine ge_run (pc' := 5) (L' := [.ref 1595]) (S' := [.int (400 : Int32), .int ((i 1595 1) + (20 : Int32))]) 3 rfl ?_
  refine ge_gt rfl (fun h_1 => ?_) (fun h_2 => ?_)
  · refine ge_run (pc' := 9) (L' := [.ref 1595]) (S' := [.int (0 : Int32)]) 1 rfl ?_
    exact ge_retz rfl rfl (Or.inl rfl) (And.intro rfl trivial)
  · refine ge_run (pc' := 9) (L' := [.ref 1595]) (S' := [.int (1 : Int32)]) 2 rfl ?_
    exact ge_retz rfl rfl (Or.inr rfl) (And.intro rfl trivial)
def f_Ta_put (i : MI) (x1 : Int32) : Option (MI) :=
  (itr (σ := Int32 × MI) (ρ := MI) (fun (x2_1, i_2) => if x2_1 < 0 then (some (.inr i_2)) else ((if (i_2 1595 1) < (400 : Int32) then (bnd (wr i_2 1595 1 ((i_2 1595 1) + (1 : Int32))) (fun i_9 => grd (i_2 1595 1) 400 (bnd (wr i_9 1596 (ix (i_2 1595 1)) ((shr x1 x2_1)).toInt8.toInt32.toInt8.toInt32) (fun i_12 => some i_12)))) else (some i_2) : Option (MI)).bind (fun i_7 => some (.inl ((x2_1 + (-8 : Int32)), i_7))))) 1000000 ((24 : Int32), i)).bind (fun i_3 => some i_3)
set_option maxHeartbeats 4000000 in
theorem c_Ta_put {n u : Nat} {t : MT} {i : MI} {r : MR} (s : Sh n t r) (x1 : Int32) : Cn 1 107 [.ref 1595, .int x1] (n, u, t, i, r) (f_Ta_put i x1) (F_v1 n u t r) PT := by
  refine cn_of (Y := K_Ta_put) (L0 := [.ref 1595, .int x1, uV]) rfl rfl rfl ?_
  intro d hd
  unfold f_Ta_put
  refine ge_run (pc' := 2) (L' := [.ref 1595, .int x1, .int (24 : Int32)]) (S' := []) 2 rfl ?_
  refine ge_bind (K1 := fun (q : MI) e => ∃ w_4 : Value, e = .inl (24, [.ref 1595, .int x1, w_4], [], (n, u, t, q, r))) (ge_itr (C := fun (q : Int32 × MI) e => e = .inl (2, [.ref 1595, .int x1, .int q.1], [], (n, u, t, q.2, r))) ?_ _ _ _ rfl) ?_
  · rintro ⟨x2_1, i_2⟩ _ rfl
    try dsimp only
    refine ge_run (pc' := 3) (L' := [.ref 1595, .int x1, .int x2_1]) (S' := [.int x2_1]) 1 rfl ?_
    refine ge_lt0 rfl (fun h_5 => ?_) (fun h_6 => ?_)
    · exact ge_leaf (K := kX _ _) (Exists.intro _ rfl)
    · refine ge_run (pc' := 5) (L' := [.ref 1595, .int x1, .int x2_1]) (S' := [.ref 1595]) 1 rfl ?_
      refine ge_getI rfl (t1595 s) rfl ?_
      refine ge_run (pc' := 7) (L' := [.ref 1595, .int x1, .int x2_1]) (S' := [.int (400 : Int32), .int (i_2 1595 1)]) 1 rfl ?_
      refine ge_bind (K1 := fun (q : MI) e => e = .inl (22, [.ref 1595, .int x1, .int x2_1], [], (n, u, t, q, r))) ?_ ?_
      · refine ge_ge rfl (fun h_8 => ?_) (fun h_13 => ?_)
        · refine ge_run (pc' := 9) (L' := [.ref 1595, .int x1, .int x2_1]) (S' := [.ref 1595]) 1 rfl ?_
          refine ge_getR (b := 1596) rfl (t1595 s) rfl (r1595_0 s) (Nat.le_of_ble_eq_true rfl) ?_
          refine ge_run (pc' := 12) (L' := [.ref 1595, .int x1, .int x2_1]) (S' := [.ref 1595, .ref 1595, .ref 1596]) 2 rfl ?_
          refine ge_getI rfl (t1595 s) rfl ?_
          refine ge_run (pc' := 16) (L' := [.ref 1595, .int x1, .int x2_1]) (S' := [.int ((i_2 1595 1) + (1 : Int32)), .ref 1595, .int (i_2 1595 1), .ref 1596]) 3 rfl ?_
          refine ge_putI rfl (t1595 s) (Nat.le_of_ble_eq_true rfl) rfl (fun i_9 => ?_)
          refine ge_run (pc' := 21) (L' := [.ref 1595, .int x1, .int x2_1]) (S' := [.int ((shr x1 x2_1)).toInt8.toInt32, .int (i_2 1595 1), .ref 1596]) 4 rfl ?_
          refine ge_grd (fun g_10 g_11 => ?_)
          refine ge_bast (jn := (ix (i_2 1595 1))) rfl (t1596 s) (Nat.le_of_ble_eq_true rfl) ⟨g_10, rfl⟩ g_11 (fun i_12 => ?_)
          exact ge_leaf rfl
        · exact ge_leaf rfl
      · rintro i_7 _ rfl
        try dsimp only
        refine ge_run (pc' := 2) (L' := [.ref 1595, .int x1, .int (x2_1 + (-8 : Int32))]) (S' := []) 2 rfl ?_
        exact ge_leaf (K := kX _ _) rfl
  · rintro i_3 _ ⟨w_4, rfl⟩
    try dsimp only
    exact ge_retv rfl rfl (And.intro rfl trivial)
def f_Lc_feed (i : MI) (x1 : Int32) (x2 : Int32) (x3 : Int32) (x4 : Int32) (x5 : Int32) : Option (Int32 × MI) :=
  (f_Ta_hasRoom i).bind (fun v_1 => if v_1 = 0 then (some ((-1 : Int32), i)) else ((f_Ta_put i x1).bind (fun i_4 => (f_Ta_put i_4 x2).bind (fun i_5 => (f_Ta_put i_5 x3).bind (fun i_6 => (f_Ta_put i_6 x4).bind (fun i_7 => (f_Ta_put i_7 x5).bind (fun i_8 => some ((i_8 1595 1), i_8))))))))
set_option maxHeartbeats 4000000 in
theorem c_Lc_feed {n u : Nat} {t : MT} {i : MI} {r : MR} (s : Sh n t r) (x1 : Int32) (x2 : Int32) (x3 : Int32) (x4 : Int32) (x5 : Int32) : Cn 2 121 [.ref 1000, .int x1, .int x2, .int x3, .int x4, .int x5] (n, u, t, i, r) (f_Lc_feed i x1 x2 x3 x4 x5) (F_i1 n u t r) PT := by
  refine cn_of (Y := K_Lc_feed) (L0 := [.ref 1000, .int x1, .int x2, .int x3, .int x4, .int x5]) rfl rfl rfl ?_
  intro d hd
  unfold f_Lc_feed
  refine ge_run (pc' := 1) (L' := [.ref 1000, .int x1, .int x2, .int x3, .int x4, .int x5]) (S' := [.ref 1000]) 1 rfl ?_
  refine ge_getR (b := 1595) rfl (t1000 s) rfl (r1000_6 s) (Nat.le_of_ble_eq_true rfl) ?_
  refine ge_cv rfl rfl rfl (t1595 s) rfl rfl rfl (D := 1) (Nat.le_trans (by decide) hd) (c_Ta_hasRoom (n := n) (u := u) (t := t) (i := i) (r := r) s ) ?_
  rintro v_1 -
  dsimp only [bkE, F_i0]
  refine ge_ne0 rfl (fun h_2 => ?_) (fun h_3 => ?_)
  · refine ge_run (pc' := 5) (L' := [.ref 1000, .int x1, .int x2, .int x3, .int x4, .int x5]) (S' := [.int (-1 : Int32)]) 1 rfl ?_
    exact ge_ret rfl rfl (And.intro rfl trivial)
  · refine ge_run (pc' := 7) (L' := [.ref 1000, .int x1, .int x2, .int x3, .int x4, .int x5]) (S' := [.ref 1000]) 1 rfl ?_
    refine ge_getR (b := 1595) rfl (t1000 s) rfl (r1000_6 s) (Nat.le_of_ble_eq_true rfl) ?_
    refine ge_run (pc' := 9) (L' := [.ref 1000, .int x1, .int x2, .int x3, .int x4, .int x5]) (S' := [.int x1, .ref 1595]) 1 rfl ?_
    refine ge_cv rfl rfl rfl (t1595 s) rfl rfl rfl (D := 1) (Nat.le_trans (by decide) hd) (c_Ta_put (n := n) (u := u) (t := t) (i := i) (r := r) s x1) ?_
    rintro i_4 -
    dsimp only [bkE, F_v1]
    refine ge_run (pc' := 11) (L' := [.ref 1000, .int x1, .int x2, .int x3, .int x4, .int x5]) (S' := [.ref 1000]) 1 rfl ?_
    refine ge_getR (b := 1595) rfl (t1000 s) rfl (r1000_6 s) (Nat.le_of_ble_eq_true rfl) ?_
    refine ge_run (pc' := 13) (L' := [.ref 1000, .int x1, .int x2, .int x3, .int x4, .int x5]) (S' := [.int x2, .ref 1595]) 1 rfl ?_
    refine ge_cv rfl rfl rfl (t1595 s) rfl rfl rfl (D := 1) (Nat.le_trans (by decide) hd) (c_Ta_put (n := n) (u := u) (t := t) (i := i_4) (r := r) s x2) ?_
    rintro i_5 -
    dsimp only [bkE, F_v1]
    refine ge_run (pc' := 15) (L' := [.ref 1000, .int x1, .int x2, .int x3, .int x4, .int x5]) (S' := [.ref 1000]) 1 rfl ?_
    refine ge_getR (b := 1595) rfl (t1000 s) rfl (r1000_6 s) (Nat.le_of_ble_eq_true rfl) ?_
    refine ge_run (pc' := 17) (L' := [.ref 1000, .int x1, .int x2, .int x3, .int x4, .int x5]) (S' := [.int x3, .ref 1595]) 1 rfl ?_
    refine ge_cv rfl rfl rfl (t1595 s) rfl rfl rfl (D := 1) (Nat.le_trans (by decide) hd) (c_Ta_put (n := n) (u := u) (t := t) (i := i_5) (r := r) s x3) ?_
    rintro i_6 -
    dsimp only [bkE, F_v1]
    refine ge_run (pc' := 19) (L' := [.ref 1000, .int x1, .int x2, .int x3, .int x4, .int x5]) (S' := [.ref 1000]) 1 rfl ?_
    refine ge_getR (b := 1595) rfl (t1000 s) rfl (r1000_6 s) (Nat.le_of_ble_eq_true rfl) ?_
    refine ge_run (pc' := 21) (L' := [.ref 1000, .int x1, .int x2, .int x3, .int x4, .int x5]) (S' := [.int x4, .ref 1595]) 1 rfl ?_
    refine ge_cv rfl rfl rfl (t1595 s) rfl rfl rfl (D := 1) (Nat.le_trans (by decide) hd) (c_Ta_put (n := n) (u := u) (t := t) (i := i_6) (r := r) s x4) ?_
    rintro i_7 -
    dsimp only [bkE, F_v1]
    refine ge_run (pc' := 23) (L' := [.ref 1000, .int x1, .int x2, .int x3, .int x4, .int x5]) (S' := [.ref 1000]) 1 rfl ?_
    refine ge_getR (b := 1595) rfl (t1000 s) rfl (r1000_6 s) (Nat.le_of_ble_eq_true rfl) ?_
    refine ge_run (pc' := 25) (L' := [.ref 1000, .int x1, .int x2, .int x3, .int x4, .int x5]) (S' := [.int x5, .ref 1595]) 1 rfl ?_
    refine ge_cv rfl rfl rfl (t1595 s) rfl rfl rfl (D := 1) (Nat.le_trans (by decide) hd) (c_Ta_put (n := n) (u := u) (t := t) (i := i_7) (r := r) s x5) ?_
    rintro i_8 -
    dsimp only [bkE, F_v1]
    refine ge_run (pc' := 27) (L' := [.ref 1000, .int x1, .int x2, .int x3, .int x4, .int x5]) (S' := [.ref 1000]) 1 rfl ?_
    refine ge_getR (b := 1595) rfl (t1000 s) rfl (r1000_6 s) (Nat.le_of_ble_eq_true rfl) ?_
    refine ge_getI rfl (t1595 s) rfl ?_
    exact ge_ret rfl rfl (And.intro rfl trivial)
def f_Lc_end (i : MI) (x1 : Int32) : Option (Int32 × MI) :=
  if x1 < 0 then (some ((0 : Int32), i)) else (if (i 1595 1) < x1 then (some ((0 : Int32), i)) else (bnd (wr i 1595 1 x1) (fun i_5 => some ((1 : Int32), i_5))))
set_option maxHeartbeats 4000000 in
theorem c_Lc_end {n u : Nat} {t : MT} {i : MI} {r : MR} (s : Sh n t r) (x1 : Int32) : Cn 1 122 [.ref 1000, .int x1] (n, u, t, i, r) (f_Lc_end i x1) (F_i1 n u t r) PT := by
  refine cn_of (Y := K_Lc_end) (L0 := [.ref 1000, .int x1]) rfl rfl rfl ?_
  intro d hd
  unfold f_Lc_end
  refine ge_run (pc' := 1) (L' := [.ref 1000, .int x1]) (S' := [.int x1]) 1 rfl ?_
  refine ge_lt0 rfl (fun h_1 => ?_) (fun h_2 => ?_)
  · refine ge_run (pc' := 8) (L' := [.ref 1000, .int x1]) (S' := [.int (0 : Int32)]) 1 rfl ?_
    exact ge_retz rfl rfl (Or.inl rfl) (And.intro rfl trivial)
  · refine ge_run (pc' := 4) (L' := [.ref 1000, .int x1]) (S' := [.ref 1000, .int x1]) 2 rfl ?_
    refine ge_getR (b := 1595) rfl (t1000 s) rfl (r1000_6 s) (Nat.le_of_ble_eq_true rfl) ?_
    refine ge_getI rfl (t1595 s) rfl ?_
    refine ge_le rfl (fun h_3 => ?_) (fun h_4 => ?_)
    · refine ge_run (pc' := 8) (L' := [.ref 1000, .int x1]) (S' := [.int (0 : Int32)]) 1 rfl ?_
      exact ge_retz rfl rfl (Or.inl rfl) (And.intro rfl trivial)
    · refine ge_run (pc' := 10) (L' := [.ref 1000, .int x1]) (S' := [.ref 1000]) 1 rfl ?_
      refine ge_getR (b := 1595) rfl (t1000 s) rfl (r1000_6 s) (Nat.le_of_ble_eq_true rfl) ?_
      refine ge_run (pc' := 12) (L' := [.ref 1000, .int x1]) (S' := [.int x1, .ref 1595]) 1 rfl ?_
      refine ge_putI rfl (t1595 s) (Nat.le_of_ble_eq_true rfl) rfl (fun i_5 => ?_)
      refine ge_run (pc' := 14) (L' := [.ref 1000, .int x1]) (S' := [.int (1 : Int32)]) 1 rfl ?_
      exact ge_retz rfl rfl (Or.inr rfl) (And.intro rfl trivial)
def f_Lc_waters (t : MT) (r : MR) (i : MI) : Option ((Int32 ⊕ Nat) × MI × MR) :=
  (f_Se_copyFrom r i 1038 1001).bind (fun (i_1, r_2) => (f_Sx_read t i_1 1038).bind (fun | (.inl (), i_4) => if (i_4 1001 11) < (12 : Int32) then (bnd (wr i_4 1038 11 ((i_4 1038 11) + (1 : Int32))) (fun i_7 => (f_Se_copyFrom r_2 i_7 1001 1038).bind (fun (i_8, r_9) => (f_Pa_forget i_8).bind (fun i_11 => some (.inl (i_11 1001 11), i_11, r_9))))) else (some (.inr 23, i_4, r_2)) | (.inr c_5, i_4) => some (.inr c_5, i_4, r_2)))
set_option maxHeartbeats 4000000 in
theorem c_Lc_waters {n u : Nat} {t : MT} {i : MI} {r : MR} (s : Sh n t r)  : Cn 11 123 [.ref 1000] (n, u, t, i, r) (f_Lc_waters t r i ) (F_ti2 n u t) (PS2 n t) := by
  refine cn_of (Y := K_Lc_waters) (L0 := [.ref 1000]) rfl rfl rfl ?_
  intro d hd
  unfold f_Lc_waters
  refine ge_run (pc' := 1) (L' := [.ref 1000]) (S' := [.ref 1000]) 1 rfl ?_
  refine ge_getR (b := 1038) rfl (t1000 s) rfl (r1000_1 s) (Nat.le_of_ble_eq_true rfl) ?_
  refine ge_run (pc' := 3) (L' := [.ref 1000]) (S' := [.ref 1000, .ref 1038]) 1 rfl ?_
  refine ge_getR (b := 1001) rfl (t1000 s) rfl (r1000_0 s) (Nat.le_of_ble_eq_true rfl) ?_
  refine ge_cv rfl rfl rfl (sT0 s sea1038) rfl rfl rfl (D := 3) (Nat.le_trans (by decide) hd) (c_Se_copyFrom (n := n) (u := u) (t := t) (i := i) (r := r) s 1038 sea1038 1001 sea1001) ?_
  rintro ⟨i_1, r_2⟩ s_3
  dsimp only [bkE, F_v2]
  refine ge_run (pc' := 6) (L' := [.ref 1000]) (S' := [.ref 1000]) 1 rfl ?_
  refine ge_getR (b := 1597) rfl (t1000 s_3) rfl (r1000_7 s_3) (Nat.le_of_ble_eq_true rfl) ?_
  refine ge_run (pc' := 8) (L' := [.ref 1000]) (S' := [.ref 1000, .ref 1597]) 1 rfl ?_
  refine ge_getR (b := 1038) rfl (t1000 s_3) rfl (r1000_1 s_3) (Nat.le_of_ble_eq_true rfl) ?_
  refine ge_cv rfl rfl rfl (t1597 s_3) rfl rfl rfl (D := 10) (Nat.le_trans (by decide) hd) (c_Sx_read (n := n) (u := u) (t := t) (i := i_1) (r := r_2) s_3 1038 sea1038) ?_
  rintro ⟨⟨⟩ | c_5, i_4⟩ -
  · dsimp only [bkE, F_tv1]
    refine ge_run (pc' := 11) (L' := [.ref 1000]) (S' := [.ref 1000]) 1 rfl ?_
    refine ge_getR (b := 1001) rfl (t1000 s_3) rfl (r1000_0 s_3) (Nat.le_of_ble_eq_true rfl) ?_
    refine ge_getI rfl (sT0 s_3 sea1001) rfl ?_
    refine ge_run (pc' := 14) (L' := [.ref 1000]) (S' := [.int (12 : Int32), .int (i_4 1001 11)]) 1 rfl ?_
    refine ge_lt rfl (fun h_6 => ?_) (fun h_12 => ?_)
    · refine ge_run (pc' := 18) (L' := [.ref 1000]) (S' := [.ref 1000]) 1 rfl ?_
      refine ge_getR (b := 1038) rfl (t1000 s_3) rfl (r1000_1 s_3) (Nat.le_of_ble_eq_true rfl) ?_
      refine ge_run (pc' := 20) (L' := [.ref 1000]) (S' := [.ref 1038, .ref 1038]) 1 rfl ?_
      refine ge_getI rfl (sT0 s_3 sea1038) rfl ?_
      refine ge_run (pc' := 23) (L' := [.ref 1000]) (S' := [.int ((i_4 1038 11) + (1 : Int32)), .ref 1038]) 2 rfl ?_
      refine ge_putI rfl (sT0 s_3 sea1038) (sge0 sea1038) rfl (fun i_7 => ?_)
      refine ge_run (pc' := 25) (L' := [.ref 1000]) (S' := [.ref 1000]) 1 rfl ?_
      refine ge_getR (b := 1001) rfl (t1000 s_3) rfl (r1000_0 s_3) (Nat.le_of_ble_eq_true rfl) ?_
      refine ge_run (pc' := 27) (L' := [.ref 1000]) (S' := [.ref 1000, .ref 1001]) 1 rfl ?_
      refine ge_getR (b := 1038) rfl (t1000 s_3) rfl (r1000_1 s_3) (Nat.le_of_ble_eq_true rfl) ?_
      refine ge_cv rfl rfl rfl (sT0 s_3 sea1001) rfl rfl rfl (D := 3) (Nat.le_trans (by decide) hd) (c_Se_copyFrom (n := n) (u := u) (t := t) (i := i_7) (r := r_2) s_3 1001 sea1001 1038 sea1038) ?_
      rintro ⟨i_8, r_9⟩ s_10
      dsimp only [bkE, F_v2]
      refine ge_run (pc' := 30) (L' := [.ref 1000]) (S' := [.ref 1000]) 1 rfl ?_
      refine ge_getR (b := 1149) rfl (t1000 s_10) rfl (r1000_5 s_10) (Nat.le_of_ble_eq_true rfl) ?_
      refine ge_cv rfl rfl rfl (t1149 s_10) rfl rfl rfl (D := 1) (Nat.le_trans (by decide) hd) (c_Pa_forget (n := n) (u := u) (t := t) (i := i_8) (r := r_9) s_10 ) ?_
      rintro i_11 -
      dsimp only [bkE, F_v1]
      refine ge_run (pc' := 33) (L' := [.ref 1000]) (S' := [.ref 1000]) 1 rfl ?_
      refine ge_getR (b := 1001) rfl (t1000 s_10) rfl (r1000_0 s_10) (Nat.le_of_ble_eq_true rfl) ?_
      refine ge_getI rfl (sT0 s_10 sea1001) rfl ?_
      exact ge_ret rfl rfl (And.intro rfl s_10)
    · exact ge_throw rfl (by decide) rfl rfl (And.intro rfl s_3)
  · exact ge_leaf (And.intro rfl s_3)
def f_Lc_fault (i : MI) : Option (Int32) :=
  some ((i 1595 2))
set_option maxHeartbeats 4000000 in
theorem c_Lc_fault {n u : Nat} {t : MT} {i : MI} {r : MR} (s : Sh n t r)  : Cn 1 125 [.ref 1000] (n, u, t, i, r) (f_Lc_fault i ) (F_i0 n u t i r) PT := by
  refine cn_of (Y := K_Lc_fault) (L0 := [.ref 1000]) rfl rfl rfl ?_
  intro d hd
  unfold f_Lc_fault
  refine ge_run (pc' := 1) (L' := [.ref 1000]) (S' := [.ref 1000]) 1 rfl ?_
  refine ge_getR (b := 1595) rfl (t1000 s) rfl (r1000_6 s) (Nat.le_of_ble_eq_true rfl) ?_
  refine ge_getI rfl (t1595 s) rfl ?_
  exact ge_ret rfl rfl (And.intro rfl trivial)
def f_Lc_needCell (x0 : Int32) : Option ((Unit ⊕ Nat)) :=
  if x0 < 0 then (some (.inr 22)) else (if x0 < (25 : Int32) then (some (.inl ())) else (some (.inr 22)))
set_option maxHeartbeats 4000000 in
theorem c_Lc_needCell {n u : Nat} {t : MT} {i : MI} {r : MR} (s : Sh n t r) (x0 : Int32) : Cn 1 175 [.int x0] (n, u, t, i, r) (f_Lc_needCell  x0) (F_tv0 n u t i r) PT := by
  refine cn_of (Y := K_Lc_needCell) (L0 := [.int x0]) rfl rfl rfl ?_
  intro d hd
  unfold f_Lc_needCell
  refine ge_run (pc' := 1) (L' := [.int x0]) (S' := [.int x0]) 1 rfl ?_
  refine ge_lt0 rfl (fun h_1 => ?_) (fun h_2 => ?_)
  · exact ge_throw rfl (by decide) rfl rfl (And.intro rfl trivial)
  · refine ge_run (pc' := 4) (L' := [.int x0]) (S' := [.int (25 : Int32), .int x0]) 2 rfl ?_
    refine ge_lt rfl (fun h_3 => ?_) (fun h_4 => ?_)
    · exact ge_retv rfl rfl (And.intro rfl trivial)
    · exact ge_throw rfl (by decide) rfl rfl (And.intro rfl trivial)
def f_Lc_cell (i : MI) (x1 : Int32) (x2 : Int32) : Option ((Int32 ⊕ Nat)) :=
  (f_Lc_needCell x1).bind (fun | .inl () => sw x2 0 [(grd x1 25 (some (.inl (i (1001 + 1) (ix x1))))), ((f_Se_drift i 1001 x1).bind (fun v_6 => some (.inl v_6))), ((f_Se_swimmingAt i 1001 x1).bind (fun v_8 => some (.inl v_8))), ((f_Se_comesRound i 1001 x1).bind (fun v_10 => if v_10 = 0 then (some (.inl (0 : Int32))) else (some (.inl (1 : Int32)))))] ((some (.inr 24))) | .inr c_1 => some (.inr c_1))
set_option maxHeartbeats 4000000 in
theorem c_Lc_cell {n u : Nat} {t : MT} {i : MI} {r : MR} (s : Sh n t r) (x1 : Int32) (x2 : Int32) : Cn 4 126 [.ref 1000, .int x1, .int x2] (n, u, t, i, r) (f_Lc_cell i x1 x2) (F_ti0 n u t i r) PT := by
  refine cn_of (Y := K_Lc_cell) (L0 := [.ref 1000, .int x1, .int x2]) rfl rfl rfl ?_
  intro d hd
  unfold f_Lc_cell
  refine ge_run (pc' := 1) (L' := [.ref 1000, .int x1, .int x2]) (S' := [.int x1]) 1 rfl ?_
  refine ge_cs rfl rfl rfl rfl rfl rfl (D := 1) (Nat.le_trans (by decide) hd) (c_Lc_needCell (n := n) (u := u) (t := t) (i := i) (r := r) s x1) ?_
  rintro (⟨⟩ | c_1) -
  · dsimp only [bkE, F_tv0]
    refine ge_run (pc' := 3) (L' := [.ref 1000, .int x1, .int x2]) (S' := [.int x2]) 1 rfl ?_
    refine ge_sw rfl rfl (And.intro ?_ (And.intro ?_ (And.intro ?_ (And.intro ?_ trivial)))) ?_
    · refine ge_run (pc' := 5) (L' := [.ref 1000, .int x1, .int x2]) (S' := [.ref 1000]) 1 rfl ?_
      refine ge_getR (b := 1001) rfl (t1000 s) rfl (r1000_0 s) (Nat.le_of_ble_eq_true rfl) ?_
      refine ge_getR (b := (1001 + 1)) rfl (sT0 s sea1001) rfl (sR0 s sea1001) (sge sea1001) ?_
      refine ge_run (pc' := 8) (L' := [.ref 1000, .int x1, .int x2]) (S' := [.int x1, .ref (1001 + 1)]) 1 rfl ?_
      refine ge_grd (fun g_3 g_4 => ?_)
      refine ge_iald (jn := (ix x1)) rfl (sT1 s sea1001) ⟨g_3, rfl⟩ g_4 ?_
      exact ge_ret rfl rfl (And.intro rfl trivial)
    · refine ge_run (pc' := 11) (L' := [.ref 1000, .int x1, .int x2]) (S' := [.ref 1000]) 1 rfl ?_
      refine ge_getR (b := 1001) rfl (t1000 s) rfl (r1000_0 s) (Nat.le_of_ble_eq_true rfl) ?_
      refine ge_run (pc' := 13) (L' := [.ref 1000, .int x1, .int x2]) (S' := [.int x1, .ref 1001]) 1 rfl ?_
      refine ge_cv rfl rfl rfl (sT0 s sea1001) rfl rfl rfl (D := 2) (Nat.le_trans (by decide) hd) (c_Se_drift (n := n) (u := u) (t := t) (i := i) (r := r) s 1001 sea1001 x1) ?_
      rintro v_6 -
      dsimp only [bkE, F_i0]
      exact ge_ret rfl rfl (And.intro rfl trivial)
    · refine ge_run (pc' := 16) (L' := [.ref 1000, .int x1, .int x2]) (S' := [.ref 1000]) 1 rfl ?_
      refine ge_getR (b := 1001) rfl (t1000 s) rfl (r1000_0 s) (Nat.le_of_ble_eq_true rfl) ?_
      refine ge_run (pc' := 18) (L' := [.ref 1000, .int x1, .int x2]) (S' := [.int x1, .ref 1001]) 1 rfl ?_
      refine ge_cv rfl rfl rfl (sT0 s sea1001) rfl rfl rfl (D := 1) (Nat.le_trans (by decide) hd) (c_Se_swimmingAt (n := n) (u := u) (t := t) (i := i) (r := r) s 1001 sea1001 x1) ?_
      rintro v_8 -
      dsimp only [bkE, F_i0]
      exact ge_ret rfl rfl (And.intro rfl trivial)
    · refine ge_run (pc' := 21) (L' := [.ref 1000, .int x1, .int x2]) (S' := [.ref 1000]) 1 rfl ?_
      refine ge_getR (b := 1001) rfl (t1000 s) rfl (r1000_0 s) (Nat.le_of_ble_eq_true rfl) ?_
      refine ge_run (pc' := 23) (L' := [.ref 1000, .int x1, .int x2]) (S' := [.int x1, .ref 1001]) 1 rfl ?_
      refine ge_cv rfl rfl rfl (sT0 s sea1001) rfl rfl rfl (D := 3) (Nat.le_trans (by decide) hd) (c_Se_comesRound (n := n) (u := u) (t := t) (i := i) (r := r) s 1001 sea1001 x1) ?_
      rintro v_10 -
      dsimp only [bkE, F_i0]
      refine ge_eq0 rfl (fun h_11 => ?_) (fun h_12 => ?_)
      · refine ge_run (pc' := 28) (L' := [.ref 1000, .int x1, .int x2]) (S' := [.int (0 : Int32)]) 1 rfl ?_
        exact ge_ret rfl rfl (And.intro rfl trivial)
      · refine ge_run (pc' := 28) (L' := [.ref 1000, .int x1, .int x2]) (S' := [.int (1 : Int32)]) 2 rfl ?_
        exact ge_ret rfl rfl (And.intro rfl trivial)
    · exact ge_throw rfl (by decide) rfl rfl (And.intro rfl trivial)
  · exact ge_leaf (And.intro rfl trivial)
def f_Lc_needFish (i : MI) (x1 : Int32) : Option ((Unit ⊕ Nat)) :=
  if x1 < 0 then (some (.inr 22)) else (if x1 < (i 1001 7) then (some (.inl ())) else (some (.inr 22)))
set_option maxHeartbeats 4000000 in
theorem c_Lc_needFish {n u : Nat} {t : MT} {i : MI} {r : MR} (s : Sh n t r) (x1 : Int32) : Cn 1 177 [.ref 1000, .int x1] (n, u, t, i, r) (f_Lc_needFish i x1) (F_tv0 n u t i r) PT := by
  refine cn_of (Y := K_Lc_needFish) (L0 := [.ref 1000, .int x1]) rfl rfl rfl ?_
  intro d hd
  unfold f_Lc_needFish
  refine ge_run (pc' := 1) (L' := [.ref 1000, .int x1]) (S' := [.int x1]) 1 rfl ?_
  refine ge_lt0 rfl (fun h_1 => ?_) (fun h_2 => ?_)
  · exact ge_throw rfl (by decide) rfl rfl (And.intro rfl trivial)
  · refine ge_run (pc' := 4) (L' := [.ref 1000, .int x1]) (S' := [.ref 1000, .int x1]) 2 rfl ?_
    refine ge_getR (b := 1001) rfl (t1000 s) rfl (r1000_0 s) (Nat.le_of_ble_eq_true rfl) ?_
    refine ge_getI rfl (sT0 s sea1001) rfl ?_
    refine ge_lt rfl (fun h_3 => ?_) (fun h_4 => ?_)
    · exact ge_retv rfl rfl (And.intro rfl trivial)
    · exact ge_throw rfl (by decide) rfl rfl (And.intro rfl trivial)
def f_Lc_caughtIn (t : MT) (r : MR) (i : MI) (x1 : Int32) : Option (Int32 × MI × MR) :=
  (f_Se_copyFrom r i 1075 1001).bind (fun (i_1, r_2) => itr (σ := Int32 × MI) (ρ := Int32 × MI × MR) (fun (x2_4, i_5) => if (60 : Int32) < x2_4 then (some (.inr (((-1 : Int32), i_5, r_2)))) else (grd x1 8 (if (i_5 (1075 + 3 + (ix x1)) 3) = 0 then ((f_Se_passDay t r_2 i_5 1075 (0 : Int32)).bind (fun (v_11, i_12) => some (.inl ((x2_4 + (1 : Int32)), i_12)))) else (some (.inr ((x2_4, i_5, r_2))))))) 1000000 ((0 : Int32), i_1))
set_option maxHeartbeats 4000000 in
theorem c_Lc_caughtIn {n u : Nat} {t : MT} {i : MI} {r : MR} (s : Sh n t r) (x1 : Int32) : Cn 7 185 [.ref 1000, .int x1] (n, u, t, i, r) (f_Lc_caughtIn t r i x1) (F_i2 n u t) (PS2 n t) := by
  refine cn_of (Y := K_Lc_caughtIn) (L0 := [.ref 1000, .int x1, uV]) rfl rfl rfl ?_
  intro d hd
  unfold f_Lc_caughtIn
  refine ge_run (pc' := 1) (L' := [.ref 1000, .int x1, uV]) (S' := [.ref 1000]) 1 rfl ?_
  refine ge_getR (b := 1075) rfl (t1000 s) rfl (r1000_2 s) (Nat.le_of_ble_eq_true rfl) ?_
  refine ge_run (pc' := 3) (L' := [.ref 1000, .int x1, uV]) (S' := [.ref 1000, .ref 1075]) 1 rfl ?_
  refine ge_getR (b := 1001) rfl (t1000 s) rfl (r1000_0 s) (Nat.le_of_ble_eq_true rfl) ?_
  refine ge_cv rfl rfl rfl (sT0 s sea1075) rfl rfl rfl (D := 3) (Nat.le_trans (by decide) hd) (c_Se_copyFrom (n := n) (u := u) (t := t) (i := i) (r := r) s 1075 sea1075 1001 sea1001) ?_
  rintro ⟨i_1, r_2⟩ s_3
  dsimp only [bkE, F_v2]
  refine ge_run (pc' := 7) (L' := [.ref 1000, .int x1, .int (0 : Int32)]) (S' := []) 2 rfl ?_
  refine ge_itr (C := fun (q : Int32 × MI) e => e = .inl (7, [.ref 1000, .int x1, .int q.1], [], (n, u, t, q.2, r_2))) ?_ _ _ _ rfl
  rintro ⟨x2_4, i_5⟩ _ rfl
  try dsimp only
  refine ge_run (pc' := 9) (L' := [.ref 1000, .int x1, .int x2_4]) (S' := [.int (60 : Int32), .int x2_4]) 2 rfl ?_
  refine ge_gt rfl (fun h_6 => ?_) (fun h_7 => ?_)
  · refine ge_run (pc' := 28) (L' := [.ref 1000, .int x1, .int x2_4]) (S' := [.int (-1 : Int32)]) 1 rfl ?_
    exact ge_ret rfl rfl (And.intro rfl s_3)
  · refine ge_run (pc' := 11) (L' := [.ref 1000, .int x1, .int x2_4]) (S' := [.ref 1000]) 1 rfl ?_
    refine ge_getR (b := 1075) rfl (t1000 s_3) rfl (r1000_2 s_3) (Nat.le_of_ble_eq_true rfl) ?_
    refine ge_getR (b := (1075 + 2)) rfl (sT0 s_3 sea1075) rfl (sR1 s_3 sea1075) (sge sea1075) ?_
    refine ge_run (pc' := 14) (L' := [.ref 1000, .int x1, .int x2_4]) (S' := [.int x1, .ref (1075 + 2)]) 1 rfl ?_
    refine ge_grd (fun g_8 g_9 => ?_)
    refine ge_aald (jn := (ix x1)) (b := (1075 + 3 + (ix x1))) rfl (sT2 s_3 sea1075) (Or.inl rfl) ⟨g_8, rfl⟩ g_9 (sRr_fish s_3 sea1075 g_9) (sge2 sea1075) ?_
    refine ge_run (pc' := 16) (L' := [.ref 1000, .int x1, .int x2_4]) (S' := [.int (3 : Int32), .ref (1075 + 3 + (ix x1))]) 1 rfl ?_
    refine ge_iald (jn := 3) rfl (sRow_fish s_3 sea1075 g_9) lk3 (by decide) ?_
    refine ge_eq0 rfl (fun h_10 => ?_) (fun h_13 => ?_)
    · refine ge_run (pc' := 21) (L' := [.ref 1000, .int x1, .int x2_4]) (S' := [.ref 1000]) 1 rfl ?_
      refine ge_getR (b := 1075) rfl (t1000 s_3) rfl (r1000_2 s_3) (Nat.le_of_ble_eq_true rfl) ?_
      refine ge_run (pc' := 23) (L' := [.ref 1000, .int x1, .int x2_4]) (S' := [.int (0 : Int32), .ref 1075]) 1 rfl ?_
      refine ge_cv rfl rfl rfl (sT0 s_3 sea1075) rfl rfl rfl (D := 6) (Nat.le_trans (by decide) hd) (c_Se_passDay (n := n) (u := u) (t := t) (i := i_5) (r := r_2) s_3 1075 sea1075 (0 : Int32)) ?_
      rintro ⟨v_11, i_12⟩ -
      dsimp only [bkE, F_i1]
      refine ge_run (pc' := 7) (L' := [.ref 1000, .int x1, .int (x2_4 + (1 : Int32))]) (S' := []) 3 rfl ?_
      exact ge_leaf (K := kX _ _) rfl
    · refine ge_run (pc' := 19) (L' := [.ref 1000, .int x1, .int x2_4]) (S' := [.int x2_4]) 1 rfl ?_
      exact ge_ret rfl rfl (And.intro rfl s_3)
def f_Lc_fish (t : MT) (r : MR) (i : MI) (x1 : Int32) (x2 : Int32) : Option ((Int32 ⊕ Nat) × MI × MR) :=
  (f_Lc_needFish i x1).bind (fun | .inl () => grd x1 8 (sw x2 0 [(some (.inl (i (1001 + 3 + (ix x1)) 0), i, r)), (some (.inl (i (1001 + 3 + (ix x1)) 1), i, r)), (some (.inl (i (1001 + 3 + (ix x1)) 2), i, r)), (some (.inl (i (1001 + 3 + (ix x1)) 3), i, r)), ((f_Se_cellOf i 1001 x1).bind (fun v_9 => some (.inl v_9, i, r))), (some (.inl (i (1001 + 3 + (ix x1)) 5), i, r)), ((f_Se_turnsBy t r i 1001 x1).bind (fun (v_12, i_13) => some (.inl v_12, i_13, r))), ((f_Se_price t r i 1001 x1).bind (fun (v_15, i_16) => some (.inl v_15, i_16, r))), ((f_Lc_caughtIn t r i x1).bind (fun (v_18, i_19, r_20) => some (.inl v_18, i_19, r_20))), ((f_Se_maybe i 1001 x1).bind (fun v_23 => some (.inl v_23, i, r)))] ((some (.inr 24, i, r)))) | .inr c_1 => some (.inr c_1, i, r))
set_option maxHeartbeats 4000000 in
theorem c_Lc_fish {n u : Nat} {t : MT} {i : MI} {r : MR} (s : Sh n t r) (x1 : Int32) (x2 : Int32) : Cn 8 127 [.ref 1000, .int x1, .int x2] (n, u, t, i, r) (f_Lc_fish t r i x1 x2) (F_ti2 n u t) (PS2 n t) := by
  refine cn_of (Y := K_Lc_fish) (L0 := [.ref 1000, .int x1, .int x2, uV]) rfl rfl rfl ?_
  intro d hd
  unfold f_Lc_fish
  refine ge_run (pc' := 2) (L' := [.ref 1000, .int x1, .int x2, uV]) (S' := [.int x1, .ref 1000]) 2 rfl ?_
  refine ge_cv rfl rfl rfl (t1000 s) rfl rfl rfl (D := 1) (Nat.le_trans (by decide) hd) (c_Lc_needFish (n := n) (u := u) (t := t) (i := i) (r := r) s x1) ?_
  rintro (⟨⟩ | c_1) -
  · dsimp only [bkE, F_tv0]
    refine ge_run (pc' := 4) (L' := [.ref 1000, .int x1, .int x2, uV]) (S' := [.ref 1000]) 1 rfl ?_
    refine ge_getR (b := 1001) rfl (t1000 s) rfl (r1000_0 s) (Nat.le_of_ble_eq_true rfl) ?_
    refine ge_getR (b := (1001 + 2)) rfl (sT0 s sea1001) rfl (sR1 s sea1001) (sge sea1001) ?_
    refine ge_run (pc' := 7) (L' := [.ref 1000, .int x1, .int x2, uV]) (S' := [.int x1, .ref (1001 + 2)]) 1 rfl ?_
    refine ge_grd (fun g_2 g_3 => ?_)
    refine ge_aald (jn := (ix x1)) (b := (1001 + 3 + (ix x1))) rfl (sT2 s sea1001) (Or.inl rfl) ⟨g_2, rfl⟩ g_3 (sRr_fish s sea1001 g_3) (sge2 sea1001) ?_
    refine ge_run (pc' := 10) (L' := [.ref 1000, .int x1, .int x2, .ref (1001 + 3 + (ix x1))]) (S' := [.int x2]) 2 rfl ?_
    refine ge_sw rfl rfl (And.intro ?_ (And.intro ?_ (And.intro ?_ (And.intro ?_ (And.intro ?_ (And.intro ?_ (And.intro ?_ (And.intro ?_ (And.intro ?_ (And.intro ?_ trivial)))))))))) ?_
    · refine ge_run (pc' := 13) (L' := [.ref 1000, .int x1, .int x2, .ref (1001 + 3 + (ix x1))]) (S' := [.int (0 : Int32), .ref (1001 + 3 + (ix x1))]) 2 rfl ?_
      refine ge_iald (jn := 0) rfl (sRow_fish s sea1001 g_3) lk0 (by decide) ?_
      exact ge_ret rfl rfl (And.intro rfl s)
    · refine ge_run (pc' := 17) (L' := [.ref 1000, .int x1, .int x2, .ref (1001 + 3 + (ix x1))]) (S' := [.int (1 : Int32), .ref (1001 + 3 + (ix x1))]) 2 rfl ?_
      refine ge_iald (jn := 1) rfl (sRow_fish s sea1001 g_3) lk1 (by decide) ?_
      exact ge_ret rfl rfl (And.intro rfl s)
    · refine ge_run (pc' := 21) (L' := [.ref 1000, .int x1, .int x2, .ref (1001 + 3 + (ix x1))]) (S' := [.int (2 : Int32), .ref (1001 + 3 + (ix x1))]) 2 rfl ?_
      refine ge_iald (jn := 2) rfl (sRow_fish s sea1001 g_3) lk2 (by decide) ?_
      exact ge_ret rfl rfl (And.intro rfl s)
    · refine ge_run (pc' := 25) (L' := [.ref 1000, .int x1, .int x2, .ref (1001 + 3 + (ix x1))]) (S' := [.int (3 : Int32), .ref (1001 + 3 + (ix x1))]) 2 rfl ?_
      refine ge_iald (jn := 3) rfl (sRow_fish s sea1001 g_3) lk3 (by decide) ?_
      exact ge_ret rfl rfl (And.intro rfl s)
    · refine ge_run (pc' := 28) (L' := [.ref 1000, .int x1, .int x2, .ref (1001 + 3 + (ix x1))]) (S' := [.ref 1000]) 1 rfl ?_
      refine ge_getR (b := 1001) rfl (t1000 s) rfl (r1000_0 s) (Nat.le_of_ble_eq_true rfl) ?_
      refine ge_run (pc' := 30) (L' := [.ref 1000, .int x1, .int x2, .ref (1001 + 3 + (ix x1))]) (S' := [.int x1, .ref 1001]) 1 rfl ?_
      refine ge_cv rfl rfl rfl (sT0 s sea1001) rfl rfl rfl (D := 1) (Nat.le_trans (by decide) hd) (c_Se_cellOf (n := n) (u := u) (t := t) (i := i) (r := r) s 1001 sea1001 x1) ?_
      rintro v_9 -
      dsimp only [bkE, F_i0]
      exact ge_ret rfl rfl (And.intro rfl s)
    · refine ge_run (pc' := 34) (L' := [.ref 1000, .int x1, .int x2, .ref (1001 + 3 + (ix x1))]) (S' := [.int (5 : Int32), .ref (1001 + 3 + (ix x1))]) 2 rfl ?_
      refine ge_iald (jn := 5) rfl (sRow_fish s sea1001 g_3) lk5 (by decide) ?_
      exact ge_ret rfl rfl (And.intro rfl s)
    · refine ge_run (pc' := 37) (L' := [.ref 1000, .int x1, .int x2, .ref (1001 + 3 + (ix x1))]) (S' := [.ref 1000]) 1 rfl ?_
      refine ge_getR (b := 1001) rfl (t1000 s) rfl (r1000_0 s) (Nat.le_of_ble_eq_true rfl) ?_
      refine ge_run (pc' := 39) (L' := [.ref 1000, .int x1, .int x2, .ref (1001 + 3 + (ix x1))]) (S' := [.int x1, .ref 1001]) 1 rfl ?_
      refine ge_cv rfl rfl rfl (sT0 s sea1001) rfl rfl rfl (D := 3) (Nat.le_trans (by decide) hd) (c_Se_turnsBy (n := n) (u := u) (t := t) (i := i) (r := r) s 1001 sea1001 x1) ?_
      rintro ⟨v_12, i_13⟩ -
      dsimp only [bkE, F_i1]
      exact ge_ret rfl rfl (And.intro rfl s)
    · refine ge_run (pc' := 42) (L' := [.ref 1000, .int x1, .int x2, .ref (1001 + 3 + (ix x1))]) (S' := [.ref 1000]) 1 rfl ?_
      refine ge_getR (b := 1001) rfl (t1000 s) rfl (r1000_0 s) (Nat.le_of_ble_eq_true rfl) ?_
      refine ge_run (pc' := 44) (L' := [.ref 1000, .int x1, .int x2, .ref (1001 + 3 + (ix x1))]) (S' := [.int x1, .ref 1001]) 1 rfl ?_
      refine ge_cv rfl rfl rfl (sT0 s sea1001) rfl rfl rfl (D := 3) (Nat.le_trans (by decide) hd) (c_Se_price (n := n) (u := u) (t := t) (i := i) (r := r) s 1001 sea1001 x1) ?_
      rintro ⟨v_15, i_16⟩ -
      dsimp only [bkE, F_i1]
      exact ge_ret rfl rfl (And.intro rfl s)
    · refine ge_run (pc' := 48) (L' := [.ref 1000, .int x1, .int x2, .ref (1001 + 3 + (ix x1))]) (S' := [.int x1, .ref 1000]) 2 rfl ?_
      refine ge_cv rfl rfl rfl (t1000 s) rfl rfl rfl (D := 7) (Nat.le_trans (by decide) hd) (c_Lc_caughtIn (n := n) (u := u) (t := t) (i := i) (r := r) s x1) ?_
      rintro ⟨v_18, i_19, r_20⟩ s_21
      dsimp only [bkE, F_i2]
      exact ge_ret rfl rfl (And.intro rfl s_21)
    · refine ge_run (pc' := 51) (L' := [.ref 1000, .int x1, .int x2, .ref (1001 + 3 + (ix x1))]) (S' := [.ref 1000]) 1 rfl ?_
      refine ge_getR (b := 1001) rfl (t1000 s) rfl (r1000_0 s) (Nat.le_of_ble_eq_true rfl) ?_
      refine ge_run (pc' := 53) (L' := [.ref 1000, .int x1, .int x2, .ref (1001 + 3 + (ix x1))]) (S' := [.int x1, .ref 1001]) 1 rfl ?_
      refine ge_cv rfl rfl rfl (sT0 s sea1001) rfl rfl rfl (D := 2) (Nat.le_trans (by decide) hd) (c_Se_maybe (n := n) (u := u) (t := t) (i := i) (r := r) s 1001 sea1001 x1) ?_
      rintro v_23 -
      dsimp only [bkE, F_i0]
      exact ge_ret rfl rfl (And.intro rfl s)
    · exact ge_throw rfl (by decide) rfl rfl (And.intro rfl s)
  · exact ge_leaf (And.intro rfl s)
def f_Lc_needBoat (i : MI) (x1 : Int32) : Option ((Unit ⊕ Nat)) :=
  if x1 < 0 then (some (.inr 22)) else (if x1 < (i 1001 8) then (some (.inl ())) else (some (.inr 22)))
set_option maxHeartbeats 4000000 in
theorem c_Lc_needBoat {n u : Nat} {t : MT} {i : MI} {r : MR} (s : Sh n t r) (x1 : Int32) : Cn 1 178 [.ref 1000, .int x1] (n, u, t, i, r) (f_Lc_needBoat i x1) (F_tv0 n u t i r) PT := by
  refine cn_of (Y := K_Lc_needBoat) (L0 := [.ref 1000, .int x1]) rfl rfl rfl ?_
  intro d hd
  unfold f_Lc_needBoat
  refine ge_run (pc' := 1) (L' := [.ref 1000, .int x1]) (S' := [.int x1]) 1 rfl ?_
  refine ge_lt0 rfl (fun h_1 => ?_) (fun h_2 => ?_)
  · exact ge_throw rfl (by decide) rfl rfl (And.intro rfl trivial)
  · refine ge_run (pc' := 4) (L' := [.ref 1000, .int x1]) (S' := [.ref 1000, .int x1]) 2 rfl ?_
    refine ge_getR (b := 1001) rfl (t1000 s) rfl (r1000_0 s) (Nat.le_of_ble_eq_true rfl) ?_
    refine ge_getI rfl (sT0 s sea1001) rfl ?_
    refine ge_lt rfl (fun h_3 => ?_) (fun h_4 => ?_)
    · exact ge_retv rfl rfl (And.intro rfl trivial)
    · exact ge_throw rfl (by decide) rfl rfl (And.intro rfl trivial)
def f_Lc_boat (i : MI) (x1 : Int32) (x2 : Int32) : Option ((Int32 ⊕ Nat)) :=
  (f_Lc_needBoat i x1).bind (fun | .inl () => grd x1 3 (sw x2 0 [(some (.inl (i (1001 + 12 + (ix x1)) 0))), (some (.inl (i (1001 + 12 + (ix x1)) 1))), (some (.inl (i (1001 + 12 + (ix x1)) 2))), ((f_Se_aboard i 1001 x1).bind (fun v_8 => some (.inl v_8)))] ((some (.inr 24)))) | .inr c_1 => some (.inr c_1))
set_option maxHeartbeats 4000000 in
theorem c_Lc_boat {n u : Nat} {t : MT} {i : MI} {r : MR} (s : Sh n t r) (x1 : Int32) (x2 : Int32) : Cn 2 128 [.ref 1000, .int x1, .int x2] (n, u, t, i, r) (f_Lc_boat i x1 x2) (F_ti0 n u t i r) PT := by
  refine cn_of (Y := K_Lc_boat) (L0 := [.ref 1000, .int x1, .int x2, uV]) rfl rfl rfl ?_
  intro d hd
  unfold f_Lc_boat
  refine ge_run (pc' := 2) (L' := [.ref 1000, .int x1, .int x2, uV]) (S' := [.int x1, .ref 1000]) 2 rfl ?_
  refine ge_cv rfl rfl rfl (t1000 s) rfl rfl rfl (D := 1) (Nat.le_trans (by decide) hd) (c_Lc_needBoat (n := n) (u := u) (t := t) (i := i) (r := r) s x1) ?_
  rintro (⟨⟩ | c_1) -
  · dsimp only [bkE, F_tv0]
    refine ge_run (pc' := 4) (L' := [.ref 1000, .int x1, .int x2, uV]) (S' := [.ref 1000]) 1 rfl ?_
    refine ge_getR (b := 1001) rfl (t1000 s) rfl (r1000_0 s) (Nat.le_of_ble_eq_true rfl) ?_
    refine ge_getR (b := (1001 + 11)) rfl (sT0 s sea1001) rfl (sR2 s sea1001) (sge sea1001) ?_
    refine ge_run (pc' := 7) (L' := [.ref 1000, .int x1, .int x2, uV]) (S' := [.int x1, .ref (1001 + 11)]) 1 rfl ?_
    refine ge_grd (fun g_2 g_3 => ?_)
    refine ge_aald (jn := (ix x1)) (b := (1001 + 12 + (ix x1))) rfl (sT11 s sea1001) (Or.inl rfl) ⟨g_2, rfl⟩ g_3 (sRr_boat s sea1001 g_3) (sge2 sea1001) ?_
    refine ge_run (pc' := 10) (L' := [.ref 1000, .int x1, .int x2, .ref (1001 + 12 + (ix x1))]) (S' := [.int x2]) 2 rfl ?_
    refine ge_sw rfl rfl (And.intro ?_ (And.intro ?_ (And.intro ?_ (And.intro ?_ trivial)))) ?_
    · refine ge_run (pc' := 13) (L' := [.ref 1000, .int x1, .int x2, .ref (1001 + 12 + (ix x1))]) (S' := [.int (0 : Int32), .ref (1001 + 12 + (ix x1))]) 2 rfl ?_
      refine ge_iald (jn := 0) rfl (sRow_boat s sea1001 g_3) lk0 (by decide) ?_
      exact ge_ret rfl rfl (And.intro rfl trivial)
    · refine ge_run (pc' := 17) (L' := [.ref 1000, .int x1, .int x2, .ref (1001 + 12 + (ix x1))]) (S' := [.int (1 : Int32), .ref (1001 + 12 + (ix x1))]) 2 rfl ?_
      refine ge_iald (jn := 1) rfl (sRow_boat s sea1001 g_3) lk1 (by decide) ?_
      exact ge_ret rfl rfl (And.intro rfl trivial)
    · refine ge_run (pc' := 21) (L' := [.ref 1000, .int x1, .int x2, .ref (1001 + 12 + (ix x1))]) (S' := [.int (2 : Int32), .ref (1001 + 12 + (ix x1))]) 2 rfl ?_
      refine ge_iald (jn := 2) rfl (sRow_boat s sea1001 g_3) lk2 (by decide) ?_
      exact ge_ret rfl rfl (And.intro rfl trivial)
    · refine ge_run (pc' := 24) (L' := [.ref 1000, .int x1, .int x2, .ref (1001 + 12 + (ix x1))]) (S' := [.ref 1000]) 1 rfl ?_
      refine ge_getR (b := 1001) rfl (t1000 s) rfl (r1000_0 s) (Nat.le_of_ble_eq_true rfl) ?_
      refine ge_run (pc' := 26) (L' := [.ref 1000, .int x1, .int x2, .ref (1001 + 12 + (ix x1))]) (S' := [.int x1, .ref 1001]) 1 rfl ?_
      refine ge_cv rfl rfl rfl (sT0 s sea1001) rfl rfl rfl (D := 1) (Nat.le_trans (by decide) hd) (c_Se_aboard (n := n) (u := u) (t := t) (i := i) (r := r) s 1001 sea1001 x1) ?_
      rintro v_8 -
      dsimp only [bkE, F_i0]
      exact ge_ret rfl rfl (And.intro rfl trivial)
    · exact ge_throw rfl (by decide) rfl rfl (And.intro rfl trivial)
  · exact ge_leaf (And.intro rfl trivial)
def f_Lc_needBuyer (i : MI) (x1 : Int32) : Option ((Unit ⊕ Nat)) :=
  if x1 < 0 then (some (.inr 22)) else (if x1 < (i 1001 9) then (some (.inl ())) else (some (.inr 22)))
set_option maxHeartbeats 4000000 in
theorem c_Lc_needBuyer {n u : Nat} {t : MT} {i : MI} {r : MR} (s : Sh n t r) (x1 : Int32) : Cn 1 179 [.ref 1000, .int x1] (n, u, t, i, r) (f_Lc_needBuyer i x1) (F_tv0 n u t i r) PT := by
  refine cn_of (Y := K_Lc_needBuyer) (L0 := [.ref 1000, .int x1]) rfl rfl rfl ?_
  intro d hd
  unfold f_Lc_needBuyer
  refine ge_run (pc' := 1) (L' := [.ref 1000, .int x1]) (S' := [.int x1]) 1 rfl ?_
  refine ge_lt0 rfl (fun h_1 => ?_) (fun h_2 => ?_)
  · exact ge_throw rfl (by decide) rfl rfl (And.intro rfl trivial)
  · refine ge_run (pc' := 4) (L' := [.ref 1000, .int x1]) (S' := [.ref 1000, .int x1]) 2 rfl ?_
    refine ge_getR (b := 1001) rfl (t1000 s) rfl (r1000_0 s) (Nat.le_of_ble_eq_true rfl) ?_
    refine ge_getI rfl (sT0 s sea1001) rfl ?_
    refine ge_lt rfl (fun h_3 => ?_) (fun h_4 => ?_)
    · exact ge_retv rfl rfl (And.intro rfl trivial)
    · exact ge_throw rfl (by decide) rfl rfl (And.intro rfl trivial)
def f_Lc_share (i : MI) (x1 : Int32) : Option (Int32) :=
  (f_Se_moneyOfAll i 1001).bind (fun v_1 => if v_1 = 0 then (some ((0 : Int32))) else (some (((x1 * (100 : Int32)) / v_1))))
set_option maxHeartbeats 4000000 in
theorem c_Lc_share {n u : Nat} {t : MT} {i : MI} {r : MR} (s : Sh n t r) (x1 : Int32) : Cn 2 187 [.ref 1000, .int x1] (n, u, t, i, r) (f_Lc_share i x1) (F_i0 n u t i r) PT := by
  refine cn_of (Y := K_Lc_share) (L0 := [.ref 1000, .int x1, uV]) rfl rfl rfl ?_
  intro d hd
  unfold f_Lc_share
  refine ge_run (pc' := 1) (L' := [.ref 1000, .int x1, uV]) (S' := [.ref 1000]) 1 rfl ?_
  refine ge_getR (b := 1001) rfl (t1000 s) rfl (r1000_0 s) (Nat.le_of_ble_eq_true rfl) ?_
  refine ge_cv rfl rfl rfl (sT0 s sea1001) rfl rfl rfl (D := 1) (Nat.le_trans (by decide) hd) (c_Se_moneyOfAll (n := n) (u := u) (t := t) (i := i) (r := r) s 1001 sea1001) ?_
  rintro v_1 -
  dsimp only [bkE, F_i0]
  refine ge_run (pc' := 5) (L' := [.ref 1000, .int x1, .int v_1]) (S' := [.int v_1]) 2 rfl ?_
  refine ge_ne0 rfl (fun h_2 => ?_) (fun h_3 => ?_)
  · refine ge_run (pc' := 13) (L' := [.ref 1000, .int x1, .int v_1]) (S' := [.int (0 : Int32)]) 2 rfl ?_
    exact ge_ret rfl rfl (And.intro rfl trivial)
  · refine ge_run (pc' := 12) (L' := [.ref 1000, .int x1, .int v_1]) (S' := [.int v_1, .int (x1 * (100 : Int32))]) 4 rfl ?_
    refine ge_div rfl h_3 ?_
    exact ge_ret rfl rfl (And.intro rfl trivial)
def f_Lc_buyer (t : MT) (r : MR) (i : MI) (x1 : Int32) (x2 : Int32) : Option ((Int32 ⊕ Nat) × MI) :=
  (f_Lc_needBuyer i x1).bind (fun | .inl () => grd x1 5 (sw x2 0 [(some (.inl (i (1001 + 16 + (ix x1)) 0), i)), (some (.inl (i (1001 + 16 + (ix x1)) 1), i)), (some (.inl (i (1001 + 16 + (ix x1)) 2), i)), (some (.inl (i (1001 + 16 + (ix x1)) 3), i)), ((f_Se_mayBuy t r i 1001 x1).bind (fun (v_9, i_10) => (f_Se_freshestOf i_10 1001 v_9).bind (fun v_11 => some (.inl v_11, i_10)))), ((f_Lc_share i (i (1001 + 16 + (ix x1)) 1)).bind (fun v_13 => some (.inl v_13, i)))] ((some (.inr 24, i)))) | .inr c_1 => some (.inr c_1, i))
set_option maxHeartbeats 4000000 in
theorem c_Lc_buyer {n u : Nat} {t : MT} {i : MI} {r : MR} (s : Sh n t r) (x1 : Int32) (x2 : Int32) : Cn 5 129 [.ref 1000, .int x1, .int x2] (n, u, t, i, r) (f_Lc_buyer t r i x1 x2) (F_ti1 n u t r) PT := by
  refine cn_of (Y := K_Lc_buyer) (L0 := [.ref 1000, .int x1, .int x2, uV]) rfl rfl rfl ?_
  intro d hd
  unfold f_Lc_buyer
  refine ge_run (pc' := 2) (L' := [.ref 1000, .int x1, .int x2, uV]) (S' := [.int x1, .ref 1000]) 2 rfl ?_
  refine ge_cv rfl rfl rfl (t1000 s) rfl rfl rfl (D := 1) (Nat.le_trans (by decide) hd) (c_Lc_needBuyer (n := n) (u := u) (t := t) (i := i) (r := r) s x1) ?_
  rintro (⟨⟩ | c_1) -
  · dsimp only [bkE, F_tv0]
    refine ge_run (pc' := 4) (L' := [.ref 1000, .int x1, .int x2, uV]) (S' := [.ref 1000]) 1 rfl ?_
    refine ge_getR (b := 1001) rfl (t1000 s) rfl (r1000_0 s) (Nat.le_of_ble_eq_true rfl) ?_
    refine ge_getR (b := (1001 + 15)) rfl (sT0 s sea1001) rfl (sR3 s sea1001) (sge sea1001) ?_
    refine ge_run (pc' := 7) (L' := [.ref 1000, .int x1, .int x2, uV]) (S' := [.int x1, .ref (1001 + 15)]) 1 rfl ?_
    refine ge_grd (fun g_2 g_3 => ?_)
    refine ge_aald (jn := (ix x1)) (b := (1001 + 16 + (ix x1))) rfl (sT15 s sea1001) (Or.inl rfl) ⟨g_2, rfl⟩ g_3 (sRr_buyer s sea1001 g_3) (sge2 sea1001) ?_
    refine ge_run (pc' := 10) (L' := [.ref 1000, .int x1, .int x2, .ref (1001 + 16 + (ix x1))]) (S' := [.int x2]) 2 rfl ?_
    refine ge_sw rfl rfl (And.intro ?_ (And.intro ?_ (And.intro ?_ (And.intro ?_ (And.intro ?_ (And.intro ?_ trivial)))))) ?_
    · refine ge_run (pc' := 13) (L' := [.ref 1000, .int x1, .int x2, .ref (1001 + 16 + (ix x1))]) (S' := [.int (0 : Int32), .ref (1001 + 16 + (ix x1))]) 2 rfl ?_
      refine ge_iald (jn := 0) rfl (sRow_buyer s sea1001 g_3) lk0 (by decide) ?_
      exact ge_ret rfl rfl (And.intro rfl trivial)
    · refine ge_run (pc' := 17) (L' := [.ref 1000, .int x1, .int x2, .ref (1001 + 16 + (ix x1))]) (S' := [.int (1 : Int32), .ref (1001 + 16 + (ix x1))]) 2 rfl ?_
      refine ge_iald (jn := 1) rfl (sRow_buyer s sea1001 g_3) lk1 (by decide) ?_
      exact ge_ret rfl rfl (And.intro rfl trivial)
    · refine ge_run (pc' := 21) (L' := [.ref 1000, .int x1, .int x2, .ref (1001 + 16 + (ix x1))]) (S' := [.int (2 : Int32), .ref (1001 + 16 + (ix x1))]) 2 rfl ?_
      refine ge_iald (jn := 2) rfl (sRow_buyer s sea1001 g_3) lk2 (by decide) ?_
      exact ge_ret rfl rfl (And.intro rfl trivial)
    · refine ge_run (pc' := 25) (L' := [.ref 1000, .int x1, .int x2, .ref (1001 + 16 + (ix x1))]) (S' := [.int (3 : Int32), .ref (1001 + 16 + (ix x1))]) 2 rfl ?_
      refine ge_iald (jn := 3) rfl (sRow_buyer s sea1001 g_3) lk3 (by decide) ?_
      exact ge_ret rfl rfl (And.intro rfl trivial)
    · refine ge_run (pc' := 28) (L' := [.ref 1000, .int x1, .int x2, .ref (1001 + 16 + (ix x1))]) (S' := [.ref 1000]) 1 rfl ?_
      refine ge_getR (b := 1001) rfl (t1000 s) rfl (r1000_0 s) (Nat.le_of_ble_eq_true rfl) ?_
      refine ge_run (pc' := 30) (L' := [.ref 1000, .int x1, .int x2, .ref (1001 + 16 + (ix x1))]) (S' := [.ref 1000, .ref 1001]) 1 rfl ?_
      refine ge_getR (b := 1001) rfl (t1000 s) rfl (r1000_0 s) (Nat.le_of_ble_eq_true rfl) ?_
      refine ge_run (pc' := 32) (L' := [.ref 1000, .int x1, .int x2, .ref (1001 + 16 + (ix x1))]) (S' := [.int x1, .ref 1001, .ref 1001]) 1 rfl ?_
      refine ge_cv rfl rfl rfl (sT0 s sea1001) rfl rfl rfl (D := 4) (Nat.le_trans (by decide) hd) (c_Se_mayBuy (n := n) (u := u) (t := t) (i := i) (r := r) s 1001 sea1001 x1) ?_
      rintro ⟨v_9, i_10⟩ -
      dsimp only [bkE, F_i1]
      refine ge_cv rfl rfl rfl (sT0 s sea1001) rfl rfl rfl (D := 1) (Nat.le_trans (by decide) hd) (c_Se_freshestOf (n := n) (u := u) (t := t) (i := i_10) (r := r) s 1001 sea1001 v_9) ?_
      rintro v_11 -
      dsimp only [bkE, F_i0]
      exact ge_ret rfl rfl (And.intro rfl trivial)
    · refine ge_run (pc' := 38) (L' := [.ref 1000, .int x1, .int x2, .ref (1001 + 16 + (ix x1))]) (S' := [.int (1 : Int32), .ref (1001 + 16 + (ix x1)), .ref 1000]) 3 rfl ?_
      refine ge_iald (jn := 1) rfl (sRow_buyer s sea1001 g_3) lk1 (by decide) ?_
      refine ge_cv rfl rfl rfl (t1000 s) rfl rfl rfl (D := 2) (Nat.le_trans (by decide) hd) (c_Lc_share (n := n) (u := u) (t := t) (i := i) (r := r) s (i (1001 + 16 + (ix x1)) 1)) ?_
      rintro v_13 -
      dsimp only [bkE, F_i0]
      exact ge_ret rfl rfl (And.intro rfl trivial)
    · exact ge_throw rfl (by decide) rfl rfl (And.intro rfl trivial)
  · exact ge_leaf (And.intro rfl trivial)
def f_Lc_dead (i : MI) (x1 : Int32) (x2 : Int32) : Option ((Int32 ⊕ Nat)) :=
  if x1 < 0 then (some (.inr 22)) else (if x1 < (i 1001 10) then (if (x2).toInt = 0 then (grd x1 6 (some (.inl (i (1001 + 22 + (ix x1)) 0)))) else if (x2).toInt = 1 then (grd x1 6 (some (.inl (i (1001 + 22 + (ix x1)) 1)))) else (some (.inr 24))) else (some (.inr 22)))
set_option maxHeartbeats 4000000 in
theorem c_Lc_dead {n u : Nat} {t : MT} {i : MI} {r : MR} (s : Sh n t r) (x1 : Int32) (x2 : Int32) : Cn 1 130 [.ref 1000, .int x1, .int x2] (n, u, t, i, r) (f_Lc_dead i x1 x2) (F_ti0 n u t i r) PT := by
  refine cn_of (Y := K_Lc_dead) (L0 := [.ref 1000, .int x1, .int x2]) rfl rfl rfl ?_
  intro d hd
  unfold f_Lc_dead
  refine ge_run (pc' := 1) (L' := [.ref 1000, .int x1, .int x2]) (S' := [.int x1]) 1 rfl ?_
  refine ge_lt0 rfl (fun h_1 => ?_) (fun h_2 => ?_)
  · exact ge_throw rfl (by decide) rfl rfl (And.intro rfl trivial)
  · refine ge_run (pc' := 4) (L' := [.ref 1000, .int x1, .int x2]) (S' := [.ref 1000, .int x1]) 2 rfl ?_
    refine ge_getR (b := 1001) rfl (t1000 s) rfl (r1000_0 s) (Nat.le_of_ble_eq_true rfl) ?_
    refine ge_getI rfl (sT0 s sea1001) rfl ?_
    refine ge_lt rfl (fun h_3 => ?_) (fun h_11 => ?_)
    · refine ge_run (pc' := 10) (L' := [.ref 1000, .int x1, .int x2]) (S' := [.int x2]) 1 rfl ?_
      refine ge_ls2 rfl ?_ ?_ ?_
      · refine ge_run (pc' := 12) (L' := [.ref 1000, .int x1, .int x2]) (S' := [.ref 1000]) 1 rfl ?_
        refine ge_getR (b := 1001) rfl (t1000 s) rfl (r1000_0 s) (Nat.le_of_ble_eq_true rfl) ?_
        refine ge_getR (b := (1001 + 21)) rfl (sT0 s sea1001) rfl (sR4 s sea1001) (sge sea1001) ?_
        refine ge_run (pc' := 15) (L' := [.ref 1000, .int x1, .int x2]) (S' := [.int x1, .ref (1001 + 21)]) 1 rfl ?_
        refine ge_grd (fun g_5 g_6 => ?_)
        refine ge_aald (jn := (ix x1)) (b := (1001 + 22 + (ix x1))) rfl (sT21 s sea1001) (Or.inl rfl) ⟨g_5, rfl⟩ g_6 (sRr_dead s sea1001 g_6) (sge2 sea1001) ?_
        refine ge_run (pc' := 17) (L' := [.ref 1000, .int x1, .int x2]) (S' := [.int (0 : Int32), .ref (1001 + 22 + (ix x1))]) 1 rfl ?_
        refine ge_iald (jn := 0) rfl (sRow_dead s sea1001 g_6) lk0 (by decide) ?_
        exact ge_ret rfl rfl (And.intro rfl trivial)
      · refine ge_run (pc' := 20) (L' := [.ref 1000, .int x1, .int x2]) (S' := [.ref 1000]) 1 rfl ?_
        refine ge_getR (b := 1001) rfl (t1000 s) rfl (r1000_0 s) (Nat.le_of_ble_eq_true rfl) ?_
        refine ge_getR (b := (1001 + 21)) rfl (sT0 s sea1001) rfl (sR4 s sea1001) (sge sea1001) ?_
        refine ge_run (pc' := 23) (L' := [.ref 1000, .int x1, .int x2]) (S' := [.int x1, .ref (1001 + 21)]) 1 rfl ?_
        refine ge_grd (fun g_8 g_9 => ?_)
        refine ge_aald (jn := (ix x1)) (b := (1001 + 22 + (ix x1))) rfl (sT21 s sea1001) (Or.inl rfl) ⟨g_8, rfl⟩ g_9 (sRr_dead s sea1001 g_9) (sge2 sea1001) ?_
        refine ge_run (pc' := 25) (L' := [.ref 1000, .int x1, .int x2]) (S' := [.int (1 : Int32), .ref (1001 + 22 + (ix x1))]) 1 rfl ?_
        refine ge_iald (jn := 1) rfl (sRow_dead s sea1001 g_9) lk1 (by decide) ?_
        exact ge_ret rfl rfl (And.intro rfl trivial)
      · exact ge_throw rfl (by decide) rfl rfl (And.intro rfl trivial)
    · exact ge_throw rfl (by decide) rfl rfl (And.intro rfl trivial)
def f_Lc_needWithin (x0 : Int32) (x1 : Int32) (x2 : Int32) : Option ((Unit ⊕ Nat)) :=
  if x0 < x1 then (some (.inr 20)) else (if x2 < x0 then (some (.inr 20)) else (some (.inl ())))
set_option maxHeartbeats 4000000 in
theorem c_Lc_needWithin {n u : Nat} {t : MT} {i : MI} {r : MR} (s : Sh n t r) (x0 : Int32) (x1 : Int32) (x2 : Int32) : Cn 1 180 [.int x0, .int x1, .int x2] (n, u, t, i, r) (f_Lc_needWithin  x0 x1 x2) (F_tv0 n u t i r) PT := by
  refine cn_of (Y := K_Lc_needWithin) (L0 := [.int x0, .int x1, .int x2]) rfl rfl rfl ?_
  intro d hd
  unfold f_Lc_needWithin
  refine ge_run (pc' := 2) (L' := [.int x0, .int x1, .int x2]) (S' := [.int x1, .int x0]) 2 rfl ?_
  refine ge_lt rfl (fun h_1 => ?_) (fun h_2 => ?_)
  · exact ge_throw rfl (by decide) rfl rfl (And.intro rfl trivial)
  · refine ge_run (pc' := 5) (L' := [.int x0, .int x1, .int x2]) (S' := [.int x2, .int x0]) 2 rfl ?_
    refine ge_le rfl (fun h_3 => ?_) (fun h_4 => ?_)
    · exact ge_throw rfl (by decide) rfl rfl (And.intro rfl trivial)
    · exact ge_retv rfl rfl (And.intro rfl trivial)
def f_Lc_days (t : MT) (r : MR) (i : MI) (x1 : Int32) : Option ((Int32 ⊕ Nat) × MI × MR) :=
  (f_Lc_needWithin x1 (1 : Int32) (60 : Int32)).bind (fun | .inl () => (f_Pa_remember r i 1001).bind (fun (i_2, r_3) => (itr (σ := Int32 × Int32 × MI) (ρ := Int32 × MI) (fun (x2_5, x3_6, i_7) => if x3_6 < x1 then ((f_Se_passDay t r_3 i_7 1001 (1 : Int32)).bind (fun (v_12, i_13) => some (.inl ((x2_5 + v_12), (x3_6 + (1 : Int32)), i_13)))) else (some (.inr (x2_5, i_7)))) 1000000 ((0 : Int32), (0 : Int32), i_2)).bind (fun (x2_8, i_9) => some (.inl x2_8, i_9, r_3))) | .inr c_1 => some (.inr c_1, i, r))
set_option maxHeartbeats 4000000 in
theorem c_Lc_days {n u : Nat} {t : MT} {i : MI} {r : MR} (s : Sh n t r) (x1 : Int32) : Cn 7 131 [.ref 1000, .int x1] (n, u, t, i, r) (f_Lc_days t r i x1) (F_ti2 n u t) (PS2 n t) := by
  refine cn_of (Y := K_Lc_days) (L0 := [.ref 1000, .int x1, uV, uV]) rfl rfl rfl ?_
  intro d hd
  unfold f_Lc_days
  refine ge_run (pc' := 3) (L' := [.ref 1000, .int x1, uV, uV]) (S' := [.int (60 : Int32), .int (1 : Int32), .int x1]) 3 rfl ?_
  refine ge_cs rfl rfl rfl rfl rfl rfl (D := 1) (Nat.le_trans (by decide) hd) (c_Lc_needWithin (n := n) (u := u) (t := t) (i := i) (r := r) s x1 (1 : Int32) (60 : Int32)) ?_
  rintro (⟨⟩ | c_1) -
  · dsimp only [bkE, F_tv0]
    refine ge_run (pc' := 5) (L' := [.ref 1000, .int x1, uV, uV]) (S' := [.ref 1000]) 1 rfl ?_
    refine ge_getR (b := 1149) rfl (t1000 s) rfl (r1000_5 s) (Nat.le_of_ble_eq_true rfl) ?_
    refine ge_run (pc' := 7) (L' := [.ref 1000, .int x1, uV, uV]) (S' := [.ref 1000, .ref 1149]) 1 rfl ?_
    refine ge_getR (b := 1001) rfl (t1000 s) rfl (r1000_0 s) (Nat.le_of_ble_eq_true rfl) ?_
    refine ge_cv rfl rfl rfl (t1149 s) rfl rfl rfl (D := 4) (Nat.le_trans (by decide) hd) (c_Pa_remember (n := n) (u := u) (t := t) (i := i) (r := r) s 1001 sea1001) ?_
    rintro ⟨i_2, r_3⟩ s_4
    dsimp only [bkE, F_v2]
    refine ge_run (pc' := 13) (L' := [.ref 1000, .int x1, .int (0 : Int32), .int (0 : Int32)]) (S' := []) 4 rfl ?_
    refine ge_bind (K1 := fun (q : Int32 × MI) e => ∃ w_10 : Value, e = .inl (25, [.ref 1000, .int x1, .int q.1, w_10], [], (n, u, t, q.2, r_3))) (ge_itr (C := fun (q : Int32 × Int32 × MI) e => e = .inl (13, [.ref 1000, .int x1, .int q.1, .int q.2.1], [], (n, u, t, q.2.2, r_3))) ?_ _ _ _ rfl) ?_
    · rintro ⟨x2_5, x3_6, i_7⟩ _ rfl
      try dsimp only
      refine ge_run (pc' := 15) (L' := [.ref 1000, .int x1, .int x2_5, .int x3_6]) (S' := [.int x1, .int x3_6]) 2 rfl ?_
      refine ge_ge rfl (fun h_11 => ?_) (fun h_14 => ?_)
      · refine ge_run (pc' := 18) (L' := [.ref 1000, .int x1, .int x2_5, .int x3_6]) (S' := [.ref 1000, .int x2_5]) 2 rfl ?_
        refine ge_getR (b := 1001) rfl (t1000 s_4) rfl (r1000_0 s_4) (Nat.le_of_ble_eq_true rfl) ?_
        refine ge_run (pc' := 20) (L' := [.ref 1000, .int x1, .int x2_5, .int x3_6]) (S' := [.int (1 : Int32), .ref 1001, .int x2_5]) 1 rfl ?_
        refine ge_cv rfl rfl rfl (sT0 s_4 sea1001) rfl rfl rfl (D := 6) (Nat.le_trans (by decide) hd) (c_Se_passDay (n := n) (u := u) (t := t) (i := i_7) (r := r_3) s_4 1001 sea1001 (1 : Int32)) ?_
        rintro ⟨v_12, i_13⟩ -
        dsimp only [bkE, F_i1]
        refine ge_run (pc' := 13) (L' := [.ref 1000, .int x1, .int (x2_5 + v_12), .int (x3_6 + (1 : Int32))]) (S' := []) 4 rfl ?_
        exact ge_leaf (K := kX _ _) rfl
      · exact ge_leaf (K := kX _ _) (Exists.intro _ rfl)
    · rintro ⟨x2_8, i_9⟩ _ ⟨w_10, rfl⟩
      try dsimp only
      refine ge_run (pc' := 26) (L' := [.ref 1000, .int x1, .int x2_8, w_10]) (S' := [.int x2_8]) 1 rfl ?_
      exact ge_ret rfl rfl (And.intro rfl s_4)
  · exact ge_leaf (And.intro rfl s)
def f_Lc_heads (r : MR) (i : MI) (x1 : Int32) (x2 : Int32) : Option ((Int32 ⊕ Nat) × MI × MR) :=
  (f_Lc_needBoat i x1).bind (fun | .inl () => (if x2 = (-1 : Int32) then (some (.inl ())) else ((f_Lc_needCell x2).bind (fun | .inl () => some (.inl ()) | .inr c_4 => some (.inr ((.inr c_4, i, r))))) : Option ((Unit) ⊕ ((Int32 ⊕ Nat) × MI × MR))).bind (fun | .inl _ => (f_Pa_remember r i 1001).bind (fun (i_5, r_6) => grd x1 3 (bnd (wr i_5 (1001 + 12 + (ix x1)) 1 x2) (fun i_10 => some (.inl (i_5 (1001 + 12 + (ix x1)) 1), i_10, r_6)))) | .inr y_11 => some y_11) | .inr c_1 => some (.inr c_1, i, r))
set_option maxHeartbeats 4000000 in
theorem c_Lc_heads {n u : Nat} {t : MT} {i : MI} {r : MR} (s : Sh n t r) (x1 : Int32) (x2 : Int32) : Cn 5 132 [.ref 1000, .int x1, .int x2] (n, u, t, i, r) (f_Lc_heads r i x1 x2) (F_ti2 n u t) (PS2 n t) := by
  refine cn_of (Y := K_Lc_heads) (L0 := [.ref 1000, .int x1, .int x2, uV]) rfl rfl rfl ?_
  intro d hd
  unfold f_Lc_heads
  refine ge_run (pc' := 2) (L' := [.ref 1000, .int x1, .int x2, uV]) (S' := [.int x1, .ref 1000]) 2 rfl ?_
  refine ge_cv rfl rfl rfl (t1000 s) rfl rfl rfl (D := 1) (Nat.le_trans (by decide) hd) (c_Lc_needBoat (n := n) (u := u) (t := t) (i := i) (r := r) s x1) ?_
  rintro (⟨⟩ | c_1) -
  · dsimp only [bkE, F_tv0]
    refine ge_run (pc' := 5) (L' := [.ref 1000, .int x1, .int x2, uV]) (S' := [.int (-1 : Int32), .int x2]) 2 rfl ?_
    refine ge_bind (K1 := kX (fun (q : Unit) e => e = .inl (8, [.ref 1000, .int x1, .int x2, uV], [], (n, u, t, i, r))) (kR (F_ti2 n u t) (PS2 n t))) ?_ ?_
    · refine ge_eq rfl (fun h_2 => ?_) (fun h_3 => ?_)
      · exact ge_leaf rfl
      · refine ge_run (pc' := 7) (L' := [.ref 1000, .int x1, .int x2, uV]) (S' := [.int x2]) 1 rfl ?_
        refine ge_cs rfl rfl rfl rfl rfl rfl (D := 1) (Nat.le_trans (by decide) hd) (c_Lc_needCell (n := n) (u := u) (t := t) (i := i) (r := r) s x2) ?_
        rintro (⟨⟩ | c_4) -
        · dsimp only [bkE, F_tv0]
          exact ge_leaf rfl
        · exact ge_leaf (And.intro rfl s)
    · rintro (_ | y_11) e he
      · obtain rfl := he
        try dsimp only
        refine ge_run (pc' := 9) (L' := [.ref 1000, .int x1, .int x2, uV]) (S' := [.ref 1000]) 1 rfl ?_
        refine ge_getR (b := 1149) rfl (t1000 s) rfl (r1000_5 s) (Nat.le_of_ble_eq_true rfl) ?_
        refine ge_run (pc' := 11) (L' := [.ref 1000, .int x1, .int x2, uV]) (S' := [.ref 1000, .ref 1149]) 1 rfl ?_
        refine ge_getR (b := 1001) rfl (t1000 s) rfl (r1000_0 s) (Nat.le_of_ble_eq_true rfl) ?_
        refine ge_cv rfl rfl rfl (t1149 s) rfl rfl rfl (D := 4) (Nat.le_trans (by decide) hd) (c_Pa_remember (n := n) (u := u) (t := t) (i := i) (r := r) s 1001 sea1001) ?_
        rintro ⟨i_5, r_6⟩ s_7
        dsimp only [bkE, F_v2]
        refine ge_run (pc' := 14) (L' := [.ref 1000, .int x1, .int x2, uV]) (S' := [.ref 1000]) 1 rfl ?_
        refine ge_getR (b := 1001) rfl (t1000 s_7) rfl (r1000_0 s_7) (Nat.le_of_ble_eq_true rfl) ?_
        refine ge_getR (b := (1001 + 11)) rfl (sT0 s_7 sea1001) rfl (sR2 s_7 sea1001) (sge sea1001) ?_
        refine ge_run (pc' := 17) (L' := [.ref 1000, .int x1, .int x2, uV]) (S' := [.int x1, .ref (1001 + 11)]) 1 rfl ?_
        refine ge_grd (fun g_8 g_9 => ?_)
        refine ge_aald (jn := (ix x1)) (b := (1001 + 12 + (ix x1))) rfl (sT11 s_7 sea1001) (Or.inl rfl) ⟨g_8, rfl⟩ g_9 (sRr_boat s_7 sea1001 g_9) (sge2 sea1001) ?_
        refine ge_run (pc' := 19) (L' := [.ref 1000, .int x1, .int x2, uV]) (S' := [.int (1 : Int32), .ref (1001 + 12 + (ix x1))]) 1 rfl ?_
        refine ge_iald (jn := 1) rfl (sRow_boat s_7 sea1001 g_9) lk1 (by decide) ?_
        refine ge_run (pc' := 22) (L' := [.ref 1000, .int x1, .int x2, .int (i_5 (1001 + 12 + (ix x1)) 1)]) (S' := [.ref 1000]) 2 rfl ?_
        refine ge_getR (b := 1001) rfl (t1000 s_7) rfl (r1000_0 s_7) (Nat.le_of_ble_eq_true rfl) ?_
        refine ge_getR (b := (1001 + 11)) rfl (sT0 s_7 sea1001) rfl (sR2 s_7 sea1001) (sge sea1001) ?_
        refine ge_run (pc' := 25) (L' := [.ref 1000, .int x1, .int x2, .int (i_5 (1001 + 12 + (ix x1)) 1)]) (S' := [.int x1, .ref (1001 + 11)]) 1 rfl ?_
        refine ge_aald (jn := (ix x1)) (b := (1001 + 12 + (ix x1))) rfl (sT11 s_7 sea1001) (Or.inl rfl) ⟨g_8, rfl⟩ g_9 (sRr_boat s_7 sea1001 g_9) (sge2 sea1001) ?_
        refine ge_run (pc' := 28) (L' := [.ref 1000, .int x1, .int x2, .int (i_5 (1001 + 12 + (ix x1)) 1)]) (S' := [.int x2, .int (1 : Int32), .ref (1001 + 12 + (ix x1))]) 2 rfl ?_
        refine ge_iast (jn := 1) rfl (sRow_boat s_7 sea1001 g_9) (sge2 sea1001) lk1 (by decide) (fun i_10 => ?_)
        refine ge_run (pc' := 30) (L' := [.ref 1000, .int x1, .int x2, .int (i_5 (1001 + 12 + (ix x1)) 1)]) (S' := [.int (i_5 (1001 + 12 + (ix x1)) 1)]) 1 rfl ?_
        exact ge_ret rfl rfl (And.intro rfl s_7)
      · exact ge_leaf he
  · exact ge_leaf (And.intro rfl s)
def f_Lc_ice (r : MR) (i : MI) (x1 : Int32) : Option ((Int32 ⊕ Nat) × MI × MR) :=
  (f_Lc_needWithin x1 (1 : Int32) (999 : Int32)).bind (fun | .inl () => (f_Pa_remember r i 1001).bind (fun (i_2, r_3) => (f_J_min (999 : Int32) ((i_2 1001 12) + x1)).bind (fun v_5 => bnd (wr i_2 1001 12 v_5) (fun i_6 => some (.inl (i_6 1001 12), i_6, r_3)))) | .inr c_1 => some (.inr c_1, i, r))
set_option maxHeartbeats 4000000 in
theorem c_Lc_ice {n u : Nat} {t : MT} {i : MI} {r : MR} (s : Sh n t r) (x1 : Int32) : Cn 5 133 [.ref 1000, .int x1] (n, u, t, i, r) (f_Lc_ice r i x1) (F_ti2 n u t) (PS2 n t) := by
  refine cn_of (Y := K_Lc_ice) (L0 := [.ref 1000, .int x1]) rfl rfl rfl ?_
  intro d hd
  unfold f_Lc_ice
  refine ge_run (pc' := 3) (L' := [.ref 1000, .int x1]) (S' := [.int (999 : Int32), .int (1 : Int32), .int x1]) 3 rfl ?_
  refine ge_cs rfl rfl rfl rfl rfl rfl (D := 1) (Nat.le_trans (by decide) hd) (c_Lc_needWithin (n := n) (u := u) (t := t) (i := i) (r := r) s x1 (1 : Int32) (999 : Int32)) ?_
  rintro (⟨⟩ | c_1) -
  · dsimp only [bkE, F_tv0]
    refine ge_run (pc' := 5) (L' := [.ref 1000, .int x1]) (S' := [.ref 1000]) 1 rfl ?_
    refine ge_getR (b := 1149) rfl (t1000 s) rfl (r1000_5 s) (Nat.le_of_ble_eq_true rfl) ?_
    refine ge_run (pc' := 7) (L' := [.ref 1000, .int x1]) (S' := [.ref 1000, .ref 1149]) 1 rfl ?_
    refine ge_getR (b := 1001) rfl (t1000 s) rfl (r1000_0 s) (Nat.le_of_ble_eq_true rfl) ?_
    refine ge_cv rfl rfl rfl (t1149 s) rfl rfl rfl (D := 4) (Nat.le_trans (by decide) hd) (c_Pa_remember (n := n) (u := u) (t := t) (i := i) (r := r) s 1001 sea1001) ?_
    rintro ⟨i_2, r_3⟩ s_4
    dsimp only [bkE, F_v2]
    refine ge_run (pc' := 10) (L' := [.ref 1000, .int x1]) (S' := [.ref 1000]) 1 rfl ?_
    refine ge_getR (b := 1001) rfl (t1000 s_4) rfl (r1000_0 s_4) (Nat.le_of_ble_eq_true rfl) ?_
    refine ge_run (pc' := 13) (L' := [.ref 1000, .int x1]) (S' := [.ref 1000, .int (999 : Int32), .ref 1001]) 2 rfl ?_
    refine ge_getR (b := 1001) rfl (t1000 s_4) rfl (r1000_0 s_4) (Nat.le_of_ble_eq_true rfl) ?_
    refine ge_getI rfl (sT0 s_4 sea1001) rfl ?_
    refine ge_run (pc' := 17) (L' := [.ref 1000, .int x1]) (S' := [.int ((i_2 1001 12) + x1), .int (999 : Int32), .ref 1001]) 2 rfl ?_
    refine ge_cs rfl rfl rfl rfl rfl rfl (D := 1) (Nat.le_trans (by decide) hd) (c_J_min (n := n) (u := u) (t := t) (i := i_2) (r := r_3) s_4 (999 : Int32) ((i_2 1001 12) + x1)) ?_
    rintro v_5 -
    dsimp only [bkE, F_i0]
    refine ge_putI rfl (sT0 s_4 sea1001) (sge0 sea1001) rfl (fun i_6 => ?_)
    refine ge_run (pc' := 20) (L' := [.ref 1000, .int x1]) (S' := [.ref 1000]) 1 rfl ?_
    refine ge_getR (b := 1001) rfl (t1000 s_4) rfl (r1000_0 s_4) (Nat.le_of_ble_eq_true rfl) ?_
    refine ge_getI rfl (sT0 s_4 sea1001) rfl ?_
    exact ge_ret rfl rfl (And.intro rfl s_4)
  · exact ge_leaf (And.intro rfl s)
def f_Lc_needOnSlab (i : MI) (x1 : Int32) : Option ((Unit ⊕ Nat)) :=
  grd x1 8 (if (i (1001 + 3 + (ix x1)) 3) = (2 : Int32) then (some (.inl ())) else (some (.inr 21)))
set_option maxHeartbeats 4000000 in
theorem c_Lc_needOnSlab {n u : Nat} {t : MT} {i : MI} {r : MR} (s : Sh n t r) (x1 : Int32) : Cn 1 181 [.ref 1000, .int x1] (n, u, t, i, r) (f_Lc_needOnSlab i x1) (F_tv0 n u t i r) PT := by
  refine cn_of (Y := K_Lc_needOnSlab) (L0 := [.ref 1000, .int x1]) rfl rfl rfl ?_
  intro d hd
  unfold f_Lc_needOnSlab
  refine ge_run (pc' := 1) (L' := [.ref 1000, .int x1]) (S' := [.ref 1000]) 1 rfl ?_
  refine ge_getR (b := 1001) rfl (t1000 s) rfl (r1000_0 s) (Nat.le_of_ble_eq_true rfl) ?_
  refine ge_getR (b := (1001 + 2)) rfl (sT0 s sea1001) rfl (sR1 s sea1001) (sge sea1001) ?_
  refine ge_run (pc' := 4) (L' := [.ref 1000, .int x1]) (S' := [.int x1, .ref (1001 + 2)]) 1 rfl ?_
  refine ge_grd (fun g_1 g_2 => ?_)
  refine ge_aald (jn := (ix x1)) (b := (1001 + 3 + (ix x1))) rfl (sT2 s sea1001) (Or.inl rfl) ⟨g_1, rfl⟩ g_2 (sRr_fish s sea1001 g_2) (sge2 sea1001) ?_
  refine ge_run (pc' := 6) (L' := [.ref 1000, .int x1]) (S' := [.int (3 : Int32), .ref (1001 + 3 + (ix x1))]) 1 rfl ?_
  refine ge_iald (jn := 3) rfl (sRow_fish s sea1001 g_2) lk3 (by decide) ?_
  refine ge_run (pc' := 8) (L' := [.ref 1000, .int x1]) (S' := [.int (2 : Int32), .int (i (1001 + 3 + (ix x1)) 3)]) 1 rfl ?_
  refine ge_eq rfl (fun h_3 => ?_) (fun h_4 => ?_)
  · exact ge_retv rfl rfl (And.intro rfl trivial)
  · exact ge_throw rfl (by decide) rfl rfl (And.intro rfl trivial)
def f_Lc_sponge (r : MR) (i : MI) (x1 : Int32) (x2 : Int32) : Option ((Int32 ⊕ Nat) × MI × MR) :=
  (f_Lc_needFish i x1).bind (fun | .inl () => (f_Lc_needWithin x2 (1 : Int32) (99 : Int32)).bind (fun | .inl () => (f_Lc_needOnSlab i x1).bind (fun | .inl () => (f_Pa_remember r i 1001).bind (fun (i_4, r_5) => grd x1 8 ((f_J_min (99 : Int32) ((i_4 (1001 + 3 + (ix x1)) 2) + x2)).bind (fun v_9 => bnd (wr i_4 (1001 + 3 + (ix x1)) 2 v_9) (fun i_10 => some (.inl (i_10 (1001 + 3 + (ix x1)) 2), i_10, r_5))))) | .inr c_3 => some (.inr c_3, i, r)) | .inr c_2 => some (.inr c_2, i, r)) | .inr c_1 => some (.inr c_1, i, r))
set_option maxHeartbeats 4000000 in
theorem c_Lc_sponge {n u : Nat} {t : MT} {i : MI} {r : MR} (s : Sh n t r) (x1 : Int32) (x2 : Int32) : Cn 5 134 [.ref 1000, .int x1, .int x2] (n, u, t, i, r) (f_Lc_sponge r i x1 x2) (F_ti2 n u t) (PS2 n t) := by
  refine cn_of (Y := K_Lc_sponge) (L0 := [.ref 1000, .int x1, .int x2, uV]) rfl rfl rfl ?_
  intro d hd
  unfold f_Lc_sponge
  refine ge_run (pc' := 2) (L' := [.ref 1000, .int x1, .int x2, uV]) (S' := [.int x1, .ref 1000]) 2 rfl ?_
  refine ge_cv rfl rfl rfl (t1000 s) rfl rfl rfl (D := 1) (Nat.le_trans (by decide) hd) (c_Lc_needFish (n := n) (u := u) (t := t) (i := i) (r := r) s x1) ?_
  rintro (⟨⟩ | c_1) -
  · dsimp only [bkE, F_tv0]
    refine ge_run (pc' := 6) (L' := [.ref 1000, .int x1, .int x2, uV]) (S' := [.int (99 : Int32), .int (1 : Int32), .int x2]) 3 rfl ?_
    refine ge_cs rfl rfl rfl rfl rfl rfl (D := 1) (Nat.le_trans (by decide) hd) (c_Lc_needWithin (n := n) (u := u) (t := t) (i := i) (r := r) s x2 (1 : Int32) (99 : Int32)) ?_
    rintro (⟨⟩ | c_2) -
    · dsimp only [bkE, F_tv0]
      refine ge_run (pc' := 9) (L' := [.ref 1000, .int x1, .int x2, uV]) (S' := [.int x1, .ref 1000]) 2 rfl ?_
      refine ge_cv rfl rfl rfl (t1000 s) rfl rfl rfl (D := 1) (Nat.le_trans (by decide) hd) (c_Lc_needOnSlab (n := n) (u := u) (t := t) (i := i) (r := r) s x1) ?_
      rintro (⟨⟩ | c_3) -
      · dsimp only [bkE, F_tv0]
        refine ge_run (pc' := 11) (L' := [.ref 1000, .int x1, .int x2, uV]) (S' := [.ref 1000]) 1 rfl ?_
        refine ge_getR (b := 1149) rfl (t1000 s) rfl (r1000_5 s) (Nat.le_of_ble_eq_true rfl) ?_
        refine ge_run (pc' := 13) (L' := [.ref 1000, .int x1, .int x2, uV]) (S' := [.ref 1000, .ref 1149]) 1 rfl ?_
        refine ge_getR (b := 1001) rfl (t1000 s) rfl (r1000_0 s) (Nat.le_of_ble_eq_true rfl) ?_
        refine ge_cv rfl rfl rfl (t1149 s) rfl rfl rfl (D := 4) (Nat.le_trans (by decide) hd) (c_Pa_remember (n := n) (u := u) (t := t) (i := i) (r := r) s 1001 sea1001) ?_
        rintro ⟨i_4, r_5⟩ s_6
        dsimp only [bkE, F_v2]
        refine ge_run (pc' := 16) (L' := [.ref 1000, .int x1, .int x2, uV]) (S' := [.ref 1000]) 1 rfl ?_
        refine ge_getR (b := 1001) rfl (t1000 s_6) rfl (r1000_0 s_6) (Nat.le_of_ble_eq_true rfl) ?_
        refine ge_getR (b := (1001 + 2)) rfl (sT0 s_6 sea1001) rfl (sR1 s_6 sea1001) (sge sea1001) ?_
        refine ge_run (pc' := 19) (L' := [.ref 1000, .int x1, .int x2, uV]) (S' := [.int x1, .ref (1001 + 2)]) 1 rfl ?_
        refine ge_grd (fun g_7 g_8 => ?_)
        refine ge_aald (jn := (ix x1)) (b := (1001 + 3 + (ix x1))) rfl (sT2 s_6 sea1001) (Or.inl rfl) ⟨g_7, rfl⟩ g_8 (sRr_fish s_6 sea1001 g_8) (sge2 sea1001) ?_
        refine ge_run (pc' := 26) (L' := [.ref 1000, .int x1, .int x2, .ref (1001 + 3 + (ix x1))]) (S' := [.int (2 : Int32), .ref (1001 + 3 + (ix x1)), .int (99 : Int32), .int (2 : Int32), .ref (1001 + 3 + (ix x1))]) 6 rfl ?_
        refine ge_iald (jn := 2) rfl (sRow_fish s_6 sea1001 g_8) lk2 (by decide) ?_
        refine ge_run (pc' := 29) (L' := [.ref 1000, .int x1, .int x2, .ref (1001 + 3 + (ix x1))]) (S' := [.int ((i_4 (1001 + 3 + (ix x1)) 2) + x2), .int (99 : Int32), .int (2 : Int32), .ref (1001 + 3 + (ix x1))]) 2 rfl ?_
        refine ge_cs rfl rfl rfl rfl rfl rfl (D := 1) (Nat.le_trans (by decide) hd) (c_J_min (n := n) (u := u) (t := t) (i := i_4) (r := r_5) s_6 (99 : Int32) ((i_4 (1001 + 3 + (ix x1)) 2) + x2)) ?_
        rintro v_9 -
        dsimp only [bkE, F_i0]
        refine ge_iast (jn := 2) rfl (sRow_fish s_6 sea1001 g_8) (sge2 sea1001) lk2 (by decide) (fun i_10 => ?_)
        refine ge_run (pc' := 33) (L' := [.ref 1000, .int x1, .int x2, .ref (1001 + 3 + (ix x1))]) (S' := [.int (2 : Int32), .ref (1001 + 3 + (ix x1))]) 2 rfl ?_
        refine ge_iald (jn := 2) rfl (sRow_fish s_6 sea1001 g_8) lk2 (by decide) ?_
        exact ge_ret rfl rfl (And.intro rfl s_6)
      · exact ge_leaf (And.intro rfl s)
    · exact ge_leaf (And.intro rfl s)
  · exact ge_leaf (And.intro rfl s)
def f_Lc_pay (r : MR) (i : MI) (x1 : Int32) (x2 : Int32) : Option ((Int32 ⊕ Nat) × MI × MR) :=
  (f_Lc_needBuyer i x1).bind (fun | .inl () => (f_Lc_needWithin x2 (1 : Int32) (999 : Int32)).bind (fun | .inl () => (f_Pa_remember r i 1001).bind (fun (i_3, r_4) => grd x1 5 ((f_J_min (999 : Int32) ((i_3 (1001 + 16 + (ix x1)) 1) + x2)).bind (fun v_8 => bnd (wr i_3 (1001 + 16 + (ix x1)) 1 v_8) (fun i_9 => some (.inl (i_9 (1001 + 16 + (ix x1)) 1), i_9, r_4))))) | .inr c_2 => some (.inr c_2, i, r)) | .inr c_1 => some (.inr c_1, i, r))
set_option maxHeartbeats 4000000 in
theorem c_Lc_pay {n u : Nat} {t : MT} {i : MI} {r : MR} (s : Sh n t r) (x1 : Int32) (x2 : Int32) : Cn 5 135 [.ref 1000, .int x1, .int x2] (n, u, t, i, r) (f_Lc_pay r i x1 x2) (F_ti2 n u t) (PS2 n t) := by
  refine cn_of (Y := K_Lc_pay) (L0 := [.ref 1000, .int x1, .int x2, uV]) rfl rfl rfl ?_
  intro d hd
  unfold f_Lc_pay
  refine ge_run (pc' := 2) (L' := [.ref 1000, .int x1, .int x2, uV]) (S' := [.int x1, .ref 1000]) 2 rfl ?_
  refine ge_cv rfl rfl rfl (t1000 s) rfl rfl rfl (D := 1) (Nat.le_trans (by decide) hd) (c_Lc_needBuyer (n := n) (u := u) (t := t) (i := i) (r := r) s x1) ?_
  rintro (⟨⟩ | c_1) -
  · dsimp only [bkE, F_tv0]
    refine ge_run (pc' := 6) (L' := [.ref 1000, .int x1, .int x2, uV]) (S' := [.int (999 : Int32), .int (1 : Int32), .int x2]) 3 rfl ?_
    refine ge_cs rfl rfl rfl rfl rfl rfl (D := 1) (Nat.le_trans (by decide) hd) (c_Lc_needWithin (n := n) (u := u) (t := t) (i := i) (r := r) s x2 (1 : Int32) (999 : Int32)) ?_
    rintro (⟨⟩ | c_2) -
    · dsimp only [bkE, F_tv0]
      refine ge_run (pc' := 8) (L' := [.ref 1000, .int x1, .int x2, uV]) (S' := [.ref 1000]) 1 rfl ?_
      refine ge_getR (b := 1149) rfl (t1000 s) rfl (r1000_5 s) (Nat.le_of_ble_eq_true rfl) ?_
      refine ge_run (pc' := 10) (L' := [.ref 1000, .int x1, .int x2, uV]) (S' := [.ref 1000, .ref 1149]) 1 rfl ?_
      refine ge_getR (b := 1001) rfl (t1000 s) rfl (r1000_0 s) (Nat.le_of_ble_eq_true rfl) ?_
      refine ge_cv rfl rfl rfl (t1149 s) rfl rfl rfl (D := 4) (Nat.le_trans (by decide) hd) (c_Pa_remember (n := n) (u := u) (t := t) (i := i) (r := r) s 1001 sea1001) ?_
      rintro ⟨i_3, r_4⟩ s_5
      dsimp only [bkE, F_v2]
      refine ge_run (pc' := 13) (L' := [.ref 1000, .int x1, .int x2, uV]) (S' := [.ref 1000]) 1 rfl ?_
      refine ge_getR (b := 1001) rfl (t1000 s_5) rfl (r1000_0 s_5) (Nat.le_of_ble_eq_true rfl) ?_
      refine ge_getR (b := (1001 + 15)) rfl (sT0 s_5 sea1001) rfl (sR3 s_5 sea1001) (sge sea1001) ?_
      refine ge_run (pc' := 16) (L' := [.ref 1000, .int x1, .int x2, uV]) (S' := [.int x1, .ref (1001 + 15)]) 1 rfl ?_
      refine ge_grd (fun g_6 g_7 => ?_)
      refine ge_aald (jn := (ix x1)) (b := (1001 + 16 + (ix x1))) rfl (sT15 s_5 sea1001) (Or.inl rfl) ⟨g_6, rfl⟩ g_7 (sRr_buyer s_5 sea1001 g_7) (sge2 sea1001) ?_
      refine ge_run (pc' := 23) (L' := [.ref 1000, .int x1, .int x2, .ref (1001 + 16 + (ix x1))]) (S' := [.int (1 : Int32), .ref (1001 + 16 + (ix x1)), .int (999 : Int32), .int (1 : Int32), .ref (1001 + 16 + (ix x1))]) 6 rfl ?_
      refine ge_iald (jn := 1) rfl (sRow_buyer s_5 sea1001 g_7) lk1 (by decide) ?_
      refine ge_run (pc' := 26) (L' := [.ref 1000, .int x1, .int x2, .ref (1001 + 16 + (ix x1))]) (S' := [.int ((i_3 (1001 + 16 + (ix x1)) 1) + x2), .int (999 : Int32), .int (1 : Int32), .ref (1001 + 16 + (ix x1))]) 2 rfl ?_
      refine ge_cs rfl rfl rfl rfl rfl rfl (D := 1) (Nat.le_trans (by decide) hd) (c_J_min (n := n) (u := u) (t := t) (i := i_3) (r := r_4) s_5 (999 : Int32) ((i_3 (1001 + 16 + (ix x1)) 1) + x2)) ?_
      rintro v_8 -
      dsimp only [bkE, F_i0]
      refine ge_iast (jn := 1) rfl (sRow_buyer s_5 sea1001 g_7) (sge2 sea1001) lk1 (by decide) (fun i_9 => ?_)
      refine ge_run (pc' := 30) (L' := [.ref 1000, .int x1, .int x2, .ref (1001 + 16 + (ix x1))]) (S' := [.int (1 : Int32), .ref (1001 + 16 + (ix x1))]) 2 rfl ?_
      refine ge_iald (jn := 1) rfl (sRow_buyer s_5 sea1001 g_7) lk1 (by decide) ?_
      exact ge_ret rfl rfl (And.intro rfl s_5)
    · exact ge_leaf (And.intro rfl s)
  · exact ge_leaf (And.intro rfl s)
def f_Lc_needKind (x0 : Int32) : Option ((Unit ⊕ Nat)) :=
  if x0 < 0 then (some (.inr 22)) else (if x0 < (4 : Int32) then (some (.inl ())) else (some (.inr 22)))
set_option maxHeartbeats 4000000 in
theorem c_Lc_needKind {n u : Nat} {t : MT} {i : MI} {r : MR} (s : Sh n t r) (x0 : Int32) : Cn 1 176 [.int x0] (n, u, t, i, r) (f_Lc_needKind  x0) (F_tv0 n u t i r) PT := by
  refine cn_of (Y := K_Lc_needKind) (L0 := [.int x0]) rfl rfl rfl ?_
  intro d hd
  unfold f_Lc_needKind
  refine ge_run (pc' := 1) (L' := [.int x0]) (S' := [.int x0]) 1 rfl ?_
  refine ge_lt0 rfl (fun h_1 => ?_) (fun h_2 => ?_)
  · exact ge_throw rfl (by decide) rfl rfl (And.intro rfl trivial)
  · refine ge_run (pc' := 4) (L' := [.int x0]) (S' := [.int (4 : Int32), .int x0]) 2 rfl ?_
    refine ge_lt rfl (fun h_3 => ?_) (fun h_4 => ?_)
    · exact ge_retv rfl rfl (And.intro rfl trivial)
    · exact ge_throw rfl (by decide) rfl rfl (And.intro rfl trivial)
def f_Lc_tell (r : MR) (i : MI) (x1 : Int32) (x2 : Int32) (x3 : Int32) : Option ((Int32 ⊕ Nat) × MI × MR) :=
  (f_Lc_needKind x1).bind (fun | .inl () => (f_Lc_needCell x2).bind (fun | .inl () => (f_Lc_needWithin x3 (1 : Int32) (9 : Int32)).bind (fun | .inl () => if (i 1001 7) < (8 : Int32) then ((f_Pa_remember r i 1001).bind (fun (i_5, r_6) => (f_Se_addFish i_5 1001 x1 x2 x3).bind (fun (v_8, i_9) => some (.inl v_8, i_9, r_6)))) else (some (.inr 21, i, r)) | .inr c_3 => some (.inr c_3, i, r)) | .inr c_2 => some (.inr c_2, i, r)) | .inr c_1 => some (.inr c_1, i, r))
set_option maxHeartbeats 4000000 in
theorem c_Lc_tell {n u : Nat} {t : MT} {i : MI} {r : MR} (s : Sh n t r) (x1 : Int32) (x2 : Int32) (x3 : Int32) : Cn 5 136 [.ref 1000, .int x1, .int x2, .int x3] (n, u, t, i, r) (f_Lc_tell r i x1 x2 x3) (F_ti2 n u t) (PS2 n t) := by
  refine cn_of (Y := K_Lc_tell) (L0 := [.ref 1000, .int x1, .int x2, .int x3]) rfl rfl rfl ?_
  intro d hd
  unfold f_Lc_tell
  refine ge_run (pc' := 1) (L' := [.ref 1000, .int x1, .int x2, .int x3]) (S' := [.int x1]) 1 rfl ?_
  refine ge_cs rfl rfl rfl rfl rfl rfl (D := 1) (Nat.le_trans (by decide) hd) (c_Lc_needKind (n := n) (u := u) (t := t) (i := i) (r := r) s x1) ?_
  rintro (⟨⟩ | c_1) -
  · dsimp only [bkE, F_tv0]
    refine ge_run (pc' := 3) (L' := [.ref 1000, .int x1, .int x2, .int x3]) (S' := [.int x2]) 1 rfl ?_
    refine ge_cs rfl rfl rfl rfl rfl rfl (D := 1) (Nat.le_trans (by decide) hd) (c_Lc_needCell (n := n) (u := u) (t := t) (i := i) (r := r) s x2) ?_
    rintro (⟨⟩ | c_2) -
    · dsimp only [bkE, F_tv0]
      refine ge_run (pc' := 7) (L' := [.ref 1000, .int x1, .int x2, .int x3]) (S' := [.int (9 : Int32), .int (1 : Int32), .int x3]) 3 rfl ?_
      refine ge_cs rfl rfl rfl rfl rfl rfl (D := 1) (Nat.le_trans (by decide) hd) (c_Lc_needWithin (n := n) (u := u) (t := t) (i := i) (r := r) s x3 (1 : Int32) (9 : Int32)) ?_
      rintro (⟨⟩ | c_3) -
      · dsimp only [bkE, F_tv0]
        refine ge_run (pc' := 9) (L' := [.ref 1000, .int x1, .int x2, .int x3]) (S' := [.ref 1000]) 1 rfl ?_
        refine ge_getR (b := 1001) rfl (t1000 s) rfl (r1000_0 s) (Nat.le_of_ble_eq_true rfl) ?_
        refine ge_getI rfl (sT0 s sea1001) rfl ?_
        refine ge_run (pc' := 12) (L' := [.ref 1000, .int x1, .int x2, .int x3]) (S' := [.int (8 : Int32), .int (i 1001 7)]) 1 rfl ?_
        refine ge_lt rfl (fun h_4 => ?_) (fun h_10 => ?_)
        · refine ge_run (pc' := 16) (L' := [.ref 1000, .int x1, .int x2, .int x3]) (S' := [.ref 1000]) 1 rfl ?_
          refine ge_getR (b := 1149) rfl (t1000 s) rfl (r1000_5 s) (Nat.le_of_ble_eq_true rfl) ?_
          refine ge_run (pc' := 18) (L' := [.ref 1000, .int x1, .int x2, .int x3]) (S' := [.ref 1000, .ref 1149]) 1 rfl ?_
          refine ge_getR (b := 1001) rfl (t1000 s) rfl (r1000_0 s) (Nat.le_of_ble_eq_true rfl) ?_
          refine ge_cv rfl rfl rfl (t1149 s) rfl rfl rfl (D := 4) (Nat.le_trans (by decide) hd) (c_Pa_remember (n := n) (u := u) (t := t) (i := i) (r := r) s 1001 sea1001) ?_
          rintro ⟨i_5, r_6⟩ s_7
          dsimp only [bkE, F_v2]
          refine ge_run (pc' := 21) (L' := [.ref 1000, .int x1, .int x2, .int x3]) (S' := [.ref 1000]) 1 rfl ?_
          refine ge_getR (b := 1001) rfl (t1000 s_7) rfl (r1000_0 s_7) (Nat.le_of_ble_eq_true rfl) ?_
          refine ge_run (pc' := 25) (L' := [.ref 1000, .int x1, .int x2, .int x3]) (S' := [.int x3, .int x2, .int x1, .ref 1001]) 3 rfl ?_
          refine ge_cv rfl rfl rfl (sT0 s_7 sea1001) rfl rfl rfl (D := 2) (Nat.le_trans (by decide) hd) (c_Se_addFish (n := n) (u := u) (t := t) (i := i_5) (r := r_6) s_7 1001 sea1001 x1 x2 x3) ?_
          rintro ⟨v_8, i_9⟩ -
          dsimp only [bkE, F_i1]
          exact ge_ret rfl rfl (And.intro rfl s_7)
        · exact ge_throw rfl (by decide) rfl rfl (And.intro rfl s)
      · exact ge_leaf (And.intro rfl s)
    · exact ge_leaf (And.intro rfl s)
  · exact ge_leaf (And.intro rfl s)
def f_Lc_release (r : MR) (i : MI) (x1 : Int32) : Option ((Int32 ⊕ Nat) × MI × MR) :=
  (f_Lc_needFish i x1).bind (fun | .inl () => grd x1 8 (if (i (1001 + 3 + (ix x1)) 3) = 0 then (some (.inr 21, i, r)) else (if (i (1001 + 3 + (ix x1)) 3) = (3 : Int32) then (some (.inr 21, i, r)) else ((f_Pa_remember r i 1001).bind (fun (i_8, r_9) => (if (i_8 (1001 + 3 + (ix x1)) 3) = (2 : Int32) then (some (0 : Int32)) else ((f_Se_cellOf i_8 1001 x1).bind (fun v_14 => some v_14)) : Option (Int32)).bind (fun y_11 => (f_Se_put i_8 1001 x1 (0 : Int32) y_11 (-1 : Int32)).bind (fun i_15 => some (.inl y_11, i_15, r_9))))))) | .inr c_1 => some (.inr c_1, i, r))
set_option maxHeartbeats 4000000 in
theorem c_Lc_release {n u : Nat} {t : MT} {i : MI} {r : MR} (s : Sh n t r) (x1 : Int32) : Cn 5 137 [.ref 1000, .int x1] (n, u, t, i, r) (f_Lc_release r i x1) (F_ti2 n u t) (PS2 n t) := by
  refine cn_of (Y := K_Lc_release) (L0 := [.ref 1000, .int x1, uV, uV]) rfl rfl rfl ?_
  intro d hd
  unfold f_Lc_release
  refine ge_run (pc' := 2) (L' := [.ref 1000, .int x1, uV, uV]) (S' := [.int x1, .ref 1000]) 2 rfl ?_
  refine ge_cv rfl rfl rfl (t1000 s) rfl rfl rfl (D := 1) (Nat.le_trans (by decide) hd) (c_Lc_needFish (n := n) (u := u) (t := t) (i := i) (r := r) s x1) ?_
  rintro (⟨⟩ | c_1) -
  · dsimp only [bkE, F_tv0]
    refine ge_run (pc' := 4) (L' := [.ref 1000, .int x1, uV, uV]) (S' := [.ref 1000]) 1 rfl ?_
    refine ge_getR (b := 1001) rfl (t1000 s) rfl (r1000_0 s) (Nat.le_of_ble_eq_true rfl) ?_
    refine ge_getR (b := (1001 + 2)) rfl (sT0 s sea1001) rfl (sR1 s sea1001) (sge sea1001) ?_
    refine ge_run (pc' := 7) (L' := [.ref 1000, .int x1, uV, uV]) (S' := [.int x1, .ref (1001 + 2)]) 1 rfl ?_
    refine ge_grd (fun g_2 g_3 => ?_)
    refine ge_aald (jn := (ix x1)) (b := (1001 + 3 + (ix x1))) rfl (sT2 s sea1001) (Or.inl rfl) ⟨g_2, rfl⟩ g_3 (sRr_fish s sea1001 g_3) (sge2 sea1001) ?_
    refine ge_run (pc' := 11) (L' := [.ref 1000, .int x1, .ref (1001 + 3 + (ix x1)), uV]) (S' := [.int (3 : Int32), .ref (1001 + 3 + (ix x1))]) 3 rfl ?_
    refine ge_iald (jn := 3) rfl (sRow_fish s sea1001 g_3) lk3 (by decide) ?_
    refine ge_eq0 rfl (fun h_4 => ?_) (fun h_5 => ?_)
    · exact ge_throw rfl (by decide) rfl rfl (And.intro rfl s)
    · refine ge_run (pc' := 15) (L' := [.ref 1000, .int x1, .ref (1001 + 3 + (ix x1)), uV]) (S' := [.int (3 : Int32), .ref (1001 + 3 + (ix x1))]) 2 rfl ?_
      refine ge_iald (jn := 3) rfl (sRow_fish s sea1001 g_3) lk3 (by decide) ?_
      refine ge_run (pc' := 17) (L' := [.ref 1000, .int x1, .ref (1001 + 3 + (ix x1)), uV]) (S' := [.int (3 : Int32), .int (i (1001 + 3 + (ix x1)) 3)]) 1 rfl ?_
      refine ge_ne rfl (fun h_6 => ?_) (fun h_7 => ?_)
      · exact ge_throw rfl (by decide) rfl rfl (And.intro rfl s)
      · refine ge_run (pc' := 21) (L' := [.ref 1000, .int x1, .ref (1001 + 3 + (ix x1)), uV]) (S' := [.ref 1000]) 1 rfl ?_
        refine ge_getR (b := 1149) rfl (t1000 s) rfl (r1000_5 s) (Nat.le_of_ble_eq_true rfl) ?_
        refine ge_run (pc' := 23) (L' := [.ref 1000, .int x1, .ref (1001 + 3 + (ix x1)), uV]) (S' := [.ref 1000, .ref 1149]) 1 rfl ?_
        refine ge_getR (b := 1001) rfl (t1000 s) rfl (r1000_0 s) (Nat.le_of_ble_eq_true rfl) ?_
        refine ge_cv rfl rfl rfl (t1149 s) rfl rfl rfl (D := 4) (Nat.le_trans (by decide) hd) (c_Pa_remember (n := n) (u := u) (t := t) (i := i) (r := r) s 1001 sea1001) ?_
        rintro ⟨i_8, r_9⟩ s_10
        dsimp only [bkE, F_v2]
        refine ge_run (pc' := 27) (L' := [.ref 1000, .int x1, .ref (1001 + 3 + (ix x1)), uV]) (S' := [.int (3 : Int32), .ref (1001 + 3 + (ix x1))]) 2 rfl ?_
        refine ge_iald (jn := 3) rfl (sRow_fish s sea1001 g_3) lk3 (by decide) ?_
        refine ge_run (pc' := 29) (L' := [.ref 1000, .int x1, .ref (1001 + 3 + (ix x1)), uV]) (S' := [.int (2 : Int32), .int (i_8 (1001 + 3 + (ix x1)) 3)]) 1 rfl ?_
        refine ge_bind (K1 := fun (q : Int32) e => e = .inl (36, [.ref 1000, .int x1, .ref (1001 + 3 + (ix x1)), uV], [.int q], (n, u, t, i_8, r_9))) ?_ ?_
        · refine ge_ne rfl (fun h_12 => ?_) (fun h_13 => ?_)
          · refine ge_run (pc' := 36) (L' := [.ref 1000, .int x1, .ref (1001 + 3 + (ix x1)), uV]) (S' := [.int (0 : Int32)]) 2 rfl ?_
            exact ge_leaf rfl
          · refine ge_run (pc' := 33) (L' := [.ref 1000, .int x1, .ref (1001 + 3 + (ix x1)), uV]) (S' := [.ref 1000]) 1 rfl ?_
            refine ge_getR (b := 1001) rfl (t1000 s_10) rfl (r1000_0 s_10) (Nat.le_of_ble_eq_true rfl) ?_
            refine ge_run (pc' := 35) (L' := [.ref 1000, .int x1, .ref (1001 + 3 + (ix x1)), uV]) (S' := [.int x1, .ref 1001]) 1 rfl ?_
            refine ge_cv rfl rfl rfl (sT0 s_10 sea1001) rfl rfl rfl (D := 1) (Nat.le_trans (by decide) hd) (c_Se_cellOf (n := n) (u := u) (t := t) (i := i_8) (r := r_9) s_10 1001 sea1001 x1) ?_
            rintro v_14 -
            dsimp only [bkE, F_i0]
            exact ge_leaf rfl
        · rintro y_11 _ rfl
          try dsimp only
          refine ge_run (pc' := 38) (L' := [.ref 1000, .int x1, .ref (1001 + 3 + (ix x1)), .int y_11]) (S' := [.ref 1000]) 2 rfl ?_
          refine ge_getR (b := 1001) rfl (t1000 s_10) rfl (r1000_0 s_10) (Nat.le_of_ble_eq_true rfl) ?_
          refine ge_run (pc' := 43) (L' := [.ref 1000, .int x1, .ref (1001 + 3 + (ix x1)), .int y_11]) (S' := [.int (-1 : Int32), .int y_11, .int (0 : Int32), .int x1, .ref 1001]) 4 rfl ?_
          refine ge_cv rfl rfl rfl (sT0 s_10 sea1001) rfl rfl rfl (D := 1) (Nat.le_trans (by decide) hd) (c_Se_put (n := n) (u := u) (t := t) (i := i_8) (r := r_9) s_10 1001 sea1001 x1 (0 : Int32) y_11 (-1 : Int32)) ?_
          rintro i_15 -
          dsimp only [bkE, F_v1]
          refine ge_run (pc' := 45) (L' := [.ref 1000, .int x1, .ref (1001 + 3 + (ix x1)), .int y_11]) (S' := [.int y_11]) 1 rfl ?_
          exact ge_ret rfl rfl (And.intro rfl s_10)
  · exact ge_leaf (And.intro rfl s)
def f_Lc_current (r : MR) (i : MI) (x1 : Int32) (x2 : Int32) : Option ((Int32 ⊕ Nat) × MI × MR) :=
  (f_Lc_needCell x1).bind (fun | .inl () => (f_Lc_needWithin x2 (0 : Int32) (4 : Int32)).bind (fun | .inl () => (f_Pa_remember r i 1001).bind (fun (i_3, r_4) => grd x1 25 (bnd (wr i_3 (1001 + 1) (ix x1) x2) (fun i_8 => some (.inl (i_3 (1001 + 1) (ix x1)), i_8, r_4)))) | .inr c_2 => some (.inr c_2, i, r)) | .inr c_1 => some (.inr c_1, i, r))
set_option maxHeartbeats 4000000 in
theorem c_Lc_current {n u : Nat} {t : MT} {i : MI} {r : MR} (s : Sh n t r) (x1 : Int32) (x2 : Int32) : Cn 5 138 [.ref 1000, .int x1, .int x2] (n, u, t, i, r) (f_Lc_current r i x1 x2) (F_ti2 n u t) (PS2 n t) := by
  refine cn_of (Y := K_Lc_current) (L0 := [.ref 1000, .int x1, .int x2, uV]) rfl rfl rfl ?_
  intro d hd
  unfold f_Lc_current
  refine ge_run (pc' := 1) (L' := [.ref 1000, .int x1, .int x2, uV]) (S' := [.int x1]) 1 rfl ?_
  refine ge_cs rfl rfl rfl rfl rfl rfl (D := 1) (Nat.le_trans (by decide) hd) (c_Lc_needCell (n := n) (u := u) (t := t) (i := i) (r := r) s x1) ?_
  rintro (⟨⟩ | c_1) -
  · dsimp only [bkE, F_tv0]
    refine ge_run (pc' := 5) (L' := [.ref 1000, .int x1, .int x2, uV]) (S' := [.int (4 : Int32), .int (0 : Int32), .int x2]) 3 rfl ?_
    refine ge_cs rfl rfl rfl rfl rfl rfl (D := 1) (Nat.le_trans (by decide) hd) (c_Lc_needWithin (n := n) (u := u) (t := t) (i := i) (r := r) s x2 (0 : Int32) (4 : Int32)) ?_
    rintro (⟨⟩ | c_2) -
    · dsimp only [bkE, F_tv0]
      refine ge_run (pc' := 7) (L' := [.ref 1000, .int x1, .int x2, uV]) (S' := [.ref 1000]) 1 rfl ?_
      refine ge_getR (b := 1149) rfl (t1000 s) rfl (r1000_5 s) (Nat.le_of_ble_eq_true rfl) ?_
      refine ge_run (pc' := 9) (L' := [.ref 1000, .int x1, .int x2, uV]) (S' := [.ref 1000, .ref 1149]) 1 rfl ?_
      refine ge_getR (b := 1001) rfl (t1000 s) rfl (r1000_0 s) (Nat.le_of_ble_eq_true rfl) ?_
      refine ge_cv rfl rfl rfl (t1149 s) rfl rfl rfl (D := 4) (Nat.le_trans (by decide) hd) (c_Pa_remember (n := n) (u := u) (t := t) (i := i) (r := r) s 1001 sea1001) ?_
      rintro ⟨i_3, r_4⟩ s_5
      dsimp only [bkE, F_v2]
      refine ge_run (pc' := 12) (L' := [.ref 1000, .int x1, .int x2, uV]) (S' := [.ref 1000]) 1 rfl ?_
      refine ge_getR (b := 1001) rfl (t1000 s_5) rfl (r1000_0 s_5) (Nat.le_of_ble_eq_true rfl) ?_
      refine ge_getR (b := (1001 + 1)) rfl (sT0 s_5 sea1001) rfl (sR0 s_5 sea1001) (sge sea1001) ?_
      refine ge_run (pc' := 15) (L' := [.ref 1000, .int x1, .int x2, uV]) (S' := [.int x1, .ref (1001 + 1)]) 1 rfl ?_
      refine ge_grd (fun g_6 g_7 => ?_)
      refine ge_iald (jn := (ix x1)) rfl (sT1 s_5 sea1001) ⟨g_6, rfl⟩ g_7 ?_
      refine ge_run (pc' := 18) (L' := [.ref 1000, .int x1, .int x2, .int (i_3 (1001 + 1) (ix x1))]) (S' := [.ref 1000]) 2 rfl ?_
      refine ge_getR (b := 1001) rfl (t1000 s_5) rfl (r1000_0 s_5) (Nat.le_of_ble_eq_true rfl) ?_
      refine ge_getR (b := (1001 + 1)) rfl (sT0 s_5 sea1001) rfl (sR0 s_5 sea1001) (sge sea1001) ?_
      refine ge_run (pc' := 22) (L' := [.ref 1000, .int x1, .int x2, .int (i_3 (1001 + 1) (ix x1))]) (S' := [.int x2, .int x1, .ref (1001 + 1)]) 2 rfl ?_
      refine ge_iast (jn := (ix x1)) rfl (sT1 s_5 sea1001) (sge sea1001) ⟨g_6, rfl⟩ g_7 (fun i_8 => ?_)
      refine ge_run (pc' := 24) (L' := [.ref 1000, .int x1, .int x2, .int (i_3 (1001 + 1) (ix x1))]) (S' := [.int (i_3 (1001 + 1) (ix x1))]) 1 rfl ?_
      exact ge_ret rfl rfl (And.intro rfl s_5)
    · exact ge_leaf (And.intro rfl s)
  · exact ge_leaf (And.intro rfl s)
def f_Lc_sell (t : MT) (r : MR) (i : MI) (x1 : Int32) (x2 : Int32) : Option ((Int32 ⊕ Nat) × MI × MR) :=
  (f_Lc_needFish i x1).bind (fun | .inl () => (f_Lc_needBuyer i x2).bind (fun | .inl () => (f_Lc_needOnSlab i x1).bind (fun | .inl () => (f_Se_price t r i 1001 x1).bind (fun (v_4, i_5) => grd x2 5 (if (i_5 (1001 + 16 + (ix x2)) 1) < v_4 then (some (.inr 21, i_5, r)) else ((f_Pa_remember r i_5 1001).bind (fun (i_10, r_11) => (f_Se_sellTo i_10 1001 x1 x2 v_4 (3 : Int32)).bind (fun i_13 => some (.inl v_4, i_13, r_11)))))) | .inr c_3 => some (.inr c_3, i, r)) | .inr c_2 => some (.inr c_2, i, r)) | .inr c_1 => some (.inr c_1, i, r))
set_option maxHeartbeats 4000000 in
theorem c_Lc_sell {n u : Nat} {t : MT} {i : MI} {r : MR} (s : Sh n t r) (x1 : Int32) (x2 : Int32) : Cn 5 139 [.ref 1000, .int x1, .int x2] (n, u, t, i, r) (f_Lc_sell t r i x1 x2) (F_ti2 n u t) (PS2 n t) := by
  refine cn_of (Y := K_Lc_sell) (L0 := [.ref 1000, .int x1, .int x2, uV]) rfl rfl rfl ?_
  intro d hd
  unfold f_Lc_sell
  refine ge_run (pc' := 2) (L' := [.ref 1000, .int x1, .int x2, uV]) (S' := [.int x1, .ref 1000]) 2 rfl ?_
  refine ge_cv rfl rfl rfl (t1000 s) rfl rfl rfl (D := 1) (Nat.le_trans (by decide) hd) (c_Lc_needFish (n := n) (u := u) (t := t) (i := i) (r := r) s x1) ?_
  rintro (⟨⟩ | c_1) -
  · dsimp only [bkE, F_tv0]
    refine ge_run (pc' := 5) (L' := [.ref 1000, .int x1, .int x2, uV]) (S' := [.int x2, .ref 1000]) 2 rfl ?_
    refine ge_cv rfl rfl rfl (t1000 s) rfl rfl rfl (D := 1) (Nat.le_trans (by decide) hd) (c_Lc_needBuyer (n := n) (u := u) (t := t) (i := i) (r := r) s x2) ?_
    rintro (⟨⟩ | c_2) -
    · dsimp only [bkE, F_tv0]
      refine ge_run (pc' := 8) (L' := [.ref 1000, .int x1, .int x2, uV]) (S' := [.int x1, .ref 1000]) 2 rfl ?_
      refine ge_cv rfl rfl rfl (t1000 s) rfl rfl rfl (D := 1) (Nat.le_trans (by decide) hd) (c_Lc_needOnSlab (n := n) (u := u) (t := t) (i := i) (r := r) s x1) ?_
      rintro (⟨⟩ | c_3) -
      · dsimp only [bkE, F_tv0]
        refine ge_run (pc' := 10) (L' := [.ref 1000, .int x1, .int x2, uV]) (S' := [.ref 1000]) 1 rfl ?_
        refine ge_getR (b := 1001) rfl (t1000 s) rfl (r1000_0 s) (Nat.le_of_ble_eq_true rfl) ?_
        refine ge_run (pc' := 12) (L' := [.ref 1000, .int x1, .int x2, uV]) (S' := [.int x1, .ref 1001]) 1 rfl ?_
        refine ge_cv rfl rfl rfl (sT0 s sea1001) rfl rfl rfl (D := 3) (Nat.le_trans (by decide) hd) (c_Se_price (n := n) (u := u) (t := t) (i := i) (r := r) s 1001 sea1001 x1) ?_
        rintro ⟨v_4, i_5⟩ -
        dsimp only [bkE, F_i1]
        refine ge_run (pc' := 16) (L' := [.ref 1000, .int x1, .int x2, .int v_4]) (S' := [.ref 1000, .int v_4]) 3 rfl ?_
        refine ge_getR (b := 1001) rfl (t1000 s) rfl (r1000_0 s) (Nat.le_of_ble_eq_true rfl) ?_
        refine ge_getR (b := (1001 + 15)) rfl (sT0 s sea1001) rfl (sR3 s sea1001) (sge sea1001) ?_
        refine ge_run (pc' := 19) (L' := [.ref 1000, .int x1, .int x2, .int v_4]) (S' := [.int x2, .ref (1001 + 15), .int v_4]) 1 rfl ?_
        refine ge_grd (fun g_6 g_7 => ?_)
        refine ge_aald (jn := (ix x2)) (b := (1001 + 16 + (ix x2))) rfl (sT15 s sea1001) (Or.inl rfl) ⟨g_6, rfl⟩ g_7 (sRr_buyer s sea1001 g_7) (sge2 sea1001) ?_
        refine ge_run (pc' := 21) (L' := [.ref 1000, .int x1, .int x2, .int v_4]) (S' := [.int (1 : Int32), .ref (1001 + 16 + (ix x2)), .int v_4]) 1 rfl ?_
        refine ge_iald (jn := 1) rfl (sRow_buyer s sea1001 g_7) lk1 (by decide) ?_
        refine ge_le rfl (fun h_8 => ?_) (fun h_9 => ?_)
        · exact ge_throw rfl (by decide) rfl rfl (And.intro rfl s)
        · refine ge_run (pc' := 26) (L' := [.ref 1000, .int x1, .int x2, .int v_4]) (S' := [.ref 1000]) 1 rfl ?_
          refine ge_getR (b := 1149) rfl (t1000 s) rfl (r1000_5 s) (Nat.le_of_ble_eq_true rfl) ?_
          refine ge_run (pc' := 28) (L' := [.ref 1000, .int x1, .int x2, .int v_4]) (S' := [.ref 1000, .ref 1149]) 1 rfl ?_
          refine ge_getR (b := 1001) rfl (t1000 s) rfl (r1000_0 s) (Nat.le_of_ble_eq_true rfl) ?_
          refine ge_cv rfl rfl rfl (t1149 s) rfl rfl rfl (D := 4) (Nat.le_trans (by decide) hd) (c_Pa_remember (n := n) (u := u) (t := t) (i := i_5) (r := r) s 1001 sea1001) ?_
          rintro ⟨i_10, r_11⟩ s_12
          dsimp only [bkE, F_v2]
          refine ge_run (pc' := 31) (L' := [.ref 1000, .int x1, .int x2, .int v_4]) (S' := [.ref 1000]) 1 rfl ?_
          refine ge_getR (b := 1001) rfl (t1000 s_12) rfl (r1000_0 s_12) (Nat.le_of_ble_eq_true rfl) ?_
          refine ge_run (pc' := 36) (L' := [.ref 1000, .int x1, .int x2, .int v_4]) (S' := [.int (3 : Int32), .int v_4, .int x2, .int x1, .ref 1001]) 4 rfl ?_
          refine ge_cv rfl rfl rfl (sT0 s_12 sea1001) rfl rfl rfl (D := 3) (Nat.le_trans (by decide) hd) (c_Se_sellTo (n := n) (u := u) (t := t) (i := i_10) (r := r_11) s_12 1001 sea1001 x1 x2 v_4 (3 : Int32)) ?_
          rintro i_13 -
          dsimp only [bkE, F_v1]
          refine ge_run (pc' := 38) (L' := [.ref 1000, .int x1, .int x2, .int v_4]) (S' := [.int v_4]) 1 rfl ?_
          exact ge_ret rfl rfl (And.intro rfl s_12)
      · exact ge_leaf (And.intro rfl s)
    · exact ge_leaf (And.intro rfl s)
  · exact ge_leaf (And.intro rfl s)
def f_Lc_lookAhead (t : MT) (r : MR) (i : MI) (x1 : Int32) : Option (MI × MR) :=
  (f_Se_copyFrom r i 1075 1001).bind (fun (i_1, r_2) => (itr (σ := Int32 × MI) (ρ := MI) (fun (x2_4, i_5) => if x2_4 < x1 then ((f_Se_passDay t r_2 i_5 1075 (0 : Int32)).bind (fun (v_9, i_10) => some (.inl ((x2_4 + (1 : Int32)), i_10)))) else (some (.inr i_5))) 1000000 ((0 : Int32), i_1)).bind (fun i_6 => some (i_6, r_2)))
set_option maxHeartbeats 4000000 in
theorem c_Lc_lookAhead {n u : Nat} {t : MT} {i : MI} {r : MR} (s : Sh n t r) (x1 : Int32) : Cn 7 183 [.ref 1000, .int x1] (n, u, t, i, r) (f_Lc_lookAhead t r i x1) (F_v2 n u t) (PS1 n t) := by
  refine cn_of (Y := K_Lc_lookAhead) (L0 := [.ref 1000, .int x1, uV]) rfl rfl rfl ?_
  intro d hd
  unfold f_Lc_lookAhead
  refine ge_run (pc' := 1) (L' := [.ref 1000, .int x1, uV]) (S' := [.ref 1000]) 1 rfl ?_
  refine ge_getR (b := 1075) rfl (t1000 s) rfl (r1000_2 s) (Nat.le_of_ble_eq_true rfl) ?_
  refine ge_run (pc' := 3) (L' := [.ref 1000, .int x1, uV]) (S' := [.ref 1000, .ref 1075]) 1 rfl ?_
  refine ge_getR (b := 1001) rfl (t1000 s) rfl (r1000_0 s) (Nat.le_of_ble_eq_true rfl) ?_
  refine ge_cv rfl rfl rfl (sT0 s sea1075) rfl rfl rfl (D := 3) (Nat.le_trans (by decide) hd) (c_Se_copyFrom (n := n) (u := u) (t := t) (i := i) (r := r) s 1075 sea1075 1001 sea1001) ?_
  rintro ⟨i_1, r_2⟩ s_3
  dsimp only [bkE, F_v2]
  refine ge_run (pc' := 7) (L' := [.ref 1000, .int x1, .int (0 : Int32)]) (S' := []) 2 rfl ?_
  refine ge_bind (K1 := fun (q : MI) e => ∃ w_7 : Value, e = .inl (17, [.ref 1000, .int x1, w_7], [], (n, u, t, q, r_2))) (ge_itr (C := fun (q : Int32 × MI) e => e = .inl (7, [.ref 1000, .int x1, .int q.1], [], (n, u, t, q.2, r_2))) ?_ _ _ _ rfl) ?_
  · rintro ⟨x2_4, i_5⟩ _ rfl
    try dsimp only
    refine ge_run (pc' := 9) (L' := [.ref 1000, .int x1, .int x2_4]) (S' := [.int x1, .int x2_4]) 2 rfl ?_
    refine ge_ge rfl (fun h_8 => ?_) (fun h_11 => ?_)
    · refine ge_run (pc' := 11) (L' := [.ref 1000, .int x1, .int x2_4]) (S' := [.ref 1000]) 1 rfl ?_
      refine ge_getR (b := 1075) rfl (t1000 s_3) rfl (r1000_2 s_3) (Nat.le_of_ble_eq_true rfl) ?_
      refine ge_run (pc' := 13) (L' := [.ref 1000, .int x1, .int x2_4]) (S' := [.int (0 : Int32), .ref 1075]) 1 rfl ?_
      refine ge_cv rfl rfl rfl (sT0 s_3 sea1075) rfl rfl rfl (D := 6) (Nat.le_trans (by decide) hd) (c_Se_passDay (n := n) (u := u) (t := t) (i := i_5) (r := r_2) s_3 1075 sea1075 (0 : Int32)) ?_
      rintro ⟨v_9, i_10⟩ -
      dsimp only [bkE, F_i1]
      refine ge_run (pc' := 7) (L' := [.ref 1000, .int x1, .int (x2_4 + (1 : Int32))]) (S' := []) 3 rfl ?_
      exact ge_leaf (K := kX _ _) rfl
    · exact ge_leaf (K := kX _ _) (Exists.intro _ rfl)
  · rintro i_6 _ ⟨w_7, rfl⟩
    try dsimp only
    exact ge_retv rfl rfl (And.intro rfl s_3)
def f_Lc_where (t : MT) (r : MR) (i : MI) (x1 : Int32) (x2 : Int32) : Option ((Int32 ⊕ Nat) × MI × MR) :=
  (f_Lc_needFish i x1).bind (fun | .inl () => (f_Lc_needWithin x2 (0 : Int32) (60 : Int32)).bind (fun | .inl () => (f_Lc_lookAhead t r i x2).bind (fun (i_3, r_4) => grd x1 8 (some (.inl (i_3 (1075 + 3 + (ix x1)) 4), i_3, r_4))) | .inr c_2 => some (.inr c_2, i, r)) | .inr c_1 => some (.inr c_1, i, r))
set_option maxHeartbeats 4000000 in
theorem c_Lc_where {n u : Nat} {t : MT} {i : MI} {r : MR} (s : Sh n t r) (x1 : Int32) (x2 : Int32) : Cn 8 140 [.ref 1000, .int x1, .int x2] (n, u, t, i, r) (f_Lc_where t r i x1 x2) (F_ti2 n u t) (PS2 n t) := by
  refine cn_of (Y := K_Lc_where) (L0 := [.ref 1000, .int x1, .int x2]) rfl rfl rfl ?_
  intro d hd
  unfold f_Lc_where
  refine ge_run (pc' := 2) (L' := [.ref 1000, .int x1, .int x2]) (S' := [.int x1, .ref 1000]) 2 rfl ?_
  refine ge_cv rfl rfl rfl (t1000 s) rfl rfl rfl (D := 1) (Nat.le_trans (by decide) hd) (c_Lc_needFish (n := n) (u := u) (t := t) (i := i) (r := r) s x1) ?_
  rintro (⟨⟩ | c_1) -
  · dsimp only [bkE, F_tv0]
    refine ge_run (pc' := 6) (L' := [.ref 1000, .int x1, .int x2]) (S' := [.int (60 : Int32), .int (0 : Int32), .int x2]) 3 rfl ?_
    refine ge_cs rfl rfl rfl rfl rfl rfl (D := 1) (Nat.le_trans (by decide) hd) (c_Lc_needWithin (n := n) (u := u) (t := t) (i := i) (r := r) s x2 (0 : Int32) (60 : Int32)) ?_
    rintro (⟨⟩ | c_2) -
    · dsimp only [bkE, F_tv0]
      refine ge_run (pc' := 9) (L' := [.ref 1000, .int x1, .int x2]) (S' := [.int x2, .ref 1000]) 2 rfl ?_
      refine ge_cv rfl rfl rfl (t1000 s) rfl rfl rfl (D := 7) (Nat.le_trans (by decide) hd) (c_Lc_lookAhead (n := n) (u := u) (t := t) (i := i) (r := r) s x2) ?_
      rintro ⟨i_3, r_4⟩ s_5
      dsimp only [bkE, F_v2]
      refine ge_run (pc' := 11) (L' := [.ref 1000, .int x1, .int x2]) (S' := [.ref 1000]) 1 rfl ?_
      refine ge_getR (b := 1075) rfl (t1000 s_5) rfl (r1000_2 s_5) (Nat.le_of_ble_eq_true rfl) ?_
      refine ge_getR (b := (1075 + 2)) rfl (sT0 s_5 sea1075) rfl (sR1 s_5 sea1075) (sge sea1075) ?_
      refine ge_run (pc' := 14) (L' := [.ref 1000, .int x1, .int x2]) (S' := [.int x1, .ref (1075 + 2)]) 1 rfl ?_
      refine ge_grd (fun g_6 g_7 => ?_)
      refine ge_aald (jn := (ix x1)) (b := (1075 + 3 + (ix x1))) rfl (sT2 s_5 sea1075) (Or.inl rfl) ⟨g_6, rfl⟩ g_7 (sRr_fish s_5 sea1075 g_7) (sge2 sea1075) ?_
      refine ge_run (pc' := 16) (L' := [.ref 1000, .int x1, .int x2]) (S' := [.int (4 : Int32), .ref (1075 + 3 + (ix x1))]) 1 rfl ?_
      refine ge_iald (jn := 4) rfl (sRow_fish s_5 sea1075 g_7) lk4 (by decide) ?_
      exact ge_ret rfl rfl (And.intro rfl s_5)
    · exact ge_leaf (And.intro rfl s)
  · exact ge_leaf (And.intro rfl s)
def f_Lc_meets (i : MI) (x1 : Int32) (x2 : Int32) : Option ((Int32 ⊕ Nat)) :=
  (f_Lc_needBoat i x1).bind (fun | .inl () => (f_Lc_needFish i x2).bind (fun | .inl () => (f_Se_meetingOf i 1001 x1 x2).bind (fun v_3 => some (.inl v_3)) | .inr c_2 => some (.inr c_2)) | .inr c_1 => some (.inr c_1))
set_option maxHeartbeats 4000000 in
theorem c_Lc_meets {n u : Nat} {t : MT} {i : MI} {r : MR} (s : Sh n t r) (x1 : Int32) (x2 : Int32) : Cn 4 141 [.ref 1000, .int x1, .int x2] (n, u, t, i, r) (f_Lc_meets i x1 x2) (F_ti0 n u t i r) PT := by
  refine cn_of (Y := K_Lc_meets) (L0 := [.ref 1000, .int x1, .int x2]) rfl rfl rfl ?_
  intro d hd
  unfold f_Lc_meets
  refine ge_run (pc' := 2) (L' := [.ref 1000, .int x1, .int x2]) (S' := [.int x1, .ref 1000]) 2 rfl ?_
  refine ge_cv rfl rfl rfl (t1000 s) rfl rfl rfl (D := 1) (Nat.le_trans (by decide) hd) (c_Lc_needBoat (n := n) (u := u) (t := t) (i := i) (r := r) s x1) ?_
  rintro (⟨⟩ | c_1) -
  · dsimp only [bkE, F_tv0]
    refine ge_run (pc' := 5) (L' := [.ref 1000, .int x1, .int x2]) (S' := [.int x2, .ref 1000]) 2 rfl ?_
    refine ge_cv rfl rfl rfl (t1000 s) rfl rfl rfl (D := 1) (Nat.le_trans (by decide) hd) (c_Lc_needFish (n := n) (u := u) (t := t) (i := i) (r := r) s x2) ?_
    rintro (⟨⟩ | c_2) -
    · dsimp only [bkE, F_tv0]
      refine ge_run (pc' := 7) (L' := [.ref 1000, .int x1, .int x2]) (S' := [.ref 1000]) 1 rfl ?_
      refine ge_getR (b := 1001) rfl (t1000 s) rfl (r1000_0 s) (Nat.le_of_ble_eq_true rfl) ?_
      refine ge_run (pc' := 10) (L' := [.ref 1000, .int x1, .int x2]) (S' := [.int x2, .int x1, .ref 1001]) 2 rfl ?_
      refine ge_cv rfl rfl rfl (sT0 s sea1001) rfl rfl rfl (D := 3) (Nat.le_trans (by decide) hd) (c_Se_meetingOf (n := n) (u := u) (t := t) (i := i) (r := r) s 1001 sea1001 x1 x2) ?_
      rintro v_3 -
      dsimp only [bkE, F_i0]
      exact ge_ret rfl rfl (And.intro rfl trivial)
    · exact ge_leaf (And.intro rfl trivial)
  · exact ge_leaf (And.intro rfl trivial)
def f_Lc_isMet (i : MI) (x1 : Int32) : Option (Int32) :=
  itr (σ := Int32) (ρ := Int32) (fun x2_1 => if x2_1 < (i 1001 8) then ((f_Se_meetingOf i 1001 x2_1 x1).bind (fun v_3 => if v_3 = (-1 : Int32) then (some (.inl (x2_1 + (1 : Int32)))) else (some (.inr (((1 : Int32))))))) else (some (.inr (((0 : Int32)))))) 1000000 (0 : Int32)
set_option maxHeartbeats 4000000 in
theorem c_Lc_isMet {n u : Nat} {t : MT} {i : MI} {r : MR} (s : Sh n t r) (x1 : Int32) : Cn 4 186 [.ref 1000, .int x1] (n, u, t, i, r) (f_Lc_isMet i x1) (F_i0 n u t i r) PT := by
  refine cn_of (Y := K_Lc_isMet) (L0 := [.ref 1000, .int x1, uV]) rfl rfl rfl ?_
  intro d hd
  unfold f_Lc_isMet
  refine ge_run (pc' := 2) (L' := [.ref 1000, .int x1, .int (0 : Int32)]) (S' := []) 2 rfl ?_
  refine ge_itr (C := fun (q : Int32) e => e = .inl (2, [.ref 1000, .int x1, .int q], [], (n, u, t, i, r))) ?_ _ _ _ rfl
  rintro x2_1 _ rfl
  try dsimp only
  refine ge_run (pc' := 4) (L' := [.ref 1000, .int x1, .int x2_1]) (S' := [.ref 1000, .int x2_1]) 2 rfl ?_
  refine ge_getR (b := 1001) rfl (t1000 s) rfl (r1000_0 s) (Nat.le_of_ble_eq_true rfl) ?_
  refine ge_getI rfl (sT0 s sea1001) rfl ?_
  refine ge_ge rfl (fun h_2 => ?_) (fun h_6 => ?_)
  · refine ge_run (pc' := 8) (L' := [.ref 1000, .int x1, .int x2_1]) (S' := [.ref 1000]) 1 rfl ?_
    refine ge_getR (b := 1001) rfl (t1000 s) rfl (r1000_0 s) (Nat.le_of_ble_eq_true rfl) ?_
    refine ge_run (pc' := 11) (L' := [.ref 1000, .int x1, .int x2_1]) (S' := [.int x1, .int x2_1, .ref 1001]) 2 rfl ?_
    refine ge_cv rfl rfl rfl (sT0 s sea1001) rfl rfl rfl (D := 3) (Nat.le_trans (by decide) hd) (c_Se_meetingOf (n := n) (u := u) (t := t) (i := i) (r := r) s 1001 sea1001 x2_1 x1) ?_
    rintro v_3 -
    dsimp only [bkE, F_i0]
    refine ge_run (pc' := 13) (L' := [.ref 1000, .int x1, .int x2_1]) (S' := [.int (-1 : Int32), .int v_3]) 1 rfl ?_
    refine ge_eq rfl (fun h_4 => ?_) (fun h_5 => ?_)
    · refine ge_run (pc' := 2) (L' := [.ref 1000, .int x1, .int (x2_1 + (1 : Int32))]) (S' := []) 2 rfl ?_
      exact ge_leaf (K := kX _ _) rfl
    · refine ge_run (pc' := 15) (L' := [.ref 1000, .int x1, .int x2_1]) (S' := [.int (1 : Int32)]) 1 rfl ?_
      exact ge_retz rfl rfl (Or.inr rfl) (And.intro rfl trivial)
  · refine ge_run (pc' := 19) (L' := [.ref 1000, .int x1, .int x2_1]) (S' := [.int (0 : Int32)]) 1 rfl ?_
    exact ge_retz rfl rfl (Or.inl rfl) (And.intro rfl trivial)
def f_Lc_lost (i : MI) : Option (Int32) :=
  (itr (σ := Int32 × Int32) (ρ := Int32) (fun (x1_1, x2_2) => if x2_2 < (i 1001 7) then (grd x2_2 8 ((if (i (1001 + 3 + (ix x2_2)) 3) = 0 then ((f_Lc_isMet i x2_2).bind (fun v_10 => if v_10 = 0 then (some (x1_1 ||| (shl (1 : Int32) x2_2))) else (some x1_1))) else (some x1_1) : Option (Int32)).bind (fun x1_8 => some (.inl (x1_8, (x2_2 + (1 : Int32))))))) else (some (.inr x1_1))) 1000000 ((0 : Int32), (0 : Int32))).bind (fun x1_3 => some (x1_3))
set_option maxHeartbeats 4000000 in
theorem c_Lc_lost {n u : Nat} {t : MT} {i : MI} {r : MR} (s : Sh n t r)  : Cn 5 142 [.ref 1000] (n, u, t, i, r) (f_Lc_lost i ) (F_i0 n u t i r) PT := by
  refine cn_of (Y := K_Lc_lost) (L0 := [.ref 1000, uV, uV]) rfl rfl rfl ?_
  intro d hd
  unfold f_Lc_lost
  refine ge_run (pc' := 4) (L' := [.ref 1000, .int (0 : Int32), .int (0 : Int32)]) (S' := []) 4 rfl ?_
  refine ge_bind (K1 := fun (q : Int32) e => ∃ w_4 : Value, e = .inl (29, [.ref 1000, .int q, w_4], [], (n, u, t, i, r))) (ge_itr (C := fun (q : Int32 × Int32) e => e = .inl (4, [.ref 1000, .int q.1, .int q.2], [], (n, u, t, i, r))) ?_ _ _ _ rfl) ?_
  · rintro ⟨x1_1, x2_2⟩ _ rfl
    try dsimp only
    refine ge_run (pc' := 6) (L' := [.ref 1000, .int x1_1, .int x2_2]) (S' := [.ref 1000, .int x2_2]) 2 rfl ?_
    refine ge_getR (b := 1001) rfl (t1000 s) rfl (r1000_0 s) (Nat.le_of_ble_eq_true rfl) ?_
    refine ge_getI rfl (sT0 s sea1001) rfl ?_
    refine ge_ge rfl (fun h_5 => ?_) (fun h_14 => ?_)
    · refine ge_run (pc' := 10) (L' := [.ref 1000, .int x1_1, .int x2_2]) (S' := [.ref 1000]) 1 rfl ?_
      refine ge_getR (b := 1001) rfl (t1000 s) rfl (r1000_0 s) (Nat.le_of_ble_eq_true rfl) ?_
      refine ge_getR (b := (1001 + 2)) rfl (sT0 s sea1001) rfl (sR1 s sea1001) (sge sea1001) ?_
      refine ge_run (pc' := 13) (L' := [.ref 1000, .int x1_1, .int x2_2]) (S' := [.int x2_2, .ref (1001 + 2)]) 1 rfl ?_
      refine ge_grd (fun g_6 g_7 => ?_)
      refine ge_aald (jn := (ix x2_2)) (b := (1001 + 3 + (ix x2_2))) rfl (sT2 s sea1001) (Or.inl rfl) ⟨g_6, rfl⟩ g_7 (sRr_fish s sea1001 g_7) (sge2 sea1001) ?_
      refine ge_run (pc' := 15) (L' := [.ref 1000, .int x1_1, .int x2_2]) (S' := [.int (3 : Int32), .ref (1001 + 3 + (ix x2_2))]) 1 rfl ?_
      refine ge_iald (jn := 3) rfl (sRow_fish s sea1001 g_7) lk3 (by decide) ?_
      refine ge_bind (K1 := fun (q : Int32) e => e = .inl (27, [.ref 1000, .int q, .int x2_2], [], (n, u, t, i, r))) ?_ ?_
      · refine ge_ne0 rfl (fun h_9 => ?_) (fun h_13 => ?_)
        · refine ge_run (pc' := 19) (L' := [.ref 1000, .int x1_1, .int x2_2]) (S' := [.int x2_2, .ref 1000]) 2 rfl ?_
          refine ge_cv rfl rfl rfl (t1000 s) rfl rfl rfl (D := 4) (Nat.le_trans (by decide) hd) (c_Lc_isMet (n := n) (u := u) (t := t) (i := i) (r := r) s x2_2) ?_
          rintro v_10 -
          dsimp only [bkE, F_i0]
          refine ge_ne0 rfl (fun h_11 => ?_) (fun h_12 => ?_)
          · refine ge_run (pc' := 27) (L' := [.ref 1000, .int (x1_1 ||| (shl (1 : Int32) x2_2)), .int x2_2]) (S' := []) 6 rfl ?_
            exact ge_leaf rfl
          · exact ge_leaf rfl
        · exact ge_leaf rfl
      · rintro x1_8 _ rfl
        try dsimp only
        refine ge_run (pc' := 4) (L' := [.ref 1000, .int x1_8, .int (x2_2 + (1 : Int32))]) (S' := []) 2 rfl ?_
        exact ge_leaf (K := kX _ _) rfl
    · exact ge_leaf (K := kX _ _) (Exists.intro _ rfl)
  · rintro x1_3 _ ⟨w_4, rfl⟩
    try dsimp only
    refine ge_run (pc' := 30) (L' := [.ref 1000, .int x1_3, w_4]) (S' := [.int x1_3]) 1 rfl ?_
    exact ge_ret rfl rfl (And.intro rfl trivial)
def f_Lc_haul (i : MI) (x1 : Int32) (x2 : Int32) : Option ((Int32 ⊕ Nat) × MI) :=
  (f_Lc_needBoat i x1).bind (fun | .inl () => (f_Lc_needWithin x2 (0 : Int32) (5 : Int32)).bind (fun | .inl () => (f_Co_plan i 1001 x1 x2).bind (fun i_3 => some (.inl (i_3 1603 5), i_3)) | .inr c_2 => some (.inr c_2, i)) | .inr c_1 => some (.inr c_1, i))
set_option maxHeartbeats 4000000 in
theorem c_Lc_haul {n u : Nat} {t : MT} {i : MI} {r : MR} (s : Sh n t r) (x1 : Int32) (x2 : Int32) : Cn 38 143 [.ref 1000, .int x1, .int x2] (n, u, t, i, r) (f_Lc_haul i x1 x2) (F_ti1 n u t r) PT := by
  refine cn_of (Y := K_Lc_haul) (L0 := [.ref 1000, .int x1, .int x2]) rfl rfl rfl ?_
  intro d hd
  unfold f_Lc_haul
  refine ge_run (pc' := 2) (L' := [.ref 1000, .int x1, .int x2]) (S' := [.int x1, .ref 1000]) 2 rfl ?_
  refine ge_cv rfl rfl rfl (t1000 s) rfl rfl rfl (D := 1) (Nat.le_trans (by decide) hd) (c_Lc_needBoat (n := n) (u := u) (t := t) (i := i) (r := r) s x1) ?_
  rintro (⟨⟩ | c_1) -
  · dsimp only [bkE, F_tv0]
    refine ge_run (pc' := 6) (L' := [.ref 1000, .int x1, .int x2]) (S' := [.int (5 : Int32), .int (0 : Int32), .int x2]) 3 rfl ?_
    refine ge_cs rfl rfl rfl rfl rfl rfl (D := 1) (Nat.le_trans (by decide) hd) (c_Lc_needWithin (n := n) (u := u) (t := t) (i := i) (r := r) s x2 (0 : Int32) (5 : Int32)) ?_
    rintro (⟨⟩ | c_2) -
    · dsimp only [bkE, F_tv0]
      refine ge_run (pc' := 8) (L' := [.ref 1000, .int x1, .int x2]) (S' := [.ref 1000]) 1 rfl ?_
      refine ge_getR (b := 1603) rfl (t1000 s) rfl (r1000_9 s) (Nat.le_of_ble_eq_true rfl) ?_
      refine ge_run (pc' := 10) (L' := [.ref 1000, .int x1, .int x2]) (S' := [.ref 1000, .ref 1603]) 1 rfl ?_
      refine ge_getR (b := 1001) rfl (t1000 s) rfl (r1000_0 s) (Nat.le_of_ble_eq_true rfl) ?_
      refine ge_run (pc' := 13) (L' := [.ref 1000, .int x1, .int x2]) (S' := [.int x2, .int x1, .ref 1001, .ref 1603]) 2 rfl ?_
      refine ge_cv rfl rfl rfl (t1603 s) rfl rfl rfl (D := 37) (Nat.le_trans (by decide) hd) (c_Co_plan (n := n) (u := u) (t := t) (i := i) (r := r) s 1001 sea1001 x1 x2) ?_
      rintro i_3 -
      dsimp only [bkE, F_v1]
      refine ge_run (pc' := 15) (L' := [.ref 1000, .int x1, .int x2]) (S' := [.ref 1000]) 1 rfl ?_
      refine ge_getR (b := 1603) rfl (t1000 s) rfl (r1000_9 s) (Nat.le_of_ble_eq_true rfl) ?_
      refine ge_getI rfl (t1603 s) rfl ?_
      exact ge_ret rfl rfl (And.intro rfl trivial)
    · exact ge_leaf (And.intro rfl trivial)
  · exact ge_leaf (And.intro rfl trivial)
def f_Lc_first (i : MI) (x1 : Int32) (x2 : Int32) : Option ((Int32 ⊕ Nat) × MI) :=
  (f_Lc_needBoat i x1).bind (fun | .inl () => (f_Lc_needWithin x2 (0 : Int32) (5 : Int32)).bind (fun | .inl () => (f_Co_plan i 1001 x1 x2).bind (fun i_3 => some (.inl (i_3 1603 6), i_3)) | .inr c_2 => some (.inr c_2, i)) | .inr c_1 => some (.inr c_1, i))
set_option maxHeartbeats 4000000 in
theorem c_Lc_first {n u : Nat} {t : MT} {i : MI} {r : MR} (s : Sh n t r) (x1 : Int32) (x2 : Int32) : Cn 38 144 [.ref 1000, .int x1, .int x2] (n, u, t, i, r) (f_Lc_first i x1 x2) (F_ti1 n u t r) PT := by
  refine cn_of (Y := K_Lc_first) (L0 := [.ref 1000, .int x1, .int x2]) rfl rfl rfl ?_
  intro d hd
  unfold f_Lc_first
  refine ge_run (pc' := 2) (L' := [.ref 1000, .int x1, .int x2]) (S' := [.int x1, .ref 1000]) 2 rfl ?_
  refine ge_cv rfl rfl rfl (t1000 s) rfl rfl rfl (D := 1) (Nat.le_trans (by decide) hd) (c_Lc_needBoat (n := n) (u := u) (t := t) (i := i) (r := r) s x1) ?_
  rintro (⟨⟩ | c_1) -
  · dsimp only [bkE, F_tv0]
    refine ge_run (pc' := 6) (L' := [.ref 1000, .int x1, .int x2]) (S' := [.int (5 : Int32), .int (0 : Int32), .int x2]) 3 rfl ?_
    refine ge_cs rfl rfl rfl rfl rfl rfl (D := 1) (Nat.le_trans (by decide) hd) (c_Lc_needWithin (n := n) (u := u) (t := t) (i := i) (r := r) s x2 (0 : Int32) (5 : Int32)) ?_
    rintro (⟨⟩ | c_2) -
    · dsimp only [bkE, F_tv0]
      refine ge_run (pc' := 8) (L' := [.ref 1000, .int x1, .int x2]) (S' := [.ref 1000]) 1 rfl ?_
      refine ge_getR (b := 1603) rfl (t1000 s) rfl (r1000_9 s) (Nat.le_of_ble_eq_true rfl) ?_
      refine ge_run (pc' := 10) (L' := [.ref 1000, .int x1, .int x2]) (S' := [.ref 1000, .ref 1603]) 1 rfl ?_
      refine ge_getR (b := 1001) rfl (t1000 s) rfl (r1000_0 s) (Nat.le_of_ble_eq_true rfl) ?_
      refine ge_run (pc' := 13) (L' := [.ref 1000, .int x1, .int x2]) (S' := [.int x2, .int x1, .ref 1001, .ref 1603]) 2 rfl ?_
      refine ge_cv rfl rfl rfl (t1603 s) rfl rfl rfl (D := 37) (Nat.le_trans (by decide) hd) (c_Co_plan (n := n) (u := u) (t := t) (i := i) (r := r) s 1001 sea1001 x1 x2) ?_
      rintro i_3 -
      dsimp only [bkE, F_v1]
      refine ge_run (pc' := 15) (L' := [.ref 1000, .int x1, .int x2]) (S' := [.ref 1000]) 1 rfl ?_
      refine ge_getR (b := 1603) rfl (t1000 s) rfl (r1000_9 s) (Nat.le_of_ble_eq_true rfl) ?_
      refine ge_getI rfl (t1603 s) rfl ?_
      exact ge_ret rfl rfl (And.intro rfl trivial)
    · exact ge_leaf (And.intro rfl trivial)
  · exact ge_leaf (And.intro rfl trivial)
def f_Lc_eddy (i : MI) : Option (Int32 × MI) :=
  (f_J_fill i 1637 25 (0 : Int32)).bind (fun i_1 => (itr (σ := Int32 × MI) (ρ := MI) (fun (x1_2, i_3) => if x1_2 < (25 : Int32) then ((itr (σ := Int32 × Int32 × Int32 × MI) (ρ := MI) (fun (x2_13, x3_14, x4_15, i_16) => if x4_15 < (25 : Int32) then (if ((shr x2_13 x3_14) &&& (1 : Int32)) = 0 then (grd x3_14 25 (bnd (wr i_16 1637 (ix x3_14) ((i_16 1637 (ix x3_14)) + (1 : Int32))) (fun i_25 => (f_Se_drift i_25 1001 x3_14).bind (fun v_26 => some (.inl ((x2_13 ||| (shl (1 : Int32) x3_14)), v_26, (x4_15 + (1 : Int32)), i_25)))))) else (some (.inr i_16))) else (some (.inr i_16))) 1000000 ((0 : Int32), x1_2, (0 : Int32), i_3)).bind (fun i_17 => some (.inl ((x1_2 + (1 : Int32)), i_17)))) else (some (.inr i_3))) 1000000 ((0 : Int32), i_1)).bind (fun i_7 => (itr (σ := Int32 × Int32) (ρ := Int32) (fun (x1_30, x2_31) => if x2_31 < (25 : Int32) then (grd x2_31 25 (grd x1_30 25 ((if (i_7 1637 (ix x1_30)) < (i_7 1637 (ix x2_31)) then (some x2_31) else (some x1_30) : Option (Int32)).bind (fun x1_39 => some (.inl (x1_39, (x2_31 + (1 : Int32)))))))) else (some (.inr x1_30))) 1000000 ((0 : Int32), (1 : Int32))).bind (fun x1_32 => some (x1_32, i_7))))
set_option maxHeartbeats 4000000 in
theorem c_Lc_eddy {n u : Nat} {t : MT} {i : MI} {r : MR} (s : Sh n t r)  : Cn 3 145 [.ref 1000] (n, u, t, i, r) (f_Lc_eddy i ) (F_i1 n u t r) PT := by
  refine cn_of (Y := K_Lc_eddy) (L0 := [.ref 1000, uV, uV, uV, uV]) rfl rfl rfl ?_
  intro d hd
  unfold f_Lc_eddy
  refine ge_run (pc' := 1) (L' := [.ref 1000, uV, uV, uV, uV]) (S' := [.ref 1000]) 1 rfl ?_
  refine ge_getR (b := 1637) rfl (t1000 s) rfl (r1000_14 s) (Nat.le_of_ble_eq_true rfl) ?_
  refine ge_run (pc' := 3) (L' := [.ref 1000, uV, uV, uV, uV]) (S' := [.int (0 : Int32), .ref 1637]) 1 rfl ?_
  refine ge_cs rfl rfl rfl rfl rfl rfl (D := 1) (Nat.le_trans (by decide) hd) (c_J_fill (n := n) (u := u) (t := t) (i := i) (r := r) s 1637 25 (t1637 s) (Nat.le_of_ble_eq_true rfl) (0 : Int32)) ?_
  rintro i_1 -
  dsimp only [bkE, F_v1]
  refine ge_run (pc' := 6) (L' := [.ref 1000, .int (0 : Int32), uV, uV, uV]) (S' := []) 2 rfl ?_
  refine ge_bind (K1 := fun (q : MI) e => ∃ w_8 w_9 w_10 w_11 : Value, e = .inl (47, [.ref 1000, w_8, w_9, w_10, w_11], [], (n, u, t, q, r))) (ge_itr (C := fun (q : Int32 × MI) e => ∃ w_4 w_5 w_6 : Value, e = .inl (6, [.ref 1000, .int q.1, w_4, w_5, w_6], [], (n, u, t, q.2, r))) ?_ _ _ _ (Exists.intro _ (Exists.intro _ (Exists.intro _ rfl)))) ?_
  · rintro ⟨x1_2, i_3⟩ _ ⟨w_4, w_5, w_6, rfl⟩
    try dsimp only
    refine ge_run (pc' := 8) (L' := [.ref 1000, .int x1_2, w_4, w_5, w_6]) (S' := [.int (25 : Int32), .int x1_2]) 2 rfl ?_
    refine ge_ge rfl (fun h_12 => ?_) (fun h_29 => ?_)
    · refine ge_run (pc' := 15) (L' := [.ref 1000, .int x1_2, .int (0 : Int32), .int x1_2, .int (0 : Int32)]) (S' := []) 6 rfl ?_
      refine ge_bind (K1 := fun (q : MI) e => ∃ w_18 w_19 w_20 : Value, e = .inl (45, [.ref 1000, .int x1_2, w_18, w_19, w_20], [], (n, u, t, q, r))) (ge_itr (C := fun (q : Int32 × Int32 × Int32 × MI) e => e = .inl (15, [.ref 1000, .int x1_2, .int q.1, .int q.2.1, .int q.2.2.1], [], (n, u, t, q.2.2.2, r))) ?_ _ _ _ rfl) ?_
      · rintro ⟨x2_13, x3_14, x4_15, i_16⟩ _ rfl
        try dsimp only
        refine ge_run (pc' := 17) (L' := [.ref 1000, .int x1_2, .int x2_13, .int x3_14, .int x4_15]) (S' := [.int (25 : Int32), .int x4_15]) 2 rfl ?_
        refine ge_ge rfl (fun h_21 => ?_) (fun h_28 => ?_)
        · refine ge_run (pc' := 23) (L' := [.ref 1000, .int x1_2, .int x2_13, .int x3_14, .int x4_15]) (S' := [.int ((shr x2_13 x3_14) &&& (1 : Int32))]) 5 rfl ?_
          refine ge_ne0 rfl (fun h_22 => ?_) (fun h_27 => ?_)
          · refine ge_run (pc' := 31) (L' := [.ref 1000, .int x1_2, .int (x2_13 ||| (shl (1 : Int32) x3_14)), .int x3_14, .int x4_15]) (S' := [.ref 1000]) 7 rfl ?_
            refine ge_getR (b := 1637) rfl (t1000 s) rfl (r1000_14 s) (Nat.le_of_ble_eq_true rfl) ?_
            refine ge_run (pc' := 34) (L' := [.ref 1000, .int x1_2, .int (x2_13 ||| (shl (1 : Int32) x3_14)), .int x3_14, .int x4_15]) (S' := [.int x3_14, .ref 1637, .int x3_14, .ref 1637]) 2 rfl ?_
            refine ge_grd (fun g_23 g_24 => ?_)
            refine ge_iald (jn := (ix x3_14)) rfl (t1637 s) ⟨g_23, rfl⟩ g_24 ?_
            refine ge_run (pc' := 37) (L' := [.ref 1000, .int x1_2, .int (x2_13 ||| (shl (1 : Int32) x3_14)), .int x3_14, .int x4_15]) (S' := [.int ((i_16 1637 (ix x3_14)) + (1 : Int32)), .int x3_14, .ref 1637]) 2 rfl ?_
            refine ge_iast (jn := (ix x3_14)) rfl (t1637 s) (Nat.le_of_ble_eq_true rfl) ⟨g_23, rfl⟩ g_24 (fun i_25 => ?_)
            refine ge_run (pc' := 39) (L' := [.ref 1000, .int x1_2, .int (x2_13 ||| (shl (1 : Int32) x3_14)), .int x3_14, .int x4_15]) (S' := [.ref 1000]) 1 rfl ?_
            refine ge_getR (b := 1001) rfl (t1000 s) rfl (r1000_0 s) (Nat.le_of_ble_eq_true rfl) ?_
            refine ge_run (pc' := 41) (L' := [.ref 1000, .int x1_2, .int (x2_13 ||| (shl (1 : Int32) x3_14)), .int x3_14, .int x4_15]) (S' := [.int x3_14, .ref 1001]) 1 rfl ?_
            refine ge_cv rfl rfl rfl (sT0 s sea1001) rfl rfl rfl (D := 2) (Nat.le_trans (by decide) hd) (c_Se_drift (n := n) (u := u) (t := t) (i := i_25) (r := r) s 1001 sea1001 x3_14) ?_
            rintro v_26 -
            dsimp only [bkE, F_i0]
            refine ge_run (pc' := 15) (L' := [.ref 1000, .int x1_2, .int (x2_13 ||| (shl (1 : Int32) x3_14)), .int v_26, .int (x4_15 + (1 : Int32))]) (S' := []) 3 rfl ?_
            exact ge_leaf (K := kX _ _) rfl
          · exact ge_leaf (K := kX _ _) (Exists.intro _ (Exists.intro _ (Exists.intro _ rfl)))
        · exact ge_leaf (K := kX _ _) (Exists.intro _ (Exists.intro _ (Exists.intro _ rfl)))
      · rintro i_17 _ ⟨w_18, w_19, w_20, rfl⟩
        try dsimp only
        refine ge_run (pc' := 6) (L' := [.ref 1000, .int (x1_2 + (1 : Int32)), w_18, w_19, w_20]) (S' := []) 2 rfl ?_
        exact ge_leaf (K := kX _ _) (Exists.intro _ (Exists.intro _ (Exists.intro _ rfl)))
    · exact ge_leaf (K := kX _ _) (Exists.intro _ (Exists.intro _ (Exists.intro _ (Exists.intro _ rfl))))
  · rintro i_7 _ ⟨w_8, w_9, w_10, w_11, rfl⟩
    try dsimp only
    refine ge_run (pc' := 51) (L' := [.ref 1000, .int (0 : Int32), .int (1 : Int32), w_10, w_11]) (S' := []) 4 rfl ?_
    refine ge_bind (K1 := fun (q : Int32) e => ∃ w_33 : Value, e = .inl (67, [.ref 1000, .int q, w_33, w_10, w_11], [], (n, u, t, i_7, r))) (ge_itr (C := fun (q : Int32 × Int32) e => e = .inl (51, [.ref 1000, .int q.1, .int q.2, w_10, w_11], [], (n, u, t, i_7, r))) ?_ _ _ _ rfl) ?_
    · rintro ⟨x1_30, x2_31⟩ _ rfl
      try dsimp only
      refine ge_run (pc' := 53) (L' := [.ref 1000, .int x1_30, .int x2_31, w_10, w_11]) (S' := [.int (25 : Int32), .int x2_31]) 2 rfl ?_
      refine ge_ge rfl (fun h_34 => ?_) (fun h_42 => ?_)
      · refine ge_run (pc' := 55) (L' := [.ref 1000, .int x1_30, .int x2_31, w_10, w_11]) (S' := [.ref 1000]) 1 rfl ?_
        refine ge_getR (b := 1637) rfl (t1000 s) rfl (r1000_14 s) (Nat.le_of_ble_eq_true rfl) ?_
        refine ge_run (pc' := 57) (L' := [.ref 1000, .int x1_30, .int x2_31, w_10, w_11]) (S' := [.int x2_31, .ref 1637]) 1 rfl ?_
        refine ge_grd (fun g_35 g_36 => ?_)
        refine ge_iald (jn := (ix x2_31)) rfl (t1637 s) ⟨g_35, rfl⟩ g_36 ?_
        refine ge_run (pc' := 59) (L' := [.ref 1000, .int x1_30, .int x2_31, w_10, w_11]) (S' := [.ref 1000, .int (i_7 1637 (ix x2_31))]) 1 rfl ?_
        refine ge_getR (b := 1637) rfl (t1000 s) rfl (r1000_14 s) (Nat.le_of_ble_eq_true rfl) ?_
        refine ge_run (pc' := 61) (L' := [.ref 1000, .int x1_30, .int x2_31, w_10, w_11]) (S' := [.int x1_30, .ref 1637, .int (i_7 1637 (ix x2_31))]) 1 rfl ?_
        refine ge_grd (fun g_37 g_38 => ?_)
        refine ge_iald (jn := (ix x1_30)) rfl (t1637 s) ⟨g_37, rfl⟩ g_38 ?_
        refine ge_bind (K1 := fun (q : Int32) e => e = .inl (65, [.ref 1000, .int q, .int x2_31, w_10, w_11], [], (n, u, t, i_7, r))) ?_ ?_
        · refine ge_le rfl (fun h_40 => ?_) (fun h_41 => ?_)
          · refine ge_run (pc' := 65) (L' := [.ref 1000, .int x2_31, .int x2_31, w_10, w_11]) (S' := []) 2 rfl ?_
            exact ge_leaf rfl
          · exact ge_leaf rfl
        · rintro x1_39 _ rfl
          try dsimp only
          refine ge_run (pc' := 51) (L' := [.ref 1000, .int x1_39, .int (x2_31 + (1 : Int32)), w_10, w_11]) (S' := []) 2 rfl ?_
          exact ge_leaf (K := kX _ _) rfl
      · exact ge_leaf (K := kX _ _) (Exists.intro _ rfl)
    · rintro x1_32 _ ⟨w_33, rfl⟩
      try dsimp only
      refine ge_run (pc' := 68) (L' := [.ref 1000, .int x1_32, w_33, w_10, w_11]) (S' := [.int x1_32]) 1 rfl ?_
      exact ge_ret rfl rfl (And.intro rfl trivial)
def f_Lc_whose (i : MI) (x1 : Int32) : Option ((Int32 ⊕ Nat) × MI) :=
  (if x1 = (-1 : Int32) then (some (.inl ())) else ((f_Lc_needFish i x1).bind (fun | .inl () => some (.inl ()) | .inr c_3 => some (.inr ((.inr c_3, i))))) : Option ((Unit) ⊕ ((Int32 ⊕ Nat) × MI))).bind (fun | .inl _ => (f_Pu_plan i 1001).bind (fun i_4 => if x1 = (-1 : Int32) then (some (.inl (i_4 1614 5), i_4)) else (grd x1 8 (some (.inl (i_4 1615 (ix x1)), i_4)))) | .inr y_9 => some y_9)
set_option maxHeartbeats 4000000 in
theorem c_Lc_whose {n u : Nat} {t : MT} {i : MI} {r : MR} (s : Sh n t r) (x1 : Int32) : Cn 5 146 [.ref 1000, .int x1] (n, u, t, i, r) (f_Lc_whose i x1) (F_ti1 n u t r) PT := by
  refine cn_of (Y := K_Lc_whose) (L0 := [.ref 1000, .int x1]) rfl rfl rfl ?_
  intro d hd
  unfold f_Lc_whose
  refine ge_run (pc' := 2) (L' := [.ref 1000, .int x1]) (S' := [.int (-1 : Int32), .int x1]) 2 rfl ?_
  refine ge_bind (K1 := kX (fun (q : Unit) e => e = .inl (6, [.ref 1000, .int x1], [], (n, u, t, i, r))) (kR (F_ti1 n u t r) PT)) ?_ ?_
  · refine ge_eq rfl (fun h_1 => ?_) (fun h_2 => ?_)
    · exact ge_leaf rfl
    · refine ge_run (pc' := 5) (L' := [.ref 1000, .int x1]) (S' := [.int x1, .ref 1000]) 2 rfl ?_
      refine ge_cv rfl rfl rfl (t1000 s) rfl rfl rfl (D := 1) (Nat.le_trans (by decide) hd) (c_Lc_needFish (n := n) (u := u) (t := t) (i := i) (r := r) s x1) ?_
      rintro (⟨⟩ | c_3) -
      · dsimp only [bkE, F_tv0]
        exact ge_leaf rfl
      · exact ge_leaf (And.intro rfl trivial)
  · rintro (_ | y_9) e he
    · obtain rfl := he
      try dsimp only
      refine ge_run (pc' := 7) (L' := [.ref 1000, .int x1]) (S' := [.ref 1000]) 1 rfl ?_
      refine ge_getR (b := 1614) rfl (t1000 s) rfl (r1000_10 s) (Nat.le_of_ble_eq_true rfl) ?_
      refine ge_run (pc' := 9) (L' := [.ref 1000, .int x1]) (S' := [.ref 1000, .ref 1614]) 1 rfl ?_
      refine ge_getR (b := 1001) rfl (t1000 s) rfl (r1000_0 s) (Nat.le_of_ble_eq_true rfl) ?_
      refine ge_cv rfl rfl rfl (t1614 s) rfl rfl rfl (D := 4) (Nat.le_trans (by decide) hd) (c_Pu_plan (n := n) (u := u) (t := t) (i := i) (r := r) s 1001 sea1001) ?_
      rintro i_4 -
      dsimp only [bkE, F_v1]
      refine ge_run (pc' := 13) (L' := [.ref 1000, .int x1]) (S' := [.int (-1 : Int32), .int x1]) 2 rfl ?_
      refine ge_ne rfl (fun h_5 => ?_) (fun h_6 => ?_)
      · refine ge_run (pc' := 15) (L' := [.ref 1000, .int x1]) (S' := [.ref 1000]) 1 rfl ?_
        refine ge_getR (b := 1614) rfl (t1000 s) rfl (r1000_10 s) (Nat.le_of_ble_eq_true rfl) ?_
        refine ge_getI rfl (t1614 s) rfl ?_
        refine ge_run (pc' := 23) (L' := [.ref 1000, .int x1]) (S' := [.int (i_4 1614 5)]) 1 rfl ?_
        exact ge_ret rfl rfl (And.intro rfl trivial)
      · refine ge_run (pc' := 19) (L' := [.ref 1000, .int x1]) (S' := [.ref 1000]) 1 rfl ?_
        refine ge_getR (b := 1614) rfl (t1000 s) rfl (r1000_10 s) (Nat.le_of_ble_eq_true rfl) ?_
        refine ge_getR (b := 1615) rfl (t1614 s) rfl (r1614_0 s) (Nat.le_of_ble_eq_true rfl) ?_
        refine ge_run (pc' := 22) (L' := [.ref 1000, .int x1]) (S' := [.int x1, .ref 1615]) 1 rfl ?_
        refine ge_grd (fun g_7 g_8 => ?_)
        refine ge_iald (jn := (ix x1)) rfl (t1615 s) ⟨g_7, rfl⟩ g_8 ?_
        exact ge_ret rfl rfl (And.intro rfl trivial)
    · exact ge_leaf he
def f_Lc_waysWith (i : MI) (x1 : Int32) (x2 : Int32) : Option (Int32) :=
  (itr (σ := Int32 × Int32) (ρ := Int32) (fun (x3_1, x4_2) => if x2 < x4_2 then (some (.inr x3_1)) else (if x1 < x4_2 then (some (.inr x3_1)) else (grd (x1 - x4_2) 100 (some (.inl ((x3_1 + (i 1636 (ix (x1 - x4_2)))), (x4_2 + (1 : Int32)))))))) 1000000 ((0 : Int32), (0 : Int32))).bind (fun x3_3 => some (x3_3))
set_option maxHeartbeats 4000000 in
theorem c_Lc_waysWith {n u : Nat} {t : MT} {i : MI} {r : MR} (s : Sh n t r) (x1 : Int32) (x2 : Int32) : Cn 1 188 [.ref 1000, .int x1, .int x2] (n, u, t, i, r) (f_Lc_waysWith i x1 x2) (F_i0 n u t i r) PT := by
  refine cn_of (Y := K_Lc_waysWith) (L0 := [.ref 1000, .int x1, .int x2, uV, uV]) rfl rfl rfl ?_
  intro d hd
  unfold f_Lc_waysWith
  refine ge_run (pc' := 4) (L' := [.ref 1000, .int x1, .int x2, .int (0 : Int32), .int (0 : Int32)]) (S' := []) 4 rfl ?_
  refine ge_bind (K1 := fun (q : Int32) e => ∃ w_4 : Value, e = .inl (21, [.ref 1000, .int x1, .int x2, .int q, w_4], [], (n, u, t, i, r))) (ge_itr (C := fun (q : Int32 × Int32) e => e = .inl (4, [.ref 1000, .int x1, .int x2, .int q.1, .int q.2], [], (n, u, t, i, r))) ?_ _ _ _ rfl) ?_
  · rintro ⟨x3_1, x4_2⟩ _ rfl
    try dsimp only
    refine ge_run (pc' := 6) (L' := [.ref 1000, .int x1, .int x2, .int x3_1, .int x4_2]) (S' := [.int x2, .int x4_2]) 2 rfl ?_
    refine ge_gt rfl (fun h_5 => ?_) (fun h_6 => ?_)
    · exact ge_leaf (K := kX _ _) (Exists.intro _ rfl)
    · refine ge_run (pc' := 9) (L' := [.ref 1000, .int x1, .int x2, .int x3_1, .int x4_2]) (S' := [.int x1, .int x4_2]) 2 rfl ?_
      refine ge_gt rfl (fun h_7 => ?_) (fun h_8 => ?_)
      · exact ge_leaf (K := kX _ _) (Exists.intro _ rfl)
      · refine ge_run (pc' := 12) (L' := [.ref 1000, .int x1, .int x2, .int x3_1, .int x4_2]) (S' := [.ref 1000, .int x3_1]) 2 rfl ?_
        refine ge_getR (b := 1636) rfl (t1000 s) rfl (r1000_13 s) (Nat.le_of_ble_eq_true rfl) ?_
        refine ge_run (pc' := 16) (L' := [.ref 1000, .int x1, .int x2, .int x3_1, .int x4_2]) (S' := [.int (x1 - x4_2), .ref 1636, .int x3_1]) 3 rfl ?_
        refine ge_grd (fun g_9 g_10 => ?_)
        refine ge_iald (jn := (ix (x1 - x4_2))) rfl (t1636 s) ⟨g_9, rfl⟩ g_10 ?_
        refine ge_run (pc' := 4) (L' := [.ref 1000, .int x1, .int x2, .int (x3_1 + (i 1636 (ix (x1 - x4_2)))), .int (x4_2 + (1 : Int32))]) (S' := []) 4 rfl ?_
        exact ge_leaf (K := kX _ _) rfl
  · rintro x3_3 _ ⟨w_4, rfl⟩
    try dsimp only
    refine ge_run (pc' := 22) (L' := [.ref 1000, .int x1, .int x2, .int x3_3, w_4]) (S' := [.int x3_3]) 1 rfl ?_
    exact ge_ret rfl rfl (And.intro rfl trivial)
def f_Lc_parted (i : MI) (x1 : Int32) : Option ((Int32 ⊕ Nat) × MI) :=
  (f_Lc_needWithin x1 (0 : Int32) (99 : Int32)).bind (fun | .inl () => (f_J_fill i 1636 100 (0 : Int32)).bind (fun i_2 => bnd (wr i_2 1636 0 (1 : Int32)) (fun i_3 => (itr (σ := Int32 × MI) (ρ := MI) (fun (x2_4, i_5) => if x2_4 < (i_5 1001 10) then ((itr (σ := Int32 × MI) (ρ := MI) (fun (x3_11, i_12) => if x3_11 < 0 then (some (.inr i_12)) else (grd x2_4 6 ((f_Lc_waysWith i_12 x3_11 (i_12 (1001 + 22 + (ix x2_4)) 1)).bind (fun v_19 => grd x3_11 100 (bnd (wr i_12 1636 (ix x3_11) v_19) (fun i_22 => some (.inl ((x3_11 + (-1 : Int32)), i_22)))))))) 1000000 (x1, i_5)).bind (fun i_13 => some (.inl ((x2_4 + (1 : Int32)), i_13)))) else (some (.inr i_5))) 1000000 ((0 : Int32), i_3)).bind (fun i_7 => grd x1 100 (some (.inl (i_7 1636 (ix x1)), i_7))))) | .inr c_1 => some (.inr c_1, i))
set_option maxHeartbeats 4000000 in
theorem c_Lc_parted {n u : Nat} {t : MT} {i : MI} {r : MR} (s : Sh n t r) (x1 : Int32) : Cn 2 147 [.ref 1000, .int x1] (n, u, t, i, r) (f_Lc_parted i x1) (F_ti1 n u t r) PT := by
  refine cn_of (Y := K_Lc_parted) (L0 := [.ref 1000, .int x1, uV, uV]) rfl rfl rfl ?_
  intro d hd
  unfold f_Lc_parted
  refine ge_run (pc' := 3) (L' := [.ref 1000, .int x1, uV, uV]) (S' := [.int (99 : Int32), .int (0 : Int32), .int x1]) 3 rfl ?_
  refine ge_cs rfl rfl rfl rfl rfl rfl (D := 1) (Nat.le_trans (by decide) hd) (c_Lc_needWithin (n := n) (u := u) (t := t) (i := i) (r := r) s x1 (0 : Int32) (99 : Int32)) ?_
  rintro (⟨⟩ | c_1) -
  · dsimp only [bkE, F_tv0]
    refine ge_run (pc' := 5) (L' := [.ref 1000, .int x1, uV, uV]) (S' := [.ref 1000]) 1 rfl ?_
    refine ge_getR (b := 1636) rfl (t1000 s) rfl (r1000_13 s) (Nat.le_of_ble_eq_true rfl) ?_
    refine ge_run (pc' := 7) (L' := [.ref 1000, .int x1, uV, uV]) (S' := [.int (0 : Int32), .ref 1636]) 1 rfl ?_
    refine ge_cs rfl rfl rfl rfl rfl rfl (D := 1) (Nat.le_trans (by decide) hd) (c_J_fill (n := n) (u := u) (t := t) (i := i) (r := r) s 1636 100 (t1636 s) (Nat.le_of_ble_eq_true rfl) (0 : Int32)) ?_
    rintro i_2 -
    dsimp only [bkE, F_v1]
    refine ge_run (pc' := 9) (L' := [.ref 1000, .int x1, uV, uV]) (S' := [.ref 1000]) 1 rfl ?_
    refine ge_getR (b := 1636) rfl (t1000 s) rfl (r1000_13 s) (Nat.le_of_ble_eq_true rfl) ?_
    refine ge_run (pc' := 12) (L' := [.ref 1000, .int x1, uV, uV]) (S' := [.int (1 : Int32), .int (0 : Int32), .ref 1636]) 2 rfl ?_
    refine ge_iast (jn := 0) rfl (t1636 s) (Nat.le_of_ble_eq_true rfl) lk0 (by decide) (fun i_3 => ?_)
    refine ge_run (pc' := 15) (L' := [.ref 1000, .int x1, .int (0 : Int32), uV]) (S' := []) 2 rfl ?_
    refine ge_bind (K1 := fun (q : MI) e => ∃ w_8 w_9 : Value, e = .inl (42, [.ref 1000, .int x1, w_8, w_9], [], (n, u, t, q, r))) (ge_itr (C := fun (q : Int32 × MI) e => ∃ w_6 : Value, e = .inl (15, [.ref 1000, .int x1, .int q.1, w_6], [], (n, u, t, q.2, r))) ?_ _ _ _ (Exists.intro _ rfl)) ?_
    · rintro ⟨x2_4, i_5⟩ _ ⟨w_6, rfl⟩
      try dsimp only
      refine ge_run (pc' := 17) (L' := [.ref 1000, .int x1, .int x2_4, w_6]) (S' := [.ref 1000, .int x2_4]) 2 rfl ?_
      refine ge_getR (b := 1001) rfl (t1000 s) rfl (r1000_0 s) (Nat.le_of_ble_eq_true rfl) ?_
      refine ge_getI rfl (sT0 s sea1001) rfl ?_
      refine ge_ge rfl (fun h_10 => ?_) (fun h_23 => ?_)
      · refine ge_run (pc' := 22) (L' := [.ref 1000, .int x1, .int x2_4, .int x1]) (S' := []) 2 rfl ?_
        refine ge_bind (K1 := fun (q : MI) e => ∃ w_14 : Value, e = .inl (40, [.ref 1000, .int x1, .int x2_4, w_14], [], (n, u, t, q, r))) (ge_itr (C := fun (q : Int32 × MI) e => e = .inl (22, [.ref 1000, .int x1, .int x2_4, .int q.1], [], (n, u, t, q.2, r))) ?_ _ _ _ rfl) ?_
        · rintro ⟨x3_11, i_12⟩ _ rfl
          try dsimp only
          refine ge_run (pc' := 23) (L' := [.ref 1000, .int x1, .int x2_4, .int x3_11]) (S' := [.int x3_11]) 1 rfl ?_
          refine ge_lt0 rfl (fun h_15 => ?_) (fun h_16 => ?_)
          · exact ge_leaf (K := kX _ _) (Exists.intro _ rfl)
          · refine ge_run (pc' := 25) (L' := [.ref 1000, .int x1, .int x2_4, .int x3_11]) (S' := [.ref 1000]) 1 rfl ?_
            refine ge_getR (b := 1636) rfl (t1000 s) rfl (r1000_13 s) (Nat.le_of_ble_eq_true rfl) ?_
            refine ge_run (pc' := 30) (L' := [.ref 1000, .int x1, .int x2_4, .int x3_11]) (S' := [.ref 1000, .int x3_11, .ref 1000, .int x3_11, .ref 1636]) 4 rfl ?_
            refine ge_getR (b := 1001) rfl (t1000 s) rfl (r1000_0 s) (Nat.le_of_ble_eq_true rfl) ?_
            refine ge_getR (b := (1001 + 21)) rfl (sT0 s sea1001) rfl (sR4 s sea1001) (sge sea1001) ?_
            refine ge_run (pc' := 33) (L' := [.ref 1000, .int x1, .int x2_4, .int x3_11]) (S' := [.int x2_4, .ref (1001 + 21), .int x3_11, .ref 1000, .int x3_11, .ref 1636]) 1 rfl ?_
            refine ge_grd (fun g_17 g_18 => ?_)
            refine ge_aald (jn := (ix x2_4)) (b := (1001 + 22 + (ix x2_4))) rfl (sT21 s sea1001) (Or.inl rfl) ⟨g_17, rfl⟩ g_18 (sRr_dead s sea1001 g_18) (sge2 sea1001) ?_
            refine ge_run (pc' := 35) (L' := [.ref 1000, .int x1, .int x2_4, .int x3_11]) (S' := [.int (1 : Int32), .ref (1001 + 22 + (ix x2_4)), .int x3_11, .ref 1000, .int x3_11, .ref 1636]) 1 rfl ?_
            refine ge_iald (jn := 1) rfl (sRow_dead s sea1001 g_18) lk1 (by decide) ?_
            refine ge_cv rfl rfl rfl (t1000 s) rfl rfl rfl (D := 1) (Nat.le_trans (by decide) hd) (c_Lc_waysWith (n := n) (u := u) (t := t) (i := i_12) (r := r) s x3_11 (i_12 (1001 + 22 + (ix x2_4)) 1)) ?_
            rintro v_19 -
            dsimp only [bkE, F_i0]
            refine ge_grd (fun g_20 g_21 => ?_)
            refine ge_iast (jn := (ix x3_11)) rfl (t1636 s) (Nat.le_of_ble_eq_true rfl) ⟨g_20, rfl⟩ g_21 (fun i_22 => ?_)
            refine ge_run (pc' := 22) (L' := [.ref 1000, .int x1, .int x2_4, .int (x3_11 + (-1 : Int32))]) (S' := []) 2 rfl ?_
            exact ge_leaf (K := kX _ _) rfl
        · rintro i_13 _ ⟨w_14, rfl⟩
          try dsimp only
          refine ge_run (pc' := 15) (L' := [.ref 1000, .int x1, .int (x2_4 + (1 : Int32)), w_14]) (S' := []) 2 rfl ?_
          exact ge_leaf (K := kX _ _) (Exists.intro _ rfl)
      · exact ge_leaf (K := kX _ _) (Exists.intro _ (Exists.intro _ rfl))
    · rintro i_7 _ ⟨w_8, w_9, rfl⟩
      try dsimp only
      refine ge_run (pc' := 43) (L' := [.ref 1000, .int x1, w_8, w_9]) (S' := [.ref 1000]) 1 rfl ?_
      refine ge_getR (b := 1636) rfl (t1000 s) rfl (r1000_13 s) (Nat.le_of_ble_eq_true rfl) ?_
      refine ge_run (pc' := 45) (L' := [.ref 1000, .int x1, w_8, w_9]) (S' := [.int x1, .ref 1636]) 1 rfl ?_
      refine ge_grd (fun g_24 g_25 => ?_)
      refine ge_iald (jn := (ix x1)) rfl (t1636 s) ⟨g_24, rfl⟩ g_25 ?_
      exact ge_ret rfl rfl (And.intro rfl trivial)
  · exact ge_leaf (And.intro rfl trivial)
def f_Lc_fewest (i : MI) (x1 : Int32) : Option ((Int32 ⊕ Nat)) :=
  (f_Lc_needWithin x1 (0 : Int32) (99 : Int32)).bind (fun | .inl () => (itr (σ := Int32 × Int32) (ρ := Int32) (fun (x2_2, x3_3) => if x3_3 < (shl (1 : Int32) (i 1001 10)) then ((f_Se_breathOf i 1001 x3_3).bind (fun v_7 => (if v_7 < x1 then (some x2_2) else (if x2_2 = (-1 : Int32) then (some x3_3) else ((f_J_bitCount x3_3).bind (fun v_13 => (f_J_bitCount x2_2).bind (fun v_14 => if v_13 < v_14 then (some x3_3) else (some x2_2))))) : Option (Int32)).bind (fun x2_8 => some (.inl (x2_8, (x3_3 + (1 : Int32))))))) else (some (.inr x2_2))) 1000000 ((-1 : Int32), (0 : Int32))).bind (fun x2_4 => some (.inl x2_4)) | .inr c_1 => some (.inr c_1))
set_option maxHeartbeats 4000000 in
theorem c_Lc_fewest {n u : Nat} {t : MT} {i : MI} {r : MR} (s : Sh n t r) (x1 : Int32) : Cn 2 148 [.ref 1000, .int x1] (n, u, t, i, r) (f_Lc_fewest i x1) (F_ti0 n u t i r) PT := by
  refine cn_of (Y := K_Lc_fewest) (L0 := [.ref 1000, .int x1, uV, uV]) rfl rfl rfl ?_
  intro d hd
  unfold f_Lc_fewest
  refine ge_run (pc' := 3) (L' := [.ref 1000, .int x1, uV, uV]) (S' := [.int (99 : Int32), .int (0 : Int32), .int x1]) 3 rfl ?_
  refine ge_cs rfl rfl rfl rfl rfl rfl (D := 1) (Nat.le_trans (by decide) hd) (c_Lc_needWithin (n := n) (u := u) (t := t) (i := i) (r := r) s x1 (0 : Int32) (99 : Int32)) ?_
  rintro (⟨⟩ | c_1) -
  · dsimp only [bkE, F_tv0]
    refine ge_run (pc' := 8) (L' := [.ref 1000, .int x1, .int (-1 : Int32), .int (0 : Int32)]) (S' := []) 4 rfl ?_
    refine ge_bind (K1 := fun (q : Int32) e => ∃ w_5 : Value, e = .inl (33, [.ref 1000, .int x1, .int q, w_5], [], (n, u, t, i, r))) (ge_itr (C := fun (q : Int32 × Int32) e => e = .inl (8, [.ref 1000, .int x1, .int q.1, .int q.2], [], (n, u, t, i, r))) ?_ _ _ _ rfl) ?_
    · rintro ⟨x2_2, x3_3⟩ _ rfl
      try dsimp only
      refine ge_run (pc' := 11) (L' := [.ref 1000, .int x1, .int x2_2, .int x3_3]) (S' := [.ref 1000, .int (1 : Int32), .int x3_3]) 3 rfl ?_
      refine ge_getR (b := 1001) rfl (t1000 s) rfl (r1000_0 s) (Nat.le_of_ble_eq_true rfl) ?_
      refine ge_getI rfl (sT0 s sea1001) rfl ?_
      refine ge_run (pc' := 14) (L' := [.ref 1000, .int x1, .int x2_2, .int x3_3]) (S' := [.int (shl (1 : Int32) (i 1001 10)), .int x3_3]) 1 rfl ?_
      refine ge_ge rfl (fun h_6 => ?_) (fun h_17 => ?_)
      · refine ge_run (pc' := 16) (L' := [.ref 1000, .int x1, .int x2_2, .int x3_3]) (S' := [.ref 1000]) 1 rfl ?_
        refine ge_getR (b := 1001) rfl (t1000 s) rfl (r1000_0 s) (Nat.le_of_ble_eq_true rfl) ?_
        refine ge_run (pc' := 18) (L' := [.ref 1000, .int x1, .int x2_2, .int x3_3]) (S' := [.int x3_3, .ref 1001]) 1 rfl ?_
        refine ge_cv rfl rfl rfl (sT0 s sea1001) rfl rfl rfl (D := 1) (Nat.le_trans (by decide) hd) (c_Se_breathOf (n := n) (u := u) (t := t) (i := i) (r := r) s 1001 sea1001 x3_3) ?_
        rintro v_7 -
        dsimp only [bkE, F_i0]
        refine ge_run (pc' := 20) (L' := [.ref 1000, .int x1, .int x2_2, .int x3_3]) (S' := [.int x1, .int v_7]) 1 rfl ?_
        refine ge_bind (K1 := fun (q : Int32) e => e = .inl (31, [.ref 1000, .int x1, .int q, .int x3_3], [], (n, u, t, i, r))) ?_ ?_
        · refine ge_lt rfl (fun h_9 => ?_) (fun h_10 => ?_)
          · exact ge_leaf rfl
          · refine ge_run (pc' := 23) (L' := [.ref 1000, .int x1, .int x2_2, .int x3_3]) (S' := [.int (-1 : Int32), .int x2_2]) 2 rfl ?_
            refine ge_eq rfl (fun h_11 => ?_) (fun h_12 => ?_)
            · refine ge_run (pc' := 31) (L' := [.ref 1000, .int x1, .int x3_3, .int x3_3]) (S' := []) 2 rfl ?_
              exact ge_leaf rfl
            · refine ge_run (pc' := 25) (L' := [.ref 1000, .int x1, .int x2_2, .int x3_3]) (S' := [.int x3_3]) 1 rfl ?_
              refine ge_cs rfl rfl rfl rfl rfl rfl (D := 1) (Nat.le_trans (by decide) hd) (c_J_bitCount (n := n) (u := u) (t := t) (i := i) (r := r) s x3_3) ?_
              rintro v_13 -
              dsimp only [bkE, F_i0]
              refine ge_run (pc' := 27) (L' := [.ref 1000, .int x1, .int x2_2, .int x3_3]) (S' := [.int x2_2, .int v_13]) 1 rfl ?_
              refine ge_cs rfl rfl rfl rfl rfl rfl (D := 1) (Nat.le_trans (by decide) hd) (c_J_bitCount (n := n) (u := u) (t := t) (i := i) (r := r) s x2_2) ?_
              rintro v_14 -
              dsimp only [bkE, F_i0]
              refine ge_ge rfl (fun h_15 => ?_) (fun h_16 => ?_)
              · refine ge_run (pc' := 31) (L' := [.ref 1000, .int x1, .int x3_3, .int x3_3]) (S' := []) 2 rfl ?_
                exact ge_leaf rfl
              · exact ge_leaf rfl
        · rintro x2_8 _ rfl
          try dsimp only
          refine ge_run (pc' := 8) (L' := [.ref 1000, .int x1, .int x2_8, .int (x3_3 + (1 : Int32))]) (S' := []) 2 rfl ?_
          exact ge_leaf (K := kX _ _) rfl
      · exact ge_leaf (K := kX _ _) (Exists.intro _ rfl)
    · rintro x2_4 _ ⟨w_5, rfl⟩
      try dsimp only
      refine ge_run (pc' := 34) (L' := [.ref 1000, .int x1, .int x2_4, w_5]) (S' := [.int x2_4]) 1 rfl ?_
      exact ge_ret rfl rfl (And.intro rfl trivial)
  · exact ge_leaf (And.intro rfl trivial)
def f_Lc_needRowsOnTape (i : MI) : Option ((Unit ⊕ Nat) × MI) :=
  (f_Gu_takeRows i).bind (fun (v_1, i_2) => if v_1 = 0 then (some (.inr 20, i_2)) else (some (.inl (), i_2)))
set_option maxHeartbeats 4000000 in
theorem c_Lc_needRowsOnTape {n u : Nat} {t : MT} {i : MI} {r : MR} (s : Sh n t r)  : Cn 2 182 [.ref 1000] (n, u, t, i, r) (f_Lc_needRowsOnTape i ) (F_tv1 n u t r) PT := by
  refine cn_of (Y := K_Lc_needRowsOnTape) (L0 := [.ref 1000]) rfl rfl rfl ?_
  intro d hd
  unfold f_Lc_needRowsOnTape
  refine ge_run (pc' := 1) (L' := [.ref 1000]) (S' := [.ref 1000]) 1 rfl ?_
  refine ge_getR (b := 1631) rfl (t1000 s) rfl (r1000_12 s) (Nat.le_of_ble_eq_true rfl) ?_
  refine ge_run (pc' := 3) (L' := [.ref 1000]) (S' := [.ref 1000, .ref 1631]) 1 rfl ?_
  refine ge_getR (b := 1595) rfl (t1000 s) rfl (r1000_6 s) (Nat.le_of_ble_eq_true rfl) ?_
  refine ge_cv rfl rfl rfl (t1631 s) rfl rfl rfl (D := 1) (Nat.le_trans (by decide) hd) (c_Gu_takeRows (n := n) (u := u) (t := t) (i := i) (r := r) s ) ?_
  rintro ⟨v_1, i_2⟩ -
  dsimp only [bkE, F_i1]
  refine ge_ne0 rfl (fun h_3 => ?_) (fun h_4 => ?_)
  · exact ge_throw rfl (by decide) rfl rfl (And.intro rfl trivial)
  · exact ge_retv rfl rfl (And.intro rfl trivial)
def f_Lc_turned (i : MI) (x1 : Int32) : Option ((Int32 ⊕ Nat) × MI) :=
  (f_Lc_needRowsOnTape i).bind (fun | (.inl (), i_1) => (f_Gu_fit i_1).bind (fun i_3 => if x1 = 0 then (some (.inl (i_3 1631 5), i_3)) else (if (i_3 1631 5) = 0 then (some (.inl (-1 : Int32), i_3)) else (some (.inl (i_3 1634 0), i_3)))) | (.inr c_2, i_1) => some (.inr c_2, i_1))
set_option maxHeartbeats 4000000 in
theorem c_Lc_turned {n u : Nat} {t : MT} {i : MI} {r : MR} (s : Sh n t r) (x1 : Int32) : Cn 5 149 [.ref 1000, .int x1] (n, u, t, i, r) (f_Lc_turned i x1) (F_ti1 n u t r) PT := by
  refine cn_of (Y := K_Lc_turned) (L0 := [.ref 1000, .int x1]) rfl rfl rfl ?_
  intro d hd
  unfold f_Lc_turned
  refine ge_run (pc' := 1) (L' := [.ref 1000, .int x1]) (S' := [.ref 1000]) 1 rfl ?_
  refine ge_cv rfl rfl rfl (t1000 s) rfl rfl rfl (D := 2) (Nat.le_trans (by decide) hd) (c_Lc_needRowsOnTape (n := n) (u := u) (t := t) (i := i) (r := r) s ) ?_
  rintro ⟨⟨⟩ | c_2, i_1⟩ -
  · dsimp only [bkE, F_tv1]
    refine ge_run (pc' := 3) (L' := [.ref 1000, .int x1]) (S' := [.ref 1000]) 1 rfl ?_
    refine ge_getR (b := 1631) rfl (t1000 s) rfl (r1000_12 s) (Nat.le_of_ble_eq_true rfl) ?_
    refine ge_cv rfl rfl rfl (t1631 s) rfl rfl rfl (D := 4) (Nat.le_trans (by decide) hd) (c_Gu_fit (n := n) (u := u) (t := t) (i := i_1) (r := r) s ) ?_
    rintro i_3 -
    dsimp only [bkE, F_v1]
    refine ge_run (pc' := 6) (L' := [.ref 1000, .int x1]) (S' := [.int x1]) 1 rfl ?_
    refine ge_ne0 rfl (fun h_4 => ?_) (fun h_5 => ?_)
    · refine ge_run (pc' := 8) (L' := [.ref 1000, .int x1]) (S' := [.ref 1000]) 1 rfl ?_
      refine ge_getR (b := 1631) rfl (t1000 s) rfl (r1000_12 s) (Nat.le_of_ble_eq_true rfl) ?_
      refine ge_getI rfl (t1631 s) rfl ?_
      exact ge_ret rfl rfl (And.intro rfl trivial)
    · refine ge_run (pc' := 12) (L' := [.ref 1000, .int x1]) (S' := [.ref 1000]) 1 rfl ?_
      refine ge_getR (b := 1631) rfl (t1000 s) rfl (r1000_12 s) (Nat.le_of_ble_eq_true rfl) ?_
      refine ge_getI rfl (t1631 s) rfl ?_
      refine ge_ne0 rfl (fun h_6 => ?_) (fun h_7 => ?_)
      · refine ge_run (pc' := 22) (L' := [.ref 1000, .int x1]) (S' := [.int (-1 : Int32)]) 2 rfl ?_
        exact ge_ret rfl rfl (And.intro rfl trivial)
      · refine ge_run (pc' := 18) (L' := [.ref 1000, .int x1]) (S' := [.ref 1000]) 1 rfl ?_
        refine ge_getR (b := 1631) rfl (t1000 s) rfl (r1000_12 s) (Nat.le_of_ble_eq_true rfl) ?_
        refine ge_getR (b := 1634) rfl (t1631 s) rfl (r1631_2 s) (Nat.le_of_ble_eq_true rfl) ?_
        refine ge_run (pc' := 21) (L' := [.ref 1000, .int x1]) (S' := [.int (0 : Int32), .ref 1634]) 1 rfl ?_
        refine ge_iald (jn := 0) rfl (t1634 s) lk0 (by decide) ?_
        exact ge_ret rfl rfl (And.intro rfl trivial)
  · exact ge_leaf (And.intro rfl trivial)
def f_Lc_ask (i : MI) : Option ((Int32 ⊕ Nat) × MI) :=
  (f_Lc_needRowsOnTape i).bind (fun | (.inl (), i_1) => (f_Gu_fit i_1).bind (fun i_3 => (f_Gu_bestQuestion i_3).bind (fun (v_4, i_5) => some (.inl v_4, i_5))) | (.inr c_2, i_1) => some (.inr c_2, i_1))
set_option maxHeartbeats 4000000 in
theorem c_Lc_ask {n u : Nat} {t : MT} {i : MI} {r : MR} (s : Sh n t r)  : Cn 5 150 [.ref 1000] (n, u, t, i, r) (f_Lc_ask i ) (F_ti1 n u t r) PT := by
  refine cn_of (Y := K_Lc_ask) (L0 := [.ref 1000]) rfl rfl rfl ?_
  intro d hd
  unfold f_Lc_ask
  refine ge_run (pc' := 1) (L' := [.ref 1000]) (S' := [.ref 1000]) 1 rfl ?_
  refine ge_cv rfl rfl rfl (t1000 s) rfl rfl rfl (D := 2) (Nat.le_trans (by decide) hd) (c_Lc_needRowsOnTape (n := n) (u := u) (t := t) (i := i) (r := r) s ) ?_
  rintro ⟨⟨⟩ | c_2, i_1⟩ -
  · dsimp only [bkE, F_tv1]
    refine ge_run (pc' := 3) (L' := [.ref 1000]) (S' := [.ref 1000]) 1 rfl ?_
    refine ge_getR (b := 1631) rfl (t1000 s) rfl (r1000_12 s) (Nat.le_of_ble_eq_true rfl) ?_
    refine ge_cv rfl rfl rfl (t1631 s) rfl rfl rfl (D := 4) (Nat.le_trans (by decide) hd) (c_Gu_fit (n := n) (u := u) (t := t) (i := i_1) (r := r) s ) ?_
    rintro i_3 -
    dsimp only [bkE, F_v1]
    refine ge_run (pc' := 6) (L' := [.ref 1000]) (S' := [.ref 1000]) 1 rfl ?_
    refine ge_getR (b := 1631) rfl (t1000 s) rfl (r1000_12 s) (Nat.le_of_ble_eq_true rfl) ?_
    refine ge_cv rfl rfl rfl (t1631 s) rfl rfl rfl (D := 4) (Nat.le_trans (by decide) hd) (c_Gu_bestQuestion (n := n) (u := u) (t := t) (i := i_3) (r := r) s ) ?_
    rintro ⟨v_4, i_5⟩ -
    dsimp only [bkE, F_i1]
    exact ge_ret rfl rfl (And.intro rfl trivial)
  · exact ge_leaf (And.intro rfl trivial)
def f_Lc_sale (t : MT) (r : MR) (i : MI) (x1 : Int32) : Option ((Int32 ⊕ Nat) × MI) :=
  (if x1 = (-1 : Int32) then (some (.inl ())) else ((f_Lc_needBuyer i x1).bind (fun | .inl () => some (.inl ()) | .inr c_3 => some (.inr ((.inr c_3, i))))) : Option ((Unit) ⊕ ((Int32 ⊕ Nat) × MI))).bind (fun | .inl _ => (f_Sl_planSale t r i 1001).bind (fun i_4 => if x1 = (-1 : Int32) then (some (.inl (i_4 1620 4), i_4)) else (grd x1 8 (some (.inl (i_4 1630 (ix x1)), i_4)))) | .inr y_9 => some y_9)
set_option maxHeartbeats 4000000 in
theorem c_Lc_sale {n u : Nat} {t : MT} {i : MI} {r : MR} (s : Sh n t r) (x1 : Int32) : Cn 6 151 [.ref 1000, .int x1] (n, u, t, i, r) (f_Lc_sale t r i x1) (F_ti1 n u t r) PT := by
  refine cn_of (Y := K_Lc_sale) (L0 := [.ref 1000, .int x1]) rfl rfl rfl ?_
  intro d hd
  unfold f_Lc_sale
  refine ge_run (pc' := 2) (L' := [.ref 1000, .int x1]) (S' := [.int (-1 : Int32), .int x1]) 2 rfl ?_
  refine ge_bind (K1 := kX (fun (q : Unit) e => e = .inl (6, [.ref 1000, .int x1], [], (n, u, t, i, r))) (kR (F_ti1 n u t r) PT)) ?_ ?_
  · refine ge_eq rfl (fun h_1 => ?_) (fun h_2 => ?_)
    · exact ge_leaf rfl
    · refine ge_run (pc' := 5) (L' := [.ref 1000, .int x1]) (S' := [.int x1, .ref 1000]) 2 rfl ?_
      refine ge_cv rfl rfl rfl (t1000 s) rfl rfl rfl (D := 1) (Nat.le_trans (by decide) hd) (c_Lc_needBuyer (n := n) (u := u) (t := t) (i := i) (r := r) s x1) ?_
      rintro (⟨⟩ | c_3) -
      · dsimp only [bkE, F_tv0]
        exact ge_leaf rfl
      · exact ge_leaf (And.intro rfl trivial)
  · rintro (_ | y_9) e he
    · obtain rfl := he
      try dsimp only
      refine ge_run (pc' := 7) (L' := [.ref 1000, .int x1]) (S' := [.ref 1000]) 1 rfl ?_
      refine ge_getR (b := 1620) rfl (t1000 s) rfl (r1000_11 s) (Nat.le_of_ble_eq_true rfl) ?_
      refine ge_run (pc' := 9) (L' := [.ref 1000, .int x1]) (S' := [.ref 1000, .ref 1620]) 1 rfl ?_
      refine ge_getR (b := 1001) rfl (t1000 s) rfl (r1000_0 s) (Nat.le_of_ble_eq_true rfl) ?_
      refine ge_cv rfl rfl rfl (t1620 s) rfl rfl rfl (D := 5) (Nat.le_trans (by decide) hd) (c_Sl_planSale (n := n) (u := u) (t := t) (i := i) (r := r) s 1001 sea1001) ?_
      rintro i_4 -
      dsimp only [bkE, F_v1]
      refine ge_run (pc' := 13) (L' := [.ref 1000, .int x1]) (S' := [.int (-1 : Int32), .int x1]) 2 rfl ?_
      refine ge_ne rfl (fun h_5 => ?_) (fun h_6 => ?_)
      · refine ge_run (pc' := 15) (L' := [.ref 1000, .int x1]) (S' := [.ref 1000]) 1 rfl ?_
        refine ge_getR (b := 1620) rfl (t1000 s) rfl (r1000_11 s) (Nat.le_of_ble_eq_true rfl) ?_
        refine ge_getI rfl (t1620 s) rfl ?_
        refine ge_run (pc' := 23) (L' := [.ref 1000, .int x1]) (S' := [.int (i_4 1620 4)]) 1 rfl ?_
        exact ge_ret rfl rfl (And.intro rfl trivial)
      · refine ge_run (pc' := 19) (L' := [.ref 1000, .int x1]) (S' := [.ref 1000]) 1 rfl ?_
        refine ge_getR (b := 1620) rfl (t1000 s) rfl (r1000_11 s) (Nat.le_of_ble_eq_true rfl) ?_
        refine ge_getR (b := 1630) rfl (t1620 s) rfl (r1620_3 s) (Nat.le_of_ble_eq_true rfl) ?_
        refine ge_run (pc' := 22) (L' := [.ref 1000, .int x1]) (S' := [.int x1, .ref 1630]) 1 rfl ?_
        refine ge_grd (fun g_7 g_8 => ?_)
        refine ge_iald (jn := (ix x1)) rfl (t1630 s) ⟨g_7, rfl⟩ g_8 ?_
        exact ge_ret rfl rfl (And.intro rfl trivial)
    · exact ge_leaf he
def f_Lc_without (t : MT) (r : MR) (i : MI) : Option (Int32 × MI) :=
  (itr (σ := Int32 × Int32 × MI) (ρ := Int32 × MI) (fun (x1_1, x2_2, i_3) => if x2_2 < (i_3 1001 9) then ((f_Se_mayBuy t r i_3 1001 x2_2).bind (fun (v_8, i_9) => (if v_8 = 0 then (some (x1_1 ||| (shl (1 : Int32) x2_2))) else (some x1_1) : Option (Int32)).bind (fun x1_10 => some (.inl (x1_10, (x2_2 + (1 : Int32)), i_9))))) else (some (.inr (x1_1, i_3)))) 1000000 ((0 : Int32), (0 : Int32), i)).bind (fun (x1_4, i_5) => some (x1_4, i_5))
set_option maxHeartbeats 4000000 in
theorem c_Lc_without {n u : Nat} {t : MT} {i : MI} {r : MR} (s : Sh n t r)  : Cn 5 152 [.ref 1000] (n, u, t, i, r) (f_Lc_without t r i ) (F_i1 n u t r) PT := by
  refine cn_of (Y := K_Lc_without) (L0 := [.ref 1000, uV, uV]) rfl rfl rfl ?_
  intro d hd
  unfold f_Lc_without
  refine ge_run (pc' := 4) (L' := [.ref 1000, .int (0 : Int32), .int (0 : Int32)]) (S' := []) 4 rfl ?_
  refine ge_bind (K1 := fun (q : Int32 × MI) e => ∃ w_6 : Value, e = .inl (22, [.ref 1000, .int q.1, w_6], [], (n, u, t, q.2, r))) (ge_itr (C := fun (q : Int32 × Int32 × MI) e => e = .inl (4, [.ref 1000, .int q.1, .int q.2.1], [], (n, u, t, q.2.2, r))) ?_ _ _ _ rfl) ?_
  · rintro ⟨x1_1, x2_2, i_3⟩ _ rfl
    try dsimp only
    refine ge_run (pc' := 6) (L' := [.ref 1000, .int x1_1, .int x2_2]) (S' := [.ref 1000, .int x2_2]) 2 rfl ?_
    refine ge_getR (b := 1001) rfl (t1000 s) rfl (r1000_0 s) (Nat.le_of_ble_eq_true rfl) ?_
    refine ge_getI rfl (sT0 s sea1001) rfl ?_
    refine ge_ge rfl (fun h_7 => ?_) (fun h_13 => ?_)
    · refine ge_run (pc' := 10) (L' := [.ref 1000, .int x1_1, .int x2_2]) (S' := [.ref 1000]) 1 rfl ?_
      refine ge_getR (b := 1001) rfl (t1000 s) rfl (r1000_0 s) (Nat.le_of_ble_eq_true rfl) ?_
      refine ge_run (pc' := 12) (L' := [.ref 1000, .int x1_1, .int x2_2]) (S' := [.int x2_2, .ref 1001]) 1 rfl ?_
      refine ge_cv rfl rfl rfl (sT0 s sea1001) rfl rfl rfl (D := 4) (Nat.le_trans (by decide) hd) (c_Se_mayBuy (n := n) (u := u) (t := t) (i := i_3) (r := r) s 1001 sea1001 x2_2) ?_
      rintro ⟨v_8, i_9⟩ -
      dsimp only [bkE, F_i1]
      refine ge_bind (K1 := fun (q : Int32) e => e = .inl (20, [.ref 1000, .int q, .int x2_2], [], (n, u, t, i_9, r))) ?_ ?_
      · refine ge_ne0 rfl (fun h_11 => ?_) (fun h_12 => ?_)
        · refine ge_run (pc' := 20) (L' := [.ref 1000, .int (x1_1 ||| (shl (1 : Int32) x2_2)), .int x2_2]) (S' := []) 6 rfl ?_
          exact ge_leaf rfl
        · exact ge_leaf rfl
      · rintro x1_10 _ rfl
        try dsimp only
        refine ge_run (pc' := 4) (L' := [.ref 1000, .int x1_10, .int (x2_2 + (1 : Int32))]) (S' := []) 2 rfl ?_
        exact ge_leaf (K := kX _ _) rfl
    · exact ge_leaf (K := kX _ _) (Exists.intro _ rfl)
  · rintro ⟨x1_4, i_5⟩ _ ⟨w_6, rfl⟩
    try dsimp only
    refine ge_run (pc' := 23) (L' := [.ref 1000, .int x1_4, w_6]) (S' := [.int x1_4]) 1 rfl ?_
    exact ge_ret rfl rfl (And.intro rfl trivial)
def f_Lc_order (t : MT) (r : MR) (i : MI) (x1 : Int32) : Option (Int32 × MI) :=
  (f_Sl_planOrder t r i 1001).bind (fun i_1 => if x1 = (-1 : Int32) then (some ((i_1 1620 4), i_1)) else (if x1 < 0 then (some ((-1 : Int32), i_1)) else ((f_Se_placed i_1 1001 (2 : Int32)).bind (fun v_6 => (f_J_bitCount v_6).bind (fun v_7 => if x1 < v_7 then (grd x1 8 (some ((i_1 1630 (ix x1)), i_1))) else (some ((-1 : Int32), i_1)))))))
set_option maxHeartbeats 4000000 in
theorem c_Lc_order {n u : Nat} {t : MT} {i : MI} {r : MR} (s : Sh n t r) (x1 : Int32) : Cn 5 153 [.ref 1000, .int x1] (n, u, t, i, r) (f_Lc_order t r i x1) (F_i1 n u t r) PT := by
  refine cn_of (Y := K_Lc_order) (L0 := [.ref 1000, .int x1]) rfl rfl rfl ?_
  intro d hd
  unfold f_Lc_order
  refine ge_run (pc' := 1) (L' := [.ref 1000, .int x1]) (S' := [.ref 1000]) 1 rfl ?_
  refine ge_getR (b := 1620) rfl (t1000 s) rfl (r1000_11 s) (Nat.le_of_ble_eq_true rfl) ?_
  refine ge_run (pc' := 3) (L' := [.ref 1000, .int x1]) (S' := [.ref 1000, .ref 1620]) 1 rfl ?_
  refine ge_getR (b := 1001) rfl (t1000 s) rfl (r1000_0 s) (Nat.le_of_ble_eq_true rfl) ?_
  refine ge_cv rfl rfl rfl (t1620 s) rfl rfl rfl (D := 4) (Nat.le_trans (by decide) hd) (c_Sl_planOrder (n := n) (u := u) (t := t) (i := i) (r := r) s 1001 sea1001) ?_
  rintro i_1 -
  dsimp only [bkE, F_v1]
  refine ge_run (pc' := 7) (L' := [.ref 1000, .int x1]) (S' := [.int (-1 : Int32), .int x1]) 2 rfl ?_
  refine ge_ne rfl (fun h_2 => ?_) (fun h_3 => ?_)
  · refine ge_run (pc' := 9) (L' := [.ref 1000, .int x1]) (S' := [.ref 1000]) 1 rfl ?_
    refine ge_getR (b := 1620) rfl (t1000 s) rfl (r1000_11 s) (Nat.le_of_ble_eq_true rfl) ?_
    refine ge_getI rfl (t1620 s) rfl ?_
    exact ge_ret rfl rfl (And.intro rfl trivial)
  · refine ge_run (pc' := 13) (L' := [.ref 1000, .int x1]) (S' := [.int x1]) 1 rfl ?_
    refine ge_lt0 rfl (fun h_4 => ?_) (fun h_5 => ?_)
    · refine ge_run (pc' := 28) (L' := [.ref 1000, .int x1]) (S' := [.int (-1 : Int32)]) 2 rfl ?_
      exact ge_ret rfl rfl (And.intro rfl trivial)
    · refine ge_run (pc' := 16) (L' := [.ref 1000, .int x1]) (S' := [.ref 1000, .int x1]) 2 rfl ?_
      refine ge_getR (b := 1001) rfl (t1000 s) rfl (r1000_0 s) (Nat.le_of_ble_eq_true rfl) ?_
      refine ge_run (pc' := 18) (L' := [.ref 1000, .int x1]) (S' := [.int (2 : Int32), .ref 1001, .int x1]) 1 rfl ?_
      refine ge_cv rfl rfl rfl (sT0 s sea1001) rfl rfl rfl (D := 1) (Nat.le_trans (by decide) hd) (c_Se_placed (n := n) (u := u) (t := t) (i := i_1) (r := r) s 1001 sea1001 (2 : Int32)) ?_
      rintro v_6 -
      dsimp only [bkE, F_i0]
      refine ge_cs rfl rfl rfl rfl rfl rfl (D := 1) (Nat.le_trans (by decide) hd) (c_J_bitCount (n := n) (u := u) (t := t) (i := i_1) (r := r) s v_6) ?_
      rintro v_7 -
      dsimp only [bkE, F_i0]
      refine ge_lt rfl (fun h_8 => ?_) (fun h_11 => ?_)
      · refine ge_run (pc' := 24) (L' := [.ref 1000, .int x1]) (S' := [.ref 1000]) 1 rfl ?_
        refine ge_getR (b := 1620) rfl (t1000 s) rfl (r1000_11 s) (Nat.le_of_ble_eq_true rfl) ?_
        refine ge_getR (b := 1630) rfl (t1620 s) rfl (r1620_3 s) (Nat.le_of_ble_eq_true rfl) ?_
        refine ge_run (pc' := 27) (L' := [.ref 1000, .int x1]) (S' := [.int x1, .ref 1630]) 1 rfl ?_
        refine ge_grd (fun g_9 g_10 => ?_)
        refine ge_iald (jn := (ix x1)) rfl (t1630 s) ⟨g_9, rfl⟩ g_10 ?_
        exact ge_ret rfl rfl (And.intro rfl trivial)
      · refine ge_run (pc' := 28) (L' := [.ref 1000, .int x1]) (S' := [.int (-1 : Int32)]) 2 rfl ?_
        exact ge_ret rfl rfl (And.intro rfl trivial)
def f_Lc_chase (r : MR) (i : MI) (x1 : Int32) (x2 : Int32) : Option ((Int32 ⊕ Nat) × MI × MR) :=
  (f_Lc_needWithin x1 (0 : Int32) (20 : Int32)).bind (fun | .inl () => (f_Lc_needWithin x2 (0 : Int32) (12 : Int32)).bind (fun | .inl () => (f_Co_turnsToCatch r i x1 x2).bind (fun (v_3, i_4, r_5) => some (.inl v_3, i_4, r_5)) | .inr c_2 => some (.inr c_2, i, r)) | .inr c_1 => some (.inr c_1, i, r))
set_option maxHeartbeats 4000000 in
theorem c_Lc_chase {n u : Nat} {t : MT} {i : MI} {r : MR} (s : Sh n t r) (x1 : Int32) (x2 : Int32) : Cn 6 154 [.ref 1000, .int x1, .int x2] (n, u, t, i, r) (f_Lc_chase r i x1 x2) (F_ti2 n u t) (PS2 n t) := by
  refine cn_of (Y := K_Lc_chase) (L0 := [.ref 1000, .int x1, .int x2]) rfl rfl rfl ?_
  intro d hd
  unfold f_Lc_chase
  refine ge_run (pc' := 3) (L' := [.ref 1000, .int x1, .int x2]) (S' := [.int (20 : Int32), .int (0 : Int32), .int x1]) 3 rfl ?_
  refine ge_cs rfl rfl rfl rfl rfl rfl (D := 1) (Nat.le_trans (by decide) hd) (c_Lc_needWithin (n := n) (u := u) (t := t) (i := i) (r := r) s x1 (0 : Int32) (20 : Int32)) ?_
  rintro (⟨⟩ | c_1) -
  · dsimp only [bkE, F_tv0]
    refine ge_run (pc' := 7) (L' := [.ref 1000, .int x1, .int x2]) (S' := [.int (12 : Int32), .int (0 : Int32), .int x2]) 3 rfl ?_
    refine ge_cs rfl rfl rfl rfl rfl rfl (D := 1) (Nat.le_trans (by decide) hd) (c_Lc_needWithin (n := n) (u := u) (t := t) (i := i) (r := r) s x2 (0 : Int32) (12 : Int32)) ?_
    rintro (⟨⟩ | c_2) -
    · dsimp only [bkE, F_tv0]
      refine ge_run (pc' := 9) (L' := [.ref 1000, .int x1, .int x2]) (S' := [.ref 1000]) 1 rfl ?_
      refine ge_getR (b := 1603) rfl (t1000 s) rfl (r1000_9 s) (Nat.le_of_ble_eq_true rfl) ?_
      refine ge_run (pc' := 12) (L' := [.ref 1000, .int x1, .int x2]) (S' := [.int x2, .int x1, .ref 1603]) 2 rfl ?_
      refine ge_cv rfl rfl rfl (t1603 s) rfl rfl rfl (D := 5) (Nat.le_trans (by decide) hd) (c_Co_turnsToCatch (n := n) (u := u) (t := t) (i := i) (r := r) s x1 x2) ?_
      rintro ⟨v_3, i_4, r_5⟩ s_6
      dsimp only [bkE, F_i2]
      exact ge_ret rfl rfl (And.intro rfl s_6)
    · exact ge_leaf (And.intro rfl s)
  · exact ge_leaf (And.intro rfl s)
def f_Lc_pairs (i : MI) (x1 : Int32) : Option ((Int32 ⊕ Nat) × MI) :=
  (if x1 = (-1 : Int32) then (some (.inl ())) else ((f_Lc_needFish i x1).bind (fun | .inl () => some (.inl ()) | .inr c_3 => some (.inr ((.inr c_3, i))))) : Option ((Unit) ⊕ ((Int32 ⊕ Nat) × MI))).bind (fun | .inl _ => (f_Sl_planPairs i 1001).bind (fun i_4 => if x1 = (-1 : Int32) then (some (.inl (i_4 1620 4), i_4)) else (grd x1 8 (some (.inl (i_4 1630 (ix x1)), i_4)))) | .inr y_9 => some y_9)
set_option maxHeartbeats 4000000 in
theorem c_Lc_pairs {n u : Nat} {t : MT} {i : MI} {r : MR} (s : Sh n t r) (x1 : Int32) : Cn 4 155 [.ref 1000, .int x1] (n, u, t, i, r) (f_Lc_pairs i x1) (F_ti1 n u t r) PT := by
  refine cn_of (Y := K_Lc_pairs) (L0 := [.ref 1000, .int x1]) rfl rfl rfl ?_
  intro d hd
  unfold f_Lc_pairs
  refine ge_run (pc' := 2) (L' := [.ref 1000, .int x1]) (S' := [.int (-1 : Int32), .int x1]) 2 rfl ?_
  refine ge_bind (K1 := kX (fun (q : Unit) e => e = .inl (6, [.ref 1000, .int x1], [], (n, u, t, i, r))) (kR (F_ti1 n u t r) PT)) ?_ ?_
  · refine ge_eq rfl (fun h_1 => ?_) (fun h_2 => ?_)
    · exact ge_leaf rfl
    · refine ge_run (pc' := 5) (L' := [.ref 1000, .int x1]) (S' := [.int x1, .ref 1000]) 2 rfl ?_
      refine ge_cv rfl rfl rfl (t1000 s) rfl rfl rfl (D := 1) (Nat.le_trans (by decide) hd) (c_Lc_needFish (n := n) (u := u) (t := t) (i := i) (r := r) s x1) ?_
      rintro (⟨⟩ | c_3) -
      · dsimp only [bkE, F_tv0]
        exact ge_leaf rfl
      · exact ge_leaf (And.intro rfl trivial)
  · rintro (_ | y_9) e he
    · obtain rfl := he
      try dsimp only
      refine ge_run (pc' := 7) (L' := [.ref 1000, .int x1]) (S' := [.ref 1000]) 1 rfl ?_
      refine ge_getR (b := 1620) rfl (t1000 s) rfl (r1000_11 s) (Nat.le_of_ble_eq_true rfl) ?_
      refine ge_run (pc' := 9) (L' := [.ref 1000, .int x1]) (S' := [.ref 1000, .ref 1620]) 1 rfl ?_
      refine ge_getR (b := 1001) rfl (t1000 s) rfl (r1000_0 s) (Nat.le_of_ble_eq_true rfl) ?_
      refine ge_cv rfl rfl rfl (t1620 s) rfl rfl rfl (D := 3) (Nat.le_trans (by decide) hd) (c_Sl_planPairs (n := n) (u := u) (t := t) (i := i) (r := r) s 1001 sea1001) ?_
      rintro i_4 -
      dsimp only [bkE, F_v1]
      refine ge_run (pc' := 13) (L' := [.ref 1000, .int x1]) (S' := [.int (-1 : Int32), .int x1]) 2 rfl ?_
      refine ge_ne rfl (fun h_5 => ?_) (fun h_6 => ?_)
      · refine ge_run (pc' := 15) (L' := [.ref 1000, .int x1]) (S' := [.ref 1000]) 1 rfl ?_
        refine ge_getR (b := 1620) rfl (t1000 s) rfl (r1000_11 s) (Nat.le_of_ble_eq_true rfl) ?_
        refine ge_getI rfl (t1620 s) rfl ?_
        refine ge_run (pc' := 23) (L' := [.ref 1000, .int x1]) (S' := [.int (i_4 1620 4)]) 1 rfl ?_
        exact ge_ret rfl rfl (And.intro rfl trivial)
      · refine ge_run (pc' := 19) (L' := [.ref 1000, .int x1]) (S' := [.ref 1000]) 1 rfl ?_
        refine ge_getR (b := 1620) rfl (t1000 s) rfl (r1000_11 s) (Nat.le_of_ble_eq_true rfl) ?_
        refine ge_getR (b := 1630) rfl (t1620 s) rfl (r1620_3 s) (Nat.le_of_ble_eq_true rfl) ?_
        refine ge_run (pc' := 22) (L' := [.ref 1000, .int x1]) (S' := [.int x1, .ref 1630]) 1 rfl ?_
        refine ge_grd (fun g_7 g_8 => ?_)
        refine ge_iald (jn := (ix x1)) rfl (t1630 s) ⟨g_7, rfl⟩ g_8 ?_
        exact ge_ret rfl rfl (And.intro rfl trivial)
    · exact ge_leaf he
def f_Lc_skipperHas (x0 : Int32) (x1 : Int32) (x2 : Int32) : Option (Int32) :=
  sw x0 0 [(some (x1)), (some ((-x2))), (some ((1 : Int32)))] ((some ((0 : Int32))))
set_option maxHeartbeats 4000000 in
theorem c_Lc_skipperHas {n u : Nat} {t : MT} {i : MI} {r : MR} (s : Sh n t r) (x0 : Int32) (x1 : Int32) (x2 : Int32) : Cn 1 189 [.int x0, .int x1, .int x2] (n, u, t, i, r) (f_Lc_skipperHas  x0 x1 x2) (F_i0 n u t i r) PT := by
  refine cn_of (Y := K_Lc_skipperHas) (L0 := [.int x0, .int x1, .int x2]) rfl rfl rfl ?_
  intro d hd
  unfold f_Lc_skipperHas
  refine ge_run (pc' := 1) (L' := [.int x0, .int x1, .int x2]) (S' := [.int x0]) 1 rfl ?_
  refine ge_sw rfl rfl (And.intro ?_ (And.intro ?_ (And.intro ?_ trivial))) ?_
  · refine ge_run (pc' := 3) (L' := [.int x0, .int x1, .int x2]) (S' := [.int x1]) 1 rfl ?_
    exact ge_ret rfl rfl (And.intro rfl trivial)
  · refine ge_run (pc' := 6) (L' := [.int x0, .int x1, .int x2]) (S' := [.int (-x2)]) 2 rfl ?_
    exact ge_ret rfl rfl (And.intro rfl trivial)
  · refine ge_run (pc' := 8) (L' := [.int x0, .int x1, .int x2]) (S' := [.int (1 : Int32)]) 1 rfl ?_
    exact ge_ret rfl rfl (And.intro rfl trivial)
  · refine ge_run (pc' := 10) (L' := [.int x0, .int x1, .int x2]) (S' := [.int (0 : Int32)]) 1 rfl ?_
    exact ge_ret rfl rfl (And.intro rfl trivial)
def f_Lc_schoolHas (x0 : Int32) (x1 : Int32) : Option (Int32) :=
  sw x0 0 [(some ((-x1))), (some ((1 : Int32))), (some ((2 : Int32)))] ((some ((0 : Int32))))
set_option maxHeartbeats 4000000 in
theorem c_Lc_schoolHas {n u : Nat} {t : MT} {i : MI} {r : MR} (s : Sh n t r) (x0 : Int32) (x1 : Int32) : Cn 1 190 [.int x0, .int x1] (n, u, t, i, r) (f_Lc_schoolHas  x0 x1) (F_i0 n u t i r) PT := by
  refine cn_of (Y := K_Lc_schoolHas) (L0 := [.int x0, .int x1]) rfl rfl rfl ?_
  intro d hd
  unfold f_Lc_schoolHas
  refine ge_run (pc' := 1) (L' := [.int x0, .int x1]) (S' := [.int x0]) 1 rfl ?_
  refine ge_sw rfl rfl (And.intro ?_ (And.intro ?_ (And.intro ?_ trivial))) ?_
  · refine ge_run (pc' := 4) (L' := [.int x0, .int x1]) (S' := [.int (-x1)]) 2 rfl ?_
    exact ge_ret rfl rfl (And.intro rfl trivial)
  · refine ge_run (pc' := 6) (L' := [.int x0, .int x1]) (S' := [.int (1 : Int32)]) 1 rfl ?_
    exact ge_ret rfl rfl (And.intro rfl trivial)
  · refine ge_run (pc' := 8) (L' := [.int x0, .int x1]) (S' := [.int (2 : Int32)]) 1 rfl ?_
    exact ge_ret rfl rfl (And.intro rfl trivial)
  · refine ge_run (pc' := 10) (L' := [.int x0, .int x1]) (S' := [.int (0 : Int32)]) 1 rfl ?_
    exact ge_ret rfl rfl (And.intro rfl trivial)
def f_Lc_rests (i : MI) (x1 : Int32) (x2 : Int32) : Option ((Int32 ⊕ Nat)) :=
  (f_Lc_needBoat i x1).bind (fun | .inl () => (f_Lc_needFish i x2).bind (fun | .inl () => grd x2 8 (grd x1 3 ((itr (σ := Int32 × Int32) (ρ := Int32) (fun (x5_7, x6_8) => if x6_8 < (4 : Int32) then ((f_Lc_skipperHas x6_8 (i (1001 + 3 + (ix x2)) 1) (i (1001 + 12 + (ix x1)) 2)).bind (fun v_16 => (f_Lc_skipperHas (x6_8 ^^^ (2 : Int32)) (i (1001 + 3 + (ix x2)) 1) (i (1001 + 12 + (ix x1)) 2)).bind (fun v_17 => (if v_16 < v_17 then (some (0 : Int32)) else (some (1 : Int32)) : Option (Int32)).bind (fun y_18 => (f_Lc_schoolHas x6_8 (i (1001 + 3 + (ix x2)) 1)).bind (fun v_21 => (f_Lc_schoolHas (x6_8 ^^^ (1 : Int32)) (i (1001 + 3 + (ix x2)) 1)).bind (fun v_22 => (if v_21 < v_22 then (some (0 : Int32)) else (some (1 : Int32)) : Option (Int32)).bind (fun y_23 => (if y_18 = 0 then (some x5_7) else (if y_23 = 0 then (some x5_7) else (some (x5_7 ||| (shl (1 : Int32) x6_8)))) : Option (Int32)).bind (fun x5_26 => some (.inl (x5_26, (x6_8 + (1 : Int32)))))))))))) else (some (.inr x5_7))) 1000000 ((0 : Int32), (0 : Int32))).bind (fun x5_11 => some (.inl x5_11)))) | .inr c_2 => some (.inr c_2)) | .inr c_1 => some (.inr c_1))
set_option maxHeartbeats 4000000 in
theorem c_Lc_rests {n u : Nat} {t : MT} {i : MI} {r : MR} (s : Sh n t r) (x1 : Int32) (x2 : Int32) : Cn 2 156 [.ref 1000, .int x1, .int x2] (n, u, t, i, r) (f_Lc_rests i x1 x2) (F_ti0 n u t i r) PT := by
  refine cn_of (Y := K_Lc_rests) (L0 := [.ref 1000, .int x1, .int x2, uV, uV, uV, uV, uV, uV]) rfl rfl rfl ?_
  intro d hd
  unfold f_Lc_rests
  refine ge_run (pc' := 2) (L' := [.ref 1000, .int x1, .int x2, uV, uV, uV, uV, uV, uV]) (S' := [.int x1, .ref 1000]) 2 rfl ?_
  refine ge_cv rfl rfl rfl (t1000 s) rfl rfl rfl (D := 1) (Nat.le_trans (by decide) hd) (c_Lc_needBoat (n := n) (u := u) (t := t) (i := i) (r := r) s x1) ?_
  rintro (⟨⟩ | c_1) -
  · dsimp only [bkE, F_tv0]
    refine ge_run (pc' := 5) (L' := [.ref 1000, .int x1, .int x2, uV, uV, uV, uV, uV, uV]) (S' := [.int x2, .ref 1000]) 2 rfl ?_
    refine ge_cv rfl rfl rfl (t1000 s) rfl rfl rfl (D := 1) (Nat.le_trans (by decide) hd) (c_Lc_needFish (n := n) (u := u) (t := t) (i := i) (r := r) s x2) ?_
    rintro (⟨⟩ | c_2) -
    · dsimp only [bkE, F_tv0]
      refine ge_run (pc' := 7) (L' := [.ref 1000, .int x1, .int x2, uV, uV, uV, uV, uV, uV]) (S' := [.ref 1000]) 1 rfl ?_
      refine ge_getR (b := 1001) rfl (t1000 s) rfl (r1000_0 s) (Nat.le_of_ble_eq_true rfl) ?_
      refine ge_getR (b := (1001 + 2)) rfl (sT0 s sea1001) rfl (sR1 s sea1001) (sge sea1001) ?_
      refine ge_run (pc' := 10) (L' := [.ref 1000, .int x1, .int x2, uV, uV, uV, uV, uV, uV]) (S' := [.int x2, .ref (1001 + 2)]) 1 rfl ?_
      refine ge_grd (fun g_3 g_4 => ?_)
      refine ge_aald (jn := (ix x2)) (b := (1001 + 3 + (ix x2))) rfl (sT2 s sea1001) (Or.inl rfl) ⟨g_3, rfl⟩ g_4 (sRr_fish s sea1001 g_4) (sge2 sea1001) ?_
      refine ge_run (pc' := 12) (L' := [.ref 1000, .int x1, .int x2, uV, uV, uV, uV, uV, uV]) (S' := [.int (1 : Int32), .ref (1001 + 3 + (ix x2))]) 1 rfl ?_
      refine ge_iald (jn := 1) rfl (sRow_fish s sea1001 g_4) lk1 (by decide) ?_
      refine ge_run (pc' := 15) (L' := [.ref 1000, .int x1, .int x2, .int (i (1001 + 3 + (ix x2)) 1), uV, uV, uV, uV, uV]) (S' := [.ref 1000]) 2 rfl ?_
      refine ge_getR (b := 1001) rfl (t1000 s) rfl (r1000_0 s) (Nat.le_of_ble_eq_true rfl) ?_
      refine ge_getR (b := (1001 + 11)) rfl (sT0 s sea1001) rfl (sR2 s sea1001) (sge sea1001) ?_
      refine ge_run (pc' := 18) (L' := [.ref 1000, .int x1, .int x2, .int (i (1001 + 3 + (ix x2)) 1), uV, uV, uV, uV, uV]) (S' := [.int x1, .ref (1001 + 11)]) 1 rfl ?_
      refine ge_grd (fun g_5 g_6 => ?_)
      refine ge_aald (jn := (ix x1)) (b := (1001 + 12 + (ix x1))) rfl (sT11 s sea1001) (Or.inl rfl) ⟨g_5, rfl⟩ g_6 (sRr_boat s sea1001 g_6) (sge2 sea1001) ?_
      refine ge_run (pc' := 20) (L' := [.ref 1000, .int x1, .int x2, .int (i (1001 + 3 + (ix x2)) 1), uV, uV, uV, uV, uV]) (S' := [.int (2 : Int32), .ref (1001 + 12 + (ix x1))]) 1 rfl ?_
      refine ge_iald (jn := 2) rfl (sRow_boat s sea1001 g_6) lk2 (by decide) ?_
      refine ge_run (pc' := 26) (L' := [.ref 1000, .int x1, .int x2, .int (i (1001 + 3 + (ix x2)) 1), .int (i (1001 + 12 + (ix x1)) 2), .int (0 : Int32), .int (0 : Int32), uV, uV]) (S' := []) 5 rfl ?_
      refine ge_bind (K1 := fun (q : Int32) e => ∃ w_12 w_13 w_14 : Value, e = .inl (69, [.ref 1000, .int x1, .int x2, .int (i (1001 + 3 + (ix x2)) 1), .int (i (1001 + 12 + (ix x1)) 2), .int q, w_12, w_13, w_14], [], (n, u, t, i, r))) (ge_itr (C := fun (q : Int32 × Int32) e => ∃ w_9 w_10 : Value, e = .inl (26, [.ref 1000, .int x1, .int x2, .int (i (1001 + 3 + (ix x2)) 1), .int (i (1001 + 12 + (ix x1)) 2), .int q.1, .int q.2, w_9, w_10], [], (n, u, t, i, r))) ?_ _ _ _ (Exists.intro _ (Exists.intro _ rfl))) ?_
      · rintro ⟨x5_7, x6_8⟩ _ ⟨w_9, w_10, rfl⟩
        try dsimp only
        refine ge_run (pc' := 28) (L' := [.ref 1000, .int x1, .int x2, .int (i (1001 + 3 + (ix x2)) 1), .int (i (1001 + 12 + (ix x1)) 2), .int x5_7, .int x6_8, w_9, w_10]) (S' := [.int (4 : Int32), .int x6_8]) 2 rfl ?_
        refine ge_ge rfl (fun h_15 => ?_) (fun h_31 => ?_)
        · refine ge_run (pc' := 32) (L' := [.ref 1000, .int x1, .int x2, .int (i (1001 + 3 + (ix x2)) 1), .int (i (1001 + 12 + (ix x1)) 2), .int x5_7, .int x6_8, w_9, w_10]) (S' := [.int (i (1001 + 12 + (ix x1)) 2), .int (i (1001 + 3 + (ix x2)) 1), .int x6_8]) 3 rfl ?_
          refine ge_cs rfl rfl rfl rfl rfl rfl (D := 1) (Nat.le_trans (by decide) hd) (c_Lc_skipperHas (n := n) (u := u) (t := t) (i := i) (r := r) s x6_8 (i (1001 + 3 + (ix x2)) 1) (i (1001 + 12 + (ix x1)) 2)) ?_
          rintro v_16 -
          dsimp only [bkE, F_i0]
          refine ge_run (pc' := 38) (L' := [.ref 1000, .int x1, .int x2, .int (i (1001 + 3 + (ix x2)) 1), .int (i (1001 + 12 + (ix x1)) 2), .int x5_7, .int x6_8, w_9, w_10]) (S' := [.int (i (1001 + 12 + (ix x1)) 2), .int (i (1001 + 3 + (ix x2)) 1), .int (x6_8 ^^^ (2 : Int32)), .int v_16]) 5 rfl ?_
          refine ge_cs rfl rfl rfl rfl rfl rfl (D := 1) (Nat.le_trans (by decide) hd) (c_Lc_skipperHas (n := n) (u := u) (t := t) (i := i) (r := r) s (x6_8 ^^^ (2 : Int32)) (i (1001 + 3 + (ix x2)) 1) (i (1001 + 12 + (ix x1)) 2)) ?_
          rintro v_17 -
          dsimp only [bkE, F_i0]
          refine ge_bind (K1 := fun (q : Int32) e => e = .inl (43, [.ref 1000, .int x1, .int x2, .int (i (1001 + 3 + (ix x2)) 1), .int (i (1001 + 12 + (ix x1)) 2), .int x5_7, .int x6_8, w_9, w_10], [.int q], (n, u, t, i, r))) ?_ ?_
          · refine ge_lt rfl (fun h_19 => ?_) (fun h_20 => ?_)
            · refine ge_run (pc' := 43) (L' := [.ref 1000, .int x1, .int x2, .int (i (1001 + 3 + (ix x2)) 1), .int (i (1001 + 12 + (ix x1)) 2), .int x5_7, .int x6_8, w_9, w_10]) (S' := [.int (0 : Int32)]) 1 rfl ?_
              exact ge_leaf rfl
            · refine ge_run (pc' := 43) (L' := [.ref 1000, .int x1, .int x2, .int (i (1001 + 3 + (ix x2)) 1), .int (i (1001 + 12 + (ix x1)) 2), .int x5_7, .int x6_8, w_9, w_10]) (S' := [.int (1 : Int32)]) 2 rfl ?_
              exact ge_leaf rfl
          · rintro y_18 _ rfl
            try dsimp only
            refine ge_run (pc' := 46) (L' := [.ref 1000, .int x1, .int x2, .int (i (1001 + 3 + (ix x2)) 1), .int (i (1001 + 12 + (ix x1)) 2), .int x5_7, .int x6_8, .int y_18, w_10]) (S' := [.int (i (1001 + 3 + (ix x2)) 1), .int x6_8]) 3 rfl ?_
            refine ge_cs rfl rfl rfl rfl rfl rfl (D := 1) (Nat.le_trans (by decide) hd) (c_Lc_schoolHas (n := n) (u := u) (t := t) (i := i) (r := r) s x6_8 (i (1001 + 3 + (ix x2)) 1)) ?_
            rintro v_21 -
            dsimp only [bkE, F_i0]
            refine ge_run (pc' := 51) (L' := [.ref 1000, .int x1, .int x2, .int (i (1001 + 3 + (ix x2)) 1), .int (i (1001 + 12 + (ix x1)) 2), .int x5_7, .int x6_8, .int y_18, w_10]) (S' := [.int (i (1001 + 3 + (ix x2)) 1), .int (x6_8 ^^^ (1 : Int32)), .int v_21]) 4 rfl ?_
            refine ge_cs rfl rfl rfl rfl rfl rfl (D := 1) (Nat.le_trans (by decide) hd) (c_Lc_schoolHas (n := n) (u := u) (t := t) (i := i) (r := r) s (x6_8 ^^^ (1 : Int32)) (i (1001 + 3 + (ix x2)) 1)) ?_
            rintro v_22 -
            dsimp only [bkE, F_i0]
            refine ge_bind (K1 := fun (q : Int32) e => e = .inl (56, [.ref 1000, .int x1, .int x2, .int (i (1001 + 3 + (ix x2)) 1), .int (i (1001 + 12 + (ix x1)) 2), .int x5_7, .int x6_8, .int y_18, w_10], [.int q], (n, u, t, i, r))) ?_ ?_
            · refine ge_lt rfl (fun h_24 => ?_) (fun h_25 => ?_)
              · refine ge_run (pc' := 56) (L' := [.ref 1000, .int x1, .int x2, .int (i (1001 + 3 + (ix x2)) 1), .int (i (1001 + 12 + (ix x1)) 2), .int x5_7, .int x6_8, .int y_18, w_10]) (S' := [.int (0 : Int32)]) 1 rfl ?_
                exact ge_leaf rfl
              · refine ge_run (pc' := 56) (L' := [.ref 1000, .int x1, .int x2, .int (i (1001 + 3 + (ix x2)) 1), .int (i (1001 + 12 + (ix x1)) 2), .int x5_7, .int x6_8, .int y_18, w_10]) (S' := [.int (1 : Int32)]) 2 rfl ?_
                exact ge_leaf rfl
            · rintro y_23 _ rfl
              try dsimp only
              refine ge_run (pc' := 58) (L' := [.ref 1000, .int x1, .int x2, .int (i (1001 + 3 + (ix x2)) 1), .int (i (1001 + 12 + (ix x1)) 2), .int x5_7, .int x6_8, .int y_18, .int y_23]) (S' := [.int y_18]) 2 rfl ?_
              refine ge_bind (K1 := fun (q : Int32) e => e = .inl (67, [.ref 1000, .int x1, .int x2, .int (i (1001 + 3 + (ix x2)) 1), .int (i (1001 + 12 + (ix x1)) 2), .int q, .int x6_8, .int y_18, .int y_23], [], (n, u, t, i, r))) ?_ ?_
              · refine ge_eq0 rfl (fun h_27 => ?_) (fun h_28 => ?_)
                · exact ge_leaf rfl
                · refine ge_run (pc' := 60) (L' := [.ref 1000, .int x1, .int x2, .int (i (1001 + 3 + (ix x2)) 1), .int (i (1001 + 12 + (ix x1)) 2), .int x5_7, .int x6_8, .int y_18, .int y_23]) (S' := [.int y_23]) 1 rfl ?_
                  refine ge_eq0 rfl (fun h_29 => ?_) (fun h_30 => ?_)
                  · exact ge_leaf rfl
                  · refine ge_run (pc' := 67) (L' := [.ref 1000, .int x1, .int x2, .int (i (1001 + 3 + (ix x2)) 1), .int (i (1001 + 12 + (ix x1)) 2), .int (x5_7 ||| (shl (1 : Int32) x6_8)), .int x6_8, .int y_18, .int y_23]) (S' := []) 6 rfl ?_
                    exact ge_leaf rfl
              · rintro x5_26 _ rfl
                try dsimp only
                refine ge_run (pc' := 26) (L' := [.ref 1000, .int x1, .int x2, .int (i (1001 + 3 + (ix x2)) 1), .int (i (1001 + 12 + (ix x1)) 2), .int x5_26, .int (x6_8 + (1 : Int32)), .int y_18, .int y_23]) (S' := []) 2 rfl ?_
                exact ge_leaf (K := kX _ _) (Exists.intro _ (Exists.intro _ rfl))
        · exact ge_leaf (K := kX _ _) (Exists.intro _ (Exists.intro _ (Exists.intro _ rfl)))
      · rintro x5_11 _ ⟨w_12, w_13, w_14, rfl⟩
        try dsimp only
        refine ge_run (pc' := 70) (L' := [.ref 1000, .int x1, .int x2, .int (i (1001 + 3 + (ix x2)) 1), .int (i (1001 + 12 + (ix x1)) 2), .int x5_11, w_12, w_13, w_14]) (S' := [.int x5_11]) 1 rfl ?_
        exact ge_ret rfl rfl (And.intro rfl trivial)
    · exact ge_leaf (And.intro rfl trivial)
  · exact ge_leaf (And.intro rfl trivial)
def f_Lc_odds (i : MI) (x1 : Int32) : Option ((Int32 ⊕ Nat)) :=
  (f_Lc_needWithin x1 (0 : Int32) (4 : Int32)).bind (fun | .inl () => (itr (σ := Int32 × Int32) (ρ := Int32) (fun (x2_2, x3_3) => if x3_3 < x1 then ((itr (σ := Int32 × Int32) (ρ := Int32) (fun (x2_9, x4_10) => if x4_10 < (i 1001 9) then (grd x4_10 5 (some (.inl (((x2_9 * ((100 : Int32) - (i (1001 + 16 + (ix x4_10)) 3))) / (100 : Int32)), (x4_10 + (1 : Int32)))))) else (some (.inr x2_9))) 1000000 (x2_2, (0 : Int32))).bind (fun x2_11 => some (.inl (x2_11, (x3_3 + (1 : Int32)))))) else (some (.inr x2_2))) 1000000 ((10000 : Int32), (0 : Int32))).bind (fun x2_5 => some (.inl x2_5)) | .inr c_1 => some (.inr c_1))
set_option maxHeartbeats 4000000 in
theorem c_Lc_odds {n u : Nat} {t : MT} {i : MI} {r : MR} (s : Sh n t r) (x1 : Int32) : Cn 2 157 [.ref 1000, .int x1] (n, u, t, i, r) (f_Lc_odds i x1) (F_ti0 n u t i r) PT := by
  refine cn_of (Y := K_Lc_odds) (L0 := [.ref 1000, .int x1, uV, uV, uV]) rfl rfl rfl ?_
  intro d hd
  unfold f_Lc_odds
  refine ge_run (pc' := 3) (L' := [.ref 1000, .int x1, uV, uV, uV]) (S' := [.int (4 : Int32), .int (0 : Int32), .int x1]) 3 rfl ?_
  refine ge_cs rfl rfl rfl rfl rfl rfl (D := 1) (Nat.le_trans (by decide) hd) (c_Lc_needWithin (n := n) (u := u) (t := t) (i := i) (r := r) s x1 (0 : Int32) (4 : Int32)) ?_
  rintro (⟨⟩ | c_1) -
  · dsimp only [bkE, F_tv0]
    refine ge_run (pc' := 8) (L' := [.ref 1000, .int x1, .int (10000 : Int32), .int (0 : Int32), uV]) (S' := []) 4 rfl ?_
    refine ge_bind (K1 := fun (q : Int32) e => ∃ w_6 w_7 : Value, e = .inl (36, [.ref 1000, .int x1, .int q, w_6, w_7], [], (n, u, t, i, r))) (ge_itr (C := fun (q : Int32 × Int32) e => ∃ w_4 : Value, e = .inl (8, [.ref 1000, .int x1, .int q.1, .int q.2, w_4], [], (n, u, t, i, r))) ?_ _ _ _ (Exists.intro _ rfl)) ?_
    · rintro ⟨x2_2, x3_3⟩ _ ⟨w_4, rfl⟩
      try dsimp only
      refine ge_run (pc' := 10) (L' := [.ref 1000, .int x1, .int x2_2, .int x3_3, w_4]) (S' := [.int x1, .int x3_3]) 2 rfl ?_
      refine ge_ge rfl (fun h_8 => ?_) (fun h_17 => ?_)
      · refine ge_run (pc' := 13) (L' := [.ref 1000, .int x1, .int x2_2, .int x3_3, .int (0 : Int32)]) (S' := []) 2 rfl ?_
        refine ge_bind (K1 := fun (q : Int32) e => ∃ w_12 : Value, e = .inl (34, [.ref 1000, .int x1, .int q, .int x3_3, w_12], [], (n, u, t, i, r))) (ge_itr (C := fun (q : Int32 × Int32) e => e = .inl (13, [.ref 1000, .int x1, .int q.1, .int x3_3, .int q.2], [], (n, u, t, i, r))) ?_ _ _ _ rfl) ?_
        · rintro ⟨x2_9, x4_10⟩ _ rfl
          try dsimp only
          refine ge_run (pc' := 15) (L' := [.ref 1000, .int x1, .int x2_9, .int x3_3, .int x4_10]) (S' := [.ref 1000, .int x4_10]) 2 rfl ?_
          refine ge_getR (b := 1001) rfl (t1000 s) rfl (r1000_0 s) (Nat.le_of_ble_eq_true rfl) ?_
          refine ge_getI rfl (sT0 s sea1001) rfl ?_
          refine ge_ge rfl (fun h_13 => ?_) (fun h_16 => ?_)
          · refine ge_run (pc' := 21) (L' := [.ref 1000, .int x1, .int x2_9, .int x3_3, .int x4_10]) (S' := [.ref 1000, .int (100 : Int32), .int x2_9]) 3 rfl ?_
            refine ge_getR (b := 1001) rfl (t1000 s) rfl (r1000_0 s) (Nat.le_of_ble_eq_true rfl) ?_
            refine ge_getR (b := (1001 + 15)) rfl (sT0 s sea1001) rfl (sR3 s sea1001) (sge sea1001) ?_
            refine ge_run (pc' := 24) (L' := [.ref 1000, .int x1, .int x2_9, .int x3_3, .int x4_10]) (S' := [.int x4_10, .ref (1001 + 15), .int (100 : Int32), .int x2_9]) 1 rfl ?_
            refine ge_grd (fun g_14 g_15 => ?_)
            refine ge_aald (jn := (ix x4_10)) (b := (1001 + 16 + (ix x4_10))) rfl (sT15 s sea1001) (Or.inl rfl) ⟨g_14, rfl⟩ g_15 (sRr_buyer s sea1001 g_15) (sge2 sea1001) ?_
            refine ge_run (pc' := 26) (L' := [.ref 1000, .int x1, .int x2_9, .int x3_3, .int x4_10]) (S' := [.int (3 : Int32), .ref (1001 + 16 + (ix x4_10)), .int (100 : Int32), .int x2_9]) 1 rfl ?_
            refine ge_iald (jn := 3) rfl (sRow_buyer s sea1001 g_15) lk3 (by decide) ?_
            refine ge_run (pc' := 30) (L' := [.ref 1000, .int x1, .int x2_9, .int x3_3, .int x4_10]) (S' := [.int (100 : Int32), .int (x2_9 * ((100 : Int32) - (i (1001 + 16 + (ix x4_10)) 3)))]) 3 rfl ?_
            refine ge_div rfl (by decide) ?_
            refine ge_run (pc' := 13) (L' := [.ref 1000, .int x1, .int ((x2_9 * ((100 : Int32) - (i (1001 + 16 + (ix x4_10)) 3))) / (100 : Int32)), .int x3_3, .int (x4_10 + (1 : Int32))]) (S' := []) 3 rfl ?_
            exact ge_leaf (K := kX _ _) rfl
          · exact ge_leaf (K := kX _ _) (Exists.intro _ rfl)
        · rintro x2_11 _ ⟨w_12, rfl⟩
          try dsimp only
          refine ge_run (pc' := 8) (L' := [.ref 1000, .int x1, .int x2_11, .int (x3_3 + (1 : Int32)), w_12]) (S' := []) 2 rfl ?_
          exact ge_leaf (K := kX _ _) (Exists.intro _ rfl)
      · exact ge_leaf (K := kX _ _) (Exists.intro _ (Exists.intro _ rfl))
    · rintro x2_5 _ ⟨w_6, w_7, rfl⟩
      try dsimp only
      refine ge_run (pc' := 37) (L' := [.ref 1000, .int x1, .int x2_5, w_6, w_7]) (S' := [.int x2_5]) 1 rfl ?_
      exact ge_ret rfl rfl (And.intro rfl trivial)
  · exact ge_leaf (And.intro rfl trivial)
def f_Lc_freshest (i : MI) : Option (Int32) :=
  (f_Se_placed i 1001 (2 : Int32)).bind (fun v_1 => (f_Se_freshestOf i 1001 v_1).bind (fun v_2 => some (v_2)))
set_option maxHeartbeats 4000000 in
theorem c_Lc_freshest {n u : Nat} {t : MT} {i : MI} {r : MR} (s : Sh n t r)  : Cn 2 158 [.ref 1000] (n, u, t, i, r) (f_Lc_freshest i ) (F_i0 n u t i r) PT := by
  refine cn_of (Y := K_Lc_freshest) (L0 := [.ref 1000]) rfl rfl rfl ?_
  intro d hd
  unfold f_Lc_freshest
  refine ge_run (pc' := 1) (L' := [.ref 1000]) (S' := [.ref 1000]) 1 rfl ?_
  refine ge_getR (b := 1001) rfl (t1000 s) rfl (r1000_0 s) (Nat.le_of_ble_eq_true rfl) ?_
  refine ge_run (pc' := 3) (L' := [.ref 1000]) (S' := [.ref 1000, .ref 1001]) 1 rfl ?_
  refine ge_getR (b := 1001) rfl (t1000 s) rfl (r1000_0 s) (Nat.le_of_ble_eq_true rfl) ?_
  refine ge_run (pc' := 5) (L' := [.ref 1000]) (S' := [.int (2 : Int32), .ref 1001, .ref 1001]) 1 rfl ?_
  refine ge_cv rfl rfl rfl (sT0 s sea1001) rfl rfl rfl (D := 1) (Nat.le_trans (by decide) hd) (c_Se_placed (n := n) (u := u) (t := t) (i := i) (r := r) s 1001 sea1001 (2 : Int32)) ?_
  rintro v_1 -
  dsimp only [bkE, F_i0]
  refine ge_cv rfl rfl rfl (sT0 s sea1001) rfl rfl rfl (D := 1) (Nat.le_trans (by decide) hd) (c_Se_freshestOf (n := n) (u := u) (t := t) (i := i) (r := r) s 1001 sea1001 v_1) ?_
  rintro v_2 -
  dsimp only [bkE, F_i0]
  exact ge_ret rfl rfl (And.intro rfl trivial)
def f_Lc_dearest (t : MT) (r : MR) (i : MI) : Option (Int32 × MI) :=
  (itr (σ := Int32 × Int32 × Int32 × MI) (ρ := Int32 × MI) (fun (x1_1, x2_2, x3_3, i_4) => if x3_3 < (i_4 1001 7) then (grd x3_3 8 ((if (i_4 (1001 + 3 + (ix x3_3)) 3) = (2 : Int32) then ((f_Se_price t r i_4 1001 x3_3).bind (fun (v_17, i_18) => some (v_17, i_18))) else (some ((-1 : Int32), i_4)) : Option (Int32 × MI)).bind (fun (y_14, i_15) => (if x2_2 < y_14 then (some (x3_3, y_14)) else (some (x1_1, x2_2)) : Option (Int32 × Int32)).bind (fun (x1_20, x2_21) => some (.inl (x1_20, x2_21, (x3_3 + (1 : Int32)), i_15)))))) else (some (.inr (x1_1, i_4)))) 1000000 ((-1 : Int32), (-1 : Int32), (0 : Int32), i)).bind (fun (x1_6, i_7) => some (x1_6, i_7))
set_option maxHeartbeats 4000000 in
theorem c_Lc_dearest {n u : Nat} {t : MT} {i : MI} {r : MR} (s : Sh n t r)  : Cn 4 159 [.ref 1000] (n, u, t, i, r) (f_Lc_dearest t r i ) (F_i1 n u t r) PT := by
  refine cn_of (Y := K_Lc_dearest) (L0 := [.ref 1000, uV, uV, uV, uV]) rfl rfl rfl ?_
  intro d hd
  unfold f_Lc_dearest
  refine ge_run (pc' := 6) (L' := [.ref 1000, .int (-1 : Int32), .int (-1 : Int32), .int (0 : Int32), uV]) (S' := []) 6 rfl ?_
  refine ge_bind (K1 := fun (q : Int32 × MI) e => ∃ w_8 w_9 w_10 : Value, e = .inl (36, [.ref 1000, .int q.1, w_8, w_9, w_10], [], (n, u, t, q.2, r))) (ge_itr (C := fun (q : Int32 × Int32 × Int32 × MI) e => ∃ w_5 : Value, e = .inl (6, [.ref 1000, .int q.1, .int q.2.1, .int q.2.2.1, w_5], [], (n, u, t, q.2.2.2, r))) ?_ _ _ _ (Exists.intro _ rfl)) ?_
  · rintro ⟨x1_1, x2_2, x3_3, i_4⟩ _ ⟨w_5, rfl⟩
    try dsimp only
    refine ge_run (pc' := 8) (L' := [.ref 1000, .int x1_1, .int x2_2, .int x3_3, w_5]) (S' := [.ref 1000, .int x3_3]) 2 rfl ?_
    refine ge_getR (b := 1001) rfl (t1000 s) rfl (r1000_0 s) (Nat.le_of_ble_eq_true rfl) ?_
    refine ge_getI rfl (sT0 s sea1001) rfl ?_
    refine ge_ge rfl (fun h_11 => ?_) (fun h_24 => ?_)
    · refine ge_run (pc' := 12) (L' := [.ref 1000, .int x1_1, .int x2_2, .int x3_3, w_5]) (S' := [.ref 1000]) 1 rfl ?_
      refine ge_getR (b := 1001) rfl (t1000 s) rfl (r1000_0 s) (Nat.le_of_ble_eq_true rfl) ?_
      refine ge_getR (b := (1001 + 2)) rfl (sT0 s sea1001) rfl (sR1 s sea1001) (sge sea1001) ?_
      refine ge_run (pc' := 15) (L' := [.ref 1000, .int x1_1, .int x2_2, .int x3_3, w_5]) (S' := [.int x3_3, .ref (1001 + 2)]) 1 rfl ?_
      refine ge_grd (fun g_12 g_13 => ?_)
      refine ge_aald (jn := (ix x3_3)) (b := (1001 + 3 + (ix x3_3))) rfl (sT2 s sea1001) (Or.inl rfl) ⟨g_12, rfl⟩ g_13 (sRr_fish s sea1001 g_13) (sge2 sea1001) ?_
      refine ge_run (pc' := 17) (L' := [.ref 1000, .int x1_1, .int x2_2, .int x3_3, w_5]) (S' := [.int (3 : Int32), .ref (1001 + 3 + (ix x3_3))]) 1 rfl ?_
      refine ge_iald (jn := 3) rfl (sRow_fish s sea1001 g_13) lk3 (by decide) ?_
      refine ge_run (pc' := 19) (L' := [.ref 1000, .int x1_1, .int x2_2, .int x3_3, w_5]) (S' := [.int (2 : Int32), .int (i_4 (1001 + 3 + (ix x3_3)) 3)]) 1 rfl ?_
      refine ge_bind (K1 := fun (q : Int32 × MI) e => e = .inl (26, [.ref 1000, .int x1_1, .int x2_2, .int x3_3, w_5], [.int q.1], (n, u, t, q.2, r))) ?_ ?_
      · refine ge_ne rfl (fun h_16 => ?_) (fun h_19 => ?_)
        · refine ge_run (pc' := 21) (L' := [.ref 1000, .int x1_1, .int x2_2, .int x3_3, w_5]) (S' := [.ref 1000]) 1 rfl ?_
          refine ge_getR (b := 1001) rfl (t1000 s) rfl (r1000_0 s) (Nat.le_of_ble_eq_true rfl) ?_
          refine ge_run (pc' := 23) (L' := [.ref 1000, .int x1_1, .int x2_2, .int x3_3, w_5]) (S' := [.int x3_3, .ref 1001]) 1 rfl ?_
          refine ge_cv rfl rfl rfl (sT0 s sea1001) rfl rfl rfl (D := 3) (Nat.le_trans (by decide) hd) (c_Se_price (n := n) (u := u) (t := t) (i := i_4) (r := r) s 1001 sea1001 x3_3) ?_
          rintro ⟨v_17, i_18⟩ -
          dsimp only [bkE, F_i1]
          refine ge_run (pc' := 26) (L' := [.ref 1000, .int x1_1, .int x2_2, .int x3_3, w_5]) (S' := [.int v_17]) 1 rfl ?_
          exact ge_leaf rfl
        · refine ge_run (pc' := 26) (L' := [.ref 1000, .int x1_1, .int x2_2, .int x3_3, w_5]) (S' := [.int (-1 : Int32)]) 1 rfl ?_
          exact ge_leaf rfl
      · rintro ⟨y_14, i_15⟩ _ rfl
        try dsimp only
        refine ge_run (pc' := 29) (L' := [.ref 1000, .int x1_1, .int x2_2, .int x3_3, .int y_14]) (S' := [.int x2_2, .int y_14]) 3 rfl ?_
        refine ge_bind (K1 := fun (q : Int32 × Int32) e => e = .inl (34, [.ref 1000, .int q.1, .int q.2, .int x3_3, .int y_14], [], (n, u, t, i_15, r))) ?_ ?_
        · refine ge_le rfl (fun h_22 => ?_) (fun h_23 => ?_)
          · refine ge_run (pc' := 34) (L' := [.ref 1000, .int x3_3, .int y_14, .int x3_3, .int y_14]) (S' := []) 4 rfl ?_
            exact ge_leaf rfl
          · exact ge_leaf rfl
        · rintro ⟨x1_20, x2_21⟩ _ rfl
          try dsimp only
          refine ge_run (pc' := 6) (L' := [.ref 1000, .int x1_20, .int x2_21, .int (x3_3 + (1 : Int32)), .int y_14]) (S' := []) 2 rfl ?_
          exact ge_leaf (K := kX _ _) (Exists.intro _ rfl)
    · exact ge_leaf (K := kX _ _) (Exists.intro _ (Exists.intro _ (Exists.intro _ rfl)))
  · rintro ⟨x1_6, i_7⟩ _ ⟨w_8, w_9, w_10, rfl⟩
    try dsimp only
    refine ge_run (pc' := 37) (L' := [.ref 1000, .int x1_6, w_8, w_9, w_10]) (S' := [.int x1_6]) 1 rfl ?_
    exact ge_ret rfl rfl (And.intro rfl trivial)
def f_Lc_kind (i : MI) (x1 : Int32) : Option ((Int32 ⊕ Nat)) :=
  (f_Lc_needKind x1).bind (fun | .inl () => (itr (σ := Int32 × Int32) (ρ := Int32) (fun (x2_2, x3_3) => if x3_3 < (i 1001 7) then (grd x3_3 8 ((if (i (1001 + 3 + (ix x3_3)) 0) = x1 then (if (i (1001 + 3 + (ix x3_3)) 3) = (3 : Int32) then (some x2_2) else (some (x2_2 ||| (shl (1 : Int32) x3_3)))) else (some x2_2) : Option (Int32)).bind (fun x2_9 => some (.inl (x2_9, (x3_3 + (1 : Int32))))))) else (some (.inr x2_2))) 1000000 ((0 : Int32), (0 : Int32))).bind (fun x2_4 => some (.inl x2_4)) | .inr c_1 => some (.inr c_1))
set_option maxHeartbeats 4000000 in
theorem c_Lc_kind {n u : Nat} {t : MT} {i : MI} {r : MR} (s : Sh n t r) (x1 : Int32) : Cn 2 160 [.ref 1000, .int x1] (n, u, t, i, r) (f_Lc_kind i x1) (F_ti0 n u t i r) PT := by
  refine cn_of (Y := K_Lc_kind) (L0 := [.ref 1000, .int x1, uV, uV]) rfl rfl rfl ?_
  intro d hd
  unfold f_Lc_kind
  refine ge_run (pc' := 1) (L' := [.ref 1000, .int x1, uV, uV]) (S' := [.int x1]) 1 rfl ?_
  refine ge_cs rfl rfl rfl rfl rfl rfl (D := 1) (Nat.le_trans (by decide) hd) (c_Lc_needKind (n := n) (u := u) (t := t) (i := i) (r := r) s x1) ?_
  rintro (⟨⟩ | c_1) -
  · dsimp only [bkE, F_tv0]
    refine ge_run (pc' := 6) (L' := [.ref 1000, .int x1, .int (0 : Int32), .int (0 : Int32)]) (S' := []) 4 rfl ?_
    refine ge_bind (K1 := fun (q : Int32) e => ∃ w_5 : Value, e = .inl (37, [.ref 1000, .int x1, .int q, w_5], [], (n, u, t, i, r))) (ge_itr (C := fun (q : Int32 × Int32) e => e = .inl (6, [.ref 1000, .int x1, .int q.1, .int q.2], [], (n, u, t, i, r))) ?_ _ _ _ rfl) ?_
    · rintro ⟨x2_2, x3_3⟩ _ rfl
      try dsimp only
      refine ge_run (pc' := 8) (L' := [.ref 1000, .int x1, .int x2_2, .int x3_3]) (S' := [.ref 1000, .int x3_3]) 2 rfl ?_
      refine ge_getR (b := 1001) rfl (t1000 s) rfl (r1000_0 s) (Nat.le_of_ble_eq_true rfl) ?_
      refine ge_getI rfl (sT0 s sea1001) rfl ?_
      refine ge_ge rfl (fun h_6 => ?_) (fun h_14 => ?_)
      · refine ge_run (pc' := 12) (L' := [.ref 1000, .int x1, .int x2_2, .int x3_3]) (S' := [.ref 1000]) 1 rfl ?_
        refine ge_getR (b := 1001) rfl (t1000 s) rfl (r1000_0 s) (Nat.le_of_ble_eq_true rfl) ?_
        refine ge_getR (b := (1001 + 2)) rfl (sT0 s sea1001) rfl (sR1 s sea1001) (sge sea1001) ?_
        refine ge_run (pc' := 15) (L' := [.ref 1000, .int x1, .int x2_2, .int x3_3]) (S' := [.int x3_3, .ref (1001 + 2)]) 1 rfl ?_
        refine ge_grd (fun g_7 g_8 => ?_)
        refine ge_aald (jn := (ix x3_3)) (b := (1001 + 3 + (ix x3_3))) rfl (sT2 s sea1001) (Or.inl rfl) ⟨g_7, rfl⟩ g_8 (sRr_fish s sea1001 g_8) (sge2 sea1001) ?_
        refine ge_run (pc' := 17) (L' := [.ref 1000, .int x1, .int x2_2, .int x3_3]) (S' := [.int (0 : Int32), .ref (1001 + 3 + (ix x3_3))]) 1 rfl ?_
        refine ge_iald (jn := 0) rfl (sRow_fish s sea1001 g_8) lk0 (by decide) ?_
        refine ge_run (pc' := 19) (L' := [.ref 1000, .int x1, .int x2_2, .int x3_3]) (S' := [.int x1, .int (i (1001 + 3 + (ix x3_3)) 0)]) 1 rfl ?_
        refine ge_bind (K1 := fun (q : Int32) e => e = .inl (35, [.ref 1000, .int x1, .int q, .int x3_3], [], (n, u, t, i, r))) ?_ ?_
        · refine ge_ne rfl (fun h_10 => ?_) (fun h_13 => ?_)
          · refine ge_run (pc' := 21) (L' := [.ref 1000, .int x1, .int x2_2, .int x3_3]) (S' := [.ref 1000]) 1 rfl ?_
            refine ge_getR (b := 1001) rfl (t1000 s) rfl (r1000_0 s) (Nat.le_of_ble_eq_true rfl) ?_
            refine ge_getR (b := (1001 + 2)) rfl (sT0 s sea1001) rfl (sR1 s sea1001) (sge sea1001) ?_
            refine ge_run (pc' := 24) (L' := [.ref 1000, .int x1, .int x2_2, .int x3_3]) (S' := [.int x3_3, .ref (1001 + 2)]) 1 rfl ?_
            refine ge_aald (jn := (ix x3_3)) (b := (1001 + 3 + (ix x3_3))) rfl (sT2 s sea1001) (Or.inl rfl) ⟨g_7, rfl⟩ g_8 (sRr_fish s sea1001 g_8) (sge2 sea1001) ?_
            refine ge_run (pc' := 26) (L' := [.ref 1000, .int x1, .int x2_2, .int x3_3]) (S' := [.int (3 : Int32), .ref (1001 + 3 + (ix x3_3))]) 1 rfl ?_
            refine ge_iald (jn := 3) rfl (sRow_fish s sea1001 g_8) lk3 (by decide) ?_
            refine ge_run (pc' := 28) (L' := [.ref 1000, .int x1, .int x2_2, .int x3_3]) (S' := [.int (3 : Int32), .int (i (1001 + 3 + (ix x3_3)) 3)]) 1 rfl ?_
            refine ge_eq rfl (fun h_11 => ?_) (fun h_12 => ?_)
            · exact ge_leaf rfl
            · refine ge_run (pc' := 35) (L' := [.ref 1000, .int x1, .int (x2_2 ||| (shl (1 : Int32) x3_3)), .int x3_3]) (S' := []) 6 rfl ?_
              exact ge_leaf rfl
          · exact ge_leaf rfl
        · rintro x2_9 _ rfl
          try dsimp only
          refine ge_run (pc' := 6) (L' := [.ref 1000, .int x1, .int x2_9, .int (x3_3 + (1 : Int32))]) (S' := []) 2 rfl ?_
          exact ge_leaf (K := kX _ _) rfl
      · exact ge_leaf (K := kX _ _) (Exists.intro _ rfl)
    · rintro x2_4 _ ⟨w_5, rfl⟩
      try dsimp only
      refine ge_run (pc' := 38) (L' := [.ref 1000, .int x1, .int x2_4, w_5]) (S' := [.int x2_4]) 1 rfl ?_
      exact ge_ret rfl rfl (And.intro rfl trivial)
  · exact ge_leaf (And.intro rfl trivial)
def f_Lc_twins (i : MI) : Option (Int32) :=
  (itr (σ := Int32 × Int32) (ρ := Int32) (fun (x1_1, x2_2) => if x2_2 < (i 1001 7) then ((itr (σ := Int32 × Int32) (ρ := Int32) (fun (x1_10, x3_11) => if x3_11 < x2_2 then (grd x2_2 8 (grd x3_11 8 ((if (i (1001 + 3 + (ix x2_2)) 0) = (i (1001 + 3 + (ix x3_11)) 0) then (some (1 : Int32)) else (some (0 : Int32)) : Option (Int32)).bind (fun y_21 => (if y_21 = 0 then (some x1_10) else (if (i (1001 + 3 + (ix x2_2)) 1) = (i (1001 + 3 + (ix x3_11)) 1) then (some (x1_10 + (1 : Int32))) else (some x1_10)) : Option (Int32)).bind (fun x1_24 => some (.inl (x1_24, (x3_11 + (1 : Int32))))))))) else (some (.inr x1_10))) 1000000 (x1_1, (0 : Int32))).bind (fun x1_13 => some (.inl (x1_13, (x2_2 + (1 : Int32)))))) else (some (.inr x1_1))) 1000000 ((0 : Int32), (0 : Int32))).bind (fun x1_5 => some (x1_5))
set_option maxHeartbeats 4000000 in
theorem c_Lc_twins {n u : Nat} {t : MT} {i : MI} {r : MR} (s : Sh n t r)  : Cn 1 161 [.ref 1000] (n, u, t, i, r) (f_Lc_twins i ) (F_i0 n u t i r) PT := by
  refine cn_of (Y := K_Lc_twins) (L0 := [.ref 1000, uV, uV, uV, uV]) rfl rfl rfl ?_
  intro d hd
  unfold f_Lc_twins
  refine ge_run (pc' := 4) (L' := [.ref 1000, .int (0 : Int32), .int (0 : Int32), uV, uV]) (S' := []) 4 rfl ?_
  refine ge_bind (K1 := fun (q : Int32) e => ∃ w_6 w_7 w_8 : Value, e = .inl (55, [.ref 1000, .int q, w_6, w_7, w_8], [], (n, u, t, i, r))) (ge_itr (C := fun (q : Int32 × Int32) e => ∃ w_3 w_4 : Value, e = .inl (4, [.ref 1000, .int q.1, .int q.2, w_3, w_4], [], (n, u, t, i, r))) ?_ _ _ _ (Exists.intro _ (Exists.intro _ rfl))) ?_
  · rintro ⟨x1_1, x2_2⟩ _ ⟨w_3, w_4, rfl⟩
    try dsimp only
    refine ge_run (pc' := 6) (L' := [.ref 1000, .int x1_1, .int x2_2, w_3, w_4]) (S' := [.ref 1000, .int x2_2]) 2 rfl ?_
    refine ge_getR (b := 1001) rfl (t1000 s) rfl (r1000_0 s) (Nat.le_of_ble_eq_true rfl) ?_
    refine ge_getI rfl (sT0 s sea1001) rfl ?_
    refine ge_ge rfl (fun h_9 => ?_) (fun h_30 => ?_)
    · refine ge_run (pc' := 11) (L' := [.ref 1000, .int x1_1, .int x2_2, .int (0 : Int32), w_4]) (S' := []) 2 rfl ?_
      refine ge_bind (K1 := fun (q : Int32) e => ∃ w_14 w_15 : Value, e = .inl (53, [.ref 1000, .int q, .int x2_2, w_14, w_15], [], (n, u, t, i, r))) (ge_itr (C := fun (q : Int32 × Int32) e => ∃ w_12 : Value, e = .inl (11, [.ref 1000, .int q.1, .int x2_2, .int q.2, w_12], [], (n, u, t, i, r))) ?_ _ _ _ (Exists.intro _ rfl)) ?_
      · rintro ⟨x1_10, x3_11⟩ _ ⟨w_12, rfl⟩
        try dsimp only
        refine ge_run (pc' := 13) (L' := [.ref 1000, .int x1_10, .int x2_2, .int x3_11, w_12]) (S' := [.int x2_2, .int x3_11]) 2 rfl ?_
        refine ge_ge rfl (fun h_16 => ?_) (fun h_29 => ?_)
        · refine ge_run (pc' := 15) (L' := [.ref 1000, .int x1_10, .int x2_2, .int x3_11, w_12]) (S' := [.ref 1000]) 1 rfl ?_
          refine ge_getR (b := 1001) rfl (t1000 s) rfl (r1000_0 s) (Nat.le_of_ble_eq_true rfl) ?_
          refine ge_getR (b := (1001 + 2)) rfl (sT0 s sea1001) rfl (sR1 s sea1001) (sge sea1001) ?_
          refine ge_run (pc' := 18) (L' := [.ref 1000, .int x1_10, .int x2_2, .int x3_11, w_12]) (S' := [.int x2_2, .ref (1001 + 2)]) 1 rfl ?_
          refine ge_grd (fun g_17 g_18 => ?_)
          refine ge_aald (jn := (ix x2_2)) (b := (1001 + 3 + (ix x2_2))) rfl (sT2 s sea1001) (Or.inl rfl) ⟨g_17, rfl⟩ g_18 (sRr_fish s sea1001 g_18) (sge2 sea1001) ?_
          refine ge_run (pc' := 20) (L' := [.ref 1000, .int x1_10, .int x2_2, .int x3_11, w_12]) (S' := [.int (0 : Int32), .ref (1001 + 3 + (ix x2_2))]) 1 rfl ?_
          refine ge_iald (jn := 0) rfl (sRow_fish s sea1001 g_18) lk0 (by decide) ?_
          refine ge_run (pc' := 22) (L' := [.ref 1000, .int x1_10, .int x2_2, .int x3_11, w_12]) (S' := [.ref 1000, .int (i (1001 + 3 + (ix x2_2)) 0)]) 1 rfl ?_
          refine ge_getR (b := 1001) rfl (t1000 s) rfl (r1000_0 s) (Nat.le_of_ble_eq_true rfl) ?_
          refine ge_getR (b := (1001 + 2)) rfl (sT0 s sea1001) rfl (sR1 s sea1001) (sge sea1001) ?_
          refine ge_run (pc' := 25) (L' := [.ref 1000, .int x1_10, .int x2_2, .int x3_11, w_12]) (S' := [.int x3_11, .ref (1001 + 2), .int (i (1001 + 3 + (ix x2_2)) 0)]) 1 rfl ?_
          refine ge_grd (fun g_19 g_20 => ?_)
          refine ge_aald (jn := (ix x3_11)) (b := (1001 + 3 + (ix x3_11))) rfl (sT2 s sea1001) (Or.inl rfl) ⟨g_19, rfl⟩ g_20 (sRr_fish s sea1001 g_20) (sge2 sea1001) ?_
          refine ge_run (pc' := 27) (L' := [.ref 1000, .int x1_10, .int x2_2, .int x3_11, w_12]) (S' := [.int (0 : Int32), .ref (1001 + 3 + (ix x3_11)), .int (i (1001 + 3 + (ix x2_2)) 0)]) 1 rfl ?_
          refine ge_iald (jn := 0) rfl (sRow_fish s sea1001 g_20) lk0 (by decide) ?_
          refine ge_bind (K1 := fun (q : Int32) e => e = .inl (32, [.ref 1000, .int x1_10, .int x2_2, .int x3_11, w_12], [.int q], (n, u, t, i, r))) ?_ ?_
          · refine ge_ne rfl (fun h_22 => ?_) (fun h_23 => ?_)
            · refine ge_run (pc' := 32) (L' := [.ref 1000, .int x1_10, .int x2_2, .int x3_11, w_12]) (S' := [.int (1 : Int32)]) 2 rfl ?_
              exact ge_leaf rfl
            · refine ge_run (pc' := 32) (L' := [.ref 1000, .int x1_10, .int x2_2, .int x3_11, w_12]) (S' := [.int (0 : Int32)]) 1 rfl ?_
              exact ge_leaf rfl
          · rintro y_21 _ rfl
            try dsimp only
            refine ge_run (pc' := 34) (L' := [.ref 1000, .int x1_10, .int x2_2, .int x3_11, .int y_21]) (S' := [.int y_21]) 2 rfl ?_
            refine ge_bind (K1 := fun (q : Int32) e => e = .inl (51, [.ref 1000, .int q, .int x2_2, .int x3_11, .int y_21], [], (n, u, t, i, r))) ?_ ?_
            · refine ge_eq0 rfl (fun h_25 => ?_) (fun h_26 => ?_)
              · exact ge_leaf rfl
              · refine ge_run (pc' := 36) (L' := [.ref 1000, .int x1_10, .int x2_2, .int x3_11, .int y_21]) (S' := [.ref 1000]) 1 rfl ?_
                refine ge_getR (b := 1001) rfl (t1000 s) rfl (r1000_0 s) (Nat.le_of_ble_eq_true rfl) ?_
                refine ge_getR (b := (1001 + 2)) rfl (sT0 s sea1001) rfl (sR1 s sea1001) (sge sea1001) ?_
                refine ge_run (pc' := 39) (L' := [.ref 1000, .int x1_10, .int x2_2, .int x3_11, .int y_21]) (S' := [.int x2_2, .ref (1001 + 2)]) 1 rfl ?_
                refine ge_aald (jn := (ix x2_2)) (b := (1001 + 3 + (ix x2_2))) rfl (sT2 s sea1001) (Or.inl rfl) ⟨g_17, rfl⟩ g_18 (sRr_fish s sea1001 g_18) (sge2 sea1001) ?_
                refine ge_run (pc' := 41) (L' := [.ref 1000, .int x1_10, .int x2_2, .int x3_11, .int y_21]) (S' := [.int (1 : Int32), .ref (1001 + 3 + (ix x2_2))]) 1 rfl ?_
                refine ge_iald (jn := 1) rfl (sRow_fish s sea1001 g_18) lk1 (by decide) ?_
                refine ge_run (pc' := 43) (L' := [.ref 1000, .int x1_10, .int x2_2, .int x3_11, .int y_21]) (S' := [.ref 1000, .int (i (1001 + 3 + (ix x2_2)) 1)]) 1 rfl ?_
                refine ge_getR (b := 1001) rfl (t1000 s) rfl (r1000_0 s) (Nat.le_of_ble_eq_true rfl) ?_
                refine ge_getR (b := (1001 + 2)) rfl (sT0 s sea1001) rfl (sR1 s sea1001) (sge sea1001) ?_
                refine ge_run (pc' := 46) (L' := [.ref 1000, .int x1_10, .int x2_2, .int x3_11, .int y_21]) (S' := [.int x3_11, .ref (1001 + 2), .int (i (1001 + 3 + (ix x2_2)) 1)]) 1 rfl ?_
                refine ge_aald (jn := (ix x3_11)) (b := (1001 + 3 + (ix x3_11))) rfl (sT2 s sea1001) (Or.inl rfl) ⟨g_19, rfl⟩ g_20 (sRr_fish s sea1001 g_20) (sge2 sea1001) ?_
                refine ge_run (pc' := 48) (L' := [.ref 1000, .int x1_10, .int x2_2, .int x3_11, .int y_21]) (S' := [.int (1 : Int32), .ref (1001 + 3 + (ix x3_11)), .int (i (1001 + 3 + (ix x2_2)) 1)]) 1 rfl ?_
                refine ge_iald (jn := 1) rfl (sRow_fish s sea1001 g_20) lk1 (by decide) ?_
                refine ge_ne rfl (fun h_27 => ?_) (fun h_28 => ?_)
                · refine ge_run (pc' := 51) (L' := [.ref 1000, .int (x1_10 + (1 : Int32)), .int x2_2, .int x3_11, .int y_21]) (S' := []) 1 rfl ?_
                  exact ge_leaf rfl
                · exact ge_leaf rfl
            · rintro x1_24 _ rfl
              try dsimp only
              refine ge_run (pc' := 11) (L' := [.ref 1000, .int x1_24, .int x2_2, .int (x3_11 + (1 : Int32)), .int y_21]) (S' := []) 2 rfl ?_
              exact ge_leaf (K := kX _ _) (Exists.intro _ rfl)
        · exact ge_leaf (K := kX _ _) (Exists.intro _ (Exists.intro _ rfl))
      · rintro x1_13 _ ⟨w_14, w_15, rfl⟩
        try dsimp only
        refine ge_run (pc' := 4) (L' := [.ref 1000, .int x1_13, .int (x2_2 + (1 : Int32)), w_14, w_15]) (S' := []) 2 rfl ?_
        exact ge_leaf (K := kX _ _) (Exists.intro _ (Exists.intro _ rfl))
    · exact ge_leaf (K := kX _ _) (Exists.intro _ (Exists.intro _ (Exists.intro _ rfl)))
  · rintro x1_5 _ ⟨w_6, w_7, w_8, rfl⟩
    try dsimp only
    refine ge_run (pc' := 56) (L' := [.ref 1000, .int x1_5, w_6, w_7, w_8]) (S' := [.int x1_5]) 1 rfl ?_
    exact ge_ret rfl rfl (And.intro rfl trivial)
def f_Lc_slab (i : MI) : Option (Int32) :=
  (f_Se_placed i 1001 (2 : Int32)).bind (fun v_1 => some (v_1))
set_option maxHeartbeats 4000000 in
theorem c_Lc_slab {n u : Nat} {t : MT} {i : MI} {r : MR} (s : Sh n t r)  : Cn 2 162 [.ref 1000] (n, u, t, i, r) (f_Lc_slab i ) (F_i0 n u t i r) PT := by
  refine cn_of (Y := K_Lc_slab) (L0 := [.ref 1000]) rfl rfl rfl ?_
  intro d hd
  unfold f_Lc_slab
  refine ge_run (pc' := 1) (L' := [.ref 1000]) (S' := [.ref 1000]) 1 rfl ?_
  refine ge_getR (b := 1001) rfl (t1000 s) rfl (r1000_0 s) (Nat.le_of_ble_eq_true rfl) ?_
  refine ge_run (pc' := 3) (L' := [.ref 1000]) (S' := [.int (2 : Int32), .ref 1001]) 1 rfl ?_
  refine ge_cv rfl rfl rfl (sT0 s sea1001) rfl rfl rfl (D := 1) (Nat.le_trans (by decide) hd) (c_Se_placed (n := n) (u := u) (t := t) (i := i) (r := r) s 1001 sea1001 (2 : Int32)) ?_
  rintro v_1 -
  dsimp only [bkE, F_i0]
  exact ge_ret rfl rfl (And.intro rfl trivial)
def f_Lc_sea (i : MI) : Option (Int32) :=
  (f_Se_placed i 1001 (0 : Int32)).bind (fun v_1 => some (v_1))
set_option maxHeartbeats 4000000 in
theorem c_Lc_sea {n u : Nat} {t : MT} {i : MI} {r : MR} (s : Sh n t r)  : Cn 2 163 [.ref 1000] (n, u, t, i, r) (f_Lc_sea i ) (F_i0 n u t i r) PT := by
  refine cn_of (Y := K_Lc_sea) (L0 := [.ref 1000]) rfl rfl rfl ?_
  intro d hd
  unfold f_Lc_sea
  refine ge_run (pc' := 1) (L' := [.ref 1000]) (S' := [.ref 1000]) 1 rfl ?_
  refine ge_getR (b := 1001) rfl (t1000 s) rfl (r1000_0 s) (Nat.le_of_ble_eq_true rfl) ?_
  refine ge_run (pc' := 3) (L' := [.ref 1000]) (S' := [.int (0 : Int32), .ref 1001]) 1 rfl ?_
  refine ge_cv rfl rfl rfl (sT0 s sea1001) rfl rfl rfl (D := 1) (Nat.le_trans (by decide) hd) (c_Se_placed (n := n) (u := u) (t := t) (i := i) (r := r) s 1001 sea1001 (0 : Int32)) ?_
  rintro v_1 -
  dsimp only [bkE, F_i0]
  exact ge_ret rfl rfl (And.intro rfl trivial)
def f_Lc_gone (i : MI) : Option (Int32) :=
  (f_Se_placed i 1001 (3 : Int32)).bind (fun v_1 => some (v_1))
set_option maxHeartbeats 4000000 in
theorem c_Lc_gone {n u : Nat} {t : MT} {i : MI} {r : MR} (s : Sh n t r)  : Cn 2 164 [.ref 1000] (n, u, t, i, r) (f_Lc_gone i ) (F_i0 n u t i r) PT := by
  refine cn_of (Y := K_Lc_gone) (L0 := [.ref 1000]) rfl rfl rfl ?_
  intro d hd
  unfold f_Lc_gone
  refine ge_run (pc' := 1) (L' := [.ref 1000]) (S' := [.ref 1000]) 1 rfl ?_
  refine ge_getR (b := 1001) rfl (t1000 s) rfl (r1000_0 s) (Nat.le_of_ble_eq_true rfl) ?_
  refine ge_run (pc' := 3) (L' := [.ref 1000]) (S' := [.int (3 : Int32), .ref 1001]) 1 rfl ?_
  refine ge_cv rfl rfl rfl (sT0 s sea1001) rfl rfl rfl (D := 1) (Nat.le_trans (by decide) hd) (c_Se_placed (n := n) (u := u) (t := t) (i := i) (r := r) s 1001 sea1001 (3 : Int32)) ?_
  rintro v_1 -
  dsimp only [bkE, F_i0]
  exact ge_ret rfl rfl (And.intro rfl trivial)
def f_Lc_spoils (t : MT) (r : MR) (i : MI) (x1 : Int32) : Option ((Int32 ⊕ Nat) × MI × MR) :=
  (f_Lc_needWithin x1 (0 : Int32) (60 : Int32)).bind (fun | .inl () => (f_Lc_lookAhead t r i x1).bind (fun (i_2, r_3) => (f_Se_placed i_2 1075 (3 : Int32)).bind (fun v_5 => (f_Se_placed i_2 1001 (3 : Int32)).bind (fun v_6 => some (.inl (v_5 &&& (v_6 ^^^ (-1 : Int32))), i_2, r_3)))) | .inr c_1 => some (.inr c_1, i, r))
set_option maxHeartbeats 4000000 in
theorem c_Lc_spoils {n u : Nat} {t : MT} {i : MI} {r : MR} (s : Sh n t r) (x1 : Int32) : Cn 8 165 [.ref 1000, .int x1] (n, u, t, i, r) (f_Lc_spoils t r i x1) (F_ti2 n u t) (PS2 n t) := by
  refine cn_of (Y := K_Lc_spoils) (L0 := [.ref 1000, .int x1]) rfl rfl rfl ?_
  intro d hd
  unfold f_Lc_spoils
  refine ge_run (pc' := 3) (L' := [.ref 1000, .int x1]) (S' := [.int (60 : Int32), .int (0 : Int32), .int x1]) 3 rfl ?_
  refine ge_cs rfl rfl rfl rfl rfl rfl (D := 1) (Nat.le_trans (by decide) hd) (c_Lc_needWithin (n := n) (u := u) (t := t) (i := i) (r := r) s x1 (0 : Int32) (60 : Int32)) ?_
  rintro (⟨⟩ | c_1) -
  · dsimp only [bkE, F_tv0]
    refine ge_run (pc' := 6) (L' := [.ref 1000, .int x1]) (S' := [.int x1, .ref 1000]) 2 rfl ?_
    refine ge_cv rfl rfl rfl (t1000 s) rfl rfl rfl (D := 7) (Nat.le_trans (by decide) hd) (c_Lc_lookAhead (n := n) (u := u) (t := t) (i := i) (r := r) s x1) ?_
    rintro ⟨i_2, r_3⟩ s_4
    dsimp only [bkE, F_v2]
    refine ge_run (pc' := 8) (L' := [.ref 1000, .int x1]) (S' := [.ref 1000]) 1 rfl ?_
    refine ge_getR (b := 1075) rfl (t1000 s_4) rfl (r1000_2 s_4) (Nat.le_of_ble_eq_true rfl) ?_
    refine ge_run (pc' := 10) (L' := [.ref 1000, .int x1]) (S' := [.int (3 : Int32), .ref 1075]) 1 rfl ?_
    refine ge_cv rfl rfl rfl (sT0 s_4 sea1075) rfl rfl rfl (D := 1) (Nat.le_trans (by decide) hd) (c_Se_placed (n := n) (u := u) (t := t) (i := i_2) (r := r_3) s_4 1075 sea1075 (3 : Int32)) ?_
    rintro v_5 -
    dsimp only [bkE, F_i0]
    refine ge_run (pc' := 12) (L' := [.ref 1000, .int x1]) (S' := [.ref 1000, .int v_5]) 1 rfl ?_
    refine ge_getR (b := 1001) rfl (t1000 s_4) rfl (r1000_0 s_4) (Nat.le_of_ble_eq_true rfl) ?_
    refine ge_run (pc' := 14) (L' := [.ref 1000, .int x1]) (S' := [.int (3 : Int32), .ref 1001, .int v_5]) 1 rfl ?_
    refine ge_cv rfl rfl rfl (sT0 s_4 sea1001) rfl rfl rfl (D := 1) (Nat.le_trans (by decide) hd) (c_Se_placed (n := n) (u := u) (t := t) (i := i_2) (r := r_3) s_4 1001 sea1001 (3 : Int32)) ?_
    rintro v_6 -
    dsimp only [bkE, F_i0]
    refine ge_run (pc' := 18) (L' := [.ref 1000, .int x1]) (S' := [.int (v_5 &&& (v_6 ^^^ (-1 : Int32)))]) 3 rfl ?_
    exact ge_ret rfl rfl (And.intro rfl s_4)
  · exact ge_leaf (And.intro rfl s)
