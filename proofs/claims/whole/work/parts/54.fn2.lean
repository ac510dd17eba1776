/-! ===== methods as functions, part 2 (written by wip/gen/decall.py) ===== -/
def f_Se_trade (t : MT) (r : MR) (i : MI) (a : Nat) : Option (Int32 × MI) :=
  (itr (σ := Int32 × Int32 × MI) (ρ := Int32 × MI) (fun (x1_1, x2_2, i_3) => if x2_2 < (i_3 a 9) then ((f_Se_draw i_3 a).bind (fun (v_12, i_13) => grd x2_2 5 ((if (rm v_12 (100 : Int32)) < (i_13 (a + 16 + (ix x2_2)) 3) then (some (1 : Int32)) else (some (0 : Int32)) : Option (Int32)).bind (fun y_16 => (if y_16 = 0 then (some ((-1 : Int32), i_13)) else ((f_Se_mayBuy t r i_13 a x2_2).bind (fun (v_23, i_24) => (f_Se_freshestOf i_24 a v_23).bind (fun v_25 => some (v_25, i_24)))) : Option (Int32 × MI)).bind (fun (y_19, i_20) => (if y_19 = (-1 : Int32) then (some (x1_1, i_20)) else ((f_Se_price t r i_20 a y_19).bind (fun (v_30, i_31) => (f_Se_sellTo i_31 a y_19 x2_2 v_30 (2 : Int32)).bind (fun i_32 => some ((x1_1 + (1 : Int32)), i_32)))) : Option (Int32 × MI)).bind (fun (x1_26, i_27) => some (.inl (x1_26, (x2_2 + (1 : Int32)), i_27)))))))) else (some (.inr (x1_1, i_3)))) 1000000 ((0 : Int32), (0 : Int32), i)).bind (fun (x1_6, i_7) => some (x1_6, i_7))
set_option maxHeartbeats 4000000 in
theorem c_Se_trade {n u : Nat} {t : MT} {i : MI} {r : MR} (s : Sh n t r) (a : Nat) (ha : SeaAd a) : Cn 5 76 [.ref a] (n, u, t, i, r) (f_Se_trade t r i a) (F_i1 n u t r) PT := by
  refine cn_of (Y := K_Se_trade) (L0 := [.ref a, uV, uV, uV, uV]) rfl rfl rfl ?_
  intro d hd
  unfold f_Se_trade
  refine ge_run (pc' := 4) (L' := [.ref a, .int (0 : Int32), .int (0 : Int32), uV, uV]) (S' := []) 4 rfl ?_
  refine ge_bind (K1 := fun (q : Int32 × MI) e => ∃ w_8 w_9 w_10 : Value, e = .inl (47, [.ref a, .int q.1, w_8, w_9, w_10], [], (n, u, t, q.2, r))) (ge_itr (C := fun (q : Int32 × Int32 × MI) e => ∃ w_4 w_5 : Value, e = .inl (4, [.ref a, .int q.1, .int q.2.1, w_4, w_5], [], (n, u, t, q.2.2, r))) ?_ _ _ _ (Exists.intro _ (Exists.intro _ rfl))) ?_
  · rintro ⟨x1_1, x2_2, i_3⟩ _ ⟨w_4, w_5, rfl⟩
    try dsimp only
    refine ge_run (pc' := 6) (L' := [.ref a, .int x1_1, .int x2_2, w_4, w_5]) (S' := [.ref a, .int x2_2]) 2 rfl ?_
    refine ge_getI rfl (sT0 s ha) rfl ?_
    refine ge_ge rfl (fun h_11 => ?_) (fun h_33 => ?_)
    · refine ge_run (pc' := 9) (L' := [.ref a, .int x1_1, .int x2_2, w_4, w_5]) (S' := [.ref a]) 1 rfl ?_
      refine ge_cv rfl rfl rfl (sT0 s ha) rfl rfl rfl (D := 1) (Nat.le_trans (by decide) hd) (c_Se_draw (n := n) (u := u) (t := t) (i := i_3) (r := r) s a ha) ?_
      rintro ⟨v_12, i_13⟩ -
      dsimp only [bkE, F_i1]
      refine ge_run (pc' := 11) (L' := [.ref a, .int x1_1, .int x2_2, w_4, w_5]) (S' := [.int (100 : Int32), .int v_12]) 1 rfl ?_
      refine ge_rem rfl (by decide) ?_
      refine ge_run (pc' := 13) (L' := [.ref a, .int x1_1, .int x2_2, w_4, w_5]) (S' := [.ref a, .int (rm v_12 (100 : Int32))]) 1 rfl ?_
      refine ge_getR (b := (a + 15)) rfl (sT0 s ha) rfl (sR3 s ha) (sge ha) ?_
      refine ge_run (pc' := 15) (L' := [.ref a, .int x1_1, .int x2_2, w_4, w_5]) (S' := [.int x2_2, .ref (a + 15), .int (rm v_12 (100 : Int32))]) 1 rfl ?_
      refine ge_grd (fun g_14 g_15 => ?_)
      refine ge_aald (jn := (ix x2_2)) (b := (a + 16 + (ix x2_2))) rfl (sT15 s ha) (Or.inl rfl) ⟨g_14, rfl⟩ g_15 (sRr_buyer s ha g_15) (sge2 ha) ?_
      refine ge_run (pc' := 17) (L' := [.ref a, .int x1_1, .int x2_2, w_4, w_5]) (S' := [.int (3 : Int32), .ref (a + 16 + (ix x2_2)), .int (rm v_12 (100 : Int32))]) 1 rfl ?_
      refine ge_iald (jn := 3) rfl (sRow_buyer s ha g_15) lk3 (by decide) ?_
      refine ge_bind (K1 := fun (q : Int32) e => e = .inl (22, [.ref a, .int x1_1, .int x2_2, w_4, w_5], [.int q], (n, u, t, i_13, r))) ?_ ?_
      · refine ge_ge rfl (fun h_17 => ?_) (fun h_18 => ?_)
        · refine ge_run (pc' := 22) (L' := [.ref a, .int x1_1, .int x2_2, w_4, w_5]) (S' := [.int (1 : Int32)]) 2 rfl ?_
          exact ge_leaf rfl
        · refine ge_run (pc' := 22) (L' := [.ref a, .int x1_1, .int x2_2, w_4, w_5]) (S' := [.int (0 : Int32)]) 1 rfl ?_
          exact ge_leaf rfl
      · rintro y_16 _ rfl
        try dsimp only
        refine ge_run (pc' := 24) (L' := [.ref a, .int x1_1, .int x2_2, .int y_16, w_5]) (S' := [.int y_16]) 2 rfl ?_
        refine ge_bind (K1 := fun (q : Int32 × MI) e => e = .inl (32, [.ref a, .int x1_1, .int x2_2, .int y_16, w_5], [.int q.1], (n, u, t, q.2, r))) ?_ ?_
        · refine ge_eq0 rfl (fun h_21 => ?_) (fun h_22 => ?_)
          · refine ge_run (pc' := 32) (L' := [.ref a, .int x1_1, .int x2_2, .int y_16, w_5]) (S' := [.int (-1 : Int32)]) 1 rfl ?_
            exact ge_leaf rfl
          · refine ge_run (pc' := 28) (L' := [.ref a, .int x1_1, .int x2_2, .int y_16, w_5]) (S' := [.int x2_2, .ref a, .ref a]) 3 rfl ?_
            refine ge_cv rfl rfl rfl (sT0 s ha) rfl rfl rfl (D := 4) (Nat.le_trans (by decide) hd) (c_Se_mayBuy (n := n) (u := u) (t := t) (i := i_13) (r := r) s a ha x2_2) ?_
            rintro ⟨v_23, i_24⟩ -
            dsimp only [bkE, F_i1]
            refine ge_cv rfl rfl rfl (sT0 s ha) rfl rfl rfl (D := 1) (Nat.le_trans (by decide) hd) (c_Se_freshestOf (n := n) (u := u) (t := t) (i := i_24) (r := r) s a ha v_23) ?_
            rintro v_25 -
            dsimp only [bkE, F_i0]
            refine ge_run (pc' := 32) (L' := [.ref a, .int x1_1, .int x2_2, .int y_16, w_5]) (S' := [.int v_25]) 1 rfl ?_
            exact ge_leaf rfl
        · rintro ⟨y_19, i_20⟩ _ rfl
          try dsimp only
          refine ge_run (pc' := 35) (L' := [.ref a, .int x1_1, .int x2_2, .int y_16, .int y_19]) (S' := [.int (-1 : Int32), .int y_19]) 3 rfl ?_
          refine ge_bind (K1 := fun (q : Int32 × MI) e => e = .inl (45, [.ref a, .int q.1, .int x2_2, .int y_16, .int y_19], [], (n, u, t, q.2, r))) ?_ ?_
          · refine ge_eq rfl (fun h_28 => ?_) (fun h_29 => ?_)
            · exact ge_leaf rfl
            · refine ge_run (pc' := 41) (L' := [.ref a, .int x1_1, .int x2_2, .int y_16, .int y_19]) (S' := [.int y_19, .ref a, .int x2_2, .int y_19, .ref a]) 5 rfl ?_
              refine ge_cv rfl rfl rfl (sT0 s ha) rfl rfl rfl (D := 3) (Nat.le_trans (by decide) hd) (c_Se_price (n := n) (u := u) (t := t) (i := i_20) (r := r) s a ha y_19) ?_
              rintro ⟨v_30, i_31⟩ -
              dsimp only [bkE, F_i1]
              refine ge_run (pc' := 43) (L' := [.ref a, .int x1_1, .int x2_2, .int y_16, .int y_19]) (S' := [.int (2 : Int32), .int v_30, .int x2_2, .int y_19, .ref a]) 1 rfl ?_
              refine ge_cv rfl rfl rfl (sT0 s ha) rfl rfl rfl (D := 3) (Nat.le_trans (by decide) hd) (c_Se_sellTo (n := n) (u := u) (t := t) (i := i_31) (r := r) s a ha y_19 x2_2 v_30 (2 : Int32)) ?_
              rintro i_32 -
              dsimp only [bkE, F_v1]
              refine ge_run (pc' := 45) (L' := [.ref a, .int (x1_1 + (1 : Int32)), .int x2_2, .int y_16, .int y_19]) (S' := []) 1 rfl ?_
              exact ge_leaf rfl
          · rintro ⟨x1_26, i_27⟩ _ rfl
            try dsimp only
            refine ge_run (pc' := 4) (L' := [.ref a, .int x1_26, .int (x2_2 + (1 : Int32)), .int y_16, .int y_19]) (S' := []) 2 rfl ?_
            exact ge_leaf (K := kX _ _) (Exists.intro _ (Exists.intro _ rfl))
    · exact ge_leaf (K := kX _ _) (Exists.intro _ (Exists.intro _ (Exists.intro _ rfl)))
  · rintro ⟨x1_6, i_7⟩ _ ⟨w_8, w_9, w_10, rfl⟩
    try dsimp only
    refine ge_run (pc' := 48) (L' := [.ref a, .int x1_6, w_8, w_9, w_10]) (S' := [.int x1_6]) 1 rfl ?_
    exact ge_ret rfl rfl (And.intro rfl trivial)
def f_Se_passDay (t : MT) (r : MR) (i : MI) (a : Nat) (x1 : Int32) : Option (Int32 × MI) :=
  (itr (σ := Int32 × MI) (ρ := MI) (fun (x2_1, i_2) => if x2_1 < (i_2 a 7) then (grd x2_1 8 ((if (i_2 (a + 3 + (ix x2_1)) 3) = 0 then ((f_Se_drift i_2 a (i_2 (a + 3 + (ix x2_1)) 4)).bind (fun v_10 => bnd (wr i_2 (a + 3 + (ix x2_1)) 4 v_10) (fun i_11 => some i_11))) else (some i_2) : Option (MI)).bind (fun i_8 => some (.inl ((x2_1 + (1 : Int32)), i_8))))) else (some (.inr i_2))) 1000000 ((0 : Int32), i)).bind (fun i_3 => (itr (σ := Int32 × MI) (ρ := MI) (fun (x2_14, i_15) => if x2_14 < (i_15 a 8) then ((f_Se_sail i_15 a x2_14).bind (fun i_19 => (f_Se_fill i_19 a x2_14).bind (fun i_20 => (f_Se_unload i_20 a x2_14).bind (fun i_21 => some (.inl ((x2_14 + (1 : Int32)), i_21)))))) else (some (.inr i_15))) 1000000 ((0 : Int32), i_3)).bind (fun i_16 => (f_Se_turnAll t r i_16 a).bind (fun i_23 => (f_J_max (0 : Int32) ((i_23 a 12) - (1 : Int32))).bind (fun v_24 => bnd (wr i_23 a 12 v_24) (fun i_25 => (if x1 = 0 then (some ((0 : Int32), i_25)) else ((f_Se_trade t r i_25 a).bind (fun (v_30, i_31) => some (v_30, i_31))) : Option (Int32 × MI)).bind (fun (y_26, i_27) => (f_J_min (9999 : Int32) ((i_27 a 14) + (1 : Int32))).bind (fun v_32 => bnd (wr i_27 a 14 v_32) (fun i_33 => some (y_26, i_33)))))))))
set_option maxHeartbeats 4000000 in
theorem c_Se_passDay {n u : Nat} {t : MT} {i : MI} {r : MR} (s : Sh n t r) (a : Nat) (ha : SeaAd a) (x1 : Int32) : Cn 6 69 [.ref a, .int x1] (n, u, t, i, r) (f_Se_passDay t r i a x1) (F_i1 n u t r) PT := by
  refine cn_of (Y := K_Se_passDay) (L0 := [.ref a, .int x1, uV]) rfl rfl rfl ?_
  intro d hd
  unfold f_Se_passDay
  refine ge_run (pc' := 2) (L' := [.ref a, .int x1, .int (0 : Int32)]) (S' := []) 2 rfl ?_
  refine ge_bind (K1 := fun (q : MI) e => ∃ w_4 : Value, e = .inl (29, [.ref a, .int x1, w_4], [], (n, u, t, q, r))) (ge_itr (C := fun (q : Int32 × MI) e => e = .inl (2, [.ref a, .int x1, .int q.1], [], (n, u, t, q.2, r))) ?_ _ _ _ rfl) ?_
  · rintro ⟨x2_1, i_2⟩ _ rfl
    try dsimp only
    refine ge_run (pc' := 4) (L' := [.ref a, .int x1, .int x2_1]) (S' := [.ref a, .int x2_1]) 2 rfl ?_
    refine ge_getI rfl (sT0 s ha) rfl ?_
    refine ge_ge rfl (fun h_5 => ?_) (fun h_13 => ?_)
    · refine ge_run (pc' := 7) (L' := [.ref a, .int x1, .int x2_1]) (S' := [.ref a]) 1 rfl ?_
      refine ge_getR (b := (a + 2)) rfl (sT0 s ha) rfl (sR1 s ha) (sge ha) ?_
      refine ge_run (pc' := 9) (L' := [.ref a, .int x1, .int x2_1]) (S' := [.int x2_1, .ref (a + 2)]) 1 rfl ?_
      refine ge_grd (fun g_6 g_7 => ?_)
      refine ge_aald (jn := (ix x2_1)) (b := (a + 3 + (ix x2_1))) rfl (sT2 s ha) (Or.inl rfl) ⟨g_6, rfl⟩ g_7 (sRr_fish s ha g_7) (sge2 ha) ?_
      refine ge_run (pc' := 11) (L' := [.ref a, .int x1, .int x2_1]) (S' := [.int (3 : Int32), .ref (a + 3 + (ix x2_1))]) 1 rfl ?_
      refine ge_iald (jn := 3) rfl (sRow_fish s ha g_7) lk3 (by decide) ?_
      refine ge_bind (K1 := fun (q : MI) e => e = .inl (27, [.ref a, .int x1, .int x2_1], [], (n, u, t, q, r))) ?_ ?_
      · refine ge_ne0 rfl (fun h_9 => ?_) (fun h_12 => ?_)
        · refine ge_run (pc' := 14) (L' := [.ref a, .int x1, .int x2_1]) (S' := [.ref a]) 1 rfl ?_
          refine ge_getR (b := (a + 2)) rfl (sT0 s ha) rfl (sR1 s ha) (sge ha) ?_
          refine ge_run (pc' := 16) (L' := [.ref a, .int x1, .int x2_1]) (S' := [.int x2_1, .ref (a + 2)]) 1 rfl ?_
          refine ge_aald (jn := (ix x2_1)) (b := (a + 3 + (ix x2_1))) rfl (sT2 s ha) (Or.inl rfl) ⟨g_6, rfl⟩ g_7 (sRr_fish s ha g_7) (sge2 ha) ?_
          refine ge_run (pc' := 20) (L' := [.ref a, .int x1, .int x2_1]) (S' := [.ref a, .ref a, .int (4 : Int32), .ref (a + 3 + (ix x2_1))]) 3 rfl ?_
          refine ge_getR (b := (a + 2)) rfl (sT0 s ha) rfl (sR1 s ha) (sge ha) ?_
          refine ge_run (pc' := 22) (L' := [.ref a, .int x1, .int x2_1]) (S' := [.int x2_1, .ref (a + 2), .ref a, .int (4 : Int32), .ref (a + 3 + (ix x2_1))]) 1 rfl ?_
          refine ge_aald (jn := (ix x2_1)) (b := (a + 3 + (ix x2_1))) rfl (sT2 s ha) (Or.inl rfl) ⟨g_6, rfl⟩ g_7 (sRr_fish s ha g_7) (sge2 ha) ?_
          refine ge_run (pc' := 24) (L' := [.ref a, .int x1, .int x2_1]) (S' := [.int (4 : Int32), .ref (a + 3 + (ix x2_1)), .ref a, .int (4 : Int32), .ref (a + 3 + (ix x2_1))]) 1 rfl ?_
          refine ge_iald (jn := 4) rfl (sRow_fish s ha g_7) lk4 (by decide) ?_
          refine ge_cv rfl rfl rfl (sT0 s ha) rfl rfl rfl (D := 2) (Nat.le_trans (by decide) hd) (c_Se_drift (n := n) (u := u) (t := t) (i := i_2) (r := r) s a ha (i_2 (a + 3 + (ix x2_1)) 4)) ?_
          rintro v_10 -
          dsimp only [bkE, F_i0]
          refine ge_iast (jn := 4) rfl (sRow_fish s ha g_7) (sge2 ha) lk4 (by decide) (fun i_11 => ?_)
          exact ge_leaf rfl
        · exact ge_leaf rfl
      · rintro i_8 _ rfl
        try dsimp only
        refine ge_run (pc' := 2) (L' := [.ref a, .int x1, .int (x2_1 + (1 : Int32))]) (S' := []) 2 rfl ?_
        exact ge_leaf (K := kX _ _) rfl
    · exact ge_leaf (K := kX _ _) (Exists.intro _ rfl)
  · rintro i_3 _ ⟨w_4, rfl⟩
    try dsimp only
    refine ge_run (pc' := 31) (L' := [.ref a, .int x1, .int (0 : Int32)]) (S' := []) 2 rfl ?_
    refine ge_bind (K1 := fun (q : MI) e => ∃ w_17 : Value, e = .inl (46, [.ref a, .int x1, w_17], [], (n, u, t, q, r))) (ge_itr (C := fun (q : Int32 × MI) e => e = .inl (31, [.ref a, .int x1, .int q.1], [], (n, u, t, q.2, r))) ?_ _ _ _ rfl) ?_
    · rintro ⟨x2_14, i_15⟩ _ rfl
      try dsimp only
      refine ge_run (pc' := 33) (L' := [.ref a, .int x1, .int x2_14]) (S' := [.ref a, .int x2_14]) 2 rfl ?_
      refine ge_getI rfl (sT0 s ha) rfl ?_
      refine ge_ge rfl (fun h_18 => ?_) (fun h_22 => ?_)
      · refine ge_run (pc' := 37) (L' := [.ref a, .int x1, .int x2_14]) (S' := [.int x2_14, .ref a]) 2 rfl ?_
        refine ge_cv rfl rfl rfl (sT0 s ha) rfl rfl rfl (D := 1) (Nat.le_trans (by decide) hd) (c_Se_sail (n := n) (u := u) (t := t) (i := i_15) (r := r) s a ha x2_14) ?_
        rintro i_19 -
        dsimp only [bkE, F_v1]
        refine ge_run (pc' := 40) (L' := [.ref a, .int x1, .int x2_14]) (S' := [.int x2_14, .ref a]) 2 rfl ?_
        refine ge_cv rfl rfl rfl (sT0 s ha) rfl rfl rfl (D := 3) (Nat.le_trans (by decide) hd) (c_Se_fill (n := n) (u := u) (t := t) (i := i_19) (r := r) s a ha x2_14) ?_
        rintro i_20 -
        dsimp only [bkE, F_v1]
        refine ge_run (pc' := 43) (L' := [.ref a, .int x1, .int x2_14]) (S' := [.int x2_14, .ref a]) 2 rfl ?_
        refine ge_cv rfl rfl rfl (sT0 s ha) rfl rfl rfl (D := 2) (Nat.le_trans (by decide) hd) (c_Se_unload (n := n) (u := u) (t := t) (i := i_20) (r := r) s a ha x2_14) ?_
        rintro i_21 -
        dsimp only [bkE, F_v1]
        refine ge_run (pc' := 31) (L' := [.ref a, .int x1, .int (x2_14 + (1 : Int32))]) (S' := []) 2 rfl ?_
        exact ge_leaf (K := kX _ _) rfl
      · exact ge_leaf (K := kX _ _) (Exists.intro _ rfl)
    · rintro i_16 _ ⟨w_17, rfl⟩
      try dsimp only
      refine ge_run (pc' := 47) (L' := [.ref a, .int x1, w_17]) (S' := [.ref a]) 1 rfl ?_
      refine ge_cv rfl rfl rfl (sT0 s ha) rfl rfl rfl (D := 4) (Nat.le_trans (by decide) hd) (c_Se_turnAll (n := n) (u := u) (t := t) (i := i_16) (r := r) s a ha) ?_
      rintro i_23 -
      dsimp only [bkE, F_v1]
      refine ge_run (pc' := 51) (L' := [.ref a, .int x1, w_17]) (S' := [.ref a, .int (0 : Int32), .ref a]) 3 rfl ?_
      refine ge_getI rfl (sT0 s ha) rfl ?_
      refine ge_run (pc' := 54) (L' := [.ref a, .int x1, w_17]) (S' := [.int ((i_23 a 12) - (1 : Int32)), .int (0 : Int32), .ref a]) 2 rfl ?_
      refine ge_cs rfl rfl rfl rfl rfl rfl (D := 1) (Nat.le_trans (by decide) hd) (c_J_max (n := n) (u := u) (t := t) (i := i_23) (r := r) s (0 : Int32) ((i_23 a 12) - (1 : Int32))) ?_
      rintro v_24 -
      dsimp only [bkE, F_i0]
      refine ge_putI rfl (sT0 s ha) (sge0 ha) rfl (fun i_25 => ?_)
      refine ge_run (pc' := 57) (L' := [.ref a, .int x1, w_17]) (S' := [.int x1]) 1 rfl ?_
      refine ge_bind (K1 := fun (q : Int32 × MI) e => e = .inl (62, [.ref a, .int x1, w_17], [.int q.1], (n, u, t, q.2, r))) ?_ ?_
      · refine ge_eq0 rfl (fun h_28 => ?_) (fun h_29 => ?_)
        · refine ge_run (pc' := 62) (L' := [.ref a, .int x1, w_17]) (S' := [.int (0 : Int32)]) 1 rfl ?_
          exact ge_leaf rfl
        · refine ge_run (pc' := 59) (L' := [.ref a, .int x1, w_17]) (S' := [.ref a]) 1 rfl ?_
          refine ge_cv rfl rfl rfl (sT0 s ha) rfl rfl rfl (D := 5) (Nat.le_trans (by decide) hd) (c_Se_trade (n := n) (u := u) (t := t) (i := i_25) (r := r) s a ha) ?_
          rintro ⟨v_30, i_31⟩ -
          dsimp only [bkE, F_i1]
          refine ge_run (pc' := 62) (L' := [.ref a, .int x1, w_17]) (S' := [.int v_30]) 1 rfl ?_
          exact ge_leaf rfl
      · rintro ⟨y_26, i_27⟩ _ rfl
        try dsimp only
        refine ge_run (pc' := 66) (L' := [.ref a, .int x1, .int y_26]) (S' := [.ref a, .int (9999 : Int32), .ref a]) 4 rfl ?_
        refine ge_getI rfl (sT0 s ha) rfl ?_
        refine ge_run (pc' := 69) (L' := [.ref a, .int x1, .int y_26]) (S' := [.int ((i_27 a 14) + (1 : Int32)), .int (9999 : Int32), .ref a]) 2 rfl ?_
        refine ge_cs rfl rfl rfl rfl rfl rfl (D := 1) (Nat.le_trans (by decide) hd) (c_J_min (n := n) (u := u) (t := t) (i := i_27) (r := r) s (9999 : Int32) ((i_27 a 14) + (1 : Int32))) ?_
        rintro v_32 -
        dsimp only [bkE, F_i0]
        refine ge_putI rfl (sT0 s ha) (sge0 ha) rfl (fun i_33 => ?_)
        refine ge_run (pc' := 72) (L' := [.ref a, .int x1, .int y_26]) (S' := [.int y_26]) 1 rfl ?_
        exact ge_ret rfl rfl (And.intro rfl trivial)
def f_Sx_wayWord (x0 : Int32) : Option (Nat) :=
  sw x0 0 [(some (6)), (some (8)), (some (10)), (some (12))] ((some (14)))
set_option maxHeartbeats 4000000 in
theorem c_Sx_wayWord {n u : Nat} {t : MT} {i : MI} {r : MR} (s : Sh n t r) (x0 : Int32) : Cn 1 84 [.int x0] (n, u, t, i, r) (f_Sx_wayWord  x0) (F_a0 n u t i r) StrAd := by
  refine cn_of (Y := K_Sx_wayWord) (L0 := [.int x0]) rfl rfl rfl ?_
  intro d hd
  unfold f_Sx_wayWord
  refine ge_run (pc' := 1) (L' := [.int x0]) (S' := [.int x0]) 1 rfl ?_
  refine ge_sw rfl rfl (And.intro ?_ (And.intro ?_ (And.intro ?_ (And.intro ?_ trivial)))) ?_
  · refine ge_run (pc' := 3) (L' := [.int x0]) (S' := [.ref 6]) 1 rfl ?_
    exact ge_reta rfl rfl (And.intro rfl (strAd 2))
  · refine ge_run (pc' := 5) (L' := [.int x0]) (S' := [.ref 8]) 1 rfl ?_
    exact ge_reta rfl rfl (And.intro rfl (strAd 3))
  · refine ge_run (pc' := 7) (L' := [.int x0]) (S' := [.ref 10]) 1 rfl ?_
    exact ge_reta rfl rfl (And.intro rfl (strAd 4))
  · refine ge_run (pc' := 9) (L' := [.int x0]) (S' := [.ref 12]) 1 rfl ?_
    exact ge_reta rfl rfl (And.intro rfl (strAd 5))
  · refine ge_run (pc' := 11) (L' := [.int x0]) (S' := [.ref 14]) 1 rfl ?_
    exact ge_reta rfl rfl (And.intro rfl (strAd 6))
def f_Sx_needWay (t : MT) (i : MI) : Option ((Int32 ⊕ Nat) × MI) :=
  itr (σ := Int32 × MI) (ρ := (Int32 ⊕ Nat) × MI) (fun (x1_1, i_2) => if (4 : Int32) < x1_1 then ((f_Ta_refuse i_2).bind (fun | (.inl (), i_4) => some (.inr ((.inl (4 : Int32), i_4))) | (.inr c_5, i_4) => some (.inr ((.inr c_5, i_4))))) else ((f_Sx_wayWord x1_1).bind (fun v_7 => (f_Ta_takeWord t i_2 v_7).bind (fun (v_9, i_10) => if v_9 = 0 then (some (.inl ((x1_1 + (1 : Int32)), i_10))) else (some (.inr ((.inl x1_1, i_10)))))))) 1000000 ((0 : Int32), i)
set_option maxHeartbeats 4000000 in
theorem c_Sx_needWay {n u : Nat} {t : MT} {i : MI} {r : MR} (s : Sh n t r)  : Cn 7 83 [.ref 1597] (n, u, t, i, r) (f_Sx_needWay t i ) (F_ti1 n u t r) PT := by
  refine cn_of (Y := K_Sx_needWay) (L0 := [.ref 1597, uV]) rfl rfl rfl ?_
  intro d hd
  unfold f_Sx_needWay
  refine ge_run (pc' := 2) (L' := [.ref 1597, .int (0 : Int32)]) (S' := []) 2 rfl ?_
  refine ge_itr (C := fun (q : Int32 × MI) e => e = .inl (2, [.ref 1597, .int q.1], [], (n, u, t, q.2, r))) ?_ _ _ _ rfl
  rintro ⟨x1_1, i_2⟩ _ rfl
  try dsimp only
  refine ge_run (pc' := 4) (L' := [.ref 1597, .int x1_1]) (S' := [.int (4 : Int32), .int x1_1]) 2 rfl ?_
  refine ge_gt rfl (fun h_3 => ?_) (fun h_6 => ?_)
  · refine ge_run (pc' := 16) (L' := [.ref 1597, .int x1_1]) (S' := [.ref 1597]) 1 rfl ?_
    refine ge_getR (b := 1595) rfl (t1597 s) rfl (r1597_0 s) (Nat.le_of_ble_eq_true rfl) ?_
    refine ge_cv rfl rfl rfl (t1595 s) rfl rfl rfl (D := 1) (Nat.le_trans (by decide) hd) (c_Ta_refuse (n := n) (u := u) (t := t) (i := i_2) (r := r) s ) ?_
    rintro ⟨⟨⟩ | c_5, i_4⟩ -
    · dsimp only [bkE, F_tv1]
      refine ge_run (pc' := 19) (L' := [.ref 1597, .int x1_1]) (S' := [.int (4 : Int32)]) 1 rfl ?_
      exact ge_ret rfl rfl (And.intro rfl trivial)
    · exact ge_leaf (And.intro rfl trivial)
  · refine ge_run (pc' := 6) (L' := [.ref 1597, .int x1_1]) (S' := [.ref 1597]) 1 rfl ?_
    refine ge_getR (b := 1595) rfl (t1597 s) rfl (r1597_0 s) (Nat.le_of_ble_eq_true rfl) ?_
    refine ge_run (pc' := 8) (L' := [.ref 1597, .int x1_1]) (S' := [.int x1_1, .ref 1595]) 1 rfl ?_
    refine ge_cs rfl rfl rfl rfl rfl rfl (D := 1) (Nat.le_trans (by decide) hd) (c_Sx_wayWord (n := n) (u := u) (t := t) (i := i_2) (r := r) s x1_1) ?_
    rintro v_7 s_8
    dsimp only [bkE, F_a0]
    refine ge_cv rfl rfl rfl (t1595 s) rfl rfl rfl (D := 6) (Nat.le_trans (by decide) hd) (c_Ta_takeWord (n := n) (u := u) (t := t) (i := i_2) (r := r) s v_7 s_8) ?_
    rintro ⟨v_9, i_10⟩ -
    dsimp only [bkE, F_i1]
    refine ge_eq0 rfl (fun h_11 => ?_) (fun h_12 => ?_)
    · refine ge_run (pc' := 2) (L' := [.ref 1597, .int (x1_1 + (1 : Int32))]) (S' := []) 2 rfl ?_
      exact ge_leaf (K := kX _ _) rfl
    · refine ge_run (pc' := 12) (L' := [.ref 1597, .int x1_1]) (S' := [.int x1_1]) 1 rfl ?_
      exact ge_ret rfl rfl (And.intro rfl trivial)
def f_Sx_readCurrent (t : MT) (i : MI) (b1 : Nat) : Option ((Unit ⊕ Nat) × MI) :=
  (f_Ta_step i).bind (fun i_1 => (f_Ta_number i_1 (0 : Int32) (24 : Int32)).bind (fun | (.inl v_2, i_3) => (f_Sx_needWay t i_3).bind (fun | (.inl v_5, i_6) => grd v_2 25 (bnd (wr i_6 (b1 + 1) (ix v_2) v_5) (fun i_10 => itr (σ := Int32 × MI) (ρ := (Unit ⊕ Nat) × MI) (fun (x2_11, i_12) => if (25 : Int32) < x2_11 then (some (.inr ((.inl (), i_12)))) else (if (i_12 1595 4) = (1 : Int32) then ((if x2_11 = (25 : Int32) then ((f_Ta_refuse i_12).bind (fun | (.inl (), i_18) => some (.inl i_18) | (.inr c_19, i_18) => some (.inr ((.inr c_19, i_18))))) else ((f_Sx_needWay t i_12).bind (fun | (.inl v_21, i_22) => grd x2_11 25 (bnd (wr i_22 (b1 + 1) (ix x2_11) v_21) (fun i_26 => some (.inl i_26))) | (.inr c_23, i_22) => some (.inr ((.inr c_23, i_22))))) : Option ((MI) ⊕ ((Unit ⊕ Nat) × MI))).bind (fun | .inl i_16 => some (.inl ((x2_11 + (1 : Int32)), i_16)) | .inr y_27 => some (.inr (y_27)))) else (some (.inr ((.inl (), i_12)))))) 1000000 ((v_2 + (1 : Int32)), i_10))) | (.inr c_7, i_6) => some (.inr c_7, i_6)) | (.inr c_4, i_3) => some (.inr c_4, i_3)))
set_option maxHeartbeats 4000000 in
theorem c_Sx_readCurrent {n u : Nat} {t : MT} {i : MI} {r : MR} (s : Sh n t r) (b1 : Nat) (hb1 : SeaAd b1) : Cn 8 82 [.ref 1597, .ref b1] (n, u, t, i, r) (f_Sx_readCurrent t i b1) (F_tv1 n u t r) PT := by
  refine cn_of (Y := K_Sx_readCurrent) (L0 := [.ref 1597, .ref b1, uV]) rfl rfl rfl ?_
  intro d hd
  unfold f_Sx_readCurrent
  refine ge_run (pc' := 1) (L' := [.ref 1597, .ref b1, uV]) (S' := [.ref 1597]) 1 rfl ?_
  refine ge_getR (b := 1595) rfl (t1597 s) rfl (r1597_0 s) (Nat.le_of_ble_eq_true rfl) ?_
  refine ge_cv rfl rfl rfl (t1595 s) rfl rfl rfl (D := 2) (Nat.le_trans (by decide) hd) (c_Ta_step (n := n) (u := u) (t := t) (i := i) (r := r) s ) ?_
  rintro i_1 -
  dsimp only [bkE, F_v1]
  refine ge_run (pc' := 4) (L' := [.ref 1597, .ref b1, uV]) (S' := [.ref 1597]) 1 rfl ?_
  refine ge_getR (b := 1595) rfl (t1597 s) rfl (r1597_0 s) (Nat.le_of_ble_eq_true rfl) ?_
  refine ge_run (pc' := 7) (L' := [.ref 1597, .ref b1, uV]) (S' := [.int (24 : Int32), .int (0 : Int32), .ref 1595]) 2 rfl ?_
  refine ge_cv rfl rfl rfl (t1595 s) rfl rfl rfl (D := 3) (Nat.le_trans (by decide) hd) (c_Ta_number (n := n) (u := u) (t := t) (i := i_1) (r := r) s (0 : Int32) (24 : Int32)) ?_
  rintro ⟨v_2 | c_4, i_3⟩ -
  · dsimp only [bkE, F_ti1]
    refine ge_run (pc' := 10) (L' := [.ref 1597, .ref b1, .int v_2]) (S' := [.ref b1]) 2 rfl ?_
    refine ge_getR (b := (b1 + 1)) rfl (sT0 s hb1) rfl (sR0 s hb1) (sge hb1) ?_
    refine ge_run (pc' := 13) (L' := [.ref 1597, .ref b1, .int v_2]) (S' := [.ref 1597, .int v_2, .ref (b1 + 1)]) 2 rfl ?_
    refine ge_cv rfl rfl rfl (t1597 s) rfl rfl rfl (D := 7) (Nat.le_trans (by decide) hd) (c_Sx_needWay (n := n) (u := u) (t := t) (i := i_3) (r := r) s ) ?_
    rintro ⟨v_5 | c_7, i_6⟩ -
    · dsimp only [bkE, F_ti1]
      refine ge_grd (fun g_8 g_9 => ?_)
      refine ge_iast (jn := (ix v_2)) rfl (sT1 s hb1) (sge hb1) ⟨g_8, rfl⟩ g_9 (fun i_10 => ?_)
      refine ge_run (pc' := 16) (L' := [.ref 1597, .ref b1, .int (v_2 + (1 : Int32))]) (S' := []) 1 rfl ?_
      refine ge_itr (C := fun (q : Int32 × MI) e => e = .inl (16, [.ref 1597, .ref b1, .int q.1], [], (n, u, t, q.2, r))) ?_ _ _ _ rfl
      rintro ⟨x2_11, i_12⟩ _ rfl
      try dsimp only
      refine ge_run (pc' := 18) (L' := [.ref 1597, .ref b1, .int x2_11]) (S' := [.int (25 : Int32), .int x2_11]) 2 rfl ?_
      refine ge_gt rfl (fun h_13 => ?_) (fun h_14 => ?_)
      · exact ge_retv rfl rfl (And.intro rfl trivial)
      · refine ge_run (pc' := 20) (L' := [.ref 1597, .ref b1, .int x2_11]) (S' := [.ref 1597]) 1 rfl ?_
        refine ge_getR (b := 1595) rfl (t1597 s) rfl (r1597_0 s) (Nat.le_of_ble_eq_true rfl) ?_
        refine ge_getI rfl (t1595 s) rfl ?_
        refine ge_run (pc' := 23) (L' := [.ref 1597, .ref b1, .int x2_11]) (S' := [.int (1 : Int32), .int (i_12 1595 4)]) 1 rfl ?_
        refine ge_ne rfl (fun h_15 => ?_) (fun h_28 => ?_)
        · refine ge_run (pc' := 26) (L' := [.ref 1597, .ref b1, .int x2_11]) (S' := [.int (25 : Int32), .int x2_11]) 2 rfl ?_
          refine ge_bind (K1 := kX (fun (q : MI) e => e = .inl (37, [.ref 1597, .ref b1, .int x2_11], [], (n, u, t, q, r))) (kR (F_tv1 n u t r) PT)) ?_ ?_
          · refine ge_ne rfl (fun h_17 => ?_) (fun h_20 => ?_)
            · refine ge_run (pc' := 28) (L' := [.ref 1597, .ref b1, .int x2_11]) (S' := [.ref 1597]) 1 rfl ?_
              refine ge_getR (b := 1595) rfl (t1597 s) rfl (r1597_0 s) (Nat.le_of_ble_eq_true rfl) ?_
              refine ge_cv rfl rfl rfl (t1595 s) rfl rfl rfl (D := 1) (Nat.le_trans (by decide) hd) (c_Ta_refuse (n := n) (u := u) (t := t) (i := i_12) (r := r) s ) ?_
              rintro ⟨⟨⟩ | c_19, i_18⟩ -
              · dsimp only [bkE, F_tv1]
                refine ge_run (pc' := 37) (L' := [.ref 1597, .ref b1, .int x2_11]) (S' := []) 1 rfl ?_
                exact ge_leaf rfl
              · exact ge_leaf (And.intro rfl trivial)
            · refine ge_run (pc' := 32) (L' := [.ref 1597, .ref b1, .int x2_11]) (S' := [.ref b1]) 1 rfl ?_
              refine ge_getR (b := (b1 + 1)) rfl (sT0 s hb1) rfl (sR0 s hb1) (sge hb1) ?_
              refine ge_run (pc' := 35) (L' := [.ref 1597, .ref b1, .int x2_11]) (S' := [.ref 1597, .int x2_11, .ref (b1 + 1)]) 2 rfl ?_
              refine ge_cv rfl rfl rfl (t1597 s) rfl rfl rfl (D := 7) (Nat.le_trans (by decide) hd) (c_Sx_needWay (n := n) (u := u) (t := t) (i := i_12) (r := r) s ) ?_
              rintro ⟨v_21 | c_23, i_22⟩ -
              · dsimp only [bkE, F_ti1]
                refine ge_grd (fun g_24 g_25 => ?_)
                refine ge_iast (jn := (ix x2_11)) rfl (sT1 s hb1) (sge hb1) ⟨g_24, rfl⟩ g_25 (fun i_26 => ?_)
                exact ge_leaf rfl
              · exact ge_leaf (And.intro rfl trivial)
          · rintro (i_16 | y_27) e he
            · obtain rfl := he
              try dsimp only
              refine ge_run (pc' := 16) (L' := [.ref 1597, .ref b1, .int (x2_11 + (1 : Int32))]) (S' := []) 2 rfl ?_
              exact ge_leaf (K := kX _ _) rfl
            · exact ge_leaf he
        · exact ge_retv rfl rfl (And.intro rfl trivial)
    · exact ge_leaf (And.intro rfl trivial)
  · exact ge_leaf (And.intro rfl trivial)
def f_Sx_kindWord (x0 : Int32) : Option (Nat) :=
  sw x0 0 [(some (18)), (some (20)), (some (22))] ((some (24)))
set_option maxHeartbeats 4000000 in
theorem c_Sx_kindWord {n u : Nat} {t : MT} {i : MI} {r : MR} (s : Sh n t r) (x0 : Int32) : Cn 1 86 [.int x0] (n, u, t, i, r) (f_Sx_kindWord  x0) (F_a0 n u t i r) StrAd := by
  refine cn_of (Y := K_Sx_kindWord) (L0 := [.int x0]) rfl rfl rfl ?_
  intro d hd
  unfold f_Sx_kindWord
  refine ge_run (pc' := 1) (L' := [.int x0]) (S' := [.int x0]) 1 rfl ?_
  refine ge_sw rfl rfl (And.intro ?_ (And.intro ?_ (And.intro ?_ trivial))) ?_
  · refine ge_run (pc' := 3) (L' := [.int x0]) (S' := [.ref 18]) 1 rfl ?_
    exact ge_reta rfl rfl (And.intro rfl (strAd 8))
  · refine ge_run (pc' := 5) (L' := [.int x0]) (S' := [.ref 20]) 1 rfl ?_
    exact ge_reta rfl rfl (And.intro rfl (strAd 9))
  · refine ge_run (pc' := 7) (L' := [.int x0]) (S' := [.ref 22]) 1 rfl ?_
    exact ge_reta rfl rfl (And.intro rfl (strAd 10))
  · refine ge_run (pc' := 9) (L' := [.int x0]) (S' := [.ref 24]) 1 rfl ?_
    exact ge_reta rfl rfl (And.intro rfl (strAd 11))
def f_Sx_needKindWord (t : MT) (i : MI) : Option ((Int32 ⊕ Nat) × MI) :=
  itr (σ := Int32 × MI) (ρ := (Int32 ⊕ Nat) × MI) (fun (x1_1, i_2) => if x1_1 < (4 : Int32) then ((f_Sx_kindWord x1_1).bind (fun v_4 => (f_Ta_takeWord t i_2 v_4).bind (fun (v_6, i_7) => if v_6 = 0 then (some (.inl ((x1_1 + (1 : Int32)), i_7))) else (some (.inr ((.inl x1_1, i_7))))))) else ((f_Ta_refuse i_2).bind (fun | (.inl (), i_11) => some (.inr ((.inl (-1 : Int32), i_11))) | (.inr c_12, i_11) => some (.inr ((.inr c_12, i_11)))))) 1000000 ((0 : Int32), i)
set_option maxHeartbeats 4000000 in
theorem c_Sx_needKindWord {n u : Nat} {t : MT} {i : MI} {r : MR} (s : Sh n t r)  : Cn 7 85 [.ref 1597] (n, u, t, i, r) (f_Sx_needKindWord t i ) (F_ti1 n u t r) PT := by
  refine cn_of (Y := K_Sx_needKindWord) (L0 := [.ref 1597, uV]) rfl rfl rfl ?_
  intro d hd
  unfold f_Sx_needKindWord
  refine ge_run (pc' := 2) (L' := [.ref 1597, .int (0 : Int32)]) (S' := []) 2 rfl ?_
  refine ge_itr (C := fun (q : Int32 × MI) e => e = .inl (2, [.ref 1597, .int q.1], [], (n, u, t, q.2, r))) ?_ _ _ _ rfl
  rintro ⟨x1_1, i_2⟩ _ rfl
  try dsimp only
  refine ge_run (pc' := 4) (L' := [.ref 1597, .int x1_1]) (S' := [.int (4 : Int32), .int x1_1]) 2 rfl ?_
  refine ge_ge rfl (fun h_3 => ?_) (fun h_10 => ?_)
  · refine ge_run (pc' := 6) (L' := [.ref 1597, .int x1_1]) (S' := [.ref 1597]) 1 rfl ?_
    refine ge_getR (b := 1595) rfl (t1597 s) rfl (r1597_0 s) (Nat.le_of_ble_eq_true rfl) ?_
    refine ge_run (pc' := 8) (L' := [.ref 1597, .int x1_1]) (S' := [.int x1_1, .ref 1595]) 1 rfl ?_
    refine ge_cs rfl rfl rfl rfl rfl rfl (D := 1) (Nat.le_trans (by decide) hd) (c_Sx_kindWord (n := n) (u := u) (t := t) (i := i_2) (r := r) s x1_1) ?_
    rintro v_4 s_5
    dsimp only [bkE, F_a0]
    refine ge_cv rfl rfl rfl (t1595 s) rfl rfl rfl (D := 6) (Nat.le_trans (by decide) hd) (c_Ta_takeWord (n := n) (u := u) (t := t) (i := i_2) (r := r) s v_4 s_5) ?_
    rintro ⟨v_6, i_7⟩ -
    dsimp only [bkE, F_i1]
    refine ge_eq0 rfl (fun h_8 => ?_) (fun h_9 => ?_)
    · refine ge_run (pc' := 2) (L' := [.ref 1597, .int (x1_1 + (1 : Int32))]) (S' := []) 2 rfl ?_
      exact ge_leaf (K := kX _ _) rfl
    · refine ge_run (pc' := 12) (L' := [.ref 1597, .int x1_1]) (S' := [.int x1_1]) 1 rfl ?_
      exact ge_ret rfl rfl (And.intro rfl trivial)
  · refine ge_run (pc' := 16) (L' := [.ref 1597, .int x1_1]) (S' := [.ref 1597]) 1 rfl ?_
    refine ge_getR (b := 1595) rfl (t1597 s) rfl (r1597_0 s) (Nat.le_of_ble_eq_true rfl) ?_
    refine ge_cv rfl rfl rfl (t1595 s) rfl rfl rfl (D := 1) (Nat.le_trans (by decide) hd) (c_Ta_refuse (n := n) (u := u) (t := t) (i := i_2) (r := r) s ) ?_
    rintro ⟨⟨⟩ | c_12, i_11⟩ -
    · dsimp only [bkE, F_tv1]
      refine ge_run (pc' := 19) (L' := [.ref 1597, .int x1_1]) (S' := [.int (-1 : Int32)]) 1 rfl ?_
      exact ge_ret rfl rfl (And.intro rfl trivial)
    · exact ge_leaf (And.intro rfl trivial)
def f_Sx_takeNumberOf (t : MT) (i : MI) (w1 : Nat) (x2 : Int32) (x3 : Int32) (x4 : Int32) : Option ((Int32 ⊕ Nat) × MI) :=
  (f_Ta_takeWord t i w1).bind (fun (v_1, i_2) => if v_1 = 0 then (some (.inl x4, i_2)) else ((f_Ta_number i_2 x2 x3).bind (fun | (.inl v_5, i_6) => some (.inl v_5, i_6) | (.inr c_7, i_6) => some (.inr c_7, i_6))))
set_option maxHeartbeats 4000000 in
theorem c_Sx_takeNumberOf {n u : Nat} {t : MT} {i : MI} {r : MR} (s : Sh n t r) (w1 : Nat) (hw1 : StrAd w1) (x2 : Int32) (x3 : Int32) (x4 : Int32) : Cn 7 87 [.ref 1597, .ref w1, .int x2, .int x3, .int x4] (n, u, t, i, r) (f_Sx_takeNumberOf t i w1 x2 x3 x4) (F_ti1 n u t r) PT := by
  refine cn_of (Y := K_Sx_takeNumberOf) (L0 := [.ref 1597, .ref w1, .int x2, .int x3, .int x4]) rfl rfl rfl ?_
  intro d hd
  unfold f_Sx_takeNumberOf
  refine ge_run (pc' := 1) (L' := [.ref 1597, .ref w1, .int x2, .int x3, .int x4]) (S' := [.ref 1597]) 1 rfl ?_
  refine ge_getR (b := 1595) rfl (t1597 s) rfl (r1597_0 s) (Nat.le_of_ble_eq_true rfl) ?_
  refine ge_run (pc' := 3) (L' := [.ref 1597, .ref w1, .int x2, .int x3, .int x4]) (S' := [.ref w1, .ref 1595]) 1 rfl ?_
  refine ge_cv rfl rfl rfl (t1595 s) rfl rfl rfl (D := 6) (Nat.le_trans (by decide) hd) (c_Ta_takeWord (n := n) (u := u) (t := t) (i := i) (r := r) s w1 hw1) ?_
  rintro ⟨v_1, i_2⟩ -
  dsimp only [bkE, F_i1]
  refine ge_eq0 rfl (fun h_3 => ?_) (fun h_4 => ?_)
  · refine ge_run (pc' := 12) (L' := [.ref 1597, .ref w1, .int x2, .int x3, .int x4]) (S' := [.int x4]) 1 rfl ?_
    exact ge_ret rfl rfl (And.intro rfl trivial)
  · refine ge_run (pc' := 6) (L' := [.ref 1597, .ref w1, .int x2, .int x3, .int x4]) (S' := [.ref 1597]) 1 rfl ?_
    refine ge_getR (b := 1595) rfl (t1597 s) rfl (r1597_0 s) (Nat.le_of_ble_eq_true rfl) ?_
    refine ge_run (pc' := 9) (L' := [.ref 1597, .ref w1, .int x2, .int x3, .int x4]) (S' := [.int x3, .int x2, .ref 1595]) 2 rfl ?_
    refine ge_cv rfl rfl rfl (t1595 s) rfl rfl rfl (D := 3) (Nat.le_trans (by decide) hd) (c_Ta_number (n := n) (u := u) (t := t) (i := i_2) (r := r) s x2 x3) ?_
    rintro ⟨v_5 | c_7, i_6⟩ -
    · dsimp only [bkE, F_ti1]
      refine ge_run (pc' := 12) (L' := [.ref 1597, .ref w1, .int x2, .int x3, .int x4]) (S' := [.int v_5]) 1 rfl ?_
      exact ge_ret rfl rfl (And.intro rfl trivial)
    · exact ge_leaf (And.intro rfl trivial)
def f_Sx_readFish (t : MT) (i : MI) (b1 : Nat) : Option ((Unit ⊕ Nat) × MI) :=
  (f_Ta_step i).bind (fun i_1 => (f_Sx_needKindWord t i_1).bind (fun | (.inl v_2, i_3) => (f_Ta_needWord t i_3 26).bind (fun | (.inl (), i_5) => (f_Ta_number i_5 (0 : Int32) (24 : Int32)).bind (fun | (.inl v_7, i_8) => (f_Ta_needWord t i_8 28).bind (fun | (.inl (), i_10) => (f_Ta_number i_10 (1 : Int32) (9 : Int32)).bind (fun | (.inl v_12, i_13) => (f_Sx_takeNumberOf t i_13 30 (0 : Int32) (99 : Int32) (90 : Int32)).bind (fun | (.inl v_15, i_16) => (f_Se_addFish i_16 b1 v_2 v_7 v_12).bind (fun (v_18, i_19) => if v_18 = (-1 : Int32) then (some (.inl (), i_19)) else (grd v_18 8 (bnd (wr i_19 (b1 + 3 + (ix v_18)) 2 v_15) (fun i_24 => some (.inl (), i_24))))) | (.inr c_17, i_16) => some (.inr c_17, i_16)) | (.inr c_14, i_13) => some (.inr c_14, i_13)) | (.inr c_11, i_10) => some (.inr c_11, i_10)) | (.inr c_9, i_8) => some (.inr c_9, i_8)) | (.inr c_6, i_5) => some (.inr c_6, i_5)) | (.inr c_4, i_3) => some (.inr c_4, i_3)))
set_option maxHeartbeats 4000000 in
theorem c_Sx_readFish {n u : Nat} {t : MT} {i : MI} {r : MR} (s : Sh n t r) (b1 : Nat) (hb1 : SeaAd b1) : Cn 8 88 [.ref 1597, .ref b1] (n, u, t, i, r) (f_Sx_readFish t i b1) (F_tv1 n u t r) PT := by
  refine cn_of (Y := K_Sx_readFish) (L0 := [.ref 1597, .ref b1, uV, uV, uV, uV, uV]) rfl rfl rfl ?_
  intro d hd
  unfold f_Sx_readFish
  refine ge_run (pc' := 1) (L' := [.ref 1597, .ref b1, uV, uV, uV, uV, uV]) (S' := [.ref 1597]) 1 rfl ?_
  refine ge_getR (b := 1595) rfl (t1597 s) rfl (r1597_0 s) (Nat.le_of_ble_eq_true rfl) ?_
  refine ge_cv rfl rfl rfl (t1595 s) rfl rfl rfl (D := 2) (Nat.le_trans (by decide) hd) (c_Ta_step (n := n) (u := u) (t := t) (i := i) (r := r) s ) ?_
  rintro i_1 -
  dsimp only [bkE, F_v1]
  refine ge_run (pc' := 4) (L' := [.ref 1597, .ref b1, uV, uV, uV, uV, uV]) (S' := [.ref 1597]) 1 rfl ?_
  refine ge_cv rfl rfl rfl (t1597 s) rfl rfl rfl (D := 7) (Nat.le_trans (by decide) hd) (c_Sx_needKindWord (n := n) (u := u) (t := t) (i := i_1) (r := r) s ) ?_
  rintro ⟨v_2 | c_4, i_3⟩ -
  · dsimp only [bkE, F_ti1]
    refine ge_run (pc' := 7) (L' := [.ref 1597, .ref b1, .int v_2, uV, uV, uV, uV]) (S' := [.ref 1597]) 2 rfl ?_
    refine ge_getR (b := 1595) rfl (t1597 s) rfl (r1597_0 s) (Nat.le_of_ble_eq_true rfl) ?_
    refine ge_run (pc' := 9) (L' := [.ref 1597, .ref b1, .int v_2, uV, uV, uV, uV]) (S' := [.ref 26, .ref 1595]) 1 rfl ?_
    refine ge_cv rfl rfl rfl (t1595 s) rfl rfl rfl (D := 7) (Nat.le_trans (by decide) hd) (c_Ta_needWord (n := n) (u := u) (t := t) (i := i_3) (r := r) s 26 (strAd 12)) ?_
    rintro ⟨⟨⟩ | c_6, i_5⟩ -
    · dsimp only [bkE, F_tv1]
      refine ge_run (pc' := 11) (L' := [.ref 1597, .ref b1, .int v_2, uV, uV, uV, uV]) (S' := [.ref 1597]) 1 rfl ?_
      refine ge_getR (b := 1595) rfl (t1597 s) rfl (r1597_0 s) (Nat.le_of_ble_eq_true rfl) ?_
      refine ge_run (pc' := 14) (L' := [.ref 1597, .ref b1, .int v_2, uV, uV, uV, uV]) (S' := [.int (24 : Int32), .int (0 : Int32), .ref 1595]) 2 rfl ?_
      refine ge_cv rfl rfl rfl (t1595 s) rfl rfl rfl (D := 3) (Nat.le_trans (by decide) hd) (c_Ta_number (n := n) (u := u) (t := t) (i := i_5) (r := r) s (0 : Int32) (24 : Int32)) ?_
      rintro ⟨v_7 | c_9, i_8⟩ -
      · dsimp only [bkE, F_ti1]
        refine ge_run (pc' := 17) (L' := [.ref 1597, .ref b1, .int v_2, .int v_7, uV, uV, uV]) (S' := [.ref 1597]) 2 rfl ?_
        refine ge_getR (b := 1595) rfl (t1597 s) rfl (r1597_0 s) (Nat.le_of_ble_eq_true rfl) ?_
        refine ge_run (pc' := 19) (L' := [.ref 1597, .ref b1, .int v_2, .int v_7, uV, uV, uV]) (S' := [.ref 28, .ref 1595]) 1 rfl ?_
        refine ge_cv rfl rfl rfl (t1595 s) rfl rfl rfl (D := 7) (Nat.le_trans (by decide) hd) (c_Ta_needWord (n := n) (u := u) (t := t) (i := i_8) (r := r) s 28 (strAd 13)) ?_
        rintro ⟨⟨⟩ | c_11, i_10⟩ -
        · dsimp only [bkE, F_tv1]
          refine ge_run (pc' := 21) (L' := [.ref 1597, .ref b1, .int v_2, .int v_7, uV, uV, uV]) (S' := [.ref 1597]) 1 rfl ?_
          refine ge_getR (b := 1595) rfl (t1597 s) rfl (r1597_0 s) (Nat.le_of_ble_eq_true rfl) ?_
          refine ge_run (pc' := 24) (L' := [.ref 1597, .ref b1, .int v_2, .int v_7, uV, uV, uV]) (S' := [.int (9 : Int32), .int (1 : Int32), .ref 1595]) 2 rfl ?_
          refine ge_cv rfl rfl rfl (t1595 s) rfl rfl rfl (D := 3) (Nat.le_trans (by decide) hd) (c_Ta_number (n := n) (u := u) (t := t) (i := i_10) (r := r) s (1 : Int32) (9 : Int32)) ?_
          rintro ⟨v_12 | c_14, i_13⟩ -
          · dsimp only [bkE, F_ti1]
            refine ge_run (pc' := 31) (L' := [.ref 1597, .ref b1, .int v_2, .int v_7, .int v_12, uV, uV]) (S' := [.int (90 : Int32), .int (99 : Int32), .int (0 : Int32), .ref 30, .ref 1597]) 6 rfl ?_
            refine ge_cv rfl rfl rfl (t1597 s) rfl rfl rfl (D := 7) (Nat.le_trans (by decide) hd) (c_Sx_takeNumberOf (n := n) (u := u) (t := t) (i := i_13) (r := r) s 30 (strAd 14) (0 : Int32) (99 : Int32) (90 : Int32)) ?_
            rintro ⟨v_15 | c_17, i_16⟩ -
            · dsimp only [bkE, F_ti1]
              refine ge_run (pc' := 37) (L' := [.ref 1597, .ref b1, .int v_2, .int v_7, .int v_12, .int v_15, uV]) (S' := [.int v_12, .int v_7, .int v_2, .ref b1]) 5 rfl ?_
              refine ge_cv rfl rfl rfl (sT0 s hb1) rfl rfl rfl (D := 2) (Nat.le_trans (by decide) hd) (c_Se_addFish (n := n) (u := u) (t := t) (i := i_16) (r := r) s b1 hb1 v_2 v_7 v_12) ?_
              rintro ⟨v_18, i_19⟩ -
              dsimp only [bkE, F_i1]
              refine ge_run (pc' := 41) (L' := [.ref 1597, .ref b1, .int v_2, .int v_7, .int v_12, .int v_15, .int v_18]) (S' := [.int (-1 : Int32), .int v_18]) 3 rfl ?_
              refine ge_eq rfl (fun h_20 => ?_) (fun h_21 => ?_)
              · exact ge_retv rfl rfl (And.intro rfl trivial)
              · refine ge_run (pc' := 43) (L' := [.ref 1597, .ref b1, .int v_2, .int v_7, .int v_12, .int v_15, .int v_18]) (S' := [.ref b1]) 1 rfl ?_
                refine ge_getR (b := (b1 + 2)) rfl (sT0 s hb1) rfl (sR1 s hb1) (sge hb1) ?_
                refine ge_run (pc' := 45) (L' := [.ref 1597, .ref b1, .int v_2, .int v_7, .int v_12, .int v_15, .int v_18]) (S' := [.int v_18, .ref (b1 + 2)]) 1 rfl ?_
                refine ge_grd (fun g_22 g_23 => ?_)
                refine ge_aald (jn := (ix v_18)) (b := (b1 + 3 + (ix v_18))) rfl (sT2 s hb1) (Or.inl rfl) ⟨g_22, rfl⟩ g_23 (sRr_fish s hb1 g_23) (sge2 hb1) ?_
                refine ge_run (pc' := 48) (L' := [.ref 1597, .ref b1, .int v_2, .int v_7, .int v_12, .int v_15, .int v_18]) (S' := [.int v_15, .int (2 : Int32), .ref (b1 + 3 + (ix v_18))]) 2 rfl ?_
                refine ge_iast (jn := 2) rfl (sRow_fish s hb1 g_23) (sge2 hb1) lk2 (by decide) (fun i_24 => ?_)
                exact ge_retv rfl rfl (And.intro rfl trivial)
            · exact ge_leaf (And.intro rfl trivial)
          · exact ge_leaf (And.intro rfl trivial)
        · exact ge_leaf (And.intro rfl trivial)
      · exact ge_leaf (And.intro rfl trivial)
    · exact ge_leaf (And.intro rfl trivial)
  · exact ge_leaf (And.intro rfl trivial)
def f_Sx_readBoat (t : MT) (i : MI) (b1 : Nat) : Option ((Unit ⊕ Nat) × MI) :=
  (f_Ta_step i).bind (fun i_1 => grd (i_1 b1 8) 3 ((f_Ta_needWord t i_1 34).bind (fun | (.inl (), i_4) => (f_Ta_number i_4 (1 : Int32) (9 : Int32)).bind (fun | (.inl v_6, i_7) => bnd (wr i_7 (b1 + 12 + (ix (i_1 b1 8))) 2 v_6) (fun i_9 => (f_Sx_takeNumberOf t i_9 26 (0 : Int32) (24 : Int32) (0 : Int32)).bind (fun | (.inl v_10, i_11) => bnd (wr i_11 (b1 + 12 + (ix (i_1 b1 8))) 0 v_10) (fun i_13 => (f_Sx_takeNumberOf t i_13 36 (0 : Int32) (24 : Int32) (-1 : Int32)).bind (fun | (.inl v_14, i_15) => bnd (wr i_15 (b1 + 12 + (ix (i_1 b1 8))) 1 v_14) (fun i_17 => bnd (wr i_17 b1 8 ((i_17 b1 8) + (1 : Int32))) (fun i_18 => some (.inl (), i_18))) | (.inr c_16, i_15) => some (.inr c_16, i_15))) | (.inr c_12, i_11) => some (.inr c_12, i_11))) | (.inr c_8, i_7) => some (.inr c_8, i_7)) | (.inr c_5, i_4) => some (.inr c_5, i_4))))
set_option maxHeartbeats 4000000 in
theorem c_Sx_readBoat {n u : Nat} {t : MT} {i : MI} {r : MR} (s : Sh n t r) (b1 : Nat) (hb1 : SeaAd b1) : Cn 8 89 [.ref 1597, .ref b1] (n, u, t, i, r) (f_Sx_readBoat t i b1) (F_tv1 n u t r) PT := by
  refine cn_of (Y := K_Sx_readBoat) (L0 := [.ref 1597, .ref b1, uV]) rfl rfl rfl ?_
  intro d hd
  unfold f_Sx_readBoat
  refine ge_run (pc' := 1) (L' := [.ref 1597, .ref b1, uV]) (S' := [.ref 1597]) 1 rfl ?_
  refine ge_getR (b := 1595) rfl (t1597 s) rfl (r1597_0 s) (Nat.le_of_ble_eq_true rfl) ?_
  refine ge_cv rfl rfl rfl (t1595 s) rfl rfl rfl (D := 2) (Nat.le_trans (by decide) hd) (c_Ta_step (n := n) (u := u) (t := t) (i := i) (r := r) s ) ?_
  rintro i_1 -
  dsimp only [bkE, F_v1]
  refine ge_run (pc' := 4) (L' := [.ref 1597, .ref b1, uV]) (S' := [.ref b1]) 1 rfl ?_
  refine ge_getR (b := (b1 + 11)) rfl (sT0 s hb1) rfl (sR2 s hb1) (sge hb1) ?_
  refine ge_run (pc' := 6) (L' := [.ref 1597, .ref b1, uV]) (S' := [.ref b1, .ref (b1 + 11)]) 1 rfl ?_
  refine ge_getI rfl (sT0 s hb1) rfl ?_
  refine ge_grd (fun g_2 g_3 => ?_)
  refine ge_aald (jn := (ix (i_1 b1 8))) (b := (b1 + 12 + (ix (i_1 b1 8)))) rfl (sT11 s hb1) (Or.inl rfl) ⟨g_2, rfl⟩ g_3 (sRr_boat s hb1 g_3) (sge2 hb1) ?_
  refine ge_run (pc' := 10) (L' := [.ref 1597, .ref b1, .ref (b1 + 12 + (ix (i_1 b1 8)))]) (S' := [.ref 1597]) 2 rfl ?_
  refine ge_getR (b := 1595) rfl (t1597 s) rfl (r1597_0 s) (Nat.le_of_ble_eq_true rfl) ?_
  refine ge_run (pc' := 12) (L' := [.ref 1597, .ref b1, .ref (b1 + 12 + (ix (i_1 b1 8)))]) (S' := [.ref 34, .ref 1595]) 1 rfl ?_
  refine ge_cv rfl rfl rfl (t1595 s) rfl rfl rfl (D := 7) (Nat.le_trans (by decide) hd) (c_Ta_needWord (n := n) (u := u) (t := t) (i := i_1) (r := r) s 34 (strAd 16)) ?_
  rintro ⟨⟨⟩ | c_5, i_4⟩ -
  · dsimp only [bkE, F_tv1]
    refine ge_run (pc' := 16) (L' := [.ref 1597, .ref b1, .ref (b1 + 12 + (ix (i_1 b1 8)))]) (S' := [.ref 1597, .int (2 : Int32), .ref (b1 + 12 + (ix (i_1 b1 8)))]) 3 rfl ?_
    refine ge_getR (b := 1595) rfl (t1597 s) rfl (r1597_0 s) (Nat.le_of_ble_eq_true rfl) ?_
    refine ge_run (pc' := 19) (L' := [.ref 1597, .ref b1, .ref (b1 + 12 + (ix (i_1 b1 8)))]) (S' := [.int (9 : Int32), .int (1 : Int32), .ref 1595, .int (2 : Int32), .ref (b1 + 12 + (ix (i_1 b1 8)))]) 2 rfl ?_
    refine ge_cv rfl rfl rfl (t1595 s) rfl rfl rfl (D := 3) (Nat.le_trans (by decide) hd) (c_Ta_number (n := n) (u := u) (t := t) (i := i_4) (r := r) s (1 : Int32) (9 : Int32)) ?_
    rintro ⟨v_6 | c_8, i_7⟩ -
    · dsimp only [bkE, F_ti1]
      refine ge_iast (jn := 2) rfl (sRow_boat s hb1 g_3) (sge2 hb1) lk2 (by decide) (fun i_9 => ?_)
      refine ge_run (pc' := 28) (L' := [.ref 1597, .ref b1, .ref (b1 + 12 + (ix (i_1 b1 8)))]) (S' := [.int (0 : Int32), .int (24 : Int32), .int (0 : Int32), .ref 26, .ref 1597, .int (0 : Int32), .ref (b1 + 12 + (ix (i_1 b1 8)))]) 7 rfl ?_
      refine ge_cv rfl rfl rfl (t1597 s) rfl rfl rfl (D := 7) (Nat.le_trans (by decide) hd) (c_Sx_takeNumberOf (n := n) (u := u) (t := t) (i := i_9) (r := r) s 26 (strAd 12) (0 : Int32) (24 : Int32) (0 : Int32)) ?_
      rintro ⟨v_10 | c_12, i_11⟩ -
      · dsimp only [bkE, F_ti1]
        refine ge_iast (jn := 0) rfl (sRow_boat s hb1 g_3) (sge2 hb1) lk0 (by decide) (fun i_13 => ?_)
        refine ge_run (pc' := 37) (L' := [.ref 1597, .ref b1, .ref (b1 + 12 + (ix (i_1 b1 8)))]) (S' := [.int (-1 : Int32), .int (24 : Int32), .int (0 : Int32), .ref 36, .ref 1597, .int (1 : Int32), .ref (b1 + 12 + (ix (i_1 b1 8)))]) 7 rfl ?_
        refine ge_cv rfl rfl rfl (t1597 s) rfl rfl rfl (D := 7) (Nat.le_trans (by decide) hd) (c_Sx_takeNumberOf (n := n) (u := u) (t := t) (i := i_13) (r := r) s 36 (strAd 17) (0 : Int32) (24 : Int32) (-1 : Int32)) ?_
        rintro ⟨v_14 | c_16, i_15⟩ -
        · dsimp only [bkE, F_ti1]
          refine ge_iast (jn := 1) rfl (sRow_boat s hb1 g_3) (sge2 hb1) lk1 (by decide) (fun i_17 => ?_)
          refine ge_run (pc' := 41) (L' := [.ref 1597, .ref b1, .ref (b1 + 12 + (ix (i_1 b1 8)))]) (S' := [.ref b1, .ref b1]) 2 rfl ?_
          refine ge_getI rfl (sT0 s hb1) rfl ?_
          refine ge_run (pc' := 44) (L' := [.ref 1597, .ref b1, .ref (b1 + 12 + (ix (i_1 b1 8)))]) (S' := [.int ((i_17 b1 8) + (1 : Int32)), .ref b1]) 2 rfl ?_
          refine ge_putI rfl (sT0 s hb1) (sge0 hb1) rfl (fun i_18 => ?_)
          exact ge_retv rfl rfl (And.intro rfl trivial)
        · exact ge_leaf (And.intro rfl trivial)
      · exact ge_leaf (And.intro rfl trivial)
    · exact ge_leaf (And.intro rfl trivial)
  · exact ge_leaf (And.intro rfl trivial)
def f_Sx_readBuyer (t : MT) (i : MI) (b1 : Nat) : Option ((Unit ⊕ Nat) × MI) :=
  (f_Ta_step i).bind (fun i_1 => grd (i_1 b1 9) 5 ((f_Sx_needKindWord t i_1).bind (fun | (.inl v_4, i_5) => bnd (wr i_5 (b1 + 16 + (ix (i_1 b1 9))) 0 v_4) (fun i_7 => (f_Ta_needWord t i_7 40).bind (fun | (.inl (), i_8) => (f_Ta_number i_8 (0 : Int32) (999 : Int32)).bind (fun | (.inl v_10, i_11) => bnd (wr i_11 (b1 + 16 + (ix (i_1 b1 9))) 1 v_10) (fun i_13 => (f_Sx_takeNumberOf t i_13 42 (0 : Int32) (99 : Int32) (0 : Int32)).bind (fun | (.inl v_14, i_15) => bnd (wr i_15 (b1 + 16 + (ix (i_1 b1 9))) 2 v_14) (fun i_17 => (f_Sx_takeNumberOf t i_17 44 (0 : Int32) (100 : Int32) (50 : Int32)).bind (fun | (.inl v_18, i_19) => bnd (wr i_19 (b1 + 16 + (ix (i_1 b1 9))) 3 v_18) (fun i_21 => bnd (wr i_21 b1 9 ((i_21 b1 9) + (1 : Int32))) (fun i_22 => some (.inl (), i_22))) | (.inr c_20, i_19) => some (.inr c_20, i_19))) | (.inr c_16, i_15) => some (.inr c_16, i_15))) | (.inr c_12, i_11) => some (.inr c_12, i_11)) | (.inr c_9, i_8) => some (.inr c_9, i_8))) | (.inr c_6, i_5) => some (.inr c_6, i_5))))
set_option maxHeartbeats 4000000 in
theorem c_Sx_readBuyer {n u : Nat} {t : MT} {i : MI} {r : MR} (s : Sh n t r) (b1 : Nat) (hb1 : SeaAd b1) : Cn 8 90 [.ref 1597, .ref b1] (n, u, t, i, r) (f_Sx_readBuyer t i b1) (F_tv1 n u t r) PT := by
  refine cn_of (Y := K_Sx_readBuyer) (L0 := [.ref 1597, .ref b1, uV]) rfl rfl rfl ?_
  intro d hd
  unfold f_Sx_readBuyer
  refine ge_run (pc' := 1) (L' := [.ref 1597, .ref b1, uV]) (S' := [.ref 1597]) 1 rfl ?_
  refine ge_getR (b := 1595) rfl (t1597 s) rfl (r1597_0 s) (Nat.le_of_ble_eq_true rfl) ?_
  refine ge_cv rfl rfl rfl (t1595 s) rfl rfl rfl (D := 2) (Nat.le_trans (by decide) hd) (c_Ta_step (n := n) (u := u) (t := t) (i := i) (r := r) s ) ?_
  rintro i_1 -
  dsimp only [bkE, F_v1]
  refine ge_run (pc' := 4) (L' := [.ref 1597, .ref b1, uV]) (S' := [.ref b1]) 1 rfl ?_
  refine ge_getR (b := (b1 + 15)) rfl (sT0 s hb1) rfl (sR3 s hb1) (sge hb1) ?_
  refine ge_run (pc' := 6) (L' := [.ref 1597, .ref b1, uV]) (S' := [.ref b1, .ref (b1 + 15)]) 1 rfl ?_
  refine ge_getI rfl (sT0 s hb1) rfl ?_
  refine ge_grd (fun g_2 g_3 => ?_)
  refine ge_aald (jn := (ix (i_1 b1 9))) (b := (b1 + 16 + (ix (i_1 b1 9)))) rfl (sT15 s hb1) (Or.inl rfl) ⟨g_2, rfl⟩ g_3 (sRr_buyer s hb1 g_3) (sge2 hb1) ?_
  refine ge_run (pc' := 12) (L' := [.ref 1597, .ref b1, .ref (b1 + 16 + (ix (i_1 b1 9)))]) (S' := [.ref 1597, .int (0 : Int32), .ref (b1 + 16 + (ix (i_1 b1 9)))]) 4 rfl ?_
  refine ge_cv rfl rfl rfl (t1597 s) rfl rfl rfl (D := 7) (Nat.le_trans (by decide) hd) (c_Sx_needKindWord (n := n) (u := u) (t := t) (i := i_1) (r := r) s ) ?_
  rintro ⟨v_4 | c_6, i_5⟩ -
  · dsimp only [bkE, F_ti1]
    refine ge_iast (jn := 0) rfl (sRow_buyer s hb1 g_3) (sge2 hb1) lk0 (by decide) (fun i_7 => ?_)
    refine ge_run (pc' := 15) (L' := [.ref 1597, .ref b1, .ref (b1 + 16 + (ix (i_1 b1 9)))]) (S' := [.ref 1597]) 1 rfl ?_
    refine ge_getR (b := 1595) rfl (t1597 s) rfl (r1597_0 s) (Nat.le_of_ble_eq_true rfl) ?_
    refine ge_run (pc' := 17) (L' := [.ref 1597, .ref b1, .ref (b1 + 16 + (ix (i_1 b1 9)))]) (S' := [.ref 40, .ref 1595]) 1 rfl ?_
    refine ge_cv rfl rfl rfl (t1595 s) rfl rfl rfl (D := 7) (Nat.le_trans (by decide) hd) (c_Ta_needWord (n := n) (u := u) (t := t) (i := i_7) (r := r) s 40 (strAd 19)) ?_
    rintro ⟨⟨⟩ | c_9, i_8⟩ -
    · dsimp only [bkE, F_tv1]
      refine ge_run (pc' := 21) (L' := [.ref 1597, .ref b1, .ref (b1 + 16 + (ix (i_1 b1 9)))]) (S' := [.ref 1597, .int (1 : Int32), .ref (b1 + 16 + (ix (i_1 b1 9)))]) 3 rfl ?_
      refine ge_getR (b := 1595) rfl (t1597 s) rfl (r1597_0 s) (Nat.le_of_ble_eq_true rfl) ?_
      refine ge_run (pc' := 24) (L' := [.ref 1597, .ref b1, .ref (b1 + 16 + (ix (i_1 b1 9)))]) (S' := [.int (999 : Int32), .int (0 : Int32), .ref 1595, .int (1 : Int32), .ref (b1 + 16 + (ix (i_1 b1 9)))]) 2 rfl ?_
      refine ge_cv rfl rfl rfl (t1595 s) rfl rfl rfl (D := 3) (Nat.le_trans (by decide) hd) (c_Ta_number (n := n) (u := u) (t := t) (i := i_8) (r := r) s (0 : Int32) (999 : Int32)) ?_
      rintro ⟨v_10 | c_12, i_11⟩ -
      · dsimp only [bkE, F_ti1]
        refine ge_iast (jn := 1) rfl (sRow_buyer s hb1 g_3) (sge2 hb1) lk1 (by decide) (fun i_13 => ?_)
        refine ge_run (pc' := 33) (L' := [.ref 1597, .ref b1, .ref (b1 + 16 + (ix (i_1 b1 9)))]) (S' := [.int (0 : Int32), .int (99 : Int32), .int (0 : Int32), .ref 42, .ref 1597, .int (2 : Int32), .ref (b1 + 16 + (ix (i_1 b1 9)))]) 7 rfl ?_
        refine ge_cv rfl rfl rfl (t1597 s) rfl rfl rfl (D := 7) (Nat.le_trans (by decide) hd) (c_Sx_takeNumberOf (n := n) (u := u) (t := t) (i := i_13) (r := r) s 42 (strAd 20) (0 : Int32) (99 : Int32) (0 : Int32)) ?_
        rintro ⟨v_14 | c_16, i_15⟩ -
        · dsimp only [bkE, F_ti1]
          refine ge_iast (jn := 2) rfl (sRow_buyer s hb1 g_3) (sge2 hb1) lk2 (by decide) (fun i_17 => ?_)
          refine ge_run (pc' := 42) (L' := [.ref 1597, .ref b1, .ref (b1 + 16 + (ix (i_1 b1 9)))]) (S' := [.int (50 : Int32), .int (100 : Int32), .int (0 : Int32), .ref 44, .ref 1597, .int (3 : Int32), .ref (b1 + 16 + (ix (i_1 b1 9)))]) 7 rfl ?_
          refine ge_cv rfl rfl rfl (t1597 s) rfl rfl rfl (D := 7) (Nat.le_trans (by decide) hd) (c_Sx_takeNumberOf (n := n) (u := u) (t := t) (i := i_17) (r := r) s 44 (strAd 21) (0 : Int32) (100 : Int32) (50 : Int32)) ?_
          rintro ⟨v_18 | c_20, i_19⟩ -
          · dsimp only [bkE, F_ti1]
            refine ge_iast (jn := 3) rfl (sRow_buyer s hb1 g_3) (sge2 hb1) lk3 (by decide) (fun i_21 => ?_)
            refine ge_run (pc' := 46) (L' := [.ref 1597, .ref b1, .ref (b1 + 16 + (ix (i_1 b1 9)))]) (S' := [.ref b1, .ref b1]) 2 rfl ?_
            refine ge_getI rfl (sT0 s hb1) rfl ?_
            refine ge_run (pc' := 49) (L' := [.ref 1597, .ref b1, .ref (b1 + 16 + (ix (i_1 b1 9)))]) (S' := [.int ((i_21 b1 9) + (1 : Int32)), .ref b1]) 2 rfl ?_
            refine ge_putI rfl (sT0 s hb1) (sge0 hb1) rfl (fun i_22 => ?_)
            exact ge_retv rfl rfl (And.intro rfl trivial)
          · exact ge_leaf (And.intro rfl trivial)
        · exact ge_leaf (And.intro rfl trivial)
      · exact ge_leaf (And.intro rfl trivial)
    · exact ge_leaf (And.intro rfl trivial)
  · exact ge_leaf (And.intro rfl trivial)
def f_Sx_takeOtherKind (t : MT) (i : MI) (x1 : Int32) : Option (Int32 × MI) :=
  itr (σ := Int32 × MI) (ρ := Int32 × MI) (fun (x2_1, i_2) => if x2_1 < (4 : Int32) then (if ((shr x1 x2_1) &&& (1 : Int32)) = 0 then ((f_Sx_kindWord x2_1).bind (fun v_5 => (f_Ta_takeWord t i_2 v_5).bind (fun (v_7, i_8) => if v_7 = 0 then (some (.inl ((x2_1 + (1 : Int32)), i_8))) else (some (.inr (((shl (1 : Int32) x2_1), i_8))))))) else (some (.inl ((x2_1 + (1 : Int32)), i_2)))) else (some (.inr (((0 : Int32), i_2))))) 1000000 ((0 : Int32), i)
set_option maxHeartbeats 4000000 in
theorem c_Sx_takeOtherKind {n u : Nat} {t : MT} {i : MI} {r : MR} (s : Sh n t r) (x1 : Int32) : Cn 7 92 [.ref 1597, .int x1] (n, u, t, i, r) (f_Sx_takeOtherKind t i x1) (F_i1 n u t r) PT := by
  refine cn_of (Y := K_Sx_takeOtherKind) (L0 := [.ref 1597, .int x1, uV]) rfl rfl rfl ?_
  intro d hd
  unfold f_Sx_takeOtherKind
  refine ge_run (pc' := 2) (L' := [.ref 1597, .int x1, .int (0 : Int32)]) (S' := []) 2 rfl ?_
  refine ge_itr (C := fun (q : Int32 × MI) e => e = .inl (2, [.ref 1597, .int x1, .int q.1], [], (n, u, t, q.2, r))) ?_ _ _ _ rfl
  rintro ⟨x2_1, i_2⟩ _ rfl
  try dsimp only
  refine ge_run (pc' := 4) (L' := [.ref 1597, .int x1, .int x2_1]) (S' := [.int (4 : Int32), .int x2_1]) 2 rfl ?_
  refine ge_ge rfl (fun h_3 => ?_) (fun h_12 => ?_)
  · refine ge_run (pc' := 10) (L' := [.ref 1597, .int x1, .int x2_1]) (S' := [.int ((shr x1 x2_1) &&& (1 : Int32))]) 5 rfl ?_
    refine ge_ne0 rfl (fun h_4 => ?_) (fun h_11 => ?_)
    · refine ge_run (pc' := 12) (L' := [.ref 1597, .int x1, .int x2_1]) (S' := [.ref 1597]) 1 rfl ?_
      refine ge_getR (b := 1595) rfl (t1597 s) rfl (r1597_0 s) (Nat.le_of_ble_eq_true rfl) ?_
      refine ge_run (pc' := 14) (L' := [.ref 1597, .int x1, .int x2_1]) (S' := [.int x2_1, .ref 1595]) 1 rfl ?_
      refine ge_cs rfl rfl rfl rfl rfl rfl (D := 1) (Nat.le_trans (by decide) hd) (c_Sx_kindWord (n := n) (u := u) (t := t) (i := i_2) (r := r) s x2_1) ?_
      rintro v_5 s_6
      dsimp only [bkE, F_a0]
      refine ge_cv rfl rfl rfl (t1595 s) rfl rfl rfl (D := 6) (Nat.le_trans (by decide) hd) (c_Ta_takeWord (n := n) (u := u) (t := t) (i := i_2) (r := r) s v_5 s_6) ?_
      rintro ⟨v_7, i_8⟩ -
      dsimp only [bkE, F_i1]
      refine ge_eq0 rfl (fun h_9 => ?_) (fun h_10 => ?_)
      · refine ge_run (pc' := 2) (L' := [.ref 1597, .int x1, .int (x2_1 + (1 : Int32))]) (S' := []) 2 rfl ?_
        exact ge_leaf (K := kX _ _) rfl
      · refine ge_run (pc' := 20) (L' := [.ref 1597, .int x1, .int x2_1]) (S' := [.int (shl (1 : Int32) x2_1)]) 3 rfl ?_
        exact ge_ret rfl rfl (And.intro rfl trivial)
    · refine ge_run (pc' := 2) (L' := [.ref 1597, .int x1, .int (x2_1 + (1 : Int32))]) (S' := []) 2 rfl ?_
      exact ge_leaf (K := kX _ _) rfl
  · refine ge_run (pc' := 24) (L' := [.ref 1597, .int x1, .int x2_1]) (S' := [.int (0 : Int32)]) 1 rfl ?_
    exact ge_ret rfl rfl (And.intro rfl trivial)
def f_Sx_readDead (t : MT) (i : MI) (b1 : Nat) : Option ((Unit ⊕ Nat) × MI) :=
  (f_Ta_step i).bind (fun i_1 => grd (i_1 b1 10) 6 ((f_Sx_needKindWord t i_1).bind (fun | (.inl v_4, i_5) => bnd (wr i_5 (b1 + 22 + (ix (i_1 b1 10))) 0 (shl (1 : Int32) v_4)) (fun i_7 => (itr (σ := Int32 × MI) (ρ := MI) (fun (x3_8, i_9) => if x3_8 < (4 : Int32) then ((f_Sx_takeOtherKind t i_9 (i_9 (b1 + 22 + (ix (i_1 b1 10))) 0)).bind (fun (v_13, i_14) => bnd (wr i_14 (b1 + 22 + (ix (i_1 b1 10))) 0 ((i_9 (b1 + 22 + (ix (i_1 b1 10))) 0) ||| v_13)) (fun i_15 => some (.inl ((x3_8 + (1 : Int32)), i_15))))) else (some (.inr i_9))) 1000000 ((1 : Int32), i_7)).bind (fun i_10 => (f_Ta_needWord t i_10 48).bind (fun | (.inl (), i_17) => (f_Ta_number i_17 (0 : Int32) (99 : Int32)).bind (fun | (.inl v_19, i_20) => bnd (wr i_20 (b1 + 22 + (ix (i_1 b1 10))) 1 v_19) (fun i_22 => bnd (wr i_22 b1 10 ((i_22 b1 10) + (1 : Int32))) (fun i_23 => some (.inl (), i_23))) | (.inr c_21, i_20) => some (.inr c_21, i_20)) | (.inr c_18, i_17) => some (.inr c_18, i_17)))) | (.inr c_6, i_5) => some (.inr c_6, i_5))))
set_option maxHeartbeats 4000000 in
theorem c_Sx_readDead {n u : Nat} {t : MT} {i : MI} {r : MR} (s : Sh n t r) (b1 : Nat) (hb1 : SeaAd b1) : Cn 8 91 [.ref 1597, .ref b1] (n, u, t, i, r) (f_Sx_readDead t i b1) (F_tv1 n u t r) PT := by
  refine cn_of (Y := K_Sx_readDead) (L0 := [.ref 1597, .ref b1, uV, uV]) rfl rfl rfl ?_
  intro d hd
  unfold f_Sx_readDead
  refine ge_run (pc' := 1) (L' := [.ref 1597, .ref b1, uV, uV]) (S' := [.ref 1597]) 1 rfl ?_
  refine ge_getR (b := 1595) rfl (t1597 s) rfl (r1597_0 s) (Nat.le_of_ble_eq_true rfl) ?_
  refine ge_cv rfl rfl rfl (t1595 s) rfl rfl rfl (D := 2) (Nat.le_trans (by decide) hd) (c_Ta_step (n := n) (u := u) (t := t) (i := i) (r := r) s ) ?_
  rintro i_1 -
  dsimp only [bkE, F_v1]
  refine ge_run (pc' := 4) (L' := [.ref 1597, .ref b1, uV, uV]) (S' := [.ref b1]) 1 rfl ?_
  refine ge_getR (b := (b1 + 21)) rfl (sT0 s hb1) rfl (sR4 s hb1) (sge hb1) ?_
  refine ge_run (pc' := 6) (L' := [.ref 1597, .ref b1, uV, uV]) (S' := [.ref b1, .ref (b1 + 21)]) 1 rfl ?_
  refine ge_getI rfl (sT0 s hb1) rfl ?_
  refine ge_grd (fun g_2 g_3 => ?_)
  refine ge_aald (jn := (ix (i_1 b1 10))) (b := (b1 + 22 + (ix (i_1 b1 10)))) rfl (sT21 s hb1) (Or.inl rfl) ⟨g_2, rfl⟩ g_3 (sRr_dead s hb1 g_3) (sge2 hb1) ?_
  refine ge_run (pc' := 13) (L' := [.ref 1597, .ref b1, .ref (b1 + 22 + (ix (i_1 b1 10))), uV]) (S' := [.ref 1597, .int (1 : Int32), .int (0 : Int32), .ref (b1 + 22 + (ix (i_1 b1 10)))]) 5 rfl ?_
  refine ge_cv rfl rfl rfl (t1597 s) rfl rfl rfl (D := 7) (Nat.le_trans (by decide) hd) (c_Sx_needKindWord (n := n) (u := u) (t := t) (i := i_1) (r := r) s ) ?_
  rintro ⟨v_4 | c_6, i_5⟩ -
  · dsimp only [bkE, F_ti1]
    refine ge_run (pc' := 15) (L' := [.ref 1597, .ref b1, .ref (b1 + 22 + (ix (i_1 b1 10))), uV]) (S' := [.int (shl (1 : Int32) v_4), .int (0 : Int32), .ref (b1 + 22 + (ix (i_1 b1 10)))]) 1 rfl ?_
    refine ge_iast (jn := 0) rfl (sRow_dead s hb1 g_3) (sge2 hb1) lk0 (by decide) (fun i_7 => ?_)
    refine ge_run (pc' := 18) (L' := [.ref 1597, .ref b1, .ref (b1 + 22 + (ix (i_1 b1 10))), .int (1 : Int32)]) (S' := []) 2 rfl ?_
    refine ge_bind (K1 := fun (q : MI) e => ∃ w_11 : Value, e = .inl (34, [.ref 1597, .ref b1, .ref (b1 + 22 + (ix (i_1 b1 10))), w_11], [], (n, u, t, q, r))) (ge_itr (C := fun (q : Int32 × MI) e => e = .inl (18, [.ref 1597, .ref b1, .ref (b1 + 22 + (ix (i_1 b1 10))), .int q.1], [], (n, u, t, q.2, r))) ?_ _ _ _ rfl) ?_
    · rintro ⟨x3_8, i_9⟩ _ rfl
      try dsimp only
      refine ge_run (pc' := 20) (L' := [.ref 1597, .ref b1, .ref (b1 + 22 + (ix (i_1 b1 10))), .int x3_8]) (S' := [.int (4 : Int32), .int x3_8]) 2 rfl ?_
      refine ge_ge rfl (fun h_12 => ?_) (fun h_16 => ?_)
      · refine ge_run (pc' := 24) (L' := [.ref 1597, .ref b1, .ref (b1 + 22 + (ix (i_1 b1 10))), .int x3_8]) (S' := [.int (0 : Int32), .ref (b1 + 22 + (ix (i_1 b1 10))), .int (0 : Int32), .ref (b1 + 22 + (ix (i_1 b1 10)))]) 3 rfl ?_
        refine ge_iald (jn := 0) rfl (sRow_dead s hb1 g_3) lk0 (by decide) ?_
        refine ge_run (pc' := 28) (L' := [.ref 1597, .ref b1, .ref (b1 + 22 + (ix (i_1 b1 10))), .int x3_8]) (S' := [.int (0 : Int32), .ref (b1 + 22 + (ix (i_1 b1 10))), .ref 1597, .int (i_9 (b1 + 22 + (ix (i_1 b1 10))) 0), .int (0 : Int32), .ref (b1 + 22 + (ix (i_1 b1 10)))]) 3 rfl ?_
        refine ge_iald (jn := 0) rfl (sRow_dead s hb1 g_3) lk0 (by decide) ?_
        refine ge_cv rfl rfl rfl (t1597 s) rfl rfl rfl (D := 7) (Nat.le_trans (by decide) hd) (c_Sx_takeOtherKind (n := n) (u := u) (t := t) (i := i_9) (r := r) s (i_9 (b1 + 22 + (ix (i_1 b1 10))) 0)) ?_
        rintro ⟨v_13, i_14⟩ -
        dsimp only [bkE, F_i1]
        refine ge_run (pc' := 31) (L' := [.ref 1597, .ref b1, .ref (b1 + 22 + (ix (i_1 b1 10))), .int x3_8]) (S' := [.int ((i_9 (b1 + 22 + (ix (i_1 b1 10))) 0) ||| v_13), .int (0 : Int32), .ref (b1 + 22 + (ix (i_1 b1 10)))]) 1 rfl ?_
        refine ge_iast (jn := 0) rfl (sRow_dead s hb1 g_3) (sge2 hb1) lk0 (by decide) (fun i_15 => ?_)
        refine ge_run (pc' := 18) (L' := [.ref 1597, .ref b1, .ref (b1 + 22 + (ix (i_1 b1 10))), .int (x3_8 + (1 : Int32))]) (S' := []) 2 rfl ?_
        exact ge_leaf (K := kX _ _) rfl
      · exact ge_leaf (K := kX _ _) (Exists.intro _ rfl)
    · rintro i_10 _ ⟨w_11, rfl⟩
      try dsimp only
      refine ge_run (pc' := 35) (L' := [.ref 1597, .ref b1, .ref (b1 + 22 + (ix (i_1 b1 10))), w_11]) (S' := [.ref 1597]) 1 rfl ?_
      refine ge_getR (b := 1595) rfl (t1597 s) rfl (r1597_0 s) (Nat.le_of_ble_eq_true rfl) ?_
      refine ge_run (pc' := 37) (L' := [.ref 1597, .ref b1, .ref (b1 + 22 + (ix (i_1 b1 10))), w_11]) (S' := [.ref 48, .ref 1595]) 1 rfl ?_
      refine ge_cv rfl rfl rfl (t1595 s) rfl rfl rfl (D := 7) (Nat.le_trans (by decide) hd) (c_Ta_needWord (n := n) (u := u) (t := t) (i := i_10) (r := r) s 48 (strAd 23)) ?_
      rintro ⟨⟨⟩ | c_18, i_17⟩ -
      · dsimp only [bkE, F_tv1]
        refine ge_run (pc' := 41) (L' := [.ref 1597, .ref b1, .ref (b1 + 22 + (ix (i_1 b1 10))), w_11]) (S' := [.ref 1597, .int (1 : Int32), .ref (b1 + 22 + (ix (i_1 b1 10)))]) 3 rfl ?_
        refine ge_getR (b := 1595) rfl (t1597 s) rfl (r1597_0 s) (Nat.le_of_ble_eq_true rfl) ?_
        refine ge_run (pc' := 44) (L' := [.ref 1597, .ref b1, .ref (b1 + 22 + (ix (i_1 b1 10))), w_11]) (S' := [.int (99 : Int32), .int (0 : Int32), .ref 1595, .int (1 : Int32), .ref (b1 + 22 + (ix (i_1 b1 10)))]) 2 rfl ?_
        refine ge_cv rfl rfl rfl (t1595 s) rfl rfl rfl (D := 3) (Nat.le_trans (by decide) hd) (c_Ta_number (n := n) (u := u) (t := t) (i := i_17) (r := r) s (0 : Int32) (99 : Int32)) ?_
        rintro ⟨v_19 | c_21, i_20⟩ -
        · dsimp only [bkE, F_ti1]
          refine ge_iast (jn := 1) rfl (sRow_dead s hb1 g_3) (sge2 hb1) lk1 (by decide) (fun i_22 => ?_)
          refine ge_run (pc' := 48) (L' := [.ref 1597, .ref b1, .ref (b1 + 22 + (ix (i_1 b1 10))), w_11]) (S' := [.ref b1, .ref b1]) 2 rfl ?_
          refine ge_getI rfl (sT0 s hb1) rfl ?_
          refine ge_run (pc' := 51) (L' := [.ref 1597, .ref b1, .ref (b1 + 22 + (ix (i_1 b1 10))), w_11]) (S' := [.int ((i_22 b1 10) + (1 : Int32)), .ref b1]) 2 rfl ?_
          refine ge_putI rfl (sT0 s hb1) (sge0 hb1) rfl (fun i_23 => ?_)
          exact ge_retv rfl rfl (And.intro rfl trivial)
        · exact ge_leaf (And.intro rfl trivial)
      · exact ge_leaf (And.intro rfl trivial)
  · exact ge_leaf (And.intro rfl trivial)
def f_Sx_readLine (t : MT) (i : MI) (b1 : Nat) : Option ((Unit ⊕ Nat) × MI) :=
  (f_Ta_isWord t i 4).bind (fun v_1 => if v_1 = 0 then ((f_Ta_isWord t i 16).bind (fun v_3 => if v_3 = 0 then ((f_Ta_isWord t i 32).bind (fun v_5 => if v_5 = 0 then ((f_Ta_isWord t i 38).bind (fun v_7 => if v_7 = 0 then ((f_Ta_isWord t i 46).bind (fun v_9 => if v_9 = 0 then ((f_Ta_takeWord t i 50).bind (fun (v_11, i_12) => if v_11 = 0 then ((f_Ta_takeWord t i_12 52).bind (fun (v_14, i_15) => if v_14 = 0 then ((f_Ta_refuse i_15).bind (fun | (.inl (), i_17) => some (.inl (), i_17) | (.inr c_18, i_17) => some (.inr c_18, i_17))) else ((f_Ta_number i_15 (0 : Int32) (999 : Int32)).bind (fun | (.inl v_20, i_21) => bnd (wr i_21 b1 14 v_20) (fun i_23 => some (.inl (), i_23)) | (.inr c_22, i_21) => some (.inr c_22, i_21))))) else ((f_Ta_number i_12 (0 : Int32) (999 : Int32)).bind (fun | (.inl v_25, i_26) => bnd (wr i_26 b1 12 v_25) (fun i_28 => some (.inl (), i_28)) | (.inr c_27, i_26) => some (.inr c_27, i_26))))) else (if (i b1 10) < (6 : Int32) then ((f_Sx_readDead t i b1).bind (fun | (.inl (), i_31) => some (.inl (), i_31) | (.inr c_32, i_31) => some (.inr c_32, i_31))) else ((f_Ta_takeWord t i 50).bind (fun (v_34, i_35) => if v_34 = 0 then ((f_Ta_takeWord t i_35 52).bind (fun (v_37, i_38) => if v_37 = 0 then ((f_Ta_refuse i_38).bind (fun | (.inl (), i_40) => some (.inl (), i_40) | (.inr c_41, i_40) => some (.inr c_41, i_40))) else ((f_Ta_number i_38 (0 : Int32) (999 : Int32)).bind (fun | (.inl v_43, i_44) => bnd (wr i_44 b1 14 v_43) (fun i_46 => some (.inl (), i_46)) | (.inr c_45, i_44) => some (.inr c_45, i_44))))) else ((f_Ta_number i_35 (0 : Int32) (999 : Int32)).bind (fun | (.inl v_48, i_49) => bnd (wr i_49 b1 12 v_48) (fun i_51 => some (.inl (), i_51)) | (.inr c_50, i_49) => some (.inr c_50, i_49)))))))) else (if (i b1 9) < (5 : Int32) then ((f_Sx_readBuyer t i b1).bind (fun | (.inl (), i_54) => some (.inl (), i_54) | (.inr c_55, i_54) => some (.inr c_55, i_54))) else ((f_Ta_isWord t i 46).bind (fun v_57 => if v_57 = 0 then ((f_Ta_takeWord t i 50).bind (fun (v_59, i_60) => if v_59 = 0 then ((f_Ta_takeWord t i_60 52).bind (fun (v_62, i_63) => if v_62 = 0 then ((f_Ta_refuse i_63).bind (fun | (.inl (), i_65) => some (.inl (), i_65) | (.inr c_66, i_65) => some (.inr c_66, i_65))) else ((f_Ta_number i_63 (0 : Int32) (999 : Int32)).bind (fun | (.inl v_68, i_69) => bnd (wr i_69 b1 14 v_68) (fun i_71 => some (.inl (), i_71)) | (.inr c_70, i_69) => some (.inr c_70, i_69))))) else ((f_Ta_number i_60 (0 : Int32) (999 : Int32)).bind (fun | (.inl v_73, i_74) => bnd (wr i_74 b1 12 v_73) (fun i_76 => some (.inl (), i_76)) | (.inr c_75, i_74) => some (.inr c_75, i_74))))) else (if (i b1 10) < (6 : Int32) then ((f_Sx_readDead t i b1).bind (fun | (.inl (), i_79) => some (.inl (), i_79) | (.inr c_80, i_79) => some (.inr c_80, i_79))) else ((f_Ta_takeWord t i 50).bind (fun (v_82, i_83) => if v_82 = 0 then ((f_Ta_takeWord t i_83 52).bind (fun (v_85, i_86) => if v_85 = 0 then ((f_Ta_refuse i_86).bind (fun | (.inl (), i_88) => some (.inl (), i_88) | (.inr c_89, i_88) => some (.inr c_89, i_88))) else ((f_Ta_number i_86 (0 : Int32) (999 : Int32)).bind (fun | (.inl v_91, i_92) => bnd (wr i_92 b1 14 v_91) (fun i_94 => some (.inl (), i_94)) | (.inr c_93, i_92) => some (.inr c_93, i_92))))) else ((f_Ta_number i_83 (0 : Int32) (999 : Int32)).bind (fun | (.inl v_96, i_97) => bnd (wr i_97 b1 12 v_96) (fun i_99 => some (.inl (), i_99)) | (.inr c_98, i_97) => some (.inr c_98, i_97))))))))))) else (if (i b1 8) < (3 : Int32) then ((f_Sx_readBoat t i b1).bind (fun | (.inl (), i_102) => some (.inl (), i_102) | (.inr c_103, i_102) => some (.inr c_103, i_102))) else ((f_Ta_isWord t i 38).bind (fun v_105 => if v_105 = 0 then ((f_Ta_isWord t i 46).bind (fun v_107 => if v_107 = 0 then ((f_Ta_takeWord t i 50).bind (fun (v_109, i_110) => if v_109 = 0 then ((f_Ta_takeWord t i_110 52).bind (fun (v_112, i_113) => if v_112 = 0 then ((f_Ta_refuse i_113).bind (fun | (.inl (), i_115) => some (.inl (), i_115) | (.inr c_116, i_115) => some (.inr c_116, i_115))) else ((f_Ta_number i_113 (0 : Int32) (999 : Int32)).bind (fun | (.inl v_118, i_119) => bnd (wr i_119 b1 14 v_118) (fun i_121 => some (.inl (), i_121)) | (.inr c_120, i_119) => some (.inr c_120, i_119))))) else ((f_Ta_number i_110 (0 : Int32) (999 : Int32)).bind (fun | (.inl v_123, i_124) => bnd (wr i_124 b1 12 v_123) (fun i_126 => some (.inl (), i_126)) | (.inr c_125, i_124) => some (.inr c_125, i_124))))) else (if (i b1 10) < (6 : Int32) then ((f_Sx_readDead t i b1).bind (fun | (.inl (), i_129) => some (.inl (), i_129) | (.inr c_130, i_129) => some (.inr c_130, i_129))) else ((f_Ta_takeWord t i 50).bind (fun (v_132, i_133) => if v_132 = 0 then ((f_Ta_takeWord t i_133 52).bind (fun (v_135, i_136) => if v_135 = 0 then ((f_Ta_refuse i_136).bind (fun | (.inl (), i_138) => some (.inl (), i_138) | (.inr c_139, i_138) => some (.inr c_139, i_138))) else ((f_Ta_number i_136 (0 : Int32) (999 : Int32)).bind (fun | (.inl v_141, i_142) => bnd (wr i_142 b1 14 v_141) (fun i_144 => some (.inl (), i_144)) | (.inr c_143, i_142) => some (.inr c_143, i_142))))) else ((f_Ta_number i_133 (0 : Int32) (999 : Int32)).bind (fun | (.inl v_146, i_147) => bnd (wr i_147 b1 12 v_146) (fun i_149 => some (.inl (), i_149)) | (.inr c_148, i_147) => some (.inr c_148, i_147)))))))) else (if (i b1 9) < (5 : Int32) then ((f_Sx_readBuyer t i b1).bind (fun | (.inl (), i_152) => some (.inl (), i_152) | (.inr c_153, i_152) => some (.inr c_153, i_152))) else ((f_Ta_isWord t i 46).bind (fun v_155 => if v_155 = 0 then ((f_Ta_takeWord t i 50).bind (fun (v_157, i_158) => if v_157 = 0 then ((f_Ta_takeWord t i_158 52).bind (fun (v_160, i_161) => if v_160 = 0 then ((f_Ta_refuse i_161).bind (fun | (.inl (), i_163) => some (.inl (), i_163) | (.inr c_164, i_163) => some (.inr c_164, i_163))) else ((f_Ta_number i_161 (0 : Int32) (999 : Int32)).bind (fun | (.inl v_166, i_167) => bnd (wr i_167 b1 14 v_166) (fun i_169 => some (.inl (), i_169)) | (.inr c_168, i_167) => some (.inr c_168, i_167))))) else ((f_Ta_number i_158 (0 : Int32) (999 : Int32)).bind (fun | (.inl v_171, i_172) => bnd (wr i_172 b1 12 v_171) (fun i_174 => some (.inl (), i_174)) | (.inr c_173, i_172) => some (.inr c_173, i_172))))) else (if (i b1 10) < (6 : Int32) then ((f_Sx_readDead t i b1).bind (fun | (.inl (), i_177) => some (.inl (), i_177) | (.inr c_178, i_177) => some (.inr c_178, i_177))) else ((f_Ta_takeWord t i 50).bind (fun (v_180, i_181) => if v_180 = 0 then ((f_Ta_takeWord t i_181 52).bind (fun (v_183, i_184) => if v_183 = 0 then ((f_Ta_refuse i_184).bind (fun | (.inl (), i_186) => some (.inl (), i_186) | (.inr c_187, i_186) => some (.inr c_187, i_186))) else ((f_Ta_number i_184 (0 : Int32) (999 : Int32)).bind (fun | (.inl v_189, i_190) => bnd (wr i_190 b1 14 v_189) (fun i_192 => some (.inl (), i_192)) | (.inr c_191, i_190) => some (.inr c_191, i_190))))) else ((f_Ta_number i_181 (0 : Int32) (999 : Int32)).bind (fun | (.inl v_194, i_195) => bnd (wr i_195 b1 12 v_194) (fun i_197 => some (.inl (), i_197)) | (.inr c_196, i_195) => some (.inr c_196, i_195)))))))))))))) else (if (i b1 7) < (8 : Int32) then ((f_Sx_readFish t i b1).bind (fun | (.inl (), i_200) => some (.inl (), i_200) | (.inr c_201, i_200) => some (.inr c_201, i_200))) else ((f_Ta_isWord t i 32).bind (fun v_203 => if v_203 = 0 then ((f_Ta_isWord t i 38).bind (fun v_205 => if v_205 = 0 then ((f_Ta_isWord t i 46).bind (fun v_207 => if v_207 = 0 then ((f_Ta_takeWord t i 50).bind (fun (v_209, i_210) => if v_209 = 0 then ((f_Ta_takeWord t i_210 52).bind (fun (v_212, i_213) => if v_212 = 0 then ((f_Ta_refuse i_213).bind (fun | (.inl (), i_215) => some (.inl (), i_215) | (.inr c_216, i_215) => some (.inr c_216, i_215))) else ((f_Ta_number i_213 (0 : Int32) (999 : Int32)).bind (fun | (.inl v_218, i_219) => bnd (wr i_219 b1 14 v_218) (fun i_221 => some (.inl (), i_221)) | (.inr c_220, i_219) => some (.inr c_220, i_219))))) else ((f_Ta_number i_210 (0 : Int32) (999 : Int32)).bind (fun | (.inl v_223, i_224) => bnd (wr i_224 b1 12 v_223) (fun i_226 => some (.inl (), i_226)) | (.inr c_225, i_224) => some (.inr c_225, i_224))))) else (if (i b1 10) < (6 : Int32) then ((f_Sx_readDead t i b1).bind (fun | (.inl (), i_229) => some (.inl (), i_229) | (.inr c_230, i_229) => some (.inr c_230, i_229))) else ((f_Ta_takeWord t i 50).bind (fun (v_232, i_233) => if v_232 = 0 then ((f_Ta_takeWord t i_233 52).bind (fun (v_235, i_236) => if v_235 = 0 then ((f_Ta_refuse i_236).bind (fun | (.inl (), i_238) => some (.inl (), i_238) | (.inr c_239, i_238) => some (.inr c_239, i_238))) else ((f_Ta_number i_236 (0 : Int32) (999 : Int32)).bind (fun | (.inl v_241, i_242) => bnd (wr i_242 b1 14 v_241) (fun i_244 => some (.inl (), i_244)) | (.inr c_243, i_242) => some (.inr c_243, i_242))))) else ((f_Ta_number i_233 (0 : Int32) (999 : Int32)).bind (fun | (.inl v_246, i_247) => bnd (wr i_247 b1 12 v_246) (fun i_249 => some (.inl (), i_249)) | (.inr c_248, i_247) => some (.inr c_248, i_247)))))))) else (if (i b1 9) < (5 : Int32) then ((f_Sx_readBuyer t i b1).bind (fun | (.inl (), i_252) => some (.inl (), i_252) | (.inr c_253, i_252) => some (.inr c_253, i_252))) else ((f_Ta_isWord t i 46).bind (fun v_255 => if v_255 = 0 then ((f_Ta_takeWord t i 50).bind (fun (v_257, i_258) => if v_257 = 0 then ((f_Ta_takeWord t i_258 52).bind (fun (v_260, i_261) => if v_260 = 0 then ((f_Ta_refuse i_261).bind (fun | (.inl (), i_263) => some (.inl (), i_263) | (.inr c_264, i_263) => some (.inr c_264, i_263))) else ((f_Ta_number i_261 (0 : Int32) (999 : Int32)).bind (fun | (.inl v_266, i_267) => bnd (wr i_267 b1 14 v_266) (fun i_269 => some (.inl (), i_269)) | (.inr c_268, i_267) => some (.inr c_268, i_267))))) else ((f_Ta_number i_258 (0 : Int32) (999 : Int32)).bind (fun | (.inl v_271, i_272) => bnd (wr i_272 b1 12 v_271) (fun i_274 => some (.inl (), i_274)) | (.inr c_273, i_272) => some (.inr c_273, i_272))))) else (if (i b1 10) < (6 : Int32) then ((f_Sx_readDead t i b1).bind (fun | (.inl (), i_277) => some (.inl (), i_277) | (.inr c_278, i_277) => some (.inr c_278, i_277))) else ((f_Ta_takeWord t i 50).bind (fun (v_280, i_281) => if v_280 = 0 then ((f_Ta_takeWord t i_281 52).bind (fun (v_283, i_284) => if v_283 = 0 then ((f_Ta_refuse i_284).bind (fun | (.inl (), i_286) => some (.inl (), i_286) | (.inr c_287, i_286) => some (.inr c_287, i_286))) else ((f_Ta_number i_284 (0 : Int32) (999 : Int32)).bind (fun | (.inl v_289, i_290) => bnd (wr i_290 b1 14 v_289) (fun i_292 => some (.inl (), i_292)) | (.inr c_291, i_290) => some (.inr c_291, i_290))))) else ((f_Ta_number i_281 (0 : Int32) (999 : Int32)).bind (fun | (.inl v_294, i_295) => bnd (wr i_295 b1 12 v_294) (fun i_297 => some (.inl (), i_297)) | (.inr c_296, i_295) => some (.inr c_296, i_295))))))))))) else (if (i b1 8) < (3 : Int32) then ((f_Sx_readBoat t i b1).bind (fun | (.inl (), i_300) => some (.inl (), i_300) | (.inr c_301, i_300) => some (.inr c_301, i_300))) else ((f_Ta_isWord t i 38).bind (fun v_303 => if v_303 = 0 then ((f_Ta_isWord t i 46).bind (fun v_305 => if v_305 = 0 then ((f_Ta_takeWord t i 50).bind (fun (v_307, i_308) => if v_307 = 0 then ((f_Ta_takeWord t i_308 52).bind (fun (v_310, i_311) => if v_310 = 0 then ((f_Ta_refuse i_311).bind (fun | (.inl (), i_313) => some (.inl (), i_313) | (.inr c_314, i_313) => some (.inr c_314, i_313))) else ((f_Ta_number i_311 (0 : Int32) (999 : Int32)).bind (fun | (.inl v_316, i_317) => bnd (wr i_317 b1 14 v_316) (fun i_319 => some (.inl (), i_319)) | (.inr c_318, i_317) => some (.inr c_318, i_317))))) else ((f_Ta_number i_308 (0 : Int32) (999 : Int32)).bind (fun | (.inl v_321, i_322) => bnd (wr i_322 b1 12 v_321) (fun i_324 => some (.inl (), i_324)) | (.inr c_323, i_322) => some (.inr c_323, i_322))))) else (if (i b1 10) < (6 : Int32) then ((f_Sx_readDead t i b1).bind (fun | (.inl (), i_327) => some (.inl (), i_327) | (.inr c_328, i_327) => some (.inr c_328, i_327))) else ((f_Ta_takeWord t i 50).bind (fun (v_330, i_331) => if v_330 = 0 then ((f_Ta_takeWord t i_331 52).bind (fun (v_333, i_334) => if v_333 = 0 then ((f_Ta_refuse i_334).bind (fun | (.inl (), i_336) => some (.inl (), i_336) | (.inr c_337, i_336) => some (.inr c_337, i_336))) else ((f_Ta_number i_334 (0 : Int32) (999 : Int32)).bind (fun | (.inl v_339, i_340) => bnd (wr i_340 b1 14 v_339) (fun i_342 => some (.inl (), i_342)) | (.inr c_341, i_340) => some (.inr c_341, i_340))))) else ((f_Ta_number i_331 (0 : Int32) (999 : Int32)).bind (fun | (.inl v_344, i_345) => bnd (wr i_345 b1 12 v_344) (fun i_347 => some (.inl (), i_347)) | (.inr c_346, i_345) => some (.inr c_346, i_345)))))))) else (if (i b1 9) < (5 : Int32) then ((f_Sx_readBuyer t i b1).bind (fun | (.inl (), i_350) => some (.inl (), i_350) | (.inr c_351, i_350) => some (.inr c_351, i_350))) else ((f_Ta_isWord t i 46).bind (fun v_353 => if v_353 = 0 then ((f_Ta_takeWord t i 50).bind (fun (v_355, i_356) => if v_355 = 0 then ((f_Ta_takeWord t i_356 52).bind (fun (v_358, i_359) => if v_358 = 0 then ((f_Ta_refuse i_359).bind (fun | (.inl (), i_361) => some (.inl (), i_361) | (.inr c_362, i_361) => some (.inr c_362, i_361))) else ((f_Ta_number i_359 (0 : Int32) (999 : Int32)).bind (fun | (.inl v_364, i_365) => bnd (wr i_365 b1 14 v_364) (fun i_367 => some (.inl (), i_367)) | (.inr c_366, i_365) => some (.inr c_366, i_365))))) else ((f_Ta_number i_356 (0 : Int32) (999 : Int32)).bind (fun | (.inl v_369, i_370) => bnd (wr i_370 b1 12 v_369) (fun i_372 => some (.inl (), i_372)) | (.inr c_371, i_370) => some (.inr c_371, i_370))))) else (if (i b1 10) < (6 : Int32) then ((f_Sx_readDead t i b1).bind (fun | (.inl (), i_375) => some (.inl (), i_375) | (.inr c_376, i_375) => some (.inr c_376, i_375))) else ((f_Ta_takeWord t i 50).bind (fun (v_378, i_379) => if v_378 = 0 then ((f_Ta_takeWord t i_379 52).bind (fun (v_381, i_382) => if v_381 = 0 then ((f_Ta_refuse i_382).bind (fun | (.inl (), i_384) => some (.inl (), i_384) | (.inr c_385, i_384) => some (.inr c_385, i_384))) else ((f_Ta_number i_382 (0 : Int32) (999 : Int32)).bind (fun | (.inl v_387, i_388) => bnd (wr i_388 b1 14 v_387) (fun i_390 => some (.inl (), i_390)) | (.inr c_389, i_388) => some (.inr c_389, i_388))))) else ((f_Ta_number i_379 (0 : Int32) (999 : Int32)).bind (fun | (.inl v_392, i_393) => bnd (wr i_393 b1 12 v_392) (fun i_395 => some (.inl (), i_395)) | (.inr c_394, i_393) => some (.inr c_394, i_393))))))))))))))))) else ((f_Sx_readCurrent t i b1).bind (fun | (.inl (), i_397) => some (.inl (), i_397) | (.inr c_398, i_397) => some (.inr c_398, i_397))))
set_option maxHeartbeats 4000000 in
theorem c_Sx_readLine {n u : Nat} {t : MT} {i : MI} {r : MR} (s : Sh n t r) (b1 : Nat) (hb1 : SeaAd b1) : Cn 9 81 [.ref 1597, .ref b1] (n, u, t, i, r) (f_Sx_readLine t i b1) (F_tv1 n u t r) PT := by
  refine cn_of (Y := K_Sx_readLine) (L0 := [.ref 1597, .ref b1]) rfl rfl rfl ?_
  intro d hd
  unfold f_Sx_readLine
  refine ge_run (pc' := 1) (L' := [.ref 1597, .ref b1]) (S' := [.ref 1597]) 1 rfl ?_
  refine ge_getR (b := 1595) rfl (t1597 s) rfl (r1597_0 s) (Nat.le_of_ble_eq_true rfl) ?_
  refine ge_run (pc' := 3) (L' := [.ref 1597, .ref b1]) (S' := [.ref 4, .ref 1595]) 1 rfl ?_
  refine ge_cv rfl rfl rfl (t1595 s) rfl rfl rfl (D := 5) (Nat.le_trans (by decide) hd) (c_Ta_isWord (n := n) (u := u) (t := t) (i := i) (r := r) s 4 (strAd 1)) ?_
  rintro v_1 -
  dsimp only [bkE, F_i0]
  refine ge_eq0 rfl (fun h_2 => ?_) (fun h_396 => ?_)
  · refine ge_run (pc' := 10) (L' := [.ref 1597, .ref b1]) (S' := [.ref 1597]) 1 rfl ?_
    refine ge_getR (b := 1595) rfl (t1597 s) rfl (r1597_0 s) (Nat.le_of_ble_eq_true rfl) ?_
    refine ge_run (pc' := 12) (L' := [.ref 1597, .ref b1]) (S' := [.ref 16, .ref 1595]) 1 rfl ?_
    refine ge_cv rfl rfl rfl (t1595 s) rfl rfl rfl (D := 5) (Nat.le_trans (by decide) hd) (c_Ta_isWord (n := n) (u := u) (t := t) (i := i) (r := r) s 16 (strAd 7)) ?_
    rintro v_3 -
    dsimp only [bkE, F_i0]
    refine ge_eq0 rfl (fun h_4 => ?_) (fun h_198 => ?_)
    · refine ge_run (pc' := 23) (L' := [.ref 1597, .ref b1]) (S' := [.ref 1597]) 1 rfl ?_
      refine ge_getR (b := 1595) rfl (t1597 s) rfl (r1597_0 s) (Nat.le_of_ble_eq_true rfl) ?_
      refine ge_run (pc' := 25) (L' := [.ref 1597, .ref b1]) (S' := [.ref 32, .ref 1595]) 1 rfl ?_
      refine ge_cv rfl rfl rfl (t1595 s) rfl rfl rfl (D := 5) (Nat.le_trans (by decide) hd) (c_Ta_isWord (n := n) (u := u) (t := t) (i := i) (r := r) s 32 (strAd 15)) ?_
      rintro v_5 -
      dsimp only [bkE, F_i0]
      refine ge_eq0 rfl (fun h_6 => ?_) (fun h_100 => ?_)
      · refine ge_run (pc' := 36) (L' := [.ref 1597, .ref b1]) (S' := [.ref 1597]) 1 rfl ?_
        refine ge_getR (b := 1595) rfl (t1597 s) rfl (r1597_0 s) (Nat.le_of_ble_eq_true rfl) ?_
        refine ge_run (pc' := 38) (L' := [.ref 1597, .ref b1]) (S' := [.ref 38, .ref 1595]) 1 rfl ?_
        refine ge_cv rfl rfl rfl (t1595 s) rfl rfl rfl (D := 5) (Nat.le_trans (by decide) hd) (c_Ta_isWord (n := n) (u := u) (t := t) (i := i) (r := r) s 38 (strAd 18)) ?_
        rintro v_7 -
        dsimp only [bkE, F_i0]
        refine ge_eq0 rfl (fun h_8 => ?_) (fun h_52 => ?_)
        · refine ge_run (pc' := 49) (L' := [.ref 1597, .ref b1]) (S' := [.ref 1597]) 1 rfl ?_
          refine ge_getR (b := 1595) rfl (t1597 s) rfl (r1597_0 s) (Nat.le_of_ble_eq_true rfl) ?_
          refine ge_run (pc' := 51) (L' := [.ref 1597, .ref b1]) (S' := [.ref 46, .ref 1595]) 1 rfl ?_
          refine ge_cv rfl rfl rfl (t1595 s) rfl rfl rfl (D := 5) (Nat.le_trans (by decide) hd) (c_Ta_isWord (n := n) (u := u) (t := t) (i := i) (r := r) s 46 (strAd 22)) ?_
          rintro v_9 -
          dsimp only [bkE, F_i0]
          refine ge_eq0 rfl (fun h_10 => ?_) (fun h_29 => ?_)
          · refine ge_run (pc' := 62) (L' := [.ref 1597, .ref b1]) (S' := [.ref 1597]) 1 rfl ?_
            refine ge_getR (b := 1595) rfl (t1597 s) rfl (r1597_0 s) (Nat.le_of_ble_eq_true rfl) ?_
            refine ge_run (pc' := 64) (L' := [.ref 1597, .ref b1]) (S' := [.ref 50, .ref 1595]) 1 rfl ?_
            refine ge_cv rfl rfl rfl (t1595 s) rfl rfl rfl (D := 6) (Nat.le_trans (by decide) hd) (c_Ta_takeWord (n := n) (u := u) (t := t) (i := i) (r := r) s 50 (strAd 24)) ?_
            rintro ⟨v_11, i_12⟩ -
            dsimp only [bkE, F_i1]
            refine ge_eq0 rfl (fun h_13 => ?_) (fun h_24 => ?_)
            · refine ge_run (pc' := 75) (L' := [.ref 1597, .ref b1]) (S' := [.ref 1597]) 1 rfl ?_
              refine ge_getR (b := 1595) rfl (t1597 s) rfl (r1597_0 s) (Nat.le_of_ble_eq_true rfl) ?_
              refine ge_run (pc' := 77) (L' := [.ref 1597, .ref b1]) (S' := [.ref 52, .ref 1595]) 1 rfl ?_
              refine ge_cv rfl rfl rfl (t1595 s) rfl rfl rfl (D := 6) (Nat.le_trans (by decide) hd) (c_Ta_takeWord (n := n) (u := u) (t := t) (i := i_12) (r := r) s 52 (strAd 25)) ?_
              rintro ⟨v_14, i_15⟩ -
              dsimp only [bkE, F_i1]
              refine ge_eq0 rfl (fun h_16 => ?_) (fun h_19 => ?_)
              · refine ge_run (pc' := 88) (L' := [.ref 1597, .ref b1]) (S' := [.ref 1597]) 1 rfl ?_
                refine ge_getR (b := 1595) rfl (t1597 s) rfl (r1597_0 s) (Nat.le_of_ble_eq_true rfl) ?_
                refine ge_cv rfl rfl rfl (t1595 s) rfl rfl rfl (D := 1) (Nat.le_trans (by decide) hd) (c_Ta_refuse (n := n) (u := u) (t := t) (i := i_15) (r := r) s ) ?_
                rintro ⟨⟨⟩ | c_18, i_17⟩ -
                · dsimp only [bkE, F_tv1]
                  exact ge_retv rfl rfl (And.intro rfl trivial)
                · exact ge_leaf (And.intro rfl trivial)
              · refine ge_run (pc' := 81) (L' := [.ref 1597, .ref b1]) (S' := [.ref 1597, .ref b1]) 2 rfl ?_
                refine ge_getR (b := 1595) rfl (t1597 s) rfl (r1597_0 s) (Nat.le_of_ble_eq_true rfl) ?_
                refine ge_run (pc' := 84) (L' := [.ref 1597, .ref b1]) (S' := [.int (999 : Int32), .int (0 : Int32), .ref 1595, .ref b1]) 2 rfl ?_
                refine ge_cv rfl rfl rfl (t1595 s) rfl rfl rfl (D := 3) (Nat.le_trans (by decide) hd) (c_Ta_number (n := n) (u := u) (t := t) (i := i_15) (r := r) s (0 : Int32) (999 : Int32)) ?_
                rintro ⟨v_20 | c_22, i_21⟩ -
                · dsimp only [bkE, F_ti1]
                  refine ge_putI rfl (sT0 s hb1) (sge0 hb1) rfl (fun i_23 => ?_)
                  refine ge_run (pc' := 90) (L' := [.ref 1597, .ref b1]) (S' := []) 1 rfl ?_
                  exact ge_retv rfl rfl (And.intro rfl trivial)
                · exact ge_leaf (And.intro rfl trivial)
            · refine ge_run (pc' := 68) (L' := [.ref 1597, .ref b1]) (S' := [.ref 1597, .ref b1]) 2 rfl ?_
              refine ge_getR (b := 1595) rfl (t1597 s) rfl (r1597_0 s) (Nat.le_of_ble_eq_true rfl) ?_
              refine ge_run (pc' := 71) (L' := [.ref 1597, .ref b1]) (S' := [.int (999 : Int32), .int (0 : Int32), .ref 1595, .ref b1]) 2 rfl ?_
              refine ge_cv rfl rfl rfl (t1595 s) rfl rfl rfl (D := 3) (Nat.le_trans (by decide) hd) (c_Ta_number (n := n) (u := u) (t := t) (i := i_12) (r := r) s (0 : Int32) (999 : Int32)) ?_
              rintro ⟨v_25 | c_27, i_26⟩ -
              · dsimp only [bkE, F_ti1]
                refine ge_putI rfl (sT0 s hb1) (sge0 hb1) rfl (fun i_28 => ?_)
                refine ge_run (pc' := 90) (L' := [.ref 1597, .ref b1]) (S' := []) 1 rfl ?_
                exact ge_retv rfl rfl (And.intro rfl trivial)
              · exact ge_leaf (And.intro rfl trivial)
          · refine ge_run (pc' := 54) (L' := [.ref 1597, .ref b1]) (S' := [.ref b1]) 1 rfl ?_
            refine ge_getI rfl (sT0 s hb1) rfl ?_
            refine ge_run (pc' := 56) (L' := [.ref 1597, .ref b1]) (S' := [.int (6 : Int32), .int (i b1 10)]) 1 rfl ?_
            refine ge_ge rfl (fun h_30 => ?_) (fun h_33 => ?_)
            · refine ge_run (pc' := 59) (L' := [.ref 1597, .ref b1]) (S' := [.ref b1, .ref 1597]) 2 rfl ?_
              refine ge_cv rfl rfl rfl (t1597 s) rfl rfl rfl (D := 8) (Nat.le_trans (by decide) hd) (c_Sx_readDead (n := n) (u := u) (t := t) (i := i) (r := r) s b1 hb1) ?_
              rintro ⟨⟨⟩ | c_32, i_31⟩ -
              · dsimp only [bkE, F_tv1]
                refine ge_run (pc' := 90) (L' := [.ref 1597, .ref b1]) (S' := []) 1 rfl ?_
                exact ge_retv rfl rfl (And.intro rfl trivial)
              · exact ge_leaf (And.intro rfl trivial)
            · refine ge_run (pc' := 62) (L' := [.ref 1597, .ref b1]) (S' := [.ref 1597]) 1 rfl ?_
              refine ge_getR (b := 1595) rfl (t1597 s) rfl (r1597_0 s) (Nat.le_of_ble_eq_true rfl) ?_
              refine ge_run (pc' := 64) (L' := [.ref 1597, .ref b1]) (S' := [.ref 50, .ref 1595]) 1 rfl ?_
              refine ge_cv rfl rfl rfl (t1595 s) rfl rfl rfl (D := 6) (Nat.le_trans (by decide) hd) (c_Ta_takeWord (n := n) (u := u) (t := t) (i := i) (r := r) s 50 (strAd 24)) ?_
              rintro ⟨v_34, i_35⟩ -
              dsimp only [bkE, F_i1]
              refine ge_eq0 rfl (fun h_36 => ?_) (fun h_47 => ?_)
              · refine ge_run (pc' := 75) (L' := [.ref 1597, .ref b1]) (S' := [.ref 1597]) 1 rfl ?_
                refine ge_getR (b := 1595) rfl (t1597 s) rfl (r1597_0 s) (Nat.le_of_ble_eq_true rfl) ?_
                refine ge_run (pc' := 77) (L' := [.ref 1597, .ref b1]) (S' := [.ref 52, .ref 1595]) 1 rfl ?_
                refine ge_cv rfl rfl rfl (t1595 s) rfl rfl rfl (D := 6) (Nat.le_trans (by decide) hd) (c_Ta_takeWord (n := n) (u := u) (t := t) (i := i_35) (r := r) s 52 (strAd 25)) ?_
                rintro ⟨v_37, i_38⟩ -
                dsimp only [bkE, F_i1]
                refine ge_eq0 rfl (fun h_39 => ?_) (fun h_42 => ?_)
                · refine ge_run (pc' := 88) (L' := [.ref 1597, .ref b1]) (S' := [.ref 1597]) 1 rfl ?_
                  refine ge_getR (b := 1595) rfl (t1597 s) rfl (r1597_0 s) (Nat.le_of_ble_eq_true rfl) ?_
                  refine ge_cv rfl rfl rfl (t1595 s) rfl rfl rfl (D := 1) (Nat.le_trans (by decide) hd) (c_Ta_refuse (n := n) (u := u) (t := t) (i := i_38) (r := r) s ) ?_
                  rintro ⟨⟨⟩ | c_41, i_40⟩ -
                  · dsimp only [bkE, F_tv1]
                    exact ge_retv rfl rfl (And.intro rfl trivial)
                  · exact ge_leaf (And.intro rfl trivial)
                · refine ge_run (pc' := 81) (L' := [.ref 1597, .ref b1]) (S' := [.ref 1597, .ref b1]) 2 rfl ?_
                  refine ge_getR (b := 1595) rfl (t1597 s) rfl (r1597_0 s) (Nat.le_of_ble_eq_true rfl) ?_
                  refine ge_run (pc' := 84) (L' := [.ref 1597, .ref b1]) (S' := [.int (999 : Int32), .int (0 : Int32), .ref 1595, .ref b1]) 2 rfl ?_
                  refine ge_cv rfl rfl rfl (t1595 s) rfl rfl rfl (D := 3) (Nat.le_trans (by decide) hd) (c_Ta_number (n := n) (u := u) (t := t) (i := i_38) (r := r) s (0 : Int32) (999 : Int32)) ?_
                  rintro ⟨v_43 | c_45, i_44⟩ -
                  · dsimp only [bkE, F_ti1]
                    refine ge_putI rfl (sT0 s hb1) (sge0 hb1) rfl (fun i_46 => ?_)
                    refine ge_run (pc' := 90) (L' := [.ref 1597, .ref b1]) (S' := []) 1 rfl ?_
                    exact ge_retv rfl rfl (And.intro rfl trivial)
                  · exact ge_leaf (And.intro rfl trivial)
              · refine ge_run (pc' := 68) (L' := [.ref 1597, .ref b1]) (S' := [.ref 1597, .ref b1]) 2 rfl ?_
                refine ge_getR (b := 1595) rfl (t1597 s) rfl (r1597_0 s) (Nat.le_of_ble_eq_true rfl) ?_
                refine ge_run (pc' := 71) (L' := [.ref 1597, .ref b1]) (S' := [.int (999 : Int32), .int (0 : Int32), .ref 1595, .ref b1]) 2 rfl ?_
                refine ge_cv rfl rfl rfl (t1595 s) rfl rfl rfl (D := 3) (Nat.le_trans (by decide) hd) (c_Ta_number (n := n) (u := u) (t := t) (i := i_35) (r := r) s (0 : Int32) (999 : Int32)) ?_
                rintro ⟨v_48 | c_50, i_49⟩ -
                · dsimp only [bkE, F_ti1]
                  refine ge_putI rfl (sT0 s hb1) (sge0 hb1) rfl (fun i_51 => ?_)
                  refine ge_run (pc' := 90) (L' := [.ref 1597, .ref b1]) (S' := []) 1 rfl ?_
                  exact ge_retv rfl rfl (And.intro rfl trivial)
                · exact ge_leaf (And.intro rfl trivial)
        · refine ge_run (pc' := 41) (L' := [.ref 1597, .ref b1]) (S' := [.ref b1]) 1 rfl ?_
          refine ge_getI rfl (sT0 s hb1) rfl ?_
          refine ge_run (pc' := 43) (L' := [.ref 1597, .ref b1]) (S' := [.int (5 : Int32), .int (i b1 9)]) 1 rfl ?_
          refine ge_ge rfl (fun h_53 => ?_) (fun h_56 => ?_)
          · refine ge_run (pc' := 46) (L' := [.ref 1597, .ref b1]) (S' := [.ref b1, .ref 1597]) 2 rfl ?_
            refine ge_cv rfl rfl rfl (t1597 s) rfl rfl rfl (D := 8) (Nat.le_trans (by decide) hd) (c_Sx_readBuyer (n := n) (u := u) (t := t) (i := i) (r := r) s b1 hb1) ?_
            rintro ⟨⟨⟩ | c_55, i_54⟩ -
            · dsimp only [bkE, F_tv1]
              refine ge_run (pc' := 90) (L' := [.ref 1597, .ref b1]) (S' := []) 1 rfl ?_
              exact ge_retv rfl rfl (And.intro rfl trivial)
            · exact ge_leaf (And.intro rfl trivial)
          · refine ge_run (pc' := 49) (L' := [.ref 1597, .ref b1]) (S' := [.ref 1597]) 1 rfl ?_
            refine ge_getR (b := 1595) rfl (t1597 s) rfl (r1597_0 s) (Nat.le_of_ble_eq_true rfl) ?_
            refine ge_run (pc' := 51) (L' := [.ref 1597, .ref b1]) (S' := [.ref 46, .ref 1595]) 1 rfl ?_
            refine ge_cv rfl rfl rfl (t1595 s) rfl rfl rfl (D := 5) (Nat.le_trans (by decide) hd) (c_Ta_isWord (n := n) (u := u) (t := t) (i := i) (r := r) s 46 (strAd 22)) ?_
            rintro v_57 -
            dsimp only [bkE, F_i0]
            refine ge_eq0 rfl (fun h_58 => ?_) (fun h_77 => ?_)
            · refine ge_run (pc' := 62) (L' := [.ref 1597, .ref b1]) (S' := [.ref 1597]) 1 rfl ?_
              refine ge_getR (b := 1595) rfl (t1597 s) rfl (r1597_0 s) (Nat.le_of_ble_eq_true rfl) ?_
              refine ge_run (pc' := 64) (L' := [.ref 1597, .ref b1]) (S' := [.ref 50, .ref 1595]) 1 rfl ?_
              refine ge_cv rfl rfl rfl (t1595 s) rfl rfl rfl (D := 6) (Nat.le_trans (by decide) hd) (c_Ta_takeWord (n := n) (u := u) (t := t) (i := i) (r := r) s 50 (strAd 24)) ?_
              rintro ⟨v_59, i_60⟩ -
              dsimp only [bkE, F_i1]
              refine ge_eq0 rfl (fun h_61 => ?_) (fun h_72 => ?_)
              · refine ge_run (pc' := 75) (L' := [.ref 1597, .ref b1]) (S' := [.ref 1597]) 1 rfl ?_
                refine ge_getR (b := 1595) rfl (t1597 s) rfl (r1597_0 s) (Nat.le_of_ble_eq_true rfl) ?_
                refine ge_run (pc' := 77) (L' := [.ref 1597, .ref b1]) (S' := [.ref 52, .ref 1595]) 1 rfl ?_
                refine ge_cv rfl rfl rfl (t1595 s) rfl rfl rfl (D := 6) (Nat.le_trans (by decide) hd) (c_Ta_takeWord (n := n) (u := u) (t := t) (i := i_60) (r := r) s 52 (strAd 25)) ?_
                rintro ⟨v_62, i_63⟩ -
                dsimp only [bkE, F_i1]
                refine ge_eq0 rfl (fun h_64 => ?_) (fun h_67 => ?_)
                · refine ge_run (pc' := 88) (L' := [.ref 1597, .ref b1]) (S' := [.ref 1597]) 1 rfl ?_
                  refine ge_getR (b := 1595) rfl (t1597 s) rfl (r1597_0 s) (Nat.le_of_ble_eq_true rfl) ?_
                  refine ge_cv rfl rfl rfl (t1595 s) rfl rfl rfl (D := 1) (Nat.le_trans (by decide) hd) (c_Ta_refuse (n := n) (u := u) (t := t) (i := i_63) (r := r) s ) ?_
                  rintro ⟨⟨⟩ | c_66, i_65⟩ -
                  · dsimp only [bkE, F_tv1]
                    exact ge_retv rfl rfl (And.intro rfl trivial)
                  · exact ge_leaf (And.intro rfl trivial)
                · refine ge_run (pc' := 81) (L' := [.ref 1597, .ref b1]) (S' := [.ref 1597, .ref b1]) 2 rfl ?_
                  refine ge_getR (b := 1595) rfl (t1597 s) rfl (r1597_0 s) (Nat.le_of_ble_eq_true rfl) ?_
                  refine ge_run (pc' := 84) (L' := [.ref 1597, .ref b1]) (S' := [.int (999 : Int32), .int (0 : Int32), .ref 1595, .ref b1]) 2 rfl ?_
                  refine ge_cv rfl rfl rfl (t1595 s) rfl rfl rfl (D := 3) (Nat.le_trans (by decide) hd) (c_Ta_number (n := n) (u := u) (t := t) (i := i_63) (r := r) s (0 : Int32) (999 : Int32)) ?_
                  rintro ⟨v_68 | c_70, i_69⟩ -
                  · dsimp only [bkE, F_ti1]
                    refine ge_putI rfl (sT0 s hb1) (sge0 hb1) rfl (fun i_71 => ?_)
                    refine ge_run (pc' := 90) (L' := [.ref 1597, .ref b1]) (S' := []) 1 rfl ?_
                    exact ge_retv rfl rfl (And.intro rfl trivial)
                  · exact ge_leaf (And.intro rfl trivial)
              · refine ge_run (pc' := 68) (L' := [.ref 1597, .ref b1]) (S' := [.ref 1597, .ref b1]) 2 rfl ?_
                refine ge_getR (b := 1595) rfl (t1597 s) rfl (r1597_0 s) (Nat.le_of_ble_eq_true rfl) ?_
                refine ge_run (pc' := 71) (L' := [.ref 1597, .ref b1]) (S' := [.int (999 : Int32), .int (0 : Int32), .ref 1595, .ref b1]) 2 rfl ?_
                refine ge_cv rfl rfl rfl (t1595 s) rfl rfl rfl (D := 3) (Nat.le_trans (by decide) hd) (c_Ta_number (n := n) (u := u) (t := t) (i := i_60) (r := r) s (0 : Int32) (999 : Int32)) ?_
                rintro ⟨v_73 | c_75, i_74⟩ -
                · dsimp only [bkE, F_ti1]
                  refine ge_putI rfl (sT0 s hb1) (sge0 hb1) rfl (fun i_76 => ?_)
                  refine ge_run (pc' := 90) (L' := [.ref 1597, .ref b1]) (S' := []) 1 rfl ?_
                  exact ge_retv rfl rfl (And.intro rfl trivial)
                · exact ge_leaf (And.intro rfl trivial)
            · refine ge_run (pc' := 54) (L' := [.ref 1597, .ref b1]) (S' := [.ref b1]) 1 rfl ?_
              refine ge_getI rfl (sT0 s hb1) rfl ?_
              refine ge_run (pc' := 56) (L' := [.ref 1597, .ref b1]) (S' := [.int (6 : Int32), .int (i b1 10)]) 1 rfl ?_
              refine ge_ge rfl (fun h_78 => ?_) (fun h_81 => ?_)
              · refine ge_run (pc' := 59) (L' := [.ref 1597, .ref b1]) (S' := [.ref b1, .ref 1597]) 2 rfl ?_
                refine ge_cv rfl rfl rfl (t1597 s) rfl rfl rfl (D := 8) (Nat.le_trans (by decide) hd) (c_Sx_readDead (n := n) (u := u) (t := t) (i := i) (r := r) s b1 hb1) ?_
                rintro ⟨⟨⟩ | c_80, i_79⟩ -
                · dsimp only [bkE, F_tv1]
                  refine ge_run (pc' := 90) (L' := [.ref 1597, .ref b1]) (S' := []) 1 rfl ?_
                  exact ge_retv rfl rfl (And.intro rfl trivial)
                · exact ge_leaf (And.intro rfl trivial)
              · refine ge_run (pc' := 62) (L' := [.ref 1597, .ref b1]) (S' := [.ref 1597]) 1 rfl ?_
                refine ge_getR (b := 1595) rfl (t1597 s) rfl (r1597_0 s) (Nat.le_of_ble_eq_true rfl) ?_
                refine ge_run (pc' := 64) (L' := [.ref 1597, .ref b1]) (S' := [.ref 50, .ref 1595]) 1 rfl ?_
                refine ge_cv rfl rfl rfl (t1595 s) rfl rfl rfl (D := 6) (Nat.le_trans (by decide) hd) (c_Ta_takeWord (n := n) (u := u) (t := t) (i := i) (r := r) s 50 (strAd 24)) ?_
                rintro ⟨v_82, i_83⟩ -
                dsimp only [bkE, F_i1]
                refine ge_eq0 rfl (fun h_84 => ?_) (fun h_95 => ?_)
                · refine ge_run (pc' := 75) (L' := [.ref 1597, .ref b1]) (S' := [.ref 1597]) 1 rfl ?_
                  refine ge_getR (b := 1595) rfl (t1597 s) rfl (r1597_0 s) (Nat.le_of_ble_eq_true rfl) ?_
                  refine ge_run (pc' := 77) (L' := [.ref 1597, .ref b1]) (S' := [.ref 52, .ref 1595]) 1 rfl ?_
                  refine ge_cv rfl rfl rfl (t1595 s) rfl rfl rfl (D := 6) (Nat.le_trans (by decide) hd) (c_Ta_takeWord (n := n) (u := u) (t := t) (i := i_83) (r := r) s 52 (strAd 25)) ?_
                  rintro ⟨v_85, i_86⟩ -
                  dsimp only [bkE, F_i1]
                  refine ge_eq0 rfl (fun h_87 => ?_) (fun h_90 => ?_)
                  · refine ge_run (pc' := 88) (L' := [.ref 1597, .ref b1]) (S' := [.ref 1597]) 1 rfl ?_
                    refine ge_getR (b := 1595) rfl (t1597 s) rfl (r1597_0 s) (Nat.le_of_ble_eq_true rfl) ?_
                    refine ge_cv rfl rfl rfl (t1595 s) rfl rfl rfl (D := 1) (Nat.le_trans (by decide) hd) (c_Ta_refuse (n := n) (u := u) (t := t) (i := i_86) (r := r) s ) ?_
                    rintro ⟨⟨⟩ | c_89, i_88⟩ -
                    · dsimp only [bkE, F_tv1]
                      exact ge_retv rfl rfl (And.intro rfl trivial)
                    · exact ge_leaf (And.intro rfl trivial)
                  · refine ge_run (pc' := 81) (L' := [.ref 1597, .ref b1]) (S' := [.ref 1597, .ref b1]) 2 rfl ?_
                    refine ge_getR (b := 1595) rfl (t1597 s) rfl (r1597_0 s) (Nat.le_of_ble_eq_true rfl) ?_
                    refine ge_run (pc' := 84) (L' := [.ref 1597, .ref b1]) (S' := [.int (999 : Int32), .int (0 : Int32), .ref 1595, .ref b1]) 2 rfl ?_
                    refine ge_cv rfl rfl rfl (t1595 s) rfl rfl rfl (D := 3) (Nat.le_trans (by decide) hd) (c_Ta_number (n := n) (u := u) (t := t) (i := i_86) (r := r) s (0 : Int32) (999 : Int32)) ?_
                    rintro ⟨v_91 | c_93, i_92⟩ -
                    · dsimp only [bkE, F_ti1]
                      refine ge_putI rfl (sT0 s hb1) (sge0 hb1) rfl (fun i_94 => ?_)
                      refine ge_run (pc' := 90) (L' := [.ref 1597, .ref b1]) (S' := []) 1 rfl ?_
                      exact ge_retv rfl rfl (And.intro rfl trivial)
                    · exact ge_leaf (And.intro rfl trivial)
                · refine ge_run (pc' := 68) (L' := [.ref 1597, .ref b1]) (S' := [.ref 1597, .ref b1]) 2 rfl ?_
                  refine ge_getR (b := 1595) rfl (t1597 s) rfl (r1597_0 s) (Nat.le_of_ble_eq_true rfl) ?_
                  refine ge_run (pc' := 71) (L' := [.ref 1597, .ref b1]) (S' := [.int (999 : Int32), .int (0 : Int32), .ref 1595, .ref b1]) 2 rfl ?_
                  refine ge_cv rfl rfl rfl (t1595 s) rfl rfl rfl (D := 3) (Nat.le_trans (by decide) hd) (c_Ta_number (n := n) (u := u) (t := t) (i := i_83) (r := r) s (0 : Int32) (999 : Int32)) ?_
                  rintro ⟨v_96 | c_98, i_97⟩ -
                  · dsimp only [bkE, F_ti1]
                    refine ge_putI rfl (sT0 s hb1) (sge0 hb1) rfl (fun i_99 => ?_)
                    refine ge_run (pc' := 90) (L' := [.ref 1597, .ref b1]) (S' := []) 1 rfl ?_
                    exact ge_retv rfl rfl (And.intro rfl trivial)
                  · exact ge_leaf (And.intro rfl trivial)
      · refine ge_run (pc' := 28) (L' := [.ref 1597, .ref b1]) (S' := [.ref b1]) 1 rfl ?_
        refine ge_getI rfl (sT0 s hb1) rfl ?_
        refine ge_run (pc' := 30) (L' := [.ref 1597, .ref b1]) (S' := [.int (3 : Int32), .int (i b1 8)]) 1 rfl ?_
        refine ge_ge rfl (fun h_101 => ?_) (fun h_104 => ?_)
        · refine ge_run (pc' := 33) (L' := [.ref 1597, .ref b1]) (S' := [.ref b1, .ref 1597]) 2 rfl ?_
          refine ge_cv rfl rfl rfl (t1597 s) rfl rfl rfl (D := 8) (Nat.le_trans (by decide) hd) (c_Sx_readBoat (n := n) (u := u) (t := t) (i := i) (r := r) s b1 hb1) ?_
          rintro ⟨⟨⟩ | c_103, i_102⟩ -
          · dsimp only [bkE, F_tv1]
            refine ge_run (pc' := 90) (L' := [.ref 1597, .ref b1]) (S' := []) 1 rfl ?_
            exact ge_retv rfl rfl (And.intro rfl trivial)
          · exact ge_leaf (And.intro rfl trivial)
        · refine ge_run (pc' := 36) (L' := [.ref 1597, .ref b1]) (S' := [.ref 1597]) 1 rfl ?_
          refine ge_getR (b := 1595) rfl (t1597 s) rfl (r1597_0 s) (Nat.le_of_ble_eq_true rfl) ?_
          refine ge_run (pc' := 38) (L' := [.ref 1597, .ref b1]) (S' := [.ref 38, .ref 1595]) 1 rfl ?_
          refine ge_cv rfl rfl rfl (t1595 s) rfl rfl rfl (D := 5) (Nat.le_trans (by decide) hd) (c_Ta_isWord (n := n) (u := u) (t := t) (i := i) (r := r) s 38 (strAd 18)) ?_
          rintro v_105 -
          dsimp only [bkE, F_i0]
          refine ge_eq0 rfl (fun h_106 => ?_) (fun h_150 => ?_)
          · refine ge_run (pc' := 49) (L' := [.ref 1597, .ref b1]) (S' := [.ref 1597]) 1 rfl ?_
            refine ge_getR (b := 1595) rfl (t1597 s) rfl (r1597_0 s) (Nat.le_of_ble_eq_true rfl) ?_
            refine ge_run (pc' := 51) (L' := [.ref 1597, .ref b1]) (S' := [.ref 46, .ref 1595]) 1 rfl ?_
            refine ge_cv rfl rfl rfl (t1595 s) rfl rfl rfl (D := 5) (Nat.le_trans (by decide) hd) (c_Ta_isWord (n := n) (u := u) (t := t) (i := i) (r := r) s 46 (strAd 22)) ?_
            rintro v_107 -
            dsimp only [bkE, F_i0]
            refine ge_eq0 rfl (fun h_108 => ?_) (fun h_127 => ?_)
            · refine ge_run (pc' := 62) (L' := [.ref 1597, .ref b1]) (S' := [.ref 1597]) 1 rfl ?_
              refine ge_getR (b := 1595) rfl (t1597 s) rfl (r1597_0 s) (Nat.le_of_ble_eq_true rfl) ?_
              refine ge_run (pc' := 64) (L' := [.ref 1597, .ref b1]) (S' := [.ref 50, .ref 1595]) 1 rfl ?_
              refine ge_cv rfl rfl rfl (t1595 s) rfl rfl rfl (D := 6) (Nat.le_trans (by decide) hd) (c_Ta_takeWord (n := n) (u := u) (t := t) (i := i) (r := r) s 50 (strAd 24)) ?_
              rintro ⟨v_109, i_110⟩ -
              dsimp only [bkE, F_i1]
              refine ge_eq0 rfl (fun h_111 => ?_) (fun h_122 => ?_)
              · refine ge_run (pc' := 75) (L' := [.ref 1597, .ref b1]) (S' := [.ref 1597]) 1 rfl ?_
                refine ge_getR (b := 1595) rfl (t1597 s) rfl (r1597_0 s) (Nat.le_of_ble_eq_true rfl) ?_
                refine ge_run (pc' := 77) (L' := [.ref 1597, .ref b1]) (S' := [.ref 52, .ref 1595]) 1 rfl ?_
                refine ge_cv rfl rfl rfl (t1595 s) rfl rfl rfl (D := 6) (Nat.le_trans (by decide) hd) (c_Ta_takeWord (n := n) (u := u) (t := t) (i := i_110) (r := r) s 52 (strAd 25)) ?_
                rintro ⟨v_112, i_113⟩ -
                dsimp only [bkE, F_i1]
                refine ge_eq0 rfl (fun h_114 => ?_) (fun h_117 => ?_)
                · refine ge_run (pc' := 88) (L' := [.ref 1597, .ref b1]) (S' := [.ref 1597]) 1 rfl ?_
                  refine ge_getR (b := 1595) rfl (t1597 s) rfl (r1597_0 s) (Nat.le_of_ble_eq_true rfl) ?_
                  refine ge_cv rfl rfl rfl (t1595 s) rfl rfl rfl (D := 1) (Nat.le_trans (by decide) hd) (c_Ta_refuse (n := n) (u := u) (t := t) (i := i_113) (r := r) s ) ?_
                  rintro ⟨⟨⟩ | c_116, i_115⟩ -
                  · dsimp only [bkE, F_tv1]
                    exact ge_retv rfl rfl (And.intro rfl trivial)
                  · exact ge_leaf (And.intro rfl trivial)
                · refine ge_run (pc' := 81) (L' := [.ref 1597, .ref b1]) (S' := [.ref 1597, .ref b1]) 2 rfl ?_
                  refine ge_getR (b := 1595) rfl (t1597 s) rfl (r1597_0 s) (Nat.le_of_ble_eq_true rfl) ?_
                  refine ge_run (pc' := 84) (L' := [.ref 1597, .ref b1]) (S' := [.int (999 : Int32), .int (0 : Int32), .ref 1595, .ref b1]) 2 rfl ?_
                  refine ge_cv rfl rfl rfl (t1595 s) rfl rfl rfl (D := 3) (Nat.le_trans (by decide) hd) (c_Ta_number (n := n) (u := u) (t := t) (i := i_113) (r := r) s (0 : Int32) (999 : Int32)) ?_
                  rintro ⟨v_118 | c_120, i_119⟩ -
                  · dsimp only [bkE, F_ti1]
                    refine ge_putI rfl (sT0 s hb1) (sge0 hb1) rfl (fun i_121 => ?_)
                    refine ge_run (pc' := 90) (L' := [.ref 1597, .ref b1]) (S' := []) 1 rfl ?_
                    exact ge_retv rfl rfl (And.intro rfl trivial)
                  · exact ge_leaf (And.intro rfl trivial)
              · refine ge_run (pc' := 68) (L' := [.ref 1597, .ref b1]) (S' := [.ref 1597, .ref b1]) 2 rfl ?_
                refine ge_getR (b := 1595) rfl (t1597 s) rfl (r1597_0 s) (Nat.le_of_ble_eq_true rfl) ?_
                refine ge_run (pc' := 71) (L' := [.ref 1597, .ref b1]) (S' := [.int (999 : Int32), .int (0 : Int32), .ref 1595, .ref b1]) 2 rfl ?_
                refine ge_cv rfl rfl rfl (t1595 s) rfl rfl rfl (D := 3) (Nat.le_trans (by decide) hd) (c_Ta_number (n := n) (u := u) (t := t) (i := i_110) (r := r) s (0 : Int32) (999 : Int32)) ?_
                rintro ⟨v_123 | c_125, i_124⟩ -
                · dsimp only [bkE, F_ti1]
                  refine ge_putI rfl (sT0 s hb1) (sge0 hb1) rfl (fun i_126 => ?_)
                  refine ge_run (pc' := 90) (L' := [.ref 1597, .ref b1]) (S' := []) 1 rfl ?_
                  exact ge_retv rfl rfl (And.intro rfl trivial)
                · exact ge_leaf (And.intro rfl trivial)
            · refine ge_run (pc' := 54) (L' := [.ref 1597, .ref b1]) (S' := [.ref b1]) 1 rfl ?_
              refine ge_getI rfl (sT0 s hb1) rfl ?_
              refine ge_run (pc' := 56) (L' := [.ref 1597, .ref b1]) (S' := [.int (6 : Int32), .int (i b1 10)]) 1 rfl ?_
              refine ge_ge rfl (fun h_128 => ?_) (fun h_131 => ?_)
              · refine ge_run (pc' := 59) (L' := [.ref 1597, .ref b1]) (S' := [.ref b1, .ref 1597]) 2 rfl ?_
                refine ge_cv rfl rfl rfl (t1597 s) rfl rfl rfl (D := 8) (Nat.le_trans (by decide) hd) (c_Sx_readDead (n := n) (u := u) (t := t) (i := i) (r := r) s b1 hb1) ?_
                rintro ⟨⟨⟩ | c_130, i_129⟩ -
                · dsimp only [bkE, F_tv1]
                  refine ge_run (pc' := 90) (L' := [.ref 1597, .ref b1]) (S' := []) 1 rfl ?_
                  exact ge_retv rfl rfl (And.intro rfl trivial)
                · exact ge_leaf (And.intro rfl trivial)
              · refine ge_run (pc' := 62) (L' := [.ref 1597, .ref b1]) (S' := [.ref 1597]) 1 rfl ?_
                refine ge_getR (b := 1595) rfl (t1597 s) rfl (r1597_0 s) (Nat.le_of_ble_eq_true rfl) ?_
                refine ge_run (pc' := 64) (L' := [.ref 1597, .ref b1]) (S' := [.ref 50, .ref 1595]) 1 rfl ?_
                refine ge_cv rfl rfl rfl (t1595 s) rfl rfl rfl (D := 6) (Nat.le_trans (by decide) hd) (c_Ta_takeWord (n := n) (u := u) (t := t) (i := i) (r := r) s 50 (strAd 24)) ?_
                rintro ⟨v_132, i_133⟩ -
                dsimp only [bkE, F_i1]
                refine ge_eq0 rfl (fun h_134 => ?_) (fun h_145 => ?_)
                · refine ge_run (pc' := 75) (L' := [.ref 1597, .ref b1]) (S' := [.ref 1597]) 1 rfl ?_
                  refine ge_getR (b := 1595) rfl (t1597 s) rfl (r1597_0 s) (Nat.le_of_ble_eq_true rfl) ?_
                  refine ge_run (pc' := 77) (L' := [.ref 1597, .ref b1]) (S' := [.ref 52, .ref 1595]) 1 rfl ?_
                  refine ge_cv rfl rfl rfl (t1595 s) rfl rfl rfl (D := 6) (Nat.le_trans (by decide) hd) (c_Ta_takeWord (n := n) (u := u) (t := t) (i := i_133) (r := r) s 52 (strAd 25)) ?_
                  rintro ⟨v_135, i_136⟩ -
                  dsimp only [bkE, F_i1]
                  refine ge_eq0 rfl (fun h_137 => ?_) (fun h_140 => ?_)
                  · refine ge_run (pc' := 88) (L' := [.ref 1597, .ref b1]) (S' := [.ref 1597]) 1 rfl ?_
                    refine ge_getR (b := 1595) rfl (t1597 s) rfl (r1597_0 s) (Nat.le_of_ble_eq_true rfl) ?_
                    refine ge_cv rfl rfl rfl (t1595 s) rfl rfl rfl (D := 1) (Nat.le_trans (by decide) hd) (c_Ta_refuse (n := n) (u := u) (t := t) (i := i_136) (r := r) s ) ?_
                    rintro ⟨⟨⟩ | c_139, i_138⟩ -
                    · dsimp only [bkE, F_tv1]
                      exact ge_retv rfl rfl (And.intro rfl trivial)
                    · exact ge_leaf (And.intro rfl trivial)
                  · refine ge_run (pc' := 81) (L' := [.ref 1597, .ref b1]) (S' := [.ref 1597, .ref b1]) 2 rfl ?_
                    refine ge_getR (b := 1595) rfl (t1597 s) rfl (r1597_0 s) (Nat.le_of_ble_eq_true rfl) ?_
                    refine ge_run (pc' := 84) (L' := [.ref 1597, .ref b1]) (S' := [.int (999 : Int32), .int (0 : Int32), .ref 1595, .ref b1]) 2 rfl ?_
                    refine ge_cv rfl rfl rfl (t1595 s) rfl rfl rfl (D := 3) (Nat.le_trans (by decide) hd) (c_Ta_number (n := n) (u := u) (t := t) (i := i_136) (r := r) s (0 : Int32) (999 : Int32)) ?_
                    rintro ⟨v_141 | c_143, i_142⟩ -
                    · dsimp only [bkE, F_ti1]
                      refine ge_putI rfl (sT0 s hb1) (sge0 hb1) rfl (fun i_144 => ?_)
                      refine ge_run (pc' := 90) (L' := [.ref 1597, .ref b1]) (S' := []) 1 rfl ?_
                      exact ge_retv rfl rfl (And.intro rfl trivial)
                    · exact ge_leaf (And.intro rfl trivial)
                · refine ge_run (pc' := 68) (L' := [.ref 1597, .ref b1]) (S' := [.ref 1597, .ref b1]) 2 rfl ?_
                  refine ge_getR (b := 1595) rfl (t1597 s) rfl (r1597_0 s) (Nat.le_of_ble_eq_true rfl) ?_
                  refine ge_run (pc' := 71) (L' := [.ref 1597, .ref b1]) (S' := [.int (999 : Int32), .int (0 : Int32), .ref 1595, .ref b1]) 2 rfl ?_
                  refine ge_cv rfl rfl rfl (t1595 s) rfl rfl rfl (D := 3) (Nat.le_trans (by decide) hd) (c_Ta_number (n := n) (u := u) (t := t) (i := i_133) (r := r) s (0 : Int32) (999 : Int32)) ?_
                  rintro ⟨v_146 | c_148, i_147⟩ -
                  · dsimp only [bkE, F_ti1]
                    refine ge_putI rfl (sT0 s hb1) (sge0 hb1) rfl (fun i_149 => ?_)
                    refine ge_run (pc' := 90) (L' := [.ref 1597, .ref b1]) (S' := []) 1 rfl ?_
                    exact ge_retv rfl rfl (And.intro rfl trivial)
                  · exact ge_leaf (And.intro rfl trivial)
          · refine ge_run (pc' := 41) (L' := [.ref 1597, .ref b1]) (S' := [.ref b1]) 1 rfl ?_
            refine ge_getI rfl (sT0 s hb1) rfl ?_
            refine ge_run (pc' := 43) (L' := [.ref 1597, .ref b1]) (S' := [.int (5 : Int32), .int (i b1 9)]) 1 rfl ?_
            refine ge_ge rfl (fun h_151 => ?_) (fun h_154 => ?_)
            · refine ge_run (pc' := 46) (L' := [.ref 1597, .ref b1]) (S' := [.ref b1, .ref 1597]) 2 rfl ?_
              refine ge_cv rfl rfl rfl (t1597 s) rfl rfl rfl (D := 8) (Nat.le_trans (by decide) hd) (c_Sx_readBuyer (n := n) (u := u) (t := t) (i := i) (r := r) s b1 hb1) ?_
              rintro ⟨⟨⟩ | c_153, i_152⟩ -
              · dsimp only [bkE, F_tv1]
                refine ge_run (pc' := 90) (L' := [.ref 1597, .ref b1]) (S' := []) 1 rfl ?_
                exact ge_retv rfl rfl (And.intro rfl trivial)
              · exact ge_leaf (And.intro rfl trivial)
            · refine ge_run (pc' := 49) (L' := [.ref 1597, .ref b1]) (S' := [.ref 1597]) 1 rfl ?_
              refine ge_getR (b := 1595) rfl (t1597 s) rfl (r1597_0 s) (Nat.le_of_ble_eq_true rfl) ?_
              refine ge_run (pc' := 51) (L' := [.ref 1597, .ref b1]) (S' := [.ref 46, .ref 1595]) 1 rfl ?_
              refine ge_cv rfl rfl rfl (t1595 s) rfl rfl rfl (D := 5) (Nat.le_trans (by decide) hd) (c_Ta_isWord (n := n) (u := u) (t := t) (i := i) (r := r) s 46 (strAd 22)) ?_
              rintro v_155 -
              dsimp only [bkE, F_i0]
              refine ge_eq0 rfl (fun h_156 => ?_) (fun h_175 => ?_)
              · refine ge_run (pc' := 62) (L' := [.ref 1597, .ref b1]) (S' := [.ref 1597]) 1 rfl ?_
                refine ge_getR (b := 1595) rfl (t1597 s) rfl (r1597_0 s) (Nat.le_of_ble_eq_true rfl) ?_
                refine ge_run (pc' := 64) (L' := [.ref 1597, .ref b1]) (S' := [.ref 50, .ref 1595]) 1 rfl ?_
                refine ge_cv rfl rfl rfl (t1595 s) rfl rfl rfl (D := 6) (Nat.le_trans (by decide) hd) (c_Ta_takeWord (n := n) (u := u) (t := t) (i := i) (r := r) s 50 (strAd 24)) ?_
                rintro ⟨v_157, i_158⟩ -
                dsimp only [bkE, F_i1]
                refine ge_eq0 rfl (fun h_159 => ?_) (fun h_170 => ?_)
                · refine ge_run (pc' := 75) (L' := [.ref 1597, .ref b1]) (S' := [.ref 1597]) 1 rfl ?_
                  refine ge_getR (b := 1595) rfl (t1597 s) rfl (r1597_0 s) (Nat.le_of_ble_eq_true rfl) ?_
                  refine ge_run (pc' := 77) (L' := [.ref 1597, .ref b1]) (S' := [.ref 52, .ref 1595]) 1 rfl ?_
                  refine ge_cv rfl rfl rfl (t1595 s) rfl rfl rfl (D := 6) (Nat.le_trans (by decide) hd) (c_Ta_takeWord (n := n) (u := u) (t := t) (i := i_158) (r := r) s 52 (strAd 25)) ?_
                  rintro ⟨v_160, i_161⟩ -
                  dsimp only [bkE, F_i1]
                  refine ge_eq0 rfl (fun h_162 => ?_) (fun h_165 => ?_)
                  · refine ge_run (pc' := 88) (L' := [.ref 1597, .ref b1]) (S' := [.ref 1597]) 1 rfl ?_
                    refine ge_getR (b := 1595) rfl (t1597 s) rfl (r1597_0 s) (Nat.le_of_ble_eq_true rfl) ?_
                    refine ge_cv rfl rfl rfl (t1595 s) rfl rfl rfl (D := 1) (Nat.le_trans (by decide) hd) (c_Ta_refuse (n := n) (u := u) (t := t) (i := i_161) (r := r) s ) ?_
                    rintro ⟨⟨⟩ | c_164, i_163⟩ -
                    · dsimp only [bkE, F_tv1]
                      exact ge_retv rfl rfl (And.intro rfl trivial)
                    · exact ge_leaf (And.intro rfl trivial)
                  · refine ge_run (pc' := 81) (L' := [.ref 1597, .ref b1]) (S' := [.ref 1597, .ref b1]) 2 rfl ?_
                    refine ge_getR (b := 1595) rfl (t1597 s) rfl (r1597_0 s) (Nat.le_of_ble_eq_true rfl) ?_
                    refine ge_run (pc' := 84) (L' := [.ref 1597, .ref b1]) (S' := [.int (999 : Int32), .int (0 : Int32), .ref 1595, .ref b1]) 2 rfl ?_
                    refine ge_cv rfl rfl rfl (t1595 s) rfl rfl rfl (D := 3) (Nat.le_trans (by decide) hd) (c_Ta_number (n := n) (u := u) (t := t) (i := i_161) (r := r) s (0 : Int32) (999 : Int32)) ?_
                    rintro ⟨v_166 | c_168, i_167⟩ -
                    · dsimp only [bkE, F_ti1]
                      refine ge_putI rfl (sT0 s hb1) (sge0 hb1) rfl (fun i_169 => ?_)
                      refine ge_run (pc' := 90) (L' := [.ref 1597, .ref b1]) (S' := []) 1 rfl ?_
                      exact ge_retv rfl rfl (And.intro rfl trivial)
                    · exact ge_leaf (And.intro rfl trivial)
                · refine ge_run (pc' := 68) (L' := [.ref 1597, .ref b1]) (S' := [.ref 1597, .ref b1]) 2 rfl ?_
                  refine ge_getR (b := 1595) rfl (t1597 s) rfl (r1597_0 s) (Nat.le_of_ble_eq_true rfl) ?_
                  refine ge_run (pc' := 71) (L' := [.ref 1597, .ref b1]) (S' := [.int (999 : Int32), .int (0 : Int32), .ref 1595, .ref b1]) 2 rfl ?_
                  refine ge_cv rfl rfl rfl (t1595 s) rfl rfl rfl (D := 3) (Nat.le_trans (by decide) hd) (c_Ta_number (n := n) (u := u) (t := t) (i := i_158) (r := r) s (0 : Int32) (999 : Int32)) ?_
                  rintro ⟨v_171 | c_173, i_172⟩ -
                  · dsimp only [bkE, F_ti1]
                    refine ge_putI rfl (sT0 s hb1) (sge0 hb1) rfl (fun i_174 => ?_)
                    refine ge_run (pc' := 90) (L' := [.ref 1597, .ref b1]) (S' := []) 1 rfl ?_
                    exact ge_retv rfl rfl (And.intro rfl trivial)
                  · exact ge_leaf (And.intro rfl trivial)
              · refine ge_run (pc' := 54) (L' := [.ref 1597, .ref b1]) (S' := [.ref b1]) 1 rfl ?_
                refine ge_getI rfl (sT0 s hb1) rfl ?_
                refine ge_run (pc' := 56) (L' := [.ref 1597, .ref b1]) (S' := [.int (6 : Int32), .int (i b1 10)]) 1 rfl ?_
                refine ge_ge rfl (fun h_176 => ?_) (fun h_179 => ?_)
                · refine ge_run (pc' := 59) (L' := [.ref 1597, .ref b1]) (S' := [.ref b1, .ref 1597]) 2 rfl ?_
                  refine ge_cv rfl rfl rfl (t1597 s) rfl rfl rfl (D := 8) (Nat.le_trans (by decide) hd) (c_Sx_readDead (n := n) (u := u) (t := t) (i := i) (r := r) s b1 hb1) ?_
                  rintro ⟨⟨⟩ | c_178, i_177⟩ -
                  · dsimp only [bkE, F_tv1]
                    refine ge_run (pc' := 90) (L' := [.ref 1597, .ref b1]) (S' := []) 1 rfl ?_
                    exact ge_retv rfl rfl (And.intro rfl trivial)
                  · exact ge_leaf (And.intro rfl trivial)
                · refine ge_run (pc' := 62) (L' := [.ref 1597, .ref b1]) (S' := [.ref 1597]) 1 rfl ?_
                  refine ge_getR (b := 1595) rfl (t1597 s) rfl (r1597_0 s) (Nat.le_of_ble_eq_true rfl) ?_
                  refine ge_run (pc' := 64) (L' := [.ref 1597, .ref b1]) (S' := [.ref 50, .ref 1595]) 1 rfl ?_
                  refine ge_cv rfl rfl rfl (t1595 s) rfl rfl rfl (D := 6) (Nat.le_trans (by decide) hd) (c_Ta_takeWord (n := n) (u := u) (t := t) (i := i) (r := r) s 50 (strAd 24)) ?_
                  rintro ⟨v_180, i_181⟩ -
                  dsimp only [bkE, F_i1]
                  refine ge_eq0 rfl (fun h_182 => ?_) (fun h_193 => ?_)
                  · refine ge_run (pc' := 75) (L' := [.ref 1597, .ref b1]) (S' := [.ref 1597]) 1 rfl ?_
                    refine ge_getR (b := 1595) rfl (t1597 s) rfl (r1597_0 s) (Nat.le_of_ble_eq_true rfl) ?_
                    refine ge_run (pc' := 77) (L' := [.ref 1597, .ref b1]) (S' := [.ref 52, .ref 1595]) 1 rfl ?_
                    refine ge_cv rfl rfl rfl (t1595 s) rfl rfl rfl (D := 6) (Nat.le_trans (by decide) hd) (c_Ta_takeWord (n := n) (u := u) (t := t) (i := i_181) (r := r) s 52 (strAd 25)) ?_
                    rintro ⟨v_183, i_184⟩ -
                    dsimp only [bkE, F_i1]
                    refine ge_eq0 rfl (fun h_185 => ?_) (fun h_188 => ?_)
                    · refine ge_run (pc' := 88) (L' := [.ref 1597, .ref b1]) (S' := [.ref 1597]) 1 rfl ?_
                      refine ge_getR (b := 1595) rfl (t1597 s) rfl (r1597_0 s) (Nat.le_of_ble_eq_true rfl) ?_
                      refine ge_cv rfl rfl rfl (t1595 s) rfl rfl rfl (D := 1) (Nat.le_trans (by decide) hd) (c_Ta_refuse (n := n) (u := u) (t := t) (i := i_184) (r := r) s ) ?_
                      rintro ⟨⟨⟩ | c_187, i_186⟩ -
                      · dsimp only [bkE, F_tv1]
                        exact ge_retv rfl rfl (And.intro rfl trivial)
                      · exact ge_leaf (And.intro rfl trivial)
                    · refine ge_run (pc' := 81) (L' := [.ref 1597, .ref b1]) (S' := [.ref 1597, .ref b1]) 2 rfl ?_
                      refine ge_getR (b := 1595) rfl (t1597 s) rfl (r1597_0 s) (Nat.le_of_ble_eq_true rfl) ?_
                      refine ge_run (pc' := 84) (L' := [.ref 1597, .ref b1]) (S' := [.int (999 : Int32), .int (0 : Int32), .ref 1595, .ref b1]) 2 rfl ?_
                      refine ge_cv rfl rfl rfl (t1595 s) rfl rfl rfl (D := 3) (Nat.le_trans (by decide) hd) (c_Ta_number (n := n) (u := u) (t := t) (i := i_184) (r := r) s (0 : Int32) (999 : Int32)) ?_
                      rintro ⟨v_189 | c_191, i_190⟩ -
                      · dsimp only [bkE, F_ti1]
                        refine ge_putI rfl (sT0 s hb1) (sge0 hb1) rfl (fun i_192 => ?_)
                        refine ge_run (pc' := 90) (L' := [.ref 1597, .ref b1]) (S' := []) 1 rfl ?_
                        exact ge_retv rfl rfl (And.intro rfl trivial)
                      · exact ge_leaf (And.intro rfl trivial)
                  · refine ge_run (pc' := 68) (L' := [.ref 1597, .ref b1]) (S' := [.ref 1597, .ref b1]) 2 rfl ?_
                    refine ge_getR (b := 1595) rfl (t1597 s) rfl (r1597_0 s) (Nat.le_of_ble_eq_true rfl) ?_
                    refine ge_run (pc' := 71) (L' := [.ref 1597, .ref b1]) (S' := [.int (999 : Int32), .int (0 : Int32), .ref 1595, .ref b1]) 2 rfl ?_
                    refine ge_cv rfl rfl rfl (t1595 s) rfl rfl rfl (D := 3) (Nat.le_trans (by decide) hd) (c_Ta_number (n := n) (u := u) (t := t) (i := i_181) (r := r) s (0 : Int32) (999 : Int32)) ?_
                    rintro ⟨v_194 | c_196, i_195⟩ -
                    · dsimp only [bkE, F_ti1]
                      refine ge_putI rfl (sT0 s hb1) (sge0 hb1) rfl (fun i_197 => ?_)
                      refine ge_run (pc' := 90) (L' := [.ref 1597, .ref b1]) (S' := []) 1 rfl ?_
                      exact ge_retv rfl rfl (And.intro rfl trivial)
                    · exact ge_leaf (And.intro rfl trivial)
    · refine ge_run (pc' := 15) (L' := [.ref 1597, .ref b1]) (S' := [.ref b1]) 1 rfl ?_
      refine ge_getI rfl (sT0 s hb1) rfl ?_
      refine ge_run (pc' := 17) (L' := [.ref 1597, .ref b1]) (S' := [.int (8 : Int32), .int (i b1 7)]) 1 rfl ?_
      refine ge_ge rfl (fun h_199 => ?_) (fun h_202 => ?_)
      · refine ge_run (pc' := 20) (L' := [.ref 1597, .ref b1]) (S' := [.ref b1, .ref 1597]) 2 rfl ?_
        refine ge_cv rfl rfl rfl (t1597 s) rfl rfl rfl (D := 8) (Nat.le_trans (by decide) hd) (c_Sx_readFish (n := n) (u := u) (t := t) (i := i) (r := r) s b1 hb1) ?_
        rintro ⟨⟨⟩ | c_201, i_200⟩ -
        · dsimp only [bkE, F_tv1]
          refine ge_run (pc' := 90) (L' := [.ref 1597, .ref b1]) (S' := []) 1 rfl ?_
          exact ge_retv rfl rfl (And.intro rfl trivial)
        · exact ge_leaf (And.intro rfl trivial)
      · refine ge_run (pc' := 23) (L' := [.ref 1597, .ref b1]) (S' := [.ref 1597]) 1 rfl ?_
        refine ge_getR (b := 1595) rfl (t1597 s) rfl (r1597_0 s) (Nat.le_of_ble_eq_true rfl) ?_
        refine ge_run (pc' := 25) (L' := [.ref 1597, .ref b1]) (S' := [.ref 32, .ref 1595]) 1 rfl ?_
        refine ge_cv rfl rfl rfl (t1595 s) rfl rfl rfl (D := 5) (Nat.le_trans (by decide) hd) (c_Ta_isWord (n := n) (u := u) (t := t) (i := i) (r := r) s 32 (strAd 15)) ?_
        rintro v_203 -
        dsimp only [bkE, F_i0]
        refine ge_eq0 rfl (fun h_204 => ?_) (fun h_298 => ?_)
        · refine ge_run (pc' := 36) (L' := [.ref 1597, .ref b1]) (S' := [.ref 1597]) 1 rfl ?_
          refine ge_getR (b := 1595) rfl (t1597 s) rfl (r1597_0 s) (Nat.le_of_ble_eq_true rfl) ?_
          refine ge_run (pc' := 38) (L' := [.ref 1597, .ref b1]) (S' := [.ref 38, .ref 1595]) 1 rfl ?_
          refine ge_cv rfl rfl rfl (t1595 s) rfl rfl rfl (D := 5) (Nat.le_trans (by decide) hd) (c_Ta_isWord (n := n) (u := u) (t := t) (i := i) (r := r) s 38 (strAd 18)) ?_
          rintro v_205 -
          dsimp only [bkE, F_i0]
          refine ge_eq0 rfl (fun h_206 => ?_) (fun h_250 => ?_)
          · refine ge_run (pc' := 49) (L' := [.ref 1597, .ref b1]) (S' := [.ref 1597]) 1 rfl ?_
            refine ge_getR (b := 1595) rfl (t1597 s) rfl (r1597_0 s) (Nat.le_of_ble_eq_true rfl) ?_
            refine ge_run (pc' := 51) (L' := [.ref 1597, .ref b1]) (S' := [.ref 46, .ref 1595]) 1 rfl ?_
            refine ge_cv rfl rfl rfl (t1595 s) rfl rfl rfl (D := 5) (Nat.le_trans (by decide) hd) (c_Ta_isWord (n := n) (u := u) (t := t) (i := i) (r := r) s 46 (strAd 22)) ?_
            rintro v_207 -
            dsimp only [bkE, F_i0]
            refine ge_eq0 rfl (fun h_208 => ?_) (fun h_227 => ?_)
            · refine ge_run (pc' := 62) (L' := [.ref 1597, .ref b1]) (S' := [.ref 1597]) 1 rfl ?_
              refine ge_getR (b := 1595) rfl (t1597 s) rfl (r1597_0 s) (Nat.le_of_ble_eq_true rfl) ?_
              refine ge_run (pc' := 64) (L' := [.ref 1597, .ref b1]) (S' := [.ref 50, .ref 1595]) 1 rfl ?_
              refine ge_cv rfl rfl rfl (t1595 s) rfl rfl rfl (D := 6) (Nat.le_trans (by decide) hd) (c_Ta_takeWord (n := n) (u := u) (t := t) (i := i) (r := r) s 50 (strAd 24)) ?_
              rintro ⟨v_209, i_210⟩ -
              dsimp only [bkE, F_i1]
              refine ge_eq0 rfl (fun h_211 => ?_) (fun h_222 => ?_)
              · refine ge_run (pc' := 75) (L' := [.ref 1597, .ref b1]) (S' := [.ref 1597]) 1 rfl ?_
                refine ge_getR (b := 1595) rfl (t1597 s) rfl (r1597_0 s) (Nat.le_of_ble_eq_true rfl) ?_
                refine ge_run (pc' := 77) (L' := [.ref 1597, .ref b1]) (S' := [.ref 52, .ref 1595]) 1 rfl ?_
                refine ge_cv rfl rfl rfl (t1595 s) rfl rfl rfl (D := 6) (Nat.le_trans (by decide) hd) (c_Ta_takeWord (n := n) (u := u) (t := t) (i := i_210) (r := r) s 52 (strAd 25)) ?_
                rintro ⟨v_212, i_213⟩ -
                dsimp only [bkE, F_i1]
                refine ge_eq0 rfl (fun h_214 => ?_) (fun h_217 => ?_)
                · refine ge_run (pc' := 88) (L' := [.ref 1597, .ref b1]) (S' := [.ref 1597]) 1 rfl ?_
                  refine ge_getR (b := 1595) rfl (t1597 s) rfl (r1597_0 s) (Nat.le_of_ble_eq_true rfl) ?_
                  refine ge_cv rfl rfl rfl (t1595 s) rfl rfl rfl (D := 1) (Nat.le_trans (by decide) hd) (c_Ta_refuse (n := n) (u := u) (t := t) (i := i_213) (r := r) s ) ?_
                  rintro ⟨⟨⟩ | c_216, i_215⟩ -
                  · dsimp only [bkE, F_tv1]
                    exact ge_retv rfl rfl (And.intro rfl trivial)
                  · exact ge_leaf (And.intro rfl trivial)
                · refine ge_run (pc' := 81) (L' := [.ref 1597, .ref b1]) (S' := [.ref 1597, .ref b1]) 2 rfl ?_
                  refine ge_getR (b := 1595) rfl (t1597 s) rfl (r1597_0 s) (Nat.le_of_ble_eq_true rfl) ?_
                  refine ge_run (pc' := 84) (L' := [.ref 1597, .ref b1]) (S' := [.int (999 : Int32), .int (0 : Int32), .ref 1595, .ref b1]) 2 rfl ?_
                  refine ge_cv rfl rfl rfl (t1595 s) rfl rfl rfl (D := 3) (Nat.le_trans (by decide) hd) (c_Ta_number (n := n) (u := u) (t := t) (i := i_213) (r := r) s (0 : Int32) (999 : Int32)) ?_
                  rintro ⟨v_218 | c_220, i_219⟩ -
                  · dsimp only [bkE, F_ti1]
                    refine ge_putI rfl (sT0 s hb1) (sge0 hb1) rfl (fun i_221 => ?_)
                    refine ge_run (pc' := 90) (L' := [.ref 1597, .ref b1]) (S' := []) 1 rfl ?_
                    exact ge_retv rfl rfl (And.intro rfl trivial)
                  · exact ge_leaf (And.intro rfl trivial)
              · refine ge_run (pc' := 68) (L' := [.ref 1597, .ref b1]) (S' := [.ref 1597, .ref b1]) 2 rfl ?_
                refine ge_getR (b := 1595) rfl (t1597 s) rfl (r1597_0 s) (Nat.le_of_ble_eq_true rfl) ?_
                refine ge_run (pc' := 71) (L' := [.ref 1597, .ref b1]) (S' := [.int (999 : Int32), .int (0 : Int32), .ref 1595, .ref b1]) 2 rfl ?_
                refine ge_cv rfl rfl rfl (t1595 s) rfl rfl rfl (D := 3) (Nat.le_trans (by decide) hd) (c_Ta_number (n := n) (u := u) (t := t) (i := i_210) (r := r) s (0 : Int32) (999 : Int32)) ?_
                rintro ⟨v_223 | c_225, i_224⟩ -
                · dsimp only [bkE, F_ti1]
                  refine ge_putI rfl (sT0 s hb1) (sge0 hb1) rfl (fun i_226 => ?_)
                  refine ge_run (pc' := 90) (L' := [.ref 1597, .ref b1]) (S' := []) 1 rfl ?_
                  exact ge_retv rfl rfl (And.intro rfl trivial)
                · exact ge_leaf (And.intro rfl trivial)
            · refine ge_run (pc' := 54) (L' := [.ref 1597, .ref b1]) (S' := [.ref b1]) 1 rfl ?_
              refine ge_getI rfl (sT0 s hb1) rfl ?_
              refine ge_run (pc' := 56) (L' := [.ref 1597, .ref b1]) (S' := [.int (6 : Int32), .int (i b1 10)]) 1 rfl ?_
              refine ge_ge rfl (fun h_228 => ?_) (fun h_231 => ?_)
              · refine ge_run (pc' := 59) (L' := [.ref 1597, .ref b1]) (S' := [.ref b1, .ref 1597]) 2 rfl ?_
                refine ge_cv rfl rfl rfl (t1597 s) rfl rfl rfl (D := 8) (Nat.le_trans (by decide) hd) (c_Sx_readDead (n := n) (u := u) (t := t) (i := i) (r := r) s b1 hb1) ?_
                rintro ⟨⟨⟩ | c_230, i_229⟩ -
                · dsimp only [bkE, F_tv1]
                  refine ge_run (pc' := 90) (L' := [.ref 1597, .ref b1]) (S' := []) 1 rfl ?_
                  exact ge_retv rfl rfl (And.intro rfl trivial)
                · exact ge_leaf (And.intro rfl trivial)
              · refine ge_run (pc' := 62) (L' := [.ref 1597, .ref b1]) (S' := [.ref 1597]) 1 rfl ?_
                refine ge_getR (b := 1595) rfl (t1597 s) rfl (r1597_0 s) (Nat.le_of_ble_eq_true rfl) ?_
                refine ge_run (pc' := 64) (L' := [.ref 1597, .ref b1]) (S' := [.ref 50, .ref 1595]) 1 rfl ?_
                refine ge_cv rfl rfl rfl (t1595 s) rfl rfl rfl (D := 6) (Nat.le_trans (by decide) hd) (c_Ta_takeWord (n := n) (u := u) (t := t) (i := i) (r := r) s 50 (strAd 24)) ?_
                rintro ⟨v_232, i_233⟩ -
                dsimp only [bkE, F_i1]
                refine ge_eq0 rfl (fun h_234 => ?_) (fun h_245 => ?_)
                · refine ge_run (pc' := 75) (L' := [.ref 1597, .ref b1]) (S' := [.ref 1597]) 1 rfl ?_
                  refine ge_getR (b := 1595) rfl (t1597 s) rfl (r1597_0 s) (Nat.le_of_ble_eq_true rfl) ?_
                  refine ge_run (pc' := 77) (L' := [.ref 1597, .ref b1]) (S' := [.ref 52, .ref 1595]) 1 rfl ?_
                  refine ge_cv rfl rfl rfl (t1595 s) rfl rfl rfl (D := 6) (Nat.le_trans (by decide) hd) (c_Ta_takeWord (n := n) (u := u) (t := t) (i := i_233) (r := r) s 52 (strAd 25)) ?_
                  rintro ⟨v_235, i_236⟩ -
                  dsimp only [bkE, F_i1]
                  refine ge_eq0 rfl (fun h_237 => ?_) (fun h_240 => ?_)
                  · refine ge_run (pc' := 88) (L' := [.ref 1597, .ref b1]) (S' := [.ref 1597]) 1 rfl ?_
                    refine ge_getR (b := 1595) rfl (t1597 s) rfl (r1597_0 s) (Nat.le_of_ble_eq_true rfl) ?_
                    refine ge_cv rfl rfl rfl (t1595 s) rfl rfl rfl (D := 1) (Nat.le_trans (by decide) hd) (c_Ta_refuse (n := n) (u := u) (t := t) (i := i_236) (r := r) s ) ?_
                    rintro ⟨⟨⟩ | c_239, i_238⟩ -
                    · dsimp only [bkE, F_tv1]
                      exact ge_retv rfl rfl (And.intro rfl trivial)
                    · exact ge_leaf (And.intro rfl trivial)
                  · refine ge_run (pc' := 81) (L' := [.ref 1597, .ref b1]) (S' := [.ref 1597, .ref b1]) 2 rfl ?_
                    refine ge_getR (b := 1595) rfl (t1597 s) rfl (r1597_0 s) (Nat.le_of_ble_eq_true rfl) ?_
                    refine ge_run (pc' := 84) (L' := [.ref 1597, .ref b1]) (S' := [.int (999 : Int32), .int (0 : Int32), .ref 1595, .ref b1]) 2 rfl ?_
                    refine ge_cv rfl rfl rfl (t1595 s) rfl rfl rfl (D := 3) (Nat.le_trans (by decide) hd) (c_Ta_number (n := n) (u := u) (t := t) (i := i_236) (r := r) s (0 : Int32) (999 : Int32)) ?_
                    rintro ⟨v_241 | c_243, i_242⟩ -
                    · dsimp only [bkE, F_ti1]
                      refine ge_putI rfl (sT0 s hb1) (sge0 hb1) rfl (fun i_244 => ?_)
                      refine ge_run (pc' := 90) (L' := [.ref 1597, .ref b1]) (S' := []) 1 rfl ?_
                      exact ge_retv rfl rfl (And.intro rfl trivial)
                    · exact ge_leaf (And.intro rfl trivial)
                · refine ge_run (pc' := 68) (L' := [.ref 1597, .ref b1]) (S' := [.ref 1597, .ref b1]) 2 rfl ?_
                  refine ge_getR (b := 1595) rfl (t1597 s) rfl (r1597_0 s) (Nat.le_of_ble_eq_true rfl) ?_
                  refine ge_run (pc' := 71) (L' := [.ref 1597, .ref b1]) (S' := [.int (999 : Int32), .int (0 : Int32), .ref 1595, .ref b1]) 2 rfl ?_
                  refine ge_cv rfl rfl rfl (t1595 s) rfl rfl rfl (D := 3) (Nat.le_trans (by decide) hd) (c_Ta_number (n := n) (u := u) (t := t) (i := i_233) (r := r) s (0 : Int32) (999 : Int32)) ?_
                  rintro ⟨v_246 | c_248, i_247⟩ -
                  · dsimp only [bkE, F_ti1]
                    refine ge_putI rfl (sT0 s hb1) (sge0 hb1) rfl (fun i_249 => ?_)
                    refine ge_run (pc' := 90) (L' := [.ref 1597, .ref b1]) (S' := []) 1 rfl ?_
                    exact ge_retv rfl rfl (And.intro rfl trivial)
                  · exact ge_leaf (And.intro rfl trivial)
          · refine ge_run (pc' := 41) (L' := [.ref 1597, .ref b1]) (S' := [.ref b1]) 1 rfl ?_
            refine ge_getI rfl (sT0 s hb1) rfl ?_
            refine ge_run (pc' := 43) (L' := [.ref 1597, .ref b1]) (S' := [.int (5 : Int32), .int (i b1 9)]) 1 rfl ?_
            refine ge_ge rfl (fun h_251 => ?_) (fun h_254 => ?_)
            · refine ge_run (pc' := 46) (L' := [.ref 1597, .ref b1]) (S' := [.ref b1, .ref 1597]) 2 rfl ?_
              refine ge_cv rfl rfl rfl (t1597 s) rfl rfl rfl (D := 8) (Nat.le_trans (by decide) hd) (c_Sx_readBuyer (n := n) (u := u) (t := t) (i := i) (r := r) s b1 hb1) ?_
              rintro ⟨⟨⟩ | c_253, i_252⟩ -
              · dsimp only [bkE, F_tv1]
                refine ge_run (pc' := 90) (L' := [.ref 1597, .ref b1]) (S' := []) 1 rfl ?_
                exact ge_retv rfl rfl (And.intro rfl trivial)
              · exact ge_leaf (And.intro rfl trivial)
            · refine ge_run (pc' := 49) (L' := [.ref 1597, .ref b1]) (S' := [.ref 1597]) 1 rfl ?_
              refine ge_getR (b := 1595) rfl (t1597 s) rfl (r1597_0 s) (Nat.le_of_ble_eq_true rfl) ?_
              refine ge_run (pc' := 51) (L' := [.ref 1597, .ref b1]) (S' := [.ref 46, .ref 1595]) 1 rfl ?_
              refine ge_cv rfl rfl rfl (t1595 s) rfl rfl rfl (D := 5) (Nat.le_trans (by decide) hd) (c_Ta_isWord (n := n) (u := u) (t := t) (i := i) (r := r) s 46 (strAd 22)) ?_
              rintro v_255 -
              dsimp only [bkE, F_i0]
              refine ge_eq0 rfl (fun h_256 => ?_) (fun h_275 => ?_)
              · refine ge_run (pc' := 62) (L' := [.ref 1597, .ref b1]) (S' := [.ref 1597]) 1 rfl ?_
                refine ge_getR (b := 1595) rfl (t1597 s) rfl (r1597_0 s) (Nat.le_of_ble_eq_true rfl) ?_
                refine ge_run (pc' := 64) (L' := [.ref 1597, .ref b1]) (S' := [.ref 50, .ref 1595]) 1 rfl ?_
                refine ge_cv rfl rfl rfl (t1595 s) rfl rfl rfl (D := 6) (Nat.le_trans (by decide) hd) (c_Ta_takeWord (n := n) (u := u) (t := t) (i := i) (r := r) s 50 (strAd 24)) ?_
                rintro ⟨v_257, i_258⟩ -
                dsimp only [bkE, F_i1]
                refine ge_eq0 rfl (fun h_259 => ?_) (fun h_270 => ?_)
                · refine ge_run (pc' := 75) (L' := [.ref 1597, .ref b1]) (S' := [.ref 1597]) 1 rfl ?_
                  refine ge_getR (b := 1595) rfl (t1597 s) rfl (r1597_0 s) (Nat.le_of_ble_eq_true rfl) ?_
                  refine ge_run (pc' := 77) (L' := [.ref 1597, .ref b1]) (S' := [.ref 52, .ref 1595]) 1 rfl ?_
                  refine ge_cv rfl rfl rfl (t1595 s) rfl rfl rfl (D := 6) (Nat.le_trans (by decide) hd) (c_Ta_takeWord (n := n) (u := u) (t := t) (i := i_258) (r := r) s 52 (strAd 25)) ?_
                  rintro ⟨v_260, i_261⟩ -
                  dsimp only [bkE, F_i1]
                  refine ge_eq0 rfl (fun h_262 => ?_) (fun h_265 => ?_)
                  · refine ge_run (pc' := 88) (L' := [.ref 1597, .ref b1]) (S' := [.ref 1597]) 1 rfl ?_
                    refine ge_getR (b := 1595) rfl (t1597 s) rfl (r1597_0 s) (Nat.le_of_ble_eq_true rfl) ?_
                    refine ge_cv rfl rfl rfl (t1595 s) rfl rfl rfl (D := 1) (Nat.le_trans (by decide) hd) (c_Ta_refuse (n := n) (u := u) (t := t) (i := i_261) (r := r) s ) ?_
                    rintro ⟨⟨⟩ | c_264, i_263⟩ -
                    · dsimp only [bkE, F_tv1]
                      exact ge_retv rfl rfl (And.intro rfl trivial)
                    · exact ge_leaf (And.intro rfl trivial)
                  · refine ge_run (pc' := 81) (L' := [.ref 1597, .ref b1]) (S' := [.ref 1597, .ref b1]) 2 rfl ?_
                    refine ge_getR (b := 1595) rfl (t1597 s) rfl (r1597_0 s) (Nat.le_of_ble_eq_true rfl) ?_
                    refine ge_run (pc' := 84) (L' := [.ref 1597, .ref b1]) (S' := [.int (999 : Int32), .int (0 : Int32), .ref 1595, .ref b1]) 2 rfl ?_
                    refine ge_cv rfl rfl rfl (t1595 s) rfl rfl rfl (D := 3) (Nat.le_trans (by decide) hd) (c_Ta_number (n := n) (u := u) (t := t) (i := i_261) (r := r) s (0 : Int32) (999 : Int32)) ?_
                    rintro ⟨v_266 | c_268, i_267⟩ -
                    · dsimp only [bkE, F_ti1]
                      refine ge_putI rfl (sT0 s hb1) (sge0 hb1) rfl (fun i_269 => ?_)
                      refine ge_run (pc' := 90) (L' := [.ref 1597, .ref b1]) (S' := []) 1 rfl ?_
                      exact ge_retv rfl rfl (And.intro rfl trivial)
                    · exact ge_leaf (And.intro rfl trivial)
                · refine ge_run (pc' := 68) (L' := [.ref 1597, .ref b1]) (S' := [.ref 1597, .ref b1]) 2 rfl ?_
                  refine ge_getR (b := 1595) rfl (t1597 s) rfl (r1597_0 s) (Nat.le_of_ble_eq_true rfl) ?_
                  refine ge_run (pc' := 71) (L' := [.ref 1597, .ref b1]) (S' := [.int (999 : Int32), .int (0 : Int32), .ref 1595, .ref b1]) 2 rfl ?_
                  refine ge_cv rfl rfl rfl (t1595 s) rfl rfl rfl (D := 3) (Nat.le_trans (by decide) hd) (c_Ta_number (n := n) (u := u) (t := t) (i := i_258) (r := r) s (0 : Int32) (999 : Int32)) ?_
                  rintro ⟨v_271 | c_273, i_272⟩ -
                  · dsimp only [bkE, F_ti1]
                    refine ge_putI rfl (sT0 s hb1) (sge0 hb1) rfl (fun i_274 => ?_)
                    refine ge_run (pc' := 90) (L' := [.ref 1597, .ref b1]) (S' := []) 1 rfl ?_
                    exact ge_retv rfl rfl (And.intro rfl trivial)
                  · exact ge_leaf (And.intro rfl trivial)
              · refine ge_run (pc' := 54) (L' := [.ref 1597, .ref b1]) (S' := [.ref b1]) 1 rfl ?_
                refine ge_getI rfl (sT0 s hb1) rfl ?_
                refine ge_run (pc' := 56) (L' := [.ref 1597, .ref b1]) (S' := [.int (6 : Int32), .int (i b1 10)]) 1 rfl ?_
                refine ge_ge rfl (fun h_276 => ?_) (fun h_279 => ?_)
                · refine ge_run (pc' := 59) (L' := [.ref 1597, .ref b1]) (S' := [.ref b1, .ref 1597]) 2 rfl ?_
                  refine ge_cv rfl rfl rfl (t1597 s) rfl rfl rfl (D := 8) (Nat.le_trans (by decide) hd) (c_Sx_readDead (n := n) (u := u) (t := t) (i := i) (r := r) s b1 hb1) ?_
                  rintro ⟨⟨⟩ | c_278, i_277⟩ -
                  · dsimp only [bkE, F_tv1]
                    refine ge_run (pc' := 90) (L' := [.ref 1597, .ref b1]) (S' := []) 1 rfl ?_
                    exact ge_retv rfl rfl (And.intro rfl trivial)
                  · exact ge_leaf (And.intro rfl trivial)
                · refine ge_run (pc' := 62) (L' := [.ref 1597, .ref b1]) (S' := [.ref 1597]) 1 rfl ?_
                  refine ge_getR (b := 1595) rfl (t1597 s) rfl (r1597_0 s) (Nat.le_of_ble_eq_true rfl) ?_
                  refine ge_run (pc' := 64) (L' := [.ref 1597, .ref b1]) (S' := [.ref 50, .ref 1595]) 1 rfl ?_
                  refine ge_cv rfl rfl rfl (t1595 s) rfl rfl rfl (D := 6) (Nat.le_trans (by decide) hd) (c_Ta_takeWord (n := n) (u := u) (t := t) (i := i) (r := r) s 50 (strAd 24)) ?_
                  rintro ⟨v_280, i_281⟩ -
                  dsimp only [bkE, F_i1]
                  refine ge_eq0 rfl (fun h_282 => ?_) (fun h_293 => ?_)
                  · refine ge_run (pc' := 75) (L' := [.ref 1597, .ref b1]) (S' := [.ref 1597]) 1 rfl ?_
                    refine ge_getR (b := 1595) rfl (t1597 s) rfl (r1597_0 s) (Nat.le_of_ble_eq_true rfl) ?_
                    refine ge_run (pc' := 77) (L' := [.ref 1597, .ref b1]) (S' := [.ref 52, .ref 1595]) 1 rfl ?_
                    refine ge_cv rfl rfl rfl (t1595 s) rfl rfl rfl (D := 6) (Nat.le_trans (by decide) hd) (c_Ta_takeWord (n := n) (u := u) (t := t) (i := i_281) (r := r) s 52 (strAd 25)) ?_
                    rintro ⟨v_283, i_284⟩ -
                    dsimp only [bkE, F_i1]
                    refine ge_eq0 rfl (fun h_285 => ?_) (fun h_288 => ?_)
                    · refine ge_run (pc' := 88) (L' := [.ref 1597, .ref b1]) (S' := [.ref 1597]) 1 rfl ?_
                      refine ge_getR (b := 1595) rfl (t1597 s) rfl (r1597_0 s) (Nat.le_of_ble_eq_true rfl) ?_
                      refine ge_cv rfl rfl rfl (t1595 s) rfl rfl rfl (D := 1) (Nat.le_trans (by decide) hd) (c_Ta_refuse (n := n) (u := u) (t := t) (i := i_284) (r := r) s ) ?_
                      rintro ⟨⟨⟩ | c_287, i_286⟩ -
                      · dsimp only [bkE, F_tv1]
                        exact ge_retv rfl rfl (And.intro rfl trivial)
                      · exact ge_leaf (And.intro rfl trivial)
                    · refine ge_run (pc' := 81) (L' := [.ref 1597, .ref b1]) (S' := [.ref 1597, .ref b1]) 2 rfl ?_
                      refine ge_getR (b := 1595) rfl (t1597 s) rfl (r1597_0 s) (Nat.le_of_ble_eq_true rfl) ?_
                      refine ge_run (pc' := 84) (L' := [.ref 1597, .ref b1]) (S' := [.int (999 : Int32), .int (0 : Int32), .ref 1595, .ref b1]) 2 rfl ?_
                      refine ge_cv rfl rfl rfl (t1595 s) rfl rfl rfl (D := 3) (Nat.le_trans (by decide) hd) (c_Ta_number (n := n) (u := u) (t := t) (i := i_284) (r := r) s (0 : Int32) (999 : Int32)) ?_
                      rintro ⟨v_289 | c_291, i_290⟩ -
                      · dsimp only [bkE, F_ti1]
                        refine ge_putI rfl (sT0 s hb1) (sge0 hb1) rfl (fun i_292 => ?_)
                        refine ge_run (pc' := 90) (L' := [.ref 1597, .ref b1]) (S' := []) 1 rfl ?_
                        exact ge_retv rfl rfl (And.intro rfl trivial)
                      · exact ge_leaf (And.intro rfl trivial)
                  · refine ge_run (pc' := 68) (L' := [.ref 1597, .ref b1]) (S' := [.ref 1597, .ref b1]) 2 rfl ?_
                    refine ge_getR (b := 1595) rfl (t1597 s) rfl (r1597_0 s) (Nat.le_of_ble_eq_true rfl) ?_
                    refine ge_run (pc' := 71) (L' := [.ref 1597, .ref b1]) (S' := [.int (999 : Int32), .int (0 : Int32), .ref 1595, .ref b1]) 2 rfl ?_
                    refine ge_cv rfl rfl rfl (t1595 s) rfl rfl rfl (D := 3) (Nat.le_trans (by decide) hd) (c_Ta_number (n := n) (u := u) (t := t) (i := i_281) (r := r) s (0 : Int32) (999 : Int32)) ?_
                    rintro ⟨v_294 | c_296, i_295⟩ -
                    · dsimp only [bkE, F_ti1]
                      refine ge_putI rfl (sT0 s hb1) (sge0 hb1) rfl (fun i_297 => ?_)
                      refine ge_run (pc' := 90) (L' := [.ref 1597, .ref b1]) (S' := []) 1 rfl ?_
                      exact ge_retv rfl rfl (And.intro rfl trivial)
                    · exact ge_leaf (And.intro rfl trivial)
        · refine ge_run (pc' := 28) (L' := [.ref 1597, .ref b1]) (S' := [.ref b1]) 1 rfl ?_
          refine ge_getI rfl (sT0 s hb1) rfl ?_
          refine ge_run (pc' := 30) (L' := [.ref 1597, .ref b1]) (S' := [.int (3 : Int32), .int (i b1 8)]) 1 rfl ?_
          refine ge_ge rfl (fun h_299 => ?_) (fun h_302 => ?_)
          · refine ge_run (pc' := 33) (L' := [.ref 1597, .ref b1]) (S' := [.ref b1, .ref 1597]) 2 rfl ?_
            refine ge_cv rfl rfl rfl (t1597 s) rfl rfl rfl (D := 8) (Nat.le_trans (by decide) hd) (c_Sx_readBoat (n := n) (u := u) (t := t) (i := i) (r := r) s b1 hb1) ?_
            rintro ⟨⟨⟩ | c_301, i_300⟩ -
            · dsimp only [bkE, F_tv1]
              refine ge_run (pc' := 90) (L' := [.ref 1597, .ref b1]) (S' := []) 1 rfl ?_
              exact ge_retv rfl rfl (And.intro rfl trivial)
            · exact ge_leaf (And.intro rfl trivial)
          · refine ge_run (pc' := 36) (L' := [.ref 1597, .ref b1]) (S' := [.ref 1597]) 1 rfl ?_
            refine ge_getR (b := 1595) rfl (t1597 s) rfl (r1597_0 s) (Nat.le_of_ble_eq_true rfl) ?_
            refine ge_run (pc' := 38) (L' := [.ref 1597, .ref b1]) (S' := [.ref 38, .ref 1595]) 1 rfl ?_
            refine ge_cv rfl rfl rfl (t1595 s) rfl rfl rfl (D := 5) (Nat.le_trans (by decide) hd) (c_Ta_isWord (n := n) (u := u) (t := t) (i := i) (r := r) s 38 (strAd 18)) ?_
            rintro v_303 -
            dsimp only [bkE, F_i0]
            refine ge_eq0 rfl (fun h_304 => ?_) (fun h_348 => ?_)
            · refine ge_run (pc' := 49) (L' := [.ref 1597, .ref b1]) (S' := [.ref 1597]) 1 rfl ?_
              refine ge_getR (b := 1595) rfl (t1597 s) rfl (r1597_0 s) (Nat.le_of_ble_eq_true rfl) ?_
              refine ge_run (pc' := 51) (L' := [.ref 1597, .ref b1]) (S' := [.ref 46, .ref 1595]) 1 rfl ?_
              refine ge_cv rfl rfl rfl (t1595 s) rfl rfl rfl (D := 5) (Nat.le_trans (by decide) hd) (c_Ta_isWord (n := n) (u := u) (t := t) (i := i) (r := r) s 46 (strAd 22)) ?_
              rintro v_305 -
              dsimp only [bkE, F_i0]
              refine ge_eq0 rfl (fun h_306 => ?_) (fun h_325 => ?_)
              · refine ge_run (pc' := 62) (L' := [.ref 1597, .ref b1]) (S' := [.ref 1597]) 1 rfl ?_
                refine ge_getR (b := 1595) rfl (t1597 s) rfl (r1597_0 s) (Nat.le_of_ble_eq_true rfl) ?_
                refine ge_run (pc' := 64) (L' := [.ref 1597, .ref b1]) (S' := [.ref 50, .ref 1595]) 1 rfl ?_
                refine ge_cv rfl rfl rfl (t1595 s) rfl rfl rfl (D := 6) (Nat.le_trans (by decide) hd) (c_Ta_takeWord (n := n) (u := u) (t := t) (i := i) (r := r) s 50 (strAd 24)) ?_
                rintro ⟨v_307, i_308⟩ -
                dsimp only [bkE, F_i1]
                refine ge_eq0 rfl (fun h_309 => ?_) (fun h_320 => ?_)
                · refine ge_run (pc' := 75) (L' := [.ref 1597, .ref b1]) (S' := [.ref 1597]) 1 rfl ?_
                  refine ge_getR (b := 1595) rfl (t1597 s) rfl (r1597_0 s) (Nat.le_of_ble_eq_true rfl) ?_
                  refine ge_run (pc' := 77) (L' := [.ref 1597, .ref b1]) (S' := [.ref 52, .ref 1595]) 1 rfl ?_
                  refine ge_cv rfl rfl rfl (t1595 s) rfl rfl rfl (D := 6) (Nat.le_trans (by decide) hd) (c_Ta_takeWord (n := n) (u := u) (t := t) (i := i_308) (r := r) s 52 (strAd 25)) ?_
                  rintro ⟨v_310, i_311⟩ -
                  dsimp only [bkE, F_i1]
                  refine ge_eq0 rfl (fun h_312 => ?_) (fun h_315 => ?_)
                  · refine ge_run (pc' := 88) (L' := [.ref 1597, .ref b1]) (S' := [.ref 1597]) 1 rfl ?_
                    refine ge_getR (b := 1595) rfl (t1597 s) rfl (r1597_0 s) (Nat.le_of_ble_eq_true rfl) ?_
                    refine ge_cv rfl rfl rfl (t1595 s) rfl rfl rfl (D := 1) (Nat.le_trans (by decide) hd) (c_Ta_refuse (n := n) (u := u) (t := t) (i := i_311) (r := r) s ) ?_
                    rintro ⟨⟨⟩ | c_314, i_313⟩ -
                    · dsimp only [bkE, F_tv1]
                      exact ge_retv rfl rfl (And.intro rfl trivial)
                    · exact ge_leaf (And.intro rfl trivial)
                  · refine ge_run (pc' := 81) (L' := [.ref 1597, .ref b1]) (S' := [.ref 1597, .ref b1]) 2 rfl ?_
                    refine ge_getR (b := 1595) rfl (t1597 s) rfl (r1597_0 s) (Nat.le_of_ble_eq_true rfl) ?_
                    refine ge_run (pc' := 84) (L' := [.ref 1597, .ref b1]) (S' := [.int (999 : Int32), .int (0 : Int32), .ref 1595, .ref b1]) 2 rfl ?_
                    refine ge_cv rfl rfl rfl (t1595 s) rfl rfl rfl (D := 3) (Nat.le_trans (by decide) hd) (c_Ta_number (n := n) (u := u) (t := t) (i := i_311) (r := r) s (0 : Int32) (999 : Int32)) ?_
                    rintro ⟨v_316 | c_318, i_317⟩ -
                    · dsimp only [bkE, F_ti1]
                      refine ge_putI rfl (sT0 s hb1) (sge0 hb1) rfl (fun i_319 => ?_)
                      refine ge_run (pc' := 90) (L' := [.ref 1597, .ref b1]) (S' := []) 1 rfl ?_
                      exact ge_retv rfl rfl (And.intro rfl trivial)
                    · exact ge_leaf (And.intro rfl trivial)
                · refine ge_run (pc' := 68) (L' := [.ref 1597, .ref b1]) (S' := [.ref 1597, .ref b1]) 2 rfl ?_
                  refine ge_getR (b := 1595) rfl (t1597 s) rfl (r1597_0 s) (Nat.le_of_ble_eq_true rfl) ?_
                  refine ge_run (pc' := 71) (L' := [.ref 1597, .ref b1]) (S' := [.int (999 : Int32), .int (0 : Int32), .ref 1595, .ref b1]) 2 rfl ?_
                  refine ge_cv rfl rfl rfl (t1595 s) rfl rfl rfl (D := 3) (Nat.le_trans (by decide) hd) (c_Ta_number (n := n) (u := u) (t := t) (i := i_308) (r := r) s (0 : Int32) (999 : Int32)) ?_
                  rintro ⟨v_321 | c_323, i_322⟩ -
                  · dsimp only [bkE, F_ti1]
                    refine ge_putI rfl (sT0 s hb1) (sge0 hb1) rfl (fun i_324 => ?_)
                    refine ge_run (pc' := 90) (L' := [.ref 1597, .ref b1]) (S' := []) 1 rfl ?_
                    exact ge_retv rfl rfl (And.intro rfl trivial)
                  · exact ge_leaf (And.intro rfl trivial)
              · refine ge_run (pc' := 54) (L' := [.ref 1597, .ref b1]) (S' := [.ref b1]) 1 rfl ?_
                refine ge_getI rfl (sT0 s hb1) rfl ?_
                refine ge_run (pc' := 56) (L' := [.ref 1597, .ref b1]) (S' := [.int (6 : Int32), .int (i b1 10)]) 1 rfl ?_
                refine ge_ge rfl (fun h_326 => ?_) (fun h_329 => ?_)
                · refine ge_run (pc' := 59) (L' := [.ref 1597, .ref b1]) (S' := [.ref b1, .ref 1597]) 2 rfl ?_
                  refine ge_cv rfl rfl rfl (t1597 s) rfl rfl rfl (D := 8) (Nat.le_trans (by decide) hd) (c_Sx_readDead (n := n) (u := u) (t := t) (i := i) (r := r) s b1 hb1) ?_
                  rintro ⟨⟨⟩ | c_328, i_327⟩ -
                  · dsimp only [bkE, F_tv1]
                    refine ge_run (pc' := 90) (L' := [.ref 1597, .ref b1]) (S' := []) 1 rfl ?_
                    exact ge_retv rfl rfl (And.intro rfl trivial)
                  · exact ge_leaf (And.intro rfl trivial)
                · refine ge_run (pc' := 62) (L' := [.ref 1597, .ref b1]) (S' := [.ref 1597]) 1 rfl ?_
                  refine ge_getR (b := 1595) rfl (t1597 s) rfl (r1597_0 s) (Nat.le_of_ble_eq_true rfl) ?_
                  refine ge_run (pc' := 64) (L' := [.ref 1597, .ref b1]) (S' := [.ref 50, .ref 1595]) 1 rfl ?_
                  refine ge_cv rfl rfl rfl (t1595 s) rfl rfl rfl (D := 6) (Nat.le_trans (by decide) hd) (c_Ta_takeWord (n := n) (u := u) (t := t) (i := i) (r := r) s 50 (strAd 24)) ?_
                  rintro ⟨v_330, i_331⟩ -
                  dsimp only [bkE, F_i1]
                  refine ge_eq0 rfl (fun h_332 => ?_) (fun h_343 => ?_)
                  · refine ge_run (pc' := 75) (L' := [.ref 1597, .ref b1]) (S' := [.ref 1597]) 1 rfl ?_
                    refine ge_getR (b := 1595) rfl (t1597 s) rfl (r1597_0 s) (Nat.le_of_ble_eq_true rfl) ?_
                    refine ge_run (pc' := 77) (L' := [.ref 1597, .ref b1]) (S' := [.ref 52, .ref 1595]) 1 rfl ?_
                    refine ge_cv rfl rfl rfl (t1595 s) rfl rfl rfl (D := 6) (Nat.le_trans (by decide) hd) (c_Ta_takeWord (n := n) (u := u) (t := t) (i := i_331) (r := r) s 52 (strAd 25)) ?_
                    rintro ⟨v_333, i_334⟩ -
                    dsimp only [bkE, F_i1]
                    refine ge_eq0 rfl (fun h_335 => ?_) (fun h_338 => ?_)
                    · refine ge_run (pc' := 88) (L' := [.ref 1597, .ref b1]) (S' := [.ref 1597]) 1 rfl ?_
                      refine ge_getR (b := 1595) rfl (t1597 s) rfl (r1597_0 s) (Nat.le_of_ble_eq_true rfl) ?_
                      refine ge_cv rfl rfl rfl (t1595 s) rfl rfl rfl (D := 1) (Nat.le_trans (by decide) hd) (c_Ta_refuse (n := n) (u := u) (t := t) (i := i_334) (r := r) s ) ?_
                      rintro ⟨⟨⟩ | c_337, i_336⟩ -
                      · dsimp only [bkE, F_tv1]
                        exact ge_retv rfl rfl (And.intro rfl trivial)
                      · exact ge_leaf (And.intro rfl trivial)
                    · refine ge_run (pc' := 81) (L' := [.ref 1597, .ref b1]) (S' := [.ref 1597, .ref b1]) 2 rfl ?_
                      refine ge_getR (b := 1595) rfl (t1597 s) rfl (r1597_0 s) (Nat.le_of_ble_eq_true rfl) ?_
                      refine ge_run (pc' := 84) (L' := [.ref 1597, .ref b1]) (S' := [.int (999 : Int32), .int (0 : Int32), .ref 1595, .ref b1]) 2 rfl ?_
                      refine ge_cv rfl rfl rfl (t1595 s) rfl rfl rfl (D := 3) (Nat.le_trans (by decide) hd) (c_Ta_number (n := n) (u := u) (t := t) (i := i_334) (r := r) s (0 : Int32) (999 : Int32)) ?_
                      rintro ⟨v_339 | c_341, i_340⟩ -
                      · dsimp only [bkE, F_ti1]
                        refine ge_putI rfl (sT0 s hb1) (sge0 hb1) rfl (fun i_342 => ?_)
                        refine ge_run (pc' := 90) (L' := [.ref 1597, .ref b1]) (S' := []) 1 rfl ?_
                        exact ge_retv rfl rfl (And.intro rfl trivial)
                      · exact ge_leaf (And.intro rfl trivial)
                  · refine ge_run (pc' := 68) (L' := [.ref 1597, .ref b1]) (S' := [.ref 1597, .ref b1]) 2 rfl ?_
                    refine ge_getR (b := 1595) rfl (t1597 s) rfl (r1597_0 s) (Nat.le_of_ble_eq_true rfl) ?_
                    refine ge_run (pc' := 71) (L' := [.ref 1597, .ref b1]) (S' := [.int (999 : Int32), .int (0 : Int32), .ref 1595, .ref b1]) 2 rfl ?_
                    refine ge_cv rfl rfl rfl (t1595 s) rfl rfl rfl (D := 3) (Nat.le_trans (by decide) hd) (c_Ta_number (n := n) (u := u) (t := t) (i := i_331) (r := r) s (0 : Int32) (999 : Int32)) ?_
                    rintro ⟨v_344 | c_346, i_345⟩ -
                    · dsimp only [bkE, F_ti1]
                      refine ge_putI rfl (sT0 s hb1) (sge0 hb1) rfl (fun i_347 => ?_)
                      refine ge_run (pc' := 90) (L' := [.ref 1597, .ref b1]) (S' := []) 1 rfl ?_
                      exact ge_retv rfl rfl (And.intro rfl trivial)
                    · exact ge_leaf (And.intro rfl trivial)
            · refine ge_run (pc' := 41) (L' := [.ref 1597, .ref b1]) (S' := [.ref b1]) 1 rfl ?_
              refine ge_getI rfl (sT0 s hb1) rfl ?_
              refine ge_run (pc' := 43) (L' := [.ref 1597, .ref b1]) (S' := [.int (5 : Int32), .int (i b1 9)]) 1 rfl ?_
              refine ge_ge rfl (fun h_349 => ?_) (fun h_352 => ?_)
              · refine ge_run (pc' := 46) (L' := [.ref 1597, .ref b1]) (S' := [.ref b1, .ref 1597]) 2 rfl ?_
                refine ge_cv rfl rfl rfl (t1597 s) rfl rfl rfl (D := 8) (Nat.le_trans (by decide) hd) (c_Sx_readBuyer (n := n) (u := u) (t := t) (i := i) (r := r) s b1 hb1) ?_
                rintro ⟨⟨⟩ | c_351, i_350⟩ -
                · dsimp only [bkE, F_tv1]
                  refine ge_run (pc' := 90) (L' := [.ref 1597, .ref b1]) (S' := []) 1 rfl ?_
                  exact ge_retv rfl rfl (And.intro rfl trivial)
                · exact ge_leaf (And.intro rfl trivial)
              · refine ge_run (pc' := 49) (L' := [.ref 1597, .ref b1]) (S' := [.ref 1597]) 1 rfl ?_
                refine ge_getR (b := 1595) rfl (t1597 s) rfl (r1597_0 s) (Nat.le_of_ble_eq_true rfl) ?_
                refine ge_run (pc' := 51) (L' := [.ref 1597, .ref b1]) (S' := [.ref 46, .ref 1595]) 1 rfl ?_
                refine ge_cv rfl rfl rfl (t1595 s) rfl rfl rfl (D := 5) (Nat.le_trans (by decide) hd) (c_Ta_isWord (n := n) (u := u) (t := t) (i := i) (r := r) s 46 (strAd 22)) ?_
                rintro v_353 -
                dsimp only [bkE, F_i0]
                refine ge_eq0 rfl (fun h_354 => ?_) (fun h_373 => ?_)
                · refine ge_run (pc' := 62) (L' := [.ref 1597, .ref b1]) (S' := [.ref 1597]) 1 rfl ?_
                  refine ge_getR (b := 1595) rfl (t1597 s) rfl (r1597_0 s) (Nat.le_of_ble_eq_true rfl) ?_
                  refine ge_run (pc' := 64) (L' := [.ref 1597, .ref b1]) (S' := [.ref 50, .ref 1595]) 1 rfl ?_
                  refine ge_cv rfl rfl rfl (t1595 s) rfl rfl rfl (D := 6) (Nat.le_trans (by decide) hd) (c_Ta_takeWord (n := n) (u := u) (t := t) (i := i) (r := r) s 50 (strAd 24)) ?_
                  rintro ⟨v_355, i_356⟩ -
                  dsimp only [bkE, F_i1]
                  refine ge_eq0 rfl (fun h_357 => ?_) (fun h_368 => ?_)
                  · refine ge_run (pc' := 75) (L' := [.ref 1597, .ref b1]) (S' := [.ref 1597]) 1 rfl ?_
                    refine ge_getR (b := 1595) rfl (t1597 s) rfl (r1597_0 s) (Nat.le_of_ble_eq_true rfl) ?_
                    refine ge_run (pc' := 77) (L' := [.ref 1597, .ref b1]) (S' := [.ref 52, .ref 1595]) 1 rfl ?_
                    refine ge_cv rfl rfl rfl (t1595 s) rfl rfl rfl (D := 6) (Nat.le_trans (by decide) hd) (c_Ta_takeWord (n := n) (u := u) (t := t) (i := i_356) (r := r) s 52 (strAd 25)) ?_
                    rintro ⟨v_358, i_359⟩ -
                    dsimp only [bkE, F_i1]
                    refine ge_eq0 rfl (fun h_360 => ?_) (fun h_363 => ?_)
                    · refine ge_run (pc' := 88) (L' := [.ref 1597, .ref b1]) (S' := [.ref 1597]) 1 rfl ?_
                      refine ge_getR (b := 1595) rfl (t1597 s) rfl (r1597_0 s) (Nat.le_of_ble_eq_true rfl) ?_
                      refine ge_cv rfl rfl rfl (t1595 s) rfl rfl rfl (D := 1) (Nat.le_trans (by decide) hd) (c_Ta_refuse (n := n) (u := u) (t := t) (i := i_359) (r := r) s ) ?_
                      rintro ⟨⟨⟩ | c_362, i_361⟩ -
                      · dsimp only [bkE, F_tv1]
                        exact ge_retv rfl rfl (And.intro rfl trivial)
                      · exact ge_leaf (And.intro rfl trivial)
                    · refine ge_run (pc' := 81) (L' := [.ref 1597, .ref b1]) (S' := [.ref 1597, .ref b1]) 2 rfl ?_
                      refine ge_getR (b := 1595) rfl (t1597 s) rfl (r1597_0 s) (Nat.le_of_ble_eq_true rfl) ?_
                      refine ge_run (pc' := 84) (L' := [.ref 1597, .ref b1]) (S' := [.int (999 : Int32), .int (0 : Int32), .ref 1595, .ref b1]) 2 rfl ?_
                      refine ge_cv rfl rfl rfl (t1595 s) rfl rfl rfl (D := 3) (Nat.le_trans (by decide) hd) (c_Ta_number (n := n) (u := u) (t := t) (i := i_359) (r := r) s (0 : Int32) (999 : Int32)) ?_
                      rintro ⟨v_364 | c_366, i_365⟩ -
                      · dsimp only [bkE, F_ti1]
                        refine ge_putI rfl (sT0 s hb1) (sge0 hb1) rfl (fun i_367 => ?_)
                        refine ge_run (pc' := 90) (L' := [.ref 1597, .ref b1]) (S' := []) 1 rfl ?_
                        exact ge_retv rfl rfl (And.intro rfl trivial)
                      · exact ge_leaf (And.intro rfl trivial)
                  · refine ge_run (pc' := 68) (L' := [.ref 1597, .ref b1]) (S' := [.ref 1597, .ref b1]) 2 rfl ?_
                    refine ge_getR (b := 1595) rfl (t1597 s) rfl (r1597_0 s) (Nat.le_of_ble_eq_true rfl) ?_
                    refine ge_run (pc' := 71) (L' := [.ref 1597, .ref b1]) (S' := [.int (999 : Int32), .int (0 : Int32), .ref 1595, .ref b1]) 2 rfl ?_
                    refine ge_cv rfl rfl rfl (t1595 s) rfl rfl rfl (D := 3) (Nat.le_trans (by decide) hd) (c_Ta_number (n := n) (u := u) (t := t) (i := i_356) (r := r) s (0 : Int32) (999 : Int32)) ?_
                    rintro ⟨v_369 | c_371, i_370⟩ -
                    · dsimp only [bkE, F_ti1]
                      refine ge_putI rfl (sT0 s hb1) (sge0 hb1) rfl (fun i_372 => ?_)
                      refine ge_run (pc' := 90) (L' := [.ref 1597, .ref b1]) (S' := []) 1 rfl ?_
                      exact ge_retv rfl rfl (And.intro rfl trivial)
                    · exact ge_leaf (And.intro rfl trivial)
                · refine ge_run (pc' := 54) (L' := [.ref 1597, .ref b1]) (S' := [.ref b1]) 1 rfl ?_
                  refine ge_getI rfl (sT0 s hb1) rfl ?_
                  refine ge_run (pc' := 56) (L' := [.ref 1597, .ref b1]) (S' := [.int (6 : Int32), .int (i b1 10)]) 1 rfl ?_
                  refine ge_ge rfl (fun h_374 => ?_) (fun h_377 => ?_)
                  · refine ge_run (pc' := 59) (L' := [.ref 1597, .ref b1]) (S' := [.ref b1, .ref 1597]) 2 rfl ?_
                    refine ge_cv rfl rfl rfl (t1597 s) rfl rfl rfl (D := 8) (Nat.le_trans (by decide) hd) (c_Sx_readDead (n := n) (u := u) (t := t) (i := i) (r := r) s b1 hb1) ?_
                    rintro ⟨⟨⟩ | c_376, i_375⟩ -
                    · dsimp only [bkE, F_tv1]
                      refine ge_run (pc' := 90) (L' := [.ref 1597, .ref b1]) (S' := []) 1 rfl ?_
                      exact ge_retv rfl rfl (And.intro rfl trivial)
                    · exact ge_leaf (And.intro rfl trivial)
                  · refine ge_run (pc' := 62) (L' := [.ref 1597, .ref b1]) (S' := [.ref 1597]) 1 rfl ?_
                    refine ge_getR (b := 1595) rfl (t1597 s) rfl (r1597_0 s) (Nat.le_of_ble_eq_true rfl) ?_
                    refine ge_run (pc' := 64) (L' := [.ref 1597, .ref b1]) (S' := [.ref 50, .ref 1595]) 1 rfl ?_
                    refine ge_cv rfl rfl rfl (t1595 s) rfl rfl rfl (D := 6) (Nat.le_trans (by decide) hd) (c_Ta_takeWord (n := n) (u := u) (t := t) (i := i) (r := r) s 50 (strAd 24)) ?_
                    rintro ⟨v_378, i_379⟩ -
                    dsimp only [bkE, F_i1]
                    refine ge_eq0 rfl (fun h_380 => ?_) (fun h_391 => ?_)
                    · refine ge_run (pc' := 75) (L' := [.ref 1597, .ref b1]) (S' := [.ref 1597]) 1 rfl ?_
                      refine ge_getR (b := 1595) rfl (t1597 s) rfl (r1597_0 s) (Nat.le_of_ble_eq_true rfl) ?_
                      refine ge_run (pc' := 77) (L' := [.ref 1597, .ref b1]) (S' := [.ref 52, .ref 1595]) 1 rfl ?_
                      refine ge_cv rfl rfl rfl (t1595 s) rfl rfl rfl (D := 6) (Nat.le_trans (by decide) hd) (c_Ta_takeWord (n := n) (u := u) (t := t) (i := i_379) (r := r) s 52 (strAd 25)) ?_
                      rintro ⟨v_381, i_382⟩ -
                      dsimp only [bkE, F_i1]
                      refine ge_eq0 rfl (fun h_383 => ?_) (fun h_386 => ?_)
                      · refine ge_run (pc' := 88) (L' := [.ref 1597, .ref b1]) (S' := [.ref 1597]) 1 rfl ?_
                        refine ge_getR (b := 1595) rfl (t1597 s) rfl (r1597_0 s) (Nat.le_of_ble_eq_true rfl) ?_
                        refine ge_cv rfl rfl rfl (t1595 s) rfl rfl rfl (D := 1) (Nat.le_trans (by decide) hd) (c_Ta_refuse (n := n) (u := u) (t := t) (i := i_382) (r := r) s ) ?_
                        rintro ⟨⟨⟩ | c_385, i_384⟩ -
                        · dsimp only [bkE, F_tv1]
                          exact ge_retv rfl rfl (And.intro rfl trivial)
                        · exact ge_leaf (And.intro rfl trivial)
                      · refine ge_run (pc' := 81) (L' := [.ref 1597, .ref b1]) (S' := [.ref 1597, .ref b1]) 2 rfl ?_
                        refine ge_getR (b := 1595) rfl (t1597 s) rfl (r1597_0 s) (Nat.le_of_ble_eq_true rfl) ?_
                        refine ge_run (pc' := 84) (L' := [.ref 1597, .ref b1]) (S' := [.int (999 : Int32), .int (0 : Int32), .ref 1595, .ref b1]) 2 rfl ?_
                        refine ge_cv rfl rfl rfl (t1595 s) rfl rfl rfl (D := 3) (Nat.le_trans (by decide) hd) (c_Ta_number (n := n) (u := u) (t := t) (i := i_382) (r := r) s (0 : Int32) (999 : Int32)) ?_
                        rintro ⟨v_387 | c_389, i_388⟩ -
                        · dsimp only [bkE, F_ti1]
                          refine ge_putI rfl (sT0 s hb1) (sge0 hb1) rfl (fun i_390 => ?_)
                          refine ge_run (pc' := 90) (L' := [.ref 1597, .ref b1]) (S' := []) 1 rfl ?_
                          exact ge_retv rfl rfl (And.intro rfl trivial)
                        · exact ge_leaf (And.intro rfl trivial)
                    · refine ge_run (pc' := 68) (L' := [.ref 1597, .ref b1]) (S' := [.ref 1597, .ref b1]) 2 rfl ?_
                      refine ge_getR (b := 1595) rfl (t1597 s) rfl (r1597_0 s) (Nat.le_of_ble_eq_true rfl) ?_
                      refine ge_run (pc' := 71) (L' := [.ref 1597, .ref b1]) (S' := [.int (999 : Int32), .int (0 : Int32), .ref 1595, .ref b1]) 2 rfl ?_
                      refine ge_cv rfl rfl rfl (t1595 s) rfl rfl rfl (D := 3) (Nat.le_trans (by decide) hd) (c_Ta_number (n := n) (u := u) (t := t) (i := i_379) (r := r) s (0 : Int32) (999 : Int32)) ?_
                      rintro ⟨v_392 | c_394, i_393⟩ -
                      · dsimp only [bkE, F_ti1]
                        refine ge_putI rfl (sT0 s hb1) (sge0 hb1) rfl (fun i_395 => ?_)
                        refine ge_run (pc' := 90) (L' := [.ref 1597, .ref b1]) (S' := []) 1 rfl ?_
                        exact ge_retv rfl rfl (And.intro rfl trivial)
                      · exact ge_leaf (And.intro rfl trivial)
  · refine ge_run (pc' := 7) (L' := [.ref 1597, .ref b1]) (S' := [.ref b1, .ref 1597]) 2 rfl ?_
    refine ge_cv rfl rfl rfl (t1597 s) rfl rfl rfl (D := 8) (Nat.le_trans (by decide) hd) (c_Sx_readCurrent (n := n) (u := u) (t := t) (i := i) (r := r) s b1 hb1) ?_
    rintro ⟨⟨⟩ | c_398, i_397⟩ -
    · dsimp only [bkE, F_tv1]
      refine ge_run (pc' := 90) (L' := [.ref 1597, .ref b1]) (S' := []) 1 rfl ?_
      exact ge_retv rfl rfl (And.intro rfl trivial)
    · exact ge_leaf (And.intro rfl trivial)
def f_Ta_startText (i : MI) : Option (MI) :=
  bnd (wr i 1595 3 (i 1595 1)) (fun i_1 => bnd (wr i_1 1595 1 (0 : Int32)) (fun i_2 => bnd (wr i_2 1595 2 (-1 : Int32)) (fun i_3 => bnd (wr i_3 1595 6 (0 : Int32)) (fun i_4 => (f_Ta_step i_4).bind (fun i_5 => some i_5)))))
set_option maxHeartbeats 4000000 in
theorem c_Ta_startText {n u : Nat} {t : MT} {i : MI} {r : MR} (s : Sh n t r)  : Cn 3 108 [.ref 1595] (n, u, t, i, r) (f_Ta_startText i ) (F_v1 n u t r) PT := by
  refine cn_of (Y := K_Ta_startText) (L0 := [.ref 1595]) rfl rfl rfl ?_
  intro d hd
  unfold f_Ta_startText
  refine ge_run (pc' := 2) (L' := [.ref 1595]) (S' := [.ref 1595, .ref 1595]) 2 rfl ?_
  refine ge_getI rfl (t1595 s) rfl ?_
  refine ge_putI rfl (t1595 s) (Nat.le_of_ble_eq_true rfl) rfl (fun i_1 => ?_)
  refine ge_run (pc' := 6) (L' := [.ref 1595]) (S' := [.int (0 : Int32), .ref 1595]) 2 rfl ?_
  refine ge_putI rfl (t1595 s) (Nat.le_of_ble_eq_true rfl) rfl (fun i_2 => ?_)
  refine ge_run (pc' := 9) (L' := [.ref 1595]) (S' := [.int (-1 : Int32), .ref 1595]) 2 rfl ?_
  refine ge_putI rfl (t1595 s) (Nat.le_of_ble_eq_true rfl) rfl (fun i_3 => ?_)
  refine ge_run (pc' := 12) (L' := [.ref 1595]) (S' := [.int (0 : Int32), .ref 1595]) 2 rfl ?_
  refine ge_putI rfl (t1595 s) (Nat.le_of_ble_eq_true rfl) rfl (fun i_4 => ?_)
  refine ge_run (pc' := 14) (L' := [.ref 1595]) (S' := [.ref 1595]) 1 rfl ?_
  refine ge_cv rfl rfl rfl (t1595 s) rfl rfl rfl (D := 2) (Nat.le_trans (by decide) hd) (c_Ta_step (n := n) (u := u) (t := t) (i := i_4) (r := r) s ) ?_
  rintro i_5 -
  dsimp only [bkE, F_v1]
  exact ge_retv rfl rfl (And.intro rfl trivial)
def f_Ta_hasNextLine (i : MI) (x1 : Int32) (x2 : Int32) : Option ((Int32 ⊕ Nat) × MI) :=
  if x1 = 0 then (if (i 1595 4) = 0 then (some (.inl (0 : Int32), i)) else (some (.inl (1 : Int32), i))) else (if (i 1595 4) = 0 then (some (.inl (0 : Int32), i)) else ((f_Ta_takeSign i (59 : Int32)).bind (fun (v_7, i_8) => if v_7 = 0 then ((f_Ta_refuse i_8).bind (fun | (.inl (), i_10) => some (.inl (1 : Int32), i_10) | (.inr c_11, i_10) => some (.inr c_11, i_10))) else (if x1 < x2 then (some (.inl (1 : Int32), i_8)) else ((f_Ta_refuse i_8).bind (fun | (.inl (), i_15) => some (.inl (1 : Int32), i_15) | (.inr c_16, i_15) => some (.inr c_16, i_15)))))))
set_option maxHeartbeats 4000000 in
theorem c_Ta_hasNextLine {n u : Nat} {t : MT} {i : MI} {r : MR} (s : Sh n t r) (x1 : Int32) (x2 : Int32) : Cn 4 119 [.ref 1595, .int x1, .int x2] (n, u, t, i, r) (f_Ta_hasNextLine i x1 x2) (F_ti1 n u t r) PT := by
  refine cn_of (Y := K_Ta_hasNextLine) (L0 := [.ref 1595, .int x1, .int x2]) rfl rfl rfl ?_
  intro d hd
  unfold f_Ta_hasNextLine
  refine ge_run (pc' := 1) (L' := [.ref 1595, .int x1, .int x2]) (S' := [.int x1]) 1 rfl ?_
  refine ge_ne0 rfl (fun h_1 => ?_) (fun h_4 => ?_)
  · refine ge_run (pc' := 3) (L' := [.ref 1595, .int x1, .int x2]) (S' := [.ref 1595]) 1 rfl ?_
    refine ge_getI rfl (t1595 s) rfl ?_
    refine ge_eq0 rfl (fun h_2 => ?_) (fun h_3 => ?_)
    · refine ge_run (pc' := 8) (L' := [.ref 1595, .int x1, .int x2]) (S' := [.int (0 : Int32)]) 1 rfl ?_
      exact ge_retz rfl rfl (Or.inl rfl) (And.intro rfl trivial)
    · refine ge_run (pc' := 8) (L' := [.ref 1595, .int x1, .int x2]) (S' := [.int (1 : Int32)]) 2 rfl ?_
      exact ge_retz rfl rfl (Or.inr rfl) (And.intro rfl trivial)
  · refine ge_run (pc' := 10) (L' := [.ref 1595, .int x1, .int x2]) (S' := [.ref 1595]) 1 rfl ?_
    refine ge_getI rfl (t1595 s) rfl ?_
    refine ge_ne0 rfl (fun h_5 => ?_) (fun h_6 => ?_)
    · refine ge_run (pc' := 13) (L' := [.ref 1595, .int x1, .int x2]) (S' := [.int (0 : Int32)]) 1 rfl ?_
      exact ge_retz rfl rfl (Or.inl rfl) (And.intro rfl trivial)
    · refine ge_run (pc' := 16) (L' := [.ref 1595, .int x1, .int x2]) (S' := [.int (59 : Int32), .ref 1595]) 2 rfl ?_
      refine ge_cv rfl rfl rfl (t1595 s) rfl rfl rfl (D := 3) (Nat.le_trans (by decide) hd) (c_Ta_takeSign (n := n) (u := u) (t := t) (i := i) (r := r) s (59 : Int32)) ?_
      rintro ⟨v_7, i_8⟩ -
      dsimp only [bkE, F_i1]
      refine ge_eq0 rfl (fun h_9 => ?_) (fun h_12 => ?_)
      · refine ge_run (pc' := 22) (L' := [.ref 1595, .int x1, .int x2]) (S' := [.ref 1595]) 1 rfl ?_
        refine ge_cv rfl rfl rfl (t1595 s) rfl rfl rfl (D := 1) (Nat.le_trans (by decide) hd) (c_Ta_refuse (n := n) (u := u) (t := t) (i := i_8) (r := r) s ) ?_
        rintro ⟨⟨⟩ | c_11, i_10⟩ -
        · dsimp only [bkE, F_tv1]
          refine ge_run (pc' := 24) (L' := [.ref 1595, .int x1, .int x2]) (S' := [.int (1 : Int32)]) 1 rfl ?_
          exact ge_retz rfl rfl (Or.inr rfl) (And.intro rfl trivial)
        · exact ge_leaf (And.intro rfl trivial)
      · refine ge_run (pc' := 20) (L' := [.ref 1595, .int x1, .int x2]) (S' := [.int x2, .int x1]) 2 rfl ?_
        refine ge_lt rfl (fun h_13 => ?_) (fun h_14 => ?_)
        · refine ge_run (pc' := 24) (L' := [.ref 1595, .int x1, .int x2]) (S' := [.int (1 : Int32)]) 1 rfl ?_
          exact ge_retz rfl rfl (Or.inr rfl) (And.intro rfl trivial)
        · refine ge_run (pc' := 22) (L' := [.ref 1595, .int x1, .int x2]) (S' := [.ref 1595]) 1 rfl ?_
          refine ge_cv rfl rfl rfl (t1595 s) rfl rfl rfl (D := 1) (Nat.le_trans (by decide) hd) (c_Ta_refuse (n := n) (u := u) (t := t) (i := i_8) (r := r) s ) ?_
          rintro ⟨⟨⟩ | c_16, i_15⟩ -
          · dsimp only [bkE, F_tv1]
            refine ge_run (pc' := 24) (L' := [.ref 1595, .int x1, .int x2]) (S' := [.int (1 : Int32)]) 1 rfl ?_
            exact ge_retz rfl rfl (Or.inr rfl) (And.intro rfl trivial)
          · exact ge_leaf (And.intro rfl trivial)
def f_Sx_read (t : MT) (i : MI) (b1 : Nat) : Option ((Unit ⊕ Nat) × MI) :=
  (f_Ta_startText i).bind (fun i_1 => itr (σ := Int32 × MI) (ρ := (Unit ⊕ Nat) × MI) (fun (x2_2, i_3) => if (14 : Int32) < x2_2 then (some (.inr ((.inl (), i_3)))) else ((f_Ta_hasNextLine i_3 x2_2 (14 : Int32)).bind (fun | (.inl v_6, i_7) => if v_6 = 0 then (some (.inr ((.inl (), i_7)))) else ((f_Sx_readLine t i_7 b1).bind (fun | (.inl (), i_11) => some (.inl ((x2_2 + (1 : Int32)), i_11)) | (.inr c_12, i_11) => some (.inr ((.inr c_12, i_11))))) | (.inr c_8, i_7) => some (.inr ((.inr c_8, i_7)))))) 1000000 ((0 : Int32), i_1))
set_option maxHeartbeats 4000000 in
theorem c_Sx_read {n u : Nat} {t : MT} {i : MI} {r : MR} (s : Sh n t r) (b1 : Nat) (hb1 : SeaAd b1) : Cn 10 80 [.ref 1597, .ref b1] (n, u, t, i, r) (f_Sx_read t i b1) (F_tv1 n u t r) PT := by
  refine cn_of (Y := K_Sx_read) (L0 := [.ref 1597, .ref b1, uV]) rfl rfl rfl ?_
  intro d hd
  unfold f_Sx_read
  refine ge_run (pc' := 1) (L' := [.ref 1597, .ref b1, uV]) (S' := [.ref 1597]) 1 rfl ?_
  refine ge_getR (b := 1595) rfl (t1597 s) rfl (r1597_0 s) (Nat.le_of_ble_eq_true rfl) ?_
  refine ge_cv rfl rfl rfl (t1595 s) rfl rfl rfl (D := 3) (Nat.le_trans (by decide) hd) (c_Ta_startText (n := n) (u := u) (t := t) (i := i) (r := r) s ) ?_
  rintro i_1 -
  dsimp only [bkE, F_v1]
  refine ge_run (pc' := 5) (L' := [.ref 1597, .ref b1, .int (0 : Int32)]) (S' := []) 2 rfl ?_
  refine ge_itr (C := fun (q : Int32 × MI) e => e = .inl (5, [.ref 1597, .ref b1, .int q.1], [], (n, u, t, q.2, r))) ?_ _ _ _ rfl
  rintro ⟨x2_2, i_3⟩ _ rfl
  try dsimp only
  refine ge_run (pc' := 7) (L' := [.ref 1597, .ref b1, .int x2_2]) (S' := [.int (14 : Int32), .int x2_2]) 2 rfl ?_
  refine ge_gt rfl (fun h_4 => ?_) (fun h_5 => ?_)
  · exact ge_retv rfl rfl (And.intro rfl trivial)
  · refine ge_run (pc' := 9) (L' := [.ref 1597, .ref b1, .int x2_2]) (S' := [.ref 1597]) 1 rfl ?_
    refine ge_getR (b := 1595) rfl (t1597 s) rfl (r1597_0 s) (Nat.le_of_ble_eq_true rfl) ?_
    refine ge_run (pc' := 12) (L' := [.ref 1597, .ref b1, .int x2_2]) (S' := [.int (14 : Int32), .int x2_2, .ref 1595]) 2 rfl ?_
    refine ge_cv rfl rfl rfl (t1595 s) rfl rfl rfl (D := 4) (Nat.le_trans (by decide) hd) (c_Ta_hasNextLine (n := n) (u := u) (t := t) (i := i_3) (r := r) s x2_2 (14 : Int32)) ?_
    rintro ⟨v_6 | c_8, i_7⟩ -
    · dsimp only [bkE, F_ti1]
      refine ge_eq0 rfl (fun h_9 => ?_) (fun h_10 => ?_)
      · exact ge_retv rfl rfl (And.intro rfl trivial)
      · refine ge_run (pc' := 16) (L' := [.ref 1597, .ref b1, .int x2_2]) (S' := [.ref b1, .ref 1597]) 2 rfl ?_
        refine ge_cv rfl rfl rfl (t1597 s) rfl rfl rfl (D := 9) (Nat.le_trans (by decide) hd) (c_Sx_readLine (n := n) (u := u) (t := t) (i := i_7) (r := r) s b1 hb1) ?_
        rintro ⟨⟨⟩ | c_12, i_11⟩ -
        · dsimp only [bkE, F_tv1]
          refine ge_run (pc' := 5) (L' := [.ref 1597, .ref b1, .int (x2_2 + (1 : Int32))]) (S' := []) 2 rfl ?_
          exact ge_leaf (K := kX _ _) rfl
        · exact ge_leaf (And.intro rfl trivial)
    · exact ge_leaf (And.intro rfl trivial)
def f_Sl_bestSale (i : MI) (x1 : Int32) (x2 : Int32) (x3 : Int32) : Option (Int32) :=
  grd (x1 + (1 : Int32)) 6 (grd x2 256 ((itr (σ := Int32 × Int32) (ρ := Int32) (fun (x4_5, x5_6) => if x5_6 < (8 : Int32) then ((if ((shr x3 x5_6) &&& (1 : Int32)) = 0 then (some x4_5) else (grd x5_6 8 (grd (x1 + (1 : Int32)) 6 (grd (x2 ||| (shl (1 : Int32) x5_6)) 256 ((f_J_max x4_5 ((i 1628 (ix x5_6)) + (i (1622 + (ix (x1 + (1 : Int32)))) (ix (x2 ||| (shl (1 : Int32) x5_6)))))).bind (fun v_19 => some v_19))))) : Option (Int32)).bind (fun x4_10 => some (.inl (x4_10, (x5_6 + (1 : Int32)))))) else (some (.inr x4_5))) 1000000 ((i (1622 + (ix (x1 + (1 : Int32)))) (ix x2)), (0 : Int32))).bind (fun x4_7 => some (x4_7))))
set_option maxHeartbeats 4000000 in
theorem c_Sl_bestSale {n u : Nat} {t : MT} {i : MI} {r : MR} (s : Sh n t r) (x1 : Int32) (x2 : Int32) (x3 : Int32) : Cn 2 95 [.ref 1620, .int x1, .int x2, .int x3] (n, u, t, i, r) (f_Sl_bestSale i x1 x2 x3) (F_i0 n u t i r) PT := by
  refine cn_of (Y := K_Sl_bestSale) (L0 := [.ref 1620, .int x1, .int x2, .int x3, uV, uV]) rfl rfl rfl ?_
  intro d hd
  unfold f_Sl_bestSale
  refine ge_run (pc' := 1) (L' := [.ref 1620, .int x1, .int x2, .int x3, uV, uV]) (S' := [.ref 1620]) 1 rfl ?_
  refine ge_getR (b := 1621) rfl (t1620 s) rfl (r1620_0 s) (Nat.le_of_ble_eq_true rfl) ?_
  refine ge_run (pc' := 5) (L' := [.ref 1620, .int x1, .int x2, .int x3, uV, uV]) (S' := [.int (x1 + (1 : Int32)), .ref 1621]) 3 rfl ?_
  refine ge_grd (fun g_1 g_2 => ?_)
  refine ge_aald (jn := (ix (x1 + (1 : Int32)))) (b := (1622 + (ix (x1 + (1 : Int32))))) rfl (t1621 s) (Or.inl rfl) ⟨g_1, rfl⟩ g_2 (rowR1622 s g_2) (Nat.le_trans (Nat.le_of_ble_eq_true rfl) (Nat.le_add_right 1622 _)) ?_
  refine ge_run (pc' := 7) (L' := [.ref 1620, .int x1, .int x2, .int x3, uV, uV]) (S' := [.int x2, .ref (1622 + (ix (x1 + (1 : Int32))))]) 1 rfl ?_
  refine ge_grd (fun g_3 g_4 => ?_)
  refine ge_iald (jn := (ix x2)) rfl (rowT1622 s g_2) ⟨g_3, rfl⟩ g_4 ?_
  refine ge_run (pc' := 11) (L' := [.ref 1620, .int x1, .int x2, .int x3, .int (i (1622 + (ix (x1 + (1 : Int32)))) (ix x2)), .int (0 : Int32)]) (S' := []) 3 rfl ?_
  refine ge_bind (K1 := fun (q : Int32) e => ∃ w_8 : Value, e = .inl (42, [.ref 1620, .int x1, .int x2, .int x3, .int q, w_8], [], (n, u, t, i, r))) (ge_itr (C := fun (q : Int32 × Int32) e => e = .inl (11, [.ref 1620, .int x1, .int x2, .int x3, .int q.1, .int q.2], [], (n, u, t, i, r))) ?_ _ _ _ rfl) ?_
  · rintro ⟨x4_5, x5_6⟩ _ rfl
    try dsimp only
    refine ge_run (pc' := 13) (L' := [.ref 1620, .int x1, .int x2, .int x3, .int x4_5, .int x5_6]) (S' := [.int (8 : Int32), .int x5_6]) 2 rfl ?_
    refine ge_ge rfl (fun h_9 => ?_) (fun h_20 => ?_)
    · refine ge_run (pc' := 19) (L' := [.ref 1620, .int x1, .int x2, .int x3, .int x4_5, .int x5_6]) (S' := [.int ((shr x3 x5_6) &&& (1 : Int32))]) 5 rfl ?_
      refine ge_bind (K1 := fun (q : Int32) e => e = .inl (40, [.ref 1620, .int x1, .int x2, .int x3, .int q, .int x5_6], [], (n, u, t, i, r))) ?_ ?_
      · refine ge_eq0 rfl (fun h_11 => ?_) (fun h_12 => ?_)
        · exact ge_leaf rfl
        · refine ge_run (pc' := 22) (L' := [.ref 1620, .int x1, .int x2, .int x3, .int x4_5, .int x5_6]) (S' := [.ref 1620, .int x4_5]) 2 rfl ?_
          refine ge_getR (b := 1628) rfl (t1620 s) rfl (r1620_1 s) (Nat.le_of_ble_eq_true rfl) ?_
          refine ge_run (pc' := 24) (L' := [.ref 1620, .int x1, .int x2, .int x3, .int x4_5, .int x5_6]) (S' := [.int x5_6, .ref 1628, .int x4_5]) 1 rfl ?_
          refine ge_grd (fun g_13 g_14 => ?_)
          refine ge_iald (jn := (ix x5_6)) rfl (t1628 s) ⟨g_13, rfl⟩ g_14 ?_
          refine ge_run (pc' := 26) (L' := [.ref 1620, .int x1, .int x2, .int x3, .int x4_5, .int x5_6]) (S' := [.ref 1620, .int (i 1628 (ix x5_6)), .int x4_5]) 1 rfl ?_
          refine ge_getR (b := 1621) rfl (t1620 s) rfl (r1620_0 s) (Nat.le_of_ble_eq_true rfl) ?_
          refine ge_run (pc' := 30) (L' := [.ref 1620, .int x1, .int x2, .int x3, .int x4_5, .int x5_6]) (S' := [.int (x1 + (1 : Int32)), .ref 1621, .int (i 1628 (ix x5_6)), .int x4_5]) 3 rfl ?_
          refine ge_grd (fun g_15 g_16 => ?_)
          refine ge_aald (jn := (ix (x1 + (1 : Int32)))) (b := (1622 + (ix (x1 + (1 : Int32))))) rfl (t1621 s) (Or.inl rfl) ⟨g_15, rfl⟩ g_16 (rowR1622 s g_16) (Nat.le_trans (Nat.le_of_ble_eq_true rfl) (Nat.le_add_right 1622 _)) ?_
          refine ge_run (pc' := 36) (L' := [.ref 1620, .int x1, .int x2, .int x3, .int x4_5, .int x5_6]) (S' := [.int (x2 ||| (shl (1 : Int32) x5_6)), .ref (1622 + (ix (x1 + (1 : Int32)))), .int (i 1628 (ix x5_6)), .int x4_5]) 5 rfl ?_
          refine ge_grd (fun g_17 g_18 => ?_)
          refine ge_iald (jn := (ix (x2 ||| (shl (1 : Int32) x5_6)))) rfl (rowT1622 s g_16) ⟨g_17, rfl⟩ g_18 ?_
          refine ge_run (pc' := 38) (L' := [.ref 1620, .int x1, .int x2, .int x3, .int x4_5, .int x5_6]) (S' := [.int ((i 1628 (ix x5_6)) + (i (1622 + (ix (x1 + (1 : Int32)))) (ix (x2 ||| (shl (1 : Int32) x5_6))))), .int x4_5]) 1 rfl ?_
          refine ge_cs rfl rfl rfl rfl rfl rfl (D := 1) (Nat.le_trans (by decide) hd) (c_J_max (n := n) (u := u) (t := t) (i := i) (r := r) s x4_5 ((i 1628 (ix x5_6)) + (i (1622 + (ix (x1 + (1 : Int32)))) (ix (x2 ||| (shl (1 : Int32) x5_6)))))) ?_
          rintro v_19 -
          dsimp only [bkE, F_i0]
          refine ge_run (pc' := 40) (L' := [.ref 1620, .int x1, .int x2, .int x3, .int v_19, .int x5_6]) (S' := []) 1 rfl ?_
          exact ge_leaf rfl
      · rintro x4_10 _ rfl
        try dsimp only
        refine ge_run (pc' := 11) (L' := [.ref 1620, .int x1, .int x2, .int x3, .int x4_10, .int (x5_6 + (1 : Int32))]) (S' := []) 2 rfl ?_
        exact ge_leaf (K := kX _ _) rfl
    · exact ge_leaf (K := kX _ _) (Exists.intro _ rfl)
  · rintro x4_7 _ ⟨w_8, rfl⟩
    try dsimp only
    refine ge_run (pc' := 43) (L' := [.ref 1620, .int x1, .int x2, .int x3, .int x4_7, w_8]) (S' := [.int x4_7]) 1 rfl ?_
    exact ge_ret rfl rfl (And.intro rfl trivial)
def f_Sl_firstSale (i : MI) (x1 : Int32) (x2 : Int32) (x3 : Int32) : Option (Int32) :=
  grd (x1 + (1 : Int32)) 6 (grd x2 256 (grd x1 6 (if (i (1622 + (ix (x1 + (1 : Int32)))) (ix x2)) = (i (1622 + (ix x1)) (ix x2)) then (some ((-1 : Int32))) else (itr (σ := Int32) (ρ := Int32) (fun x4_9 => if x4_9 < (8 : Int32) then (if ((shr x3 x4_9) &&& (1 : Int32)) = 0 then (some (.inl (x4_9 + (1 : Int32)))) else (grd x4_9 8 (grd (x1 + (1 : Int32)) 6 (grd (x2 ||| (shl (1 : Int32) x4_9)) 256 (grd x1 6 (grd x2 256 (if ((i 1628 (ix x4_9)) + (i (1622 + (ix (x1 + (1 : Int32)))) (ix (x2 ||| (shl (1 : Int32) x4_9))))) = (i (1622 + (ix x1)) (ix x2)) then (some (.inr ((x4_9)))) else (some (.inl (x4_9 + (1 : Int32))))))))))) else (some (.inr (((-1 : Int32)))))) 1000000 (0 : Int32)))))
set_option maxHeartbeats 4000000 in
theorem c_Sl_firstSale {n u : Nat} {t : MT} {i : MI} {r : MR} (s : Sh n t r) (x1 : Int32) (x2 : Int32) (x3 : Int32) : Cn 1 96 [.ref 1620, .int x1, .int x2, .int x3] (n, u, t, i, r) (f_Sl_firstSale i x1 x2 x3) (F_i0 n u t i r) PT := by
  refine cn_of (Y := K_Sl_firstSale) (L0 := [.ref 1620, .int x1, .int x2, .int x3, uV]) rfl rfl rfl ?_
  intro d hd
  unfold f_Sl_firstSale
  refine ge_run (pc' := 1) (L' := [.ref 1620, .int x1, .int x2, .int x3, uV]) (S' := [.ref 1620]) 1 rfl ?_
  refine ge_getR (b := 1621) rfl (t1620 s) rfl (r1620_0 s) (Nat.le_of_ble_eq_true rfl) ?_
  refine ge_run (pc' := 5) (L' := [.ref 1620, .int x1, .int x2, .int x3, uV]) (S' := [.int (x1 + (1 : Int32)), .ref 1621]) 3 rfl ?_
  refine ge_grd (fun g_1 g_2 => ?_)
  refine ge_aald (jn := (ix (x1 + (1 : Int32)))) (b := (1622 + (ix (x1 + (1 : Int32))))) rfl (t1621 s) (Or.inl rfl) ⟨g_1, rfl⟩ g_2 (rowR1622 s g_2) (Nat.le_trans (Nat.le_of_ble_eq_true rfl) (Nat.le_add_right 1622 _)) ?_
  refine ge_run (pc' := 7) (L' := [.ref 1620, .int x1, .int x2, .int x3, uV]) (S' := [.int x2, .ref (1622 + (ix (x1 + (1 : Int32))))]) 1 rfl ?_
  refine ge_grd (fun g_3 g_4 => ?_)
  refine ge_iald (jn := (ix x2)) rfl (rowT1622 s g_2) ⟨g_3, rfl⟩ g_4 ?_
  refine ge_run (pc' := 9) (L' := [.ref 1620, .int x1, .int x2, .int x3, uV]) (S' := [.ref 1620, .int (i (1622 + (ix (x1 + (1 : Int32)))) (ix x2))]) 1 rfl ?_
  refine ge_getR (b := 1621) rfl (t1620 s) rfl (r1620_0 s) (Nat.le_of_ble_eq_true rfl) ?_
  refine ge_run (pc' := 11) (L' := [.ref 1620, .int x1, .int x2, .int x3, uV]) (S' := [.int x1, .ref 1621, .int (i (1622 + (ix (x1 + (1 : Int32)))) (ix x2))]) 1 rfl ?_
  refine ge_grd (fun g_5 g_6 => ?_)
  refine ge_aald (jn := (ix x1)) (b := (1622 + (ix x1))) rfl (t1621 s) (Or.inl rfl) ⟨g_5, rfl⟩ g_6 (rowR1622 s g_6) (Nat.le_trans (Nat.le_of_ble_eq_true rfl) (Nat.le_add_right 1622 _)) ?_
  refine ge_run (pc' := 13) (L' := [.ref 1620, .int x1, .int x2, .int x3, uV]) (S' := [.int x2, .ref (1622 + (ix x1)), .int (i (1622 + (ix (x1 + (1 : Int32)))) (ix x2))]) 1 rfl ?_
  refine ge_iald (jn := (ix x2)) rfl (rowT1622 s g_6) ⟨g_3, rfl⟩ g_4 ?_
  refine ge_ne rfl (fun h_7 => ?_) (fun h_8 => ?_)
  · refine ge_run (pc' := 16) (L' := [.ref 1620, .int x1, .int x2, .int x3, uV]) (S' := [.int (-1 : Int32)]) 1 rfl ?_
    exact ge_ret rfl rfl (And.intro rfl trivial)
  · refine ge_run (pc' := 19) (L' := [.ref 1620, .int x1, .int x2, .int x3, .int (0 : Int32)]) (S' := []) 2 rfl ?_
    refine ge_itr (C := fun (q : Int32) e => e = .inl (19, [.ref 1620, .int x1, .int x2, .int x3, .int q], [], (n, u, t, i, r))) ?_ _ _ _ rfl
    rintro x4_9 _ rfl
    try dsimp only
    refine ge_run (pc' := 21) (L' := [.ref 1620, .int x1, .int x2, .int x3, .int x4_9]) (S' := [.int (8 : Int32), .int x4_9]) 2 rfl ?_
    refine ge_ge rfl (fun h_10 => ?_) (fun h_25 => ?_)
    · refine ge_run (pc' := 27) (L' := [.ref 1620, .int x1, .int x2, .int x3, .int x4_9]) (S' := [.int ((shr x3 x4_9) &&& (1 : Int32))]) 5 rfl ?_
      refine ge_eq0 rfl (fun h_11 => ?_) (fun h_12 => ?_)
      · refine ge_run (pc' := 19) (L' := [.ref 1620, .int x1, .int x2, .int x3, .int (x4_9 + (1 : Int32))]) (S' := []) 2 rfl ?_
        exact ge_leaf (K := kX _ _) rfl
      · refine ge_run (pc' := 29) (L' := [.ref 1620, .int x1, .int x2, .int x3, .int x4_9]) (S' := [.ref 1620]) 1 rfl ?_
        refine ge_getR (b := 1628) rfl (t1620 s) rfl (r1620_1 s) (Nat.le_of_ble_eq_true rfl) ?_
        refine ge_run (pc' := 31) (L' := [.ref 1620, .int x1, .int x2, .int x3, .int x4_9]) (S' := [.int x4_9, .ref 1628]) 1 rfl ?_
        refine ge_grd (fun g_13 g_14 => ?_)
        refine ge_iald (jn := (ix x4_9)) rfl (t1628 s) ⟨g_13, rfl⟩ g_14 ?_
        refine ge_run (pc' := 33) (L' := [.ref 1620, .int x1, .int x2, .int x3, .int x4_9]) (S' := [.ref 1620, .int (i 1628 (ix x4_9))]) 1 rfl ?_
        refine ge_getR (b := 1621) rfl (t1620 s) rfl (r1620_0 s) (Nat.le_of_ble_eq_true rfl) ?_
        refine ge_run (pc' := 37) (L' := [.ref 1620, .int x1, .int x2, .int x3, .int x4_9]) (S' := [.int (x1 + (1 : Int32)), .ref 1621, .int (i 1628 (ix x4_9))]) 3 rfl ?_
        refine ge_grd (fun g_15 g_16 => ?_)
        refine ge_aald (jn := (ix (x1 + (1 : Int32)))) (b := (1622 + (ix (x1 + (1 : Int32))))) rfl (t1621 s) (Or.inl rfl) ⟨g_15, rfl⟩ g_16 (rowR1622 s g_16) (Nat.le_trans (Nat.le_of_ble_eq_true rfl) (Nat.le_add_right 1622 _)) ?_
        refine ge_run (pc' := 43) (L' := [.ref 1620, .int x1, .int x2, .int x3, .int x4_9]) (S' := [.int (x2 ||| (shl (1 : Int32) x4_9)), .ref (1622 + (ix (x1 + (1 : Int32)))), .int (i 1628 (ix x4_9))]) 5 rfl ?_
        refine ge_grd (fun g_17 g_18 => ?_)
        refine ge_iald (jn := (ix (x2 ||| (shl (1 : Int32) x4_9)))) rfl (rowT1622 s g_16) ⟨g_17, rfl⟩ g_18 ?_
        refine ge_run (pc' := 46) (L' := [.ref 1620, .int x1, .int x2, .int x3, .int x4_9]) (S' := [.ref 1620, .int ((i 1628 (ix x4_9)) + (i (1622 + (ix (x1 + (1 : Int32)))) (ix (x2 ||| (shl (1 : Int32) x4_9)))))]) 2 rfl ?_
        refine ge_getR (b := 1621) rfl (t1620 s) rfl (r1620_0 s) (Nat.le_of_ble_eq_true rfl) ?_
        refine ge_run (pc' := 48) (L' := [.ref 1620, .int x1, .int x2, .int x3, .int x4_9]) (S' := [.int x1, .ref 1621, .int ((i 1628 (ix x4_9)) + (i (1622 + (ix (x1 + (1 : Int32)))) (ix (x2 ||| (shl (1 : Int32) x4_9)))))]) 1 rfl ?_
        refine ge_grd (fun g_19 g_20 => ?_)
        refine ge_aald (jn := (ix x1)) (b := (1622 + (ix x1))) rfl (t1621 s) (Or.inl rfl) ⟨g_19, rfl⟩ g_20 (rowR1622 s g_20) (Nat.le_trans (Nat.le_of_ble_eq_true rfl) (Nat.le_add_right 1622 _)) ?_
        refine ge_run (pc' := 50) (L' := [.ref 1620, .int x1, .int x2, .int x3, .int x4_9]) (S' := [.int x2, .ref (1622 + (ix x1)), .int ((i 1628 (ix x4_9)) + (i (1622 + (ix (x1 + (1 : Int32)))) (ix (x2 ||| (shl (1 : Int32) x4_9)))))]) 1 rfl ?_
        refine ge_grd (fun g_21 g_22 => ?_)
        refine ge_iald (jn := (ix x2)) rfl (rowT1622 s g_20) ⟨g_21, rfl⟩ g_22 ?_
        refine ge_ne rfl (fun h_23 => ?_) (fun h_24 => ?_)
        · refine ge_run (pc' := 53) (L' := [.ref 1620, .int x1, .int x2, .int x3, .int x4_9]) (S' := [.int x4_9]) 1 rfl ?_
          exact ge_ret rfl rfl (And.intro rfl trivial)
        · refine ge_run (pc' := 19) (L' := [.ref 1620, .int x1, .int x2, .int x3, .int (x4_9 + (1 : Int32))]) (S' := []) 2 rfl ?_
          exact ge_leaf (K := kX _ _) rfl
    · refine ge_run (pc' := 57) (L' := [.ref 1620, .int x1, .int x2, .int x3, .int x4_9]) (S' := [.int (-1 : Int32)]) 1 rfl ?_
      exact ge_ret rfl rfl (And.intro rfl trivial)
def f_Sl_planSale (t : MT) (r : MR) (i : MI) (b1 : Nat) : Option (MI) :=
  (itr (σ := Int32 × MI) (ρ := MI) (fun (x4_1, i_2) => if x4_1 < (i_2 b1 7) then ((f_Se_price t r i_2 b1 x4_1).bind (fun (v_6, i_7) => grd x4_1 8 (bnd (wr i_7 1628 (ix x4_1) v_6) (fun i_10 => some (.inl ((x4_1 + (1 : Int32)), i_10)))))) else (some (.inr i_2))) 1000000 ((0 : Int32), i)).bind (fun i_3 => grd (i b1 9) 6 ((f_J_fill i_3 (1622 + (ix (i b1 9))) 256 (0 : Int32)).bind (fun i_14 => (itr (σ := Int32 × MI) (ρ := MI) (fun (x4_15, i_16) => if x4_15 < 0 then (some (.inr i_16)) else ((f_Se_mayBuy t r i_16 b1 x4_15).bind (fun (v_25, i_26) => (itr (σ := Int32 × MI) (ρ := MI) (fun (x6_27, i_28) => if x6_27 < (shl (1 : Int32) (i b1 7)) then (grd x4_15 6 ((f_Sl_bestSale i_28 x4_15 x6_27 (v_25 &&& (x6_27 ^^^ (-1 : Int32)))).bind (fun v_34 => grd x6_27 256 (bnd (wr i_28 (1622 + (ix x4_15)) (ix x6_27) v_34) (fun i_37 => some (.inl ((x6_27 + (1 : Int32)), i_37))))))) else (some (.inr i_28))) 1000000 ((0 : Int32), i_26)).bind (fun i_29 => some (.inl ((x4_15 + (-1 : Int32)), i_29)))))) 1000000 (((i b1 9) - (1 : Int32)), i_14)).bind (fun i_19 => bnd (wr i_19 1620 4 (i_19 (1622 + 0) 0)) (fun i_39 => (itr (σ := Int32 × Int32 × MI) (ρ := MI) (fun (x4_40, x5_41, i_42) => if x5_41 < (i b1 9) then ((f_Se_mayBuy t r i_42 b1 x5_41).bind (fun (v_47, i_48) => (f_Sl_firstSale i_48 x5_41 x4_40 (v_47 &&& (x4_40 ^^^ (-1 : Int32)))).bind (fun v_49 => grd x5_41 8 (bnd (wr i_48 1630 (ix x5_41) v_49) (fun i_52 => (if (i_52 1630 (ix x5_41)) = (-1 : Int32) then (some (0 : Int32)) else (some (shl (1 : Int32) (i_52 1630 (ix x5_41)))) : Option (Int32)).bind (fun y_53 => some (.inl ((x4_40 ||| y_53), (x5_41 + (1 : Int32)), i_52)))))))) else (some (.inr i_42))) 1000000 ((0 : Int32), (0 : Int32), i_39)).bind (fun i_43 => some i_43))))))
set_option maxHeartbeats 4000000 in
theorem c_Sl_planSale {n u : Nat} {t : MT} {i : MI} {r : MR} (s : Sh n t r) (b1 : Nat) (hb1 : SeaAd b1) : Cn 5 94 [.ref 1620, .ref b1] (n, u, t, i, r) (f_Sl_planSale t r i b1) (F_v1 n u t r) PT := by
  refine cn_of (Y := K_Sl_planSale) (L0 := [.ref 1620, .ref b1, uV, uV, uV, uV, uV]) rfl rfl rfl ?_
  intro d hd
  unfold f_Sl_planSale
  refine ge_run (pc' := 2) (L' := [.ref 1620, .ref b1, uV, uV, uV, uV, uV]) (S' := [.ref b1, .int (1 : Int32)]) 2 rfl ?_
  refine ge_getI rfl (sT0 s hb1) rfl ?_
  refine ge_run (pc' := 6) (L' := [.ref 1620, .ref b1, .int (shl (1 : Int32) (i b1 7)), uV, uV, uV, uV]) (S' := [.ref b1]) 3 rfl ?_
  refine ge_getI rfl (sT0 s hb1) rfl ?_
  refine ge_run (pc' := 10) (L' := [.ref 1620, .ref b1, .int (shl (1 : Int32) (i b1 7)), .int (i b1 9), .int (0 : Int32), uV, uV]) (S' := []) 3 rfl ?_
  refine ge_bind (K1 := fun (q : MI) e => ∃ w_4 : Value, e = .inl (23, [.ref 1620, .ref b1, .int (shl (1 : Int32) (i b1 7)), .int (i b1 9), w_4, uV, uV], [], (n, u, t, q, r))) (ge_itr (C := fun (q : Int32 × MI) e => e = .inl (10, [.ref 1620, .ref b1, .int (shl (1 : Int32) (i b1 7)), .int (i b1 9), .int q.1, uV, uV], [], (n, u, t, q.2, r))) ?_ _ _ _ rfl) ?_
  · rintro ⟨x4_1, i_2⟩ _ rfl
    try dsimp only
    refine ge_run (pc' := 12) (L' := [.ref 1620, .ref b1, .int (shl (1 : Int32) (i b1 7)), .int (i b1 9), .int x4_1, uV, uV]) (S' := [.ref b1, .int x4_1]) 2 rfl ?_
    refine ge_getI rfl (sT0 s hb1) rfl ?_
    refine ge_ge rfl (fun h_5 => ?_) (fun h_11 => ?_)
    · refine ge_run (pc' := 15) (L' := [.ref 1620, .ref b1, .int (shl (1 : Int32) (i b1 7)), .int (i b1 9), .int x4_1, uV, uV]) (S' := [.ref 1620]) 1 rfl ?_
      refine ge_getR (b := 1628) rfl (t1620 s) rfl (r1620_1 s) (Nat.le_of_ble_eq_true rfl) ?_
      refine ge_run (pc' := 19) (L' := [.ref 1620, .ref b1, .int (shl (1 : Int32) (i b1 7)), .int (i b1 9), .int x4_1, uV, uV]) (S' := [.int x4_1, .ref b1, .int x4_1, .ref 1628]) 3 rfl ?_
      refine ge_cv rfl rfl rfl (sT0 s hb1) rfl rfl rfl (D := 3) (Nat.le_trans (by decide) hd) (c_Se_price (n := n) (u := u) (t := t) (i := i_2) (r := r) s b1 hb1 x4_1) ?_
      rintro ⟨v_6, i_7⟩ -
      dsimp only [bkE, F_i1]
      refine ge_grd (fun g_8 g_9 => ?_)
      refine ge_iast (jn := (ix x4_1)) rfl (t1628 s) (Nat.le_of_ble_eq_true rfl) ⟨g_8, rfl⟩ g_9 (fun i_10 => ?_)
      refine ge_run (pc' := 10) (L' := [.ref 1620, .ref b1, .int (shl (1 : Int32) (i b1 7)), .int (i b1 9), .int (x4_1 + (1 : Int32)), uV, uV]) (S' := []) 2 rfl ?_
      exact ge_leaf (K := kX _ _) rfl
    · exact ge_leaf (K := kX _ _) (Exists.intro _ rfl)
  · rintro i_3 _ ⟨w_4, rfl⟩
    try dsimp only
    refine ge_run (pc' := 24) (L' := [.ref 1620, .ref b1, .int (shl (1 : Int32) (i b1 7)), .int (i b1 9), w_4, uV, uV]) (S' := [.ref 1620]) 1 rfl ?_
    refine ge_getR (b := 1621) rfl (t1620 s) rfl (r1620_0 s) (Nat.le_of_ble_eq_true rfl) ?_
    refine ge_run (pc' := 26) (L' := [.ref 1620, .ref b1, .int (shl (1 : Int32) (i b1 7)), .int (i b1 9), w_4, uV, uV]) (S' := [.int (i b1 9), .ref 1621]) 1 rfl ?_
    refine ge_grd (fun g_12 g_13 => ?_)
    refine ge_aald (jn := (ix (i b1 9))) (b := (1622 + (ix (i b1 9)))) rfl (t1621 s) (Or.inl rfl) ⟨g_12, rfl⟩ g_13 (rowR1622 s g_13) (Nat.le_trans (Nat.le_of_ble_eq_true rfl) (Nat.le_add_right 1622 _)) ?_
    refine ge_run (pc' := 28) (L' := [.ref 1620, .ref b1, .int (shl (1 : Int32) (i b1 7)), .int (i b1 9), w_4, uV, uV]) (S' := [.int (0 : Int32), .ref (1622 + (ix (i b1 9)))]) 1 rfl ?_
    refine ge_cs rfl rfl rfl rfl rfl rfl (D := 1) (Nat.le_trans (by decide) hd) (c_J_fill (n := n) (u := u) (t := t) (i := i_3) (r := r) s (1622 + (ix (i b1 9))) 256 (rowT1622 s g_13) (Nat.le_trans (Nat.le_of_ble_eq_true rfl) (Nat.le_add_right 1622 _)) (0 : Int32)) ?_
    rintro i_14 -
    dsimp only [bkE, F_v1]
    refine ge_run (pc' := 33) (L' := [.ref 1620, .ref b1, .int (shl (1 : Int32) (i b1 7)), .int (i b1 9), .int ((i b1 9) - (1 : Int32)), uV, uV]) (S' := []) 4 rfl ?_
    refine ge_bind (K1 := fun (q : MI) e => ∃ w_20 w_21 w_22 : Value, e = .inl (63, [.ref 1620, .ref b1, .int (shl (1 : Int32) (i b1 7)), .int (i b1 9), w_20, w_21, w_22], [], (n, u, t, q, r))) (ge_itr (C := fun (q : Int32 × MI) e => ∃ w_17 w_18 : Value, e = .inl (33, [.ref 1620, .ref b1, .int (shl (1 : Int32) (i b1 7)), .int (i b1 9), .int q.1, w_17, w_18], [], (n, u, t, q.2, r))) ?_ _ _ _ (Exists.intro _ (Exists.intro _ rfl))) ?_
    · rintro ⟨x4_15, i_16⟩ _ ⟨w_17, w_18, rfl⟩
      try dsimp only
      refine ge_run (pc' := 34) (L' := [.ref 1620, .ref b1, .int (shl (1 : Int32) (i b1 7)), .int (i b1 9), .int x4_15, w_17, w_18]) (S' := [.int x4_15]) 1 rfl ?_
      refine ge_lt0 rfl (fun h_23 => ?_) (fun h_24 => ?_)
      · exact ge_leaf (K := kX _ _) (Exists.intro _ (Exists.intro _ (Exists.intro _ rfl)))
      · refine ge_run (pc' := 37) (L' := [.ref 1620, .ref b1, .int (shl (1 : Int32) (i b1 7)), .int (i b1 9), .int x4_15, w_17, w_18]) (S' := [.int x4_15, .ref b1]) 2 rfl ?_
        refine ge_cv rfl rfl rfl (sT0 s hb1) rfl rfl rfl (D := 4) (Nat.le_trans (by decide) hd) (c_Se_mayBuy (n := n) (u := u) (t := t) (i := i_16) (r := r) s b1 hb1 x4_15) ?_
        rintro ⟨v_25, i_26⟩ -
        dsimp only [bkE, F_i1]
        refine ge_run (pc' := 41) (L' := [.ref 1620, .ref b1, .int (shl (1 : Int32) (i b1 7)), .int (i b1 9), .int x4_15, .int v_25, .int (0 : Int32)]) (S' := []) 3 rfl ?_
        refine ge_bind (K1 := fun (q : MI) e => ∃ w_30 : Value, e = .inl (61, [.ref 1620, .ref b1, .int (shl (1 : Int32) (i b1 7)), .int (i b1 9), .int x4_15, .int v_25, w_30], [], (n, u, t, q, r))) (ge_itr (C := fun (q : Int32 × MI) e => e = .inl (41, [.ref 1620, .ref b1, .int (shl (1 : Int32) (i b1 7)), .int (i b1 9), .int x4_15, .int v_25, .int q.1], [], (n, u, t, q.2, r))) ?_ _ _ _ rfl) ?_
        · rintro ⟨x6_27, i_28⟩ _ rfl
          try dsimp only
          refine ge_run (pc' := 43) (L' := [.ref 1620, .ref b1, .int (shl (1 : Int32) (i b1 7)), .int (i b1 9), .int x4_15, .int v_25, .int x6_27]) (S' := [.int (shl (1 : Int32) (i b1 7)), .int x6_27]) 2 rfl ?_
          refine ge_ge rfl (fun h_31 => ?_) (fun h_38 => ?_)
          · refine ge_run (pc' := 45) (L' := [.ref 1620, .ref b1, .int (shl (1 : Int32) (i b1 7)), .int (i b1 9), .int x4_15, .int v_25, .int x6_27]) (S' := [.ref 1620]) 1 rfl ?_
            refine ge_getR (b := 1621) rfl (t1620 s) rfl (r1620_0 s) (Nat.le_of_ble_eq_true rfl) ?_
            refine ge_run (pc' := 47) (L' := [.ref 1620, .ref b1, .int (shl (1 : Int32) (i b1 7)), .int (i b1 9), .int x4_15, .int v_25, .int x6_27]) (S' := [.int x4_15, .ref 1621]) 1 rfl ?_
            refine ge_grd (fun g_32 g_33 => ?_)
            refine ge_aald (jn := (ix x4_15)) (b := (1622 + (ix x4_15))) rfl (t1621 s) (Or.inl rfl) ⟨g_32, rfl⟩ g_33 (rowR1622 s g_33) (Nat.le_trans (Nat.le_of_ble_eq_true rfl) (Nat.le_add_right 1622 _)) ?_
            refine ge_run (pc' := 57) (L' := [.ref 1620, .ref b1, .int (shl (1 : Int32) (i b1 7)), .int (i b1 9), .int x4_15, .int v_25, .int x6_27]) (S' := [.int (v_25 &&& (x6_27 ^^^ (-1 : Int32))), .int x6_27, .int x4_15, .ref 1620, .int x6_27, .ref (1622 + (ix x4_15))]) 9 rfl ?_
            refine ge_cv rfl rfl rfl (t1620 s) rfl rfl rfl (D := 2) (Nat.le_trans (by decide) hd) (c_Sl_bestSale (n := n) (u := u) (t := t) (i := i_28) (r := r) s x4_15 x6_27 (v_25 &&& (x6_27 ^^^ (-1 : Int32)))) ?_
            rintro v_34 -
            dsimp only [bkE, F_i0]
            refine ge_grd (fun g_35 g_36 => ?_)
            refine ge_iast (jn := (ix x6_27)) rfl (rowT1622 s g_33) (Nat.le_trans (Nat.le_of_ble_eq_true rfl) (Nat.le_add_right 1622 _)) ⟨g_35, rfl⟩ g_36 (fun i_37 => ?_)
            refine ge_run (pc' := 41) (L' := [.ref 1620, .ref b1, .int (shl (1 : Int32) (i b1 7)), .int (i b1 9), .int x4_15, .int v_25, .int (x6_27 + (1 : Int32))]) (S' := []) 2 rfl ?_
            exact ge_leaf (K := kX _ _) rfl
          · exact ge_leaf (K := kX _ _) (Exists.intro _ rfl)
        · rintro i_29 _ ⟨w_30, rfl⟩
          try dsimp only
          refine ge_run (pc' := 33) (L' := [.ref 1620, .ref b1, .int (shl (1 : Int32) (i b1 7)), .int (i b1 9), .int (x4_15 + (-1 : Int32)), .int v_25, w_30]) (S' := []) 2 rfl ?_
          exact ge_leaf (K := kX _ _) (Exists.intro _ (Exists.intro _ rfl))
    · rintro i_19 _ ⟨w_20, w_21, w_22, rfl⟩
      try dsimp only
      refine ge_run (pc' := 65) (L' := [.ref 1620, .ref b1, .int (shl (1 : Int32) (i b1 7)), .int (i b1 9), w_20, w_21, w_22]) (S' := [.ref 1620, .ref 1620]) 2 rfl ?_
      refine ge_getR (b := 1621) rfl (t1620 s) rfl (r1620_0 s) (Nat.le_of_ble_eq_true rfl) ?_
      refine ge_run (pc' := 67) (L' := [.ref 1620, .ref b1, .int (shl (1 : Int32) (i b1 7)), .int (i b1 9), w_20, w_21, w_22]) (S' := [.int (0 : Int32), .ref 1621, .ref 1620]) 1 rfl ?_
      refine ge_aald (jn := 0) (b := (1622 + 0)) rfl (t1621 s) (Or.inl rfl) lk0 (by decide) (rowR1622 s (by decide)) (Nat.le_trans (Nat.le_of_ble_eq_true rfl) (Nat.le_add_right 1622 _)) ?_
      refine ge_run (pc' := 69) (L' := [.ref 1620, .ref b1, .int (shl (1 : Int32) (i b1 7)), .int (i b1 9), w_20, w_21, w_22]) (S' := [.int (0 : Int32), .ref (1622 + 0), .ref 1620]) 1 rfl ?_
      refine ge_iald (jn := 0) rfl (rowT1622 s (by decide)) lk0 (by decide) ?_
      refine ge_putI rfl (t1620 s) (Nat.le_of_ble_eq_true rfl) rfl (fun i_39 => ?_)
      refine ge_run (pc' := 75) (L' := [.ref 1620, .ref b1, .int (shl (1 : Int32) (i b1 7)), .int (i b1 9), .int (0 : Int32), .int (0 : Int32), w_22]) (S' := []) 4 rfl ?_
      refine ge_bind (K1 := fun (q : MI) e => ∃ w_44 w_45 : Value, e = .inl (112, [.ref 1620, .ref b1, .int (shl (1 : Int32) (i b1 7)), .int (i b1 9), w_44, w_45, w_22], [], (n, u, t, q, r))) (ge_itr (C := fun (q : Int32 × Int32 × MI) e => e = .inl (75, [.ref 1620, .ref b1, .int (shl (1 : Int32) (i b1 7)), .int (i b1 9), .int q.1, .int q.2.1, w_22], [], (n, u, t, q.2.2, r))) ?_ _ _ _ rfl) ?_
      · rintro ⟨x4_40, x5_41, i_42⟩ _ rfl
        try dsimp only
        refine ge_run (pc' := 77) (L' := [.ref 1620, .ref b1, .int (shl (1 : Int32) (i b1 7)), .int (i b1 9), .int x4_40, .int x5_41, w_22]) (S' := [.int (i b1 9), .int x5_41]) 2 rfl ?_
        refine ge_ge rfl (fun h_46 => ?_) (fun h_56 => ?_)
        · refine ge_run (pc' := 79) (L' := [.ref 1620, .ref b1, .int (shl (1 : Int32) (i b1 7)), .int (i b1 9), .int x4_40, .int x5_41, w_22]) (S' := [.ref 1620]) 1 rfl ?_
          refine ge_getR (b := 1630) rfl (t1620 s) rfl (r1620_3 s) (Nat.le_of_ble_eq_true rfl) ?_
          refine ge_run (pc' := 86) (L' := [.ref 1620, .ref b1, .int (shl (1 : Int32) (i b1 7)), .int (i b1 9), .int x4_40, .int x5_41, w_22]) (S' := [.int x5_41, .ref b1, .int x4_40, .int x5_41, .ref 1620, .int x5_41, .ref 1630]) 6 rfl ?_
          refine ge_cv rfl rfl rfl (sT0 s hb1) rfl rfl rfl (D := 4) (Nat.le_trans (by decide) hd) (c_Se_mayBuy (n := n) (u := u) (t := t) (i := i_42) (r := r) s b1 hb1 x5_41) ?_
          rintro ⟨v_47, i_48⟩ -
          dsimp only [bkE, F_i1]
          refine ge_run (pc' := 91) (L' := [.ref 1620, .ref b1, .int (shl (1 : Int32) (i b1 7)), .int (i b1 9), .int x4_40, .int x5_41, w_22]) (S' := [.int (v_47 &&& (x4_40 ^^^ (-1 : Int32))), .int x4_40, .int x5_41, .ref 1620, .int x5_41, .ref 1630]) 4 rfl ?_
          refine ge_cv rfl rfl rfl (t1620 s) rfl rfl rfl (D := 1) (Nat.le_trans (by decide) hd) (c_Sl_firstSale (n := n) (u := u) (t := t) (i := i_48) (r := r) s x5_41 x4_40 (v_47 &&& (x4_40 ^^^ (-1 : Int32)))) ?_
          rintro v_49 -
          dsimp only [bkE, F_i0]
          refine ge_grd (fun g_50 g_51 => ?_)
          refine ge_iast (jn := (ix x5_41)) rfl (t1630 s) (Nat.le_of_ble_eq_true rfl) ⟨g_50, rfl⟩ g_51 (fun i_52 => ?_)
          refine ge_run (pc' := 95) (L' := [.ref 1620, .ref b1, .int (shl (1 : Int32) (i b1 7)), .int (i b1 9), .int x4_40, .int x5_41, w_22]) (S' := [.ref 1620, .int x4_40]) 2 rfl ?_
          refine ge_getR (b := 1630) rfl (t1620 s) rfl (r1620_3 s) (Nat.le_of_ble_eq_true rfl) ?_
          refine ge_run (pc' := 97) (L' := [.ref 1620, .ref b1, .int (shl (1 : Int32) (i b1 7)), .int (i b1 9), .int x4_40, .int x5_41, w_22]) (S' := [.int x5_41, .ref 1630, .int x4_40]) 1 rfl ?_
          refine ge_iald (jn := (ix x5_41)) rfl (t1630 s) ⟨g_50, rfl⟩ g_51 ?_
          refine ge_run (pc' := 99) (L' := [.ref 1620, .ref b1, .int (shl (1 : Int32) (i b1 7)), .int (i b1 9), .int x4_40, .int x5_41, w_22]) (S' := [.int (-1 : Int32), .int (i_52 1630 (ix x5_41)), .int x4_40]) 1 rfl ?_
          refine ge_bind (K1 := fun (q : Int32) e => e = .inl (108, [.ref 1620, .ref b1, .int (shl (1 : Int32) (i b1 7)), .int (i b1 9), .int x4_40, .int x5_41, w_22], [.int q, .int x4_40], (n, u, t, i_52, r))) ?_ ?_
          · refine ge_ne rfl (fun h_54 => ?_) (fun h_55 => ?_)
            · refine ge_run (pc' := 108) (L' := [.ref 1620, .ref b1, .int (shl (1 : Int32) (i b1 7)), .int (i b1 9), .int x4_40, .int x5_41, w_22]) (S' := [.int (0 : Int32), .int x4_40]) 2 rfl ?_
              exact ge_leaf rfl
            · refine ge_run (pc' := 104) (L' := [.ref 1620, .ref b1, .int (shl (1 : Int32) (i b1 7)), .int (i b1 9), .int x4_40, .int x5_41, w_22]) (S' := [.ref 1620, .int (1 : Int32), .int x4_40]) 2 rfl ?_
              refine ge_getR (b := 1630) rfl (t1620 s) rfl (r1620_3 s) (Nat.le_of_ble_eq_true rfl) ?_
              refine ge_run (pc' := 106) (L' := [.ref 1620, .ref b1, .int (shl (1 : Int32) (i b1 7)), .int (i b1 9), .int x4_40, .int x5_41, w_22]) (S' := [.int x5_41, .ref 1630, .int (1 : Int32), .int x4_40]) 1 rfl ?_
              refine ge_iald (jn := (ix x5_41)) rfl (t1630 s) ⟨g_50, rfl⟩ g_51 ?_
              refine ge_run (pc' := 108) (L' := [.ref 1620, .ref b1, .int (shl (1 : Int32) (i b1 7)), .int (i b1 9), .int x4_40, .int x5_41, w_22]) (S' := [.int (shl (1 : Int32) (i_52 1630 (ix x5_41))), .int x4_40]) 1 rfl ?_
              exact ge_leaf rfl
          · rintro y_53 _ rfl
            try dsimp only
            refine ge_run (pc' := 75) (L' := [.ref 1620, .ref b1, .int (shl (1 : Int32) (i b1 7)), .int (i b1 9), .int (x4_40 ||| y_53), .int (x5_41 + (1 : Int32)), w_22]) (S' := []) 4 rfl ?_
            exact ge_leaf (K := kX _ _) rfl
        · exact ge_leaf (K := kX _ _) (Exists.intro _ (Exists.intro _ rfl))
      · rintro i_43 _ ⟨w_44, w_45, rfl⟩
        try dsimp only
        exact ge_retv rfl rfl (And.intro rfl trivial)
def f_Sl_gain (i : MI) (b1 : Nat) (x2 : Int32) (x3 : Int32) : Option (Int32) :=
  grd x2 8 (if 0 < ((i (b1 + 3 + (ix x2)) 2) - (x3 * (i 1629 (ix x2)))) then (some ((i (b1 + 3 + (ix x2)) 1))) else (some ((0 : Int32))))
set_option maxHeartbeats 4000000 in
theorem c_Sl_gain {n u : Nat} {t : MT} {i : MI} {r : MR} (s : Sh n t r) (b1 : Nat) (hb1 : SeaAd b1) (x2 : Int32) (x3 : Int32) : Cn 1 98 [.ref 1620, .ref b1, .int x2, .int x3] (n, u, t, i, r) (f_Sl_gain i b1 x2 x3) (F_i0 n u t i r) PT := by
  refine cn_of (Y := K_Sl_gain) (L0 := [.ref 1620, .ref b1, .int x2, .int x3]) rfl rfl rfl ?_
  intro d hd
  unfold f_Sl_gain
  refine ge_run (pc' := 1) (L' := [.ref 1620, .ref b1, .int x2, .int x3]) (S' := [.ref b1]) 1 rfl ?_
  refine ge_getR (b := (b1 + 2)) rfl (sT0 s hb1) rfl (sR1 s hb1) (sge hb1) ?_
  refine ge_run (pc' := 3) (L' := [.ref 1620, .ref b1, .int x2, .int x3]) (S' := [.int x2, .ref (b1 + 2)]) 1 rfl ?_
  refine ge_grd (fun g_1 g_2 => ?_)
  refine ge_aald (jn := (ix x2)) (b := (b1 + 3 + (ix x2))) rfl (sT2 s hb1) (Or.inl rfl) ⟨g_1, rfl⟩ g_2 (sRr_fish s hb1 g_2) (sge2 hb1) ?_
  refine ge_run (pc' := 5) (L' := [.ref 1620, .ref b1, .int x2, .int x3]) (S' := [.int (2 : Int32), .ref (b1 + 3 + (ix x2))]) 1 rfl ?_
  refine ge_iald (jn := 2) rfl (sRow_fish s hb1 g_2) lk2 (by decide) ?_
  refine ge_run (pc' := 8) (L' := [.ref 1620, .ref b1, .int x2, .int x3]) (S' := [.ref 1620, .int x3, .int (i (b1 + 3 + (ix x2)) 2)]) 2 rfl ?_
  refine ge_getR (b := 1629) rfl (t1620 s) rfl (r1620_2 s) (Nat.le_of_ble_eq_true rfl) ?_
  refine ge_run (pc' := 10) (L' := [.ref 1620, .ref b1, .int x2, .int x3]) (S' := [.int x2, .ref 1629, .int x3, .int (i (b1 + 3 + (ix x2)) 2)]) 1 rfl ?_
  refine ge_iald (jn := (ix x2)) rfl (t1629 s) ⟨g_1, rfl⟩ g_2 ?_
  refine ge_run (pc' := 13) (L' := [.ref 1620, .ref b1, .int x2, .int x3]) (S' := [.int ((i (b1 + 3 + (ix x2)) 2) - (x3 * (i 1629 (ix x2))))]) 2 rfl ?_
  refine ge_le0 rfl (fun h_3 => ?_) (fun h_4 => ?_)
  · refine ge_run (pc' := 15) (L' := [.ref 1620, .ref b1, .int x2, .int x3]) (S' := [.ref b1]) 1 rfl ?_
    refine ge_getR (b := (b1 + 2)) rfl (sT0 s hb1) rfl (sR1 s hb1) (sge hb1) ?_
    refine ge_run (pc' := 17) (L' := [.ref 1620, .ref b1, .int x2, .int x3]) (S' := [.int x2, .ref (b1 + 2)]) 1 rfl ?_
    refine ge_aald (jn := (ix x2)) (b := (b1 + 3 + (ix x2))) rfl (sT2 s hb1) (Or.inl rfl) ⟨g_1, rfl⟩ g_2 (sRr_fish s hb1 g_2) (sge2 hb1) ?_
    refine ge_run (pc' := 19) (L' := [.ref 1620, .ref b1, .int x2, .int x3]) (S' := [.int (1 : Int32), .ref (b1 + 3 + (ix x2))]) 1 rfl ?_
    refine ge_iald (jn := 1) rfl (sRow_fish s hb1 g_2) lk1 (by decide) ?_
    refine ge_run (pc' := 22) (L' := [.ref 1620, .ref b1, .int x2, .int x3]) (S' := [.int (i (b1 + 3 + (ix x2)) 1)]) 1 rfl ?_
    exact ge_ret rfl rfl (And.intro rfl trivial)
  · refine ge_run (pc' := 22) (L' := [.ref 1620, .ref b1, .int x2, .int x3]) (S' := [.int (0 : Int32)]) 1 rfl ?_
    exact ge_ret rfl rfl (And.intro rfl trivial)
def f_Sl_bestOrder (i : MI) (b1 : Nat) (x2 : Int32) (x3 : Int32) : Option (Int32) :=
  (f_J_bitCount x3).bind (fun v_1 => (itr (σ := Int32 × Int32) (ρ := Int32) (fun (x4_2, x6_3) => if x6_3 < (i b1 7) then ((if ((shr (x2 &&& (x3 ^^^ (-1 : Int32))) x6_3) &&& (1 : Int32)) = 0 then (some x4_2) else ((f_Sl_gain i b1 x6_3 v_1).bind (fun v_10 => grd (x3 ||| (shl (1 : Int32) x6_3)) 256 ((f_J_max x4_2 (v_10 + (i (1622 + 0) (ix (x3 ||| (shl (1 : Int32) x6_3)))))).bind (fun v_13 => some v_13)))) : Option (Int32)).bind (fun x4_7 => some (.inl (x4_7, (x6_3 + (1 : Int32)))))) else (some (.inr x4_2))) 1000000 ((0 : Int32), (0 : Int32))).bind (fun x4_4 => some (x4_4)))
set_option maxHeartbeats 4000000 in
theorem c_Sl_bestOrder {n u : Nat} {t : MT} {i : MI} {r : MR} (s : Sh n t r) (b1 : Nat) (hb1 : SeaAd b1) (x2 : Int32) (x3 : Int32) : Cn 2 99 [.ref 1620, .ref b1, .int x2, .int x3] (n, u, t, i, r) (f_Sl_bestOrder i b1 x2 x3) (F_i0 n u t i r) PT := by
  refine cn_of (Y := K_Sl_bestOrder) (L0 := [.ref 1620, .ref b1, .int x2, .int x3, uV, uV, uV]) rfl rfl rfl ?_
  intro d hd
  unfold f_Sl_bestOrder
  refine ge_run (pc' := 3) (L' := [.ref 1620, .ref b1, .int x2, .int x3, .int (0 : Int32), uV, uV]) (S' := [.int x3]) 3 rfl ?_
  refine ge_cs rfl rfl rfl rfl rfl rfl (D := 1) (Nat.le_trans (by decide) hd) (c_J_bitCount (n := n) (u := u) (t := t) (i := i) (r := r) s x3) ?_
  rintro v_1 -
  dsimp only [bkE, F_i0]
  refine ge_run (pc' := 7) (L' := [.ref 1620, .ref b1, .int x2, .int x3, .int (0 : Int32), .int v_1, .int (0 : Int32)]) (S' := []) 3 rfl ?_
  refine ge_bind (K1 := fun (q : Int32) e => ∃ w_5 : Value, e = .inl (42, [.ref 1620, .ref b1, .int x2, .int x3, .int q, .int v_1, w_5], [], (n, u, t, i, r))) (ge_itr (C := fun (q : Int32 × Int32) e => e = .inl (7, [.ref 1620, .ref b1, .int x2, .int x3, .int q.1, .int v_1, .int q.2], [], (n, u, t, i, r))) ?_ _ _ _ rfl) ?_
  · rintro ⟨x4_2, x6_3⟩ _ rfl
    try dsimp only
    refine ge_run (pc' := 9) (L' := [.ref 1620, .ref b1, .int x2, .int x3, .int x4_2, .int v_1, .int x6_3]) (S' := [.ref b1, .int x6_3]) 2 rfl ?_
    refine ge_getI rfl (sT0 s hb1) rfl ?_
    refine ge_ge rfl (fun h_6 => ?_) (fun h_14 => ?_)
    · refine ge_run (pc' := 20) (L' := [.ref 1620, .ref b1, .int x2, .int x3, .int x4_2, .int v_1, .int x6_3]) (S' := [.int ((shr (x2 &&& (x3 ^^^ (-1 : Int32))) x6_3) &&& (1 : Int32))]) 9 rfl ?_
      refine ge_bind (K1 := fun (q : Int32) e => e = .inl (40, [.ref 1620, .ref b1, .int x2, .int x3, .int q, .int v_1, .int x6_3], [], (n, u, t, i, r))) ?_ ?_
      · refine ge_eq0 rfl (fun h_8 => ?_) (fun h_9 => ?_)
        · exact ge_leaf rfl
        · refine ge_run (pc' := 26) (L' := [.ref 1620, .ref b1, .int x2, .int x3, .int x4_2, .int v_1, .int x6_3]) (S' := [.int v_1, .int x6_3, .ref b1, .ref 1620, .int x4_2]) 5 rfl ?_
          refine ge_cv rfl rfl rfl (t1620 s) rfl rfl rfl (D := 1) (Nat.le_trans (by decide) hd) (c_Sl_gain (n := n) (u := u) (t := t) (i := i) (r := r) s b1 hb1 x6_3 v_1) ?_
          rintro v_10 -
          dsimp only [bkE, F_i0]
          refine ge_run (pc' := 28) (L' := [.ref 1620, .ref b1, .int x2, .int x3, .int x4_2, .int v_1, .int x6_3]) (S' := [.ref 1620, .int v_10, .int x4_2]) 1 rfl ?_
          refine ge_getR (b := 1621) rfl (t1620 s) rfl (r1620_0 s) (Nat.le_of_ble_eq_true rfl) ?_
          refine ge_run (pc' := 30) (L' := [.ref 1620, .ref b1, .int x2, .int x3, .int x4_2, .int v_1, .int x6_3]) (S' := [.int (0 : Int32), .ref 1621, .int v_10, .int x4_2]) 1 rfl ?_
          refine ge_aald (jn := 0) (b := (1622 + 0)) rfl (t1621 s) (Or.inl rfl) lk0 (by decide) (rowR1622 s (by decide)) (Nat.le_trans (Nat.le_of_ble_eq_true rfl) (Nat.le_add_right 1622 _)) ?_
          refine ge_run (pc' := 36) (L' := [.ref 1620, .ref b1, .int x2, .int x3, .int x4_2, .int v_1, .int x6_3]) (S' := [.int (x3 ||| (shl (1 : Int32) x6_3)), .ref (1622 + 0), .int v_10, .int x4_2]) 5 rfl ?_
          refine ge_grd (fun g_11 g_12 => ?_)
          refine ge_iald (jn := (ix (x3 ||| (shl (1 : Int32) x6_3)))) rfl (rowT1622 s (by decide)) ⟨g_11, rfl⟩ g_12 ?_
          refine ge_run (pc' := 38) (L' := [.ref 1620, .ref b1, .int x2, .int x3, .int x4_2, .int v_1, .int x6_3]) (S' := [.int (v_10 + (i (1622 + 0) (ix (x3 ||| (shl (1 : Int32) x6_3))))), .int x4_2]) 1 rfl ?_
          refine ge_cs rfl rfl rfl rfl rfl rfl (D := 1) (Nat.le_trans (by decide) hd) (c_J_max (n := n) (u := u) (t := t) (i := i) (r := r) s x4_2 (v_10 + (i (1622 + 0) (ix (x3 ||| (shl (1 : Int32) x6_3)))))) ?_
          rintro v_13 -
          dsimp only [bkE, F_i0]
          refine ge_run (pc' := 40) (L' := [.ref 1620, .ref b1, .int x2, .int x3, .int v_13, .int v_1, .int x6_3]) (S' := []) 1 rfl ?_
          exact ge_leaf rfl
      · rintro x4_7 _ rfl
        try dsimp only
        refine ge_run (pc' := 7) (L' := [.ref 1620, .ref b1, .int x2, .int x3, .int x4_7, .int v_1, .int (x6_3 + (1 : Int32))]) (S' := []) 2 rfl ?_
        exact ge_leaf (K := kX _ _) rfl
    · exact ge_leaf (K := kX _ _) (Exists.intro _ rfl)
  · rintro x4_4 _ ⟨w_5, rfl⟩
    try dsimp only
    refine ge_run (pc' := 43) (L' := [.ref 1620, .ref b1, .int x2, .int x3, .int x4_4, .int v_1, w_5]) (S' := [.int x4_4]) 1 rfl ?_
    exact ge_ret rfl rfl (And.intro rfl trivial)
def f_Sl_firstOrder (i : MI) (b1 : Nat) (x2 : Int32) (x3 : Int32) : Option (Int32) :=
  (f_J_bitCount x3).bind (fun v_1 => itr (σ := Int32) (ρ := Int32) (fun x5_2 => if x5_2 < (i b1 7) then ((if ((shr (x2 &&& (x3 ^^^ (-1 : Int32))) x5_2) &&& (1 : Int32)) = 0 then (some (0 : Int32)) else (some (1 : Int32)) : Option (Int32)).bind (fun y_5 => if y_5 = 0 then (some (.inl (x5_2 + (1 : Int32)))) else ((f_Sl_gain i b1 x5_2 v_1).bind (fun v_10 => grd (x3 ||| (shl (1 : Int32) x5_2)) 256 (grd x3 256 (if (v_10 + (i (1622 + 0) (ix (x3 ||| (shl (1 : Int32) x5_2))))) = (i (1622 + 0) (ix x3)) then (some (.inr ((x5_2)))) else (some (.inl (x5_2 + (1 : Int32)))))))))) else (some (.inr (((0 : Int32)))))) 1000000 (0 : Int32))
set_option maxHeartbeats 4000000 in
theorem c_Sl_firstOrder {n u : Nat} {t : MT} {i : MI} {r : MR} (s : Sh n t r) (b1 : Nat) (hb1 : SeaAd b1) (x2 : Int32) (x3 : Int32) : Cn 2 100 [.ref 1620, .ref b1, .int x2, .int x3] (n, u, t, i, r) (f_Sl_firstOrder i b1 x2 x3) (F_i0 n u t i r) PT := by
  refine cn_of (Y := K_Sl_firstOrder) (L0 := [.ref 1620, .ref b1, .int x2, .int x3, uV, uV, uV]) rfl rfl rfl ?_
  intro d hd
  unfold f_Sl_firstOrder
  refine ge_run (pc' := 1) (L' := [.ref 1620, .ref b1, .int x2, .int x3, uV, uV, uV]) (S' := [.int x3]) 1 rfl ?_
  refine ge_cs rfl rfl rfl rfl rfl rfl (D := 1) (Nat.le_trans (by decide) hd) (c_J_bitCount (n := n) (u := u) (t := t) (i := i) (r := r) s x3) ?_
  rintro v_1 -
  dsimp only [bkE, F_i0]
  refine ge_run (pc' := 5) (L' := [.ref 1620, .ref b1, .int x2, .int x3, .int v_1, .int (0 : Int32), uV]) (S' := []) 3 rfl ?_
  refine ge_itr (C := fun (q : Int32) e => ∃ w_3 : Value, e = .inl (5, [.ref 1620, .ref b1, .int x2, .int x3, .int v_1, .int q, w_3], [], (n, u, t, i, r))) ?_ _ _ _ (Exists.intro _ rfl)
  rintro x5_2 _ ⟨w_3, rfl⟩
  try dsimp only
  refine ge_run (pc' := 7) (L' := [.ref 1620, .ref b1, .int x2, .int x3, .int v_1, .int x5_2, w_3]) (S' := [.ref b1, .int x5_2]) 2 rfl ?_
  refine ge_getI rfl (sT0 s hb1) rfl ?_
  refine ge_ge rfl (fun h_4 => ?_) (fun h_17 => ?_)
  · refine ge_run (pc' := 18) (L' := [.ref 1620, .ref b1, .int x2, .int x3, .int v_1, .int x5_2, w_3]) (S' := [.int ((shr (x2 &&& (x3 ^^^ (-1 : Int32))) x5_2) &&& (1 : Int32))]) 9 rfl ?_
    refine ge_bind (K1 := fun (q : Int32) e => e = .inl (22, [.ref 1620, .ref b1, .int x2, .int x3, .int v_1, .int x5_2, w_3], [.int q], (n, u, t, i, r))) ?_ ?_
    · refine ge_eq0 rfl (fun h_6 => ?_) (fun h_7 => ?_)
      · refine ge_run (pc' := 22) (L' := [.ref 1620, .ref b1, .int x2, .int x3, .int v_1, .int x5_2, w_3]) (S' := [.int (0 : Int32)]) 1 rfl ?_
        exact ge_leaf rfl
      · refine ge_run (pc' := 22) (L' := [.ref 1620, .ref b1, .int x2, .int x3, .int v_1, .int x5_2, w_3]) (S' := [.int (1 : Int32)]) 2 rfl ?_
        exact ge_leaf rfl
    · rintro y_5 _ rfl
      try dsimp only
      refine ge_run (pc' := 24) (L' := [.ref 1620, .ref b1, .int x2, .int x3, .int v_1, .int x5_2, .int y_5]) (S' := [.int y_5]) 2 rfl ?_
      refine ge_eq0 rfl (fun h_8 => ?_) (fun h_9 => ?_)
      · refine ge_run (pc' := 5) (L' := [.ref 1620, .ref b1, .int x2, .int x3, .int v_1, .int (x5_2 + (1 : Int32)), .int y_5]) (S' := []) 2 rfl ?_
        exact ge_leaf (K := kX _ _) (Exists.intro _ rfl)
      · refine ge_run (pc' := 29) (L' := [.ref 1620, .ref b1, .int x2, .int x3, .int v_1, .int x5_2, .int y_5]) (S' := [.int v_1, .int x5_2, .ref b1, .ref 1620]) 4 rfl ?_
        refine ge_cv rfl rfl rfl (t1620 s) rfl rfl rfl (D := 1) (Nat.le_trans (by decide) hd) (c_Sl_gain (n := n) (u := u) (t := t) (i := i) (r := r) s b1 hb1 x5_2 v_1) ?_
        rintro v_10 -
        dsimp only [bkE, F_i0]
        refine ge_run (pc' := 31) (L' := [.ref 1620, .ref b1, .int x2, .int x3, .int v_1, .int x5_2, .int y_5]) (S' := [.ref 1620, .int v_10]) 1 rfl ?_
        refine ge_getR (b := 1621) rfl (t1620 s) rfl (r1620_0 s) (Nat.le_of_ble_eq_true rfl) ?_
        refine ge_run (pc' := 33) (L' := [.ref 1620, .ref b1, .int x2, .int x3, .int v_1, .int x5_2, .int y_5]) (S' := [.int (0 : Int32), .ref 1621, .int v_10]) 1 rfl ?_
        refine ge_aald (jn := 0) (b := (1622 + 0)) rfl (t1621 s) (Or.inl rfl) lk0 (by decide) (rowR1622 s (by decide)) (Nat.le_trans (Nat.le_of_ble_eq_true rfl) (Nat.le_add_right 1622 _)) ?_
        refine ge_run (pc' := 39) (L' := [.ref 1620, .ref b1, .int x2, .int x3, .int v_1, .int x5_2, .int y_5]) (S' := [.int (x3 ||| (shl (1 : Int32) x5_2)), .ref (1622 + 0), .int v_10]) 5 rfl ?_
        refine ge_grd (fun g_11 g_12 => ?_)
        refine ge_iald (jn := (ix (x3 ||| (shl (1 : Int32) x5_2)))) rfl (rowT1622 s (by decide)) ⟨g_11, rfl⟩ g_12 ?_
        refine ge_run (pc' := 42) (L' := [.ref 1620, .ref b1, .int x2, .int x3, .int v_1, .int x5_2, .int y_5]) (S' := [.ref 1620, .int (v_10 + (i (1622 + 0) (ix (x3 ||| (shl (1 : Int32) x5_2)))))]) 2 rfl ?_
        refine ge_getR (b := 1621) rfl (t1620 s) rfl (r1620_0 s) (Nat.le_of_ble_eq_true rfl) ?_
        refine ge_run (pc' := 44) (L' := [.ref 1620, .ref b1, .int x2, .int x3, .int v_1, .int x5_2, .int y_5]) (S' := [.int (0 : Int32), .ref 1621, .int (v_10 + (i (1622 + 0) (ix (x3 ||| (shl (1 : Int32) x5_2)))))]) 1 rfl ?_
        refine ge_aald (jn := 0) (b := (1622 + 0)) rfl (t1621 s) (Or.inl rfl) lk0 (by decide) (rowR1622 s (by decide)) (Nat.le_trans (Nat.le_of_ble_eq_true rfl) (Nat.le_add_right 1622 _)) ?_
        refine ge_run (pc' := 46) (L' := [.ref 1620, .ref b1, .int x2, .int x3, .int v_1, .int x5_2, .int y_5]) (S' := [.int x3, .ref (1622 + 0), .int (v_10 + (i (1622 + 0) (ix (x3 ||| (shl (1 : Int32) x5_2)))))]) 1 rfl ?_
        refine ge_grd (fun g_13 g_14 => ?_)
        refine ge_iald (jn := (ix x3)) rfl (rowT1622 s (by decide)) ⟨g_13, rfl⟩ g_14 ?_
        refine ge_ne rfl (fun h_15 => ?_) (fun h_16 => ?_)
        · refine ge_run (pc' := 49) (L' := [.ref 1620, .ref b1, .int x2, .int x3, .int v_1, .int x5_2, .int y_5]) (S' := [.int x5_2]) 1 rfl ?_
          exact ge_ret rfl rfl (And.intro rfl trivial)
        · refine ge_run (pc' := 5) (L' := [.ref 1620, .ref b1, .int x2, .int x3, .int v_1, .int (x5_2 + (1 : Int32)), .int y_5]) (S' := []) 2 rfl ?_
          exact ge_leaf (K := kX _ _) (Exists.intro _ rfl)
  · refine ge_run (pc' := 53) (L' := [.ref 1620, .ref b1, .int x2, .int x3, .int v_1, .int x5_2, w_3]) (S' := [.int (0 : Int32)]) 1 rfl ?_
    exact ge_ret rfl rfl (And.intro rfl trivial)
def f_Sl_planOrder (t : MT) (r : MR) (i : MI) (b1 : Nat) : Option (MI) :=
  (f_Se_placed i b1 (2 : Int32)).bind (fun v_1 => (itr (σ := Int32 × MI) (ρ := MI) (fun (x3_2, i_3) => if x3_2 < (i_3 b1 7) then ((f_Se_turnsBy t r i_3 b1 x3_2).bind (fun (v_7, i_8) => grd x3_2 8 (bnd (wr i_8 1629 (ix x3_2) v_7) (fun i_11 => some (.inl ((x3_2 + (1 : Int32)), i_11)))))) else (some (.inr i_3))) 1000000 ((0 : Int32), i)).bind (fun i_4 => (itr (σ := Int32 × MI) (ρ := MI) (fun (x3_13, i_14) => if 0 < x3_13 then ((f_Sl_bestOrder i_14 b1 v_1 x3_13).bind (fun v_18 => grd x3_13 256 (bnd (wr i_14 (1622 + 0) (ix x3_13) v_18) (fun i_21 => some (.inl (((x3_13 - (1 : Int32)) &&& v_1), i_21)))))) else (some (.inr i_14))) 1000000 (v_1, i_4)).bind (fun i_15 => (f_Sl_bestOrder i_15 b1 v_1 (0 : Int32)).bind (fun v_23 => bnd (wr i_15 (1622 + 0) 0 v_23) (fun i_24 => bnd (wr i_24 1620 4 (i_24 (1622 + 0) 0)) (fun i_25 => (itr (σ := Int32 × Int32 × MI) (ρ := MI) (fun (x3_26, x4_27, i_28) => (f_J_bitCount v_1).bind (fun v_32 => if x4_27 < v_32 then ((f_Sl_firstOrder i_28 b1 v_1 x3_26).bind (fun v_34 => grd x4_27 8 (bnd (wr i_28 1630 (ix x4_27) v_34) (fun i_37 => some (.inl ((x3_26 ||| (shl (1 : Int32) (i_37 1630 (ix x4_27)))), (x4_27 + (1 : Int32)), i_37)))))) else (some (.inr i_28)))) 1000000 ((0 : Int32), (0 : Int32), i_25)).bind (fun i_29 => some i_29)))))))
set_option maxHeartbeats 4000000 in
theorem c_Sl_planOrder {n u : Nat} {t : MT} {i : MI} {r : MR} (s : Sh n t r) (b1 : Nat) (hb1 : SeaAd b1) : Cn 4 97 [.ref 1620, .ref b1] (n, u, t, i, r) (f_Sl_planOrder t r i b1) (F_v1 n u t r) PT := by
  refine cn_of (Y := K_Sl_planOrder) (L0 := [.ref 1620, .ref b1, uV, uV, uV]) rfl rfl rfl ?_
  intro d hd
  unfold f_Sl_planOrder
  refine ge_run (pc' := 2) (L' := [.ref 1620, .ref b1, uV, uV, uV]) (S' := [.int (2 : Int32), .ref b1]) 2 rfl ?_
  refine ge_cv rfl rfl rfl (sT0 s hb1) rfl rfl rfl (D := 1) (Nat.le_trans (by decide) hd) (c_Se_placed (n := n) (u := u) (t := t) (i := i) (r := r) s b1 hb1 (2 : Int32)) ?_
  rintro v_1 -
  dsimp only [bkE, F_i0]
  refine ge_run (pc' := 6) (L' := [.ref 1620, .ref b1, .int v_1, .int (0 : Int32), uV]) (S' := []) 3 rfl ?_
  refine ge_bind (K1 := fun (q : MI) e => ∃ w_5 : Value, e = .inl (19, [.ref 1620, .ref b1, .int v_1, w_5, uV], [], (n, u, t, q, r))) (ge_itr (C := fun (q : Int32 × MI) e => e = .inl (6, [.ref 1620, .ref b1, .int v_1, .int q.1, uV], [], (n, u, t, q.2, r))) ?_ _ _ _ rfl) ?_
  · rintro ⟨x3_2, i_3⟩ _ rfl
    try dsimp only
    refine ge_run (pc' := 8) (L' := [.ref 1620, .ref b1, .int v_1, .int x3_2, uV]) (S' := [.ref b1, .int x3_2]) 2 rfl ?_
    refine ge_getI rfl (sT0 s hb1) rfl ?_
    refine ge_ge rfl (fun h_6 => ?_) (fun h_12 => ?_)
    · refine ge_run (pc' := 11) (L' := [.ref 1620, .ref b1, .int v_1, .int x3_2, uV]) (S' := [.ref 1620]) 1 rfl ?_
      refine ge_getR (b := 1629) rfl (t1620 s) rfl (r1620_2 s) (Nat.le_of_ble_eq_true rfl) ?_
      refine ge_run (pc' := 15) (L' := [.ref 1620, .ref b1, .int v_1, .int x3_2, uV]) (S' := [.int x3_2, .ref b1, .int x3_2, .ref 1629]) 3 rfl ?_
      refine ge_cv rfl rfl rfl (sT0 s hb1) rfl rfl rfl (D := 3) (Nat.le_trans (by decide) hd) (c_Se_turnsBy (n := n) (u := u) (t := t) (i := i_3) (r := r) s b1 hb1 x3_2) ?_
      rintro ⟨v_7, i_8⟩ -
      dsimp only [bkE, F_i1]
      refine ge_grd (fun g_9 g_10 => ?_)
      refine ge_iast (jn := (ix x3_2)) rfl (t1629 s) (Nat.le_of_ble_eq_true rfl) ⟨g_9, rfl⟩ g_10 (fun i_11 => ?_)
      refine ge_run (pc' := 6) (L' := [.ref 1620, .ref b1, .int v_1, .int (x3_2 + (1 : Int32)), uV]) (S' := []) 2 rfl ?_
      exact ge_leaf (K := kX _ _) rfl
    · exact ge_leaf (K := kX _ _) (Exists.intro _ rfl)
  · rintro i_4 _ ⟨w_5, rfl⟩
    try dsimp only
    refine ge_run (pc' := 21) (L' := [.ref 1620, .ref b1, .int v_1, .int v_1, uV]) (S' := []) 2 rfl ?_
    refine ge_bind (K1 := fun (q : MI) e => ∃ w_16 : Value, e = .inl (41, [.ref 1620, .ref b1, .int v_1, w_16, uV], [], (n, u, t, q, r))) (ge_itr (C := fun (q : Int32 × MI) e => e = .inl (21, [.ref 1620, .ref b1, .int v_1, .int q.1, uV], [], (n, u, t, q.2, r))) ?_ _ _ _ rfl) ?_
    · rintro ⟨x3_13, i_14⟩ _ rfl
      try dsimp only
      refine ge_run (pc' := 22) (L' := [.ref 1620, .ref b1, .int v_1, .int x3_13, uV]) (S' := [.int x3_13]) 1 rfl ?_
      refine ge_le0 rfl (fun h_17 => ?_) (fun h_22 => ?_)
      · refine ge_run (pc' := 24) (L' := [.ref 1620, .ref b1, .int v_1, .int x3_13, uV]) (S' := [.ref 1620]) 1 rfl ?_
        refine ge_getR (b := 1621) rfl (t1620 s) rfl (r1620_0 s) (Nat.le_of_ble_eq_true rfl) ?_
        refine ge_run (pc' := 26) (L' := [.ref 1620, .ref b1, .int v_1, .int x3_13, uV]) (S' := [.int (0 : Int32), .ref 1621]) 1 rfl ?_
        refine ge_aald (jn := 0) (b := (1622 + 0)) rfl (t1621 s) (Or.inl rfl) lk0 (by decide) (rowR1622 s (by decide)) (Nat.le_trans (Nat.le_of_ble_eq_true rfl) (Nat.le_add_right 1622 _)) ?_
        refine ge_run (pc' := 32) (L' := [.ref 1620, .ref b1, .int v_1, .int x3_13, uV]) (S' := [.int x3_13, .int v_1, .ref b1, .ref 1620, .int x3_13, .ref (1622 + 0)]) 5 rfl ?_
        refine ge_cv rfl rfl rfl (t1620 s) rfl rfl rfl (D := 2) (Nat.le_trans (by decide) hd) (c_Sl_bestOrder (n := n) (u := u) (t := t) (i := i_14) (r := r) s b1 hb1 v_1 x3_13) ?_
        rintro v_18 -
        dsimp only [bkE, F_i0]
        refine ge_grd (fun g_19 g_20 => ?_)
        refine ge_iast (jn := (ix x3_13)) rfl (rowT1622 s (by decide)) (Nat.le_trans (Nat.le_of_ble_eq_true rfl) (Nat.le_add_right 1622 _)) ⟨g_19, rfl⟩ g_20 (fun i_21 => ?_)
        refine ge_run (pc' := 21) (L' := [.ref 1620, .ref b1, .int v_1, .int ((x3_13 - (1 : Int32)) &&& v_1), uV]) (S' := []) 7 rfl ?_
        exact ge_leaf (K := kX _ _) rfl
      · exact ge_leaf (K := kX _ _) (Exists.intro _ rfl)
    · rintro i_15 _ ⟨w_16, rfl⟩
      try dsimp only
      refine ge_run (pc' := 42) (L' := [.ref 1620, .ref b1, .int v_1, w_16, uV]) (S' := [.ref 1620]) 1 rfl ?_
      refine ge_getR (b := 1621) rfl (t1620 s) rfl (r1620_0 s) (Nat.le_of_ble_eq_true rfl) ?_
      refine ge_run (pc' := 44) (L' := [.ref 1620, .ref b1, .int v_1, w_16, uV]) (S' := [.int (0 : Int32), .ref 1621]) 1 rfl ?_
      refine ge_aald (jn := 0) (b := (1622 + 0)) rfl (t1621 s) (Or.inl rfl) lk0 (by decide) (rowR1622 s (by decide)) (Nat.le_trans (Nat.le_of_ble_eq_true rfl) (Nat.le_add_right 1622 _)) ?_
      refine ge_run (pc' := 50) (L' := [.ref 1620, .ref b1, .int v_1, w_16, uV]) (S' := [.int (0 : Int32), .int v_1, .ref b1, .ref 1620, .int (0 : Int32), .ref (1622 + 0)]) 5 rfl ?_
      refine ge_cv rfl rfl rfl (t1620 s) rfl rfl rfl (D := 2) (Nat.le_trans (by decide) hd) (c_Sl_bestOrder (n := n) (u := u) (t := t) (i := i_15) (r := r) s b1 hb1 v_1 (0 : Int32)) ?_
      rintro v_23 -
      dsimp only [bkE, F_i0]
      refine ge_iast (jn := 0) rfl (rowT1622 s (by decide)) (Nat.le_trans (Nat.le_of_ble_eq_true rfl) (Nat.le_add_right 1622 _)) lk0 (by decide) (fun i_24 => ?_)
      refine ge_run (pc' := 54) (L' := [.ref 1620, .ref b1, .int v_1, w_16, uV]) (S' := [.ref 1620, .ref 1620]) 2 rfl ?_
      refine ge_getR (b := 1621) rfl (t1620 s) rfl (r1620_0 s) (Nat.le_of_ble_eq_true rfl) ?_
      refine ge_run (pc' := 56) (L' := [.ref 1620, .ref b1, .int v_1, w_16, uV]) (S' := [.int (0 : Int32), .ref 1621, .ref 1620]) 1 rfl ?_
      refine ge_aald (jn := 0) (b := (1622 + 0)) rfl (t1621 s) (Or.inl rfl) lk0 (by decide) (rowR1622 s (by decide)) (Nat.le_trans (Nat.le_of_ble_eq_true rfl) (Nat.le_add_right 1622 _)) ?_
      refine ge_run (pc' := 58) (L' := [.ref 1620, .ref b1, .int v_1, w_16, uV]) (S' := [.int (0 : Int32), .ref (1622 + 0), .ref 1620]) 1 rfl ?_
      refine ge_iald (jn := 0) rfl (rowT1622 s (by decide)) lk0 (by decide) ?_
      refine ge_putI rfl (t1620 s) (Nat.le_of_ble_eq_true rfl) rfl (fun i_25 => ?_)
      refine ge_run (pc' := 64) (L' := [.ref 1620, .ref b1, .int v_1, .int (0 : Int32), .int (0 : Int32)]) (S' := []) 4 rfl ?_
      refine ge_bind (K1 := fun (q : MI) e => ∃ w_30 w_31 : Value, e = .inl (88, [.ref 1620, .ref b1, .int v_1, w_30, w_31], [], (n, u, t, q, r))) (ge_itr (C := fun (q : Int32 × Int32 × MI) e => e = .inl (64, [.ref 1620, .ref b1, .int v_1, .int q.1, .int q.2.1], [], (n, u, t, q.2.2, r))) ?_ _ _ _ rfl) ?_
      · rintro ⟨x3_26, x4_27, i_28⟩ _ rfl
        try dsimp only
        refine ge_run (pc' := 66) (L' := [.ref 1620, .ref b1, .int v_1, .int x3_26, .int x4_27]) (S' := [.int v_1, .int x4_27]) 2 rfl ?_
        refine ge_cs rfl rfl rfl rfl rfl rfl (D := 1) (Nat.le_trans (by decide) hd) (c_J_bitCount (n := n) (u := u) (t := t) (i := i_28) (r := r) s v_1) ?_
        rintro v_32 -
        dsimp only [bkE, F_i0]
        refine ge_ge rfl (fun h_33 => ?_) (fun h_38 => ?_)
        · refine ge_run (pc' := 69) (L' := [.ref 1620, .ref b1, .int v_1, .int x3_26, .int x4_27]) (S' := [.ref 1620]) 1 rfl ?_
          refine ge_getR (b := 1630) rfl (t1620 s) rfl (r1620_3 s) (Nat.le_of_ble_eq_true rfl) ?_
          refine ge_run (pc' := 75) (L' := [.ref 1620, .ref b1, .int v_1, .int x3_26, .int x4_27]) (S' := [.int x3_26, .int v_1, .ref b1, .ref 1620, .int x4_27, .ref 1630]) 5 rfl ?_
          refine ge_cv rfl rfl rfl (t1620 s) rfl rfl rfl (D := 2) (Nat.le_trans (by decide) hd) (c_Sl_firstOrder (n := n) (u := u) (t := t) (i := i_28) (r := r) s b1 hb1 v_1 x3_26) ?_
          rintro v_34 -
          dsimp only [bkE, F_i0]
          refine ge_grd (fun g_35 g_36 => ?_)
          refine ge_iast (jn := (ix x4_27)) rfl (t1630 s) (Nat.le_of_ble_eq_true rfl) ⟨g_35, rfl⟩ g_36 (fun i_37 => ?_)
          refine ge_run (pc' := 80) (L' := [.ref 1620, .ref b1, .int v_1, .int x3_26, .int x4_27]) (S' := [.ref 1620, .int (1 : Int32), .int x3_26]) 3 rfl ?_
          refine ge_getR (b := 1630) rfl (t1620 s) rfl (r1620_3 s) (Nat.le_of_ble_eq_true rfl) ?_
          refine ge_run (pc' := 82) (L' := [.ref 1620, .ref b1, .int v_1, .int x3_26, .int x4_27]) (S' := [.int x4_27, .ref 1630, .int (1 : Int32), .int x3_26]) 1 rfl ?_
          refine ge_iald (jn := (ix x4_27)) rfl (t1630 s) ⟨g_35, rfl⟩ g_36 ?_
          refine ge_run (pc' := 64) (L' := [.ref 1620, .ref b1, .int v_1, .int (x3_26 ||| (shl (1 : Int32) (i_37 1630 (ix x4_27)))), .int (x4_27 + (1 : Int32))]) (S' := []) 5 rfl ?_
          exact ge_leaf (K := kX _ _) rfl
        · exact ge_leaf (K := kX _ _) (Exists.intro _ (Exists.intro _ rfl))
      · rintro i_29 _ ⟨w_30, w_31, rfl⟩
        try dsimp only
        exact ge_retv rfl rfl (And.intro rfl trivial)
def f_Sl_pairSize (i : MI) (b0 : Nat) (x1 : Int32) (x2 : Int32) : Option (Int32) :=
  grd x1 8 (grd x2 8 ((if (i (b0 + 3 + (ix x1)) 0) = (i (b0 + 3 + (ix x2)) 0) then (some (1 : Int32)) else (some (0 : Int32)) : Option (Int32)).bind (fun y_5 => if y_5 = 0 then (some (((i (b0 + 3 + (ix x1)) 1) + (i (b0 + 3 + (ix x2)) 1)))) else (some ((-1 : Int32))))))
set_option maxHeartbeats 4000000 in
theorem c_Sl_pairSize {n u : Nat} {t : MT} {i : MI} {r : MR} (s : Sh n t r) (b0 : Nat) (hb0 : SeaAd b0) (x1 : Int32) (x2 : Int32) : Cn 1 102 [.ref b0, .int x1, .int x2] (n, u, t, i, r) (f_Sl_pairSize i b0 x1 x2) (F_i0 n u t i r) PT := by
  refine cn_of (Y := K_Sl_pairSize) (L0 := [.ref b0, .int x1, .int x2, uV]) rfl rfl rfl ?_
  intro d hd
  unfold f_Sl_pairSize
  refine ge_run (pc' := 1) (L' := [.ref b0, .int x1, .int x2, uV]) (S' := [.ref b0]) 1 rfl ?_
  refine ge_getR (b := (b0 + 2)) rfl (sT0 s hb0) rfl (sR1 s hb0) (sge hb0) ?_
  refine ge_run (pc' := 3) (L' := [.ref b0, .int x1, .int x2, uV]) (S' := [.int x1, .ref (b0 + 2)]) 1 rfl ?_
  refine ge_grd (fun g_1 g_2 => ?_)
  refine ge_aald (jn := (ix x1)) (b := (b0 + 3 + (ix x1))) rfl (sT2 s hb0) (Or.inl rfl) ⟨g_1, rfl⟩ g_2 (sRr_fish s hb0 g_2) (sge2 hb0) ?_
  refine ge_run (pc' := 5) (L' := [.ref b0, .int x1, .int x2, uV]) (S' := [.int (0 : Int32), .ref (b0 + 3 + (ix x1))]) 1 rfl ?_
  refine ge_iald (jn := 0) rfl (sRow_fish s hb0 g_2) lk0 (by decide) ?_
  refine ge_run (pc' := 7) (L' := [.ref b0, .int x1, .int x2, uV]) (S' := [.ref b0, .int (i (b0 + 3 + (ix x1)) 0)]) 1 rfl ?_
  refine ge_getR (b := (b0 + 2)) rfl (sT0 s hb0) rfl (sR1 s hb0) (sge hb0) ?_
  refine ge_run (pc' := 9) (L' := [.ref b0, .int x1, .int x2, uV]) (S' := [.int x2, .ref (b0 + 2), .int (i (b0 + 3 + (ix x1)) 0)]) 1 rfl ?_
  refine ge_grd (fun g_3 g_4 => ?_)
  refine ge_aald (jn := (ix x2)) (b := (b0 + 3 + (ix x2))) rfl (sT2 s hb0) (Or.inl rfl) ⟨g_3, rfl⟩ g_4 (sRr_fish s hb0 g_4) (sge2 hb0) ?_
  refine ge_run (pc' := 11) (L' := [.ref b0, .int x1, .int x2, uV]) (S' := [.int (0 : Int32), .ref (b0 + 3 + (ix x2)), .int (i (b0 + 3 + (ix x1)) 0)]) 1 rfl ?_
  refine ge_iald (jn := 0) rfl (sRow_fish s hb0 g_4) lk0 (by decide) ?_
  refine ge_bind (K1 := fun (q : Int32) e => e = .inl (16, [.ref b0, .int x1, .int x2, uV], [.int q], (n, u, t, i, r))) ?_ ?_
  · refine ge_ne rfl (fun h_6 => ?_) (fun h_7 => ?_)
    · refine ge_run (pc' := 16) (L' := [.ref b0, .int x1, .int x2, uV]) (S' := [.int (1 : Int32)]) 2 rfl ?_
      exact ge_leaf rfl
    · refine ge_run (pc' := 16) (L' := [.ref b0, .int x1, .int x2, uV]) (S' := [.int (0 : Int32)]) 1 rfl ?_
      exact ge_leaf rfl
  · rintro y_5 _ rfl
    try dsimp only
    refine ge_run (pc' := 18) (L' := [.ref b0, .int x1, .int x2, .int y_5]) (S' := [.int y_5]) 2 rfl ?_
    refine ge_eq0 rfl (fun h_8 => ?_) (fun h_9 => ?_)
    · refine ge_run (pc' := 22) (L' := [.ref b0, .int x1, .int x2, .int y_5]) (S' := [.ref b0]) 1 rfl ?_
      refine ge_getR (b := (b0 + 2)) rfl (sT0 s hb0) rfl (sR1 s hb0) (sge hb0) ?_
      refine ge_run (pc' := 24) (L' := [.ref b0, .int x1, .int x2, .int y_5]) (S' := [.int x1, .ref (b0 + 2)]) 1 rfl ?_
      refine ge_aald (jn := (ix x1)) (b := (b0 + 3 + (ix x1))) rfl (sT2 s hb0) (Or.inl rfl) ⟨g_1, rfl⟩ g_2 (sRr_fish s hb0 g_2) (sge2 hb0) ?_
      refine ge_run (pc' := 26) (L' := [.ref b0, .int x1, .int x2, .int y_5]) (S' := [.int (1 : Int32), .ref (b0 + 3 + (ix x1))]) 1 rfl ?_
      refine ge_iald (jn := 1) rfl (sRow_fish s hb0 g_2) lk1 (by decide) ?_
      refine ge_run (pc' := 28) (L' := [.ref b0, .int x1, .int x2, .int y_5]) (S' := [.ref b0, .int (i (b0 + 3 + (ix x1)) 1)]) 1 rfl ?_
      refine ge_getR (b := (b0 + 2)) rfl (sT0 s hb0) rfl (sR1 s hb0) (sge hb0) ?_
      refine ge_run (pc' := 30) (L' := [.ref b0, .int x1, .int x2, .int y_5]) (S' := [.int x2, .ref (b0 + 2), .int (i (b0 + 3 + (ix x1)) 1)]) 1 rfl ?_
      refine ge_aald (jn := (ix x2)) (b := (b0 + 3 + (ix x2))) rfl (sT2 s hb0) (Or.inl rfl) ⟨g_3, rfl⟩ g_4 (sRr_fish s hb0 g_4) (sge2 hb0) ?_
      refine ge_run (pc' := 32) (L' := [.ref b0, .int x1, .int x2, .int y_5]) (S' := [.int (1 : Int32), .ref (b0 + 3 + (ix x2)), .int (i (b0 + 3 + (ix x1)) 1)]) 1 rfl ?_
      refine ge_iald (jn := 1) rfl (sRow_fish s hb0 g_4) lk1 (by decide) ?_
      refine ge_run (pc' := 34) (L' := [.ref b0, .int x1, .int x2, .int y_5]) (S' := [.int ((i (b0 + 3 + (ix x1)) 1) + (i (b0 + 3 + (ix x2)) 1))]) 1 rfl ?_
      exact ge_ret rfl rfl (And.intro rfl trivial)
    · refine ge_run (pc' := 34) (L' := [.ref b0, .int x1, .int x2, .int y_5]) (S' := [.int (-1 : Int32)]) 2 rfl ?_
      exact ge_ret rfl rfl (And.intro rfl trivial)
