/-! ===== methods as functions, part 7 (written by wip/gen/decall.py) ===== -/
def f_Mo_paidIf (i : MI) (x1 : Int32) (x2 : Int32) (x3 : Int32) : Option (Int32 × MI) :=
  if x3 = (-1 : Int32) then ((f_Mo_paidAt (x1 + (1 : Int32)) x2).bind (fun v_2 => grd v_2 1536 (some ((i 1654 (ix v_2)), i)))) else ((f_Mo_has x2 x3).bind (fun v_6 => if v_6 = 0 then ((f_Mo_suits i x1 x3).bind (fun (v_8, i_9) => if v_8 = 0 then (some ((-1 : Int32), i_9)) else ((f_Mo_priceOf i_9 x3).bind (fun (v_12, i_13) => (f_Mo_paidAt (x1 + (1 : Int32)) (x2 ||| (shl (1 : Int32) x3))).bind (fun v_14 => grd v_14 1536 (some ((v_12 + (i_13 1654 (ix v_14))), i_13))))))) else (some ((-1 : Int32), i))))
set_option maxHeartbeats 4000000 in
theorem c_Mo_paidIf {n u : Nat} {t : MT} {i : MI} {r : MR} (s : Sh n t r) (x1 : Int32) (x2 : Int32) (x3 : Int32) : Cn 9 324 [.ref 1638, .int x1, .int x2, .int x3] (n, u, t, i, r) (f_Mo_paidIf i x1 x2 x3) (F_i1 n u t r) PT := by
  refine cn_of (Y := K_Mo_paidIf) (L0 := [.ref 1638, .int x1, .int x2, .int x3]) rfl rfl rfl ?_
  intro d hd
  unfold f_Mo_paidIf
  refine ge_run (pc' := 2) (L' := [.ref 1638, .int x1, .int x2, .int x3]) (S' := [.int (-1 : Int32), .int x3]) 2 rfl ?_
  refine ge_ne rfl (fun h_1 => ?_) (fun h_5 => ?_)
  · refine ge_run (pc' := 4) (L' := [.ref 1638, .int x1, .int x2, .int x3]) (S' := [.ref 1638]) 1 rfl ?_
    refine ge_getR (b := 1654) rfl (t1638 s) rfl (r1638_25 s) (Nat.le_of_ble_eq_true rfl) ?_
    refine ge_run (pc' := 9) (L' := [.ref 1638, .int x1, .int x2, .int x3]) (S' := [.int x2, .int (x1 + (1 : Int32)), .ref 1654]) 4 rfl ?_
    refine ge_cs rfl rfl rfl rfl rfl rfl (D := 1) (Nat.le_trans (by decide) hd) (c_Mo_paidAt (n := n) (u := u) (t := t) (i := i) (r := r) s (x1 + (1 : Int32)) x2) ?_
    rintro v_2 -
    dsimp only [bkE, F_i0]
    refine ge_grd (fun g_3 g_4 => ?_)
    refine ge_iald (jn := (ix v_2)) rfl (t1654 s) ⟨g_3, rfl⟩ g_4 ?_
    exact ge_ret rfl rfl (And.intro rfl trivial)
  · refine ge_run (pc' := 14) (L' := [.ref 1638, .int x1, .int x2, .int x3]) (S' := [.int x3, .int x2]) 2 rfl ?_
    refine ge_cs rfl rfl rfl rfl rfl rfl (D := 1) (Nat.le_trans (by decide) hd) (c_Mo_has (n := n) (u := u) (t := t) (i := i) (r := r) s x2 x3) ?_
    rintro v_6 -
    dsimp only [bkE, F_i0]
    refine ge_ne0 rfl (fun h_7 => ?_) (fun h_17 => ?_)
    · refine ge_run (pc' := 19) (L' := [.ref 1638, .int x1, .int x2, .int x3]) (S' := [.int x3, .int x1, .ref 1638]) 3 rfl ?_
      refine ge_cv rfl rfl rfl (t1638 s) rfl rfl rfl (D := 8) (Nat.le_trans (by decide) hd) (c_Mo_suits (n := n) (u := u) (t := t) (i := i) (r := r) s x1 x3) ?_
      rintro ⟨v_8, i_9⟩ -
      dsimp only [bkE, F_i1]
      refine ge_ne0 rfl (fun h_10 => ?_) (fun h_11 => ?_)
      · refine ge_run (pc' := 39) (L' := [.ref 1638, .int x1, .int x2, .int x3]) (S' := [.int (-1 : Int32)]) 2 rfl ?_
        exact ge_ret rfl rfl (And.intro rfl trivial)
      · refine ge_run (pc' := 25) (L' := [.ref 1638, .int x1, .int x2, .int x3]) (S' := [.int x3, .ref 1638]) 2 rfl ?_
        refine ge_cv rfl rfl rfl (t1638 s) rfl rfl rfl (D := 7) (Nat.le_trans (by decide) hd) (c_Mo_priceOf (n := n) (u := u) (t := t) (i := i_9) (r := r) s x3) ?_
        rintro ⟨v_12, i_13⟩ -
        dsimp only [bkE, F_i1]
        refine ge_run (pc' := 27) (L' := [.ref 1638, .int x1, .int x2, .int x3]) (S' := [.ref 1638, .int v_12]) 1 rfl ?_
        refine ge_getR (b := 1654) rfl (t1638 s) rfl (r1638_25 s) (Nat.le_of_ble_eq_true rfl) ?_
        refine ge_run (pc' := 36) (L' := [.ref 1638, .int x1, .int x2, .int x3]) (S' := [.int (x2 ||| (shl (1 : Int32) x3)), .int (x1 + (1 : Int32)), .ref 1654, .int v_12]) 8 rfl ?_
        refine ge_cs rfl rfl rfl rfl rfl rfl (D := 1) (Nat.le_trans (by decide) hd) (c_Mo_paidAt (n := n) (u := u) (t := t) (i := i_13) (r := r) s (x1 + (1 : Int32)) (x2 ||| (shl (1 : Int32) x3))) ?_
        rintro v_14 -
        dsimp only [bkE, F_i0]
        refine ge_grd (fun g_15 g_16 => ?_)
        refine ge_iald (jn := (ix v_14)) rfl (t1654 s) ⟨g_15, rfl⟩ g_16 ?_
        refine ge_run (pc' := 39) (L' := [.ref 1638, .int x1, .int x2, .int x3]) (S' := [.int (v_12 + (i_13 1654 (ix v_14)))]) 1 rfl ?_
        exact ge_ret rfl rfl (And.intro rfl trivial)
    · refine ge_run (pc' := 39) (L' := [.ref 1638, .int x1, .int x2, .int x3]) (S' := [.int (-1 : Int32)]) 2 rfl ?_
      exact ge_ret rfl rfl (And.intro rfl trivial)
def f_Mo_sale (i : MI) (x1 : Int32) : Option (Int32 × MI) :=
  bnd (wr i 1638 0 (0 : Int32)) (fun i_1 => (if x1 = (-1 : Int32) then (some (0 : Int32)) else ((f_Mo_noBuyer i_1 x1).bind (fun v_5 => if v_5 = 0 then (some (0 : Int32)) else (some (1 : Int32)))) : Option (Int32)).bind (fun y_2 => (f_Mo_throwsIf i_1 y_2 (1 : Int32)).bind (fun (v_8, i_9) => if v_8 = 0 then ((itr (σ := Int32 × MI) (ρ := MI) (fun (x2_11, i_12) => if x2_11 < (256 : Int32) then ((f_Mo_buyers i_12).bind (fun v_16 => (f_Mo_paidAt v_16 x2_11).bind (fun v_17 => grd v_17 1536 (bnd (wr i_12 1654 (ix v_17) (0 : Int32)) (fun i_20 => some (.inl ((x2_11 + (1 : Int32)), i_20))))))) else (some (.inr i_12))) 1000000 ((0 : Int32), i_9)).bind (fun i_13 => (f_Mo_buyers i_13).bind (fun v_22 => (itr (σ := Int32 × MI) (ρ := MI) (fun (x2_23, i_24) => if x2_23 < 0 then (some (.inr i_24)) else ((itr (σ := Int32 × MI) (ρ := MI) (fun (x3_35, i_36) => (f_Mo_fishes i_36).bind (fun v_43 => if x3_35 < (shl (1 : Int32) v_43) then ((itr (σ := Int32 × Int32 × MI) (ρ := Int32 × MI) (fun (x4_45, x5_46, i_47) => (f_Mo_fishes i_47).bind (fun v_51 => if x5_46 < v_51 then ((f_Mo_paidIf i_47 x2_23 x3_35 x5_46).bind (fun (v_53, i_54) => (f_J_max x4_45 v_53).bind (fun v_55 => some (.inl (v_55, (x5_46 + (1 : Int32)), i_54))))) else (some (.inr (x4_45, i_47))))) 1000000 ((0 : Int32), (-1 : Int32), i_36)).bind (fun (x4_48, i_49) => (f_Mo_paidAt x2_23 x3_35).bind (fun v_57 => grd v_57 1536 (bnd (wr i_49 1654 (ix v_57) x4_48) (fun i_60 => some (.inl ((x3_35 + (1 : Int32)), i_60))))))) else (some (.inr i_36)))) 1000000 ((0 : Int32), i_24)).bind (fun i_39 => some (.inl ((x2_23 + (-1 : Int32)), i_39))))) 1000000 ((v_22 - (1 : Int32)), i_13)).bind (fun i_28 => if x1 = (-1 : Int32) then (some ((i_28 1654 0), i_28)) else ((itr (σ := Int32 × Int32 × Int32 × MI) (ρ := Int32 × MI) (fun (x2_64, x3_65, x4_66, i_67) => if x1 < x4_66 then (some (.inr (x3_65, i_67))) else ((itr (σ := Int32 × MI) (ρ := Int32 × MI) (fun (x3_74, i_75) => (f_Mo_paidIf i_75 x4_66 x2_64 x3_74).bind (fun (v_78, i_79) => (f_Mo_paidAt x4_66 x2_64).bind (fun v_80 => grd v_80 1536 (if v_78 = (i_79 1654 (ix v_80)) then (some (.inr (x3_74, i_79))) else (some (.inl ((x3_74 + (1 : Int32)), i_79))))))) 1000000 ((-1 : Int32), i_67)).bind (fun (x3_76, i_77) => (if x3_76 = (-1 : Int32) then (some (0 : Int32)) else (some (shl (1 : Int32) x3_76)) : Option (Int32)).bind (fun y_85 => some (.inl ((x2_64 ||| y_85), x3_76, (x4_66 + (1 : Int32)), i_77)))))) 1000000 ((0 : Int32), (-1 : Int32), (0 : Int32), i_28)).bind (fun (x3_68, i_69) => some (x3_68, i_69))))))) else (some ((0 : Int32), i_9)))))
set_option maxHeartbeats 4000000 in
theorem c_Mo_sale {n u : Nat} {t : MT} {i : MI} {r : MR} (s : Sh n t r) (x1 : Int32) : Cn 10 325 [.ref 1638, .int x1] (n, u, t, i, r) (f_Mo_sale i x1) (F_i1 n u t r) PT := by
  refine cn_of (Y := K_Mo_sale) (L0 := [.ref 1638, .int x1, uV, uV, uV, uV]) rfl rfl rfl ?_
  intro d hd
  unfold f_Mo_sale
  refine ge_run (pc' := 2) (L' := [.ref 1638, .int x1, uV, uV, uV, uV]) (S' := [.int (0 : Int32), .ref 1638]) 2 rfl ?_
  refine ge_putI rfl (t1638 s) (Nat.le_of_ble_eq_true rfl) rfl (fun i_1 => ?_)
  refine ge_run (pc' := 6) (L' := [.ref 1638, .int x1, uV, uV, uV, uV]) (S' := [.int (-1 : Int32), .int x1, .ref 1638]) 3 rfl ?_
  refine ge_bind (K1 := fun (q : Int32) e => e = .inl (14, [.ref 1638, .int x1, uV, uV, uV, uV], [.int q, .ref 1638], (n, u, t, i_1, r))) ?_ ?_
  · refine ge_eq rfl (fun h_3 => ?_) (fun h_4 => ?_)
    · refine ge_run (pc' := 14) (L' := [.ref 1638, .int x1, uV, uV, uV, uV]) (S' := [.int (0 : Int32), .ref 1638]) 1 rfl ?_
      exact ge_leaf rfl
    · refine ge_run (pc' := 9) (L' := [.ref 1638, .int x1, uV, uV, uV, uV]) (S' := [.int x1, .ref 1638, .ref 1638]) 2 rfl ?_
      refine ge_cv rfl rfl rfl (t1638 s) rfl rfl rfl (D := 2) (Nat.le_trans (by decide) hd) (c_Mo_noBuyer (n := n) (u := u) (t := t) (i := i_1) (r := r) s x1) ?_
      rintro v_5 -
      dsimp only [bkE, F_i0]
      refine ge_eq0 rfl (fun h_6 => ?_) (fun h_7 => ?_)
      · refine ge_run (pc' := 14) (L' := [.ref 1638, .int x1, uV, uV, uV, uV]) (S' := [.int (0 : Int32), .ref 1638]) 1 rfl ?_
        exact ge_leaf rfl
      · refine ge_run (pc' := 14) (L' := [.ref 1638, .int x1, uV, uV, uV, uV]) (S' := [.int (1 : Int32), .ref 1638]) 2 rfl ?_
        exact ge_leaf rfl
  · rintro y_2 _ rfl
    try dsimp only
    refine ge_run (pc' := 15) (L' := [.ref 1638, .int x1, uV, uV, uV, uV]) (S' := [.int (1 : Int32), .int y_2, .ref 1638]) 1 rfl ?_
    refine ge_cv rfl rfl rfl (t1638 s) rfl rfl rfl (D := 1) (Nat.le_trans (by decide) hd) (c_Mo_throwsIf (n := n) (u := u) (t := t) (i := i_1) (r := r) s y_2 (1 : Int32)) ?_
    rintro ⟨v_8, i_9⟩ -
    dsimp only [bkE, F_i1]
    refine ge_eq0 rfl (fun h_10 => ?_) (fun h_88 => ?_)
    · refine ge_run (pc' := 21) (L' := [.ref 1638, .int x1, .int (0 : Int32), uV, uV, uV]) (S' := []) 2 rfl ?_
      refine ge_bind (K1 := fun (q : MI) e => ∃ w_14 : Value, e = .inl (34, [.ref 1638, .int x1, w_14, uV, uV, uV], [], (n, u, t, q, r))) (ge_itr (C := fun (q : Int32 × MI) e => e = .inl (21, [.ref 1638, .int x1, .int q.1, uV, uV, uV], [], (n, u, t, q.2, r))) ?_ _ _ _ rfl) ?_
      · rintro ⟨x2_11, i_12⟩ _ rfl
        try dsimp only
        refine ge_run (pc' := 23) (L' := [.ref 1638, .int x1, .int x2_11, uV, uV, uV]) (S' := [.int (256 : Int32), .int x2_11]) 2 rfl ?_
        refine ge_ge rfl (fun h_15 => ?_) (fun h_21 => ?_)
        · refine ge_run (pc' := 25) (L' := [.ref 1638, .int x1, .int x2_11, uV, uV, uV]) (S' := [.ref 1638]) 1 rfl ?_
          refine ge_getR (b := 1654) rfl (t1638 s) rfl (r1638_25 s) (Nat.le_of_ble_eq_true rfl) ?_
          refine ge_run (pc' := 27) (L' := [.ref 1638, .int x1, .int x2_11, uV, uV, uV]) (S' := [.ref 1638, .ref 1654]) 1 rfl ?_
          refine ge_cv rfl rfl rfl (t1638 s) rfl rfl rfl (D := 1) (Nat.le_trans (by decide) hd) (c_Mo_buyers (n := n) (u := u) (t := t) (i := i_12) (r := r) s ) ?_
          rintro v_16 -
          dsimp only [bkE, F_i0]
          refine ge_run (pc' := 29) (L' := [.ref 1638, .int x1, .int x2_11, uV, uV, uV]) (S' := [.int x2_11, .int v_16, .ref 1654]) 1 rfl ?_
          refine ge_cs rfl rfl rfl rfl rfl rfl (D := 1) (Nat.le_trans (by decide) hd) (c_Mo_paidAt (n := n) (u := u) (t := t) (i := i_12) (r := r) s v_16 x2_11) ?_
          rintro v_17 -
          dsimp only [bkE, F_i0]
          refine ge_run (pc' := 31) (L' := [.ref 1638, .int x1, .int x2_11, uV, uV, uV]) (S' := [.int (0 : Int32), .int v_17, .ref 1654]) 1 rfl ?_
          refine ge_grd (fun g_18 g_19 => ?_)
          refine ge_iast (jn := (ix v_17)) rfl (t1654 s) (Nat.le_of_ble_eq_true rfl) ⟨g_18, rfl⟩ g_19 (fun i_20 => ?_)
          refine ge_run (pc' := 21) (L' := [.ref 1638, .int x1, .int (x2_11 + (1 : Int32)), uV, uV, uV]) (S' := []) 2 rfl ?_
          exact ge_leaf (K := kX _ _) rfl
        · exact ge_leaf (K := kX _ _) (Exists.intro _ rfl)
      · rintro i_13 _ ⟨w_14, rfl⟩
        try dsimp only
        refine ge_run (pc' := 35) (L' := [.ref 1638, .int x1, w_14, uV, uV, uV]) (S' := [.ref 1638]) 1 rfl ?_
        refine ge_cv rfl rfl rfl (t1638 s) rfl rfl rfl (D := 1) (Nat.le_trans (by decide) hd) (c_Mo_buyers (n := n) (u := u) (t := t) (i := i_13) (r := r) s ) ?_
        rintro v_22 -
        dsimp only [bkE, F_i0]
        refine ge_run (pc' := 39) (L' := [.ref 1638, .int x1, .int (v_22 - (1 : Int32)), uV, uV, uV]) (S' := []) 3 rfl ?_
        refine ge_bind (K1 := fun (q : MI) e => ∃ w_29 w_30 w_31 w_32 : Value, e = .inl (78, [.ref 1638, .int x1, w_29, w_30, w_31, w_32], [], (n, u, t, q, r))) (ge_itr (C := fun (q : Int32 × MI) e => ∃ w_25 w_26 w_27 : Value, e = .inl (39, [.ref 1638, .int x1, .int q.1, w_25, w_26, w_27], [], (n, u, t, q.2, r))) ?_ _ _ _ (Exists.intro _ (Exists.intro _ (Exists.intro _ rfl)))) ?_
        · rintro ⟨x2_23, i_24⟩ _ ⟨w_25, w_26, w_27, rfl⟩
          try dsimp only
          refine ge_run (pc' := 40) (L' := [.ref 1638, .int x1, .int x2_23, w_25, w_26, w_27]) (S' := [.int x2_23]) 1 rfl ?_
          refine ge_lt0 rfl (fun h_33 => ?_) (fun h_34 => ?_)
          · exact ge_leaf (K := kX _ _) (Exists.intro _ (Exists.intro _ (Exists.intro _ (Exists.intro _ rfl))))
          · refine ge_run (pc' := 43) (L' := [.ref 1638, .int x1, .int x2_23, .int (0 : Int32), w_26, w_27]) (S' := []) 2 rfl ?_
            refine ge_bind (K1 := fun (q : MI) e => ∃ w_40 w_41 w_42 : Value, e = .inl (76, [.ref 1638, .int x1, .int x2_23, w_40, w_41, w_42], [], (n, u, t, q, r))) (ge_itr (C := fun (q : Int32 × MI) e => ∃ w_37 w_38 : Value, e = .inl (43, [.ref 1638, .int x1, .int x2_23, .int q.1, w_37, w_38], [], (n, u, t, q.2, r))) ?_ _ _ _ (Exists.intro _ (Exists.intro _ rfl))) ?_
            · rintro ⟨x3_35, i_36⟩ _ ⟨w_37, w_38, rfl⟩
              try dsimp only
              refine ge_run (pc' := 46) (L' := [.ref 1638, .int x1, .int x2_23, .int x3_35, w_37, w_38]) (S' := [.ref 1638, .int (1 : Int32), .int x3_35]) 3 rfl ?_
              refine ge_cv rfl rfl rfl (t1638 s) rfl rfl rfl (D := 1) (Nat.le_trans (by decide) hd) (c_Mo_fishes (n := n) (u := u) (t := t) (i := i_36) (r := r) s ) ?_
              rintro v_43 -
              dsimp only [bkE, F_i0]
              refine ge_run (pc' := 48) (L' := [.ref 1638, .int x1, .int x2_23, .int x3_35, w_37, w_38]) (S' := [.int (shl (1 : Int32) v_43), .int x3_35]) 1 rfl ?_
              refine ge_ge rfl (fun h_44 => ?_) (fun h_61 => ?_)
              · refine ge_run (pc' := 53) (L' := [.ref 1638, .int x1, .int x2_23, .int x3_35, .int (0 : Int32), .int (-1 : Int32)]) (S' := []) 4 rfl ?_
                refine ge_bind (K1 := fun (q : Int32 × MI) e => ∃ w_50 : Value, e = .inl (67, [.ref 1638, .int x1, .int x2_23, .int x3_35, .int q.1, w_50], [], (n, u, t, q.2, r))) (ge_itr (C := fun (q : Int32 × Int32 × MI) e => e = .inl (53, [.ref 1638, .int x1, .int x2_23, .int x3_35, .int q.1, .int q.2.1], [], (n, u, t, q.2.2, r))) ?_ _ _ _ rfl) ?_
                · rintro ⟨x4_45, x5_46, i_47⟩ _ rfl
                  try dsimp only
                  refine ge_run (pc' := 55) (L' := [.ref 1638, .int x1, .int x2_23, .int x3_35, .int x4_45, .int x5_46]) (S' := [.ref 1638, .int x5_46]) 2 rfl ?_
                  refine ge_cv rfl rfl rfl (t1638 s) rfl rfl rfl (D := 1) (Nat.le_trans (by decide) hd) (c_Mo_fishes (n := n) (u := u) (t := t) (i := i_47) (r := r) s ) ?_
                  rintro v_51 -
                  dsimp only [bkE, F_i0]
                  refine ge_ge rfl (fun h_52 => ?_) (fun h_56 => ?_)
                  · refine ge_run (pc' := 62) (L' := [.ref 1638, .int x1, .int x2_23, .int x3_35, .int x4_45, .int x5_46]) (S' := [.int x5_46, .int x3_35, .int x2_23, .ref 1638, .int x4_45]) 5 rfl ?_
                    refine ge_cv rfl rfl rfl (t1638 s) rfl rfl rfl (D := 9) (Nat.le_trans (by decide) hd) (c_Mo_paidIf (n := n) (u := u) (t := t) (i := i_47) (r := r) s x2_23 x3_35 x5_46) ?_
                    rintro ⟨v_53, i_54⟩ -
                    dsimp only [bkE, F_i1]
                    refine ge_cs rfl rfl rfl rfl rfl rfl (D := 1) (Nat.le_trans (by decide) hd) (c_J_max (n := n) (u := u) (t := t) (i := i_54) (r := r) s x4_45 v_53) ?_
                    rintro v_55 -
                    dsimp only [bkE, F_i0]
                    refine ge_run (pc' := 53) (L' := [.ref 1638, .int x1, .int x2_23, .int x3_35, .int v_55, .int (x5_46 + (1 : Int32))]) (S' := []) 3 rfl ?_
                    exact ge_leaf (K := kX _ _) rfl
                  · exact ge_leaf (K := kX _ _) (Exists.intro _ rfl)
                · rintro ⟨x4_48, i_49⟩ _ ⟨w_50, rfl⟩
                  try dsimp only
                  refine ge_run (pc' := 68) (L' := [.ref 1638, .int x1, .int x2_23, .int x3_35, .int x4_48, w_50]) (S' := [.ref 1638]) 1 rfl ?_
                  refine ge_getR (b := 1654) rfl (t1638 s) rfl (r1638_25 s) (Nat.le_of_ble_eq_true rfl) ?_
                  refine ge_run (pc' := 71) (L' := [.ref 1638, .int x1, .int x2_23, .int x3_35, .int x4_48, w_50]) (S' := [.int x3_35, .int x2_23, .ref 1654]) 2 rfl ?_
                  refine ge_cs rfl rfl rfl rfl rfl rfl (D := 1) (Nat.le_trans (by decide) hd) (c_Mo_paidAt (n := n) (u := u) (t := t) (i := i_49) (r := r) s x2_23 x3_35) ?_
                  rintro v_57 -
                  dsimp only [bkE, F_i0]
                  refine ge_run (pc' := 73) (L' := [.ref 1638, .int x1, .int x2_23, .int x3_35, .int x4_48, w_50]) (S' := [.int x4_48, .int v_57, .ref 1654]) 1 rfl ?_
                  refine ge_grd (fun g_58 g_59 => ?_)
                  refine ge_iast (jn := (ix v_57)) rfl (t1654 s) (Nat.le_of_ble_eq_true rfl) ⟨g_58, rfl⟩ g_59 (fun i_60 => ?_)
                  refine ge_run (pc' := 43) (L' := [.ref 1638, .int x1, .int x2_23, .int (x3_35 + (1 : Int32)), .int x4_48, w_50]) (S' := []) 2 rfl ?_
                  exact ge_leaf (K := kX _ _) (Exists.intro _ (Exists.intro _ rfl))
              · exact ge_leaf (K := kX _ _) (Exists.intro _ (Exists.intro _ (Exists.intro _ rfl)))
            · rintro i_39 _ ⟨w_40, w_41, w_42, rfl⟩
              try dsimp only
              refine ge_run (pc' := 39) (L' := [.ref 1638, .int x1, .int (x2_23 + (-1 : Int32)), w_40, w_41, w_42]) (S' := []) 2 rfl ?_
              exact ge_leaf (K := kX _ _) (Exists.intro _ (Exists.intro _ (Exists.intro _ rfl)))
        · rintro i_28 _ ⟨w_29, w_30, w_31, w_32, rfl⟩
          try dsimp only
          refine ge_run (pc' := 80) (L' := [.ref 1638, .int x1, w_29, w_30, w_31, w_32]) (S' := [.int (-1 : Int32), .int x1]) 2 rfl ?_
          refine ge_ne rfl (fun h_62 => ?_) (fun h_63 => ?_)
          · refine ge_run (pc' := 82) (L' := [.ref 1638, .int x1, w_29, w_30, w_31, w_32]) (S' := [.ref 1638]) 1 rfl ?_
            refine ge_getR (b := 1654) rfl (t1638 s) rfl (r1638_25 s) (Nat.le_of_ble_eq_true rfl) ?_
            refine ge_run (pc' := 84) (L' := [.ref 1638, .int x1, w_29, w_30, w_31, w_32]) (S' := [.int (0 : Int32), .ref 1654]) 1 rfl ?_
            refine ge_iald (jn := 0) rfl (t1654 s) lk0 (by decide) ?_
            exact ge_ret rfl rfl (And.intro rfl trivial)
          · refine ge_run (pc' := 92) (L' := [.ref 1638, .int x1, .int (0 : Int32), .int (-1 : Int32), .int (0 : Int32), w_32]) (S' := []) 6 rfl ?_
            refine ge_bind (K1 := fun (q : Int32 × MI) e => ∃ w_70 w_71 : Value, e = .inl (124, [.ref 1638, .int x1, w_70, .int q.1, w_71, w_32], [], (n, u, t, q.2, r))) (ge_itr (C := fun (q : Int32 × Int32 × Int32 × MI) e => e = .inl (92, [.ref 1638, .int x1, .int q.1, .int q.2.1, .int q.2.2.1, w_32], [], (n, u, t, q.2.2.2, r))) ?_ _ _ _ rfl) ?_
            · rintro ⟨x2_64, x3_65, x4_66, i_67⟩ _ rfl
              try dsimp only
              refine ge_run (pc' := 94) (L' := [.ref 1638, .int x1, .int x2_64, .int x3_65, .int x4_66, w_32]) (S' := [.int x1, .int x4_66]) 2 rfl ?_
              refine ge_gt rfl (fun h_72 => ?_) (fun h_73 => ?_)
              · exact ge_leaf (K := kX _ _) (Exists.intro _ (Exists.intro _ rfl))
              · refine ge_run (pc' := 97) (L' := [.ref 1638, .int x1, .int x2_64, .int (-1 : Int32), .int x4_66, w_32]) (S' := []) 2 rfl ?_
                refine ge_bind (K1 := fun (q : Int32 × MI) e => e = .inl (111, [.ref 1638, .int x1, .int x2_64, .int q.1, .int x4_66, w_32], [], (n, u, t, q.2, r))) (ge_itr (C := fun (q : Int32 × MI) e => e = .inl (97, [.ref 1638, .int x1, .int x2_64, .int q.1, .int x4_66, w_32], [], (n, u, t, q.2, r))) ?_ _ _ _ rfl) ?_
                · rintro ⟨x3_74, i_75⟩ _ rfl
                  try dsimp only
                  refine ge_run (pc' := 101) (L' := [.ref 1638, .int x1, .int x2_64, .int x3_74, .int x4_66, w_32]) (S' := [.int x3_74, .int x2_64, .int x4_66, .ref 1638]) 4 rfl ?_
                  refine ge_cv rfl rfl rfl (t1638 s) rfl rfl rfl (D := 9) (Nat.le_trans (by decide) hd) (c_Mo_paidIf (n := n) (u := u) (t := t) (i := i_75) (r := r) s x4_66 x2_64 x3_74) ?_
                  rintro ⟨v_78, i_79⟩ -
                  dsimp only [bkE, F_i1]
                  refine ge_run (pc' := 103) (L' := [.ref 1638, .int x1, .int x2_64, .int x3_74, .int x4_66, w_32]) (S' := [.ref 1638, .int v_78]) 1 rfl ?_
                  refine ge_getR (b := 1654) rfl (t1638 s) rfl (r1638_25 s) (Nat.le_of_ble_eq_true rfl) ?_
                  refine ge_run (pc' := 106) (L' := [.ref 1638, .int x1, .int x2_64, .int x3_74, .int x4_66, w_32]) (S' := [.int x2_64, .int x4_66, .ref 1654, .int v_78]) 2 rfl ?_
                  refine ge_cs rfl rfl rfl rfl rfl rfl (D := 1) (Nat.le_trans (by decide) hd) (c_Mo_paidAt (n := n) (u := u) (t := t) (i := i_79) (r := r) s x4_66 x2_64) ?_
                  rintro v_80 -
                  dsimp only [bkE, F_i0]
                  refine ge_grd (fun g_81 g_82 => ?_)
                  refine ge_iald (jn := (ix v_80)) rfl (t1654 s) ⟨g_81, rfl⟩ g_82 ?_
                  refine ge_eq rfl (fun h_83 => ?_) (fun h_84 => ?_)
                  · exact ge_leaf (K := kX _ _) rfl
                  · refine ge_run (pc' := 97) (L' := [.ref 1638, .int x1, .int x2_64, .int (x3_74 + (1 : Int32)), .int x4_66, w_32]) (S' := []) 2 rfl ?_
                    exact ge_leaf (K := kX _ _) rfl
                · rintro ⟨x3_76, i_77⟩ _ rfl
                  try dsimp only
                  refine ge_run (pc' := 114) (L' := [.ref 1638, .int x1, .int x2_64, .int x3_76, .int x4_66, w_32]) (S' := [.int (-1 : Int32), .int x3_76, .int x2_64]) 3 rfl ?_
                  refine ge_bind (K1 := fun (q : Int32) e => e = .inl (120, [.ref 1638, .int x1, .int x2_64, .int x3_76, .int x4_66, w_32], [.int q, .int x2_64], (n, u, t, i_77, r))) ?_ ?_
                  · refine ge_ne rfl (fun h_86 => ?_) (fun h_87 => ?_)
                    · refine ge_run (pc' := 120) (L' := [.ref 1638, .int x1, .int x2_64, .int x3_76, .int x4_66, w_32]) (S' := [.int (0 : Int32), .int x2_64]) 2 rfl ?_
                      exact ge_leaf rfl
                    · refine ge_run (pc' := 120) (L' := [.ref 1638, .int x1, .int x2_64, .int x3_76, .int x4_66, w_32]) (S' := [.int (shl (1 : Int32) x3_76), .int x2_64]) 3 rfl ?_
                      exact ge_leaf rfl
                  · rintro y_85 _ rfl
                    try dsimp only
                    refine ge_run (pc' := 92) (L' := [.ref 1638, .int x1, .int (x2_64 ||| y_85), .int x3_76, .int (x4_66 + (1 : Int32)), w_32]) (S' := []) 4 rfl ?_
                    exact ge_leaf (K := kX _ _) rfl
            · rintro ⟨x3_68, i_69⟩ _ ⟨w_70, w_71, rfl⟩
              try dsimp only
              refine ge_run (pc' := 125) (L' := [.ref 1638, .int x1, w_70, .int x3_68, w_71, w_32]) (S' := [.int x3_68]) 1 rfl ?_
              exact ge_ret rfl rfl (And.intro rfl trivial)
    · refine ge_run (pc' := 18) (L' := [.ref 1638, .int x1, uV, uV, uV, uV]) (S' := [.int (0 : Int32)]) 1 rfl ?_
      exact ge_ret rfl rfl (And.intro rfl trivial)
def f_Mo_without (i : MI) : Option (Int32 × MI) :=
  bnd (wr i 1638 0 (0 : Int32)) (fun i_1 => (itr (σ := Int32 × Int32 × MI) (ρ := Int32 × MI) (fun (x1_2, x2_3, i_4) => (f_Mo_buyers i_4).bind (fun v_8 => if x2_3 < v_8 then ((f_Mo_choiceOf i_4 x2_3).bind (fun (v_10, i_11) => (if v_10 = (-1 : Int32) then (some (shl (1 : Int32) x2_3)) else (some (0 : Int32)) : Option (Int32)).bind (fun y_12 => some (.inl ((x1_2 ||| y_12), (x2_3 + (1 : Int32)), i_11))))) else (some (.inr (x1_2, i_4))))) 1000000 ((0 : Int32), (0 : Int32), i_1)).bind (fun (x1_5, i_6) => some (x1_5, i_6)))
set_option maxHeartbeats 4000000 in
theorem c_Mo_without {n u : Nat} {t : MT} {i : MI} {r : MR} (s : Sh n t r)  : Cn 10 326 [.ref 1638] (n, u, t, i, r) (f_Mo_without i ) (F_i1 n u t r) PT := by
  refine cn_of (Y := K_Mo_without) (L0 := [.ref 1638, uV, uV]) rfl rfl rfl ?_
  intro d hd
  unfold f_Mo_without
  refine ge_run (pc' := 2) (L' := [.ref 1638, uV, uV]) (S' := [.int (0 : Int32), .ref 1638]) 2 rfl ?_
  refine ge_putI rfl (t1638 s) (Nat.le_of_ble_eq_true rfl) rfl (fun i_1 => ?_)
  refine ge_run (pc' := 7) (L' := [.ref 1638, .int (0 : Int32), .int (0 : Int32)]) (S' := []) 4 rfl ?_
  refine ge_bind (K1 := fun (q : Int32 × MI) e => ∃ w_7 : Value, e = .inl (26, [.ref 1638, .int q.1, w_7], [], (n, u, t, q.2, r))) (ge_itr (C := fun (q : Int32 × Int32 × MI) e => e = .inl (7, [.ref 1638, .int q.1, .int q.2.1], [], (n, u, t, q.2.2, r))) ?_ _ _ _ rfl) ?_
  · rintro ⟨x1_2, x2_3, i_4⟩ _ rfl
    try dsimp only
    refine ge_run (pc' := 9) (L' := [.ref 1638, .int x1_2, .int x2_3]) (S' := [.ref 1638, .int x2_3]) 2 rfl ?_
    refine ge_cv rfl rfl rfl (t1638 s) rfl rfl rfl (D := 1) (Nat.le_trans (by decide) hd) (c_Mo_buyers (n := n) (u := u) (t := t) (i := i_4) (r := r) s ) ?_
    rintro v_8 -
    dsimp only [bkE, F_i0]
    refine ge_ge rfl (fun h_9 => ?_) (fun h_15 => ?_)
    · refine ge_run (pc' := 14) (L' := [.ref 1638, .int x1_2, .int x2_3]) (S' := [.int x2_3, .ref 1638, .int x1_2]) 3 rfl ?_
      refine ge_cv rfl rfl rfl (t1638 s) rfl rfl rfl (D := 9) (Nat.le_trans (by decide) hd) (c_Mo_choiceOf (n := n) (u := u) (t := t) (i := i_4) (r := r) s x2_3) ?_
      rintro ⟨v_10, i_11⟩ -
      dsimp only [bkE, F_i1]
      refine ge_run (pc' := 16) (L' := [.ref 1638, .int x1_2, .int x2_3]) (S' := [.int (-1 : Int32), .int v_10, .int x1_2]) 1 rfl ?_
      refine ge_bind (K1 := fun (q : Int32) e => e = .inl (22, [.ref 1638, .int x1_2, .int x2_3], [.int q, .int x1_2], (n, u, t, i_11, r))) ?_ ?_
      · refine ge_ne rfl (fun h_13 => ?_) (fun h_14 => ?_)
        · refine ge_run (pc' := 22) (L' := [.ref 1638, .int x1_2, .int x2_3]) (S' := [.int (shl (1 : Int32) x2_3), .int x1_2]) 4 rfl ?_
          exact ge_leaf rfl
        · refine ge_run (pc' := 22) (L' := [.ref 1638, .int x1_2, .int x2_3]) (S' := [.int (0 : Int32), .int x1_2]) 1 rfl ?_
          exact ge_leaf rfl
      · rintro y_12 _ rfl
        try dsimp only
        refine ge_run (pc' := 7) (L' := [.ref 1638, .int (x1_2 ||| y_12), .int (x2_3 + (1 : Int32))]) (S' := []) 4 rfl ?_
        exact ge_leaf (K := kX _ _) rfl
    · exact ge_leaf (K := kX _ _) (Exists.intro _ rfl)
  · rintro ⟨x1_5, i_6⟩ _ ⟨w_7, rfl⟩
    try dsimp only
    refine ge_run (pc' := 27) (L' := [.ref 1638, .int x1_5, w_7]) (S' := [.int x1_5]) 1 rfl ?_
    exact ge_ret rfl rfl (And.intro rfl trivial)
def f_Mo_soldNext (i : MI) (x1 : Int32) (x2 : Int32) : Option (Int32) :=
  (f_Mo_of i x2 (2 : Int32)).bind (fun v_1 => (f_J_bitCount x1).bind (fun v_2 => grd x2 8 ((if 0 < (v_1 - (v_2 * (i 1647 (ix x2)))) then ((f_Mo_of i x2 (1 : Int32)).bind (fun v_7 => some v_7)) else (some (0 : Int32)) : Option (Int32)).bind (fun y_5 => grd (x1 ||| (shl (1 : Int32) x2)) 256 (some ((y_5 + (i 1655 (ix (x1 ||| (shl (1 : Int32) x2)))))))))))
set_option maxHeartbeats 4000000 in
theorem c_Mo_soldNext {n u : Nat} {t : MT} {i : MI} {r : MR} (s : Sh n t r) (x1 : Int32) (x2 : Int32) : Cn 3 327 [.ref 1638, .int x1, .int x2] (n, u, t, i, r) (f_Mo_soldNext i x1 x2) (F_i0 n u t i r) PT := by
  refine cn_of (Y := K_Mo_soldNext) (L0 := [.ref 1638, .int x1, .int x2]) rfl rfl rfl ?_
  intro d hd
  unfold f_Mo_soldNext
  refine ge_run (pc' := 3) (L' := [.ref 1638, .int x1, .int x2]) (S' := [.int (2 : Int32), .int x2, .ref 1638]) 3 rfl ?_
  refine ge_cv rfl rfl rfl (t1638 s) rfl rfl rfl (D := 2) (Nat.le_trans (by decide) hd) (c_Mo_of (n := n) (u := u) (t := t) (i := i) (r := r) s x2 (2 : Int32)) ?_
  rintro v_1 -
  dsimp only [bkE, F_i0]
  refine ge_run (pc' := 5) (L' := [.ref 1638, .int x1, .int x2]) (S' := [.int x1, .int v_1]) 1 rfl ?_
  refine ge_cs rfl rfl rfl rfl rfl rfl (D := 1) (Nat.le_trans (by decide) hd) (c_J_bitCount (n := n) (u := u) (t := t) (i := i) (r := r) s x1) ?_
  rintro v_2 -
  dsimp only [bkE, F_i0]
  refine ge_run (pc' := 7) (L' := [.ref 1638, .int x1, .int x2]) (S' := [.ref 1638, .int v_2, .int v_1]) 1 rfl ?_
  refine ge_getR (b := 1647) rfl (t1638 s) rfl (r1638_18 s) (Nat.le_of_ble_eq_true rfl) ?_
  refine ge_run (pc' := 9) (L' := [.ref 1638, .int x1, .int x2]) (S' := [.int x2, .ref 1647, .int v_2, .int v_1]) 1 rfl ?_
  refine ge_grd (fun g_3 g_4 => ?_)
  refine ge_iald (jn := (ix x2)) rfl (t1647 s) ⟨g_3, rfl⟩ g_4 ?_
  refine ge_run (pc' := 12) (L' := [.ref 1638, .int x1, .int x2]) (S' := [.int (v_1 - (v_2 * (i 1647 (ix x2))))]) 2 rfl ?_
  refine ge_bind (K1 := fun (q : Int32) e => e = .inl (19, [.ref 1638, .int x1, .int x2], [.int q], (n, u, t, i, r))) ?_ ?_
  · refine ge_le0 rfl (fun h_6 => ?_) (fun h_8 => ?_)
    · refine ge_run (pc' := 16) (L' := [.ref 1638, .int x1, .int x2]) (S' := [.int (1 : Int32), .int x2, .ref 1638]) 3 rfl ?_
      refine ge_cv rfl rfl rfl (t1638 s) rfl rfl rfl (D := 2) (Nat.le_trans (by decide) hd) (c_Mo_of (n := n) (u := u) (t := t) (i := i) (r := r) s x2 (1 : Int32)) ?_
      rintro v_7 -
      dsimp only [bkE, F_i0]
      refine ge_run (pc' := 19) (L' := [.ref 1638, .int x1, .int x2]) (S' := [.int v_7]) 1 rfl ?_
      exact ge_leaf rfl
    · refine ge_run (pc' := 19) (L' := [.ref 1638, .int x1, .int x2]) (S' := [.int (0 : Int32)]) 1 rfl ?_
      exact ge_leaf rfl
  · rintro y_5 _ rfl
    try dsimp only
    refine ge_run (pc' := 20) (L' := [.ref 1638, .int x1, .int x2]) (S' := [.ref 1638, .int y_5]) 1 rfl ?_
    refine ge_getR (b := 1655) rfl (t1638 s) rfl (r1638_26 s) (Nat.le_of_ble_eq_true rfl) ?_
    refine ge_run (pc' := 26) (L' := [.ref 1638, .int x1, .int x2]) (S' := [.int (x1 ||| (shl (1 : Int32) x2)), .ref 1655, .int y_5]) 5 rfl ?_
    refine ge_grd (fun g_9 g_10 => ?_)
    refine ge_iald (jn := (ix (x1 ||| (shl (1 : Int32) x2)))) rfl (t1655 s) ⟨g_9, rfl⟩ g_10 ?_
    refine ge_run (pc' := 28) (L' := [.ref 1638, .int x1, .int x2]) (S' := [.int (y_5 + (i 1655 (ix (x1 ||| (shl (1 : Int32) x2)))))]) 1 rfl ?_
    exact ge_ret rfl rfl (And.intro rfl trivial)
def f_Mo_laysOrder (i : MI) (x1 : Int32) : Option (MI) :=
  (itr (σ := Int32 × MI) (ρ := MI) (fun (x2_1, i_2) => (f_Mo_fishes i_2).bind (fun v_5 => if x2_1 < v_5 then ((f_Mo_turnsBy i_2 x2_1).bind (fun (v_7, i_8) => grd x2_1 8 (bnd (wr i_8 1647 (ix x2_1) v_7) (fun i_11 => some (.inl ((x2_1 + (1 : Int32)), i_11)))))) else (some (.inr i_2)))) 1000000 ((0 : Int32), i)).bind (fun i_3 => (itr (σ := Int32 × MI) (ρ := MI) (fun (x2_13, i_14) => if x2_13 < 0 then (some (.inr i_14)) else ((if (x2_13 &&& (x1 ^^^ (-1 : Int32))) = 0 then ((itr (σ := Int32 × Int32) (ρ := Int32) (fun (x3_27, x4_28) => (f_Mo_fishes i_14).bind (fun v_31 => if x4_28 < v_31 then ((f_Mo_has (x1 &&& (x2_13 ^^^ (-1 : Int32))) x4_28).bind (fun v_33 => (if v_33 = 0 then (some x3_27) else ((f_Mo_soldNext i_14 x2_13 x4_28).bind (fun v_37 => (f_J_max x3_27 v_37).bind (fun v_38 => some v_38))) : Option (Int32)).bind (fun x3_34 => some (.inl (x3_34, (x4_28 + (1 : Int32))))))) else (some (.inr x3_27)))) 1000000 ((0 : Int32), (0 : Int32))).bind (fun x3_29 => grd x2_13 256 (bnd (wr i_14 1655 (ix x2_13) x3_29) (fun i_42 => some i_42)))) else (some i_14) : Option (MI)).bind (fun i_23 => some (.inl ((x2_13 + (-1 : Int32)), i_23))))) 1000000 (x1, i_3)).bind (fun i_17 => some i_17))
set_option maxHeartbeats 4000000 in
theorem c_Mo_laysOrder {n u : Nat} {t : MT} {i : MI} {r : MR} (s : Sh n t r) (x1 : Int32) : Cn 8 328 [.ref 1638, .int x1] (n, u, t, i, r) (f_Mo_laysOrder i x1) (F_v1 n u t r) PT := by
  refine cn_of (Y := K_Mo_laysOrder) (L0 := [.ref 1638, .int x1, uV, uV, uV]) rfl rfl rfl ?_
  intro d hd
  unfold f_Mo_laysOrder
  refine ge_run (pc' := 2) (L' := [.ref 1638, .int x1, .int (0 : Int32), uV, uV]) (S' := []) 2 rfl ?_
  refine ge_bind (K1 := fun (q : MI) e => ∃ w_4 : Value, e = .inl (15, [.ref 1638, .int x1, w_4, uV, uV], [], (n, u, t, q, r))) (ge_itr (C := fun (q : Int32 × MI) e => e = .inl (2, [.ref 1638, .int x1, .int q.1, uV, uV], [], (n, u, t, q.2, r))) ?_ _ _ _ rfl) ?_
  · rintro ⟨x2_1, i_2⟩ _ rfl
    try dsimp only
    refine ge_run (pc' := 4) (L' := [.ref 1638, .int x1, .int x2_1, uV, uV]) (S' := [.ref 1638, .int x2_1]) 2 rfl ?_
    refine ge_cv rfl rfl rfl (t1638 s) rfl rfl rfl (D := 1) (Nat.le_trans (by decide) hd) (c_Mo_fishes (n := n) (u := u) (t := t) (i := i_2) (r := r) s ) ?_
    rintro v_5 -
    dsimp only [bkE, F_i0]
    refine ge_ge rfl (fun h_6 => ?_) (fun h_12 => ?_)
    · refine ge_run (pc' := 7) (L' := [.ref 1638, .int x1, .int x2_1, uV, uV]) (S' := [.ref 1638]) 1 rfl ?_
      refine ge_getR (b := 1647) rfl (t1638 s) rfl (r1638_18 s) (Nat.le_of_ble_eq_true rfl) ?_
      refine ge_run (pc' := 11) (L' := [.ref 1638, .int x1, .int x2_1, uV, uV]) (S' := [.int x2_1, .ref 1638, .int x2_1, .ref 1647]) 3 rfl ?_
      refine ge_cv rfl rfl rfl (t1638 s) rfl rfl rfl (D := 7) (Nat.le_trans (by decide) hd) (c_Mo_turnsBy (n := n) (u := u) (t := t) (i := i_2) (r := r) s x2_1) ?_
      rintro ⟨v_7, i_8⟩ -
      dsimp only [bkE, F_i1]
      refine ge_grd (fun g_9 g_10 => ?_)
      refine ge_iast (jn := (ix x2_1)) rfl (t1647 s) (Nat.le_of_ble_eq_true rfl) ⟨g_9, rfl⟩ g_10 (fun i_11 => ?_)
      refine ge_run (pc' := 2) (L' := [.ref 1638, .int x1, .int (x2_1 + (1 : Int32)), uV, uV]) (S' := []) 2 rfl ?_
      exact ge_leaf (K := kX _ _) rfl
    · exact ge_leaf (K := kX _ _) (Exists.intro _ rfl)
  · rintro i_3 _ ⟨w_4, rfl⟩
    try dsimp only
    refine ge_run (pc' := 17) (L' := [.ref 1638, .int x1, .int x1, uV, uV]) (S' := []) 2 rfl ?_
    refine ge_bind (K1 := fun (q : MI) e => ∃ w_18 w_19 w_20 : Value, e = .inl (58, [.ref 1638, .int x1, w_18, w_19, w_20], [], (n, u, t, q, r))) (ge_itr (C := fun (q : Int32 × MI) e => ∃ w_15 w_16 : Value, e = .inl (17, [.ref 1638, .int x1, .int q.1, w_15, w_16], [], (n, u, t, q.2, r))) ?_ _ _ _ (Exists.intro _ (Exists.intro _ rfl))) ?_
    · rintro ⟨x2_13, i_14⟩ _ ⟨w_15, w_16, rfl⟩
      try dsimp only
      refine ge_run (pc' := 18) (L' := [.ref 1638, .int x1, .int x2_13, w_15, w_16]) (S' := [.int x2_13]) 1 rfl ?_
      refine ge_lt0 rfl (fun h_21 => ?_) (fun h_22 => ?_)
      · exact ge_leaf (K := kX _ _) (Exists.intro _ (Exists.intro _ (Exists.intro _ rfl)))
      · refine ge_run (pc' := 24) (L' := [.ref 1638, .int x1, .int x2_13, w_15, w_16]) (S' := [.int (x2_13 &&& (x1 ^^^ (-1 : Int32)))]) 5 rfl ?_
        refine ge_bind (K1 := fun (q : MI) e => ∃ w_24 w_25 : Value, e = .inl (56, [.ref 1638, .int x1, .int x2_13, w_24, w_25], [], (n, u, t, q, r))) ?_ ?_
        · refine ge_eq0 rfl (fun h_26 => ?_) (fun h_43 => ?_)
          · refine ge_run (pc' := 30) (L' := [.ref 1638, .int x1, .int x2_13, .int (0 : Int32), .int (0 : Int32)]) (S' := []) 4 rfl ?_
            refine ge_bind (K1 := fun (q : Int32) e => ∃ w_30 : Value, e = .inl (51, [.ref 1638, .int x1, .int x2_13, .int q, w_30], [], (n, u, t, i_14, r))) (ge_itr (C := fun (q : Int32 × Int32) e => e = .inl (30, [.ref 1638, .int x1, .int x2_13, .int q.1, .int q.2], [], (n, u, t, i_14, r))) ?_ _ _ _ rfl) ?_
            · rintro ⟨x3_27, x4_28⟩ _ rfl
              try dsimp only
              refine ge_run (pc' := 32) (L' := [.ref 1638, .int x1, .int x2_13, .int x3_27, .int x4_28]) (S' := [.ref 1638, .int x4_28]) 2 rfl ?_
              refine ge_cv rfl rfl rfl (t1638 s) rfl rfl rfl (D := 1) (Nat.le_trans (by decide) hd) (c_Mo_fishes (n := n) (u := u) (t := t) (i := i_14) (r := r) s ) ?_
              rintro v_31 -
              dsimp only [bkE, F_i0]
              refine ge_ge rfl (fun h_32 => ?_) (fun h_39 => ?_)
              · refine ge_run (pc' := 40) (L' := [.ref 1638, .int x1, .int x2_13, .int x3_27, .int x4_28]) (S' := [.int x4_28, .int (x1 &&& (x2_13 ^^^ (-1 : Int32)))]) 6 rfl ?_
                refine ge_cs rfl rfl rfl rfl rfl rfl (D := 1) (Nat.le_trans (by decide) hd) (c_Mo_has (n := n) (u := u) (t := t) (i := i_14) (r := r) s (x1 &&& (x2_13 ^^^ (-1 : Int32))) x4_28) ?_
                rintro v_33 -
                dsimp only [bkE, F_i0]
                refine ge_bind (K1 := fun (q : Int32) e => e = .inl (49, [.ref 1638, .int x1, .int x2_13, .int q, .int x4_28], [], (n, u, t, i_14, r))) ?_ ?_
                · refine ge_eq0 rfl (fun h_35 => ?_) (fun h_36 => ?_)
                  · exact ge_leaf rfl
                  · refine ge_run (pc' := 46) (L' := [.ref 1638, .int x1, .int x2_13, .int x3_27, .int x4_28]) (S' := [.int x4_28, .int x2_13, .ref 1638, .int x3_27]) 4 rfl ?_
                    refine ge_cv rfl rfl rfl (t1638 s) rfl rfl rfl (D := 3) (Nat.le_trans (by decide) hd) (c_Mo_soldNext (n := n) (u := u) (t := t) (i := i_14) (r := r) s x2_13 x4_28) ?_
                    rintro v_37 -
                    dsimp only [bkE, F_i0]
                    refine ge_cs rfl rfl rfl rfl rfl rfl (D := 1) (Nat.le_trans (by decide) hd) (c_J_max (n := n) (u := u) (t := t) (i := i_14) (r := r) s x3_27 v_37) ?_
                    rintro v_38 -
                    dsimp only [bkE, F_i0]
                    refine ge_run (pc' := 49) (L' := [.ref 1638, .int x1, .int x2_13, .int v_38, .int x4_28]) (S' := []) 1 rfl ?_
                    exact ge_leaf rfl
                · rintro x3_34 _ rfl
                  try dsimp only
                  refine ge_run (pc' := 30) (L' := [.ref 1638, .int x1, .int x2_13, .int x3_34, .int (x4_28 + (1 : Int32))]) (S' := []) 2 rfl ?_
                  exact ge_leaf (K := kX _ _) rfl
              · exact ge_leaf (K := kX _ _) (Exists.intro _ rfl)
            · rintro x3_29 _ ⟨w_30, rfl⟩
              try dsimp only
              refine ge_run (pc' := 52) (L' := [.ref 1638, .int x1, .int x2_13, .int x3_29, w_30]) (S' := [.ref 1638]) 1 rfl ?_
              refine ge_getR (b := 1655) rfl (t1638 s) rfl (r1638_26 s) (Nat.le_of_ble_eq_true rfl) ?_
              refine ge_run (pc' := 55) (L' := [.ref 1638, .int x1, .int x2_13, .int x3_29, w_30]) (S' := [.int x3_29, .int x2_13, .ref 1655]) 2 rfl ?_
              refine ge_grd (fun g_40 g_41 => ?_)
              refine ge_iast (jn := (ix x2_13)) rfl (t1655 s) (Nat.le_of_ble_eq_true rfl) ⟨g_40, rfl⟩ g_41 (fun i_42 => ?_)
              exact ge_leaf (Exists.intro _ (Exists.intro _ rfl))
          · refine ge_run (pc' := 56) (L' := [.ref 1638, .int x1, .int x2_13, w_15, w_16]) (S' := []) 1 rfl ?_
            exact ge_leaf (Exists.intro _ (Exists.intro _ rfl))
        · rintro i_23 _ ⟨w_24, w_25, rfl⟩
          try dsimp only
          refine ge_run (pc' := 17) (L' := [.ref 1638, .int x1, .int (x2_13 + (-1 : Int32)), w_24, w_25]) (S' := []) 2 rfl ?_
          exact ge_leaf (K := kX _ _) (Exists.intro _ (Exists.intro _ rfl))
    · rintro i_17 _ ⟨w_18, w_19, w_20, rfl⟩
      try dsimp only
      exact ge_retv rfl rfl (And.intro rfl trivial)
def f_Mo_order (i : MI) (x1 : Int32) : Option (Int32 × MI) :=
  bnd (wr i 1638 0 (0 : Int32)) (fun i_1 => (f_Mo_allThat i_1 (2 : Int32)).bind (fun v_2 => (f_Mo_laysOrder i_1 v_2).bind (fun i_3 => if x1 = (-1 : Int32) then (some ((i_3 1655 0), i_3)) else ((f_J_bitCount v_2).bind (fun v_6 => (f_Mo_in x1 (0 : Int32) (v_6 - (1 : Int32))).bind (fun v_7 => if v_7 = 0 then (some ((-1 : Int32), i_3)) else ((itr (σ := Int32 × Int32 × Int32) (ρ := Int32) (fun (x3_10, x4_11, x5_12) => if x1 < x5_12 then (some (.inr x4_11)) else ((itr (σ := Int32) (ρ := Int32) (fun x4_18 => (f_Mo_has (v_2 &&& (x3_10 ^^^ (-1 : Int32))) x4_18).bind (fun v_20 => if v_20 = 0 then (some (.inl (x4_18 + (1 : Int32)))) else ((f_Mo_soldNext i_3 x3_10 x4_18).bind (fun v_23 => grd x3_10 256 (if v_23 = (i_3 1655 (ix x3_10)) then (some (.inr x4_18)) else (some (.inl (x4_18 + (1 : Int32))))))))) 1000000 (0 : Int32)).bind (fun x4_19 => some (.inl ((x3_10 ||| (shl (1 : Int32) x4_19)), x4_19, (x5_12 + (1 : Int32))))))) 1000000 ((0 : Int32), (-1 : Int32), (0 : Int32))).bind (fun x4_13 => some (x4_13, i_3)))))))))
set_option maxHeartbeats 4000000 in
theorem c_Mo_order {n u : Nat} {t : MT} {i : MI} {r : MR} (s : Sh n t r) (x1 : Int32) : Cn 9 329 [.ref 1638, .int x1] (n, u, t, i, r) (f_Mo_order i x1) (F_i1 n u t r) PT := by
  refine cn_of (Y := K_Mo_order) (L0 := [.ref 1638, .int x1, uV, uV, uV, uV]) rfl rfl rfl ?_
  intro d hd
  unfold f_Mo_order
  refine ge_run (pc' := 2) (L' := [.ref 1638, .int x1, uV, uV, uV, uV]) (S' := [.int (0 : Int32), .ref 1638]) 2 rfl ?_
  refine ge_putI rfl (t1638 s) (Nat.le_of_ble_eq_true rfl) rfl (fun i_1 => ?_)
  refine ge_run (pc' := 5) (L' := [.ref 1638, .int x1, uV, uV, uV, uV]) (S' := [.int (2 : Int32), .ref 1638]) 2 rfl ?_
  refine ge_cv rfl rfl rfl (t1638 s) rfl rfl rfl (D := 3) (Nat.le_trans (by decide) hd) (c_Mo_allThat (n := n) (u := u) (t := t) (i := i_1) (r := r) s (2 : Int32)) ?_
  rintro v_2 -
  dsimp only [bkE, F_i0]
  refine ge_run (pc' := 9) (L' := [.ref 1638, .int x1, .int v_2, uV, uV, uV]) (S' := [.int v_2, .ref 1638]) 3 rfl ?_
  refine ge_cv rfl rfl rfl (t1638 s) rfl rfl rfl (D := 8) (Nat.le_trans (by decide) hd) (c_Mo_laysOrder (n := n) (u := u) (t := t) (i := i_1) (r := r) s v_2) ?_
  rintro i_3 -
  dsimp only [bkE, F_v1]
  refine ge_run (pc' := 12) (L' := [.ref 1638, .int x1, .int v_2, uV, uV, uV]) (S' := [.int (-1 : Int32), .int x1]) 2 rfl ?_
  refine ge_ne rfl (fun h_4 => ?_) (fun h_5 => ?_)
  · refine ge_run (pc' := 14) (L' := [.ref 1638, .int x1, .int v_2, uV, uV, uV]) (S' := [.ref 1638]) 1 rfl ?_
    refine ge_getR (b := 1655) rfl (t1638 s) rfl (r1638_26 s) (Nat.le_of_ble_eq_true rfl) ?_
    refine ge_run (pc' := 16) (L' := [.ref 1638, .int x1, .int v_2, uV, uV, uV]) (S' := [.int (0 : Int32), .ref 1655]) 1 rfl ?_
    refine ge_iald (jn := 0) rfl (t1655 s) lk0 (by decide) ?_
    exact ge_ret rfl rfl (And.intro rfl trivial)
  · refine ge_run (pc' := 21) (L' := [.ref 1638, .int x1, .int v_2, uV, uV, uV]) (S' := [.int v_2, .int (0 : Int32), .int x1]) 3 rfl ?_
    refine ge_cs rfl rfl rfl rfl rfl rfl (D := 1) (Nat.le_trans (by decide) hd) (c_J_bitCount (n := n) (u := u) (t := t) (i := i_3) (r := r) s v_2) ?_
    rintro v_6 -
    dsimp only [bkE, F_i0]
    refine ge_run (pc' := 24) (L' := [.ref 1638, .int x1, .int v_2, uV, uV, uV]) (S' := [.int (v_6 - (1 : Int32)), .int (0 : Int32), .int x1]) 2 rfl ?_
    refine ge_cs rfl rfl rfl rfl rfl rfl (D := 1) (Nat.le_trans (by decide) hd) (c_Mo_in (n := n) (u := u) (t := t) (i := i_3) (r := r) s x1 (0 : Int32) (v_6 - (1 : Int32))) ?_
    rintro v_7 -
    dsimp only [bkE, F_i0]
    refine ge_ne0 rfl (fun h_8 => ?_) (fun h_9 => ?_)
    · refine ge_run (pc' := 27) (L' := [.ref 1638, .int x1, .int v_2, uV, uV, uV]) (S' := [.int (-1 : Int32)]) 1 rfl ?_
      exact ge_ret rfl rfl (And.intro rfl trivial)
    · refine ge_run (pc' := 34) (L' := [.ref 1638, .int x1, .int v_2, .int (0 : Int32), .int (-1 : Int32), .int (0 : Int32)]) (S' := []) 6 rfl ?_
      refine ge_bind (K1 := fun (q : Int32) e => ∃ w_14 w_15 : Value, e = .inl (66, [.ref 1638, .int x1, .int v_2, w_14, .int q, w_15], [], (n, u, t, i_3, r))) (ge_itr (C := fun (q : Int32 × Int32 × Int32) e => e = .inl (34, [.ref 1638, .int x1, .int v_2, .int q.1, .int q.2.1, .int q.2.2], [], (n, u, t, i_3, r))) ?_ _ _ _ rfl) ?_
      · rintro ⟨x3_10, x4_11, x5_12⟩ _ rfl
        try dsimp only
        refine ge_run (pc' := 36) (L' := [.ref 1638, .int x1, .int v_2, .int x3_10, .int x4_11, .int x5_12]) (S' := [.int x1, .int x5_12]) 2 rfl ?_
        refine ge_gt rfl (fun h_16 => ?_) (fun h_17 => ?_)
        · exact ge_leaf (K := kX _ _) (Exists.intro _ (Exists.intro _ rfl))
        · refine ge_run (pc' := 39) (L' := [.ref 1638, .int x1, .int v_2, .int x3_10, .int (0 : Int32), .int x5_12]) (S' := []) 2 rfl ?_
          refine ge_bind (K1 := fun (q : Int32) e => e = .inl (58, [.ref 1638, .int x1, .int v_2, .int x3_10, .int q, .int x5_12], [], (n, u, t, i_3, r))) (ge_itr (C := fun (q : Int32) e => e = .inl (39, [.ref 1638, .int x1, .int v_2, .int x3_10, .int q, .int x5_12], [], (n, u, t, i_3, r))) ?_ _ _ _ rfl) ?_
          · rintro x4_18 _ rfl
            try dsimp only
            refine ge_run (pc' := 45) (L' := [.ref 1638, .int x1, .int v_2, .int x3_10, .int x4_18, .int x5_12]) (S' := [.int x4_18, .int (v_2 &&& (x3_10 ^^^ (-1 : Int32)))]) 6 rfl ?_
            refine ge_cs rfl rfl rfl rfl rfl rfl (D := 1) (Nat.le_trans (by decide) hd) (c_Mo_has (n := n) (u := u) (t := t) (i := i_3) (r := r) s (v_2 &&& (x3_10 ^^^ (-1 : Int32))) x4_18) ?_
            rintro v_20 -
            dsimp only [bkE, F_i0]
            refine ge_eq0 rfl (fun h_21 => ?_) (fun h_22 => ?_)
            · refine ge_run (pc' := 39) (L' := [.ref 1638, .int x1, .int v_2, .int x3_10, .int (x4_18 + (1 : Int32)), .int x5_12]) (S' := []) 2 rfl ?_
              exact ge_leaf (K := kX _ _) rfl
            · refine ge_run (pc' := 50) (L' := [.ref 1638, .int x1, .int v_2, .int x3_10, .int x4_18, .int x5_12]) (S' := [.int x4_18, .int x3_10, .ref 1638]) 3 rfl ?_
              refine ge_cv rfl rfl rfl (t1638 s) rfl rfl rfl (D := 3) (Nat.le_trans (by decide) hd) (c_Mo_soldNext (n := n) (u := u) (t := t) (i := i_3) (r := r) s x3_10 x4_18) ?_
              rintro v_23 -
              dsimp only [bkE, F_i0]
              refine ge_run (pc' := 52) (L' := [.ref 1638, .int x1, .int v_2, .int x3_10, .int x4_18, .int x5_12]) (S' := [.ref 1638, .int v_23]) 1 rfl ?_
              refine ge_getR (b := 1655) rfl (t1638 s) rfl (r1638_26 s) (Nat.le_of_ble_eq_true rfl) ?_
              refine ge_run (pc' := 54) (L' := [.ref 1638, .int x1, .int v_2, .int x3_10, .int x4_18, .int x5_12]) (S' := [.int x3_10, .ref 1655, .int v_23]) 1 rfl ?_
              refine ge_grd (fun g_24 g_25 => ?_)
              refine ge_iald (jn := (ix x3_10)) rfl (t1655 s) ⟨g_24, rfl⟩ g_25 ?_
              refine ge_eq rfl (fun h_26 => ?_) (fun h_27 => ?_)
              · exact ge_leaf (K := kX _ _) rfl
              · refine ge_run (pc' := 39) (L' := [.ref 1638, .int x1, .int v_2, .int x3_10, .int (x4_18 + (1 : Int32)), .int x5_12]) (S' := []) 2 rfl ?_
                exact ge_leaf (K := kX _ _) rfl
          · rintro x4_19 _ rfl
            try dsimp only
            refine ge_run (pc' := 34) (L' := [.ref 1638, .int x1, .int v_2, .int (x3_10 ||| (shl (1 : Int32) x4_19)), .int x4_19, .int (x5_12 + (1 : Int32))]) (S' := []) 8 rfl ?_
            exact ge_leaf (K := kX _ _) rfl
      · rintro x4_13 _ ⟨w_14, w_15, rfl⟩
        try dsimp only
        refine ge_run (pc' := 67) (L' := [.ref 1638, .int x1, .int v_2, w_14, .int x4_13, w_15]) (S' := [.int x4_13]) 1 rfl ?_
        exact ge_ret rfl rfl (And.intro rfl trivial)
def f_Mo_chasedAt (x0 : Int32) (x1 : Int32) (x2 : Int32) : Option (Int32) :=
  some ((((((4 : Int32) * x2) + x1) * (35 : Int32)) + x0))
set_option maxHeartbeats 4000000 in
theorem c_Mo_chasedAt {n u : Nat} {t : MT} {i : MI} {r : MR} (s : Sh n t r) (x0 : Int32) (x1 : Int32) (x2 : Int32) : Cn 1 330 [.int x0, .int x1, .int x2] (n, u, t, i, r) (f_Mo_chasedAt  x0 x1 x2) (F_i0 n u t i r) PT := by
  refine cn_of (Y := K_Mo_chasedAt) (L0 := [.int x0, .int x1, .int x2]) rfl rfl rfl ?_
  intro d hd
  unfold f_Mo_chasedAt
  refine ge_run (pc' := 9) (L' := [.int x0, .int x1, .int x2]) (S' := [.int (((((4 : Int32) * x2) + x1) * (35 : Int32)) + x0)]) 9 rfl ?_
  exact ge_ret rfl rfl (And.intro rfl trivial)
def f_Mo_turnsBehind (i : MI) (x1 : Int32) (x2 : Int32) (x3 : Int32) : Option (Int32) :=
  if 0 < x1 then (if x1 < (35 : Int32) then ((f_Mo_chasedAt x1 x2 (x3 - (1 : Int32))).bind (fun v_3 => grd v_3 1820 ((f_J_min (1000000 : Int32) ((1 : Int32) + (i 1656 (ix v_3)))).bind (fun v_6 => some (v_6))))) else (some ((1000000 : Int32)))) else (some ((1 : Int32)))
set_option maxHeartbeats 4000000 in
theorem c_Mo_turnsBehind {n u : Nat} {t : MT} {i : MI} {r : MR} (s : Sh n t r) (x1 : Int32) (x2 : Int32) (x3 : Int32) : Cn 2 331 [.ref 1638, .int x1, .int x2, .int x3] (n, u, t, i, r) (f_Mo_turnsBehind i x1 x2 x3) (F_i0 n u t i r) PT := by
  refine cn_of (Y := K_Mo_turnsBehind) (L0 := [.ref 1638, .int x1, .int x2, .int x3]) rfl rfl rfl ?_
  intro d hd
  unfold f_Mo_turnsBehind
  refine ge_run (pc' := 1) (L' := [.ref 1638, .int x1, .int x2, .int x3]) (S' := [.int x1]) 1 rfl ?_
  refine ge_gt0 rfl (fun h_1 => ?_) (fun h_8 => ?_)
  · refine ge_run (pc' := 6) (L' := [.ref 1638, .int x1, .int x2, .int x3]) (S' := [.int (35 : Int32), .int x1]) 2 rfl ?_
    refine ge_lt rfl (fun h_2 => ?_) (fun h_7 => ?_)
    · refine ge_run (pc' := 12) (L' := [.ref 1638, .int x1, .int x2, .int x3]) (S' := [.ref 1638, .int (1 : Int32), .int (1000000 : Int32)]) 3 rfl ?_
      refine ge_getR (b := 1656) rfl (t1638 s) rfl (r1638_27 s) (Nat.le_of_ble_eq_true rfl) ?_
      refine ge_run (pc' := 18) (L' := [.ref 1638, .int x1, .int x2, .int x3]) (S' := [.int (x3 - (1 : Int32)), .int x2, .int x1, .ref 1656, .int (1 : Int32), .int (1000000 : Int32)]) 5 rfl ?_
      refine ge_cs rfl rfl rfl rfl rfl rfl (D := 1) (Nat.le_trans (by decide) hd) (c_Mo_chasedAt (n := n) (u := u) (t := t) (i := i) (r := r) s x1 x2 (x3 - (1 : Int32))) ?_
      rintro v_3 -
      dsimp only [bkE, F_i0]
      refine ge_grd (fun g_4 g_5 => ?_)
      refine ge_iald (jn := (ix v_3)) rfl (t1656 s) ⟨g_4, rfl⟩ g_5 ?_
      refine ge_run (pc' := 21) (L' := [.ref 1638, .int x1, .int x2, .int x3]) (S' := [.int ((1 : Int32) + (i 1656 (ix v_3))), .int (1000000 : Int32)]) 1 rfl ?_
      refine ge_cs rfl rfl rfl rfl rfl rfl (D := 1) (Nat.le_trans (by decide) hd) (c_J_min (n := n) (u := u) (t := t) (i := i) (r := r) s (1000000 : Int32) ((1 : Int32) + (i 1656 (ix v_3)))) ?_
      rintro v_6 -
      dsimp only [bkE, F_i0]
      exact ge_ret rfl rfl (And.intro rfl trivial)
    · refine ge_run (pc' := 22) (L' := [.ref 1638, .int x1, .int x2, .int x3]) (S' := [.int (1000000 : Int32)]) 2 rfl ?_
      exact ge_ret rfl rfl (And.intro rfl trivial)
  · refine ge_run (pc' := 22) (L' := [.ref 1638, .int x1, .int x2, .int x3]) (S' := [.int (1 : Int32)]) 2 rfl ?_
    exact ge_ret rfl rfl (And.intro rfl trivial)
def f_Mo_chasedBy (i : MI) (x1 : Int32) (x2 : Int32) (x3 : Int32) : Option (Int32) :=
  (itr (σ := Int32 × Int32) (ρ := Int32) (fun (x4_1, x5_2) => if (2 : Int32) < x5_2 then (some (.inr x4_1)) else ((if x5_2 = (2 : Int32) then ((f_Mo_has x2 (0 : Int32)).bind (fun v_15 => if v_15 = 0 then ((if x5_2 = (2 : Int32) then (some (1 : Int32)) else (some (0 : Int32)) : Option (Int32)).bind (fun y_17 => (f_Mo_turnsBehind i ((x1 + x5_2) - (1 : Int32)) y_17 x3).bind (fun v_20 => (f_Mo_has x2 (1 : Int32)).bind (fun v_21 => (if v_21 = 0 then ((f_Mo_turnsBehind i ((x1 + x5_2) - (3 : Int32)) (y_17 + (2 : Int32)) x3).bind (fun v_24 => (f_J_min v_20 v_24).bind (fun v_25 => some v_25))) else (some v_20) : Option (Int32)).bind (fun x7_22 => (f_J_max x4_1 x7_22).bind (fun v_27 => some v_27)))))) else (some x4_1))) else ((if x5_2 = (2 : Int32) then (some (1 : Int32)) else (some (0 : Int32)) : Option (Int32)).bind (fun y_30 => (f_Mo_turnsBehind i ((x1 + x5_2) - (1 : Int32)) y_30 x3).bind (fun v_33 => (f_Mo_has x2 (1 : Int32)).bind (fun v_34 => (if v_34 = 0 then ((f_Mo_turnsBehind i ((x1 + x5_2) - (3 : Int32)) (y_30 + (2 : Int32)) x3).bind (fun v_37 => (f_J_min v_33 v_37).bind (fun v_38 => some v_38))) else (some v_33) : Option (Int32)).bind (fun x7_35 => (f_J_max x4_1 x7_35).bind (fun v_40 => some v_40)))))) : Option (Int32)).bind (fun x4_11 => some (.inl (x4_11, (x5_2 + (1 : Int32))))))) 1000000 ((0 : Int32), (1 : Int32))).bind (fun x4_5 => some (x4_5))
set_option maxHeartbeats 4000000 in
theorem c_Mo_chasedBy {n u : Nat} {t : MT} {i : MI} {r : MR} (s : Sh n t r) (x1 : Int32) (x2 : Int32) (x3 : Int32) : Cn 3 332 [.ref 1638, .int x1, .int x2, .int x3] (n, u, t, i, r) (f_Mo_chasedBy i x1 x2 x3) (F_i0 n u t i r) PT := by
  refine cn_of (Y := K_Mo_chasedBy) (L0 := [.ref 1638, .int x1, .int x2, .int x3, uV, uV, uV, uV]) rfl rfl rfl ?_
  intro d hd
  unfold f_Mo_chasedBy
  refine ge_run (pc' := 4) (L' := [.ref 1638, .int x1, .int x2, .int x3, .int (0 : Int32), .int (1 : Int32), uV, uV]) (S' := []) 4 rfl ?_
  refine ge_bind (K1 := fun (q : Int32) e => ∃ w_6 w_7 w_8 : Value, e = .inl (56, [.ref 1638, .int x1, .int x2, .int x3, .int q, w_6, w_7, w_8], [], (n, u, t, i, r))) (ge_itr (C := fun (q : Int32 × Int32) e => ∃ w_3 w_4 : Value, e = .inl (4, [.ref 1638, .int x1, .int x2, .int x3, .int q.1, .int q.2, w_3, w_4], [], (n, u, t, i, r))) ?_ _ _ _ (Exists.intro _ (Exists.intro _ rfl))) ?_
  · rintro ⟨x4_1, x5_2⟩ _ ⟨w_3, w_4, rfl⟩
    try dsimp only
    refine ge_run (pc' := 6) (L' := [.ref 1638, .int x1, .int x2, .int x3, .int x4_1, .int x5_2, w_3, w_4]) (S' := [.int (2 : Int32), .int x5_2]) 2 rfl ?_
    refine ge_gt rfl (fun h_9 => ?_) (fun h_10 => ?_)
    · exact ge_leaf (K := kX _ _) (Exists.intro _ (Exists.intro _ (Exists.intro _ rfl)))
    · refine ge_run (pc' := 9) (L' := [.ref 1638, .int x1, .int x2, .int x3, .int x4_1, .int x5_2, w_3, w_4]) (S' := [.int (2 : Int32), .int x5_2]) 2 rfl ?_
      refine ge_bind (K1 := fun (q : Int32) e => ∃ w_12 w_13 : Value, e = .inl (54, [.ref 1638, .int x1, .int x2, .int x3, .int q, .int x5_2, w_12, w_13], [], (n, u, t, i, r))) ?_ ?_
      · refine ge_ne rfl (fun h_14 => ?_) (fun h_29 => ?_)
        · refine ge_run (pc' := 12) (L' := [.ref 1638, .int x1, .int x2, .int x3, .int x4_1, .int x5_2, w_3, w_4]) (S' := [.int (0 : Int32), .int x2]) 2 rfl ?_
          refine ge_cs rfl rfl rfl rfl rfl rfl (D := 1) (Nat.le_trans (by decide) hd) (c_Mo_has (n := n) (u := u) (t := t) (i := i) (r := r) s x2 (0 : Int32)) ?_
          rintro v_15 -
          dsimp only [bkE, F_i0]
          refine ge_eq0 rfl (fun h_16 => ?_) (fun h_28 => ?_)
          · refine ge_run (pc' := 17) (L' := [.ref 1638, .int x1, .int x2, .int x3, .int x4_1, .int x5_2, w_3, w_4]) (S' := [.int (2 : Int32), .int x5_2]) 2 rfl ?_
            refine ge_bind (K1 := fun (q : Int32) e => e = .inl (21, [.ref 1638, .int x1, .int x2, .int x3, .int x4_1, .int x5_2, w_3, w_4], [.int q], (n, u, t, i, r))) ?_ ?_
            · refine ge_ne rfl (fun h_18 => ?_) (fun h_19 => ?_)
              · refine ge_run (pc' := 21) (L' := [.ref 1638, .int x1, .int x2, .int x3, .int x4_1, .int x5_2, w_3, w_4]) (S' := [.int (1 : Int32)]) 2 rfl ?_
                exact ge_leaf rfl
              · refine ge_run (pc' := 21) (L' := [.ref 1638, .int x1, .int x2, .int x3, .int x4_1, .int x5_2, w_3, w_4]) (S' := [.int (0 : Int32)]) 1 rfl ?_
                exact ge_leaf rfl
            · rintro y_17 _ rfl
              try dsimp only
              refine ge_run (pc' := 30) (L' := [.ref 1638, .int x1, .int x2, .int x3, .int x4_1, .int x5_2, .int y_17, w_4]) (S' := [.int x3, .int y_17, .int ((x1 + x5_2) - (1 : Int32)), .ref 1638]) 9 rfl ?_
              refine ge_cv rfl rfl rfl (t1638 s) rfl rfl rfl (D := 2) (Nat.le_trans (by decide) hd) (c_Mo_turnsBehind (n := n) (u := u) (t := t) (i := i) (r := r) s ((x1 + x5_2) - (1 : Int32)) y_17 x3) ?_
              rintro v_20 -
              dsimp only [bkE, F_i0]
              refine ge_run (pc' := 34) (L' := [.ref 1638, .int x1, .int x2, .int x3, .int x4_1, .int x5_2, .int y_17, .int v_20]) (S' := [.int (1 : Int32), .int x2]) 3 rfl ?_
              refine ge_cs rfl rfl rfl rfl rfl rfl (D := 1) (Nat.le_trans (by decide) hd) (c_Mo_has (n := n) (u := u) (t := t) (i := i) (r := r) s x2 (1 : Int32)) ?_
              rintro v_21 -
              dsimp only [bkE, F_i0]
              refine ge_bind (K1 := fun (q : Int32) e => e = .inl (50, [.ref 1638, .int x1, .int x2, .int x3, .int x4_1, .int x5_2, .int y_17, .int q], [], (n, u, t, i, r))) ?_ ?_
              · refine ge_ne0 rfl (fun h_23 => ?_) (fun h_26 => ?_)
                · refine ge_run (pc' := 47) (L' := [.ref 1638, .int x1, .int x2, .int x3, .int x4_1, .int x5_2, .int y_17, .int v_20]) (S' := [.int x3, .int (y_17 + (2 : Int32)), .int ((x1 + x5_2) - (3 : Int32)), .ref 1638, .int v_20]) 11 rfl ?_
                  refine ge_cv rfl rfl rfl (t1638 s) rfl rfl rfl (D := 2) (Nat.le_trans (by decide) hd) (c_Mo_turnsBehind (n := n) (u := u) (t := t) (i := i) (r := r) s ((x1 + x5_2) - (3 : Int32)) (y_17 + (2 : Int32)) x3) ?_
                  rintro v_24 -
                  dsimp only [bkE, F_i0]
                  refine ge_cs rfl rfl rfl rfl rfl rfl (D := 1) (Nat.le_trans (by decide) hd) (c_J_min (n := n) (u := u) (t := t) (i := i) (r := r) s v_20 v_24) ?_
                  rintro v_25 -
                  dsimp only [bkE, F_i0]
                  refine ge_run (pc' := 50) (L' := [.ref 1638, .int x1, .int x2, .int x3, .int x4_1, .int x5_2, .int y_17, .int v_25]) (S' := []) 1 rfl ?_
                  exact ge_leaf rfl
                · exact ge_leaf rfl
              · rintro x7_22 _ rfl
                try dsimp only
                refine ge_run (pc' := 52) (L' := [.ref 1638, .int x1, .int x2, .int x3, .int x4_1, .int x5_2, .int y_17, .int x7_22]) (S' := [.int x7_22, .int x4_1]) 2 rfl ?_
                refine ge_cs rfl rfl rfl rfl rfl rfl (D := 1) (Nat.le_trans (by decide) hd) (c_J_max (n := n) (u := u) (t := t) (i := i) (r := r) s x4_1 x7_22) ?_
                rintro v_27 -
                dsimp only [bkE, F_i0]
                refine ge_run (pc' := 54) (L' := [.ref 1638, .int x1, .int x2, .int x3, .int v_27, .int x5_2, .int y_17, .int x7_22]) (S' := []) 1 rfl ?_
                exact ge_leaf (Exists.intro _ (Exists.intro _ rfl))
          · refine ge_run (pc' := 54) (L' := [.ref 1638, .int x1, .int x2, .int x3, .int x4_1, .int x5_2, w_3, w_4]) (S' := []) 1 rfl ?_
            exact ge_leaf (Exists.intro _ (Exists.intro _ rfl))
        · refine ge_run (pc' := 17) (L' := [.ref 1638, .int x1, .int x2, .int x3, .int x4_1, .int x5_2, w_3, w_4]) (S' := [.int (2 : Int32), .int x5_2]) 2 rfl ?_
          refine ge_bind (K1 := fun (q : Int32) e => e = .inl (21, [.ref 1638, .int x1, .int x2, .int x3, .int x4_1, .int x5_2, w_3, w_4], [.int q], (n, u, t, i, r))) ?_ ?_
          · refine ge_ne rfl (fun h_31 => ?_) (fun h_32 => ?_)
            · refine ge_run (pc' := 21) (L' := [.ref 1638, .int x1, .int x2, .int x3, .int x4_1, .int x5_2, w_3, w_4]) (S' := [.int (1 : Int32)]) 2 rfl ?_
              exact ge_leaf rfl
            · refine ge_run (pc' := 21) (L' := [.ref 1638, .int x1, .int x2, .int x3, .int x4_1, .int x5_2, w_3, w_4]) (S' := [.int (0 : Int32)]) 1 rfl ?_
              exact ge_leaf rfl
          · rintro y_30 _ rfl
            try dsimp only
            refine ge_run (pc' := 30) (L' := [.ref 1638, .int x1, .int x2, .int x3, .int x4_1, .int x5_2, .int y_30, w_4]) (S' := [.int x3, .int y_30, .int ((x1 + x5_2) - (1 : Int32)), .ref 1638]) 9 rfl ?_
            refine ge_cv rfl rfl rfl (t1638 s) rfl rfl rfl (D := 2) (Nat.le_trans (by decide) hd) (c_Mo_turnsBehind (n := n) (u := u) (t := t) (i := i) (r := r) s ((x1 + x5_2) - (1 : Int32)) y_30 x3) ?_
            rintro v_33 -
            dsimp only [bkE, F_i0]
            refine ge_run (pc' := 34) (L' := [.ref 1638, .int x1, .int x2, .int x3, .int x4_1, .int x5_2, .int y_30, .int v_33]) (S' := [.int (1 : Int32), .int x2]) 3 rfl ?_
            refine ge_cs rfl rfl rfl rfl rfl rfl (D := 1) (Nat.le_trans (by decide) hd) (c_Mo_has (n := n) (u := u) (t := t) (i := i) (r := r) s x2 (1 : Int32)) ?_
            rintro v_34 -
            dsimp only [bkE, F_i0]
            refine ge_bind (K1 := fun (q : Int32) e => e = .inl (50, [.ref 1638, .int x1, .int x2, .int x3, .int x4_1, .int x5_2, .int y_30, .int q], [], (n, u, t, i, r))) ?_ ?_
            · refine ge_ne0 rfl (fun h_36 => ?_) (fun h_39 => ?_)
              · refine ge_run (pc' := 47) (L' := [.ref 1638, .int x1, .int x2, .int x3, .int x4_1, .int x5_2, .int y_30, .int v_33]) (S' := [.int x3, .int (y_30 + (2 : Int32)), .int ((x1 + x5_2) - (3 : Int32)), .ref 1638, .int v_33]) 11 rfl ?_
                refine ge_cv rfl rfl rfl (t1638 s) rfl rfl rfl (D := 2) (Nat.le_trans (by decide) hd) (c_Mo_turnsBehind (n := n) (u := u) (t := t) (i := i) (r := r) s ((x1 + x5_2) - (3 : Int32)) (y_30 + (2 : Int32)) x3) ?_
                rintro v_37 -
                dsimp only [bkE, F_i0]
                refine ge_cs rfl rfl rfl rfl rfl rfl (D := 1) (Nat.le_trans (by decide) hd) (c_J_min (n := n) (u := u) (t := t) (i := i) (r := r) s v_33 v_37) ?_
                rintro v_38 -
                dsimp only [bkE, F_i0]
                refine ge_run (pc' := 50) (L' := [.ref 1638, .int x1, .int x2, .int x3, .int x4_1, .int x5_2, .int y_30, .int v_38]) (S' := []) 1 rfl ?_
                exact ge_leaf rfl
              · exact ge_leaf rfl
            · rintro x7_35 _ rfl
              try dsimp only
              refine ge_run (pc' := 52) (L' := [.ref 1638, .int x1, .int x2, .int x3, .int x4_1, .int x5_2, .int y_30, .int x7_35]) (S' := [.int x7_35, .int x4_1]) 2 rfl ?_
              refine ge_cs rfl rfl rfl rfl rfl rfl (D := 1) (Nat.le_trans (by decide) hd) (c_J_max (n := n) (u := u) (t := t) (i := i) (r := r) s x4_1 x7_35) ?_
              rintro v_40 -
              dsimp only [bkE, F_i0]
              refine ge_run (pc' := 54) (L' := [.ref 1638, .int x1, .int x2, .int x3, .int v_40, .int x5_2, .int y_30, .int x7_35]) (S' := []) 1 rfl ?_
              exact ge_leaf (Exists.intro _ (Exists.intro _ rfl))
      · rintro x4_11 _ ⟨w_12, w_13, rfl⟩
        try dsimp only
        refine ge_run (pc' := 4) (L' := [.ref 1638, .int x1, .int x2, .int x3, .int x4_11, .int (x5_2 + (1 : Int32)), w_12, w_13]) (S' := []) 2 rfl ?_
        exact ge_leaf (K := kX _ _) (Exists.intro _ (Exists.intro _ rfl))
  · rintro x4_5 _ ⟨w_6, w_7, w_8, rfl⟩
    try dsimp only
    refine ge_run (pc' := 57) (L' := [.ref 1638, .int x1, .int x2, .int x3, .int x4_5, w_6, w_7, w_8]) (S' := [.int x4_5]) 1 rfl ?_
    exact ge_ret rfl rfl (And.intro rfl trivial)
def f_Mo_chase (i : MI) (x1 : Int32) (x2 : Int32) : Option (Int32 × MI) :=
  bnd (wr i 1638 0 (0 : Int32)) (fun i_1 => (f_Mo_in x1 (0 : Int32) (20 : Int32)).bind (fun v_2 => (if v_2 = 0 then (some (1 : Int32)) else ((f_Mo_in x2 (0 : Int32) (12 : Int32)).bind (fun v_6 => if v_6 = 0 then (some (1 : Int32)) else (some (0 : Int32)))) : Option (Int32)).bind (fun y_3 => (f_Mo_throwsIf i_1 y_3 (1 : Int32)).bind (fun (v_9, i_10) => if v_9 = 0 then ((itr (σ := Int32 × MI) (ρ := MI) (fun (x3_12, i_13) => if x2 < x3_12 then (some (.inr i_13)) else ((itr (σ := Int32 × MI) (ρ := MI) (fun (x4_22, i_23) => if x4_22 < (4 : Int32) then ((itr (σ := Int32 × MI) (ρ := MI) (fun (x5_29, i_30) => if x5_29 < (35 : Int32) then ((f_Mo_chasedAt x5_29 x4_22 x3_12).bind (fun v_34 => (if x5_29 = 0 then (some (0 : Int32)) else (if x3_12 = 0 then (some (1000000 : Int32)) else ((f_Mo_chasedBy i_30 x5_29 x4_22 x3_12).bind (fun v_40 => some v_40))) : Option (Int32)).bind (fun y_35 => grd v_34 1820 (bnd (wr i_30 1656 (ix v_34) y_35) (fun i_43 => some (.inl ((x5_29 + (1 : Int32)), i_43))))))) else (some (.inr i_30))) 1000000 ((0 : Int32), i_23)).bind (fun i_31 => some (.inl ((x4_22 + (1 : Int32)), i_31)))) else (some (.inr i_23))) 1000000 ((0 : Int32), i_13)).bind (fun i_25 => some (.inl ((x3_12 + (1 : Int32)), i_25))))) 1000000 ((0 : Int32), i_10)).bind (fun i_16 => (f_Mo_chasedAt x1 (0 : Int32) x2).bind (fun v_46 => grd v_46 1820 (if x2 < (i_16 1656 (ix v_46)) then (some ((-1 : Int32), i_16)) else (some ((i_16 1656 (ix v_46)), i_16)))))) else (some ((0 : Int32), i_10))))))
set_option maxHeartbeats 4000000 in
theorem c_Mo_chase {n u : Nat} {t : MT} {i : MI} {r : MR} (s : Sh n t r) (x1 : Int32) (x2 : Int32) : Cn 4 333 [.ref 1638, .int x1, .int x2] (n, u, t, i, r) (f_Mo_chase i x1 x2) (F_i1 n u t r) PT := by
  refine cn_of (Y := K_Mo_chase) (L0 := [.ref 1638, .int x1, .int x2, uV, uV, uV]) rfl rfl rfl ?_
  intro d hd
  unfold f_Mo_chase
  refine ge_run (pc' := 2) (L' := [.ref 1638, .int x1, .int x2, uV, uV, uV]) (S' := [.int (0 : Int32), .ref 1638]) 2 rfl ?_
  refine ge_putI rfl (t1638 s) (Nat.le_of_ble_eq_true rfl) rfl (fun i_1 => ?_)
  refine ge_run (pc' := 7) (L' := [.ref 1638, .int x1, .int x2, uV, uV, uV]) (S' := [.int (20 : Int32), .int (0 : Int32), .int x1, .ref 1638]) 4 rfl ?_
  refine ge_cs rfl rfl rfl rfl rfl rfl (D := 1) (Nat.le_trans (by decide) hd) (c_Mo_in (n := n) (u := u) (t := t) (i := i_1) (r := r) s x1 (0 : Int32) (20 : Int32)) ?_
  rintro v_2 -
  dsimp only [bkE, F_i0]
  refine ge_bind (K1 := fun (q : Int32) e => e = .inl (17, [.ref 1638, .int x1, .int x2, uV, uV, uV], [.int q, .ref 1638], (n, u, t, i_1, r))) ?_ ?_
  · refine ge_eq0 rfl (fun h_4 => ?_) (fun h_5 => ?_)
    · refine ge_run (pc' := 17) (L' := [.ref 1638, .int x1, .int x2, uV, uV, uV]) (S' := [.int (1 : Int32), .ref 1638]) 2 rfl ?_
      exact ge_leaf rfl
    · refine ge_run (pc' := 12) (L' := [.ref 1638, .int x1, .int x2, uV, uV, uV]) (S' := [.int (12 : Int32), .int (0 : Int32), .int x2, .ref 1638]) 3 rfl ?_
      refine ge_cs rfl rfl rfl rfl rfl rfl (D := 1) (Nat.le_trans (by decide) hd) (c_Mo_in (n := n) (u := u) (t := t) (i := i_1) (r := r) s x2 (0 : Int32) (12 : Int32)) ?_
      rintro v_6 -
      dsimp only [bkE, F_i0]
      refine ge_ne0 rfl (fun h_7 => ?_) (fun h_8 => ?_)
      · refine ge_run (pc' := 17) (L' := [.ref 1638, .int x1, .int x2, uV, uV, uV]) (S' := [.int (1 : Int32), .ref 1638]) 2 rfl ?_
        exact ge_leaf rfl
      · refine ge_run (pc' := 17) (L' := [.ref 1638, .int x1, .int x2, uV, uV, uV]) (S' := [.int (0 : Int32), .ref 1638]) 1 rfl ?_
        exact ge_leaf rfl
  · rintro y_3 _ rfl
    try dsimp only
    refine ge_run (pc' := 18) (L' := [.ref 1638, .int x1, .int x2, uV, uV, uV]) (S' := [.int (1 : Int32), .int y_3, .ref 1638]) 1 rfl ?_
    refine ge_cv rfl rfl rfl (t1638 s) rfl rfl rfl (D := 1) (Nat.le_trans (by decide) hd) (c_Mo_throwsIf (n := n) (u := u) (t := t) (i := i_1) (r := r) s y_3 (1 : Int32)) ?_
    rintro ⟨v_9, i_10⟩ -
    dsimp only [bkE, F_i1]
    refine ge_eq0 rfl (fun h_11 => ?_) (fun h_51 => ?_)
    · refine ge_run (pc' := 24) (L' := [.ref 1638, .int x1, .int x2, .int (0 : Int32), uV, uV]) (S' := []) 2 rfl ?_
      refine ge_bind (K1 := fun (q : MI) e => ∃ w_17 w_18 w_19 : Value, e = .inl (63, [.ref 1638, .int x1, .int x2, w_17, w_18, w_19], [], (n, u, t, q, r))) (ge_itr (C := fun (q : Int32 × MI) e => ∃ w_14 w_15 : Value, e = .inl (24, [.ref 1638, .int x1, .int x2, .int q.1, w_14, w_15], [], (n, u, t, q.2, r))) ?_ _ _ _ (Exists.intro _ (Exists.intro _ rfl))) ?_
      · rintro ⟨x3_12, i_13⟩ _ ⟨w_14, w_15, rfl⟩
        try dsimp only
        refine ge_run (pc' := 26) (L' := [.ref 1638, .int x1, .int x2, .int x3_12, w_14, w_15]) (S' := [.int x2, .int x3_12]) 2 rfl ?_
        refine ge_gt rfl (fun h_20 => ?_) (fun h_21 => ?_)
        · exact ge_leaf (K := kX _ _) (Exists.intro _ (Exists.intro _ (Exists.intro _ rfl)))
        · refine ge_run (pc' := 29) (L' := [.ref 1638, .int x1, .int x2, .int x3_12, .int (0 : Int32), w_15]) (S' := []) 2 rfl ?_
          refine ge_bind (K1 := fun (q : MI) e => ∃ w_26 w_27 : Value, e = .inl (61, [.ref 1638, .int x1, .int x2, .int x3_12, w_26, w_27], [], (n, u, t, q, r))) (ge_itr (C := fun (q : Int32 × MI) e => ∃ w_24 : Value, e = .inl (29, [.ref 1638, .int x1, .int x2, .int x3_12, .int q.1, w_24], [], (n, u, t, q.2, r))) ?_ _ _ _ (Exists.intro _ rfl)) ?_
          · rintro ⟨x4_22, i_23⟩ _ ⟨w_24, rfl⟩
            try dsimp only
            refine ge_run (pc' := 31) (L' := [.ref 1638, .int x1, .int x2, .int x3_12, .int x4_22, w_24]) (S' := [.int (4 : Int32), .int x4_22]) 2 rfl ?_
            refine ge_ge rfl (fun h_28 => ?_) (fun h_45 => ?_)
            · refine ge_run (pc' := 34) (L' := [.ref 1638, .int x1, .int x2, .int x3_12, .int x4_22, .int (0 : Int32)]) (S' := []) 2 rfl ?_
              refine ge_bind (K1 := fun (q : MI) e => ∃ w_32 : Value, e = .inl (59, [.ref 1638, .int x1, .int x2, .int x3_12, .int x4_22, w_32], [], (n, u, t, q, r))) (ge_itr (C := fun (q : Int32 × MI) e => e = .inl (34, [.ref 1638, .int x1, .int x2, .int x3_12, .int x4_22, .int q.1], [], (n, u, t, q.2, r))) ?_ _ _ _ rfl) ?_
              · rintro ⟨x5_29, i_30⟩ _ rfl
                try dsimp only
                refine ge_run (pc' := 36) (L' := [.ref 1638, .int x1, .int x2, .int x3_12, .int x4_22, .int x5_29]) (S' := [.int (35 : Int32), .int x5_29]) 2 rfl ?_
                refine ge_ge rfl (fun h_33 => ?_) (fun h_44 => ?_)
                · refine ge_run (pc' := 38) (L' := [.ref 1638, .int x1, .int x2, .int x3_12, .int x4_22, .int x5_29]) (S' := [.ref 1638]) 1 rfl ?_
                  refine ge_getR (b := 1656) rfl (t1638 s) rfl (r1638_27 s) (Nat.le_of_ble_eq_true rfl) ?_
                  refine ge_run (pc' := 42) (L' := [.ref 1638, .int x1, .int x2, .int x3_12, .int x4_22, .int x5_29]) (S' := [.int x3_12, .int x4_22, .int x5_29, .ref 1656]) 3 rfl ?_
                  refine ge_cs rfl rfl rfl rfl rfl rfl (D := 1) (Nat.le_trans (by decide) hd) (c_Mo_chasedAt (n := n) (u := u) (t := t) (i := i_30) (r := r) s x5_29 x4_22 x3_12) ?_
                  rintro v_34 -
                  dsimp only [bkE, F_i0]
                  refine ge_run (pc' := 44) (L' := [.ref 1638, .int x1, .int x2, .int x3_12, .int x4_22, .int x5_29]) (S' := [.int x5_29, .int v_34, .ref 1656]) 1 rfl ?_
                  refine ge_bind (K1 := fun (q : Int32) e => e = .inl (56, [.ref 1638, .int x1, .int x2, .int x3_12, .int x4_22, .int x5_29], [.int q, .int v_34, .ref 1656], (n, u, t, i_30, r))) ?_ ?_
                  · refine ge_ne0 rfl (fun h_36 => ?_) (fun h_37 => ?_)
                    · refine ge_run (pc' := 56) (L' := [.ref 1638, .int x1, .int x2, .int x3_12, .int x4_22, .int x5_29]) (S' := [.int (0 : Int32), .int v_34, .ref 1656]) 2 rfl ?_
                      exact ge_leaf rfl
                    · refine ge_run (pc' := 48) (L' := [.ref 1638, .int x1, .int x2, .int x3_12, .int x4_22, .int x5_29]) (S' := [.int x3_12, .int v_34, .ref 1656]) 1 rfl ?_
                      refine ge_ne0 rfl (fun h_38 => ?_) (fun h_39 => ?_)
                      · refine ge_run (pc' := 56) (L' := [.ref 1638, .int x1, .int x2, .int x3_12, .int x4_22, .int x5_29]) (S' := [.int (1000000 : Int32), .int v_34, .ref 1656]) 2 rfl ?_
                        exact ge_leaf rfl
                      · refine ge_run (pc' := 55) (L' := [.ref 1638, .int x1, .int x2, .int x3_12, .int x4_22, .int x5_29]) (S' := [.int x3_12, .int x4_22, .int x5_29, .ref 1638, .int v_34, .ref 1656]) 4 rfl ?_
                        refine ge_cv rfl rfl rfl (t1638 s) rfl rfl rfl (D := 3) (Nat.le_trans (by decide) hd) (c_Mo_chasedBy (n := n) (u := u) (t := t) (i := i_30) (r := r) s x5_29 x4_22 x3_12) ?_
                        rintro v_40 -
                        dsimp only [bkE, F_i0]
                        exact ge_leaf rfl
                  · rintro y_35 _ rfl
                    try dsimp only
                    refine ge_grd (fun g_41 g_42 => ?_)
                    refine ge_iast (jn := (ix v_34)) rfl (t1656 s) (Nat.le_of_ble_eq_true rfl) ⟨g_41, rfl⟩ g_42 (fun i_43 => ?_)
                    refine ge_run (pc' := 34) (L' := [.ref 1638, .int x1, .int x2, .int x3_12, .int x4_22, .int (x5_29 + (1 : Int32))]) (S' := []) 2 rfl ?_
                    exact ge_leaf (K := kX _ _) rfl
                · exact ge_leaf (K := kX _ _) (Exists.intro _ rfl)
              · rintro i_31 _ ⟨w_32, rfl⟩
                try dsimp only
                refine ge_run (pc' := 29) (L' := [.ref 1638, .int x1, .int x2, .int x3_12, .int (x4_22 + (1 : Int32)), w_32]) (S' := []) 2 rfl ?_
                exact ge_leaf (K := kX _ _) (Exists.intro _ rfl)
            · exact ge_leaf (K := kX _ _) (Exists.intro _ (Exists.intro _ rfl))
          · rintro i_25 _ ⟨w_26, w_27, rfl⟩
            try dsimp only
            refine ge_run (pc' := 24) (L' := [.ref 1638, .int x1, .int x2, .int (x3_12 + (1 : Int32)), w_26, w_27]) (S' := []) 2 rfl ?_
            exact ge_leaf (K := kX _ _) (Exists.intro _ (Exists.intro _ rfl))
      · rintro i_16 _ ⟨w_17, w_18, w_19, rfl⟩
        try dsimp only
        refine ge_run (pc' := 64) (L' := [.ref 1638, .int x1, .int x2, w_17, w_18, w_19]) (S' := [.ref 1638]) 1 rfl ?_
        refine ge_getR (b := 1656) rfl (t1638 s) rfl (r1638_27 s) (Nat.le_of_ble_eq_true rfl) ?_
        refine ge_run (pc' := 68) (L' := [.ref 1638, .int x1, .int x2, w_17, w_18, w_19]) (S' := [.int x2, .int (0 : Int32), .int x1, .ref 1656]) 3 rfl ?_
        refine ge_cs rfl rfl rfl rfl rfl rfl (D := 1) (Nat.le_trans (by decide) hd) (c_Mo_chasedAt (n := n) (u := u) (t := t) (i := i_16) (r := r) s x1 (0 : Int32) x2) ?_
        rintro v_46 -
        dsimp only [bkE, F_i0]
        refine ge_grd (fun g_47 g_48 => ?_)
        refine ge_iald (jn := (ix v_46)) rfl (t1656 s) ⟨g_47, rfl⟩ g_48 ?_
        refine ge_run (pc' := 73) (L' := [.ref 1638, .int x1, .int x2, .int (i_16 1656 (ix v_46)), w_18, w_19]) (S' := [.int x2, .int (i_16 1656 (ix v_46))]) 3 rfl ?_
        refine ge_le rfl (fun h_49 => ?_) (fun h_50 => ?_)
        · refine ge_run (pc' := 77) (L' := [.ref 1638, .int x1, .int x2, .int (i_16 1656 (ix v_46)), w_18, w_19]) (S' := [.int (-1 : Int32)]) 2 rfl ?_
          exact ge_ret rfl rfl (And.intro rfl trivial)
        · refine ge_run (pc' := 77) (L' := [.ref 1638, .int x1, .int x2, .int (i_16 1656 (ix v_46)), w_18, w_19]) (S' := [.int (i_16 1656 (ix v_46))]) 1 rfl ?_
          exact ge_ret rfl rfl (And.intro rfl trivial)
    · refine ge_run (pc' := 21) (L' := [.ref 1638, .int x1, .int x2, uV, uV, uV]) (S' := [.int (0 : Int32)]) 1 rfl ?_
      exact ge_ret rfl rfl (And.intro rfl trivial)
def f_Mo_firstOf (x0 : Int32) : Option (Int32) :=
  (f_J_numberOfTrailingZeros x0).bind (fun v_1 => some (v_1))
set_option maxHeartbeats 4000000 in
theorem c_Mo_firstOf {n u : Nat} {t : MT} {i : MI} {r : MR} (s : Sh n t r) (x0 : Int32) : Cn 2 334 [.int x0] (n, u, t, i, r) (f_Mo_firstOf  x0) (F_i0 n u t i r) PT := by
  refine cn_of (Y := K_Mo_firstOf) (L0 := [.int x0]) rfl rfl rfl ?_
  intro d hd
  unfold f_Mo_firstOf
  refine ge_run (pc' := 1) (L' := [.int x0]) (S' := [.int x0]) 1 rfl ?_
  refine ge_cs rfl rfl rfl rfl rfl rfl (D := 1) (Nat.le_trans (by decide) hd) (c_J_numberOfTrailingZeros (n := n) (u := u) (t := t) (i := i) (r := r) s x0) ?_
  rintro v_1 -
  dsimp only [bkE, F_i0]
  exact ge_ret rfl rfl (And.intro rfl trivial)
def f_Mo_pairedBy (i : MI) (x1 : Int32) (x2 : Int32) : Option (Int32) :=
  (f_Mo_firstOf x1).bind (fun v_1 => if x2 = (-1 : Int32) then (grd (x1 &&& ((shl (1 : Int32) v_1) ^^^ (-1 : Int32))) 256 (some ((i 1657 (ix (x1 &&& ((shl (1 : Int32) v_1) ^^^ (-1 : Int32)))))))) else ((f_Mo_has (x1 &&& ((shl (1 : Int32) v_1) ^^^ (-1 : Int32))) x2).bind (fun v_6 => if v_6 = 0 then (some ((-1 : Int32))) else ((f_Mo_of i v_1 (0 : Int32)).bind (fun v_9 => (f_Mo_of i x2 (0 : Int32)).bind (fun v_10 => if v_9 = v_10 then (some ((-1 : Int32))) else ((f_Mo_of i v_1 (3 : Int32)).bind (fun v_13 => if v_13 = (3 : Int32) then (some ((-1 : Int32))) else ((f_Mo_of i x2 (3 : Int32)).bind (fun v_16 => if v_16 = (3 : Int32) then (some ((-1 : Int32))) else ((f_Mo_of i v_1 (1 : Int32)).bind (fun v_19 => (f_Mo_of i x2 (1 : Int32)).bind (fun v_20 => grd ((x1 &&& ((shl (1 : Int32) v_1) ^^^ (-1 : Int32))) &&& ((shl (1 : Int32) x2) ^^^ (-1 : Int32))) 256 (some (((v_19 + v_20) + (i 1657 (ix ((x1 &&& ((shl (1 : Int32) v_1) ^^^ (-1 : Int32))) &&& ((shl (1 : Int32) x2) ^^^ (-1 : Int32)))))))))))))))))))))
set_option maxHeartbeats 4000000 in
theorem c_Mo_pairedBy {n u : Nat} {t : MT} {i : MI} {r : MR} (s : Sh n t r) (x1 : Int32) (x2 : Int32) : Cn 3 335 [.ref 1638, .int x1, .int x2] (n, u, t, i, r) (f_Mo_pairedBy i x1 x2) (F_i0 n u t i r) PT := by
  refine cn_of (Y := K_Mo_pairedBy) (L0 := [.ref 1638, .int x1, .int x2, uV, uV]) rfl rfl rfl ?_
  intro d hd
  unfold f_Mo_pairedBy
  refine ge_run (pc' := 1) (L' := [.ref 1638, .int x1, .int x2, uV, uV]) (S' := [.int x1]) 1 rfl ?_
  refine ge_cs rfl rfl rfl rfl rfl rfl (D := 2) (Nat.le_trans (by decide) hd) (c_Mo_firstOf (n := n) (u := u) (t := t) (i := i) (r := r) s x1) ?_
  rintro v_1 -
  dsimp only [bkE, F_i0]
  refine ge_run (pc' := 13) (L' := [.ref 1638, .int x1, .int x2, .int v_1, .int (x1 &&& ((shl (1 : Int32) v_1) ^^^ (-1 : Int32)))]) (S' := [.int (-1 : Int32), .int x2]) 11 rfl ?_
  refine ge_ne rfl (fun h_2 => ?_) (fun h_5 => ?_)
  · refine ge_run (pc' := 15) (L' := [.ref 1638, .int x1, .int x2, .int v_1, .int (x1 &&& ((shl (1 : Int32) v_1) ^^^ (-1 : Int32)))]) (S' := [.ref 1638]) 1 rfl ?_
    refine ge_getR (b := 1657) rfl (t1638 s) rfl (r1638_28 s) (Nat.le_of_ble_eq_true rfl) ?_
    refine ge_run (pc' := 17) (L' := [.ref 1638, .int x1, .int x2, .int v_1, .int (x1 &&& ((shl (1 : Int32) v_1) ^^^ (-1 : Int32)))]) (S' := [.int (x1 &&& ((shl (1 : Int32) v_1) ^^^ (-1 : Int32))), .ref 1657]) 1 rfl ?_
    refine ge_grd (fun g_3 g_4 => ?_)
    refine ge_iald (jn := (ix (x1 &&& ((shl (1 : Int32) v_1) ^^^ (-1 : Int32))))) rfl (t1657 s) ⟨g_3, rfl⟩ g_4 ?_
    exact ge_ret rfl rfl (And.intro rfl trivial)
  · refine ge_run (pc' := 21) (L' := [.ref 1638, .int x1, .int x2, .int v_1, .int (x1 &&& ((shl (1 : Int32) v_1) ^^^ (-1 : Int32)))]) (S' := [.int x2, .int (x1 &&& ((shl (1 : Int32) v_1) ^^^ (-1 : Int32)))]) 2 rfl ?_
    refine ge_cs rfl rfl rfl rfl rfl rfl (D := 1) (Nat.le_trans (by decide) hd) (c_Mo_has (n := n) (u := u) (t := t) (i := i) (r := r) s (x1 &&& ((shl (1 : Int32) v_1) ^^^ (-1 : Int32))) x2) ?_
    rintro v_6 -
    dsimp only [bkE, F_i0]
    refine ge_eq0 rfl (fun h_7 => ?_) (fun h_8 => ?_)
    · refine ge_run (pc' := 66) (L' := [.ref 1638, .int x1, .int x2, .int v_1, .int (x1 &&& ((shl (1 : Int32) v_1) ^^^ (-1 : Int32)))]) (S' := [.int (-1 : Int32)]) 1 rfl ?_
      exact ge_ret rfl rfl (And.intro rfl trivial)
    · refine ge_run (pc' := 26) (L' := [.ref 1638, .int x1, .int x2, .int v_1, .int (x1 &&& ((shl (1 : Int32) v_1) ^^^ (-1 : Int32)))]) (S' := [.int (0 : Int32), .int v_1, .ref 1638]) 3 rfl ?_
      refine ge_cv rfl rfl rfl (t1638 s) rfl rfl rfl (D := 2) (Nat.le_trans (by decide) hd) (c_Mo_of (n := n) (u := u) (t := t) (i := i) (r := r) s v_1 (0 : Int32)) ?_
      rintro v_9 -
      dsimp only [bkE, F_i0]
      refine ge_run (pc' := 30) (L' := [.ref 1638, .int x1, .int x2, .int v_1, .int (x1 &&& ((shl (1 : Int32) v_1) ^^^ (-1 : Int32)))]) (S' := [.int (0 : Int32), .int x2, .ref 1638, .int v_9]) 3 rfl ?_
      refine ge_cv rfl rfl rfl (t1638 s) rfl rfl rfl (D := 2) (Nat.le_trans (by decide) hd) (c_Mo_of (n := n) (u := u) (t := t) (i := i) (r := r) s x2 (0 : Int32)) ?_
      rintro v_10 -
      dsimp only [bkE, F_i0]
      refine ge_eq rfl (fun h_11 => ?_) (fun h_12 => ?_)
      · refine ge_run (pc' := 66) (L' := [.ref 1638, .int x1, .int x2, .int v_1, .int (x1 &&& ((shl (1 : Int32) v_1) ^^^ (-1 : Int32)))]) (S' := [.int (-1 : Int32)]) 1 rfl ?_
        exact ge_ret rfl rfl (And.intro rfl trivial)
      · refine ge_run (pc' := 35) (L' := [.ref 1638, .int x1, .int x2, .int v_1, .int (x1 &&& ((shl (1 : Int32) v_1) ^^^ (-1 : Int32)))]) (S' := [.int (3 : Int32), .int v_1, .ref 1638]) 3 rfl ?_
        refine ge_cv rfl rfl rfl (t1638 s) rfl rfl rfl (D := 2) (Nat.le_trans (by decide) hd) (c_Mo_of (n := n) (u := u) (t := t) (i := i) (r := r) s v_1 (3 : Int32)) ?_
        rintro v_13 -
        dsimp only [bkE, F_i0]
        refine ge_run (pc' := 37) (L' := [.ref 1638, .int x1, .int x2, .int v_1, .int (x1 &&& ((shl (1 : Int32) v_1) ^^^ (-1 : Int32)))]) (S' := [.int (3 : Int32), .int v_13]) 1 rfl ?_
        refine ge_eq rfl (fun h_14 => ?_) (fun h_15 => ?_)
        · refine ge_run (pc' := 66) (L' := [.ref 1638, .int x1, .int x2, .int v_1, .int (x1 &&& ((shl (1 : Int32) v_1) ^^^ (-1 : Int32)))]) (S' := [.int (-1 : Int32)]) 1 rfl ?_
          exact ge_ret rfl rfl (And.intro rfl trivial)
        · refine ge_run (pc' := 41) (L' := [.ref 1638, .int x1, .int x2, .int v_1, .int (x1 &&& ((shl (1 : Int32) v_1) ^^^ (-1 : Int32)))]) (S' := [.int (3 : Int32), .int x2, .ref 1638]) 3 rfl ?_
          refine ge_cv rfl rfl rfl (t1638 s) rfl rfl rfl (D := 2) (Nat.le_trans (by decide) hd) (c_Mo_of (n := n) (u := u) (t := t) (i := i) (r := r) s x2 (3 : Int32)) ?_
          rintro v_16 -
          dsimp only [bkE, F_i0]
          refine ge_run (pc' := 43) (L' := [.ref 1638, .int x1, .int x2, .int v_1, .int (x1 &&& ((shl (1 : Int32) v_1) ^^^ (-1 : Int32)))]) (S' := [.int (3 : Int32), .int v_16]) 1 rfl ?_
          refine ge_eq rfl (fun h_17 => ?_) (fun h_18 => ?_)
          · refine ge_run (pc' := 66) (L' := [.ref 1638, .int x1, .int x2, .int v_1, .int (x1 &&& ((shl (1 : Int32) v_1) ^^^ (-1 : Int32)))]) (S' := [.int (-1 : Int32)]) 1 rfl ?_
            exact ge_ret rfl rfl (And.intro rfl trivial)
          · refine ge_run (pc' := 47) (L' := [.ref 1638, .int x1, .int x2, .int v_1, .int (x1 &&& ((shl (1 : Int32) v_1) ^^^ (-1 : Int32)))]) (S' := [.int (1 : Int32), .int v_1, .ref 1638]) 3 rfl ?_
            refine ge_cv rfl rfl rfl (t1638 s) rfl rfl rfl (D := 2) (Nat.le_trans (by decide) hd) (c_Mo_of (n := n) (u := u) (t := t) (i := i) (r := r) s v_1 (1 : Int32)) ?_
            rintro v_19 -
            dsimp only [bkE, F_i0]
            refine ge_run (pc' := 51) (L' := [.ref 1638, .int x1, .int x2, .int v_1, .int (x1 &&& ((shl (1 : Int32) v_1) ^^^ (-1 : Int32)))]) (S' := [.int (1 : Int32), .int x2, .ref 1638, .int v_19]) 3 rfl ?_
            refine ge_cv rfl rfl rfl (t1638 s) rfl rfl rfl (D := 2) (Nat.le_trans (by decide) hd) (c_Mo_of (n := n) (u := u) (t := t) (i := i) (r := r) s x2 (1 : Int32)) ?_
            rintro v_20 -
            dsimp only [bkE, F_i0]
            refine ge_run (pc' := 54) (L' := [.ref 1638, .int x1, .int x2, .int v_1, .int (x1 &&& ((shl (1 : Int32) v_1) ^^^ (-1 : Int32)))]) (S' := [.ref 1638, .int (v_19 + v_20)]) 2 rfl ?_
            refine ge_getR (b := 1657) rfl (t1638 s) rfl (r1638_28 s) (Nat.le_of_ble_eq_true rfl) ?_
            refine ge_run (pc' := 62) (L' := [.ref 1638, .int x1, .int x2, .int v_1, .int (x1 &&& ((shl (1 : Int32) v_1) ^^^ (-1 : Int32)))]) (S' := [.int ((x1 &&& ((shl (1 : Int32) v_1) ^^^ (-1 : Int32))) &&& ((shl (1 : Int32) x2) ^^^ (-1 : Int32))), .ref 1657, .int (v_19 + v_20)]) 7 rfl ?_
            refine ge_grd (fun g_21 g_22 => ?_)
            refine ge_iald (jn := (ix ((x1 &&& ((shl (1 : Int32) v_1) ^^^ (-1 : Int32))) &&& ((shl (1 : Int32) x2) ^^^ (-1 : Int32))))) rfl (t1657 s) ⟨g_21, rfl⟩ g_22 ?_
            refine ge_run (pc' := 66) (L' := [.ref 1638, .int x1, .int x2, .int v_1, .int (x1 &&& ((shl (1 : Int32) v_1) ^^^ (-1 : Int32)))]) (S' := [.int ((v_19 + v_20) + (i 1657 (ix ((x1 &&& ((shl (1 : Int32) v_1) ^^^ (-1 : Int32))) &&& ((shl (1 : Int32) x2) ^^^ (-1 : Int32))))))]) 2 rfl ?_
            exact ge_ret rfl rfl (And.intro rfl trivial)
def f_Mo_laysPairs (i : MI) : Option (MI) :=
  bnd (wr i 1657 0 (0 : Int32)) (fun i_1 => (itr (σ := Int32 × MI) (ρ := MI) (fun (x1_2, i_3) => (f_Mo_fishes i_3).bind (fun v_10 => if x1_2 < (shl (1 : Int32) v_10) then ((itr (σ := Int32 × Int32) (ρ := Int32) (fun (x2_12, x3_13) => (f_Mo_fishes i_3).bind (fun v_16 => if x3_13 < v_16 then ((f_Mo_pairedBy i_3 x1_2 x3_13).bind (fun v_18 => (f_J_max x2_12 v_18).bind (fun v_19 => some (.inl (v_19, (x3_13 + (1 : Int32))))))) else (some (.inr x2_12)))) 1000000 ((0 : Int32), (-1 : Int32))).bind (fun x2_14 => grd x1_2 256 (bnd (wr i_3 1657 (ix x1_2) x2_14) (fun i_23 => some (.inl ((x1_2 + (1 : Int32)), i_23)))))) else (some (.inr i_3)))) 1000000 ((1 : Int32), i_1)).bind (fun i_6 => some i_6))
set_option maxHeartbeats 4000000 in
theorem c_Mo_laysPairs {n u : Nat} {t : MT} {i : MI} {r : MR} (s : Sh n t r)  : Cn 4 336 [.ref 1638] (n, u, t, i, r) (f_Mo_laysPairs i ) (F_v1 n u t r) PT := by
  refine cn_of (Y := K_Mo_laysPairs) (L0 := [.ref 1638, uV, uV, uV]) rfl rfl rfl ?_
  intro d hd
  unfold f_Mo_laysPairs
  refine ge_run (pc' := 1) (L' := [.ref 1638, uV, uV, uV]) (S' := [.ref 1638]) 1 rfl ?_
  refine ge_getR (b := 1657) rfl (t1638 s) rfl (r1638_28 s) (Nat.le_of_ble_eq_true rfl) ?_
  refine ge_run (pc' := 4) (L' := [.ref 1638, uV, uV, uV]) (S' := [.int (0 : Int32), .int (0 : Int32), .ref 1657]) 2 rfl ?_
  refine ge_iast (jn := 0) rfl (t1657 s) (Nat.le_of_ble_eq_true rfl) lk0 (by decide) (fun i_1 => ?_)
  refine ge_run (pc' := 7) (L' := [.ref 1638, .int (1 : Int32), uV, uV]) (S' := []) 2 rfl ?_
  refine ge_bind (K1 := fun (q : MI) e => ∃ w_7 w_8 w_9 : Value, e = .inl (37, [.ref 1638, w_7, w_8, w_9], [], (n, u, t, q, r))) (ge_itr (C := fun (q : Int32 × MI) e => ∃ w_4 w_5 : Value, e = .inl (7, [.ref 1638, .int q.1, w_4, w_5], [], (n, u, t, q.2, r))) ?_ _ _ _ (Exists.intro _ (Exists.intro _ rfl))) ?_
  · rintro ⟨x1_2, i_3⟩ _ ⟨w_4, w_5, rfl⟩
    try dsimp only
    refine ge_run (pc' := 10) (L' := [.ref 1638, .int x1_2, w_4, w_5]) (S' := [.ref 1638, .int (1 : Int32), .int x1_2]) 3 rfl ?_
    refine ge_cv rfl rfl rfl (t1638 s) rfl rfl rfl (D := 1) (Nat.le_trans (by decide) hd) (c_Mo_fishes (n := n) (u := u) (t := t) (i := i_3) (r := r) s ) ?_
    rintro v_10 -
    dsimp only [bkE, F_i0]
    refine ge_run (pc' := 12) (L' := [.ref 1638, .int x1_2, w_4, w_5]) (S' := [.int (shl (1 : Int32) v_10), .int x1_2]) 1 rfl ?_
    refine ge_ge rfl (fun h_11 => ?_) (fun h_24 => ?_)
    · refine ge_run (pc' := 17) (L' := [.ref 1638, .int x1_2, .int (0 : Int32), .int (-1 : Int32)]) (S' := []) 4 rfl ?_
      refine ge_bind (K1 := fun (q : Int32) e => ∃ w_15 : Value, e = .inl (30, [.ref 1638, .int x1_2, .int q, w_15], [], (n, u, t, i_3, r))) (ge_itr (C := fun (q : Int32 × Int32) e => e = .inl (17, [.ref 1638, .int x1_2, .int q.1, .int q.2], [], (n, u, t, i_3, r))) ?_ _ _ _ rfl) ?_
      · rintro ⟨x2_12, x3_13⟩ _ rfl
        try dsimp only
        refine ge_run (pc' := 19) (L' := [.ref 1638, .int x1_2, .int x2_12, .int x3_13]) (S' := [.ref 1638, .int x3_13]) 2 rfl ?_
        refine ge_cv rfl rfl rfl (t1638 s) rfl rfl rfl (D := 1) (Nat.le_trans (by decide) hd) (c_Mo_fishes (n := n) (u := u) (t := t) (i := i_3) (r := r) s ) ?_
        rintro v_16 -
        dsimp only [bkE, F_i0]
        refine ge_ge rfl (fun h_17 => ?_) (fun h_20 => ?_)
        · refine ge_run (pc' := 25) (L' := [.ref 1638, .int x1_2, .int x2_12, .int x3_13]) (S' := [.int x3_13, .int x1_2, .ref 1638, .int x2_12]) 4 rfl ?_
          refine ge_cv rfl rfl rfl (t1638 s) rfl rfl rfl (D := 3) (Nat.le_trans (by decide) hd) (c_Mo_pairedBy (n := n) (u := u) (t := t) (i := i_3) (r := r) s x1_2 x3_13) ?_
          rintro v_18 -
          dsimp only [bkE, F_i0]
          refine ge_cs rfl rfl rfl rfl rfl rfl (D := 1) (Nat.le_trans (by decide) hd) (c_J_max (n := n) (u := u) (t := t) (i := i_3) (r := r) s x2_12 v_18) ?_
          rintro v_19 -
          dsimp only [bkE, F_i0]
          refine ge_run (pc' := 17) (L' := [.ref 1638, .int x1_2, .int v_19, .int (x3_13 + (1 : Int32))]) (S' := []) 3 rfl ?_
          exact ge_leaf (K := kX _ _) rfl
        · exact ge_leaf (K := kX _ _) (Exists.intro _ rfl)
      · rintro x2_14 _ ⟨w_15, rfl⟩
        try dsimp only
        refine ge_run (pc' := 31) (L' := [.ref 1638, .int x1_2, .int x2_14, w_15]) (S' := [.ref 1638]) 1 rfl ?_
        refine ge_getR (b := 1657) rfl (t1638 s) rfl (r1638_28 s) (Nat.le_of_ble_eq_true rfl) ?_
        refine ge_run (pc' := 34) (L' := [.ref 1638, .int x1_2, .int x2_14, w_15]) (S' := [.int x2_14, .int x1_2, .ref 1657]) 2 rfl ?_
        refine ge_grd (fun g_21 g_22 => ?_)
        refine ge_iast (jn := (ix x1_2)) rfl (t1657 s) (Nat.le_of_ble_eq_true rfl) ⟨g_21, rfl⟩ g_22 (fun i_23 => ?_)
        refine ge_run (pc' := 7) (L' := [.ref 1638, .int (x1_2 + (1 : Int32)), .int x2_14, w_15]) (S' := []) 2 rfl ?_
        exact ge_leaf (K := kX _ _) (Exists.intro _ (Exists.intro _ rfl))
    · exact ge_leaf (K := kX _ _) (Exists.intro _ (Exists.intro _ (Exists.intro _ rfl)))
  · rintro i_6 _ ⟨w_7, w_8, w_9, rfl⟩
    try dsimp only
    exact ge_retv rfl rfl (And.intro rfl trivial)
def f_Mo_pairs (i : MI) (x1 : Int32) : Option (Int32 × MI) :=
  bnd (wr i 1638 0 (0 : Int32)) (fun i_1 => (if x1 = (-1 : Int32) then (some (0 : Int32)) else ((f_Mo_noFish i_1 x1).bind (fun v_5 => if v_5 = 0 then (some (0 : Int32)) else (some (1 : Int32)))) : Option (Int32)).bind (fun y_2 => (f_Mo_throwsIf i_1 y_2 (1 : Int32)).bind (fun (v_8, i_9) => if v_8 = 0 then ((f_Mo_laysPairs i_9).bind (fun i_11 => (f_Mo_fishes i_11).bind (fun v_12 => if x1 = (-1 : Int32) then (grd ((shl (1 : Int32) v_12) - (1 : Int32)) 256 (some ((i_11 1657 (ix ((shl (1 : Int32) v_12) - (1 : Int32)))), i_11))) else ((itr (σ := Int32 × Int32 × Int32) (ρ := Int32) (fun (x2_17, x3_18, x4_19) => if x4_19 = 0 then ((f_Mo_firstOf x2_17).bind (fun v_28 => (itr (σ := Int32) (ρ := Int32) (fun x6_29 => (f_Mo_pairedBy i_11 x2_17 x6_29).bind (fun v_31 => grd x2_17 256 (if v_31 = (i_11 1657 (ix x2_17)) then (some (.inr x6_29)) else (some (.inl (x6_29 + (1 : Int32))))))) 1000000 (-1 : Int32)).bind (fun x6_30 => (if v_28 = x1 then (some (1 : Int32)) else (if x6_30 = x1 then (some (1 : Int32)) else (some (0 : Int32))) : Option (Int32)).bind (fun y_36 => (if v_28 = x1 then (some x6_30) else (some v_28) : Option (Int32)).bind (fun y_41 => (if x6_30 = (-1 : Int32) then (some (x2_17 &&& ((shl (1 : Int32) v_28) ^^^ (-1 : Int32)))) else (some ((x2_17 &&& ((shl (1 : Int32) v_28) ^^^ (-1 : Int32))) &&& ((shl (1 : Int32) x6_30) ^^^ (-1 : Int32)))) : Option (Int32)).bind (fun y_44 => some (.inl (y_44, y_41, y_36)))))))) else (some (.inr x3_18))) 1000000 (((shl (1 : Int32) v_12) - (1 : Int32)), (-1 : Int32), (0 : Int32))).bind (fun x3_22 => some (x3_22, i_11)))))) else (some ((0 : Int32), i_9)))))
set_option maxHeartbeats 4000000 in
theorem c_Mo_pairs {n u : Nat} {t : MT} {i : MI} {r : MR} (s : Sh n t r) (x1 : Int32) : Cn 5 337 [.ref 1638, .int x1] (n, u, t, i, r) (f_Mo_pairs i x1) (F_i1 n u t r) PT := by
  refine cn_of (Y := K_Mo_pairs) (L0 := [.ref 1638, .int x1, uV, uV, uV, uV, uV]) rfl rfl rfl ?_
  intro d hd
  unfold f_Mo_pairs
  refine ge_run (pc' := 2) (L' := [.ref 1638, .int x1, uV, uV, uV, uV, uV]) (S' := [.int (0 : Int32), .ref 1638]) 2 rfl ?_
  refine ge_putI rfl (t1638 s) (Nat.le_of_ble_eq_true rfl) rfl (fun i_1 => ?_)
  refine ge_run (pc' := 6) (L' := [.ref 1638, .int x1, uV, uV, uV, uV, uV]) (S' := [.int (-1 : Int32), .int x1, .ref 1638]) 3 rfl ?_
  refine ge_bind (K1 := fun (q : Int32) e => e = .inl (14, [.ref 1638, .int x1, uV, uV, uV, uV, uV], [.int q, .ref 1638], (n, u, t, i_1, r))) ?_ ?_
  · refine ge_eq rfl (fun h_3 => ?_) (fun h_4 => ?_)
    · refine ge_run (pc' := 14) (L' := [.ref 1638, .int x1, uV, uV, uV, uV, uV]) (S' := [.int (0 : Int32), .ref 1638]) 1 rfl ?_
      exact ge_leaf rfl
    · refine ge_run (pc' := 9) (L' := [.ref 1638, .int x1, uV, uV, uV, uV, uV]) (S' := [.int x1, .ref 1638, .ref 1638]) 2 rfl ?_
      refine ge_cv rfl rfl rfl (t1638 s) rfl rfl rfl (D := 2) (Nat.le_trans (by decide) hd) (c_Mo_noFish (n := n) (u := u) (t := t) (i := i_1) (r := r) s x1) ?_
      rintro v_5 -
      dsimp only [bkE, F_i0]
      refine ge_eq0 rfl (fun h_6 => ?_) (fun h_7 => ?_)
      · refine ge_run (pc' := 14) (L' := [.ref 1638, .int x1, uV, uV, uV, uV, uV]) (S' := [.int (0 : Int32), .ref 1638]) 1 rfl ?_
        exact ge_leaf rfl
      · refine ge_run (pc' := 14) (L' := [.ref 1638, .int x1, uV, uV, uV, uV, uV]) (S' := [.int (1 : Int32), .ref 1638]) 2 rfl ?_
        exact ge_leaf rfl
  · rintro y_2 _ rfl
    try dsimp only
    refine ge_run (pc' := 15) (L' := [.ref 1638, .int x1, uV, uV, uV, uV, uV]) (S' := [.int (1 : Int32), .int y_2, .ref 1638]) 1 rfl ?_
    refine ge_cv rfl rfl rfl (t1638 s) rfl rfl rfl (D := 1) (Nat.le_trans (by decide) hd) (c_Mo_throwsIf (n := n) (u := u) (t := t) (i := i_1) (r := r) s y_2 (1 : Int32)) ?_
    rintro ⟨v_8, i_9⟩ -
    dsimp only [bkE, F_i1]
    refine ge_eq0 rfl (fun h_10 => ?_) (fun h_48 => ?_)
    · refine ge_run (pc' := 20) (L' := [.ref 1638, .int x1, uV, uV, uV, uV, uV]) (S' := [.ref 1638]) 1 rfl ?_
      refine ge_cv rfl rfl rfl (t1638 s) rfl rfl rfl (D := 4) (Nat.le_trans (by decide) hd) (c_Mo_laysPairs (n := n) (u := u) (t := t) (i := i_9) (r := r) s ) ?_
      rintro i_11 -
      dsimp only [bkE, F_v1]
      refine ge_run (pc' := 23) (L' := [.ref 1638, .int x1, uV, uV, uV, uV, uV]) (S' := [.ref 1638, .int (1 : Int32)]) 2 rfl ?_
      refine ge_cv rfl rfl rfl (t1638 s) rfl rfl rfl (D := 1) (Nat.le_trans (by decide) hd) (c_Mo_fishes (n := n) (u := u) (t := t) (i := i_11) (r := r) s ) ?_
      rintro v_12 -
      dsimp only [bkE, F_i0]
      refine ge_run (pc' := 30) (L' := [.ref 1638, .int x1, .int ((shl (1 : Int32) v_12) - (1 : Int32)), uV, uV, uV, uV]) (S' := [.int (-1 : Int32), .int x1]) 6 rfl ?_
      refine ge_ne rfl (fun h_13 => ?_) (fun h_16 => ?_)
      · refine ge_run (pc' := 32) (L' := [.ref 1638, .int x1, .int ((shl (1 : Int32) v_12) - (1 : Int32)), uV, uV, uV, uV]) (S' := [.ref 1638]) 1 rfl ?_
        refine ge_getR (b := 1657) rfl (t1638 s) rfl (r1638_28 s) (Nat.le_of_ble_eq_true rfl) ?_
        refine ge_run (pc' := 34) (L' := [.ref 1638, .int x1, .int ((shl (1 : Int32) v_12) - (1 : Int32)), uV, uV, uV, uV]) (S' := [.int ((shl (1 : Int32) v_12) - (1 : Int32)), .ref 1657]) 1 rfl ?_
        refine ge_grd (fun g_14 g_15 => ?_)
        refine ge_iald (jn := (ix ((shl (1 : Int32) v_12) - (1 : Int32)))) rfl (t1657 s) ⟨g_14, rfl⟩ g_15 ?_
        exact ge_ret rfl rfl (And.intro rfl trivial)
      · refine ge_run (pc' := 40) (L' := [.ref 1638, .int x1, .int ((shl (1 : Int32) v_12) - (1 : Int32)), .int (-1 : Int32), .int (0 : Int32), uV, uV]) (S' := []) 4 rfl ?_
        refine ge_bind (K1 := fun (q : Int32) e => ∃ w_23 w_24 w_25 w_26 : Value, e = .inl (97, [.ref 1638, .int x1, w_23, .int q, w_24, w_25, w_26], [], (n, u, t, i_11, r))) (ge_itr (C := fun (q : Int32 × Int32 × Int32) e => ∃ w_20 w_21 : Value, e = .inl (40, [.ref 1638, .int x1, .int q.1, .int q.2.1, .int q.2.2, w_20, w_21], [], (n, u, t, i_11, r))) ?_ _ _ _ (Exists.intro _ (Exists.intro _ rfl))) ?_
        · rintro ⟨x2_17, x3_18, x4_19⟩ _ ⟨w_20, w_21, rfl⟩
          try dsimp only
          refine ge_run (pc' := 41) (L' := [.ref 1638, .int x1, .int x2_17, .int x3_18, .int x4_19, w_20, w_21]) (S' := [.int x4_19]) 1 rfl ?_
          refine ge_ne0 rfl (fun h_27 => ?_) (fun h_47 => ?_)
          · refine ge_run (pc' := 43) (L' := [.ref 1638, .int x1, .int x2_17, .int x3_18, .int x4_19, w_20, w_21]) (S' := [.int x2_17]) 1 rfl ?_
            refine ge_cs rfl rfl rfl rfl rfl rfl (D := 2) (Nat.le_trans (by decide) hd) (c_Mo_firstOf (n := n) (u := u) (t := t) (i := i_11) (r := r) s x2_17) ?_
            rintro v_28 -
            dsimp only [bkE, F_i0]
            refine ge_run (pc' := 47) (L' := [.ref 1638, .int x1, .int x2_17, .int x3_18, .int x4_19, .int v_28, .int (-1 : Int32)]) (S' := []) 3 rfl ?_
            refine ge_bind (K1 := fun (q : Int32) e => e = .inl (58, [.ref 1638, .int x1, .int x2_17, .int x3_18, .int x4_19, .int v_28, .int q], [], (n, u, t, i_11, r))) (ge_itr (C := fun (q : Int32) e => e = .inl (47, [.ref 1638, .int x1, .int x2_17, .int x3_18, .int x4_19, .int v_28, .int q], [], (n, u, t, i_11, r))) ?_ _ _ _ rfl) ?_
            · rintro x6_29 _ rfl
              try dsimp only
              refine ge_run (pc' := 50) (L' := [.ref 1638, .int x1, .int x2_17, .int x3_18, .int x4_19, .int v_28, .int x6_29]) (S' := [.int x6_29, .int x2_17, .ref 1638]) 3 rfl ?_
              refine ge_cv rfl rfl rfl (t1638 s) rfl rfl rfl (D := 3) (Nat.le_trans (by decide) hd) (c_Mo_pairedBy (n := n) (u := u) (t := t) (i := i_11) (r := r) s x2_17 x6_29) ?_
              rintro v_31 -
              dsimp only [bkE, F_i0]
              refine ge_run (pc' := 52) (L' := [.ref 1638, .int x1, .int x2_17, .int x3_18, .int x4_19, .int v_28, .int x6_29]) (S' := [.ref 1638, .int v_31]) 1 rfl ?_
              refine ge_getR (b := 1657) rfl (t1638 s) rfl (r1638_28 s) (Nat.le_of_ble_eq_true rfl) ?_
              refine ge_run (pc' := 54) (L' := [.ref 1638, .int x1, .int x2_17, .int x3_18, .int x4_19, .int v_28, .int x6_29]) (S' := [.int x2_17, .ref 1657, .int v_31]) 1 rfl ?_
              refine ge_grd (fun g_32 g_33 => ?_)
              refine ge_iald (jn := (ix x2_17)) rfl (t1657 s) ⟨g_32, rfl⟩ g_33 ?_
              refine ge_eq rfl (fun h_34 => ?_) (fun h_35 => ?_)
              · exact ge_leaf (K := kX _ _) rfl
              · refine ge_run (pc' := 47) (L' := [.ref 1638, .int x1, .int x2_17, .int x3_18, .int x4_19, .int v_28, .int (x6_29 + (1 : Int32))]) (S' := []) 2 rfl ?_
                exact ge_leaf (K := kX _ _) rfl
            · rintro x6_30 _ rfl
              try dsimp only
              refine ge_run (pc' := 60) (L' := [.ref 1638, .int x1, .int x2_17, .int x3_18, .int x4_19, .int v_28, .int x6_30]) (S' := [.int x1, .int v_28]) 2 rfl ?_
              refine ge_bind (K1 := fun (q : Int32) e => e = .inl (67, [.ref 1638, .int x1, .int x2_17, .int x3_18, .int x4_19, .int v_28, .int x6_30], [.int q], (n, u, t, i_11, r))) ?_ ?_
              · refine ge_eq rfl (fun h_37 => ?_) (fun h_38 => ?_)
                · refine ge_run (pc' := 67) (L' := [.ref 1638, .int x1, .int x2_17, .int x3_18, .int x4_19, .int v_28, .int x6_30]) (S' := [.int (1 : Int32)]) 2 rfl ?_
                  exact ge_leaf rfl
                · refine ge_run (pc' := 63) (L' := [.ref 1638, .int x1, .int x2_17, .int x3_18, .int x4_19, .int v_28, .int x6_30]) (S' := [.int x1, .int x6_30]) 2 rfl ?_
                  refine ge_ne rfl (fun h_39 => ?_) (fun h_40 => ?_)
                  · refine ge_run (pc' := 67) (L' := [.ref 1638, .int x1, .int x2_17, .int x3_18, .int x4_19, .int v_28, .int x6_30]) (S' := [.int (1 : Int32)]) 2 rfl ?_
                    exact ge_leaf rfl
                  · refine ge_run (pc' := 67) (L' := [.ref 1638, .int x1, .int x2_17, .int x3_18, .int x4_19, .int v_28, .int x6_30]) (S' := [.int (0 : Int32)]) 1 rfl ?_
                    exact ge_leaf rfl
              · rintro y_36 _ rfl
                try dsimp only
                refine ge_run (pc' := 70) (L' := [.ref 1638, .int x1, .int x2_17, .int x3_18, .int y_36, .int v_28, .int x6_30]) (S' := [.int x1, .int v_28]) 3 rfl ?_
                refine ge_bind (K1 := fun (q : Int32) e => e = .inl (74, [.ref 1638, .int x1, .int x2_17, .int x3_18, .int y_36, .int v_28, .int x6_30], [.int q], (n, u, t, i_11, r))) ?_ ?_
                · refine ge_ne rfl (fun h_42 => ?_) (fun h_43 => ?_)
                  · refine ge_run (pc' := 74) (L' := [.ref 1638, .int x1, .int x2_17, .int x3_18, .int y_36, .int v_28, .int x6_30]) (S' := [.int x6_30]) 2 rfl ?_
                    exact ge_leaf rfl
                  · refine ge_run (pc' := 74) (L' := [.ref 1638, .int x1, .int x2_17, .int x3_18, .int y_36, .int v_28, .int x6_30]) (S' := [.int v_28]) 1 rfl ?_
                    exact ge_leaf rfl
                · rintro y_41 _ rfl
                  try dsimp only
                  refine ge_run (pc' := 85) (L' := [.ref 1638, .int x1, .int (x2_17 &&& ((shl (1 : Int32) v_28) ^^^ (-1 : Int32))), .int y_41, .int y_36, .int v_28, .int x6_30]) (S' := [.int (-1 : Int32), .int x6_30]) 11 rfl ?_
                  refine ge_bind (K1 := fun (q : Int32) e => e = .inl (95, [.ref 1638, .int x1, .int (x2_17 &&& ((shl (1 : Int32) v_28) ^^^ (-1 : Int32))), .int y_41, .int y_36, .int v_28, .int x6_30], [.int q], (n, u, t, i_11, r))) ?_ ?_
                  · refine ge_ne rfl (fun h_45 => ?_) (fun h_46 => ?_)
                    · refine ge_run (pc' := 95) (L' := [.ref 1638, .int x1, .int (x2_17 &&& ((shl (1 : Int32) v_28) ^^^ (-1 : Int32))), .int y_41, .int y_36, .int v_28, .int x6_30]) (S' := [.int (x2_17 &&& ((shl (1 : Int32) v_28) ^^^ (-1 : Int32)))]) 2 rfl ?_
                      exact ge_leaf rfl
                    · refine ge_run (pc' := 95) (L' := [.ref 1638, .int x1, .int (x2_17 &&& ((shl (1 : Int32) v_28) ^^^ (-1 : Int32))), .int y_41, .int y_36, .int v_28, .int x6_30]) (S' := [.int ((x2_17 &&& ((shl (1 : Int32) v_28) ^^^ (-1 : Int32))) &&& ((shl (1 : Int32) x6_30) ^^^ (-1 : Int32)))]) 7 rfl ?_
                      exact ge_leaf rfl
                  · rintro y_44 _ rfl
                    try dsimp only
                    refine ge_run (pc' := 40) (L' := [.ref 1638, .int x1, .int y_44, .int y_41, .int y_36, .int v_28, .int x6_30]) (S' := []) 2 rfl ?_
                    exact ge_leaf (K := kX _ _) (Exists.intro _ (Exists.intro _ rfl))
          · exact ge_leaf (K := kX _ _) (Exists.intro _ (Exists.intro _ (Exists.intro _ (Exists.intro _ rfl))))
        · rintro x3_22 _ ⟨w_23, w_24, w_25, w_26, rfl⟩
          try dsimp only
          refine ge_run (pc' := 98) (L' := [.ref 1638, .int x1, w_23, .int x3_22, w_24, w_25, w_26]) (S' := [.int x3_22]) 1 rfl ?_
          exact ge_ret rfl rfl (And.intro rfl trivial)
    · refine ge_run (pc' := 18) (L' := [.ref 1638, .int x1, uV, uV, uV, uV, uV]) (S' := [.int (0 : Int32)]) 1 rfl ?_
      exact ge_ret rfl rfl (And.intro rfl trivial)
def f_Mo_skipperHas (i : MI) (x1 : Int32) (x2 : Int32) (x3 : Int32) (x4 : Int32) : Option (Int32) :=
  if x3 = 0 then (if x4 = 0 then ((f_Mo_of i x2 (1 : Int32)).bind (fun v_3 => some (v_3))) else ((f_Mo_ofBoat i x1 (2 : Int32)).bind (fun v_5 => some ((-v_5))))) else (if x4 = 0 then (some ((1 : Int32))) else (some ((0 : Int32))))
set_option maxHeartbeats 4000000 in
theorem c_Mo_skipperHas {n u : Nat} {t : MT} {i : MI} {r : MR} (s : Sh n t r) (x1 : Int32) (x2 : Int32) (x3 : Int32) (x4 : Int32) : Cn 3 338 [.ref 1638, .int x1, .int x2, .int x3, .int x4] (n, u, t, i, r) (f_Mo_skipperHas i x1 x2 x3 x4) (F_i0 n u t i r) PT := by
  refine cn_of (Y := K_Mo_skipperHas) (L0 := [.ref 1638, .int x1, .int x2, .int x3, .int x4]) rfl rfl rfl ?_
  intro d hd
  unfold f_Mo_skipperHas
  refine ge_run (pc' := 1) (L' := [.ref 1638, .int x1, .int x2, .int x3, .int x4]) (S' := [.int x3]) 1 rfl ?_
  refine ge_ne0 rfl (fun h_1 => ?_) (fun h_6 => ?_)
  · refine ge_run (pc' := 3) (L' := [.ref 1638, .int x1, .int x2, .int x3, .int x4]) (S' := [.int x4]) 1 rfl ?_
    refine ge_ne0 rfl (fun h_2 => ?_) (fun h_4 => ?_)
    · refine ge_run (pc' := 7) (L' := [.ref 1638, .int x1, .int x2, .int x3, .int x4]) (S' := [.int (1 : Int32), .int x2, .ref 1638]) 3 rfl ?_
      refine ge_cv rfl rfl rfl (t1638 s) rfl rfl rfl (D := 2) (Nat.le_trans (by decide) hd) (c_Mo_of (n := n) (u := u) (t := t) (i := i) (r := r) s x2 (1 : Int32)) ?_
      rintro v_3 -
      dsimp only [bkE, F_i0]
      refine ge_run (pc' := 14) (L' := [.ref 1638, .int x1, .int x2, .int x3, .int x4]) (S' := [.int v_3]) 1 rfl ?_
      exact ge_ret rfl rfl (And.intro rfl trivial)
    · refine ge_run (pc' := 12) (L' := [.ref 1638, .int x1, .int x2, .int x3, .int x4]) (S' := [.int (2 : Int32), .int x1, .ref 1638]) 3 rfl ?_
      refine ge_cv rfl rfl rfl (t1638 s) rfl rfl rfl (D := 2) (Nat.le_trans (by decide) hd) (c_Mo_ofBoat (n := n) (u := u) (t := t) (i := i) (r := r) s x1 (2 : Int32)) ?_
      rintro v_5 -
      dsimp only [bkE, F_i0]
      refine ge_run (pc' := 14) (L' := [.ref 1638, .int x1, .int x2, .int x3, .int x4]) (S' := [.int (-v_5)]) 1 rfl ?_
      exact ge_ret rfl rfl (And.intro rfl trivial)
  · refine ge_run (pc' := 16) (L' := [.ref 1638, .int x1, .int x2, .int x3, .int x4]) (S' := [.int x4]) 1 rfl ?_
    refine ge_ne0 rfl (fun h_7 => ?_) (fun h_8 => ?_)
    · refine ge_run (pc' := 20) (L' := [.ref 1638, .int x1, .int x2, .int x3, .int x4]) (S' := [.int (1 : Int32)]) 2 rfl ?_
      exact ge_ret rfl rfl (And.intro rfl trivial)
    · refine ge_run (pc' := 20) (L' := [.ref 1638, .int x1, .int x2, .int x3, .int x4]) (S' := [.int (0 : Int32)]) 1 rfl ?_
      exact ge_ret rfl rfl (And.intro rfl trivial)
def f_Mo_schoolHas (i : MI) (x1 : Int32) (x2 : Int32) (x3 : Int32) : Option (Int32) :=
  if x2 = 0 then (if x3 = 0 then ((f_Mo_of i x1 (1 : Int32)).bind (fun v_3 => some ((-v_3)))) else (some ((1 : Int32)))) else (if x3 = 0 then (some ((2 : Int32))) else (some ((0 : Int32))))
set_option maxHeartbeats 4000000 in
theorem c_Mo_schoolHas {n u : Nat} {t : MT} {i : MI} {r : MR} (s : Sh n t r) (x1 : Int32) (x2 : Int32) (x3 : Int32) : Cn 3 339 [.ref 1638, .int x1, .int x2, .int x3] (n, u, t, i, r) (f_Mo_schoolHas i x1 x2 x3) (F_i0 n u t i r) PT := by
  refine cn_of (Y := K_Mo_schoolHas) (L0 := [.ref 1638, .int x1, .int x2, .int x3]) rfl rfl rfl ?_
  intro d hd
  unfold f_Mo_schoolHas
  refine ge_run (pc' := 1) (L' := [.ref 1638, .int x1, .int x2, .int x3]) (S' := [.int x2]) 1 rfl ?_
  refine ge_ne0 rfl (fun h_1 => ?_) (fun h_5 => ?_)
  · refine ge_run (pc' := 3) (L' := [.ref 1638, .int x1, .int x2, .int x3]) (S' := [.int x3]) 1 rfl ?_
    refine ge_ne0 rfl (fun h_2 => ?_) (fun h_4 => ?_)
    · refine ge_run (pc' := 7) (L' := [.ref 1638, .int x1, .int x2, .int x3]) (S' := [.int (1 : Int32), .int x1, .ref 1638]) 3 rfl ?_
      refine ge_cv rfl rfl rfl (t1638 s) rfl rfl rfl (D := 2) (Nat.le_trans (by decide) hd) (c_Mo_of (n := n) (u := u) (t := t) (i := i) (r := r) s x1 (1 : Int32)) ?_
      rintro v_3 -
      dsimp only [bkE, F_i0]
      refine ge_run (pc' := 11) (L' := [.ref 1638, .int x1, .int x2, .int x3]) (S' := [.int (-v_3)]) 2 rfl ?_
      exact ge_ret rfl rfl (And.intro rfl trivial)
    · refine ge_run (pc' := 11) (L' := [.ref 1638, .int x1, .int x2, .int x3]) (S' := [.int (1 : Int32)]) 1 rfl ?_
      exact ge_ret rfl rfl (And.intro rfl trivial)
  · refine ge_run (pc' := 13) (L' := [.ref 1638, .int x1, .int x2, .int x3]) (S' := [.int x3]) 1 rfl ?_
    refine ge_ne0 rfl (fun h_6 => ?_) (fun h_7 => ?_)
    · refine ge_run (pc' := 17) (L' := [.ref 1638, .int x1, .int x2, .int x3]) (S' := [.int (2 : Int32)]) 2 rfl ?_
      exact ge_ret rfl rfl (And.intro rfl trivial)
    · refine ge_run (pc' := 17) (L' := [.ref 1638, .int x1, .int x2, .int x3]) (S' := [.int (0 : Int32)]) 1 rfl ?_
      exact ge_ret rfl rfl (And.intro rfl trivial)
def f_Mo_rests (i : MI) (x1 : Int32) (x2 : Int32) : Option (Int32 × MI) :=
  bnd (wr i 1638 0 (0 : Int32)) (fun i_1 => (f_Mo_noBoat i_1 x1).bind (fun v_2 => (if v_2 = 0 then ((f_Mo_noFish i_1 x2).bind (fun v_5 => if v_5 = 0 then (some (0 : Int32)) else (some (1 : Int32)))) else (some (1 : Int32)) : Option (Int32)).bind (fun y_3 => (f_Mo_throwsIf i_1 y_3 (1 : Int32)).bind (fun (v_9, i_10) => if v_9 = 0 then ((itr (σ := Int32 × Int32) (ρ := Int32) (fun (x3_12, x4_13) => if x4_13 < (2 : Int32) then ((itr (σ := Int32 × Int32) (ρ := Int32) (fun (x3_19, x5_20) => if x5_20 < (2 : Int32) then ((f_Mo_skipperHas i_10 x1 x2 x4_13 x5_20).bind (fun v_24 => (f_Mo_skipperHas i_10 x1 x2 ((1 : Int32) - x4_13) x5_20).bind (fun v_25 => (if v_24 < v_25 then (some (0 : Int32)) else ((f_Mo_schoolHas i_10 x2 x4_13 x5_20).bind (fun v_29 => (f_Mo_schoolHas i_10 x2 x4_13 ((1 : Int32) - x5_20)).bind (fun v_30 => if v_29 < v_30 then (some (0 : Int32)) else (some (shl (1 : Int32) (((2 : Int32) * x4_13) + x5_20)))))) : Option (Int32)).bind (fun y_26 => some (.inl ((x3_19 ||| y_26), (x5_20 + (1 : Int32)))))))) else (some (.inr x3_19))) 1000000 (x3_12, (0 : Int32))).bind (fun x3_21 => some (.inl (x3_21, (x4_13 + (1 : Int32)))))) else (some (.inr x3_12))) 1000000 ((0 : Int32), (0 : Int32))).bind (fun x3_15 => some (x3_15, i_10))) else (some ((0 : Int32), i_10))))))
set_option maxHeartbeats 4000000 in
theorem c_Mo_rests {n u : Nat} {t : MT} {i : MI} {r : MR} (s : Sh n t r) (x1 : Int32) (x2 : Int32) : Cn 4 340 [.ref 1638, .int x1, .int x2] (n, u, t, i, r) (f_Mo_rests i x1 x2) (F_i1 n u t r) PT := by
  refine cn_of (Y := K_Mo_rests) (L0 := [.ref 1638, .int x1, .int x2, uV, uV, uV]) rfl rfl rfl ?_
  intro d hd
  unfold f_Mo_rests
  refine ge_run (pc' := 2) (L' := [.ref 1638, .int x1, .int x2, uV, uV, uV]) (S' := [.int (0 : Int32), .ref 1638]) 2 rfl ?_
  refine ge_putI rfl (t1638 s) (Nat.le_of_ble_eq_true rfl) rfl (fun i_1 => ?_)
  refine ge_run (pc' := 6) (L' := [.ref 1638, .int x1, .int x2, uV, uV, uV]) (S' := [.int x1, .ref 1638, .ref 1638]) 3 rfl ?_
  refine ge_cv rfl rfl rfl (t1638 s) rfl rfl rfl (D := 2) (Nat.le_trans (by decide) hd) (c_Mo_noBoat (n := n) (u := u) (t := t) (i := i_1) (r := r) s x1) ?_
  rintro v_2 -
  dsimp only [bkE, F_i0]
  refine ge_bind (K1 := fun (q : Int32) e => e = .inl (15, [.ref 1638, .int x1, .int x2, uV, uV, uV], [.int q, .ref 1638], (n, u, t, i_1, r))) ?_ ?_
  · refine ge_ne0 rfl (fun h_4 => ?_) (fun h_8 => ?_)
    · refine ge_run (pc' := 10) (L' := [.ref 1638, .int x1, .int x2, uV, uV, uV]) (S' := [.int x2, .ref 1638, .ref 1638]) 2 rfl ?_
      refine ge_cv rfl rfl rfl (t1638 s) rfl rfl rfl (D := 2) (Nat.le_trans (by decide) hd) (c_Mo_noFish (n := n) (u := u) (t := t) (i := i_1) (r := r) s x2) ?_
      rintro v_5 -
      dsimp only [bkE, F_i0]
      refine ge_eq0 rfl (fun h_6 => ?_) (fun h_7 => ?_)
      · refine ge_run (pc' := 15) (L' := [.ref 1638, .int x1, .int x2, uV, uV, uV]) (S' := [.int (0 : Int32), .ref 1638]) 1 rfl ?_
        exact ge_leaf rfl
      · refine ge_run (pc' := 15) (L' := [.ref 1638, .int x1, .int x2, uV, uV, uV]) (S' := [.int (1 : Int32), .ref 1638]) 2 rfl ?_
        exact ge_leaf rfl
    · refine ge_run (pc' := 15) (L' := [.ref 1638, .int x1, .int x2, uV, uV, uV]) (S' := [.int (1 : Int32), .ref 1638]) 2 rfl ?_
      exact ge_leaf rfl
  · rintro y_3 _ rfl
    try dsimp only
    refine ge_run (pc' := 16) (L' := [.ref 1638, .int x1, .int x2, uV, uV, uV]) (S' := [.int (1 : Int32), .int y_3, .ref 1638]) 1 rfl ?_
    refine ge_cv rfl rfl rfl (t1638 s) rfl rfl rfl (D := 1) (Nat.le_trans (by decide) hd) (c_Mo_throwsIf (n := n) (u := u) (t := t) (i := i_1) (r := r) s y_3 (1 : Int32)) ?_
    rintro ⟨v_9, i_10⟩ -
    dsimp only [bkE, F_i1]
    refine ge_eq0 rfl (fun h_11 => ?_) (fun h_35 => ?_)
    · refine ge_run (pc' := 24) (L' := [.ref 1638, .int x1, .int x2, .int (0 : Int32), .int (0 : Int32), uV]) (S' := []) 4 rfl ?_
      refine ge_bind (K1 := fun (q : Int32) e => ∃ w_16 w_17 : Value, e = .inl (76, [.ref 1638, .int x1, .int x2, .int q, w_16, w_17], [], (n, u, t, i_10, r))) (ge_itr (C := fun (q : Int32 × Int32) e => ∃ w_14 : Value, e = .inl (24, [.ref 1638, .int x1, .int x2, .int q.1, .int q.2, w_14], [], (n, u, t, i_10, r))) ?_ _ _ _ (Exists.intro _ rfl)) ?_
      · rintro ⟨x3_12, x4_13⟩ _ ⟨w_14, rfl⟩
        try dsimp only
        refine ge_run (pc' := 26) (L' := [.ref 1638, .int x1, .int x2, .int x3_12, .int x4_13, w_14]) (S' := [.int (2 : Int32), .int x4_13]) 2 rfl ?_
        refine ge_ge rfl (fun h_18 => ?_) (fun h_34 => ?_)
        · refine ge_run (pc' := 29) (L' := [.ref 1638, .int x1, .int x2, .int x3_12, .int x4_13, .int (0 : Int32)]) (S' := []) 2 rfl ?_
          refine ge_bind (K1 := fun (q : Int32) e => ∃ w_22 : Value, e = .inl (74, [.ref 1638, .int x1, .int x2, .int q, .int x4_13, w_22], [], (n, u, t, i_10, r))) (ge_itr (C := fun (q : Int32 × Int32) e => e = .inl (29, [.ref 1638, .int x1, .int x2, .int q.1, .int x4_13, .int q.2], [], (n, u, t, i_10, r))) ?_ _ _ _ rfl) ?_
          · rintro ⟨x3_19, x5_20⟩ _ rfl
            try dsimp only
            refine ge_run (pc' := 31) (L' := [.ref 1638, .int x1, .int x2, .int x3_19, .int x4_13, .int x5_20]) (S' := [.int (2 : Int32), .int x5_20]) 2 rfl ?_
            refine ge_ge rfl (fun h_23 => ?_) (fun h_33 => ?_)
            · refine ge_run (pc' := 38) (L' := [.ref 1638, .int x1, .int x2, .int x3_19, .int x4_13, .int x5_20]) (S' := [.int x5_20, .int x4_13, .int x2, .int x1, .ref 1638, .int x3_19]) 6 rfl ?_
              refine ge_cv rfl rfl rfl (t1638 s) rfl rfl rfl (D := 3) (Nat.le_trans (by decide) hd) (c_Mo_skipperHas (n := n) (u := u) (t := t) (i := i_10) (r := r) s x1 x2 x4_13 x5_20) ?_
              rintro v_24 -
              dsimp only [bkE, F_i0]
              refine ge_run (pc' := 46) (L' := [.ref 1638, .int x1, .int x2, .int x3_19, .int x4_13, .int x5_20]) (S' := [.int x5_20, .int ((1 : Int32) - x4_13), .int x2, .int x1, .ref 1638, .int v_24, .int x3_19]) 7 rfl ?_
              refine ge_cv rfl rfl rfl (t1638 s) rfl rfl rfl (D := 3) (Nat.le_trans (by decide) hd) (c_Mo_skipperHas (n := n) (u := u) (t := t) (i := i_10) (r := r) s x1 x2 ((1 : Int32) - x4_13) x5_20) ?_
              rintro v_25 -
              dsimp only [bkE, F_i0]
              refine ge_bind (K1 := fun (q : Int32) e => e = .inl (70, [.ref 1638, .int x1, .int x2, .int x3_19, .int x4_13, .int x5_20], [.int q, .int x3_19], (n, u, t, i_10, r))) ?_ ?_
              · refine ge_lt rfl (fun h_27 => ?_) (fun h_28 => ?_)
                · refine ge_run (pc' := 70) (L' := [.ref 1638, .int x1, .int x2, .int x3_19, .int x4_13, .int x5_20]) (S' := [.int (0 : Int32), .int x3_19]) 1 rfl ?_
                  exact ge_leaf rfl
                · refine ge_run (pc' := 52) (L' := [.ref 1638, .int x1, .int x2, .int x3_19, .int x4_13, .int x5_20]) (S' := [.int x5_20, .int x4_13, .int x2, .ref 1638, .int x3_19]) 4 rfl ?_
                  refine ge_cv rfl rfl rfl (t1638 s) rfl rfl rfl (D := 3) (Nat.le_trans (by decide) hd) (c_Mo_schoolHas (n := n) (u := u) (t := t) (i := i_10) (r := r) s x2 x4_13 x5_20) ?_
                  rintro v_29 -
                  dsimp only [bkE, F_i0]
                  refine ge_run (pc' := 59) (L' := [.ref 1638, .int x1, .int x2, .int x3_19, .int x4_13, .int x5_20]) (S' := [.int ((1 : Int32) - x5_20), .int x4_13, .int x2, .ref 1638, .int v_29, .int x3_19]) 6 rfl ?_
                  refine ge_cv rfl rfl rfl (t1638 s) rfl rfl rfl (D := 3) (Nat.le_trans (by decide) hd) (c_Mo_schoolHas (n := n) (u := u) (t := t) (i := i_10) (r := r) s x2 x4_13 ((1 : Int32) - x5_20)) ?_
                  rintro v_30 -
                  dsimp only [bkE, F_i0]
                  refine ge_lt rfl (fun h_31 => ?_) (fun h_32 => ?_)
                  · refine ge_run (pc' := 70) (L' := [.ref 1638, .int x1, .int x2, .int x3_19, .int x4_13, .int x5_20]) (S' := [.int (0 : Int32), .int x3_19]) 1 rfl ?_
                    exact ge_leaf rfl
                  · refine ge_run (pc' := 70) (L' := [.ref 1638, .int x1, .int x2, .int x3_19, .int x4_13, .int x5_20]) (S' := [.int (shl (1 : Int32) (((2 : Int32) * x4_13) + x5_20)), .int x3_19]) 8 rfl ?_
                    exact ge_leaf rfl
              · rintro y_26 _ rfl
                try dsimp only
                refine ge_run (pc' := 29) (L' := [.ref 1638, .int x1, .int x2, .int (x3_19 ||| y_26), .int x4_13, .int (x5_20 + (1 : Int32))]) (S' := []) 4 rfl ?_
                exact ge_leaf (K := kX _ _) rfl
            · exact ge_leaf (K := kX _ _) (Exists.intro _ rfl)
          · rintro x3_21 _ ⟨w_22, rfl⟩
            try dsimp only
            refine ge_run (pc' := 24) (L' := [.ref 1638, .int x1, .int x2, .int x3_21, .int (x4_13 + (1 : Int32)), w_22]) (S' := []) 2 rfl ?_
            exact ge_leaf (K := kX _ _) (Exists.intro _ rfl)
        · exact ge_leaf (K := kX _ _) (Exists.intro _ (Exists.intro _ rfl))
      · rintro x3_15 _ ⟨w_16, w_17, rfl⟩
        try dsimp only
        refine ge_run (pc' := 77) (L' := [.ref 1638, .int x1, .int x2, .int x3_15, w_16, w_17]) (S' := [.int x3_15]) 1 rfl ?_
        exact ge_ret rfl rfl (And.intro rfl trivial)
    · refine ge_run (pc' := 19) (L' := [.ref 1638, .int x1, .int x2, uV, uV, uV]) (S' := [.int (0 : Int32)]) 1 rfl ?_
      exact ge_ret rfl rfl (And.intro rfl trivial)
def f_Mo_odds (i : MI) (x1 : Int32) : Option (Int32 × MI) :=
  bnd (wr i 1638 0 (0 : Int32)) (fun i_1 => (f_Mo_in x1 (0 : Int32) (4 : Int32)).bind (fun v_2 => (if v_2 = 0 then (some (1 : Int32)) else (some (0 : Int32)) : Option (Int32)).bind (fun y_3 => (f_Mo_throwsIf i_1 y_3 (1 : Int32)).bind (fun (v_6, i_7) => if v_6 = 0 then ((itr (σ := Int32 × Int32) (ρ := Int32) (fun (x2_9, x3_10) => if x3_10 < x1 then ((itr (σ := Int32 × Int32) (ρ := Int32) (fun (x2_16, x4_17) => (f_Mo_buyers i_7).bind (fun v_20 => if x4_17 < v_20 then ((f_Mo_ofBuyer i_7 x4_17 (3 : Int32)).bind (fun v_22 => some (.inl (((x2_16 * ((100 : Int32) - v_22)) / (100 : Int32)), (x4_17 + (1 : Int32)))))) else (some (.inr x2_16)))) 1000000 (x2_9, (0 : Int32))).bind (fun x2_18 => some (.inl (x2_18, (x3_10 + (1 : Int32)))))) else (some (.inr x2_9))) 1000000 ((10000 : Int32), (0 : Int32))).bind (fun x2_12 => some (x2_12, i_7))) else (some ((0 : Int32), i_7))))))
set_option maxHeartbeats 4000000 in
theorem c_Mo_odds {n u : Nat} {t : MT} {i : MI} {r : MR} (s : Sh n t r) (x1 : Int32) : Cn 3 341 [.ref 1638, .int x1] (n, u, t, i, r) (f_Mo_odds i x1) (F_i1 n u t r) PT := by
  refine cn_of (Y := K_Mo_odds) (L0 := [.ref 1638, .int x1, uV, uV, uV]) rfl rfl rfl ?_
  intro d hd
  unfold f_Mo_odds
  refine ge_run (pc' := 2) (L' := [.ref 1638, .int x1, uV, uV, uV]) (S' := [.int (0 : Int32), .ref 1638]) 2 rfl ?_
  refine ge_putI rfl (t1638 s) (Nat.le_of_ble_eq_true rfl) rfl (fun i_1 => ?_)
  refine ge_run (pc' := 7) (L' := [.ref 1638, .int x1, uV, uV, uV]) (S' := [.int (4 : Int32), .int (0 : Int32), .int x1, .ref 1638]) 4 rfl ?_
  refine ge_cs rfl rfl rfl rfl rfl rfl (D := 1) (Nat.le_trans (by decide) hd) (c_Mo_in (n := n) (u := u) (t := t) (i := i_1) (r := r) s x1 (0 : Int32) (4 : Int32)) ?_
  rintro v_2 -
  dsimp only [bkE, F_i0]
  refine ge_bind (K1 := fun (q : Int32) e => e = .inl (12, [.ref 1638, .int x1, uV, uV, uV], [.int q, .ref 1638], (n, u, t, i_1, r))) ?_ ?_
  · refine ge_ne0 rfl (fun h_4 => ?_) (fun h_5 => ?_)
    · refine ge_run (pc' := 12) (L' := [.ref 1638, .int x1, uV, uV, uV]) (S' := [.int (1 : Int32), .ref 1638]) 2 rfl ?_
      exact ge_leaf rfl
    · refine ge_run (pc' := 12) (L' := [.ref 1638, .int x1, uV, uV, uV]) (S' := [.int (0 : Int32), .ref 1638]) 1 rfl ?_
      exact ge_leaf rfl
  · rintro y_3 _ rfl
    try dsimp only
    refine ge_run (pc' := 13) (L' := [.ref 1638, .int x1, uV, uV, uV]) (S' := [.int (1 : Int32), .int y_3, .ref 1638]) 1 rfl ?_
    refine ge_cv rfl rfl rfl (t1638 s) rfl rfl rfl (D := 1) (Nat.le_trans (by decide) hd) (c_Mo_throwsIf (n := n) (u := u) (t := t) (i := i_1) (r := r) s y_3 (1 : Int32)) ?_
    rintro ⟨v_6, i_7⟩ -
    dsimp only [bkE, F_i1]
    refine ge_eq0 rfl (fun h_8 => ?_) (fun h_25 => ?_)
    · refine ge_run (pc' := 21) (L' := [.ref 1638, .int x1, .int (10000 : Int32), .int (0 : Int32), uV]) (S' := []) 4 rfl ?_
      refine ge_bind (K1 := fun (q : Int32) e => ∃ w_13 w_14 : Value, e = .inl (45, [.ref 1638, .int x1, .int q, w_13, w_14], [], (n, u, t, i_7, r))) (ge_itr (C := fun (q : Int32 × Int32) e => ∃ w_11 : Value, e = .inl (21, [.ref 1638, .int x1, .int q.1, .int q.2, w_11], [], (n, u, t, i_7, r))) ?_ _ _ _ (Exists.intro _ rfl)) ?_
      · rintro ⟨x2_9, x3_10⟩ _ ⟨w_11, rfl⟩
        try dsimp only
        refine ge_run (pc' := 23) (L' := [.ref 1638, .int x1, .int x2_9, .int x3_10, w_11]) (S' := [.int x1, .int x3_10]) 2 rfl ?_
        refine ge_ge rfl (fun h_15 => ?_) (fun h_24 => ?_)
        · refine ge_run (pc' := 26) (L' := [.ref 1638, .int x1, .int x2_9, .int x3_10, .int (0 : Int32)]) (S' := []) 2 rfl ?_
          refine ge_bind (K1 := fun (q : Int32) e => ∃ w_19 : Value, e = .inl (43, [.ref 1638, .int x1, .int q, .int x3_10, w_19], [], (n, u, t, i_7, r))) (ge_itr (C := fun (q : Int32 × Int32) e => e = .inl (26, [.ref 1638, .int x1, .int q.1, .int x3_10, .int q.2], [], (n, u, t, i_7, r))) ?_ _ _ _ rfl) ?_
          · rintro ⟨x2_16, x4_17⟩ _ rfl
            try dsimp only
            refine ge_run (pc' := 28) (L' := [.ref 1638, .int x1, .int x2_16, .int x3_10, .int x4_17]) (S' := [.ref 1638, .int x4_17]) 2 rfl ?_
            refine ge_cv rfl rfl rfl (t1638 s) rfl rfl rfl (D := 1) (Nat.le_trans (by decide) hd) (c_Mo_buyers (n := n) (u := u) (t := t) (i := i_7) (r := r) s ) ?_
            rintro v_20 -
            dsimp only [bkE, F_i0]
            refine ge_ge rfl (fun h_21 => ?_) (fun h_23 => ?_)
            · refine ge_run (pc' := 35) (L' := [.ref 1638, .int x1, .int x2_16, .int x3_10, .int x4_17]) (S' := [.int (3 : Int32), .int x4_17, .ref 1638, .int (100 : Int32), .int x2_16]) 5 rfl ?_
              refine ge_cv rfl rfl rfl (t1638 s) rfl rfl rfl (D := 2) (Nat.le_trans (by decide) hd) (c_Mo_ofBuyer (n := n) (u := u) (t := t) (i := i_7) (r := r) s x4_17 (3 : Int32)) ?_
              rintro v_22 -
              dsimp only [bkE, F_i0]
              refine ge_run (pc' := 39) (L' := [.ref 1638, .int x1, .int x2_16, .int x3_10, .int x4_17]) (S' := [.int (100 : Int32), .int (x2_16 * ((100 : Int32) - v_22))]) 3 rfl ?_
              refine ge_div rfl (by decide) ?_
              refine ge_run (pc' := 26) (L' := [.ref 1638, .int x1, .int ((x2_16 * ((100 : Int32) - v_22)) / (100 : Int32)), .int x3_10, .int (x4_17 + (1 : Int32))]) (S' := []) 3 rfl ?_
              exact ge_leaf (K := kX _ _) rfl
            · exact ge_leaf (K := kX _ _) (Exists.intro _ rfl)
          · rintro x2_18 _ ⟨w_19, rfl⟩
            try dsimp only
            refine ge_run (pc' := 21) (L' := [.ref 1638, .int x1, .int x2_18, .int (x3_10 + (1 : Int32)), w_19]) (S' := []) 2 rfl ?_
            exact ge_leaf (K := kX _ _) (Exists.intro _ rfl)
        · exact ge_leaf (K := kX _ _) (Exists.intro _ (Exists.intro _ rfl))
      · rintro x2_12 _ ⟨w_13, w_14, rfl⟩
        try dsimp only
        refine ge_run (pc' := 46) (L' := [.ref 1638, .int x1, .int x2_12, w_13, w_14]) (S' := [.int x2_12]) 1 rfl ?_
        exact ge_ret rfl rfl (And.intro rfl trivial)
    · refine ge_run (pc' := 16) (L' := [.ref 1638, .int x1, uV, uV, uV]) (S' := [.int (0 : Int32)]) 1 rfl ?_
      exact ge_ret rfl rfl (And.intro rfl trivial)
def f_Mo_freshest (i : MI) : Option (Int32 × MI) :=
  bnd (wr i 1638 0 (0 : Int32)) (fun i_1 => (itr (σ := Int32 × Int32) (ρ := Int32) (fun (x1_2, x2_3) => (f_Mo_fishes i_1).bind (fun v_6 => if x2_3 < v_6 then ((f_Mo_of i_1 x2_3 (3 : Int32)).bind (fun v_8 => (if v_8 = (2 : Int32) then (if x1_2 = (-1 : Int32) then (some x2_3) else ((f_Mo_of i_1 x2_3 (2 : Int32)).bind (fun v_13 => (f_Mo_of i_1 x1_2 (2 : Int32)).bind (fun v_14 => if v_14 < v_13 then (some x2_3) else (some x1_2))))) else (some x1_2) : Option (Int32)).bind (fun x1_9 => some (.inl (x1_9, (x2_3 + (1 : Int32))))))) else (some (.inr x1_2)))) 1000000 ((-1 : Int32), (0 : Int32))).bind (fun x1_4 => some (x1_4, i_1)))
set_option maxHeartbeats 4000000 in
theorem c_Mo_freshest {n u : Nat} {t : MT} {i : MI} {r : MR} (s : Sh n t r)  : Cn 3 342 [.ref 1638] (n, u, t, i, r) (f_Mo_freshest i ) (F_i1 n u t r) PT := by
  refine cn_of (Y := K_Mo_freshest) (L0 := [.ref 1638, uV, uV]) rfl rfl rfl ?_
  intro d hd
  unfold f_Mo_freshest
  refine ge_run (pc' := 2) (L' := [.ref 1638, uV, uV]) (S' := [.int (0 : Int32), .ref 1638]) 2 rfl ?_
  refine ge_putI rfl (t1638 s) (Nat.le_of_ble_eq_true rfl) rfl (fun i_1 => ?_)
  refine ge_run (pc' := 7) (L' := [.ref 1638, .int (-1 : Int32), .int (0 : Int32)]) (S' := []) 4 rfl ?_
  refine ge_bind (K1 := fun (q : Int32) e => ∃ w_5 : Value, e = .inl (33, [.ref 1638, .int q, w_5], [], (n, u, t, i_1, r))) (ge_itr (C := fun (q : Int32 × Int32) e => e = .inl (7, [.ref 1638, .int q.1, .int q.2], [], (n, u, t, i_1, r))) ?_ _ _ _ rfl) ?_
  · rintro ⟨x1_2, x2_3⟩ _ rfl
    try dsimp only
    refine ge_run (pc' := 9) (L' := [.ref 1638, .int x1_2, .int x2_3]) (S' := [.ref 1638, .int x2_3]) 2 rfl ?_
    refine ge_cv rfl rfl rfl (t1638 s) rfl rfl rfl (D := 1) (Nat.le_trans (by decide) hd) (c_Mo_fishes (n := n) (u := u) (t := t) (i := i_1) (r := r) s ) ?_
    rintro v_6 -
    dsimp only [bkE, F_i0]
    refine ge_ge rfl (fun h_7 => ?_) (fun h_18 => ?_)
    · refine ge_run (pc' := 14) (L' := [.ref 1638, .int x1_2, .int x2_3]) (S' := [.int (3 : Int32), .int x2_3, .ref 1638]) 3 rfl ?_
      refine ge_cv rfl rfl rfl (t1638 s) rfl rfl rfl (D := 2) (Nat.le_trans (by decide) hd) (c_Mo_of (n := n) (u := u) (t := t) (i := i_1) (r := r) s x2_3 (3 : Int32)) ?_
      rintro v_8 -
      dsimp only [bkE, F_i0]
      refine ge_run (pc' := 16) (L' := [.ref 1638, .int x1_2, .int x2_3]) (S' := [.int (2 : Int32), .int v_8]) 1 rfl ?_
      refine ge_bind (K1 := fun (q : Int32) e => e = .inl (31, [.ref 1638, .int q, .int x2_3], [], (n, u, t, i_1, r))) ?_ ?_
      · refine ge_ne rfl (fun h_10 => ?_) (fun h_17 => ?_)
        · refine ge_run (pc' := 19) (L' := [.ref 1638, .int x1_2, .int x2_3]) (S' := [.int (-1 : Int32), .int x1_2]) 2 rfl ?_
          refine ge_eq rfl (fun h_11 => ?_) (fun h_12 => ?_)
          · refine ge_run (pc' := 31) (L' := [.ref 1638, .int x2_3, .int x2_3]) (S' := []) 2 rfl ?_
            exact ge_leaf rfl
          · refine ge_run (pc' := 23) (L' := [.ref 1638, .int x1_2, .int x2_3]) (S' := [.int (2 : Int32), .int x2_3, .ref 1638]) 3 rfl ?_
            refine ge_cv rfl rfl rfl (t1638 s) rfl rfl rfl (D := 2) (Nat.le_trans (by decide) hd) (c_Mo_of (n := n) (u := u) (t := t) (i := i_1) (r := r) s x2_3 (2 : Int32)) ?_
            rintro v_13 -
            dsimp only [bkE, F_i0]
            refine ge_run (pc' := 27) (L' := [.ref 1638, .int x1_2, .int x2_3]) (S' := [.int (2 : Int32), .int x1_2, .ref 1638, .int v_13]) 3 rfl ?_
            refine ge_cv rfl rfl rfl (t1638 s) rfl rfl rfl (D := 2) (Nat.le_trans (by decide) hd) (c_Mo_of (n := n) (u := u) (t := t) (i := i_1) (r := r) s x1_2 (2 : Int32)) ?_
            rintro v_14 -
            dsimp only [bkE, F_i0]
            refine ge_le rfl (fun h_15 => ?_) (fun h_16 => ?_)
            · refine ge_run (pc' := 31) (L' := [.ref 1638, .int x2_3, .int x2_3]) (S' := []) 2 rfl ?_
              exact ge_leaf rfl
            · exact ge_leaf rfl
        · exact ge_leaf rfl
      · rintro x1_9 _ rfl
        try dsimp only
        refine ge_run (pc' := 7) (L' := [.ref 1638, .int x1_9, .int (x2_3 + (1 : Int32))]) (S' := []) 2 rfl ?_
        exact ge_leaf (K := kX _ _) rfl
    · exact ge_leaf (K := kX _ _) (Exists.intro _ rfl)
  · rintro x1_4 _ ⟨w_5, rfl⟩
    try dsimp only
    refine ge_run (pc' := 34) (L' := [.ref 1638, .int x1_4, w_5]) (S' := [.int x1_4]) 1 rfl ?_
    exact ge_ret rfl rfl (And.intro rfl trivial)
def f_Mo_dearest (i : MI) : Option (Int32 × MI) :=
  bnd (wr i 1638 0 (0 : Int32)) (fun i_1 => (itr (σ := Int32 × Int32 × MI) (ρ := Int32 × MI) (fun (x1_2, x2_3, i_4) => (f_Mo_fishes i_4).bind (fun v_8 => if x2_3 < v_8 then ((f_Mo_of i_4 x2_3 (3 : Int32)).bind (fun v_10 => (if v_10 = (2 : Int32) then (if x1_2 = (-1 : Int32) then (some (x2_3, i_4)) else ((f_Mo_priceOf i_4 x2_3).bind (fun (v_16, i_17) => (f_Mo_priceOf i_17 x1_2).bind (fun (v_18, i_19) => if v_18 < v_16 then (some (x2_3, i_19)) else (some (x1_2, i_19)))))) else (some (x1_2, i_4)) : Option (Int32 × MI)).bind (fun (x1_11, i_12) => some (.inl (x1_11, (x2_3 + (1 : Int32)), i_12))))) else (some (.inr (x1_2, i_4))))) 1000000 ((-1 : Int32), (0 : Int32), i_1)).bind (fun (x1_5, i_6) => some (x1_5, i_6)))
set_option maxHeartbeats 4000000 in
theorem c_Mo_dearest {n u : Nat} {t : MT} {i : MI} {r : MR} (s : Sh n t r)  : Cn 8 343 [.ref 1638] (n, u, t, i, r) (f_Mo_dearest i ) (F_i1 n u t r) PT := by
  refine cn_of (Y := K_Mo_dearest) (L0 := [.ref 1638, uV, uV]) rfl rfl rfl ?_
  intro d hd
  unfold f_Mo_dearest
  refine ge_run (pc' := 2) (L' := [.ref 1638, uV, uV]) (S' := [.int (0 : Int32), .ref 1638]) 2 rfl ?_
  refine ge_putI rfl (t1638 s) (Nat.le_of_ble_eq_true rfl) rfl (fun i_1 => ?_)
  refine ge_run (pc' := 7) (L' := [.ref 1638, .int (-1 : Int32), .int (0 : Int32)]) (S' := []) 4 rfl ?_
  refine ge_bind (K1 := fun (q : Int32 × MI) e => ∃ w_7 : Value, e = .inl (31, [.ref 1638, .int q.1, w_7], [], (n, u, t, q.2, r))) (ge_itr (C := fun (q : Int32 × Int32 × MI) e => e = .inl (7, [.ref 1638, .int q.1, .int q.2.1], [], (n, u, t, q.2.2, r))) ?_ _ _ _ rfl) ?_
  · rintro ⟨x1_2, x2_3, i_4⟩ _ rfl
    try dsimp only
    refine ge_run (pc' := 9) (L' := [.ref 1638, .int x1_2, .int x2_3]) (S' := [.ref 1638, .int x2_3]) 2 rfl ?_
    refine ge_cv rfl rfl rfl (t1638 s) rfl rfl rfl (D := 1) (Nat.le_trans (by decide) hd) (c_Mo_fishes (n := n) (u := u) (t := t) (i := i_4) (r := r) s ) ?_
    rintro v_8 -
    dsimp only [bkE, F_i0]
    refine ge_ge rfl (fun h_9 => ?_) (fun h_23 => ?_)
    · refine ge_run (pc' := 14) (L' := [.ref 1638, .int x1_2, .int x2_3]) (S' := [.int (3 : Int32), .int x2_3, .ref 1638]) 3 rfl ?_
      refine ge_cv rfl rfl rfl (t1638 s) rfl rfl rfl (D := 2) (Nat.le_trans (by decide) hd) (c_Mo_of (n := n) (u := u) (t := t) (i := i_4) (r := r) s x2_3 (3 : Int32)) ?_
      rintro v_10 -
      dsimp only [bkE, F_i0]
      refine ge_run (pc' := 16) (L' := [.ref 1638, .int x1_2, .int x2_3]) (S' := [.int (2 : Int32), .int v_10]) 1 rfl ?_
      refine ge_bind (K1 := fun (q : Int32 × MI) e => e = .inl (29, [.ref 1638, .int q.1, .int x2_3], [], (n, u, t, q.2, r))) ?_ ?_
      · refine ge_ne rfl (fun h_13 => ?_) (fun h_22 => ?_)
        · refine ge_run (pc' := 19) (L' := [.ref 1638, .int x1_2, .int x2_3]) (S' := [.int (-1 : Int32), .int x1_2]) 2 rfl ?_
          refine ge_eq rfl (fun h_14 => ?_) (fun h_15 => ?_)
          · refine ge_run (pc' := 29) (L' := [.ref 1638, .int x2_3, .int x2_3]) (S' := []) 2 rfl ?_
            exact ge_leaf rfl
          · refine ge_run (pc' := 22) (L' := [.ref 1638, .int x1_2, .int x2_3]) (S' := [.int x2_3, .ref 1638]) 2 rfl ?_
            refine ge_cv rfl rfl rfl (t1638 s) rfl rfl rfl (D := 7) (Nat.le_trans (by decide) hd) (c_Mo_priceOf (n := n) (u := u) (t := t) (i := i_4) (r := r) s x2_3) ?_
            rintro ⟨v_16, i_17⟩ -
            dsimp only [bkE, F_i1]
            refine ge_run (pc' := 25) (L' := [.ref 1638, .int x1_2, .int x2_3]) (S' := [.int x1_2, .ref 1638, .int v_16]) 2 rfl ?_
            refine ge_cv rfl rfl rfl (t1638 s) rfl rfl rfl (D := 7) (Nat.le_trans (by decide) hd) (c_Mo_priceOf (n := n) (u := u) (t := t) (i := i_17) (r := r) s x1_2) ?_
            rintro ⟨v_18, i_19⟩ -
            dsimp only [bkE, F_i1]
            refine ge_le rfl (fun h_20 => ?_) (fun h_21 => ?_)
            · refine ge_run (pc' := 29) (L' := [.ref 1638, .int x2_3, .int x2_3]) (S' := []) 2 rfl ?_
              exact ge_leaf rfl
            · exact ge_leaf rfl
        · exact ge_leaf rfl
      · rintro ⟨x1_11, i_12⟩ _ rfl
        try dsimp only
        refine ge_run (pc' := 7) (L' := [.ref 1638, .int x1_11, .int (x2_3 + (1 : Int32))]) (S' := []) 2 rfl ?_
        exact ge_leaf (K := kX _ _) rfl
    · exact ge_leaf (K := kX _ _) (Exists.intro _ rfl)
  · rintro ⟨x1_5, i_6⟩ _ ⟨w_7, rfl⟩
    try dsimp only
    refine ge_run (pc' := 32) (L' := [.ref 1638, .int x1_5, w_7]) (S' := [.int x1_5]) 1 rfl ?_
    exact ge_ret rfl rfl (And.intro rfl trivial)
def f_Mo_kind (i : MI) (x1 : Int32) : Option (Int32 × MI) :=
  bnd (wr i 1638 0 (0 : Int32)) (fun i_1 => (f_Mo_in x1 (0 : Int32) (3 : Int32)).bind (fun v_2 => (if v_2 = 0 then (some (1 : Int32)) else (some (0 : Int32)) : Option (Int32)).bind (fun y_3 => (f_Mo_throwsIf i_1 y_3 (1 : Int32)).bind (fun (v_6, i_7) => if v_6 = 0 then ((itr (σ := Int32 × Int32) (ρ := Int32) (fun (x2_9, x3_10) => (f_Mo_fishes i_7).bind (fun v_13 => if x3_10 < v_13 then ((f_Mo_of i_7 x3_10 (0 : Int32)).bind (fun v_15 => (if v_15 = x1 then ((f_Mo_of i_7 x3_10 (3 : Int32)).bind (fun v_18 => if v_18 = (3 : Int32) then (some (0 : Int32)) else (some (shl (1 : Int32) x3_10)))) else (some (0 : Int32)) : Option (Int32)).bind (fun y_16 => some (.inl ((x2_9 ||| y_16), (x3_10 + (1 : Int32))))))) else (some (.inr x2_9)))) 1000000 ((0 : Int32), (0 : Int32))).bind (fun x2_11 => some (x2_11, i_7))) else (some ((0 : Int32), i_7))))))
set_option maxHeartbeats 4000000 in
theorem c_Mo_kind {n u : Nat} {t : MT} {i : MI} {r : MR} (s : Sh n t r) (x1 : Int32) : Cn 3 344 [.ref 1638, .int x1] (n, u, t, i, r) (f_Mo_kind i x1) (F_i1 n u t r) PT := by
  refine cn_of (Y := K_Mo_kind) (L0 := [.ref 1638, .int x1, uV, uV]) rfl rfl rfl ?_
  intro d hd
  unfold f_Mo_kind
  refine ge_run (pc' := 2) (L' := [.ref 1638, .int x1, uV, uV]) (S' := [.int (0 : Int32), .ref 1638]) 2 rfl ?_
  refine ge_putI rfl (t1638 s) (Nat.le_of_ble_eq_true rfl) rfl (fun i_1 => ?_)
  refine ge_run (pc' := 7) (L' := [.ref 1638, .int x1, uV, uV]) (S' := [.int (3 : Int32), .int (0 : Int32), .int x1, .ref 1638]) 4 rfl ?_
  refine ge_cs rfl rfl rfl rfl rfl rfl (D := 1) (Nat.le_trans (by decide) hd) (c_Mo_in (n := n) (u := u) (t := t) (i := i_1) (r := r) s x1 (0 : Int32) (3 : Int32)) ?_
  rintro v_2 -
  dsimp only [bkE, F_i0]
  refine ge_bind (K1 := fun (q : Int32) e => e = .inl (12, [.ref 1638, .int x1, uV, uV], [.int q, .ref 1638], (n, u, t, i_1, r))) ?_ ?_
  · refine ge_ne0 rfl (fun h_4 => ?_) (fun h_5 => ?_)
    · refine ge_run (pc' := 12) (L' := [.ref 1638, .int x1, uV, uV]) (S' := [.int (1 : Int32), .ref 1638]) 2 rfl ?_
      exact ge_leaf rfl
    · refine ge_run (pc' := 12) (L' := [.ref 1638, .int x1, uV, uV]) (S' := [.int (0 : Int32), .ref 1638]) 1 rfl ?_
      exact ge_leaf rfl
  · rintro y_3 _ rfl
    try dsimp only
    refine ge_run (pc' := 13) (L' := [.ref 1638, .int x1, uV, uV]) (S' := [.int (1 : Int32), .int y_3, .ref 1638]) 1 rfl ?_
    refine ge_cv rfl rfl rfl (t1638 s) rfl rfl rfl (D := 1) (Nat.le_trans (by decide) hd) (c_Mo_throwsIf (n := n) (u := u) (t := t) (i := i_1) (r := r) s y_3 (1 : Int32)) ?_
    rintro ⟨v_6, i_7⟩ -
    dsimp only [bkE, F_i1]
    refine ge_eq0 rfl (fun h_8 => ?_) (fun h_23 => ?_)
    · refine ge_run (pc' := 21) (L' := [.ref 1638, .int x1, .int (0 : Int32), .int (0 : Int32)]) (S' := []) 4 rfl ?_
      refine ge_bind (K1 := fun (q : Int32) e => ∃ w_12 : Value, e = .inl (47, [.ref 1638, .int x1, .int q, w_12], [], (n, u, t, i_7, r))) (ge_itr (C := fun (q : Int32 × Int32) e => e = .inl (21, [.ref 1638, .int x1, .int q.1, .int q.2], [], (n, u, t, i_7, r))) ?_ _ _ _ rfl) ?_
      · rintro ⟨x2_9, x3_10⟩ _ rfl
        try dsimp only
        refine ge_run (pc' := 23) (L' := [.ref 1638, .int x1, .int x2_9, .int x3_10]) (S' := [.ref 1638, .int x3_10]) 2 rfl ?_
        refine ge_cv rfl rfl rfl (t1638 s) rfl rfl rfl (D := 1) (Nat.le_trans (by decide) hd) (c_Mo_fishes (n := n) (u := u) (t := t) (i := i_7) (r := r) s ) ?_
        rintro v_13 -
        dsimp only [bkE, F_i0]
        refine ge_ge rfl (fun h_14 => ?_) (fun h_22 => ?_)
        · refine ge_run (pc' := 29) (L' := [.ref 1638, .int x1, .int x2_9, .int x3_10]) (S' := [.int (0 : Int32), .int x3_10, .ref 1638, .int x2_9]) 4 rfl ?_
          refine ge_cv rfl rfl rfl (t1638 s) rfl rfl rfl (D := 2) (Nat.le_trans (by decide) hd) (c_Mo_of (n := n) (u := u) (t := t) (i := i_7) (r := r) s x3_10 (0 : Int32)) ?_
          rintro v_15 -
          dsimp only [bkE, F_i0]
          refine ge_run (pc' := 31) (L' := [.ref 1638, .int x1, .int x2_9, .int x3_10]) (S' := [.int x1, .int v_15, .int x2_9]) 1 rfl ?_
          refine ge_bind (K1 := fun (q : Int32) e => e = .inl (43, [.ref 1638, .int x1, .int x2_9, .int x3_10], [.int q, .int x2_9], (n, u, t, i_7, r))) ?_ ?_
          · refine ge_ne rfl (fun h_17 => ?_) (fun h_21 => ?_)
            · refine ge_run (pc' := 35) (L' := [.ref 1638, .int x1, .int x2_9, .int x3_10]) (S' := [.int (3 : Int32), .int x3_10, .ref 1638, .int x2_9]) 3 rfl ?_
              refine ge_cv rfl rfl rfl (t1638 s) rfl rfl rfl (D := 2) (Nat.le_trans (by decide) hd) (c_Mo_of (n := n) (u := u) (t := t) (i := i_7) (r := r) s x3_10 (3 : Int32)) ?_
              rintro v_18 -
              dsimp only [bkE, F_i0]
              refine ge_run (pc' := 37) (L' := [.ref 1638, .int x1, .int x2_9, .int x3_10]) (S' := [.int (3 : Int32), .int v_18, .int x2_9]) 1 rfl ?_
              refine ge_eq rfl (fun h_19 => ?_) (fun h_20 => ?_)
              · refine ge_run (pc' := 43) (L' := [.ref 1638, .int x1, .int x2_9, .int x3_10]) (S' := [.int (0 : Int32), .int x2_9]) 1 rfl ?_
                exact ge_leaf rfl
              · refine ge_run (pc' := 43) (L' := [.ref 1638, .int x1, .int x2_9, .int x3_10]) (S' := [.int (shl (1 : Int32) x3_10), .int x2_9]) 4 rfl ?_
                exact ge_leaf rfl
            · refine ge_run (pc' := 43) (L' := [.ref 1638, .int x1, .int x2_9, .int x3_10]) (S' := [.int (0 : Int32), .int x2_9]) 1 rfl ?_
              exact ge_leaf rfl
          · rintro y_16 _ rfl
            try dsimp only
            refine ge_run (pc' := 21) (L' := [.ref 1638, .int x1, .int (x2_9 ||| y_16), .int (x3_10 + (1 : Int32))]) (S' := []) 4 rfl ?_
            exact ge_leaf (K := kX _ _) rfl
        · exact ge_leaf (K := kX _ _) (Exists.intro _ rfl)
      · rintro x2_11 _ ⟨w_12, rfl⟩
        try dsimp only
        refine ge_run (pc' := 48) (L' := [.ref 1638, .int x1, .int x2_11, w_12]) (S' := [.int x2_11]) 1 rfl ?_
        exact ge_ret rfl rfl (And.intro rfl trivial)
    · refine ge_run (pc' := 16) (L' := [.ref 1638, .int x1, uV, uV]) (S' := [.int (0 : Int32)]) 1 rfl ?_
      exact ge_ret rfl rfl (And.intro rfl trivial)
def f_Mo_twins (i : MI) : Option (Int32 × MI) :=
  bnd (wr i 1638 0 (0 : Int32)) (fun i_1 => (itr (σ := Int32 × Int32) (ρ := Int32) (fun (x1_2, x2_3) => (f_Mo_fishes i_1).bind (fun v_8 => if x2_3 < v_8 then ((itr (σ := Int32 × Int32) (ρ := Int32) (fun (x1_10, x3_11) => if x3_11 < x2_3 then ((f_Mo_of i_1 x2_3 (0 : Int32)).bind (fun v_15 => (f_Mo_of i_1 x3_11 (0 : Int32)).bind (fun v_16 => (if v_15 = v_16 then ((f_Mo_of i_1 x2_3 (1 : Int32)).bind (fun v_19 => (f_Mo_of i_1 x3_11 (1 : Int32)).bind (fun v_20 => if v_19 = v_20 then (some (1 : Int32)) else (some (0 : Int32))))) else (some (0 : Int32)) : Option (Int32)).bind (fun y_17 => some (.inl ((x1_10 + y_17), (x3_11 + (1 : Int32)))))))) else (some (.inr x1_10))) 1000000 (x1_2, (0 : Int32))).bind (fun x1_12 => some (.inl (x1_12, (x2_3 + (1 : Int32)))))) else (some (.inr x1_2)))) 1000000 ((0 : Int32), (0 : Int32))).bind (fun x1_5 => some (x1_5, i_1)))
set_option maxHeartbeats 4000000 in
theorem c_Mo_twins {n u : Nat} {t : MT} {i : MI} {r : MR} (s : Sh n t r)  : Cn 3 345 [.ref 1638] (n, u, t, i, r) (f_Mo_twins i ) (F_i1 n u t r) PT := by
  refine cn_of (Y := K_Mo_twins) (L0 := [.ref 1638, uV, uV, uV]) rfl rfl rfl ?_
  intro d hd
  unfold f_Mo_twins
  refine ge_run (pc' := 2) (L' := [.ref 1638, uV, uV, uV]) (S' := [.int (0 : Int32), .ref 1638]) 2 rfl ?_
  refine ge_putI rfl (t1638 s) (Nat.le_of_ble_eq_true rfl) rfl (fun i_1 => ?_)
  refine ge_run (pc' := 7) (L' := [.ref 1638, .int (0 : Int32), .int (0 : Int32), uV]) (S' := []) 4 rfl ?_
  refine ge_bind (K1 := fun (q : Int32) e => ∃ w_6 w_7 : Value, e = .inl (44, [.ref 1638, .int q, w_6, w_7], [], (n, u, t, i_1, r))) (ge_itr (C := fun (q : Int32 × Int32) e => ∃ w_4 : Value, e = .inl (7, [.ref 1638, .int q.1, .int q.2, w_4], [], (n, u, t, i_1, r))) ?_ _ _ _ (Exists.intro _ rfl)) ?_
  · rintro ⟨x1_2, x2_3⟩ _ ⟨w_4, rfl⟩
    try dsimp only
    refine ge_run (pc' := 9) (L' := [.ref 1638, .int x1_2, .int x2_3, w_4]) (S' := [.ref 1638, .int x2_3]) 2 rfl ?_
    refine ge_cv rfl rfl rfl (t1638 s) rfl rfl rfl (D := 1) (Nat.le_trans (by decide) hd) (c_Mo_fishes (n := n) (u := u) (t := t) (i := i_1) (r := r) s ) ?_
    rintro v_8 -
    dsimp only [bkE, F_i0]
    refine ge_ge rfl (fun h_9 => ?_) (fun h_25 => ?_)
    · refine ge_run (pc' := 13) (L' := [.ref 1638, .int x1_2, .int x2_3, .int (0 : Int32)]) (S' := []) 2 rfl ?_
      refine ge_bind (K1 := fun (q : Int32) e => ∃ w_13 : Value, e = .inl (42, [.ref 1638, .int q, .int x2_3, w_13], [], (n, u, t, i_1, r))) (ge_itr (C := fun (q : Int32 × Int32) e => e = .inl (13, [.ref 1638, .int q.1, .int x2_3, .int q.2], [], (n, u, t, i_1, r))) ?_ _ _ _ rfl) ?_
      · rintro ⟨x1_10, x3_11⟩ _ rfl
        try dsimp only
        refine ge_run (pc' := 15) (L' := [.ref 1638, .int x1_10, .int x2_3, .int x3_11]) (S' := [.int x2_3, .int x3_11]) 2 rfl ?_
        refine ge_ge rfl (fun h_14 => ?_) (fun h_24 => ?_)
        · refine ge_run (pc' := 20) (L' := [.ref 1638, .int x1_10, .int x2_3, .int x3_11]) (S' := [.int (0 : Int32), .int x2_3, .ref 1638, .int x1_10]) 4 rfl ?_
          refine ge_cv rfl rfl rfl (t1638 s) rfl rfl rfl (D := 2) (Nat.le_trans (by decide) hd) (c_Mo_of (n := n) (u := u) (t := t) (i := i_1) (r := r) s x2_3 (0 : Int32)) ?_
          rintro v_15 -
          dsimp only [bkE, F_i0]
          refine ge_run (pc' := 24) (L' := [.ref 1638, .int x1_10, .int x2_3, .int x3_11]) (S' := [.int (0 : Int32), .int x3_11, .ref 1638, .int v_15, .int x1_10]) 3 rfl ?_
          refine ge_cv rfl rfl rfl (t1638 s) rfl rfl rfl (D := 2) (Nat.le_trans (by decide) hd) (c_Mo_of (n := n) (u := u) (t := t) (i := i_1) (r := r) s x3_11 (0 : Int32)) ?_
          rintro v_16 -
          dsimp only [bkE, F_i0]
          refine ge_bind (K1 := fun (q : Int32) e => e = .inl (38, [.ref 1638, .int x1_10, .int x2_3, .int x3_11], [.int q, .int x1_10], (n, u, t, i_1, r))) ?_ ?_
          · refine ge_ne rfl (fun h_18 => ?_) (fun h_23 => ?_)
            · refine ge_run (pc' := 29) (L' := [.ref 1638, .int x1_10, .int x2_3, .int x3_11]) (S' := [.int (1 : Int32), .int x2_3, .ref 1638, .int x1_10]) 3 rfl ?_
              refine ge_cv rfl rfl rfl (t1638 s) rfl rfl rfl (D := 2) (Nat.le_trans (by decide) hd) (c_Mo_of (n := n) (u := u) (t := t) (i := i_1) (r := r) s x2_3 (1 : Int32)) ?_
              rintro v_19 -
              dsimp only [bkE, F_i0]
              refine ge_run (pc' := 33) (L' := [.ref 1638, .int x1_10, .int x2_3, .int x3_11]) (S' := [.int (1 : Int32), .int x3_11, .ref 1638, .int v_19, .int x1_10]) 3 rfl ?_
              refine ge_cv rfl rfl rfl (t1638 s) rfl rfl rfl (D := 2) (Nat.le_trans (by decide) hd) (c_Mo_of (n := n) (u := u) (t := t) (i := i_1) (r := r) s x3_11 (1 : Int32)) ?_
              rintro v_20 -
              dsimp only [bkE, F_i0]
              refine ge_ne rfl (fun h_21 => ?_) (fun h_22 => ?_)
              · refine ge_run (pc' := 38) (L' := [.ref 1638, .int x1_10, .int x2_3, .int x3_11]) (S' := [.int (1 : Int32), .int x1_10]) 2 rfl ?_
                exact ge_leaf rfl
              · refine ge_run (pc' := 38) (L' := [.ref 1638, .int x1_10, .int x2_3, .int x3_11]) (S' := [.int (0 : Int32), .int x1_10]) 1 rfl ?_
                exact ge_leaf rfl
            · refine ge_run (pc' := 38) (L' := [.ref 1638, .int x1_10, .int x2_3, .int x3_11]) (S' := [.int (0 : Int32), .int x1_10]) 1 rfl ?_
              exact ge_leaf rfl
          · rintro y_17 _ rfl
            try dsimp only
            refine ge_run (pc' := 13) (L' := [.ref 1638, .int (x1_10 + y_17), .int x2_3, .int (x3_11 + (1 : Int32))]) (S' := []) 4 rfl ?_
            exact ge_leaf (K := kX _ _) rfl
        · exact ge_leaf (K := kX _ _) (Exists.intro _ rfl)
      · rintro x1_12 _ ⟨w_13, rfl⟩
        try dsimp only
        refine ge_run (pc' := 7) (L' := [.ref 1638, .int x1_12, .int (x2_3 + (1 : Int32)), w_13]) (S' := []) 2 rfl ?_
        exact ge_leaf (K := kX _ _) (Exists.intro _ rfl)
    · exact ge_leaf (K := kX _ _) (Exists.intro _ (Exists.intro _ rfl))
  · rintro x1_5 _ ⟨w_6, w_7, rfl⟩
    try dsimp only
    refine ge_run (pc' := 45) (L' := [.ref 1638, .int x1_5, w_6, w_7]) (S' := [.int x1_5]) 1 rfl ?_
    exact ge_ret rfl rfl (And.intro rfl trivial)
def f_Mo_slab (i : MI) : Option (Int32 × MI) :=
  bnd (wr i 1638 0 (0 : Int32)) (fun i_1 => (f_Mo_allThat i_1 (2 : Int32)).bind (fun v_2 => some (v_2, i_1)))
set_option maxHeartbeats 4000000 in
theorem c_Mo_slab {n u : Nat} {t : MT} {i : MI} {r : MR} (s : Sh n t r)  : Cn 4 346 [.ref 1638] (n, u, t, i, r) (f_Mo_slab i ) (F_i1 n u t r) PT := by
  refine cn_of (Y := K_Mo_slab) (L0 := [.ref 1638]) rfl rfl rfl ?_
  intro d hd
  unfold f_Mo_slab
  refine ge_run (pc' := 2) (L' := [.ref 1638]) (S' := [.int (0 : Int32), .ref 1638]) 2 rfl ?_
  refine ge_putI rfl (t1638 s) (Nat.le_of_ble_eq_true rfl) rfl (fun i_1 => ?_)
  refine ge_run (pc' := 5) (L' := [.ref 1638]) (S' := [.int (2 : Int32), .ref 1638]) 2 rfl ?_
  refine ge_cv rfl rfl rfl (t1638 s) rfl rfl rfl (D := 3) (Nat.le_trans (by decide) hd) (c_Mo_allThat (n := n) (u := u) (t := t) (i := i_1) (r := r) s (2 : Int32)) ?_
  rintro v_2 -
  dsimp only [bkE, F_i0]
  exact ge_ret rfl rfl (And.intro rfl trivial)
def f_Mo_sea (i : MI) : Option (Int32 × MI) :=
  bnd (wr i 1638 0 (0 : Int32)) (fun i_1 => (f_Mo_allThat i_1 (0 : Int32)).bind (fun v_2 => some (v_2, i_1)))
set_option maxHeartbeats 4000000 in
theorem c_Mo_sea {n u : Nat} {t : MT} {i : MI} {r : MR} (s : Sh n t r)  : Cn 4 347 [.ref 1638] (n, u, t, i, r) (f_Mo_sea i ) (F_i1 n u t r) PT := by
  refine cn_of (Y := K_Mo_sea) (L0 := [.ref 1638]) rfl rfl rfl ?_
  intro d hd
  unfold f_Mo_sea
  refine ge_run (pc' := 2) (L' := [.ref 1638]) (S' := [.int (0 : Int32), .ref 1638]) 2 rfl ?_
  refine ge_putI rfl (t1638 s) (Nat.le_of_ble_eq_true rfl) rfl (fun i_1 => ?_)
  refine ge_run (pc' := 5) (L' := [.ref 1638]) (S' := [.int (0 : Int32), .ref 1638]) 2 rfl ?_
  refine ge_cv rfl rfl rfl (t1638 s) rfl rfl rfl (D := 3) (Nat.le_trans (by decide) hd) (c_Mo_allThat (n := n) (u := u) (t := t) (i := i_1) (r := r) s (0 : Int32)) ?_
  rintro v_2 -
  dsimp only [bkE, F_i0]
  exact ge_ret rfl rfl (And.intro rfl trivial)
def f_Mo_gone (i : MI) : Option (Int32 × MI) :=
  bnd (wr i 1638 0 (0 : Int32)) (fun i_1 => (f_Mo_allThat i_1 (3 : Int32)).bind (fun v_2 => some (v_2, i_1)))
set_option maxHeartbeats 4000000 in
theorem c_Mo_gone {n u : Nat} {t : MT} {i : MI} {r : MR} (s : Sh n t r)  : Cn 4 348 [.ref 1638] (n, u, t, i, r) (f_Mo_gone i ) (F_i1 n u t r) PT := by
  refine cn_of (Y := K_Mo_gone) (L0 := [.ref 1638]) rfl rfl rfl ?_
  intro d hd
  unfold f_Mo_gone
  refine ge_run (pc' := 2) (L' := [.ref 1638]) (S' := [.int (0 : Int32), .ref 1638]) 2 rfl ?_
  refine ge_putI rfl (t1638 s) (Nat.le_of_ble_eq_true rfl) rfl (fun i_1 => ?_)
  refine ge_run (pc' := 5) (L' := [.ref 1638]) (S' := [.int (3 : Int32), .ref 1638]) 2 rfl ?_
  refine ge_cv rfl rfl rfl (t1638 s) rfl rfl rfl (D := 3) (Nat.le_trans (by decide) hd) (c_Mo_allThat (n := n) (u := u) (t := t) (i := i_1) (r := r) s (3 : Int32)) ?_
  rintro v_2 -
  dsimp only [bkE, F_i0]
  exact ge_ret rfl rfl (And.intro rfl trivial)
def f_Mo_spoils (i : MI) (x1 : Int32) : Option (Int32 × MI) :=
  bnd (wr i 1638 0 (0 : Int32)) (fun i_1 => (f_Mo_noDays x1).bind (fun v_2 => (f_Mo_throwsIf i_1 v_2 (1 : Int32)).bind (fun (v_3, i_4) => if v_3 = 0 then ((f_Mo_allThat i_4 (3 : Int32)).bind (fun v_6 => (f_Mo_keepsAll i_4).bind (fun i_7 => (f_Mo_goesOn i_7 x1 (1 : Int32)).bind (fun (v_8, i_9) => (f_Mo_allThat i_9 (3 : Int32)).bind (fun v_10 => (f_Mo_bringsBack i_9).bind (fun i_11 => some ((v_10 &&& (v_6 ^^^ (-1 : Int32))), i_11))))))) else (some ((0 : Int32), i_4)))))
set_option maxHeartbeats 4000000 in
theorem c_Mo_spoils {n u : Nat} {t : MT} {i : MI} {r : MR} (s : Sh n t r) (x1 : Int32) : Cn 12 349 [.ref 1638, .int x1] (n, u, t, i, r) (f_Mo_spoils i x1) (F_i1 n u t r) PT := by
  refine cn_of (Y := K_Mo_spoils) (L0 := [.ref 1638, .int x1, uV, uV]) rfl rfl rfl ?_
  intro d hd
  unfold f_Mo_spoils
  refine ge_run (pc' := 2) (L' := [.ref 1638, .int x1, uV, uV]) (S' := [.int (0 : Int32), .ref 1638]) 2 rfl ?_
  refine ge_putI rfl (t1638 s) (Nat.le_of_ble_eq_true rfl) rfl (fun i_1 => ?_)
  refine ge_run (pc' := 5) (L' := [.ref 1638, .int x1, uV, uV]) (S' := [.int x1, .ref 1638]) 2 rfl ?_
  refine ge_cs rfl rfl rfl rfl rfl rfl (D := 2) (Nat.le_trans (by decide) hd) (c_Mo_noDays (n := n) (u := u) (t := t) (i := i_1) (r := r) s x1) ?_
  rintro v_2 -
  dsimp only [bkE, F_i0]
  refine ge_run (pc' := 7) (L' := [.ref 1638, .int x1, uV, uV]) (S' := [.int (1 : Int32), .int v_2, .ref 1638]) 1 rfl ?_
  refine ge_cv rfl rfl rfl (t1638 s) rfl rfl rfl (D := 1) (Nat.le_trans (by decide) hd) (c_Mo_throwsIf (n := n) (u := u) (t := t) (i := i_1) (r := r) s v_2 (1 : Int32)) ?_
  rintro ⟨v_3, i_4⟩ -
  dsimp only [bkE, F_i1]
  refine ge_eq0 rfl (fun h_5 => ?_) (fun h_12 => ?_)
  · refine ge_run (pc' := 13) (L' := [.ref 1638, .int x1, uV, uV]) (S' := [.int (3 : Int32), .ref 1638]) 2 rfl ?_
    refine ge_cv rfl rfl rfl (t1638 s) rfl rfl rfl (D := 3) (Nat.le_trans (by decide) hd) (c_Mo_allThat (n := n) (u := u) (t := t) (i := i_4) (r := r) s (3 : Int32)) ?_
    rintro v_6 -
    dsimp only [bkE, F_i0]
    refine ge_run (pc' := 16) (L' := [.ref 1638, .int x1, .int v_6, uV]) (S' := [.ref 1638]) 2 rfl ?_
    refine ge_cv rfl rfl rfl (t1638 s) rfl rfl rfl (D := 1) (Nat.le_trans (by decide) hd) (c_Mo_keepsAll (n := n) (u := u) (t := t) (i := i_4) (r := r) s ) ?_
    rintro i_7 -
    dsimp only [bkE, F_v1]
    refine ge_run (pc' := 20) (L' := [.ref 1638, .int x1, .int v_6, uV]) (S' := [.int (1 : Int32), .int x1, .ref 1638]) 3 rfl ?_
    refine ge_cv rfl rfl rfl (t1638 s) rfl rfl rfl (D := 11) (Nat.le_trans (by decide) hd) (c_Mo_goesOn (n := n) (u := u) (t := t) (i := i_7) (r := r) s x1 (1 : Int32)) ?_
    rintro ⟨v_8, i_9⟩ -
    dsimp only [bkE, F_i1]
    refine ge_run (pc' := 24) (L' := [.ref 1638, .int x1, .int v_6, uV]) (S' := [.int (3 : Int32), .ref 1638]) 3 rfl ?_
    refine ge_cv rfl rfl rfl (t1638 s) rfl rfl rfl (D := 3) (Nat.le_trans (by decide) hd) (c_Mo_allThat (n := n) (u := u) (t := t) (i := i_9) (r := r) s (3 : Int32)) ?_
    rintro v_10 -
    dsimp only [bkE, F_i0]
    refine ge_run (pc' := 27) (L' := [.ref 1638, .int x1, .int v_6, .int v_10]) (S' := [.ref 1638]) 2 rfl ?_
    refine ge_cv rfl rfl rfl (t1638 s) rfl rfl rfl (D := 1) (Nat.le_trans (by decide) hd) (c_Mo_bringsBack (n := n) (u := u) (t := t) (i := i_9) (r := r) s ) ?_
    rintro i_11 -
    dsimp only [bkE, F_v1]
    refine ge_run (pc' := 33) (L' := [.ref 1638, .int x1, .int v_6, .int v_10]) (S' := [.int (v_10 &&& (v_6 ^^^ (-1 : Int32)))]) 5 rfl ?_
    exact ge_ret rfl rfl (And.intro rfl trivial)
  · refine ge_run (pc' := 10) (L' := [.ref 1638, .int x1, uV, uV]) (S' := [.int (0 : Int32)]) 1 rfl ?_
    exact ge_ret rfl rfl (And.intro rfl trivial)
def f_Mo_trial (i : MI) (x1 : Int32) (x2 : Int32) : Option (Int32 × MI) :=
  bnd (wr i 1638 0 (0 : Int32)) (fun i_1 => (f_Mo_noDays x1).bind (fun v_2 => (f_Mo_throwsIf i_1 v_2 (1 : Int32)).bind (fun (v_3, i_4) => if v_3 = 0 then ((f_Mo_keepsAll i_4).bind (fun i_6 => (f_Mo_goesOn i_6 x1 (0 : Int32)).bind (fun (v_7, i_8) => (if x2 = 0 then (some (i_8 1639 7)) else ((f_Mo_allThat i_8 (3 : Int32)).bind (fun v_12 => (f_J_bitCount v_12).bind (fun v_13 => some v_13))) : Option (Int32)).bind (fun y_9 => (f_Mo_bringsBack i_8).bind (fun i_14 => some (y_9, i_14)))))) else (some ((0 : Int32), i_4)))))
set_option maxHeartbeats 4000000 in
theorem c_Mo_trial {n u : Nat} {t : MT} {i : MI} {r : MR} (s : Sh n t r) (x1 : Int32) (x2 : Int32) : Cn 12 350 [.ref 1638, .int x1, .int x2] (n, u, t, i, r) (f_Mo_trial i x1 x2) (F_i1 n u t r) PT := by
  refine cn_of (Y := K_Mo_trial) (L0 := [.ref 1638, .int x1, .int x2, uV]) rfl rfl rfl ?_
  intro d hd
  unfold f_Mo_trial
  refine ge_run (pc' := 2) (L' := [.ref 1638, .int x1, .int x2, uV]) (S' := [.int (0 : Int32), .ref 1638]) 2 rfl ?_
  refine ge_putI rfl (t1638 s) (Nat.le_of_ble_eq_true rfl) rfl (fun i_1 => ?_)
  refine ge_run (pc' := 5) (L' := [.ref 1638, .int x1, .int x2, uV]) (S' := [.int x1, .ref 1638]) 2 rfl ?_
  refine ge_cs rfl rfl rfl rfl rfl rfl (D := 2) (Nat.le_trans (by decide) hd) (c_Mo_noDays (n := n) (u := u) (t := t) (i := i_1) (r := r) s x1) ?_
  rintro v_2 -
  dsimp only [bkE, F_i0]
  refine ge_run (pc' := 7) (L' := [.ref 1638, .int x1, .int x2, uV]) (S' := [.int (1 : Int32), .int v_2, .ref 1638]) 1 rfl ?_
  refine ge_cv rfl rfl rfl (t1638 s) rfl rfl rfl (D := 1) (Nat.le_trans (by decide) hd) (c_Mo_throwsIf (n := n) (u := u) (t := t) (i := i_1) (r := r) s v_2 (1 : Int32)) ?_
  rintro ⟨v_3, i_4⟩ -
  dsimp only [bkE, F_i1]
  refine ge_eq0 rfl (fun h_5 => ?_) (fun h_15 => ?_)
  · refine ge_run (pc' := 12) (L' := [.ref 1638, .int x1, .int x2, uV]) (S' := [.ref 1638]) 1 rfl ?_
    refine ge_cv rfl rfl rfl (t1638 s) rfl rfl rfl (D := 1) (Nat.le_trans (by decide) hd) (c_Mo_keepsAll (n := n) (u := u) (t := t) (i := i_4) (r := r) s ) ?_
    rintro i_6 -
    dsimp only [bkE, F_v1]
    refine ge_run (pc' := 16) (L' := [.ref 1638, .int x1, .int x2, uV]) (S' := [.int (0 : Int32), .int x1, .ref 1638]) 3 rfl ?_
    refine ge_cv rfl rfl rfl (t1638 s) rfl rfl rfl (D := 11) (Nat.le_trans (by decide) hd) (c_Mo_goesOn (n := n) (u := u) (t := t) (i := i_6) (r := r) s x1 (0 : Int32)) ?_
    rintro ⟨v_7, i_8⟩ -
    dsimp only [bkE, F_i1]
    refine ge_run (pc' := 19) (L' := [.ref 1638, .int x1, .int x2, uV]) (S' := [.int x2]) 2 rfl ?_
    refine ge_bind (K1 := fun (q : Int32) e => e = .inl (29, [.ref 1638, .int x1, .int x2, uV], [.int q], (n, u, t, i_8, r))) ?_ ?_
    · refine ge_eq0 rfl (fun h_10 => ?_) (fun h_11 => ?_)
      · refine ge_run (pc' := 26) (L' := [.ref 1638, .int x1, .int x2, uV]) (S' := [.ref 1638]) 1 rfl ?_
        refine ge_getR (b := 1639) rfl (t1638 s) rfl (r1638_1 s) (Nat.le_of_ble_eq_true rfl) ?_
        refine ge_run (pc' := 28) (L' := [.ref 1638, .int x1, .int x2, uV]) (S' := [.int (7 : Int32), .ref 1639]) 1 rfl ?_
        refine ge_iald (jn := 7) rfl (t1639 s) lk7 (by decide) ?_
        exact ge_leaf rfl
      · refine ge_run (pc' := 22) (L' := [.ref 1638, .int x1, .int x2, uV]) (S' := [.int (3 : Int32), .ref 1638]) 2 rfl ?_
        refine ge_cv rfl rfl rfl (t1638 s) rfl rfl rfl (D := 3) (Nat.le_trans (by decide) hd) (c_Mo_allThat (n := n) (u := u) (t := t) (i := i_8) (r := r) s (3 : Int32)) ?_
        rintro v_12 -
        dsimp only [bkE, F_i0]
        refine ge_cs rfl rfl rfl rfl rfl rfl (D := 1) (Nat.le_trans (by decide) hd) (c_J_bitCount (n := n) (u := u) (t := t) (i := i_8) (r := r) s v_12) ?_
        rintro v_13 -
        dsimp only [bkE, F_i0]
        refine ge_run (pc' := 29) (L' := [.ref 1638, .int x1, .int x2, uV]) (S' := [.int v_13]) 1 rfl ?_
        exact ge_leaf rfl
    · rintro y_9 _ rfl
      try dsimp only
      refine ge_run (pc' := 31) (L' := [.ref 1638, .int x1, .int x2, .int y_9]) (S' := [.ref 1638]) 2 rfl ?_
      refine ge_cv rfl rfl rfl (t1638 s) rfl rfl rfl (D := 1) (Nat.le_trans (by decide) hd) (c_Mo_bringsBack (n := n) (u := u) (t := t) (i := i_8) (r := r) s ) ?_
      rintro i_14 -
      dsimp only [bkE, F_v1]
      refine ge_run (pc' := 33) (L' := [.ref 1638, .int x1, .int x2, .int y_9]) (S' := [.int y_9]) 1 rfl ?_
      exact ge_ret rfl rfl (And.intro rfl trivial)
  · refine ge_run (pc' := 10) (L' := [.ref 1638, .int x1, .int x2, uV]) (S' := [.int (0 : Int32)]) 1 rfl ?_
    exact ge_ret rfl rfl (And.intro rfl trivial)
def f_Mo_span (i : MI) (x1 : Int32) (x2 : Int32) : Option (Int32 × MI) :=
  bnd (wr i 1638 0 (0 : Int32)) (fun i_1 => (f_Mo_noDays x1).bind (fun v_2 => (f_Mo_throwsIf i_1 v_2 (1 : Int32)).bind (fun (v_3, i_4) => if v_3 = 0 then ((f_Mo_keepsAll i_4).bind (fun i_6 => (itr (σ := Int32 × Int32 × MI) (ρ := Int32 × MI) (fun (x3_7, x4_8, i_9) => if (6 : Int32) < x4_8 then (some (.inr (x3_7, i_9))) else (bnd (wr i_9 1639 10 x4_8) (fun i_17 => (f_Mo_goesOn i_17 x1 (0 : Int32)).bind (fun (v_18, i_19) => (f_Mo_bringsBack i_19).bind (fun i_20 => (if x3_7 < 0 then (some (i_19 1639 7)) else (if x2 = 0 then ((f_J_min x3_7 (i_19 1639 7)).bind (fun v_25 => some v_25)) else ((f_J_max x3_7 (i_19 1639 7)).bind (fun v_27 => some v_27))) : Option (Int32)).bind (fun y_21 => some (.inl (y_21, (x4_8 + (1 : Int32)), i_20)))))))) 1000000 ((-1 : Int32), (1 : Int32), i_6)).bind (fun (x3_11, i_12) => some (x3_11, i_12)))) else (some ((0 : Int32), i_4)))))
set_option maxHeartbeats 4000000 in
theorem c_Mo_span {n u : Nat} {t : MT} {i : MI} {r : MR} (s : Sh n t r) (x1 : Int32) (x2 : Int32) : Cn 12 351 [.ref 1638, .int x1, .int x2] (n, u, t, i, r) (f_Mo_span i x1 x2) (F_i1 n u t r) PT := by
  refine cn_of (Y := K_Mo_span) (L0 := [.ref 1638, .int x1, .int x2, uV, uV, uV]) rfl rfl rfl ?_
  intro d hd
  unfold f_Mo_span
  refine ge_run (pc' := 2) (L' := [.ref 1638, .int x1, .int x2, uV, uV, uV]) (S' := [.int (0 : Int32), .ref 1638]) 2 rfl ?_
  refine ge_putI rfl (t1638 s) (Nat.le_of_ble_eq_true rfl) rfl (fun i_1 => ?_)
  refine ge_run (pc' := 5) (L' := [.ref 1638, .int x1, .int x2, uV, uV, uV]) (S' := [.int x1, .ref 1638]) 2 rfl ?_
  refine ge_cs rfl rfl rfl rfl rfl rfl (D := 2) (Nat.le_trans (by decide) hd) (c_Mo_noDays (n := n) (u := u) (t := t) (i := i_1) (r := r) s x1) ?_
  rintro v_2 -
  dsimp only [bkE, F_i0]
  refine ge_run (pc' := 7) (L' := [.ref 1638, .int x1, .int x2, uV, uV, uV]) (S' := [.int (1 : Int32), .int v_2, .ref 1638]) 1 rfl ?_
  refine ge_cv rfl rfl rfl (t1638 s) rfl rfl rfl (D := 1) (Nat.le_trans (by decide) hd) (c_Mo_throwsIf (n := n) (u := u) (t := t) (i := i_1) (r := r) s v_2 (1 : Int32)) ?_
  rintro ⟨v_3, i_4⟩ -
  dsimp only [bkE, F_i1]
  refine ge_eq0 rfl (fun h_5 => ?_) (fun h_28 => ?_)
  · refine ge_run (pc' := 12) (L' := [.ref 1638, .int x1, .int x2, uV, uV, uV]) (S' := [.ref 1638]) 1 rfl ?_
    refine ge_cv rfl rfl rfl (t1638 s) rfl rfl rfl (D := 1) (Nat.le_trans (by decide) hd) (c_Mo_keepsAll (n := n) (u := u) (t := t) (i := i_4) (r := r) s ) ?_
    rintro i_6 -
    dsimp only [bkE, F_v1]
    refine ge_run (pc' := 17) (L' := [.ref 1638, .int x1, .int x2, .int (-1 : Int32), .int (1 : Int32), uV]) (S' := []) 4 rfl ?_
    refine ge_bind (K1 := fun (q : Int32 × MI) e => ∃ w_13 w_14 : Value, e = .inl (53, [.ref 1638, .int x1, .int x2, .int q.1, w_13, w_14], [], (n, u, t, q.2, r))) (ge_itr (C := fun (q : Int32 × Int32 × MI) e => ∃ w_10 : Value, e = .inl (17, [.ref 1638, .int x1, .int x2, .int q.1, .int q.2.1, w_10], [], (n, u, t, q.2.2, r))) ?_ _ _ _ (Exists.intro _ rfl)) ?_
    · rintro ⟨x3_7, x4_8, i_9⟩ _ ⟨w_10, rfl⟩
      try dsimp only
      refine ge_run (pc' := 19) (L' := [.ref 1638, .int x1, .int x2, .int x3_7, .int x4_8, w_10]) (S' := [.int (6 : Int32), .int x4_8]) 2 rfl ?_
      refine ge_gt rfl (fun h_15 => ?_) (fun h_16 => ?_)
      · exact ge_leaf (K := kX _ _) (Exists.intro _ (Exists.intro _ rfl))
      · refine ge_run (pc' := 21) (L' := [.ref 1638, .int x1, .int x2, .int x3_7, .int x4_8, w_10]) (S' := [.ref 1638]) 1 rfl ?_
        refine ge_getR (b := 1639) rfl (t1638 s) rfl (r1638_1 s) (Nat.le_of_ble_eq_true rfl) ?_
        refine ge_run (pc' := 24) (L' := [.ref 1638, .int x1, .int x2, .int x3_7, .int x4_8, w_10]) (S' := [.int x4_8, .int (10 : Int32), .ref 1639]) 2 rfl ?_
        refine ge_iast (jn := 10) rfl (t1639 s) (Nat.le_of_ble_eq_true rfl) lk10 (by decide) (fun i_17 => ?_)
        refine ge_run (pc' := 28) (L' := [.ref 1638, .int x1, .int x2, .int x3_7, .int x4_8, w_10]) (S' := [.int (0 : Int32), .int x1, .ref 1638]) 3 rfl ?_
        refine ge_cv rfl rfl rfl (t1638 s) rfl rfl rfl (D := 11) (Nat.le_trans (by decide) hd) (c_Mo_goesOn (n := n) (u := u) (t := t) (i := i_17) (r := r) s x1 (0 : Int32)) ?_
        rintro ⟨v_18, i_19⟩ -
        dsimp only [bkE, F_i1]
        refine ge_run (pc' := 31) (L' := [.ref 1638, .int x1, .int x2, .int x3_7, .int x4_8, w_10]) (S' := [.ref 1638]) 2 rfl ?_
        refine ge_getR (b := 1639) rfl (t1638 s) rfl (r1638_1 s) (Nat.le_of_ble_eq_true rfl) ?_
        refine ge_run (pc' := 33) (L' := [.ref 1638, .int x1, .int x2, .int x3_7, .int x4_8, w_10]) (S' := [.int (7 : Int32), .ref 1639]) 1 rfl ?_
        refine ge_iald (jn := 7) rfl (t1639 s) lk7 (by decide) ?_
        refine ge_run (pc' := 36) (L' := [.ref 1638, .int x1, .int x2, .int x3_7, .int x4_8, .int (i_19 1639 7)]) (S' := [.ref 1638]) 2 rfl ?_
        refine ge_cv rfl rfl rfl (t1638 s) rfl rfl rfl (D := 1) (Nat.le_trans (by decide) hd) (c_Mo_bringsBack (n := n) (u := u) (t := t) (i := i_19) (r := r) s ) ?_
        rintro i_20 -
        dsimp only [bkE, F_v1]
        refine ge_run (pc' := 38) (L' := [.ref 1638, .int x1, .int x2, .int x3_7, .int x4_8, .int (i_19 1639 7)]) (S' := [.int x3_7]) 1 rfl ?_
        refine ge_bind (K1 := fun (q : Int32) e => e = .inl (50, [.ref 1638, .int x1, .int x2, .int x3_7, .int x4_8, .int (i_19 1639 7)], [.int q], (n, u, t, i_20, r))) ?_ ?_
        · refine ge_ge0 rfl (fun h_22 => ?_) (fun h_23 => ?_)
          · refine ge_run (pc' := 50) (L' := [.ref 1638, .int x1, .int x2, .int x3_7, .int x4_8, .int (i_19 1639 7)]) (S' := [.int (i_19 1639 7)]) 2 rfl ?_
            exact ge_leaf rfl
          · refine ge_run (pc' := 42) (L' := [.ref 1638, .int x1, .int x2, .int x3_7, .int x4_8, .int (i_19 1639 7)]) (S' := [.int x2]) 1 rfl ?_
            refine ge_eq0 rfl (fun h_24 => ?_) (fun h_26 => ?_)
            · refine ge_run (pc' := 49) (L' := [.ref 1638, .int x1, .int x2, .int x3_7, .int x4_8, .int (i_19 1639 7)]) (S' := [.int (i_19 1639 7), .int x3_7]) 2 rfl ?_
              refine ge_cs rfl rfl rfl rfl rfl rfl (D := 1) (Nat.le_trans (by decide) hd) (c_J_min (n := n) (u := u) (t := t) (i := i_20) (r := r) s x3_7 (i_19 1639 7)) ?_
              rintro v_25 -
              dsimp only [bkE, F_i0]
              exact ge_leaf rfl
            · refine ge_run (pc' := 45) (L' := [.ref 1638, .int x1, .int x2, .int x3_7, .int x4_8, .int (i_19 1639 7)]) (S' := [.int (i_19 1639 7), .int x3_7]) 2 rfl ?_
              refine ge_cs rfl rfl rfl rfl rfl rfl (D := 1) (Nat.le_trans (by decide) hd) (c_J_max (n := n) (u := u) (t := t) (i := i_20) (r := r) s x3_7 (i_19 1639 7)) ?_
              rintro v_27 -
              dsimp only [bkE, F_i0]
              refine ge_run (pc' := 50) (L' := [.ref 1638, .int x1, .int x2, .int x3_7, .int x4_8, .int (i_19 1639 7)]) (S' := [.int v_27]) 1 rfl ?_
              exact ge_leaf rfl
        · rintro y_21 _ rfl
          try dsimp only
          refine ge_run (pc' := 17) (L' := [.ref 1638, .int x1, .int x2, .int y_21, .int (x4_8 + (1 : Int32)), .int (i_19 1639 7)]) (S' := []) 3 rfl ?_
          exact ge_leaf (K := kX _ _) (Exists.intro _ rfl)
    · rintro ⟨x3_11, i_12⟩ _ ⟨w_13, w_14, rfl⟩
      try dsimp only
      refine ge_run (pc' := 54) (L' := [.ref 1638, .int x1, .int x2, .int x3_11, w_13, w_14]) (S' := [.int x3_11]) 1 rfl ?_
      exact ge_ret rfl rfl (And.intro rfl trivial)
  · refine ge_run (pc' := 10) (L' := [.ref 1638, .int x1, .int x2, uV, uV, uV]) (S' := [.int (0 : Int32)]) 1 rfl ?_
    exact ge_ret rfl rfl (And.intro rfl trivial)
def f_Mo_ofLog (i : MI) (x1 : Int32) (x2 : Int32) : Option (Int32) :=
  grd (((117 : Int32) + ((5 : Int32) * x1)) + x2) 2115 (some ((i 1639 (ix (((117 : Int32) + ((5 : Int32) * x1)) + x2)))))
set_option maxHeartbeats 4000000 in
theorem c_Mo_ofLog {n u : Nat} {t : MT} {i : MI} {r : MR} (s : Sh n t r) (x1 : Int32) (x2 : Int32) : Cn 1 352 [.ref 1638, .int x1, .int x2] (n, u, t, i, r) (f_Mo_ofLog i x1 x2) (F_i0 n u t i r) PT := by
  refine cn_of (Y := K_Mo_ofLog) (L0 := [.ref 1638, .int x1, .int x2]) rfl rfl rfl ?_
  intro d hd
  unfold f_Mo_ofLog
  refine ge_run (pc' := 1) (L' := [.ref 1638, .int x1, .int x2]) (S' := [.ref 1638]) 1 rfl ?_
  refine ge_getR (b := 1639) rfl (t1638 s) rfl (r1638_1 s) (Nat.le_of_ble_eq_true rfl) ?_
  refine ge_run (pc' := 9) (L' := [.ref 1638, .int x1, .int x2]) (S' := [.int (((117 : Int32) + ((5 : Int32) * x1)) + x2), .ref 1639]) 7 rfl ?_
  refine ge_grd (fun g_1 g_2 => ?_)
  refine ge_iald (jn := (ix (((117 : Int32) + ((5 : Int32) * x1)) + x2))) rfl (t1639 s) ⟨g_1, rfl⟩ g_2 ?_
  exact ge_ret rfl rfl (And.intro rfl trivial)
def f_Mo_led (i : MI) (x1 : Int32) (x2 : Int32) : Option (Int32 × MI) :=
  bnd (wr i 1638 0 (0 : Int32)) (fun i_1 => (f_Mo_noFish i_1 x1).bind (fun v_2 => (f_Mo_throwsIf i_1 v_2 (1 : Int32)).bind (fun (v_3, i_4) => if v_3 = 0 then ((itr (σ := Int32 × Int32 × Int32) (ρ := Int32 × Int32) (fun (x3_6, x4_7, x5_8) => if x5_8 < 0 then (some (.inr (x3_6, x4_7))) else ((f_Mo_ofLog i_4 x5_8 (1 : Int32)).bind (fun v_14 => (if v_14 = x1 then ((f_Mo_ofLog i_4 x5_8 (0 : Int32)).bind (fun v_18 => some ((x3_6 + (1 : Int32)), v_18))) else (some (x3_6, x4_7)) : Option (Int32 × Int32)).bind (fun (x3_15, x4_16) => some (.inl (x3_15, x4_16, (x5_8 + (-1 : Int32)))))))) 1000000 ((0 : Int32), (-1 : Int32), ((i_4 1639 9) - (1 : Int32)))).bind (fun (x3_9, x4_10) => if x2 = 0 then (some (x3_9, i_4)) else (some (x4_10, i_4)))) else (some ((0 : Int32), i_4)))))
set_option maxHeartbeats 4000000 in
theorem c_Mo_led {n u : Nat} {t : MT} {i : MI} {r : MR} (s : Sh n t r) (x1 : Int32) (x2 : Int32) : Cn 3 353 [.ref 1638, .int x1, .int x2] (n, u, t, i, r) (f_Mo_led i x1 x2) (F_i1 n u t r) PT := by
  refine cn_of (Y := K_Mo_led) (L0 := [.ref 1638, .int x1, .int x2, uV, uV, uV]) rfl rfl rfl ?_
  intro d hd
  unfold f_Mo_led
  refine ge_run (pc' := 2) (L' := [.ref 1638, .int x1, .int x2, uV, uV, uV]) (S' := [.int (0 : Int32), .ref 1638]) 2 rfl ?_
  refine ge_putI rfl (t1638 s) (Nat.le_of_ble_eq_true rfl) rfl (fun i_1 => ?_)
  refine ge_run (pc' := 6) (L' := [.ref 1638, .int x1, .int x2, uV, uV, uV]) (S' := [.int x1, .ref 1638, .ref 1638]) 3 rfl ?_
  refine ge_cv rfl rfl rfl (t1638 s) rfl rfl rfl (D := 2) (Nat.le_trans (by decide) hd) (c_Mo_noFish (n := n) (u := u) (t := t) (i := i_1) (r := r) s x1) ?_
  rintro v_2 -
  dsimp only [bkE, F_i0]
  refine ge_run (pc' := 8) (L' := [.ref 1638, .int x1, .int x2, uV, uV, uV]) (S' := [.int (1 : Int32), .int v_2, .ref 1638]) 1 rfl ?_
  refine ge_cv rfl rfl rfl (t1638 s) rfl rfl rfl (D := 1) (Nat.le_trans (by decide) hd) (c_Mo_throwsIf (n := n) (u := u) (t := t) (i := i_1) (r := r) s v_2 (1 : Int32)) ?_
  rintro ⟨v_3, i_4⟩ -
  dsimp only [bkE, F_i1]
  refine ge_eq0 rfl (fun h_5 => ?_) (fun h_22 => ?_)
  · refine ge_run (pc' := 17) (L' := [.ref 1638, .int x1, .int x2, .int (0 : Int32), .int (-1 : Int32), uV]) (S' := [.ref 1638]) 5 rfl ?_
    refine ge_getR (b := 1639) rfl (t1638 s) rfl (r1638_1 s) (Nat.le_of_ble_eq_true rfl) ?_
    refine ge_run (pc' := 19) (L' := [.ref 1638, .int x1, .int x2, .int (0 : Int32), .int (-1 : Int32), uV]) (S' := [.int (9 : Int32), .ref 1639]) 1 rfl ?_
    refine ge_iald (jn := 9) rfl (t1639 s) lk9 (by decide) ?_
    refine ge_run (pc' := 23) (L' := [.ref 1638, .int x1, .int x2, .int (0 : Int32), .int (-1 : Int32), .int ((i_4 1639 9) - (1 : Int32))]) (S' := []) 3 rfl ?_
    refine ge_bind (K1 := fun (q : Int32 × Int32) e => ∃ w_11 : Value, e = .inl (40, [.ref 1638, .int x1, .int x2, .int q.1, .int q.2, w_11], [], (n, u, t, i_4, r))) (ge_itr (C := fun (q : Int32 × Int32 × Int32) e => e = .inl (23, [.ref 1638, .int x1, .int x2, .int q.1, .int q.2.1, .int q.2.2], [], (n, u, t, i_4, r))) ?_ _ _ _ rfl) ?_
    · rintro ⟨x3_6, x4_7, x5_8⟩ _ rfl
      try dsimp only
      refine ge_run (pc' := 24) (L' := [.ref 1638, .int x1, .int x2, .int x3_6, .int x4_7, .int x5_8]) (S' := [.int x5_8]) 1 rfl ?_
      refine ge_lt0 rfl (fun h_12 => ?_) (fun h_13 => ?_)
      · exact ge_leaf (K := kX _ _) (Exists.intro _ rfl)
      · refine ge_run (pc' := 28) (L' := [.ref 1638, .int x1, .int x2, .int x3_6, .int x4_7, .int x5_8]) (S' := [.int (1 : Int32), .int x5_8, .ref 1638]) 3 rfl ?_
        refine ge_cv rfl rfl rfl (t1638 s) rfl rfl rfl (D := 1) (Nat.le_trans (by decide) hd) (c_Mo_ofLog (n := n) (u := u) (t := t) (i := i_4) (r := r) s x5_8 (1 : Int32)) ?_
        rintro v_14 -
        dsimp only [bkE, F_i0]
        refine ge_run (pc' := 30) (L' := [.ref 1638, .int x1, .int x2, .int x3_6, .int x4_7, .int x5_8]) (S' := [.int x1, .int v_14]) 1 rfl ?_
        refine ge_bind (K1 := fun (q : Int32 × Int32) e => e = .inl (38, [.ref 1638, .int x1, .int x2, .int q.1, .int q.2, .int x5_8], [], (n, u, t, i_4, r))) ?_ ?_
        · refine ge_eq rfl (fun h_17 => ?_) (fun h_19 => ?_)
          · refine ge_run (pc' := 36) (L' := [.ref 1638, .int x1, .int x2, .int (x3_6 + (1 : Int32)), .int x4_7, .int x5_8]) (S' := [.int (0 : Int32), .int x5_8, .ref 1638]) 4 rfl ?_
            refine ge_cv rfl rfl rfl (t1638 s) rfl rfl rfl (D := 1) (Nat.le_trans (by decide) hd) (c_Mo_ofLog (n := n) (u := u) (t := t) (i := i_4) (r := r) s x5_8 (0 : Int32)) ?_
            rintro v_18 -
            dsimp only [bkE, F_i0]
            refine ge_run (pc' := 38) (L' := [.ref 1638, .int x1, .int x2, .int (x3_6 + (1 : Int32)), .int v_18, .int x5_8]) (S' := []) 1 rfl ?_
            exact ge_leaf rfl
          · refine ge_run (pc' := 38) (L' := [.ref 1638, .int x1, .int x2, .int x3_6, .int x4_7, .int x5_8]) (S' := []) 1 rfl ?_
            exact ge_leaf rfl
        · rintro ⟨x3_15, x4_16⟩ _ rfl
          try dsimp only
          refine ge_run (pc' := 23) (L' := [.ref 1638, .int x1, .int x2, .int x3_15, .int x4_16, .int (x5_8 + (-1 : Int32))]) (S' := []) 2 rfl ?_
          exact ge_leaf (K := kX _ _) rfl
    · rintro ⟨x3_9, x4_10⟩ _ ⟨w_11, rfl⟩
      try dsimp only
      refine ge_run (pc' := 41) (L' := [.ref 1638, .int x1, .int x2, .int x3_9, .int x4_10, w_11]) (S' := [.int x2]) 1 rfl ?_
      refine ge_eq0 rfl (fun h_20 => ?_) (fun h_21 => ?_)
      · refine ge_run (pc' := 45) (L' := [.ref 1638, .int x1, .int x2, .int x3_9, .int x4_10, w_11]) (S' := [.int x3_9]) 1 rfl ?_
        exact ge_ret rfl rfl (And.intro rfl trivial)
      · refine ge_run (pc' := 45) (L' := [.ref 1638, .int x1, .int x2, .int x3_9, .int x4_10, w_11]) (S' := [.int x4_10]) 2 rfl ?_
        exact ge_ret rfl rfl (And.intro rfl trivial)
  · refine ge_run (pc' := 11) (L' := [.ref 1638, .int x1, .int x2, uV, uV, uV]) (S' := [.int (0 : Int32)]) 1 rfl ?_
    exact ge_ret rfl rfl (And.intro rfl trivial)
def f_Mo_log (i : MI) (x1 : Int32) (x2 : Int32) : Option (Int32 × MI) :=
  bnd (wr i 1638 0 (0 : Int32)) (fun i_1 => (f_Mo_in x2 (0 : Int32) (4 : Int32)).bind (fun v_2 => (if v_2 = 0 then (some (1 : Int32)) else (some (0 : Int32)) : Option (Int32)).bind (fun y_3 => (f_Mo_throwsIf i_1 y_3 (1 : Int32)).bind (fun (v_6, i_7) => if v_6 = 0 then ((f_Mo_in x1 (0 : Int32) ((i_7 1639 9) - (1 : Int32))).bind (fun v_9 => if v_9 = 0 then (some ((-2 : Int32), i_7)) else ((f_Mo_ofLog i_7 x1 x2).bind (fun v_12 => some (v_12, i_7))))) else (some ((0 : Int32), i_7))))))
set_option maxHeartbeats 4000000 in
theorem c_Mo_log {n u : Nat} {t : MT} {i : MI} {r : MR} (s : Sh n t r) (x1 : Int32) (x2 : Int32) : Cn 2 354 [.ref 1638, .int x1, .int x2] (n, u, t, i, r) (f_Mo_log i x1 x2) (F_i1 n u t r) PT := by
  refine cn_of (Y := K_Mo_log) (L0 := [.ref 1638, .int x1, .int x2]) rfl rfl rfl ?_
  intro d hd
  unfold f_Mo_log
  refine ge_run (pc' := 2) (L' := [.ref 1638, .int x1, .int x2]) (S' := [.int (0 : Int32), .ref 1638]) 2 rfl ?_
  refine ge_putI rfl (t1638 s) (Nat.le_of_ble_eq_true rfl) rfl (fun i_1 => ?_)
  refine ge_run (pc' := 7) (L' := [.ref 1638, .int x1, .int x2]) (S' := [.int (4 : Int32), .int (0 : Int32), .int x2, .ref 1638]) 4 rfl ?_
  refine ge_cs rfl rfl rfl rfl rfl rfl (D := 1) (Nat.le_trans (by decide) hd) (c_Mo_in (n := n) (u := u) (t := t) (i := i_1) (r := r) s x2 (0 : Int32) (4 : Int32)) ?_
  rintro v_2 -
  dsimp only [bkE, F_i0]
  refine ge_bind (K1 := fun (q : Int32) e => e = .inl (12, [.ref 1638, .int x1, .int x2], [.int q, .ref 1638], (n, u, t, i_1, r))) ?_ ?_
  · refine ge_ne0 rfl (fun h_4 => ?_) (fun h_5 => ?_)
    · refine ge_run (pc' := 12) (L' := [.ref 1638, .int x1, .int x2]) (S' := [.int (1 : Int32), .ref 1638]) 2 rfl ?_
      exact ge_leaf rfl
    · refine ge_run (pc' := 12) (L' := [.ref 1638, .int x1, .int x2]) (S' := [.int (0 : Int32), .ref 1638]) 1 rfl ?_
      exact ge_leaf rfl
  · rintro y_3 _ rfl
    try dsimp only
    refine ge_run (pc' := 13) (L' := [.ref 1638, .int x1, .int x2]) (S' := [.int (1 : Int32), .int y_3, .ref 1638]) 1 rfl ?_
    refine ge_cv rfl rfl rfl (t1638 s) rfl rfl rfl (D := 1) (Nat.le_trans (by decide) hd) (c_Mo_throwsIf (n := n) (u := u) (t := t) (i := i_1) (r := r) s y_3 (1 : Int32)) ?_
    rintro ⟨v_6, i_7⟩ -
    dsimp only [bkE, F_i1]
    refine ge_eq0 rfl (fun h_8 => ?_) (fun h_13 => ?_)
    · refine ge_run (pc' := 20) (L' := [.ref 1638, .int x1, .int x2]) (S' := [.ref 1638, .int (0 : Int32), .int x1]) 3 rfl ?_
      refine ge_getR (b := 1639) rfl (t1638 s) rfl (r1638_1 s) (Nat.le_of_ble_eq_true rfl) ?_
      refine ge_run (pc' := 22) (L' := [.ref 1638, .int x1, .int x2]) (S' := [.int (9 : Int32), .ref 1639, .int (0 : Int32), .int x1]) 1 rfl ?_
      refine ge_iald (jn := 9) rfl (t1639 s) lk9 (by decide) ?_
      refine ge_run (pc' := 25) (L' := [.ref 1638, .int x1, .int x2]) (S' := [.int ((i_7 1639 9) - (1 : Int32)), .int (0 : Int32), .int x1]) 2 rfl ?_
      refine ge_cs rfl rfl rfl rfl rfl rfl (D := 1) (Nat.le_trans (by decide) hd) (c_Mo_in (n := n) (u := u) (t := t) (i := i_7) (r := r) s x1 (0 : Int32) ((i_7 1639 9) - (1 : Int32))) ?_
      rintro v_9 -
      dsimp only [bkE, F_i0]
      refine ge_eq0 rfl (fun h_10 => ?_) (fun h_11 => ?_)
      · refine ge_run (pc' := 33) (L' := [.ref 1638, .int x1, .int x2]) (S' := [.int (-2 : Int32)]) 1 rfl ?_
        exact ge_ret rfl rfl (And.intro rfl trivial)
      · refine ge_run (pc' := 30) (L' := [.ref 1638, .int x1, .int x2]) (S' := [.int x2, .int x1, .ref 1638]) 3 rfl ?_
        refine ge_cv rfl rfl rfl (t1638 s) rfl rfl rfl (D := 1) (Nat.le_trans (by decide) hd) (c_Mo_ofLog (n := n) (u := u) (t := t) (i := i_7) (r := r) s x1 x2) ?_
        rintro v_12 -
        dsimp only [bkE, F_i0]
        refine ge_run (pc' := 33) (L' := [.ref 1638, .int x1, .int x2]) (S' := [.int v_12]) 1 rfl ?_
        exact ge_ret rfl rfl (And.intro rfl trivial)
    · refine ge_run (pc' := 16) (L' := [.ref 1638, .int x1, .int x2]) (S' := [.int (0 : Int32)]) 1 rfl ?_
      exact ge_ret rfl rfl (And.intro rfl trivial)
def f_Mo_seed (i : MI) (x1 : Int32) : Option (Int32 × MI) :=
  bnd (wr i 1638 0 (0 : Int32)) (fun i_1 => bnd (wr i_1 1639 10 x1) (fun i_2 => some ((i_1 1639 10), i_2)))
set_option maxHeartbeats 4000000 in
theorem c_Mo_seed {n u : Nat} {t : MT} {i : MI} {r : MR} (s : Sh n t r) (x1 : Int32) : Cn 1 355 [.ref 1638, .int x1] (n, u, t, i, r) (f_Mo_seed i x1) (F_i1 n u t r) PT := by
  refine cn_of (Y := K_Mo_seed) (L0 := [.ref 1638, .int x1, uV]) rfl rfl rfl ?_
  intro d hd
  unfold f_Mo_seed
  refine ge_run (pc' := 2) (L' := [.ref 1638, .int x1, uV]) (S' := [.int (0 : Int32), .ref 1638]) 2 rfl ?_
  refine ge_putI rfl (t1638 s) (Nat.le_of_ble_eq_true rfl) rfl (fun i_1 => ?_)
  refine ge_run (pc' := 4) (L' := [.ref 1638, .int x1, uV]) (S' := [.ref 1638]) 1 rfl ?_
  refine ge_getR (b := 1639) rfl (t1638 s) rfl (r1638_1 s) (Nat.le_of_ble_eq_true rfl) ?_
  refine ge_run (pc' := 6) (L' := [.ref 1638, .int x1, uV]) (S' := [.int (10 : Int32), .ref 1639]) 1 rfl ?_
  refine ge_iald (jn := 10) rfl (t1639 s) lk10 (by decide) ?_
  refine ge_run (pc' := 9) (L' := [.ref 1638, .int x1, .int (i_1 1639 10)]) (S' := [.ref 1638]) 2 rfl ?_
  refine ge_getR (b := 1639) rfl (t1638 s) rfl (r1638_1 s) (Nat.le_of_ble_eq_true rfl) ?_
  refine ge_run (pc' := 12) (L' := [.ref 1638, .int x1, .int (i_1 1639 10)]) (S' := [.int x1, .int (10 : Int32), .ref 1639]) 2 rfl ?_
  refine ge_iast (jn := 10) rfl (t1639 s) (Nat.le_of_ble_eq_true rfl) lk10 (by decide) (fun i_2 => ?_)
  refine ge_run (pc' := 14) (L' := [.ref 1638, .int x1, .int (i_1 1639 10)]) (S' := [.int (i_1 1639 10)]) 1 rfl ?_
  exact ge_ret rfl rfl (And.intro rfl trivial)
def f_Mo_count (i : MI) (x1 : Int32) : Option (Int32 × MI) :=
  bnd (wr i 1638 0 (0 : Int32)) (fun i_1 => sw x1 5 [(if (i_1 1639 5) = (1 : Int32) then (some ((i_1 1639 417), i_1)) else (some ((-1 : Int32), i_1))), ((f_Mo_in x1 (0 : Int32) (8 : Int32)).bind (fun v_6 => if v_6 = 0 then (some ((-1 : Int32), i_1)) else (grd x1 2115 (some ((i_1 1639 (ix x1)), i_1))))), ((f_Mo_in x1 (0 : Int32) (8 : Int32)).bind (fun v_12 => if v_12 = 0 then (some ((-1 : Int32), i_1)) else (grd x1 2115 (some ((i_1 1639 (ix x1)), i_1))))), ((f_Mo_in x1 (0 : Int32) (8 : Int32)).bind (fun v_18 => if v_18 = 0 then (some ((-1 : Int32), i_1)) else (grd x1 2115 (some ((i_1 1639 (ix x1)), i_1))))), ((f_Mo_moneyOfAll i_1).bind (fun v_24 => some (v_24, i_1))), (some ((i_1 1639 9), i_1)), (some ((i_1 1638 7), i_1))] (((f_Mo_in x1 (0 : Int32) (8 : Int32)).bind (fun v_28 => if v_28 = 0 then (some ((-1 : Int32), i_1)) else (grd x1 2115 (some ((i_1 1639 (ix x1)), i_1)))))))
set_option maxHeartbeats 4000000 in
theorem c_Mo_count {n u : Nat} {t : MT} {i : MI} {r : MR} (s : Sh n t r) (x1 : Int32) : Cn 4 356 [.ref 1638, .int x1] (n, u, t, i, r) (f_Mo_count i x1) (F_i1 n u t r) PT := by
  refine cn_of (Y := K_Mo_count) (L0 := [.ref 1638, .int x1]) rfl rfl rfl ?_
  intro d hd
  unfold f_Mo_count
  refine ge_run (pc' := 2) (L' := [.ref 1638, .int x1]) (S' := [.int (0 : Int32), .ref 1638]) 2 rfl ?_
  refine ge_putI rfl (t1638 s) (Nat.le_of_ble_eq_true rfl) rfl (fun i_1 => ?_)
  refine ge_run (pc' := 4) (L' := [.ref 1638, .int x1]) (S' := [.int x1]) 1 rfl ?_
  refine ge_sw rfl rfl (And.intro ?_ (And.intro ?_ (And.intro ?_ (And.intro ?_ (And.intro ?_ (And.intro ?_ (And.intro ?_ trivial))))))) ?_
  · refine ge_run (pc' := 6) (L' := [.ref 1638, .int x1]) (S' := [.ref 1638]) 1 rfl ?_
    refine ge_getR (b := 1639) rfl (t1638 s) rfl (r1638_1 s) (Nat.le_of_ble_eq_true rfl) ?_
    refine ge_run (pc' := 8) (L' := [.ref 1638, .int x1]) (S' := [.int (5 : Int32), .ref 1639]) 1 rfl ?_
    refine ge_iald (jn := 5) rfl (t1639 s) lk5 (by decide) ?_
    refine ge_run (pc' := 10) (L' := [.ref 1638, .int x1]) (S' := [.int (1 : Int32), .int (i_1 1639 5)]) 1 rfl ?_
    refine ge_ne rfl (fun h_3 => ?_) (fun h_4 => ?_)
    · refine ge_run (pc' := 12) (L' := [.ref 1638, .int x1]) (S' := [.ref 1638]) 1 rfl ?_
      refine ge_getR (b := 1639) rfl (t1638 s) rfl (r1638_1 s) (Nat.le_of_ble_eq_true rfl) ?_
      refine ge_run (pc' := 14) (L' := [.ref 1638, .int x1]) (S' := [.int (417 : Int32), .ref 1639]) 1 rfl ?_
      refine ge_iald (jn := 417) rfl (t1639 s) lk417 (by decide) ?_
      refine ge_run (pc' := 17) (L' := [.ref 1638, .int x1]) (S' := [.int (i_1 1639 417)]) 1 rfl ?_
      exact ge_ret rfl rfl (And.intro rfl trivial)
    · refine ge_run (pc' := 17) (L' := [.ref 1638, .int x1]) (S' := [.int (-1 : Int32)]) 1 rfl ?_
      exact ge_ret rfl rfl (And.intro rfl trivial)
  · refine ge_run (pc' := 32) (L' := [.ref 1638, .int x1]) (S' := [.int (8 : Int32), .int (0 : Int32), .int x1]) 3 rfl ?_
    refine ge_cs rfl rfl rfl rfl rfl rfl (D := 1) (Nat.le_trans (by decide) hd) (c_Mo_in (n := n) (u := u) (t := t) (i := i_1) (r := r) s x1 (0 : Int32) (8 : Int32)) ?_
    rintro v_6 -
    dsimp only [bkE, F_i0]
    refine ge_eq0 rfl (fun h_7 => ?_) (fun h_8 => ?_)
    · refine ge_run (pc' := 40) (L' := [.ref 1638, .int x1]) (S' := [.int (-1 : Int32)]) 1 rfl ?_
      exact ge_ret rfl rfl (And.intro rfl trivial)
    · refine ge_run (pc' := 35) (L' := [.ref 1638, .int x1]) (S' := [.ref 1638]) 1 rfl ?_
      refine ge_getR (b := 1639) rfl (t1638 s) rfl (r1638_1 s) (Nat.le_of_ble_eq_true rfl) ?_
      refine ge_run (pc' := 37) (L' := [.ref 1638, .int x1]) (S' := [.int x1, .ref 1639]) 1 rfl ?_
      refine ge_grd (fun g_9 g_10 => ?_)
      refine ge_iald (jn := (ix x1)) rfl (t1639 s) ⟨g_9, rfl⟩ g_10 ?_
      refine ge_run (pc' := 40) (L' := [.ref 1638, .int x1]) (S' := [.int (i_1 1639 (ix x1))]) 1 rfl ?_
      exact ge_ret rfl rfl (And.intro rfl trivial)
  · refine ge_run (pc' := 32) (L' := [.ref 1638, .int x1]) (S' := [.int (8 : Int32), .int (0 : Int32), .int x1]) 3 rfl ?_
    refine ge_cs rfl rfl rfl rfl rfl rfl (D := 1) (Nat.le_trans (by decide) hd) (c_Mo_in (n := n) (u := u) (t := t) (i := i_1) (r := r) s x1 (0 : Int32) (8 : Int32)) ?_
    rintro v_12 -
    dsimp only [bkE, F_i0]
    refine ge_eq0 rfl (fun h_13 => ?_) (fun h_14 => ?_)
    · refine ge_run (pc' := 40) (L' := [.ref 1638, .int x1]) (S' := [.int (-1 : Int32)]) 1 rfl ?_
      exact ge_ret rfl rfl (And.intro rfl trivial)
    · refine ge_run (pc' := 35) (L' := [.ref 1638, .int x1]) (S' := [.ref 1638]) 1 rfl ?_
      refine ge_getR (b := 1639) rfl (t1638 s) rfl (r1638_1 s) (Nat.le_of_ble_eq_true rfl) ?_
      refine ge_run (pc' := 37) (L' := [.ref 1638, .int x1]) (S' := [.int x1, .ref 1639]) 1 rfl ?_
      refine ge_grd (fun g_15 g_16 => ?_)
      refine ge_iald (jn := (ix x1)) rfl (t1639 s) ⟨g_15, rfl⟩ g_16 ?_
      refine ge_run (pc' := 40) (L' := [.ref 1638, .int x1]) (S' := [.int (i_1 1639 (ix x1))]) 1 rfl ?_
      exact ge_ret rfl rfl (And.intro rfl trivial)
  · refine ge_run (pc' := 32) (L' := [.ref 1638, .int x1]) (S' := [.int (8 : Int32), .int (0 : Int32), .int x1]) 3 rfl ?_
    refine ge_cs rfl rfl rfl rfl rfl rfl (D := 1) (Nat.le_trans (by decide) hd) (c_Mo_in (n := n) (u := u) (t := t) (i := i_1) (r := r) s x1 (0 : Int32) (8 : Int32)) ?_
    rintro v_18 -
    dsimp only [bkE, F_i0]
    refine ge_eq0 rfl (fun h_19 => ?_) (fun h_20 => ?_)
    · refine ge_run (pc' := 40) (L' := [.ref 1638, .int x1]) (S' := [.int (-1 : Int32)]) 1 rfl ?_
      exact ge_ret rfl rfl (And.intro rfl trivial)
    · refine ge_run (pc' := 35) (L' := [.ref 1638, .int x1]) (S' := [.ref 1638]) 1 rfl ?_
      refine ge_getR (b := 1639) rfl (t1638 s) rfl (r1638_1 s) (Nat.le_of_ble_eq_true rfl) ?_
      refine ge_run (pc' := 37) (L' := [.ref 1638, .int x1]) (S' := [.int x1, .ref 1639]) 1 rfl ?_
      refine ge_grd (fun g_21 g_22 => ?_)
      refine ge_iald (jn := (ix x1)) rfl (t1639 s) ⟨g_21, rfl⟩ g_22 ?_
      refine ge_run (pc' := 40) (L' := [.ref 1638, .int x1]) (S' := [.int (i_1 1639 (ix x1))]) 1 rfl ?_
      exact ge_ret rfl rfl (And.intro rfl trivial)
  · refine ge_run (pc' := 19) (L' := [.ref 1638, .int x1]) (S' := [.ref 1638]) 1 rfl ?_
    refine ge_cv rfl rfl rfl (t1638 s) rfl rfl rfl (D := 3) (Nat.le_trans (by decide) hd) (c_Mo_moneyOfAll (n := n) (u := u) (t := t) (i := i_1) (r := r) s ) ?_
    rintro v_24 -
    dsimp only [bkE, F_i0]
    exact ge_ret rfl rfl (And.intro rfl trivial)
  · refine ge_run (pc' := 22) (L' := [.ref 1638, .int x1]) (S' := [.ref 1638]) 1 rfl ?_
    refine ge_getR (b := 1639) rfl (t1638 s) rfl (r1638_1 s) (Nat.le_of_ble_eq_true rfl) ?_
    refine ge_run (pc' := 24) (L' := [.ref 1638, .int x1]) (S' := [.int (9 : Int32), .ref 1639]) 1 rfl ?_
    refine ge_iald (jn := 9) rfl (t1639 s) lk9 (by decide) ?_
    exact ge_ret rfl rfl (And.intro rfl trivial)
  · refine ge_run (pc' := 27) (L' := [.ref 1638, .int x1]) (S' := [.ref 1638]) 1 rfl ?_
    refine ge_getI rfl (t1638 s) rfl ?_
    exact ge_ret rfl rfl (And.intro rfl trivial)
  · refine ge_run (pc' := 32) (L' := [.ref 1638, .int x1]) (S' := [.int (8 : Int32), .int (0 : Int32), .int x1]) 3 rfl ?_
    refine ge_cs rfl rfl rfl rfl rfl rfl (D := 1) (Nat.le_trans (by decide) hd) (c_Mo_in (n := n) (u := u) (t := t) (i := i_1) (r := r) s x1 (0 : Int32) (8 : Int32)) ?_
    rintro v_28 -
    dsimp only [bkE, F_i0]
    refine ge_eq0 rfl (fun h_29 => ?_) (fun h_30 => ?_)
    · refine ge_run (pc' := 40) (L' := [.ref 1638, .int x1]) (S' := [.int (-1 : Int32)]) 1 rfl ?_
      exact ge_ret rfl rfl (And.intro rfl trivial)
    · refine ge_run (pc' := 35) (L' := [.ref 1638, .int x1]) (S' := [.ref 1638]) 1 rfl ?_
      refine ge_getR (b := 1639) rfl (t1638 s) rfl (r1638_1 s) (Nat.le_of_ble_eq_true rfl) ?_
      refine ge_run (pc' := 37) (L' := [.ref 1638, .int x1]) (S' := [.int x1, .ref 1639]) 1 rfl ?_
      refine ge_grd (fun g_31 g_32 => ?_)
      refine ge_iald (jn := (ix x1)) rfl (t1639 s) ⟨g_31, rfl⟩ g_32 ?_
      refine ge_run (pc' := 40) (L' := [.ref 1638, .int x1]) (S' := [.int (i_1 1639 (ix x1))]) 1 rfl ?_
      exact ge_ret rfl rfl (And.intro rfl trivial)
