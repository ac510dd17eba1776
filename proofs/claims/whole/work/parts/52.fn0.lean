/-! ===== methods as functions, part 0 (written by wip/gen/decall.py) ===== -/
def f_Se_beside (x0 : Int32) (x1 : Int32) : Option (Int32) :=
  sw x1 0 [(if 0 < (rm x0 (5 : Int32)) then (some ((x0 - (1 : Int32)))) else (some ((-1 : Int32)))), (if (rm x0 (5 : Int32)) < (4 : Int32) then (some ((x0 + (1 : Int32)))) else (some ((-1 : Int32)))), (if x0 < (5 : Int32) then (some ((-1 : Int32))) else (some ((x0 - (5 : Int32))))), (if x0 < (20 : Int32) then (some ((x0 + (5 : Int32)))) else (some ((-1 : Int32))))] ((some (x0)))
set_option maxHeartbeats 4000000 in
theorem c_Se_beside {n u : Nat} {t : MT} {i : MI} {r : MR} (s : Sh n t r) (x0 : Int32) (x1 : Int32) : Cn 1 50 [.int x0, .int x1] (n, u, t, i, r) (f_Se_beside  x0 x1) (F_i0 n u t i r) PT := by
  refine cn_of (Y := K_Se_beside) (L0 := [.int x0, .int x1, uV]) rfl rfl rfl ?_
  intro d hd
  unfold f_Se_beside
  refine ge_run (pc' := 2) (L' := [.int x0, .int x1, uV]) (S' := [.int (5 : Int32), .int x0]) 2 rfl ?_
  refine ge_rem rfl (by decide) ?_
  refine ge_run (pc' := 5) (L' := [.int x0, .int x1, .int (rm x0 (5 : Int32))]) (S' := [.int x1]) 2 rfl ?_
  refine ge_sw rfl rfl (And.intro ?_ (And.intro ?_ (And.intro ?_ (And.intro ?_ trivial)))) ?_
  · refine ge_run (pc' := 7) (L' := [.int x0, .int x1, .int (rm x0 (5 : Int32))]) (S' := [.int (rm x0 (5 : Int32))]) 1 rfl ?_
    refine ge_le0 rfl (fun h_2 => ?_) (fun h_3 => ?_)
    · refine ge_run (pc' := 13) (L' := [.int x0, .int x1, .int (rm x0 (5 : Int32))]) (S' := [.int (x0 - (1 : Int32))]) 4 rfl ?_
      exact ge_ret rfl rfl (And.intro rfl trivial)
    · refine ge_run (pc' := 13) (L' := [.int x0, .int x1, .int (rm x0 (5 : Int32))]) (S' := [.int (-1 : Int32)]) 1 rfl ?_
      exact ge_ret rfl rfl (And.intro rfl trivial)
  · refine ge_run (pc' := 16) (L' := [.int x0, .int x1, .int (rm x0 (5 : Int32))]) (S' := [.int (4 : Int32), .int (rm x0 (5 : Int32))]) 2 rfl ?_
    refine ge_ge rfl (fun h_5 => ?_) (fun h_6 => ?_)
    · refine ge_run (pc' := 22) (L' := [.int x0, .int x1, .int (rm x0 (5 : Int32))]) (S' := [.int (x0 + (1 : Int32))]) 4 rfl ?_
      exact ge_ret rfl rfl (And.intro rfl trivial)
    · refine ge_run (pc' := 22) (L' := [.int x0, .int x1, .int (rm x0 (5 : Int32))]) (S' := [.int (-1 : Int32)]) 1 rfl ?_
      exact ge_ret rfl rfl (And.intro rfl trivial)
  · refine ge_run (pc' := 25) (L' := [.int x0, .int x1, .int (rm x0 (5 : Int32))]) (S' := [.int (5 : Int32), .int x0]) 2 rfl ?_
    refine ge_lt rfl (fun h_8 => ?_) (fun h_9 => ?_)
    · refine ge_run (pc' := 31) (L' := [.int x0, .int x1, .int (rm x0 (5 : Int32))]) (S' := [.int (-1 : Int32)]) 1 rfl ?_
      exact ge_ret rfl rfl (And.intro rfl trivial)
    · refine ge_run (pc' := 31) (L' := [.int x0, .int x1, .int (rm x0 (5 : Int32))]) (S' := [.int (x0 - (5 : Int32))]) 4 rfl ?_
      exact ge_ret rfl rfl (And.intro rfl trivial)
  · refine ge_run (pc' := 34) (L' := [.int x0, .int x1, .int (rm x0 (5 : Int32))]) (S' := [.int (20 : Int32), .int x0]) 2 rfl ?_
    refine ge_ge rfl (fun h_11 => ?_) (fun h_12 => ?_)
    · refine ge_run (pc' := 40) (L' := [.int x0, .int x1, .int (rm x0 (5 : Int32))]) (S' := [.int (x0 + (5 : Int32))]) 4 rfl ?_
      exact ge_ret rfl rfl (And.intro rfl trivial)
    · refine ge_run (pc' := 40) (L' := [.int x0, .int x1, .int (rm x0 (5 : Int32))]) (S' := [.int (-1 : Int32)]) 1 rfl ?_
      exact ge_ret rfl rfl (And.intro rfl trivial)
  · refine ge_run (pc' := 42) (L' := [.int x0, .int x1, .int (rm x0 (5 : Int32))]) (S' := [.int x0]) 1 rfl ?_
    exact ge_ret rfl rfl (And.intro rfl trivial)
def f_J_bitCount (x0 : Int32) : Option (Int32) :=
  some (((((((((x0 - ((ushr x0 (1 : Int32)) &&& (1431655765 : Int32))) &&& (858993459 : Int32)) + ((ushr (x0 - ((ushr x0 (1 : Int32)) &&& (1431655765 : Int32))) (2 : Int32)) &&& (858993459 : Int32))) + (ushr (((x0 - ((ushr x0 (1 : Int32)) &&& (1431655765 : Int32))) &&& (858993459 : Int32)) + ((ushr (x0 - ((ushr x0 (1 : Int32)) &&& (1431655765 : Int32))) (2 : Int32)) &&& (858993459 : Int32))) (4 : Int32))) &&& (252645135 : Int32)) + (ushr (((((x0 - ((ushr x0 (1 : Int32)) &&& (1431655765 : Int32))) &&& (858993459 : Int32)) + ((ushr (x0 - ((ushr x0 (1 : Int32)) &&& (1431655765 : Int32))) (2 : Int32)) &&& (858993459 : Int32))) + (ushr (((x0 - ((ushr x0 (1 : Int32)) &&& (1431655765 : Int32))) &&& (858993459 : Int32)) + ((ushr (x0 - ((ushr x0 (1 : Int32)) &&& (1431655765 : Int32))) (2 : Int32)) &&& (858993459 : Int32))) (4 : Int32))) &&& (252645135 : Int32)) (8 : Int32))) + (ushr ((((((x0 - ((ushr x0 (1 : Int32)) &&& (1431655765 : Int32))) &&& (858993459 : Int32)) + ((ushr (x0 - ((ushr x0 (1 : Int32)) &&& (1431655765 : Int32))) (2 : Int32)) &&& (858993459 : Int32))) + (ushr (((x0 - ((ushr x0 (1 : Int32)) &&& (1431655765 : Int32))) &&& (858993459 : Int32)) + ((ushr (x0 - ((ushr x0 (1 : Int32)) &&& (1431655765 : Int32))) (2 : Int32)) &&& (858993459 : Int32))) (4 : Int32))) &&& (252645135 : Int32)) + (ushr (((((x0 - ((ushr x0 (1 : Int32)) &&& (1431655765 : Int32))) &&& (858993459 : Int32)) + ((ushr (x0 - ((ushr x0 (1 : Int32)) &&& (1431655765 : Int32))) (2 : Int32)) &&& (858993459 : Int32))) + (ushr (((x0 - ((ushr x0 (1 : Int32)) &&& (1431655765 : Int32))) &&& (858993459 : Int32)) + ((ushr (x0 - ((ushr x0 (1 : Int32)) &&& (1431655765 : Int32))) (2 : Int32)) &&& (858993459 : Int32))) (4 : Int32))) &&& (252645135 : Int32)) (8 : Int32))) (16 : Int32))) &&& (63 : Int32)))
set_option maxHeartbeats 4000000 in
theorem c_J_bitCount {n u : Nat} {t : MT} {i : MI} {r : MR} (s : Sh n t r) (x0 : Int32) : Cn 1 364 [.int x0] (n, u, t, i, r) (f_J_bitCount  x0) (F_i0 n u t i r) PT := by
  refine cn_of (Y := K_J_bitCount) (L0 := [.int x0]) rfl rfl rfl ?_
  intro d hd
  unfold f_J_bitCount
  refine ge_run (pc' := 41) (L' := [.int (((((((x0 - ((ushr x0 (1 : Int32)) &&& (1431655765 : Int32))) &&& (858993459 : Int32)) + ((ushr (x0 - ((ushr x0 (1 : Int32)) &&& (1431655765 : Int32))) (2 : Int32)) &&& (858993459 : Int32))) + (ushr (((x0 - ((ushr x0 (1 : Int32)) &&& (1431655765 : Int32))) &&& (858993459 : Int32)) + ((ushr (x0 - ((ushr x0 (1 : Int32)) &&& (1431655765 : Int32))) (2 : Int32)) &&& (858993459 : Int32))) (4 : Int32))) &&& (252645135 : Int32)) + (ushr (((((x0 - ((ushr x0 (1 : Int32)) &&& (1431655765 : Int32))) &&& (858993459 : Int32)) + ((ushr (x0 - ((ushr x0 (1 : Int32)) &&& (1431655765 : Int32))) (2 : Int32)) &&& (858993459 : Int32))) + (ushr (((x0 - ((ushr x0 (1 : Int32)) &&& (1431655765 : Int32))) &&& (858993459 : Int32)) + ((ushr (x0 - ((ushr x0 (1 : Int32)) &&& (1431655765 : Int32))) (2 : Int32)) &&& (858993459 : Int32))) (4 : Int32))) &&& (252645135 : Int32)) (8 : Int32))) + (ushr ((((((x0 - ((ushr x0 (1 : Int32)) &&& (1431655765 : Int32))) &&& (858993459 : Int32)) + ((ushr (x0 - ((ushr x0 (1 : Int32)) &&& (1431655765 : Int32))) (2 : Int32)) &&& (858993459 : Int32))) + (ushr (((x0 - ((ushr x0 (1 : Int32)) &&& (1431655765 : Int32))) &&& (858993459 : Int32)) + ((ushr (x0 - ((ushr x0 (1 : Int32)) &&& (1431655765 : Int32))) (2 : Int32)) &&& (858993459 : Int32))) (4 : Int32))) &&& (252645135 : Int32)) + (ushr (((((x0 - ((ushr x0 (1 : Int32)) &&& (1431655765 : Int32))) &&& (858993459 : Int32)) + ((ushr (x0 - ((ushr x0 (1 : Int32)) &&& (1431655765 : Int32))) (2 : Int32)) &&& (858993459 : Int32))) + (ushr (((x0 - ((ushr x0 (1 : Int32)) &&& (1431655765 : Int32))) &&& (858993459 : Int32)) + ((ushr (x0 - ((ushr x0 (1 : Int32)) &&& (1431655765 : Int32))) (2 : Int32)) &&& (858993459 : Int32))) (4 : Int32))) &&& (252645135 : Int32)) (8 : Int32))) (16 : Int32)))]) (S' := [.int ((((((((x0 - ((ushr x0 (1 : Int32)) &&& (1431655765 : Int32))) &&& (858993459 : Int32)) + ((ushr (x0 - ((ushr x0 (1 : Int32)) &&& (1431655765 : Int32))) (2 : Int32)) &&& (858993459 : Int32))) + (ushr (((x0 - ((ushr x0 (1 : Int32)) &&& (1431655765 : Int32))) &&& (858993459 : Int32)) + ((ushr (x0 - ((ushr x0 (1 : Int32)) &&& (1431655765 : Int32))) (2 : Int32)) &&& (858993459 : Int32))) (4 : Int32))) &&& (252645135 : Int32)) + (ushr (((((x0 - ((ushr x0 (1 : Int32)) &&& (1431655765 : Int32))) &&& (858993459 : Int32)) + ((ushr (x0 - ((ushr x0 (1 : Int32)) &&& (1431655765 : Int32))) (2 : Int32)) &&& (858993459 : Int32))) + (ushr (((x0 - ((ushr x0 (1 : Int32)) &&& (1431655765 : Int32))) &&& (858993459 : Int32)) + ((ushr (x0 - ((ushr x0 (1 : Int32)) &&& (1431655765 : Int32))) (2 : Int32)) &&& (858993459 : Int32))) (4 : Int32))) &&& (252645135 : Int32)) (8 : Int32))) + (ushr ((((((x0 - ((ushr x0 (1 : Int32)) &&& (1431655765 : Int32))) &&& (858993459 : Int32)) + ((ushr (x0 - ((ushr x0 (1 : Int32)) &&& (1431655765 : Int32))) (2 : Int32)) &&& (858993459 : Int32))) + (ushr (((x0 - ((ushr x0 (1 : Int32)) &&& (1431655765 : Int32))) &&& (858993459 : Int32)) + ((ushr (x0 - ((ushr x0 (1 : Int32)) &&& (1431655765 : Int32))) (2 : Int32)) &&& (858993459 : Int32))) (4 : Int32))) &&& (252645135 : Int32)) + (ushr (((((x0 - ((ushr x0 (1 : Int32)) &&& (1431655765 : Int32))) &&& (858993459 : Int32)) + ((ushr (x0 - ((ushr x0 (1 : Int32)) &&& (1431655765 : Int32))) (2 : Int32)) &&& (858993459 : Int32))) + (ushr (((x0 - ((ushr x0 (1 : Int32)) &&& (1431655765 : Int32))) &&& (858993459 : Int32)) + ((ushr (x0 - ((ushr x0 (1 : Int32)) &&& (1431655765 : Int32))) (2 : Int32)) &&& (858993459 : Int32))) (4 : Int32))) &&& (252645135 : Int32)) (8 : Int32))) (16 : Int32))) &&& (63 : Int32))]) 41 rfl ?_
  exact ge_ret rfl rfl (And.intro rfl trivial)
def f_Co_catchAt (i : MI) (x1 : Int32) (x2 : Int32) (x3 : Int32) : Option (Int32) :=
  (f_J_bitCount x3).bind (fun v_1 => (itr (σ := Int32 × Int32 × Int32) (ρ := Int32) (fun (x4_2, x6_3, x7_4) => if x7_4 < (8 : Int32) then (if 0 < x4_2 then ((if ((shr ((i 1603 2) &&& (x3 ^^^ (-1 : Int32))) x7_4) &&& (1 : Int32)) = 0 then (some (x4_2, x6_3)) else (grd x1 6 (grd x7_4 8 (if (i (1605 + (ix x1)) (ix x7_4)) = x2 then (some ((x4_2 + (-1 : Int32)), (x6_3 ||| (shl (1 : Int32) x7_4)))) else (some (x4_2, x6_3))))) : Option (Int32 × Int32)).bind (fun (x4_10, x6_11) => some (.inl (x4_10, x6_11, (x7_4 + (1 : Int32)))))) else (some (.inr x6_3))) else (some (.inr x6_3))) 1000000 (((i 1603 4) - v_1), (0 : Int32), (0 : Int32))).bind (fun x6_5 => some (x6_5)))
set_option maxHeartbeats 4000000 in
theorem c_Co_catchAt {n u : Nat} {t : MT} {i : MI} {r : MR} (s : Sh n t r) (x1 : Int32) (x2 : Int32) (x3 : Int32) : Cn 2 4 [.ref 1603, .int x1, .int x2, .int x3] (n, u, t, i, r) (f_Co_catchAt i x1 x2 x3) (F_i0 n u t i r) PT := by
  refine cn_of (Y := K_Co_catchAt) (L0 := [.ref 1603, .int x1, .int x2, .int x3, uV, uV, uV, uV]) rfl rfl rfl ?_
  intro d hd
  unfold f_Co_catchAt
  refine ge_run (pc' := 1) (L' := [.ref 1603, .int x1, .int x2, .int x3, uV, uV, uV, uV]) (S' := [.ref 1603]) 1 rfl ?_
  refine ge_getI rfl (t1603 s) rfl ?_
  refine ge_run (pc' := 3) (L' := [.ref 1603, .int x1, .int x2, .int x3, uV, uV, uV, uV]) (S' := [.int x3, .int (i 1603 4)]) 1 rfl ?_
  refine ge_cs rfl rfl rfl rfl rfl rfl (D := 1) (Nat.le_trans (by decide) hd) (c_J_bitCount (n := n) (u := u) (t := t) (i := i) (r := r) s x3) ?_
  rintro v_1 -
  dsimp only [bkE, F_i0]
  refine ge_run (pc' := 7) (L' := [.ref 1603, .int x1, .int x2, .int x3, .int ((i 1603 4) - v_1), uV, uV, uV]) (S' := [.ref 1603]) 3 rfl ?_
  refine ge_getI rfl (t1603 s) rfl ?_
  refine ge_run (pc' := 17) (L' := [.ref 1603, .int x1, .int x2, .int x3, .int ((i 1603 4) - v_1), .int ((i 1603 2) &&& (x3 ^^^ (-1 : Int32))), .int (0 : Int32), .int (0 : Int32)]) (S' := []) 9 rfl ?_
  refine ge_bind (K1 := fun (q : Int32) e => ∃ w_6 w_7 : Value, e = .inl (45, [.ref 1603, .int x1, .int x2, .int x3, w_6, .int ((i 1603 2) &&& (x3 ^^^ (-1 : Int32))), .int q, w_7], [], (n, u, t, i, r))) (ge_itr (C := fun (q : Int32 × Int32 × Int32) e => e = .inl (17, [.ref 1603, .int x1, .int x2, .int x3, .int q.1, .int ((i 1603 2) &&& (x3 ^^^ (-1 : Int32))), .int q.2.1, .int q.2.2], [], (n, u, t, i, r))) ?_ _ _ _ rfl) ?_
  · rintro ⟨x4_2, x6_3, x7_4⟩ _ rfl
    try dsimp only
    refine ge_run (pc' := 19) (L' := [.ref 1603, .int x1, .int x2, .int x3, .int x4_2, .int ((i 1603 2) &&& (x3 ^^^ (-1 : Int32))), .int x6_3, .int x7_4]) (S' := [.int (8 : Int32), .int x7_4]) 2 rfl ?_
    refine ge_ge rfl (fun h_8 => ?_) (fun h_21 => ?_)
    · refine ge_run (pc' := 21) (L' := [.ref 1603, .int x1, .int x2, .int x3, .int x4_2, .int ((i 1603 2) &&& (x3 ^^^ (-1 : Int32))), .int x6_3, .int x7_4]) (S' := [.int x4_2]) 1 rfl ?_
      refine ge_le0 rfl (fun h_9 => ?_) (fun h_20 => ?_)
      · refine ge_run (pc' := 27) (L' := [.ref 1603, .int x1, .int x2, .int x3, .int x4_2, .int ((i 1603 2) &&& (x3 ^^^ (-1 : Int32))), .int x6_3, .int x7_4]) (S' := [.int ((shr ((i 1603 2) &&& (x3 ^^^ (-1 : Int32))) x7_4) &&& (1 : Int32))]) 5 rfl ?_
        refine ge_bind (K1 := fun (q : Int32 × Int32) e => e = .inl (43, [.ref 1603, .int x1, .int x2, .int x3, .int q.1, .int ((i 1603 2) &&& (x3 ^^^ (-1 : Int32))), .int q.2, .int x7_4], [], (n, u, t, i, r))) ?_ ?_
        · refine ge_eq0 rfl (fun h_12 => ?_) (fun h_13 => ?_)
          · exact ge_leaf rfl
          · refine ge_run (pc' := 29) (L' := [.ref 1603, .int x1, .int x2, .int x3, .int x4_2, .int ((i 1603 2) &&& (x3 ^^^ (-1 : Int32))), .int x6_3, .int x7_4]) (S' := [.ref 1603]) 1 rfl ?_
            refine ge_getR (b := 1604) rfl (t1603 s) rfl (r1603_0 s) (Nat.le_of_ble_eq_true rfl) ?_
            refine ge_run (pc' := 31) (L' := [.ref 1603, .int x1, .int x2, .int x3, .int x4_2, .int ((i 1603 2) &&& (x3 ^^^ (-1 : Int32))), .int x6_3, .int x7_4]) (S' := [.int x1, .ref 1604]) 1 rfl ?_
            refine ge_grd (fun g_14 g_15 => ?_)
            refine ge_aald (jn := (ix x1)) (b := (1605 + (ix x1))) rfl (t1604 s) (Or.inl rfl) ⟨g_14, rfl⟩ g_15 (rowR1605 s g_15) (Nat.le_trans (Nat.le_of_ble_eq_true rfl) (Nat.le_add_right 1605 _)) ?_
            refine ge_run (pc' := 33) (L' := [.ref 1603, .int x1, .int x2, .int x3, .int x4_2, .int ((i 1603 2) &&& (x3 ^^^ (-1 : Int32))), .int x6_3, .int x7_4]) (S' := [.int x7_4, .ref (1605 + (ix x1))]) 1 rfl ?_
            refine ge_grd (fun g_16 g_17 => ?_)
            refine ge_iald (jn := (ix x7_4)) rfl (rowT1605 s g_15) ⟨g_16, rfl⟩ g_17 ?_
            refine ge_run (pc' := 35) (L' := [.ref 1603, .int x1, .int x2, .int x3, .int x4_2, .int ((i 1603 2) &&& (x3 ^^^ (-1 : Int32))), .int x6_3, .int x7_4]) (S' := [.int x2, .int (i (1605 + (ix x1)) (ix x7_4))]) 1 rfl ?_
            refine ge_ne rfl (fun h_18 => ?_) (fun h_19 => ?_)
            · refine ge_run (pc' := 43) (L' := [.ref 1603, .int x1, .int x2, .int x3, .int (x4_2 + (-1 : Int32)), .int ((i 1603 2) &&& (x3 ^^^ (-1 : Int32))), .int (x6_3 ||| (shl (1 : Int32) x7_4)), .int x7_4]) (S' := []) 7 rfl ?_
              exact ge_leaf rfl
            · exact ge_leaf rfl
        · rintro ⟨x4_10, x6_11⟩ _ rfl
          try dsimp only
          refine ge_run (pc' := 17) (L' := [.ref 1603, .int x1, .int x2, .int x3, .int x4_10, .int ((i 1603 2) &&& (x3 ^^^ (-1 : Int32))), .int x6_11, .int (x7_4 + (1 : Int32))]) (S' := []) 2 rfl ?_
          exact ge_leaf (K := kX _ _) rfl
      · exact ge_leaf (K := kX _ _) (Exists.intro _ (Exists.intro _ rfl))
    · exact ge_leaf (K := kX _ _) (Exists.intro _ (Exists.intro _ rfl))
  · rintro x6_5 _ ⟨w_6, w_7, rfl⟩
    try dsimp only
    refine ge_run (pc' := 46) (L' := [.ref 1603, .int x1, .int x2, .int x3, w_6, .int ((i 1603 2) &&& (x3 ^^^ (-1 : Int32))), .int x6_5, w_7]) (S' := [.int x6_5]) 1 rfl ?_
    exact ge_ret rfl rfl (And.intro rfl trivial)
def f_Co_sizesOf (i : MI) (x1 : Int32) : Option (Int32) :=
  (itr (σ := Int32 × Int32) (ρ := Int32) (fun (x2_1, x3_2) => if x3_2 < (8 : Int32) then (if (shr x1 x3_2) = 0 then (some (.inr x2_1)) else ((if ((shr x1 x3_2) &&& (1 : Int32)) = 0 then (some x2_1) else (grd x3_2 8 (some (x2_1 + (i 1611 (ix x3_2))))) : Option (Int32)).bind (fun x2_8 => some (.inl (x2_8, (x3_2 + (1 : Int32))))))) else (some (.inr x2_1))) 1000000 ((0 : Int32), (0 : Int32))).bind (fun x2_3 => some (x2_3))
set_option maxHeartbeats 4000000 in
theorem c_Co_sizesOf {n u : Nat} {t : MT} {i : MI} {r : MR} (s : Sh n t r) (x1 : Int32) : Cn 1 5 [.ref 1603, .int x1] (n, u, t, i, r) (f_Co_sizesOf i x1) (F_i0 n u t i r) PT := by
  refine cn_of (Y := K_Co_sizesOf) (L0 := [.ref 1603, .int x1, uV, uV]) rfl rfl rfl ?_
  intro d hd
  unfold f_Co_sizesOf
  refine ge_run (pc' := 4) (L' := [.ref 1603, .int x1, .int (0 : Int32), .int (0 : Int32)]) (S' := []) 4 rfl ?_
  refine ge_bind (K1 := fun (q : Int32) e => ∃ w_4 : Value, e = .inl (26, [.ref 1603, .int x1, .int q, w_4], [], (n, u, t, i, r))) (ge_itr (C := fun (q : Int32 × Int32) e => e = .inl (4, [.ref 1603, .int x1, .int q.1, .int q.2], [], (n, u, t, i, r))) ?_ _ _ _ rfl) ?_
  · rintro ⟨x2_1, x3_2⟩ _ rfl
    try dsimp only
    refine ge_run (pc' := 6) (L' := [.ref 1603, .int x1, .int x2_1, .int x3_2]) (S' := [.int (8 : Int32), .int x3_2]) 2 rfl ?_
    refine ge_ge rfl (fun h_5 => ?_) (fun h_13 => ?_)
    · refine ge_run (pc' := 10) (L' := [.ref 1603, .int x1, .int x2_1, .int x3_2]) (S' := [.int (shr x1 x3_2)]) 3 rfl ?_
      refine ge_eq0 rfl (fun h_6 => ?_) (fun h_7 => ?_)
      · exact ge_leaf (K := kX _ _) (Exists.intro _ rfl)
      · refine ge_run (pc' := 16) (L' := [.ref 1603, .int x1, .int x2_1, .int x3_2]) (S' := [.int ((shr x1 x3_2) &&& (1 : Int32))]) 5 rfl ?_
        refine ge_bind (K1 := fun (q : Int32) e => e = .inl (24, [.ref 1603, .int x1, .int q, .int x3_2], [], (n, u, t, i, r))) ?_ ?_
        · refine ge_eq0 rfl (fun h_9 => ?_) (fun h_10 => ?_)
          · exact ge_leaf rfl
          · refine ge_run (pc' := 19) (L' := [.ref 1603, .int x1, .int x2_1, .int x3_2]) (S' := [.ref 1603, .int x2_1]) 2 rfl ?_
            refine ge_getR (b := 1611) rfl (t1603 s) rfl (r1603_1 s) (Nat.le_of_ble_eq_true rfl) ?_
            refine ge_run (pc' := 21) (L' := [.ref 1603, .int x1, .int x2_1, .int x3_2]) (S' := [.int x3_2, .ref 1611, .int x2_1]) 1 rfl ?_
            refine ge_grd (fun g_11 g_12 => ?_)
            refine ge_iald (jn := (ix x3_2)) rfl (t1611 s) ⟨g_11, rfl⟩ g_12 ?_
            refine ge_run (pc' := 24) (L' := [.ref 1603, .int x1, .int (x2_1 + (i 1611 (ix x3_2))), .int x3_2]) (S' := []) 2 rfl ?_
            exact ge_leaf rfl
        · rintro x2_8 _ rfl
          try dsimp only
          refine ge_run (pc' := 4) (L' := [.ref 1603, .int x1, .int x2_8, .int (x3_2 + (1 : Int32))]) (S' := []) 2 rfl ?_
          exact ge_leaf (K := kX _ _) rfl
    · exact ge_leaf (K := kX _ _) (Exists.intro _ rfl)
  · rintro x2_3 _ ⟨w_4, rfl⟩
    try dsimp only
    refine ge_run (pc' := 27) (L' := [.ref 1603, .int x1, .int x2_3, w_4]) (S' := [.int x2_3]) 1 rfl ?_
    exact ge_ret rfl rfl (And.intro rfl trivial)
def fb_Co_mostFrom (R_Co_mostFrom : MI → Int32 → Int32 → Int32 → Option (Int32 × MI)) (R_Co_mostBy : MI → Int32 → Int32 → Int32 → Option (Int32 × MI)) (i : MI) (x1 : Int32) (x2 : Int32) (x3 : Int32) : Option (Int32 × MI) :=
  if x1 < (i 1603 3) then ((itr (σ := Int32 × Int32 × MI) (ρ := Int32 × MI) (fun (x4_2, x5_3, i_4) => if (4 : Int32) < x5_3 then (some (.inr (x4_2, i_4))) else ((f_Se_beside x2 x5_3).bind (fun v_14 => (if v_14 = (-1 : Int32) then (some ((-1 : Int32), i_4)) else ((R_Co_mostBy i_4 (x1 + (1 : Int32)) v_14 x3).bind (fun (v_19, i_20) => some (v_19, i_20))) : Option (Int32 × MI)).bind (fun (y_15, i_16) => (if x4_2 < y_15 then (if x1 = 0 then (bnd (wr i_16 1603 6 x5_3) (fun i_25 => some (y_15, i_25))) else (some (y_15, i_16))) else (some (x4_2, i_16)) : Option (Int32 × MI)).bind (fun (x4_21, i_22) => some (.inl (x4_21, (x5_3 + (1 : Int32)), i_22))))))) 1000000 ((-1 : Int32), (0 : Int32), i)).bind (fun (x4_7, i_8) => some (x4_7, i_8))) else (some ((0 : Int32), i))
set_option maxHeartbeats 4000000 in
theorem cb_Co_mostFrom {DR : Nat} {R_Co_mostFrom : MI → Int32 → Int32 → Int32 → Option (Int32 × MI)} {R_Co_mostBy : MI → Int32 → Int32 → Int32 → Option (Int32 × MI)} (hR_Co_mostFrom : ∀ {n u : Nat} {t : MT} {i : MI} {r : MR} (s : Sh n t r) (x1 : Int32) (x2 : Int32) (x3 : Int32), Cn DR 2 [.ref 1603, .int x1, .int x2, .int x3] (n, u, t, i, r) (R_Co_mostFrom i x1 x2 x3) (F_i1 n u t r) PT) (hR_Co_mostBy : ∀ {n u : Nat} {t : MT} {i : MI} {r : MR} (s : Sh n t r) (x1 : Int32) (x2 : Int32) (x3 : Int32), Cn DR 3 [.ref 1603, .int x1, .int x2, .int x3] (n, u, t, i, r) (R_Co_mostBy i x1 x2 x3) (F_i1 n u t r) PT) {n u : Nat} {t : MT} {i : MI} {r : MR} (s : Sh n t r) (x1 : Int32) (x2 : Int32) (x3 : Int32) : Cn (DR + 2 + 1) 2 [.ref 1603, .int x1, .int x2, .int x3] (n, u, t, i, r) (fb_Co_mostFrom R_Co_mostFrom R_Co_mostBy i x1 x2 x3) (F_i1 n u t r) PT := by
  refine cn_of (Y := K_Co_mostFrom) (L0 := [.ref 1603, .int x1, .int x2, .int x3, uV, uV, uV, uV]) rfl rfl rfl ?_
  intro d hd
  unfold fb_Co_mostFrom
  refine ge_run (pc' := 2) (L' := [.ref 1603, .int x1, .int x2, .int x3, uV, uV, uV, uV]) (S' := [.ref 1603, .int x1]) 2 rfl ?_
  refine ge_getI rfl (t1603 s) rfl ?_
  refine ge_lt rfl (fun h_1 => ?_) (fun h_28 => ?_)
  · refine ge_run (pc' := 10) (L' := [.ref 1603, .int x1, .int x2, .int x3, .int (-1 : Int32), .int (0 : Int32), uV, uV]) (S' := []) 4 rfl ?_
    refine ge_bind (K1 := fun (q : Int32 × MI) e => ∃ w_9 w_10 w_11 : Value, e = .inl (42, [.ref 1603, .int x1, .int x2, .int x3, .int q.1, w_9, w_10, w_11], [], (n, u, t, q.2, r))) (ge_itr (C := fun (q : Int32 × Int32 × MI) e => ∃ w_5 w_6 : Value, e = .inl (10, [.ref 1603, .int x1, .int x2, .int x3, .int q.1, .int q.2.1, w_5, w_6], [], (n, u, t, q.2.2, r))) ?_ _ _ _ (Exists.intro _ (Exists.intro _ rfl))) ?_
    · rintro ⟨x4_2, x5_3, i_4⟩ _ ⟨w_5, w_6, rfl⟩
      try dsimp only
      refine ge_run (pc' := 12) (L' := [.ref 1603, .int x1, .int x2, .int x3, .int x4_2, .int x5_3, w_5, w_6]) (S' := [.int (4 : Int32), .int x5_3]) 2 rfl ?_
      refine ge_gt rfl (fun h_12 => ?_) (fun h_13 => ?_)
      · exact ge_leaf (K := kX _ _) (Exists.intro _ (Exists.intro _ (Exists.intro _ rfl)))
      · refine ge_run (pc' := 15) (L' := [.ref 1603, .int x1, .int x2, .int x3, .int x4_2, .int x5_3, w_5, w_6]) (S' := [.int x5_3, .int x2]) 2 rfl ?_
        refine ge_cs rfl rfl rfl rfl rfl rfl (D := 1) (by omega) (c_Se_beside (n := n) (u := u) (t := t) (i := i_4) (r := r) s x2 x5_3) ?_
        rintro v_14 -
        dsimp only [bkE, F_i0]
        refine ge_run (pc' := 19) (L' := [.ref 1603, .int x1, .int x2, .int x3, .int x4_2, .int x5_3, .int v_14, w_6]) (S' := [.int (-1 : Int32), .int v_14]) 3 rfl ?_
        refine ge_bind (K1 := fun (q : Int32 × MI) e => e = .inl (29, [.ref 1603, .int x1, .int x2, .int x3, .int x4_2, .int x5_3, .int v_14, w_6], [.int q.1], (n, u, t, q.2, r))) ?_ ?_
        · refine ge_ne rfl (fun h_17 => ?_) (fun h_18 => ?_)
          · refine ge_run (pc' := 29) (L' := [.ref 1603, .int x1, .int x2, .int x3, .int x4_2, .int x5_3, .int v_14, w_6]) (S' := [.int (-1 : Int32)]) 2 rfl ?_
            exact ge_leaf rfl
          · refine ge_run (pc' := 28) (L' := [.ref 1603, .int x1, .int x2, .int x3, .int x4_2, .int x5_3, .int v_14, w_6]) (S' := [.int x3, .int v_14, .int (x1 + (1 : Int32)), .ref 1603]) 6 rfl ?_
            refine ge_cv rfl rfl rfl (t1603 s) rfl rfl rfl (D := DR) (by omega) (hR_Co_mostBy (n := n) (u := u) (t := t) (i := i_4) (r := r) s (x1 + (1 : Int32)) v_14 x3) ?_
            rintro ⟨v_19, i_20⟩ -
            dsimp only [bkE, F_i1]
            exact ge_leaf rfl
        · rintro ⟨y_15, i_16⟩ _ rfl
          try dsimp only
          refine ge_run (pc' := 32) (L' := [.ref 1603, .int x1, .int x2, .int x3, .int x4_2, .int x5_3, .int v_14, .int y_15]) (S' := [.int x4_2, .int y_15]) 3 rfl ?_
          refine ge_bind (K1 := fun (q : Int32 × MI) e => e = .inl (40, [.ref 1603, .int x1, .int x2, .int x3, .int q.1, .int x5_3, .int v_14, .int y_15], [], (n, u, t, q.2, r))) ?_ ?_
          · refine ge_le rfl (fun h_23 => ?_) (fun h_27 => ?_)
            · refine ge_run (pc' := 36) (L' := [.ref 1603, .int x1, .int x2, .int x3, .int y_15, .int x5_3, .int v_14, .int y_15]) (S' := [.int x1]) 3 rfl ?_
              refine ge_ne0 rfl (fun h_24 => ?_) (fun h_26 => ?_)
              · refine ge_run (pc' := 39) (L' := [.ref 1603, .int x1, .int x2, .int x3, .int y_15, .int x5_3, .int v_14, .int y_15]) (S' := [.int x5_3, .ref 1603]) 2 rfl ?_
                refine ge_putI rfl (t1603 s) (Nat.le_of_ble_eq_true rfl) rfl (fun i_25 => ?_)
                exact ge_leaf rfl
              · exact ge_leaf rfl
            · exact ge_leaf rfl
          · rintro ⟨x4_21, i_22⟩ _ rfl
            try dsimp only
            refine ge_run (pc' := 10) (L' := [.ref 1603, .int x1, .int x2, .int x3, .int x4_21, .int (x5_3 + (1 : Int32)), .int v_14, .int y_15]) (S' := []) 2 rfl ?_
            exact ge_leaf (K := kX _ _) (Exists.intro _ (Exists.intro _ rfl))
    · rintro ⟨x4_7, i_8⟩ _ ⟨w_9, w_10, w_11, rfl⟩
      try dsimp only
      refine ge_run (pc' := 43) (L' := [.ref 1603, .int x1, .int x2, .int x3, .int x4_7, w_9, w_10, w_11]) (S' := [.int x4_7]) 1 rfl ?_
      exact ge_ret rfl rfl (And.intro rfl trivial)
  · refine ge_run (pc' := 5) (L' := [.ref 1603, .int x1, .int x2, .int x3, uV, uV, uV, uV]) (S' := [.int (0 : Int32)]) 1 rfl ?_
    exact ge_ret rfl rfl (And.intro rfl trivial)
def fb_Co_mostBy (R_Co_mostFrom : MI → Int32 → Int32 → Int32 → Option (Int32 × MI)) (R_Co_mostBy : MI → Int32 → Int32 → Int32 → Option (Int32 × MI)) (i : MI) (x1 : Int32) (x2 : Int32) (x3 : Int32) : Option (Int32 × MI) :=
  (f_Co_catchAt i x1 x2 x3).bind (fun v_1 => (f_Co_sizesOf i v_1).bind (fun v_2 => (R_Co_mostFrom i x1 x2 (x3 ||| v_1)).bind (fun (v_3, i_4) => some ((v_2 + v_3), i_4))))
set_option maxHeartbeats 4000000 in
theorem cb_Co_mostBy {DR : Nat} {R_Co_mostFrom : MI → Int32 → Int32 → Int32 → Option (Int32 × MI)} {R_Co_mostBy : MI → Int32 → Int32 → Int32 → Option (Int32 × MI)} (hR_Co_mostFrom : ∀ {n u : Nat} {t : MT} {i : MI} {r : MR} (s : Sh n t r) (x1 : Int32) (x2 : Int32) (x3 : Int32), Cn DR 2 [.ref 1603, .int x1, .int x2, .int x3] (n, u, t, i, r) (R_Co_mostFrom i x1 x2 x3) (F_i1 n u t r) PT) (hR_Co_mostBy : ∀ {n u : Nat} {t : MT} {i : MI} {r : MR} (s : Sh n t r) (x1 : Int32) (x2 : Int32) (x3 : Int32), Cn DR 3 [.ref 1603, .int x1, .int x2, .int x3] (n, u, t, i, r) (R_Co_mostBy i x1 x2 x3) (F_i1 n u t r) PT) {n u : Nat} {t : MT} {i : MI} {r : MR} (s : Sh n t r) (x1 : Int32) (x2 : Int32) (x3 : Int32) : Cn (DR + 2 + 1) 3 [.ref 1603, .int x1, .int x2, .int x3] (n, u, t, i, r) (fb_Co_mostBy R_Co_mostFrom R_Co_mostBy i x1 x2 x3) (F_i1 n u t r) PT := by
  refine cn_of (Y := K_Co_mostBy) (L0 := [.ref 1603, .int x1, .int x2, .int x3, uV]) rfl rfl rfl ?_
  intro d hd
  unfold fb_Co_mostBy
  refine ge_run (pc' := 4) (L' := [.ref 1603, .int x1, .int x2, .int x3, uV]) (S' := [.int x3, .int x2, .int x1, .ref 1603]) 4 rfl ?_
  refine ge_cv rfl rfl rfl (t1603 s) rfl rfl rfl (D := 2) (by omega) (c_Co_catchAt (n := n) (u := u) (t := t) (i := i) (r := r) s x1 x2 x3) ?_
  rintro v_1 -
  dsimp only [bkE, F_i0]
  refine ge_run (pc' := 8) (L' := [.ref 1603, .int x1, .int x2, .int x3, .int v_1]) (S' := [.int v_1, .ref 1603]) 3 rfl ?_
  refine ge_cv rfl rfl rfl (t1603 s) rfl rfl rfl (D := 1) (by omega) (c_Co_sizesOf (n := n) (u := u) (t := t) (i := i) (r := r) s v_1) ?_
  rintro v_2 -
  dsimp only [bkE, F_i0]
  refine ge_run (pc' := 15) (L' := [.ref 1603, .int x1, .int x2, .int x3, .int v_1]) (S' := [.int (x3 ||| v_1), .int x2, .int x1, .ref 1603, .int v_2]) 6 rfl ?_
  refine ge_cv rfl rfl rfl (t1603 s) rfl rfl rfl (D := DR) (by omega) (hR_Co_mostFrom (n := n) (u := u) (t := t) (i := i) (r := r) s x1 x2 (x3 ||| v_1)) ?_
  rintro ⟨v_3, i_4⟩ -
  dsimp only [bkE, F_i1]
  refine ge_run (pc' := 17) (L' := [.ref 1603, .int x1, .int x2, .int x3, .int v_1]) (S' := [.int (v_2 + v_3)]) 1 rfl ?_
  exact ge_ret rfl rfl (And.intro rfl trivial)
def fx_Co : Nat → ((MI → Int32 → Int32 → Int32 → Option (Int32 × MI)) × (MI → Int32 → Int32 → Int32 → Option (Int32 × MI)))
  | 0 => ((fun _ _ _ _ => none), (fun _ _ _ _ => none))
  | k + 1 => (fb_Co_mostFrom ((fx_Co k).1) ((fx_Co k).2), fb_Co_mostBy ((fx_Co k).1) ((fx_Co k).2))
set_option maxHeartbeats 4000000 in
theorem cx_Co : ∀ k : Nat, (∀ {n u : Nat} {t : MT} {i : MI} {r : MR} (s : Sh n t r) (x1 : Int32) (x2 : Int32) (x3 : Int32), Cn (k * 3) 2 [.ref 1603, .int x1, .int x2, .int x3] (n, u, t, i, r) ((fx_Co k).1 i x1 x2 x3) (F_i1 n u t r) PT) ∧ (∀ {n u : Nat} {t : MT} {i : MI} {r : MR} (s : Sh n t r) (x1 : Int32) (x2 : Int32) (x3 : Int32), Cn (k * 3) 3 [.ref 1603, .int x1, .int x2, .int x3] (n, u, t, i, r) ((fx_Co k).2 i x1 x2 x3) (F_i1 n u t r) PT)
  | 0 => ⟨(by intros; exact cn_none), (by intros; exact cn_none)⟩
  | k + 1 => by
    have ih := cx_Co k
    have e : (k + 1) * 3 = k * 3 + 2 + 1 := by omega
    rw [e]
    exact ⟨cb_Co_mostFrom ih.1 ih.2, cb_Co_mostBy ih.1 ih.2⟩
def f_Co_mostFrom (i : MI) (x1 : Int32) (x2 : Int32) (x3 : Int32) : Option (Int32 × MI) := (fx_Co 12).1 i x1 x2 x3
set_option maxHeartbeats 4000000 in
theorem c_Co_mostFrom {n u : Nat} {t : MT} {i : MI} {r : MR} (s : Sh n t r) (x1 : Int32) (x2 : Int32) (x3 : Int32) : Cn 36 2 [.ref 1603, .int x1, .int x2, .int x3] (n, u, t, i, r) (f_Co_mostFrom i x1 x2 x3) (F_i1 n u t r) PT := (cx_Co 12).1 s x1 x2 x3
def f_Co_mostBy (i : MI) (x1 : Int32) (x2 : Int32) (x3 : Int32) : Option (Int32 × MI) := (fx_Co 12).2 i x1 x2 x3
set_option maxHeartbeats 4000000 in
theorem c_Co_mostBy {n u : Nat} {t : MT} {i : MI} {r : MR} (s : Sh n t r) (x1 : Int32) (x2 : Int32) (x3 : Int32) : Cn 36 3 [.ref 1603, .int x1, .int x2, .int x3] (n, u, t, i, r) (f_Co_mostBy i x1 x2 x3) (F_i1 n u t r) PT := (cx_Co 12).2 s x1 x2 x3
def f_Se_drift (i : MI) (a : Nat) (x1 : Int32) : Option (Int32) :=
  if x1 < 0 then (some (x1)) else (if x1 < (25 : Int32) then (grd x1 25 ((f_Se_beside x1 (i (a + 1) (ix x1))).bind (fun v_6 => if v_6 = (-1 : Int32) then (some (x1)) else (some (v_6))))) else (some (x1)))
set_option maxHeartbeats 4000000 in
theorem c_Se_drift {n u : Nat} {t : MT} {i : MI} {r : MR} (s : Sh n t r) (a : Nat) (ha : SeaAd a) (x1 : Int32) : Cn 2 52 [.ref a, .int x1] (n, u, t, i, r) (f_Se_drift i a x1) (F_i0 n u t i r) PT := by
  refine cn_of (Y := K_Se_drift) (L0 := [.ref a, .int x1, uV]) rfl rfl rfl ?_
  intro d hd
  unfold f_Se_drift
  refine ge_run (pc' := 1) (L' := [.ref a, .int x1, uV]) (S' := [.int x1]) 1 rfl ?_
  refine ge_lt0 rfl (fun h_1 => ?_) (fun h_2 => ?_)
  · refine ge_run (pc' := 6) (L' := [.ref a, .int x1, uV]) (S' := [.int x1]) 1 rfl ?_
    exact ge_ret rfl rfl (And.intro rfl trivial)
  · refine ge_run (pc' := 4) (L' := [.ref a, .int x1, uV]) (S' := [.int (25 : Int32), .int x1]) 2 rfl ?_
    refine ge_lt rfl (fun h_3 => ?_) (fun h_9 => ?_)
    · refine ge_run (pc' := 9) (L' := [.ref a, .int x1, uV]) (S' := [.ref a, .int x1]) 2 rfl ?_
      refine ge_getR (b := (a + 1)) rfl (sT0 s ha) rfl (sR0 s ha) (sge ha) ?_
      refine ge_run (pc' := 11) (L' := [.ref a, .int x1, uV]) (S' := [.int x1, .ref (a + 1), .int x1]) 1 rfl ?_
      refine ge_grd (fun g_4 g_5 => ?_)
      refine ge_iald (jn := (ix x1)) rfl (sT1 s ha) ⟨g_4, rfl⟩ g_5 ?_
      refine ge_cs rfl rfl rfl rfl rfl rfl (D := 1) (Nat.le_trans (by decide) hd) (c_Se_beside (n := n) (u := u) (t := t) (i := i) (r := r) s x1 (i (a + 1) (ix x1))) ?_
      rintro v_6 -
      dsimp only [bkE, F_i0]
      refine ge_run (pc' := 16) (L' := [.ref a, .int x1, .int v_6]) (S' := [.int (-1 : Int32), .int v_6]) 3 rfl ?_
      refine ge_ne rfl (fun h_7 => ?_) (fun h_8 => ?_)
      · refine ge_run (pc' := 20) (L' := [.ref a, .int x1, .int v_6]) (S' := [.int x1]) 2 rfl ?_
        exact ge_ret rfl rfl (And.intro rfl trivial)
      · refine ge_run (pc' := 20) (L' := [.ref a, .int x1, .int v_6]) (S' := [.int v_6]) 1 rfl ?_
        exact ge_ret rfl rfl (And.intro rfl trivial)
    · refine ge_run (pc' := 6) (L' := [.ref a, .int x1, uV]) (S' := [.int x1]) 1 rfl ?_
      exact ge_ret rfl rfl (And.intro rfl trivial)
def f_Se_placed (i : MI) (a : Nat) (x1 : Int32) : Option (Int32) :=
  (itr (σ := Int32 × Int32) (ρ := Int32) (fun (x2_1, x3_2) => if x3_2 < (i a 7) then (grd x3_2 8 ((if (i (a + 3 + (ix x3_2)) 3) = x1 then (some (x2_1 ||| (shl (1 : Int32) x3_2))) else (some x2_1) : Option (Int32)).bind (fun x2_8 => some (.inl (x2_8, (x3_2 + (1 : Int32))))))) else (some (.inr x2_1))) 1000000 ((0 : Int32), (0 : Int32))).bind (fun x2_3 => some (x2_3))
set_option maxHeartbeats 4000000 in
theorem c_Se_placed {n u : Nat} {t : MT} {i : MI} {r : MR} (s : Sh n t r) (a : Nat) (ha : SeaAd a) (x1 : Int32) : Cn 1 55 [.ref a, .int x1] (n, u, t, i, r) (f_Se_placed i a x1) (F_i0 n u t i r) PT := by
  refine cn_of (Y := K_Se_placed) (L0 := [.ref a, .int x1, uV, uV]) rfl rfl rfl ?_
  intro d hd
  unfold f_Se_placed
  refine ge_run (pc' := 4) (L' := [.ref a, .int x1, .int (0 : Int32), .int (0 : Int32)]) (S' := []) 4 rfl ?_
  refine ge_bind (K1 := fun (q : Int32) e => ∃ w_4 : Value, e = .inl (24, [.ref a, .int x1, .int q, w_4], [], (n, u, t, i, r))) (ge_itr (C := fun (q : Int32 × Int32) e => e = .inl (4, [.ref a, .int x1, .int q.1, .int q.2], [], (n, u, t, i, r))) ?_ _ _ _ rfl) ?_
  · rintro ⟨x2_1, x3_2⟩ _ rfl
    try dsimp only
    refine ge_run (pc' := 6) (L' := [.ref a, .int x1, .int x2_1, .int x3_2]) (S' := [.ref a, .int x3_2]) 2 rfl ?_
    refine ge_getI rfl (sT0 s ha) rfl ?_
    refine ge_ge rfl (fun h_5 => ?_) (fun h_11 => ?_)
    · refine ge_run (pc' := 9) (L' := [.ref a, .int x1, .int x2_1, .int x3_2]) (S' := [.ref a]) 1 rfl ?_
      refine ge_getR (b := (a + 2)) rfl (sT0 s ha) rfl (sR1 s ha) (sge ha) ?_
      refine ge_run (pc' := 11) (L' := [.ref a, .int x1, .int x2_1, .int x3_2]) (S' := [.int x3_2, .ref (a + 2)]) 1 rfl ?_
      refine ge_grd (fun g_6 g_7 => ?_)
      refine ge_aald (jn := (ix x3_2)) (b := (a + 3 + (ix x3_2))) rfl (sT2 s ha) (Or.inl rfl) ⟨g_6, rfl⟩ g_7 (sRr_fish s ha g_7) (sge2 ha) ?_
      refine ge_run (pc' := 13) (L' := [.ref a, .int x1, .int x2_1, .int x3_2]) (S' := [.int (3 : Int32), .ref (a + 3 + (ix x3_2))]) 1 rfl ?_
      refine ge_iald (jn := 3) rfl (sRow_fish s ha g_7) lk3 (by decide) ?_
      refine ge_run (pc' := 15) (L' := [.ref a, .int x1, .int x2_1, .int x3_2]) (S' := [.int x1, .int (i (a + 3 + (ix x3_2)) 3)]) 1 rfl ?_
      refine ge_bind (K1 := fun (q : Int32) e => e = .inl (22, [.ref a, .int x1, .int q, .int x3_2], [], (n, u, t, i, r))) ?_ ?_
      · refine ge_ne rfl (fun h_9 => ?_) (fun h_10 => ?_)
        · refine ge_run (pc' := 22) (L' := [.ref a, .int x1, .int (x2_1 ||| (shl (1 : Int32) x3_2)), .int x3_2]) (S' := []) 6 rfl ?_
          exact ge_leaf rfl
        · exact ge_leaf rfl
      · rintro x2_8 _ rfl
        try dsimp only
        refine ge_run (pc' := 4) (L' := [.ref a, .int x1, .int x2_8, .int (x3_2 + (1 : Int32))]) (S' := []) 2 rfl ?_
        exact ge_leaf (K := kX _ _) rfl
    · exact ge_leaf (K := kX _ _) (Exists.intro _ rfl)
  · rintro x2_3 _ ⟨w_4, rfl⟩
    try dsimp only
    refine ge_run (pc' := 25) (L' := [.ref a, .int x1, .int x2_3, w_4]) (S' := [.int x2_3]) 1 rfl ?_
    exact ge_ret rfl rfl (And.intro rfl trivial)
def f_Se_aboard (i : MI) (a : Nat) (x1 : Int32) : Option (Int32) :=
  (itr (σ := Int32 × Int32) (ρ := Int32) (fun (x2_1, x3_2) => if x3_2 < (i a 7) then (grd x3_2 8 ((if (i (a + 3 + (ix x3_2)) 3) = (1 : Int32) then (if (i (a + 3 + (ix x3_2)) 5) = x1 then (some (x2_1 ||| (shl (1 : Int32) x3_2))) else (some x2_1)) else (some x2_1) : Option (Int32)).bind (fun x2_8 => some (.inl (x2_8, (x3_2 + (1 : Int32))))))) else (some (.inr x2_1))) 1000000 ((0 : Int32), (0 : Int32))).bind (fun x2_3 => some (x2_3))
set_option maxHeartbeats 4000000 in
theorem c_Se_aboard {n u : Nat} {t : MT} {i : MI} {r : MR} (s : Sh n t r) (a : Nat) (ha : SeaAd a) (x1 : Int32) : Cn 1 56 [.ref a, .int x1] (n, u, t, i, r) (f_Se_aboard i a x1) (F_i0 n u t i r) PT := by
  refine cn_of (Y := K_Se_aboard) (L0 := [.ref a, .int x1, uV, uV]) rfl rfl rfl ?_
  intro d hd
  unfold f_Se_aboard
  refine ge_run (pc' := 4) (L' := [.ref a, .int x1, .int (0 : Int32), .int (0 : Int32)]) (S' := []) 4 rfl ?_
  refine ge_bind (K1 := fun (q : Int32) e => ∃ w_4 : Value, e = .inl (32, [.ref a, .int x1, .int q, w_4], [], (n, u, t, i, r))) (ge_itr (C := fun (q : Int32 × Int32) e => e = .inl (4, [.ref a, .int x1, .int q.1, .int q.2], [], (n, u, t, i, r))) ?_ _ _ _ rfl) ?_
  · rintro ⟨x2_1, x3_2⟩ _ rfl
    try dsimp only
    refine ge_run (pc' := 6) (L' := [.ref a, .int x1, .int x2_1, .int x3_2]) (S' := [.ref a, .int x3_2]) 2 rfl ?_
    refine ge_getI rfl (sT0 s ha) rfl ?_
    refine ge_ge rfl (fun h_5 => ?_) (fun h_13 => ?_)
    · refine ge_run (pc' := 9) (L' := [.ref a, .int x1, .int x2_1, .int x3_2]) (S' := [.ref a]) 1 rfl ?_
      refine ge_getR (b := (a + 2)) rfl (sT0 s ha) rfl (sR1 s ha) (sge ha) ?_
      refine ge_run (pc' := 11) (L' := [.ref a, .int x1, .int x2_1, .int x3_2]) (S' := [.int x3_2, .ref (a + 2)]) 1 rfl ?_
      refine ge_grd (fun g_6 g_7 => ?_)
      refine ge_aald (jn := (ix x3_2)) (b := (a + 3 + (ix x3_2))) rfl (sT2 s ha) (Or.inl rfl) ⟨g_6, rfl⟩ g_7 (sRr_fish s ha g_7) (sge2 ha) ?_
      refine ge_run (pc' := 13) (L' := [.ref a, .int x1, .int x2_1, .int x3_2]) (S' := [.int (3 : Int32), .ref (a + 3 + (ix x3_2))]) 1 rfl ?_
      refine ge_iald (jn := 3) rfl (sRow_fish s ha g_7) lk3 (by decide) ?_
      refine ge_run (pc' := 15) (L' := [.ref a, .int x1, .int x2_1, .int x3_2]) (S' := [.int (1 : Int32), .int (i (a + 3 + (ix x3_2)) 3)]) 1 rfl ?_
      refine ge_bind (K1 := fun (q : Int32) e => e = .inl (30, [.ref a, .int x1, .int q, .int x3_2], [], (n, u, t, i, r))) ?_ ?_
      · refine ge_ne rfl (fun h_9 => ?_) (fun h_12 => ?_)
        · refine ge_run (pc' := 17) (L' := [.ref a, .int x1, .int x2_1, .int x3_2]) (S' := [.ref a]) 1 rfl ?_
          refine ge_getR (b := (a + 2)) rfl (sT0 s ha) rfl (sR1 s ha) (sge ha) ?_
          refine ge_run (pc' := 19) (L' := [.ref a, .int x1, .int x2_1, .int x3_2]) (S' := [.int x3_2, .ref (a + 2)]) 1 rfl ?_
          refine ge_aald (jn := (ix x3_2)) (b := (a + 3 + (ix x3_2))) rfl (sT2 s ha) (Or.inl rfl) ⟨g_6, rfl⟩ g_7 (sRr_fish s ha g_7) (sge2 ha) ?_
          refine ge_run (pc' := 21) (L' := [.ref a, .int x1, .int x2_1, .int x3_2]) (S' := [.int (5 : Int32), .ref (a + 3 + (ix x3_2))]) 1 rfl ?_
          refine ge_iald (jn := 5) rfl (sRow_fish s ha g_7) lk5 (by decide) ?_
          refine ge_run (pc' := 23) (L' := [.ref a, .int x1, .int x2_1, .int x3_2]) (S' := [.int x1, .int (i (a + 3 + (ix x3_2)) 5)]) 1 rfl ?_
          refine ge_ne rfl (fun h_10 => ?_) (fun h_11 => ?_)
          · refine ge_run (pc' := 30) (L' := [.ref a, .int x1, .int (x2_1 ||| (shl (1 : Int32) x3_2)), .int x3_2]) (S' := []) 6 rfl ?_
            exact ge_leaf rfl
          · exact ge_leaf rfl
        · exact ge_leaf rfl
      · rintro x2_8 _ rfl
        try dsimp only
        refine ge_run (pc' := 4) (L' := [.ref a, .int x1, .int x2_8, .int (x3_2 + (1 : Int32))]) (S' := []) 2 rfl ?_
        exact ge_leaf (K := kX _ _) rfl
    · exact ge_leaf (K := kX _ _) (Exists.intro _ rfl)
  · rintro x2_3 _ ⟨w_4, rfl⟩
    try dsimp only
    refine ge_run (pc' := 33) (L' := [.ref a, .int x1, .int x2_3, w_4]) (S' := [.int x2_3]) 1 rfl ?_
    exact ge_ret rfl rfl (And.intro rfl trivial)
def f_J_min (x0 : Int32) (x1 : Int32) : Option (Int32) :=
  if x1 < x0 then (some (x1)) else (some (x0))
set_option maxHeartbeats 4000000 in
theorem c_J_min {n u : Nat} {t : MT} {i : MI} {r : MR} (s : Sh n t r) (x0 : Int32) (x1 : Int32) : Cn 1 368 [.int x0, .int x1] (n, u, t, i, r) (f_J_min  x0 x1) (F_i0 n u t i r) PT := by
  refine cn_of (Y := K_J_min) (L0 := [.int x0, .int x1]) rfl rfl rfl ?_
  intro d hd
  unfold f_J_min
  refine ge_run (pc' := 2) (L' := [.int x0, .int x1]) (S' := [.int x1, .int x0]) 2 rfl ?_
  refine ge_gt rfl (fun h_1 => ?_) (fun h_2 => ?_)
  · refine ge_run (pc' := 6) (L' := [.int x0, .int x1]) (S' := [.int x1]) 1 rfl ?_
    exact ge_ret rfl rfl (And.intro rfl trivial)
  · refine ge_run (pc' := 6) (L' := [.int x0, .int x1]) (S' := [.int x0]) 2 rfl ?_
    exact ge_ret rfl rfl (And.intro rfl trivial)
def f_Co_plan (i : MI) (b1 : Nat) (x2 : Int32) (x3 : Int32) : Option (MI) :=
  (f_J_min x3 (5 : Int32)).bind (fun v_1 => bnd (wr i 1603 3 v_1) (fun i_2 => grd x2 3 ((f_Se_aboard i_2 b1 x2).bind (fun v_5 => (f_J_bitCount v_5).bind (fun v_6 => bnd (wr i_2 1603 4 ((i_2 (b1 + 12 + (ix x2)) 2) - v_6)) (fun i_7 => (f_Se_placed i_7 b1 (0 : Int32)).bind (fun v_8 => bnd (wr i_7 1603 2 v_8) (fun i_9 => (itr (σ := Int32 × MI) (ρ := MI) (fun (x4_10, i_11) => if x4_10 < (i_11 b1 7) then (grd x4_10 8 (bnd (wr i_11 1611 (ix x4_10) (i_11 (b1 + 3 + (ix x4_10)) 1)) (fun i_19 => bnd (wr i_19 (1605 + 0) (ix x4_10) (i_19 (b1 + 3 + (ix x4_10)) 4)) (fun i_20 => (itr (σ := Int32 × MI) (ρ := MI) (fun (x5_21, i_22) => if (5 : Int32) < x5_21 then (some (.inr i_22)) else (grd x5_21 6 (grd (x5_21 - (1 : Int32)) 6 (grd x4_10 8 ((f_Se_drift i_22 b1 (i_22 (1605 + (ix (x5_21 - (1 : Int32)))) (ix x4_10))).bind (fun v_33 => bnd (wr i_22 (1605 + (ix x5_21)) (ix x4_10) v_33) (fun i_34 => some (.inl ((x5_21 + (1 : Int32)), i_34))))))))) 1000000 ((1 : Int32), i_20)).bind (fun i_23 => some (.inl ((x4_10 + (1 : Int32)), i_23))))))) else (some (.inr i_11))) 1000000 ((0 : Int32), i_9)).bind (fun i_13 => bnd (wr i_13 1603 6 (-1 : Int32)) (fun i_36 => (f_Co_mostFrom i_36 (0 : Int32) (i_36 (b1 + 12 + (ix x2)) 0) (0 : Int32)).bind (fun (v_37, i_38) => bnd (wr i_38 1603 5 v_37) (fun i_39 => some i_39))))))))))))
set_option maxHeartbeats 4000000 in
theorem c_Co_plan {n u : Nat} {t : MT} {i : MI} {r : MR} (s : Sh n t r) (b1 : Nat) (hb1 : SeaAd b1) (x2 : Int32) (x3 : Int32) : Cn 37 1 [.ref 1603, .ref b1, .int x2, .int x3] (n, u, t, i, r) (f_Co_plan i b1 x2 x3) (F_v1 n u t r) PT := by
  refine cn_of (Y := K_Co_plan) (L0 := [.ref 1603, .ref b1, .int x2, .int x3, uV, uV]) rfl rfl rfl ?_
  intro d hd
  unfold f_Co_plan
  refine ge_run (pc' := 3) (L' := [.ref 1603, .ref b1, .int x2, .int x3, uV, uV]) (S' := [.int (5 : Int32), .int x3, .ref 1603]) 3 rfl ?_
  refine ge_cs rfl rfl rfl rfl rfl rfl (D := 1) (Nat.le_trans (by decide) hd) (c_J_min (n := n) (u := u) (t := t) (i := i) (r := r) s x3 (5 : Int32)) ?_
  rintro v_1 -
  dsimp only [bkE, F_i0]
  refine ge_putI rfl (t1603 s) (Nat.le_of_ble_eq_true rfl) rfl (fun i_2 => ?_)
  refine ge_run (pc' := 7) (L' := [.ref 1603, .ref b1, .int x2, .int x3, uV, uV]) (S' := [.ref b1, .ref 1603]) 2 rfl ?_
  refine ge_getR (b := (b1 + 11)) rfl (sT0 s hb1) rfl (sR2 s hb1) (sge hb1) ?_
  refine ge_run (pc' := 9) (L' := [.ref 1603, .ref b1, .int x2, .int x3, uV, uV]) (S' := [.int x2, .ref (b1 + 11), .ref 1603]) 1 rfl ?_
  refine ge_grd (fun g_3 g_4 => ?_)
  refine ge_aald (jn := (ix x2)) (b := (b1 + 12 + (ix x2))) rfl (sT11 s hb1) (Or.inl rfl) ⟨g_3, rfl⟩ g_4 (sRr_boat s hb1 g_4) (sge2 hb1) ?_
  refine ge_run (pc' := 11) (L' := [.ref 1603, .ref b1, .int x2, .int x3, uV, uV]) (S' := [.int (2 : Int32), .ref (b1 + 12 + (ix x2)), .ref 1603]) 1 rfl ?_
  refine ge_iald (jn := 2) rfl (sRow_boat s hb1 g_4) lk2 (by decide) ?_
  refine ge_run (pc' := 14) (L' := [.ref 1603, .ref b1, .int x2, .int x3, uV, uV]) (S' := [.int x2, .ref b1, .int (i_2 (b1 + 12 + (ix x2)) 2), .ref 1603]) 2 rfl ?_
  refine ge_cv rfl rfl rfl (sT0 s hb1) rfl rfl rfl (D := 1) (Nat.le_trans (by decide) hd) (c_Se_aboard (n := n) (u := u) (t := t) (i := i_2) (r := r) s b1 hb1 x2) ?_
  rintro v_5 -
  dsimp only [bkE, F_i0]
  refine ge_cs rfl rfl rfl rfl rfl rfl (D := 1) (Nat.le_trans (by decide) hd) (c_J_bitCount (n := n) (u := u) (t := t) (i := i_2) (r := r) s v_5) ?_
  rintro v_6 -
  dsimp only [bkE, F_i0]
  refine ge_run (pc' := 17) (L' := [.ref 1603, .ref b1, .int x2, .int x3, uV, uV]) (S' := [.int ((i_2 (b1 + 12 + (ix x2)) 2) - v_6), .ref 1603]) 1 rfl ?_
  refine ge_putI rfl (t1603 s) (Nat.le_of_ble_eq_true rfl) rfl (fun i_7 => ?_)
  refine ge_run (pc' := 21) (L' := [.ref 1603, .ref b1, .int x2, .int x3, uV, uV]) (S' := [.int (0 : Int32), .ref b1, .ref 1603]) 3 rfl ?_
  refine ge_cv rfl rfl rfl (sT0 s hb1) rfl rfl rfl (D := 1) (Nat.le_trans (by decide) hd) (c_Se_placed (n := n) (u := u) (t := t) (i := i_7) (r := r) s b1 hb1 (0 : Int32)) ?_
  rintro v_8 -
  dsimp only [bkE, F_i0]
  refine ge_putI rfl (t1603 s) (Nat.le_of_ble_eq_true rfl) rfl (fun i_9 => ?_)
  refine ge_run (pc' := 25) (L' := [.ref 1603, .ref b1, .int x2, .int x3, .int (0 : Int32), uV]) (S' := []) 2 rfl ?_
  refine ge_bind (K1 := fun (q : MI) e => ∃ w_14 w_15 : Value, e = .inl (76, [.ref 1603, .ref b1, .int x2, .int x3, w_14, w_15], [], (n, u, t, q, r))) (ge_itr (C := fun (q : Int32 × MI) e => ∃ w_12 : Value, e = .inl (25, [.ref 1603, .ref b1, .int x2, .int x3, .int q.1, w_12], [], (n, u, t, q.2, r))) ?_ _ _ _ (Exists.intro _ rfl)) ?_
  · rintro ⟨x4_10, i_11⟩ _ ⟨w_12, rfl⟩
    try dsimp only
    refine ge_run (pc' := 27) (L' := [.ref 1603, .ref b1, .int x2, .int x3, .int x4_10, w_12]) (S' := [.ref b1, .int x4_10]) 2 rfl ?_
    refine ge_getI rfl (sT0 s hb1) rfl ?_
    refine ge_ge rfl (fun h_16 => ?_) (fun h_35 => ?_)
    · refine ge_run (pc' := 30) (L' := [.ref 1603, .ref b1, .int x2, .int x3, .int x4_10, w_12]) (S' := [.ref 1603]) 1 rfl ?_
      refine ge_getR (b := 1611) rfl (t1603 s) rfl (r1603_1 s) (Nat.le_of_ble_eq_true rfl) ?_
      refine ge_run (pc' := 33) (L' := [.ref 1603, .ref b1, .int x2, .int x3, .int x4_10, w_12]) (S' := [.ref b1, .int x4_10, .ref 1611]) 2 rfl ?_
      refine ge_getR (b := (b1 + 2)) rfl (sT0 s hb1) rfl (sR1 s hb1) (sge hb1) ?_
      refine ge_run (pc' := 35) (L' := [.ref 1603, .ref b1, .int x2, .int x3, .int x4_10, w_12]) (S' := [.int x4_10, .ref (b1 + 2), .int x4_10, .ref 1611]) 1 rfl ?_
      refine ge_grd (fun g_17 g_18 => ?_)
      refine ge_aald (jn := (ix x4_10)) (b := (b1 + 3 + (ix x4_10))) rfl (sT2 s hb1) (Or.inl rfl) ⟨g_17, rfl⟩ g_18 (sRr_fish s hb1 g_18) (sge2 hb1) ?_
      refine ge_run (pc' := 37) (L' := [.ref 1603, .ref b1, .int x2, .int x3, .int x4_10, w_12]) (S' := [.int (1 : Int32), .ref (b1 + 3 + (ix x4_10)), .int x4_10, .ref 1611]) 1 rfl ?_
      refine ge_iald (jn := 1) rfl (sRow_fish s hb1 g_18) lk1 (by decide) ?_
      refine ge_iast (jn := (ix x4_10)) rfl (t1611 s) (Nat.le_of_ble_eq_true rfl) ⟨g_17, rfl⟩ g_18 (fun i_19 => ?_)
      refine ge_run (pc' := 40) (L' := [.ref 1603, .ref b1, .int x2, .int x3, .int x4_10, w_12]) (S' := [.ref 1603]) 1 rfl ?_
      refine ge_getR (b := 1604) rfl (t1603 s) rfl (r1603_0 s) (Nat.le_of_ble_eq_true rfl) ?_
      refine ge_run (pc' := 42) (L' := [.ref 1603, .ref b1, .int x2, .int x3, .int x4_10, w_12]) (S' := [.int (0 : Int32), .ref 1604]) 1 rfl ?_
      refine ge_aald (jn := 0) (b := (1605 + 0)) rfl (t1604 s) (Or.inl rfl) lk0 (by decide) (rowR1605 s (by decide)) (Nat.le_trans (Nat.le_of_ble_eq_true rfl) (Nat.le_add_right 1605 _)) ?_
      refine ge_run (pc' := 45) (L' := [.ref 1603, .ref b1, .int x2, .int x3, .int x4_10, w_12]) (S' := [.ref b1, .int x4_10, .ref (1605 + 0)]) 2 rfl ?_
      refine ge_getR (b := (b1 + 2)) rfl (sT0 s hb1) rfl (sR1 s hb1) (sge hb1) ?_
      refine ge_run (pc' := 47) (L' := [.ref 1603, .ref b1, .int x2, .int x3, .int x4_10, w_12]) (S' := [.int x4_10, .ref (b1 + 2), .int x4_10, .ref (1605 + 0)]) 1 rfl ?_
      refine ge_aald (jn := (ix x4_10)) (b := (b1 + 3 + (ix x4_10))) rfl (sT2 s hb1) (Or.inl rfl) ⟨g_17, rfl⟩ g_18 (sRr_fish s hb1 g_18) (sge2 hb1) ?_
      refine ge_run (pc' := 49) (L' := [.ref 1603, .ref b1, .int x2, .int x3, .int x4_10, w_12]) (S' := [.int (4 : Int32), .ref (b1 + 3 + (ix x4_10)), .int x4_10, .ref (1605 + 0)]) 1 rfl ?_
      refine ge_iald (jn := 4) rfl (sRow_fish s hb1 g_18) lk4 (by decide) ?_
      refine ge_iast (jn := (ix x4_10)) rfl (rowT1605 s (by decide)) (Nat.le_trans (Nat.le_of_ble_eq_true rfl) (Nat.le_add_right 1605 _)) ⟨g_17, rfl⟩ g_18 (fun i_20 => ?_)
      refine ge_run (pc' := 53) (L' := [.ref 1603, .ref b1, .int x2, .int x3, .int x4_10, .int (1 : Int32)]) (S' := []) 2 rfl ?_
      refine ge_bind (K1 := fun (q : MI) e => ∃ w_24 : Value, e = .inl (74, [.ref 1603, .ref b1, .int x2, .int x3, .int x4_10, w_24], [], (n, u, t, q, r))) (ge_itr (C := fun (q : Int32 × MI) e => e = .inl (53, [.ref 1603, .ref b1, .int x2, .int x3, .int x4_10, .int q.1], [], (n, u, t, q.2, r))) ?_ _ _ _ rfl) ?_
      · rintro ⟨x5_21, i_22⟩ _ rfl
        try dsimp only
        refine ge_run (pc' := 55) (L' := [.ref 1603, .ref b1, .int x2, .int x3, .int x4_10, .int x5_21]) (S' := [.int (5 : Int32), .int x5_21]) 2 rfl ?_
        refine ge_gt rfl (fun h_25 => ?_) (fun h_26 => ?_)
        · exact ge_leaf (K := kX _ _) (Exists.intro _ rfl)
        · refine ge_run (pc' := 57) (L' := [.ref 1603, .ref b1, .int x2, .int x3, .int x4_10, .int x5_21]) (S' := [.ref 1603]) 1 rfl ?_
          refine ge_getR (b := 1604) rfl (t1603 s) rfl (r1603_0 s) (Nat.le_of_ble_eq_true rfl) ?_
          refine ge_run (pc' := 59) (L' := [.ref 1603, .ref b1, .int x2, .int x3, .int x4_10, .int x5_21]) (S' := [.int x5_21, .ref 1604]) 1 rfl ?_
          refine ge_grd (fun g_27 g_28 => ?_)
          refine ge_aald (jn := (ix x5_21)) (b := (1605 + (ix x5_21))) rfl (t1604 s) (Or.inl rfl) ⟨g_27, rfl⟩ g_28 (rowR1605 s g_28) (Nat.le_trans (Nat.le_of_ble_eq_true rfl) (Nat.le_add_right 1605 _)) ?_
          refine ge_run (pc' := 63) (L' := [.ref 1603, .ref b1, .int x2, .int x3, .int x4_10, .int x5_21]) (S' := [.ref 1603, .ref b1, .int x4_10, .ref (1605 + (ix x5_21))]) 3 rfl ?_
          refine ge_getR (b := 1604) rfl (t1603 s) rfl (r1603_0 s) (Nat.le_of_ble_eq_true rfl) ?_
          refine ge_run (pc' := 67) (L' := [.ref 1603, .ref b1, .int x2, .int x3, .int x4_10, .int x5_21]) (S' := [.int (x5_21 - (1 : Int32)), .ref 1604, .ref b1, .int x4_10, .ref (1605 + (ix x5_21))]) 3 rfl ?_
          refine ge_grd (fun g_29 g_30 => ?_)
          refine ge_aald (jn := (ix (x5_21 - (1 : Int32)))) (b := (1605 + (ix (x5_21 - (1 : Int32))))) rfl (t1604 s) (Or.inl rfl) ⟨g_29, rfl⟩ g_30 (rowR1605 s g_30) (Nat.le_trans (Nat.le_of_ble_eq_true rfl) (Nat.le_add_right 1605 _)) ?_
          refine ge_run (pc' := 69) (L' := [.ref 1603, .ref b1, .int x2, .int x3, .int x4_10, .int x5_21]) (S' := [.int x4_10, .ref (1605 + (ix (x5_21 - (1 : Int32)))), .ref b1, .int x4_10, .ref (1605 + (ix x5_21))]) 1 rfl ?_
          refine ge_grd (fun g_31 g_32 => ?_)
          refine ge_iald (jn := (ix x4_10)) rfl (rowT1605 s g_30) ⟨g_31, rfl⟩ g_32 ?_
          refine ge_cv rfl rfl rfl (sT0 s hb1) rfl rfl rfl (D := 2) (Nat.le_trans (by decide) hd) (c_Se_drift (n := n) (u := u) (t := t) (i := i_22) (r := r) s b1 hb1 (i_22 (1605 + (ix (x5_21 - (1 : Int32)))) (ix x4_10))) ?_
          rintro v_33 -
          dsimp only [bkE, F_i0]
          refine ge_iast (jn := (ix x4_10)) rfl (rowT1605 s g_28) (Nat.le_trans (Nat.le_of_ble_eq_true rfl) (Nat.le_add_right 1605 _)) ⟨g_31, rfl⟩ g_32 (fun i_34 => ?_)
          refine ge_run (pc' := 53) (L' := [.ref 1603, .ref b1, .int x2, .int x3, .int x4_10, .int (x5_21 + (1 : Int32))]) (S' := []) 2 rfl ?_
          exact ge_leaf (K := kX _ _) rfl
      · rintro i_23 _ ⟨w_24, rfl⟩
        try dsimp only
        refine ge_run (pc' := 25) (L' := [.ref 1603, .ref b1, .int x2, .int x3, .int (x4_10 + (1 : Int32)), w_24]) (S' := []) 2 rfl ?_
        exact ge_leaf (K := kX _ _) (Exists.intro _ rfl)
    · exact ge_leaf (K := kX _ _) (Exists.intro _ (Exists.intro _ rfl))
  · rintro i_13 _ ⟨w_14, w_15, rfl⟩
    try dsimp only
    refine ge_run (pc' := 78) (L' := [.ref 1603, .ref b1, .int x2, .int x3, w_14, w_15]) (S' := [.int (-1 : Int32), .ref 1603]) 2 rfl ?_
    refine ge_putI rfl (t1603 s) (Nat.le_of_ble_eq_true rfl) rfl (fun i_36 => ?_)
    refine ge_run (pc' := 83) (L' := [.ref 1603, .ref b1, .int x2, .int x3, w_14, w_15]) (S' := [.ref b1, .int (0 : Int32), .ref 1603, .ref 1603]) 4 rfl ?_
    refine ge_getR (b := (b1 + 11)) rfl (sT0 s hb1) rfl (sR2 s hb1) (sge hb1) ?_
    refine ge_run (pc' := 85) (L' := [.ref 1603, .ref b1, .int x2, .int x3, w_14, w_15]) (S' := [.int x2, .ref (b1 + 11), .int (0 : Int32), .ref 1603, .ref 1603]) 1 rfl ?_
    refine ge_aald (jn := (ix x2)) (b := (b1 + 12 + (ix x2))) rfl (sT11 s hb1) (Or.inl rfl) ⟨g_3, rfl⟩ g_4 (sRr_boat s hb1 g_4) (sge2 hb1) ?_
    refine ge_run (pc' := 87) (L' := [.ref 1603, .ref b1, .int x2, .int x3, w_14, w_15]) (S' := [.int (0 : Int32), .ref (b1 + 12 + (ix x2)), .int (0 : Int32), .ref 1603, .ref 1603]) 1 rfl ?_
    refine ge_iald (jn := 0) rfl (sRow_boat s hb1 g_4) lk0 (by decide) ?_
    refine ge_run (pc' := 89) (L' := [.ref 1603, .ref b1, .int x2, .int x3, w_14, w_15]) (S' := [.int (0 : Int32), .int (i_36 (b1 + 12 + (ix x2)) 0), .int (0 : Int32), .ref 1603, .ref 1603]) 1 rfl ?_
    refine ge_cv rfl rfl rfl (t1603 s) rfl rfl rfl (D := 36) (Nat.le_trans (by decide) hd) (c_Co_mostFrom (n := n) (u := u) (t := t) (i := i_36) (r := r) s (0 : Int32) (i_36 (b1 + 12 + (ix x2)) 0) (0 : Int32)) ?_
    rintro ⟨v_37, i_38⟩ -
    dsimp only [bkE, F_i1]
    refine ge_putI rfl (t1603 s) (Nat.le_of_ble_eq_true rfl) rfl (fun i_39 => ?_)
    exact ge_retv rfl rfl (And.intro rfl trivial)
def f_Co_turnsFrom (r : MR) (i : MI) (x1 : Int32) (x2 : Int32) : Option (Int32) :=
  if 0 < x1 then (if x1 < (34 : Int32) then (grd ((x1 * (4 : Int32)) + x2) 136 ((f_J_min (99 : Int32) ((1 : Int32) + (i (r 1603 7) (ix ((x1 * (4 : Int32)) + x2))))).bind (fun v_5 => some (v_5)))) else (some ((99 : Int32)))) else (some ((1 : Int32)))
set_option maxHeartbeats 4000000 in
theorem c_Co_turnsFrom {n u : Nat} {t : MT} {i : MI} {r : MR} (s : Sh n t r) (x1 : Int32) (x2 : Int32) : Cn 2 9 [.ref 1603, .int x1, .int x2] (n, u, t, i, r) (f_Co_turnsFrom r i x1 x2) (F_i0 n u t i r) PT := by
  refine cn_of (Y := K_Co_turnsFrom) (L0 := [.ref 1603, .int x1, .int x2]) rfl rfl rfl ?_
  intro d hd
  unfold f_Co_turnsFrom
  refine ge_run (pc' := 1) (L' := [.ref 1603, .int x1, .int x2]) (S' := [.int x1]) 1 rfl ?_
  refine ge_gt0 rfl (fun h_1 => ?_) (fun h_7 => ?_)
  · refine ge_run (pc' := 6) (L' := [.ref 1603, .int x1, .int x2]) (S' := [.int (34 : Int32), .int x1]) 2 rfl ?_
    refine ge_ge rfl (fun h_2 => ?_) (fun h_6 => ?_)
    · refine ge_run (pc' := 10) (L' := [.ref 1603, .int x1, .int x2]) (S' := [.ref 1603, .int (1 : Int32), .int (99 : Int32)]) 3 rfl ?_
      refine ge_getR (b := (r 1603 7)) rfl (t1603 s) rfl rfl (crsG7 s) ?_
      refine ge_run (pc' := 16) (L' := [.ref 1603, .int x1, .int x2]) (S' := [.int ((x1 * (4 : Int32)) + x2), .ref (r 1603 7), .int (1 : Int32), .int (99 : Int32)]) 5 rfl ?_
      refine ge_grd (fun g_3 g_4 => ?_)
      refine ge_iald (jn := (ix ((x1 * (4 : Int32)) + x2))) rfl (crsT7 s) ⟨g_3, rfl⟩ g_4 ?_
      refine ge_run (pc' := 18) (L' := [.ref 1603, .int x1, .int x2]) (S' := [.int ((1 : Int32) + (i (r 1603 7) (ix ((x1 * (4 : Int32)) + x2)))), .int (99 : Int32)]) 1 rfl ?_
      refine ge_cs rfl rfl rfl rfl rfl rfl (D := 1) (Nat.le_trans (by decide) hd) (c_J_min (n := n) (u := u) (t := t) (i := i) (r := r) s (99 : Int32) ((1 : Int32) + (i (r 1603 7) (ix ((x1 * (4 : Int32)) + x2))))) ?_
      rintro v_5 -
      dsimp only [bkE, F_i0]
      refine ge_run (pc' := 21) (L' := [.ref 1603, .int x1, .int x2]) (S' := [.int v_5]) 1 rfl ?_
      exact ge_ret rfl rfl (And.intro rfl trivial)
    · refine ge_run (pc' := 21) (L' := [.ref 1603, .int x1, .int x2]) (S' := [.int (99 : Int32)]) 1 rfl ?_
      exact ge_ret rfl rfl (And.intro rfl trivial)
  · refine ge_run (pc' := 3) (L' := [.ref 1603, .int x1, .int x2]) (S' := [.int (1 : Int32)]) 1 rfl ?_
    exact ge_ret rfl rfl (And.intro rfl trivial)
def f_Co_skipperGoes (r : MR) (i : MI) (x1 : Int32) (x2 : Int32) : Option (Int32) :=
  (f_Co_turnsFrom r i (x1 - (1 : Int32)) (x2 &&& (2 : Int32))).bind (fun v_1 => if (x2 &&& (1 : Int32)) = 0 then ((f_Co_turnsFrom r i (x1 - (3 : Int32)) ((x2 &&& (2 : Int32)) ||| (1 : Int32))).bind (fun v_3 => (f_J_min v_1 v_3).bind (fun v_4 => some (v_4)))) else (some (v_1)))
set_option maxHeartbeats 4000000 in
theorem c_Co_skipperGoes {n u : Nat} {t : MT} {i : MI} {r : MR} (s : Sh n t r) (x1 : Int32) (x2 : Int32) : Cn 3 8 [.ref 1603, .int x1, .int x2] (n, u, t, i, r) (f_Co_skipperGoes r i x1 x2) (F_i0 n u t i r) PT := by
  refine cn_of (Y := K_Co_skipperGoes) (L0 := [.ref 1603, .int x1, .int x2, uV]) rfl rfl rfl ?_
  intro d hd
  unfold f_Co_skipperGoes
  refine ge_run (pc' := 7) (L' := [.ref 1603, .int x1, .int x2, uV]) (S' := [.int (x2 &&& (2 : Int32)), .int (x1 - (1 : Int32)), .ref 1603]) 7 rfl ?_
  refine ge_cv rfl rfl rfl (t1603 s) rfl rfl rfl (D := 2) (Nat.le_trans (by decide) hd) (c_Co_turnsFrom (n := n) (u := u) (t := t) (i := i) (r := r) s (x1 - (1 : Int32)) (x2 &&& (2 : Int32))) ?_
  rintro v_1 -
  dsimp only [bkE, F_i0]
  refine ge_run (pc' := 12) (L' := [.ref 1603, .int x1, .int x2, .int v_1]) (S' := [.int (x2 &&& (1 : Int32))]) 4 rfl ?_
  refine ge_eq0 rfl (fun h_2 => ?_) (fun h_5 => ?_)
  · refine ge_run (pc' := 25) (L' := [.ref 1603, .int x1, .int x2, .int v_1]) (S' := [.int ((x2 &&& (2 : Int32)) ||| (1 : Int32)), .int (x1 - (3 : Int32)), .ref 1603, .int v_1]) 10 rfl ?_
    refine ge_cv rfl rfl rfl (t1603 s) rfl rfl rfl (D := 2) (Nat.le_trans (by decide) hd) (c_Co_turnsFrom (n := n) (u := u) (t := t) (i := i) (r := r) s (x1 - (3 : Int32)) ((x2 &&& (2 : Int32)) ||| (1 : Int32))) ?_
    rintro v_3 -
    dsimp only [bkE, F_i0]
    refine ge_cs rfl rfl rfl rfl rfl rfl (D := 1) (Nat.le_trans (by decide) hd) (c_J_min (n := n) (u := u) (t := t) (i := i) (r := r) s v_1 v_3) ?_
    rintro v_4 -
    dsimp only [bkE, F_i0]
    exact ge_ret rfl rfl (And.intro rfl trivial)
  · refine ge_run (pc' := 27) (L' := [.ref 1603, .int x1, .int x2, .int v_1]) (S' := [.int v_1]) 2 rfl ?_
    exact ge_ret rfl rfl (And.intro rfl trivial)
def f_J_max (x0 : Int32) (x1 : Int32) : Option (Int32) :=
  if x0 < x1 then (some (x1)) else (some (x0))
set_option maxHeartbeats 4000000 in
theorem c_J_max {n u : Nat} {t : MT} {i : MI} {r : MR} (s : Sh n t r) (x0 : Int32) (x1 : Int32) : Cn 1 367 [.int x0, .int x1] (n, u, t, i, r) (f_J_max  x0 x1) (F_i0 n u t i r) PT := by
  refine cn_of (Y := K_J_max) (L0 := [.int x0, .int x1]) rfl rfl rfl ?_
  intro d hd
  unfold f_J_max
  refine ge_run (pc' := 2) (L' := [.int x0, .int x1]) (S' := [.int x1, .int x0]) 2 rfl ?_
  refine ge_lt rfl (fun h_1 => ?_) (fun h_2 => ?_)
  · refine ge_run (pc' := 6) (L' := [.int x0, .int x1]) (S' := [.int x1]) 1 rfl ?_
    exact ge_ret rfl rfl (And.intro rfl trivial)
  · refine ge_run (pc' := 6) (L' := [.int x0, .int x1]) (S' := [.int x0]) 2 rfl ?_
    exact ge_ret rfl rfl (And.intro rfl trivial)
def f_Co_schoolGoes (r : MR) (i : MI) (x1 : Int32) (x2 : Int32) : Option (Int32) :=
  (f_Co_skipperGoes r i (x1 + (1 : Int32)) (x2 &&& (1 : Int32))).bind (fun v_1 => if (x2 &&& (2 : Int32)) = 0 then ((f_Co_skipperGoes r i (x1 + (2 : Int32)) ((x2 &&& (1 : Int32)) ||| (2 : Int32))).bind (fun v_3 => (f_J_max v_1 v_3).bind (fun v_4 => some (v_4)))) else (some (v_1)))
set_option maxHeartbeats 4000000 in
theorem c_Co_schoolGoes {n u : Nat} {t : MT} {i : MI} {r : MR} (s : Sh n t r) (x1 : Int32) (x2 : Int32) : Cn 4 7 [.ref 1603, .int x1, .int x2] (n, u, t, i, r) (f_Co_schoolGoes r i x1 x2) (F_i0 n u t i r) PT := by
  refine cn_of (Y := K_Co_schoolGoes) (L0 := [.ref 1603, .int x1, .int x2, uV]) rfl rfl rfl ?_
  intro d hd
  unfold f_Co_schoolGoes
  refine ge_run (pc' := 7) (L' := [.ref 1603, .int x1, .int x2, uV]) (S' := [.int (x2 &&& (1 : Int32)), .int (x1 + (1 : Int32)), .ref 1603]) 7 rfl ?_
  refine ge_cv rfl rfl rfl (t1603 s) rfl rfl rfl (D := 3) (Nat.le_trans (by decide) hd) (c_Co_skipperGoes (n := n) (u := u) (t := t) (i := i) (r := r) s (x1 + (1 : Int32)) (x2 &&& (1 : Int32))) ?_
  rintro v_1 -
  dsimp only [bkE, F_i0]
  refine ge_run (pc' := 12) (L' := [.ref 1603, .int x1, .int x2, .int v_1]) (S' := [.int (x2 &&& (2 : Int32))]) 4 rfl ?_
  refine ge_eq0 rfl (fun h_2 => ?_) (fun h_5 => ?_)
  · refine ge_run (pc' := 25) (L' := [.ref 1603, .int x1, .int x2, .int v_1]) (S' := [.int ((x2 &&& (1 : Int32)) ||| (2 : Int32)), .int (x1 + (2 : Int32)), .ref 1603, .int v_1]) 10 rfl ?_
    refine ge_cv rfl rfl rfl (t1603 s) rfl rfl rfl (D := 3) (Nat.le_trans (by decide) hd) (c_Co_skipperGoes (n := n) (u := u) (t := t) (i := i) (r := r) s (x1 + (2 : Int32)) ((x2 &&& (1 : Int32)) ||| (2 : Int32))) ?_
    rintro v_3 -
    dsimp only [bkE, F_i0]
    refine ge_cs rfl rfl rfl rfl rfl rfl (D := 1) (Nat.le_trans (by decide) hd) (c_J_max (n := n) (u := u) (t := t) (i := i) (r := r) s v_1 v_3) ?_
    rintro v_4 -
    dsimp only [bkE, F_i0]
    exact ge_ret rfl rfl (And.intro rfl trivial)
  · refine ge_run (pc' := 27) (L' := [.ref 1603, .int x1, .int x2, .int v_1]) (S' := [.int v_1]) 2 rfl ?_
    exact ge_ret rfl rfl (And.intro rfl trivial)
def f_J_fill (i : MI) (v0 l0 : Nat) (x1 : Int32) : Option (MI) :=
  (itr (σ := Int32 × MI) (ρ := MI) (fun (x2_1, i_2) => if x2_1 < (nI l0) then (grd x2_1 l0 (bnd (wr i_2 v0 (ix x2_1) x1) (fun i_8 => some (.inl ((x2_1 + (1 : Int32)), i_8))))) else (some (.inr i_2))) 1000000 ((0 : Int32), i)).bind (fun i_3 => some i_3)
set_option maxHeartbeats 4000000 in
theorem c_J_fill {n u : Nat} {t : MT} {i : MI} {r : MR} (s : Sh n t r) (v0 l0 : Nat) (ht0 : t v0 = (100, l0)) (hg0 : 1000 ≤ v0) (x1 : Int32) : Cn 1 369 [.ref v0, .int x1] (n, u, t, i, r) (f_J_fill i v0 l0 x1) (F_v1 n u t r) PT := by
  refine cn_of (Y := K_J_fill) (L0 := [.ref v0, .int x1, uV, uV]) rfl rfl rfl ?_
  intro d hd
  unfold f_J_fill
  refine ge_run (pc' := 3) (L' := [.ref v0, .int x1, .int (0 : Int32), uV]) (S' := [.ref v0]) 3 rfl ?_
  refine ge_alen rfl ht0 (by decide) ?_
  refine ge_run (pc' := 5) (L' := [.ref v0, .int x1, .int (0 : Int32), .int (nI l0)]) (S' := []) 1 rfl ?_
  refine ge_bind (K1 := fun (q : MI) e => ∃ w_4 : Value, e = .inl (14, [.ref v0, .int x1, w_4, .int (nI l0)], [], (n, u, t, q, r))) (ge_itr (C := fun (q : Int32 × MI) e => e = .inl (5, [.ref v0, .int x1, .int q.1, .int (nI l0)], [], (n, u, t, q.2, r))) ?_ _ _ _ rfl) ?_
  · rintro ⟨x2_1, i_2⟩ _ rfl
    try dsimp only
    refine ge_run (pc' := 7) (L' := [.ref v0, .int x1, .int x2_1, .int (nI l0)]) (S' := [.int (nI l0), .int x2_1]) 2 rfl ?_
    refine ge_ge rfl (fun h_5 => ?_) (fun h_9 => ?_)
    · refine ge_run (pc' := 11) (L' := [.ref v0, .int x1, .int x2_1, .int (nI l0)]) (S' := [.int x1, .int x2_1, .ref v0]) 3 rfl ?_
      refine ge_grd (fun g_6 g_7 => ?_)
      refine ge_iast (jn := (ix x2_1)) rfl ht0 hg0 ⟨g_6, rfl⟩ g_7 (fun i_8 => ?_)
      refine ge_run (pc' := 5) (L' := [.ref v0, .int x1, .int (x2_1 + (1 : Int32)), .int (nI l0)]) (S' := []) 2 rfl ?_
      exact ge_leaf (K := kX _ _) rfl
    · exact ge_leaf (K := kX _ _) (Exists.intro _ rfl)
  · rintro i_3 _ ⟨w_4, rfl⟩
    try dsimp only
    exact ge_retv rfl rfl (And.intro rfl trivial)
def f_Co_turnsToCatch (r : MR) (i : MI) (x1 : Int32) (x2 : Int32) : Option (Int32 × MI × MR) :=
  if 0 < x1 then ((f_J_fill i (r 1603 7) 136 (99 : Int32)).bind (fun i_2 => (itr (σ := Int32 × MI × MR) (ρ := MI × MR) (fun (x3_3, i_4, r_5) => if x2 < x3_3 then (some (.inr (i_4, r_5))) else ((itr (σ := Int32 × MI) (ρ := MI) (fun (x4_17, i_18) => if ((x1 + x2) - x3_3) < x4_17 then (some (.inr i_18)) else (if x4_17 < (34 : Int32) then ((itr (σ := Int32 × MI) (ρ := MI) (fun (x5_26, i_27) => if x5_26 < (4 : Int32) then ((f_Co_schoolGoes r_5 i_27 x4_17 x5_26).bind (fun v_31 => grd ((x4_17 * (4 : Int32)) + x5_26) 136 (bnd (wr i_27 (r_5 1603 8) (ix ((x4_17 * (4 : Int32)) + x5_26)) v_31) (fun i_34 => some (.inl ((x5_26 + (1 : Int32)), i_34)))))) else (some (.inr i_27))) 1000000 ((0 : Int32), i_18)).bind (fun i_28 => some (.inl ((x4_17 + (1 : Int32)), i_28)))) else (some (.inr i_18)))) 1000000 ((1 : Int32), i_4)).bind (fun i_20 => bnd (wrR r_5 1603 7 (r_5 1603 8)) (fun r_t => bnd (wrR r_t 1603 8 (r_5 1603 7)) (fun r_37 => some (.inl ((x3_3 + (1 : Int32)), i_20, r_37))))))) 1000000 ((1 : Int32), i_2, r)).bind (fun (i_9, r_10) => (if x1 < (34 : Int32) then (grd (x1 * (4 : Int32)) 136 (some (i_9 (r_10 1603 7) (ix (x1 * (4 : Int32)))))) else (some (99 : Int32)) : Option (Int32)).bind (fun y_39 => if x2 < y_39 then (some ((-1 : Int32), i_9, r_10)) else (some (y_39, i_9, r_10)))))) else (some ((0 : Int32), i, r))
set_option maxHeartbeats 4000000 in
theorem c_Co_turnsToCatch {n u : Nat} {t : MT} {i : MI} {r : MR} (s : Sh n t r) (x1 : Int32) (x2 : Int32) : Cn 5 6 [.ref 1603, .int x1, .int x2] (n, u, t, i, r) (f_Co_turnsToCatch r i x1 x2) (F_i2 n u t) (PS2 n t) := by
  refine cn_of (Y := K_Co_turnsToCatch) (L0 := [.ref 1603, .int x1, .int x2, uV, uV, uV]) rfl rfl rfl ?_
  intro d hd
  unfold f_Co_turnsToCatch
  refine ge_run (pc' := 1) (L' := [.ref 1603, .int x1, .int x2, uV, uV, uV]) (S' := [.int x1]) 1 rfl ?_
  refine ge_gt0 rfl (fun h_1 => ?_) (fun h_46 => ?_)
  · refine ge_run (pc' := 5) (L' := [.ref 1603, .int x1, .int x2, uV, uV, uV]) (S' := [.ref 1603]) 1 rfl ?_
    refine ge_getR (b := (r 1603 7)) rfl (t1603 s) rfl rfl (crsG7 s) ?_
    refine ge_run (pc' := 7) (L' := [.ref 1603, .int x1, .int x2, uV, uV, uV]) (S' := [.int (99 : Int32), .ref (r 1603 7)]) 1 rfl ?_
    refine ge_cs rfl rfl rfl rfl rfl rfl (D := 1) (Nat.le_trans (by decide) hd) (c_J_fill (n := n) (u := u) (t := t) (i := i) (r := r) s (r 1603 7) 136 (crsT7 s) (crsG7 s) (99 : Int32)) ?_
    rintro i_2 -
    dsimp only [bkE, F_v1]
    refine ge_run (pc' := 10) (L' := [.ref 1603, .int x1, .int x2, .int (1 : Int32), uV, uV]) (S' := []) 2 rfl ?_
    refine ge_bind (K1 := fun (q : MI × MR) e => Sh n t q.2 ∧ ∃ w_11 w_12 w_13 : Value, e = .inl (58, [.ref 1603, .int x1, .int x2, w_11, w_12, w_13], [], (n, u, t, q.1, q.2))) (ge_itr (C := fun (q : Int32 × MI × MR) e => Sh n t q.2.2 ∧ ∃ w_6 w_7 : Value, e = .inl (10, [.ref 1603, .int x1, .int x2, .int q.1, w_6, w_7], [], (n, u, t, q.2.1, q.2.2))) ?_ _ _ _ (And.intro s (Exists.intro _ (Exists.intro _ rfl)))) ?_
    · rintro ⟨x3_3, i_4, r_5⟩ _ ⟨s_8, w_6, w_7, rfl⟩
      try dsimp only
      refine ge_run (pc' := 12) (L' := [.ref 1603, .int x1, .int x2, .int x3_3, w_6, w_7]) (S' := [.int x2, .int x3_3]) 2 rfl ?_
      refine ge_gt rfl (fun h_15 => ?_) (fun h_16 => ?_)
      · exact ge_leaf (K := kX _ _) (And.intro s_8 (Exists.intro _ (Exists.intro _ (Exists.intro _ rfl))))
      · refine ge_run (pc' := 15) (L' := [.ref 1603, .int x1, .int x2, .int x3_3, .int (1 : Int32), w_7]) (S' := []) 2 rfl ?_
        refine ge_bind (K1 := fun (q : MI) e => ∃ w_21 w_22 : Value, e = .inl (46, [.ref 1603, .int x1, .int x2, .int x3_3, w_21, w_22], [], (n, u, t, q, r_5))) (ge_itr (C := fun (q : Int32 × MI) e => ∃ w_19 : Value, e = .inl (15, [.ref 1603, .int x1, .int x2, .int x3_3, .int q.1, w_19], [], (n, u, t, q.2, r_5))) ?_ _ _ _ (Exists.intro _ rfl)) ?_
        · rintro ⟨x4_17, i_18⟩ _ ⟨w_19, rfl⟩
          try dsimp only
          refine ge_run (pc' := 21) (L' := [.ref 1603, .int x1, .int x2, .int x3_3, .int x4_17, w_19]) (S' := [.int ((x1 + x2) - x3_3), .int x4_17]) 6 rfl ?_
          refine ge_gt rfl (fun h_23 => ?_) (fun h_24 => ?_)
          · exact ge_leaf (K := kX _ _) (Exists.intro _ (Exists.intro _ rfl))
          · refine ge_run (pc' := 24) (L' := [.ref 1603, .int x1, .int x2, .int x3_3, .int x4_17, w_19]) (S' := [.int (34 : Int32), .int x4_17]) 2 rfl ?_
            refine ge_ge rfl (fun h_25 => ?_) (fun h_36 => ?_)
            · refine ge_run (pc' := 27) (L' := [.ref 1603, .int x1, .int x2, .int x3_3, .int x4_17, .int (0 : Int32)]) (S' := []) 2 rfl ?_
              refine ge_bind (K1 := fun (q : MI) e => ∃ w_29 : Value, e = .inl (44, [.ref 1603, .int x1, .int x2, .int x3_3, .int x4_17, w_29], [], (n, u, t, q, r_5))) (ge_itr (C := fun (q : Int32 × MI) e => e = .inl (27, [.ref 1603, .int x1, .int x2, .int x3_3, .int x4_17, .int q.1], [], (n, u, t, q.2, r_5))) ?_ _ _ _ rfl) ?_
              · rintro ⟨x5_26, i_27⟩ _ rfl
                try dsimp only
                refine ge_run (pc' := 29) (L' := [.ref 1603, .int x1, .int x2, .int x3_3, .int x4_17, .int x5_26]) (S' := [.int (4 : Int32), .int x5_26]) 2 rfl ?_
                refine ge_ge rfl (fun h_30 => ?_) (fun h_35 => ?_)
                · refine ge_run (pc' := 31) (L' := [.ref 1603, .int x1, .int x2, .int x3_3, .int x4_17, .int x5_26]) (S' := [.ref 1603]) 1 rfl ?_
                  refine ge_getR (b := (r_5 1603 8)) rfl (t1603 s_8) rfl rfl (crsG8 s_8) ?_
                  refine ge_run (pc' := 40) (L' := [.ref 1603, .int x1, .int x2, .int x3_3, .int x4_17, .int x5_26]) (S' := [.int x5_26, .int x4_17, .ref 1603, .int ((x4_17 * (4 : Int32)) + x5_26), .ref (r_5 1603 8)]) 8 rfl ?_
                  refine ge_cv rfl rfl rfl (t1603 s_8) rfl rfl rfl (D := 4) (Nat.le_trans (by decide) hd) (c_Co_schoolGoes (n := n) (u := u) (t := t) (i := i_27) (r := r_5) s_8 x4_17 x5_26) ?_
                  rintro v_31 -
                  dsimp only [bkE, F_i0]
                  refine ge_grd (fun g_32 g_33 => ?_)
                  refine ge_iast (jn := (ix ((x4_17 * (4 : Int32)) + x5_26))) rfl (crsT8 s_8) (crsG8 s_8) ⟨g_32, rfl⟩ g_33 (fun i_34 => ?_)
                  refine ge_run (pc' := 27) (L' := [.ref 1603, .int x1, .int x2, .int x3_3, .int x4_17, .int (x5_26 + (1 : Int32))]) (S' := []) 2 rfl ?_
                  exact ge_leaf (K := kX _ _) rfl
                · exact ge_leaf (K := kX _ _) (Exists.intro _ rfl)
              · rintro i_28 _ ⟨w_29, rfl⟩
                try dsimp only
                refine ge_run (pc' := 15) (L' := [.ref 1603, .int x1, .int x2, .int x3_3, .int (x4_17 + (1 : Int32)), w_29]) (S' := []) 2 rfl ?_
                exact ge_leaf (K := kX _ _) (Exists.intro _ rfl)
            · exact ge_leaf (K := kX _ _) (Exists.intro _ (Exists.intro _ rfl))
        · rintro i_20 _ ⟨w_21, w_22, rfl⟩
          try dsimp only
          refine ge_run (pc' := 47) (L' := [.ref 1603, .int x1, .int x2, .int x3_3, w_21, w_22]) (S' := [.ref 1603]) 1 rfl ?_
          refine ge_getR (b := (r_5 1603 7)) rfl (t1603 s_8) rfl rfl (crsG7 s_8) ?_
          refine ge_run (pc' := 51) (L' := [.ref 1603, .int x1, .int x2, .int x3_3, .ref (r_5 1603 7), w_22]) (S' := [.ref 1603, .ref 1603]) 3 rfl ?_
          refine ge_getR (b := (r_5 1603 8)) rfl (t1603 s_8) rfl rfl (crsG8 s_8) ?_
          refine ge_putR rfl (t1603 s_8) (Nat.le_of_ble_eq_true rfl) rfl (crsG8 s_8) ?_
          try dsimp only
          refine ge_run (pc' := 55) (L' := [.ref 1603, .int x1, .int x2, .int x3_3, .ref (r_5 1603 7), w_22]) (S' := [.ref (r_5 1603 7), .ref 1603]) 2 rfl ?_
          refine ge_putR rfl (t1603 s_8) (Nat.le_of_ble_eq_true rfl) rfl (crsG7 s_8) ?_
          have s_38 := shCrs s_8
          generalize wrR (wrR r_5 1603 7 (r_5 1603 8)) 1603 8 (r_5 1603 7) = r_37 at s_38 ⊢
          try dsimp only
          refine ge_run (pc' := 10) (L' := [.ref 1603, .int x1, .int x2, .int (x3_3 + (1 : Int32)), .ref (r_5 1603 7), w_22]) (S' := []) 2 rfl ?_
          exact ge_leaf (K := kX _ _) (And.intro s_38 (Exists.intro _ (Exists.intro _ rfl)))
    · rintro ⟨i_9, r_10⟩ _ ⟨s_14, w_11, w_12, w_13, rfl⟩
      try dsimp only
      refine ge_run (pc' := 60) (L' := [.ref 1603, .int x1, .int x2, w_11, w_12, w_13]) (S' := [.int (34 : Int32), .int x1]) 2 rfl ?_
      refine ge_bind (K1 := fun (q : Int32) e => e = .inl (69, [.ref 1603, .int x1, .int x2, w_11, w_12, w_13], [.int q], (n, u, t, i_9, r_10))) ?_ ?_
      · refine ge_ge rfl (fun h_40 => ?_) (fun h_43 => ?_)
        · refine ge_run (pc' := 62) (L' := [.ref 1603, .int x1, .int x2, w_11, w_12, w_13]) (S' := [.ref 1603]) 1 rfl ?_
          refine ge_getR (b := (r_10 1603 7)) rfl (t1603 s_14) rfl rfl (crsG7 s_14) ?_
          refine ge_run (pc' := 66) (L' := [.ref 1603, .int x1, .int x2, w_11, w_12, w_13]) (S' := [.int (x1 * (4 : Int32)), .ref (r_10 1603 7)]) 3 rfl ?_
          refine ge_grd (fun g_41 g_42 => ?_)
          refine ge_iald (jn := (ix (x1 * (4 : Int32)))) rfl (crsT7 s_14) ⟨g_41, rfl⟩ g_42 ?_
          refine ge_run (pc' := 69) (L' := [.ref 1603, .int x1, .int x2, w_11, w_12, w_13]) (S' := [.int (i_9 (r_10 1603 7) (ix (x1 * (4 : Int32))))]) 1 rfl ?_
          exact ge_leaf rfl
        · refine ge_run (pc' := 69) (L' := [.ref 1603, .int x1, .int x2, w_11, w_12, w_13]) (S' := [.int (99 : Int32)]) 1 rfl ?_
          exact ge_leaf rfl
      · rintro y_39 _ rfl
        try dsimp only
        refine ge_run (pc' := 72) (L' := [.ref 1603, .int x1, .int x2, .int y_39, w_12, w_13]) (S' := [.int x2, .int y_39]) 3 rfl ?_
        refine ge_le rfl (fun h_44 => ?_) (fun h_45 => ?_)
        · refine ge_run (pc' := 76) (L' := [.ref 1603, .int x1, .int x2, .int y_39, w_12, w_13]) (S' := [.int (-1 : Int32)]) 2 rfl ?_
          exact ge_ret rfl rfl (And.intro rfl s_14)
        · refine ge_run (pc' := 76) (L' := [.ref 1603, .int x1, .int x2, .int y_39, w_12, w_13]) (S' := [.int y_39]) 1 rfl ?_
          exact ge_ret rfl rfl (And.intro rfl s_14)
  · refine ge_run (pc' := 3) (L' := [.ref 1603, .int x1, .int x2, uV, uV, uV]) (S' := [.int (0 : Int32)]) 1 rfl ?_
    exact ge_ret rfl rfl (And.intro rfl s)
def f_Gu_takeRows (i : MI) : Option (Int32 × MI) :=
  bnd (wr i 1595 1 (0 : Int32)) (fun i_1 => if (40 : Int32) < (i 1595 1) then (some ((0 : Int32), i_1)) else (if (rm (i 1595 1) (2 : Int32)) = 0 then (bnd (wr i_1 1631 4 ((i 1595 1) / (2 : Int32))) (fun i_5 => itr (σ := Int32 × MI) (ρ := Int32 × MI) (fun (x3_6, i_7) => if x3_6 < (i_7 1631 4) then (grd ((2 : Int32) * x3_6) 400 (grd x3_6 20 (bnd (wr i_7 1632 (ix x3_6) (i_7 1596 (ix ((2 : Int32) * x3_6)))) (fun i_13 => grd (((2 : Int32) * x3_6) + (1 : Int32)) 400 (bnd (wr i_13 1633 (ix x3_6) (i_13 1596 (ix (((2 : Int32) * x3_6) + (1 : Int32))))) (fun i_16 => if (i_16 1632 (ix x3_6)) < 0 then (some (.inr (((0 : Int32), i_16)))) else (if (i_16 1632 (ix x3_6)) < (100 : Int32) then (if (i_16 1633 (ix x3_6)) < 0 then (some (.inr (((0 : Int32), i_16)))) else (if (99 : Int32) < (i_16 1633 (ix x3_6)) then (some (.inr (((0 : Int32), i_16)))) else (some (.inl ((x3_6 + (1 : Int32)), i_16))))) else (some (.inr (((0 : Int32), i_16))))))))))) else (some (.inr (((1 : Int32), i_7))))) 1000000 ((0 : Int32), i_5))) else (some ((0 : Int32), i_1))))
set_option maxHeartbeats 4000000 in
theorem c_Gu_takeRows {n u : Nat} {t : MT} {i : MI} {r : MR} (s : Sh n t r)  : Cn 1 11 [.ref 1631, .ref 1595] (n, u, t, i, r) (f_Gu_takeRows i ) (F_i1 n u t r) PT := by
  refine cn_of (Y := K_Gu_takeRows) (L0 := [.ref 1631, .ref 1595, uV, uV]) rfl rfl rfl ?_
  intro d hd
  unfold f_Gu_takeRows
  refine ge_run (pc' := 1) (L' := [.ref 1631, .ref 1595, uV, uV]) (S' := [.ref 1595]) 1 rfl ?_
  refine ge_getI rfl (t1595 s) rfl ?_
  refine ge_run (pc' := 5) (L' := [.ref 1631, .ref 1595, .int (i 1595 1), uV]) (S' := [.int (0 : Int32), .ref 1595]) 3 rfl ?_
  refine ge_putI rfl (t1595 s) (Nat.le_of_ble_eq_true rfl) rfl (fun i_1 => ?_)
  refine ge_run (pc' := 8) (L' := [.ref 1631, .ref 1595, .int (i 1595 1), uV]) (S' := [.int (40 : Int32), .int (i 1595 1)]) 2 rfl ?_
  refine ge_gt rfl (fun h_2 => ?_) (fun h_3 => ?_)
  · refine ge_run (pc' := 14) (L' := [.ref 1631, .ref 1595, .int (i 1595 1), uV]) (S' := [.int (0 : Int32)]) 1 rfl ?_
    exact ge_retz rfl rfl (Or.inl rfl) (And.intro rfl trivial)
  · refine ge_run (pc' := 11) (L' := [.ref 1631, .ref 1595, .int (i 1595 1), uV]) (S' := [.int (2 : Int32), .int (i 1595 1)]) 2 rfl ?_
    refine ge_rem rfl (by decide) ?_
    refine ge_eq0 rfl (fun h_4 => ?_) (fun h_26 => ?_)
    · refine ge_run (pc' := 18) (L' := [.ref 1631, .ref 1595, .int (i 1595 1), uV]) (S' := [.int (2 : Int32), .int (i 1595 1), .ref 1631]) 3 rfl ?_
      refine ge_div rfl (by decide) ?_
      refine ge_putI rfl (t1631 s) (Nat.le_of_ble_eq_true rfl) rfl (fun i_5 => ?_)
      refine ge_run (pc' := 22) (L' := [.ref 1631, .ref 1595, .int (i 1595 1), .int (0 : Int32)]) (S' := []) 2 rfl ?_
      refine ge_itr (C := fun (q : Int32 × MI) e => e = .inl (22, [.ref 1631, .ref 1595, .int (i 1595 1), .int q.1], [], (n, u, t, q.2, r))) ?_ _ _ _ rfl
      rintro ⟨x3_6, i_7⟩ _ rfl
      try dsimp only
      refine ge_run (pc' := 24) (L' := [.ref 1631, .ref 1595, .int (i 1595 1), .int x3_6]) (S' := [.ref 1631, .int x3_6]) 2 rfl ?_
      refine ge_getI rfl (t1631 s) rfl ?_
      refine ge_ge rfl (fun h_8 => ?_) (fun h_25 => ?_)
      · refine ge_run (pc' := 27) (L' := [.ref 1631, .ref 1595, .int (i 1595 1), .int x3_6]) (S' := [.ref 1631]) 1 rfl ?_
        refine ge_getR (b := 1632) rfl (t1631 s) rfl (r1631_0 s) (Nat.le_of_ble_eq_true rfl) ?_
        refine ge_run (pc' := 30) (L' := [.ref 1631, .ref 1595, .int (i 1595 1), .int x3_6]) (S' := [.ref 1595, .int x3_6, .ref 1632]) 2 rfl ?_
        refine ge_getR (b := 1596) rfl (t1595 s) rfl (r1595_0 s) (Nat.le_of_ble_eq_true rfl) ?_
        refine ge_run (pc' := 34) (L' := [.ref 1631, .ref 1595, .int (i 1595 1), .int x3_6]) (S' := [.int ((2 : Int32) * x3_6), .ref 1596, .int x3_6, .ref 1632]) 3 rfl ?_
        refine ge_grd (fun g_9 g_10 => ?_)
        refine ge_bald (jn := (ix ((2 : Int32) * x3_6))) rfl (Or.inl (t1596 s)) ⟨g_9, rfl⟩ g_10 ?_
        refine ge_grd (fun g_11 g_12 => ?_)
        refine ge_iast (jn := (ix x3_6)) rfl (t1632 s) (Nat.le_of_ble_eq_true rfl) ⟨g_11, rfl⟩ g_12 (fun i_13 => ?_)
        refine ge_run (pc' := 37) (L' := [.ref 1631, .ref 1595, .int (i 1595 1), .int x3_6]) (S' := [.ref 1631]) 1 rfl ?_
        refine ge_getR (b := 1633) rfl (t1631 s) rfl (r1631_1 s) (Nat.le_of_ble_eq_true rfl) ?_
        refine ge_run (pc' := 40) (L' := [.ref 1631, .ref 1595, .int (i 1595 1), .int x3_6]) (S' := [.ref 1595, .int x3_6, .ref 1633]) 2 rfl ?_
        refine ge_getR (b := 1596) rfl (t1595 s) rfl (r1595_0 s) (Nat.le_of_ble_eq_true rfl) ?_
        refine ge_run (pc' := 46) (L' := [.ref 1631, .ref 1595, .int (i 1595 1), .int x3_6]) (S' := [.int (((2 : Int32) * x3_6) + (1 : Int32)), .ref 1596, .int x3_6, .ref 1633]) 5 rfl ?_
        refine ge_grd (fun g_14 g_15 => ?_)
        refine ge_bald (jn := (ix (((2 : Int32) * x3_6) + (1 : Int32)))) rfl (Or.inl (t1596 s)) ⟨g_14, rfl⟩ g_15 ?_
        refine ge_iast (jn := (ix x3_6)) rfl (t1633 s) (Nat.le_of_ble_eq_true rfl) ⟨g_11, rfl⟩ g_12 (fun i_16 => ?_)
        refine ge_run (pc' := 49) (L' := [.ref 1631, .ref 1595, .int (i 1595 1), .int x3_6]) (S' := [.ref 1631]) 1 rfl ?_
        refine ge_getR (b := 1632) rfl (t1631 s) rfl (r1631_0 s) (Nat.le_of_ble_eq_true rfl) ?_
        refine ge_run (pc' := 51) (L' := [.ref 1631, .ref 1595, .int (i 1595 1), .int x3_6]) (S' := [.int x3_6, .ref 1632]) 1 rfl ?_
        refine ge_iald (jn := (ix x3_6)) rfl (t1632 s) ⟨g_11, rfl⟩ g_12 ?_
        refine ge_lt0 rfl (fun h_17 => ?_) (fun h_18 => ?_)
        · refine ge_run (pc' := 71) (L' := [.ref 1631, .ref 1595, .int (i 1595 1), .int x3_6]) (S' := [.int (0 : Int32)]) 1 rfl ?_
          exact ge_retz rfl rfl (Or.inl rfl) (And.intro rfl trivial)
        · refine ge_run (pc' := 54) (L' := [.ref 1631, .ref 1595, .int (i 1595 1), .int x3_6]) (S' := [.ref 1631]) 1 rfl ?_
          refine ge_getR (b := 1632) rfl (t1631 s) rfl (r1631_0 s) (Nat.le_of_ble_eq_true rfl) ?_
          refine ge_run (pc' := 56) (L' := [.ref 1631, .ref 1595, .int (i 1595 1), .int x3_6]) (S' := [.int x3_6, .ref 1632]) 1 rfl ?_
          refine ge_iald (jn := (ix x3_6)) rfl (t1632 s) ⟨g_11, rfl⟩ g_12 ?_
          refine ge_run (pc' := 58) (L' := [.ref 1631, .ref 1595, .int (i 1595 1), .int x3_6]) (S' := [.int (100 : Int32), .int (i_16 1632 (ix x3_6))]) 1 rfl ?_
          refine ge_ge rfl (fun h_19 => ?_) (fun h_24 => ?_)
          · refine ge_run (pc' := 60) (L' := [.ref 1631, .ref 1595, .int (i 1595 1), .int x3_6]) (S' := [.ref 1631]) 1 rfl ?_
            refine ge_getR (b := 1633) rfl (t1631 s) rfl (r1631_1 s) (Nat.le_of_ble_eq_true rfl) ?_
            refine ge_run (pc' := 62) (L' := [.ref 1631, .ref 1595, .int (i 1595 1), .int x3_6]) (S' := [.int x3_6, .ref 1633]) 1 rfl ?_
            refine ge_iald (jn := (ix x3_6)) rfl (t1633 s) ⟨g_11, rfl⟩ g_12 ?_
            refine ge_lt0 rfl (fun h_20 => ?_) (fun h_21 => ?_)
            · refine ge_run (pc' := 71) (L' := [.ref 1631, .ref 1595, .int (i 1595 1), .int x3_6]) (S' := [.int (0 : Int32)]) 1 rfl ?_
              exact ge_retz rfl rfl (Or.inl rfl) (And.intro rfl trivial)
            · refine ge_run (pc' := 65) (L' := [.ref 1631, .ref 1595, .int (i 1595 1), .int x3_6]) (S' := [.ref 1631]) 1 rfl ?_
              refine ge_getR (b := 1633) rfl (t1631 s) rfl (r1631_1 s) (Nat.le_of_ble_eq_true rfl) ?_
              refine ge_run (pc' := 67) (L' := [.ref 1631, .ref 1595, .int (i 1595 1), .int x3_6]) (S' := [.int x3_6, .ref 1633]) 1 rfl ?_
              refine ge_iald (jn := (ix x3_6)) rfl (t1633 s) ⟨g_11, rfl⟩ g_12 ?_
              refine ge_run (pc' := 69) (L' := [.ref 1631, .ref 1595, .int (i 1595 1), .int x3_6]) (S' := [.int (99 : Int32), .int (i_16 1633 (ix x3_6))]) 1 rfl ?_
              refine ge_le rfl (fun h_22 => ?_) (fun h_23 => ?_)
              · refine ge_run (pc' := 71) (L' := [.ref 1631, .ref 1595, .int (i 1595 1), .int x3_6]) (S' := [.int (0 : Int32)]) 1 rfl ?_
                exact ge_retz rfl rfl (Or.inl rfl) (And.intro rfl trivial)
              · refine ge_run (pc' := 22) (L' := [.ref 1631, .ref 1595, .int (i 1595 1), .int (x3_6 + (1 : Int32))]) (S' := []) 2 rfl ?_
                exact ge_leaf (K := kX _ _) rfl
          · refine ge_run (pc' := 71) (L' := [.ref 1631, .ref 1595, .int (i 1595 1), .int x3_6]) (S' := [.int (0 : Int32)]) 1 rfl ?_
            exact ge_retz rfl rfl (Or.inl rfl) (And.intro rfl trivial)
      · refine ge_run (pc' := 75) (L' := [.ref 1631, .ref 1595, .int (i 1595 1), .int x3_6]) (S' := [.int (1 : Int32)]) 1 rfl ?_
        exact ge_retz rfl rfl (Or.inr rfl) (And.intro rfl trivial)
    · refine ge_run (pc' := 14) (L' := [.ref 1631, .ref 1595, .int (i 1595 1), uV]) (S' := [.int (0 : Int32)]) 1 rfl ?_
      exact ge_retz rfl rfl (Or.inl rfl) (And.intro rfl trivial)
def f_Gu_freshBy (x0 : Int32) (x1 : Int32) : Option (Int32) :=
  (f_J_max (0 : Int32) (x1 - (rm x0 (100 : Int32)))).bind (fun v_1 => (f_J_max (0 : Int32) ((99 : Int32) - ((x0 / (100 : Int32)) * v_1))).bind (fun v_2 => some (v_2)))
set_option maxHeartbeats 4000000 in
theorem c_Gu_freshBy {n u : Nat} {t : MT} {i : MI} {r : MR} (s : Sh n t r) (x0 : Int32) (x1 : Int32) : Cn 2 12 [.int x0, .int x1] (n, u, t, i, r) (f_Gu_freshBy  x0 x1) (F_i0 n u t i r) PT := by
  refine cn_of (Y := K_Gu_freshBy) (L0 := [.int x0, .int x1, uV]) rfl rfl rfl ?_
  intro d hd
  unfold f_Gu_freshBy
  refine ge_run (pc' := 4) (L' := [.int x0, .int x1, uV]) (S' := [.int (100 : Int32), .int x0, .int x1, .int (0 : Int32)]) 4 rfl ?_
  refine ge_rem rfl (by decide) ?_
  refine ge_run (pc' := 6) (L' := [.int x0, .int x1, uV]) (S' := [.int (x1 - (rm x0 (100 : Int32))), .int (0 : Int32)]) 1 rfl ?_
  refine ge_cs rfl rfl rfl rfl rfl rfl (D := 1) (Nat.le_trans (by decide) hd) (c_J_max (n := n) (u := u) (t := t) (i := i) (r := r) s (0 : Int32) (x1 - (rm x0 (100 : Int32)))) ?_
  rintro v_1 -
  dsimp only [bkE, F_i0]
  refine ge_run (pc' := 12) (L' := [.int x0, .int x1, .int v_1]) (S' := [.int (100 : Int32), .int x0, .int (99 : Int32), .int (0 : Int32)]) 5 rfl ?_
  refine ge_div rfl (by decide) ?_
  refine ge_run (pc' := 16) (L' := [.int x0, .int x1, .int v_1]) (S' := [.int ((99 : Int32) - ((x0 / (100 : Int32)) * v_1)), .int (0 : Int32)]) 3 rfl ?_
  refine ge_cs rfl rfl rfl rfl rfl rfl (D := 1) (Nat.le_trans (by decide) hd) (c_J_max (n := n) (u := u) (t := t) (i := i) (r := r) s (0 : Int32) ((99 : Int32) - ((x0 / (100 : Int32)) * v_1))) ?_
  rintro v_2 -
  dsimp only [bkE, F_i0]
  exact ge_ret rfl rfl (And.intro rfl trivial)
def f_Gu_isFitting (i : MI) (x1 : Int32) : Option (Int32) :=
  itr (σ := Int32) (ρ := Int32) (fun x2_1 => if x2_1 < (i 1631 4) then (grd x2_1 20 ((f_Gu_freshBy x1 (i 1632 (ix x2_1))).bind (fun v_5 => if v_5 = (i 1633 (ix x2_1)) then (some (.inl (x2_1 + (1 : Int32)))) else (some (.inr (((0 : Int32)))))))) else (some (.inr (((1 : Int32)))))) 1000000 (0 : Int32)
set_option maxHeartbeats 4000000 in
theorem c_Gu_isFitting {n u : Nat} {t : MT} {i : MI} {r : MR} (s : Sh n t r) (x1 : Int32) : Cn 3 14 [.ref 1631, .int x1] (n, u, t, i, r) (f_Gu_isFitting i x1) (F_i0 n u t i r) PT := by
  refine cn_of (Y := K_Gu_isFitting) (L0 := [.ref 1631, .int x1, uV]) rfl rfl rfl ?_
  intro d hd
  unfold f_Gu_isFitting
  refine ge_run (pc' := 2) (L' := [.ref 1631, .int x1, .int (0 : Int32)]) (S' := []) 2 rfl ?_
  refine ge_itr (C := fun (q : Int32) e => e = .inl (2, [.ref 1631, .int x1, .int q], [], (n, u, t, i, r))) ?_ _ _ _ rfl
  rintro x2_1 _ rfl
  try dsimp only
  refine ge_run (pc' := 4) (L' := [.ref 1631, .int x1, .int x2_1]) (S' := [.ref 1631, .int x2_1]) 2 rfl ?_
  refine ge_getI rfl (t1631 s) rfl ?_
  refine ge_ge rfl (fun h_2 => ?_) (fun h_8 => ?_)
  · refine ge_run (pc' := 8) (L' := [.ref 1631, .int x1, .int x2_1]) (S' := [.ref 1631, .int x1]) 2 rfl ?_
    refine ge_getR (b := 1632) rfl (t1631 s) rfl (r1631_0 s) (Nat.le_of_ble_eq_true rfl) ?_
    refine ge_run (pc' := 10) (L' := [.ref 1631, .int x1, .int x2_1]) (S' := [.int x2_1, .ref 1632, .int x1]) 1 rfl ?_
    refine ge_grd (fun g_3 g_4 => ?_)
    refine ge_iald (jn := (ix x2_1)) rfl (t1632 s) ⟨g_3, rfl⟩ g_4 ?_
    refine ge_cs rfl rfl rfl rfl rfl rfl (D := 2) (Nat.le_trans (by decide) hd) (c_Gu_freshBy (n := n) (u := u) (t := t) (i := i) (r := r) s x1 (i 1632 (ix x2_1))) ?_
    rintro v_5 -
    dsimp only [bkE, F_i0]
    refine ge_run (pc' := 13) (L' := [.ref 1631, .int x1, .int x2_1]) (S' := [.ref 1631, .int v_5]) 1 rfl ?_
    refine ge_getR (b := 1633) rfl (t1631 s) rfl (r1631_1 s) (Nat.le_of_ble_eq_true rfl) ?_
    refine ge_run (pc' := 15) (L' := [.ref 1631, .int x1, .int x2_1]) (S' := [.int x2_1, .ref 1633, .int v_5]) 1 rfl ?_
    refine ge_iald (jn := (ix x2_1)) rfl (t1633 s) ⟨g_3, rfl⟩ g_4 ?_
    refine ge_eq rfl (fun h_6 => ?_) (fun h_7 => ?_)
    · refine ge_run (pc' := 2) (L' := [.ref 1631, .int x1, .int (x2_1 + (1 : Int32))]) (S' := []) 2 rfl ?_
      exact ge_leaf (K := kX _ _) rfl
    · refine ge_run (pc' := 18) (L' := [.ref 1631, .int x1, .int x2_1]) (S' := [.int (0 : Int32)]) 1 rfl ?_
      exact ge_retz rfl rfl (Or.inl rfl) (And.intro rfl trivial)
  · refine ge_run (pc' := 22) (L' := [.ref 1631, .int x1, .int x2_1]) (S' := [.int (1 : Int32)]) 1 rfl ?_
    exact ge_retz rfl rfl (Or.inr rfl) (And.intro rfl trivial)
def f_Gu_fit (i : MI) : Option (MI) :=
  bnd (wr i 1631 5 (0 : Int32)) (fun i_1 => (itr (σ := Int32 × MI) (ρ := MI) (fun (x1_2, i_3) => if x1_2 < (2000 : Int32) then ((f_Gu_isFitting i_3 x1_2).bind (fun v_7 => (if v_7 = 0 then (some i_3) else (bnd (wr i_3 1631 5 ((i_3 1631 5) + (1 : Int32))) (fun i_11 => grd (i_3 1631 5) 2000 (bnd (wr i_11 1634 (ix (i_3 1631 5)) x1_2) (fun i_14 => some i_14)))) : Option (MI)).bind (fun i_8 => some (.inl ((x1_2 + (1 : Int32)), i_8))))) else (some (.inr i_3))) 1000000 ((0 : Int32), i_1)).bind (fun i_4 => some i_4))
set_option maxHeartbeats 4000000 in
theorem c_Gu_fit {n u : Nat} {t : MT} {i : MI} {r : MR} (s : Sh n t r)  : Cn 4 13 [.ref 1631] (n, u, t, i, r) (f_Gu_fit i ) (F_v1 n u t r) PT := by
  refine cn_of (Y := K_Gu_fit) (L0 := [.ref 1631, uV]) rfl rfl rfl ?_
  intro d hd
  unfold f_Gu_fit
  refine ge_run (pc' := 2) (L' := [.ref 1631, uV]) (S' := [.int (0 : Int32), .ref 1631]) 2 rfl ?_
  refine ge_putI rfl (t1631 s) (Nat.le_of_ble_eq_true rfl) rfl (fun i_1 => ?_)
  refine ge_run (pc' := 5) (L' := [.ref 1631, .int (0 : Int32)]) (S' := []) 2 rfl ?_
  refine ge_bind (K1 := fun (q : MI) e => ∃ w_5 : Value, e = .inl (25, [.ref 1631, w_5], [], (n, u, t, q, r))) (ge_itr (C := fun (q : Int32 × MI) e => e = .inl (5, [.ref 1631, .int q.1], [], (n, u, t, q.2, r))) ?_ _ _ _ rfl) ?_
  · rintro ⟨x1_2, i_3⟩ _ rfl
    try dsimp only
    refine ge_run (pc' := 7) (L' := [.ref 1631, .int x1_2]) (S' := [.int (2000 : Int32), .int x1_2]) 2 rfl ?_
    refine ge_ge rfl (fun h_6 => ?_) (fun h_15 => ?_)
    · refine ge_run (pc' := 10) (L' := [.ref 1631, .int x1_2]) (S' := [.int x1_2, .ref 1631]) 2 rfl ?_
      refine ge_cv rfl rfl rfl (t1631 s) rfl rfl rfl (D := 3) (Nat.le_trans (by decide) hd) (c_Gu_isFitting (n := n) (u := u) (t := t) (i := i_3) (r := r) s x1_2) ?_
      rintro v_7 -
      dsimp only [bkE, F_i0]
      refine ge_bind (K1 := fun (q : MI) e => e = .inl (23, [.ref 1631, .int x1_2], [], (n, u, t, q, r))) ?_ ?_
      · refine ge_eq0 rfl (fun h_9 => ?_) (fun h_10 => ?_)
        · exact ge_leaf rfl
        · refine ge_run (pc' := 13) (L' := [.ref 1631, .int x1_2]) (S' := [.ref 1631]) 1 rfl ?_
          refine ge_getR (b := 1634) rfl (t1631 s) rfl (r1631_2 s) (Nat.le_of_ble_eq_true rfl) ?_
          refine ge_run (pc' := 16) (L' := [.ref 1631, .int x1_2]) (S' := [.ref 1631, .ref 1631, .ref 1634]) 2 rfl ?_
          refine ge_getI rfl (t1631 s) rfl ?_
          refine ge_run (pc' := 20) (L' := [.ref 1631, .int x1_2]) (S' := [.int ((i_3 1631 5) + (1 : Int32)), .ref 1631, .int (i_3 1631 5), .ref 1634]) 3 rfl ?_
          refine ge_putI rfl (t1631 s) (Nat.le_of_ble_eq_true rfl) rfl (fun i_11 => ?_)
          refine ge_run (pc' := 22) (L' := [.ref 1631, .int x1_2]) (S' := [.int x1_2, .int (i_3 1631 5), .ref 1634]) 1 rfl ?_
          refine ge_grd (fun g_12 g_13 => ?_)
          refine ge_iast (jn := (ix (i_3 1631 5))) rfl (t1634 s) (Nat.le_of_ble_eq_true rfl) ⟨g_12, rfl⟩ g_13 (fun i_14 => ?_)
          exact ge_leaf rfl
      · rintro i_8 _ rfl
        try dsimp only
        refine ge_run (pc' := 5) (L' := [.ref 1631, .int (x1_2 + (1 : Int32))]) (S' := []) 2 rfl ?_
        exact ge_leaf (K := kX _ _) rfl
    · exact ge_leaf (K := kX _ _) (Exists.intro _ rfl)
  · rintro i_4 _ ⟨w_5, rfl⟩
    try dsimp only
    exact ge_retv rfl rfl (And.intro rfl trivial)
def f_Gu_greatestPart (i : MI) (x1 : Int32) (x2 : Int32) : Option (Int32 × MI) :=
  (f_J_fill i 1635 100 (0 : Int32)).bind (fun i_1 => (itr (σ := Int32 × Int32 × MI) (ρ := Int32 × MI) (fun (x3_2, x4_3, i_4) => if x4_3 < (i_4 1631 5) then (if x3_2 < x2 then (grd x4_3 2000 ((f_Gu_freshBy (i_4 1634 (ix x4_3)) x1).bind (fun v_14 => grd v_14 100 (bnd (wr i_4 1635 (ix v_14) ((i_4 1635 (ix v_14)) + (1 : Int32))) (fun i_17 => (f_J_max x3_2 (i_17 1635 (ix v_14))).bind (fun v_18 => some (.inl (v_18, (x4_3 + (1 : Int32)), i_17)))))))) else (some (.inr (x3_2, i_4)))) else (some (.inr (x3_2, i_4)))) 1000000 ((0 : Int32), (0 : Int32), i_1)).bind (fun (x3_6, i_7) => some (x3_6, i_7)))
set_option maxHeartbeats 4000000 in
theorem c_Gu_greatestPart {n u : Nat} {t : MT} {i : MI} {r : MR} (s : Sh n t r) (x1 : Int32) (x2 : Int32) : Cn 3 16 [.ref 1631, .int x1, .int x2] (n, u, t, i, r) (f_Gu_greatestPart i x1 x2) (F_i1 n u t r) PT := by
  refine cn_of (Y := K_Gu_greatestPart) (L0 := [.ref 1631, .int x1, .int x2, uV, uV, uV]) rfl rfl rfl ?_
  intro d hd
  unfold f_Gu_greatestPart
  refine ge_run (pc' := 1) (L' := [.ref 1631, .int x1, .int x2, uV, uV, uV]) (S' := [.ref 1631]) 1 rfl ?_
  refine ge_getR (b := 1635) rfl (t1631 s) rfl (r1631_3 s) (Nat.le_of_ble_eq_true rfl) ?_
  refine ge_run (pc' := 3) (L' := [.ref 1631, .int x1, .int x2, uV, uV, uV]) (S' := [.int (0 : Int32), .ref 1635]) 1 rfl ?_
  refine ge_cs rfl rfl rfl rfl rfl rfl (D := 1) (Nat.le_trans (by decide) hd) (c_J_fill (n := n) (u := u) (t := t) (i := i) (r := r) s 1635 100 (t1635 s) (Nat.le_of_ble_eq_true rfl) (0 : Int32)) ?_
  rintro i_1 -
  dsimp only [bkE, F_v1]
  refine ge_run (pc' := 8) (L' := [.ref 1631, .int x1, .int x2, .int (0 : Int32), .int (0 : Int32), uV]) (S' := []) 4 rfl ?_
  refine ge_bind (K1 := fun (q : Int32 × MI) e => ∃ w_8 w_9 : Value, e = .inl (39, [.ref 1631, .int x1, .int x2, .int q.1, w_8, w_9], [], (n, u, t, q.2, r))) (ge_itr (C := fun (q : Int32 × Int32 × MI) e => ∃ w_5 : Value, e = .inl (8, [.ref 1631, .int x1, .int x2, .int q.1, .int q.2.1, w_5], [], (n, u, t, q.2.2, r))) ?_ _ _ _ (Exists.intro _ rfl)) ?_
  · rintro ⟨x3_2, x4_3, i_4⟩ _ ⟨w_5, rfl⟩
    try dsimp only
    refine ge_run (pc' := 10) (L' := [.ref 1631, .int x1, .int x2, .int x3_2, .int x4_3, w_5]) (S' := [.ref 1631, .int x4_3]) 2 rfl ?_
    refine ge_getI rfl (t1631 s) rfl ?_
    refine ge_ge rfl (fun h_10 => ?_) (fun h_20 => ?_)
    · refine ge_run (pc' := 14) (L' := [.ref 1631, .int x1, .int x2, .int x3_2, .int x4_3, w_5]) (S' := [.int x2, .int x3_2]) 2 rfl ?_
      refine ge_ge rfl (fun h_11 => ?_) (fun h_19 => ?_)
      · refine ge_run (pc' := 16) (L' := [.ref 1631, .int x1, .int x2, .int x3_2, .int x4_3, w_5]) (S' := [.ref 1631]) 1 rfl ?_
        refine ge_getR (b := 1634) rfl (t1631 s) rfl (r1631_2 s) (Nat.le_of_ble_eq_true rfl) ?_
        refine ge_run (pc' := 18) (L' := [.ref 1631, .int x1, .int x2, .int x3_2, .int x4_3, w_5]) (S' := [.int x4_3, .ref 1634]) 1 rfl ?_
        refine ge_grd (fun g_12 g_13 => ?_)
        refine ge_iald (jn := (ix x4_3)) rfl (t1634 s) ⟨g_12, rfl⟩ g_13 ?_
        refine ge_run (pc' := 20) (L' := [.ref 1631, .int x1, .int x2, .int x3_2, .int x4_3, w_5]) (S' := [.int x1, .int (i_4 1634 (ix x4_3))]) 1 rfl ?_
        refine ge_cs rfl rfl rfl rfl rfl rfl (D := 2) (Nat.le_trans (by decide) hd) (c_Gu_freshBy (n := n) (u := u) (t := t) (i := i_4) (r := r) s (i_4 1634 (ix x4_3)) x1) ?_
        rintro v_14 -
        dsimp only [bkE, F_i0]
        refine ge_run (pc' := 23) (L' := [.ref 1631, .int x1, .int x2, .int x3_2, .int x4_3, .int v_14]) (S' := [.ref 1631]) 2 rfl ?_
        refine ge_getR (b := 1635) rfl (t1631 s) rfl (r1631_3 s) (Nat.le_of_ble_eq_true rfl) ?_
        refine ge_run (pc' := 26) (L' := [.ref 1631, .int x1, .int x2, .int x3_2, .int x4_3, .int v_14]) (S' := [.int v_14, .ref 1635, .int v_14, .ref 1635]) 2 rfl ?_
        refine ge_grd (fun g_15 g_16 => ?_)
        refine ge_iald (jn := (ix v_14)) rfl (t1635 s) ⟨g_15, rfl⟩ g_16 ?_
        refine ge_run (pc' := 29) (L' := [.ref 1631, .int x1, .int x2, .int x3_2, .int x4_3, .int v_14]) (S' := [.int ((i_4 1635 (ix v_14)) + (1 : Int32)), .int v_14, .ref 1635]) 2 rfl ?_
        refine ge_iast (jn := (ix v_14)) rfl (t1635 s) (Nat.le_of_ble_eq_true rfl) ⟨g_15, rfl⟩ g_16 (fun i_17 => ?_)
        refine ge_run (pc' := 32) (L' := [.ref 1631, .int x1, .int x2, .int x3_2, .int x4_3, .int v_14]) (S' := [.ref 1631, .int x3_2]) 2 rfl ?_
        refine ge_getR (b := 1635) rfl (t1631 s) rfl (r1631_3 s) (Nat.le_of_ble_eq_true rfl) ?_
        refine ge_run (pc' := 34) (L' := [.ref 1631, .int x1, .int x2, .int x3_2, .int x4_3, .int v_14]) (S' := [.int v_14, .ref 1635, .int x3_2]) 1 rfl ?_
        refine ge_iald (jn := (ix v_14)) rfl (t1635 s) ⟨g_15, rfl⟩ g_16 ?_
        refine ge_cs rfl rfl rfl rfl rfl rfl (D := 1) (Nat.le_trans (by decide) hd) (c_J_max (n := n) (u := u) (t := t) (i := i_17) (r := r) s x3_2 (i_17 1635 (ix v_14))) ?_
        rintro v_18 -
        dsimp only [bkE, F_i0]
        refine ge_run (pc' := 8) (L' := [.ref 1631, .int x1, .int x2, .int v_18, .int (x4_3 + (1 : Int32)), .int v_14]) (S' := []) 3 rfl ?_
        exact ge_leaf (K := kX _ _) (Exists.intro _ rfl)
      · exact ge_leaf (K := kX _ _) (Exists.intro _ (Exists.intro _ rfl))
    · exact ge_leaf (K := kX _ _) (Exists.intro _ (Exists.intro _ rfl))
  · rintro ⟨x3_6, i_7⟩ _ ⟨w_8, w_9, rfl⟩
    try dsimp only
    refine ge_run (pc' := 40) (L' := [.ref 1631, .int x1, .int x2, .int x3_6, w_8, w_9]) (S' := [.int x3_6]) 1 rfl ?_
    exact ge_ret rfl rfl (And.intro rfl trivial)
def f_Gu_bestQuestion (i : MI) : Option (Int32 × MI) :=
  if (i 1631 5) < (2 : Int32) then (some ((-1 : Int32), i)) else ((itr (σ := Int32 × Int32 × Int32 × MI) (ρ := Int32 × MI) (fun (x1_3, x2_4, x3_5, i_6) => if x3_5 < (100 : Int32) then ((f_Gu_greatestPart i_6 x3_5 x2_4).bind (fun (v_14, i_15) => (if v_14 < x2_4 then (some (x3_5, v_14)) else (some (x1_3, x2_4)) : Option (Int32 × Int32)).bind (fun (x1_16, x2_17) => some (.inl (x1_16, x2_17, (x3_5 + (1 : Int32)), i_15))))) else (some (.inr (x1_3, i_6)))) 1000000 ((-1 : Int32), ((i 1631 5) + (1 : Int32)), (0 : Int32), i)).bind (fun (x1_8, i_9) => some (x1_8, i_9)))
set_option maxHeartbeats 4000000 in
theorem c_Gu_bestQuestion {n u : Nat} {t : MT} {i : MI} {r : MR} (s : Sh n t r)  : Cn 4 15 [.ref 1631] (n, u, t, i, r) (f_Gu_bestQuestion i ) (F_i1 n u t r) PT := by
  refine cn_of (Y := K_Gu_bestQuestion) (L0 := [.ref 1631, uV, uV, uV, uV]) rfl rfl rfl ?_
  intro d hd
  unfold f_Gu_bestQuestion
  refine ge_run (pc' := 1) (L' := [.ref 1631, uV, uV, uV, uV]) (S' := [.ref 1631]) 1 rfl ?_
  refine ge_getI rfl (t1631 s) rfl ?_
  refine ge_run (pc' := 3) (L' := [.ref 1631, uV, uV, uV, uV]) (S' := [.int (2 : Int32), .int (i 1631 5)]) 1 rfl ?_
  refine ge_ge rfl (fun h_1 => ?_) (fun h_2 => ?_)
  · refine ge_run (pc' := 5) (L' := [.ref 1631, uV, uV, uV, uV]) (S' := [.int (-1 : Int32)]) 1 rfl ?_
    exact ge_ret rfl rfl (And.intro rfl trivial)
  · refine ge_run (pc' := 9) (L' := [.ref 1631, .int (-1 : Int32), uV, uV, uV]) (S' := [.ref 1631]) 3 rfl ?_
    refine ge_getI rfl (t1631 s) rfl ?_
    refine ge_run (pc' := 15) (L' := [.ref 1631, .int (-1 : Int32), .int ((i 1631 5) + (1 : Int32)), .int (0 : Int32), uV]) (S' := []) 5 rfl ?_
    refine ge_bind (K1 := fun (q : Int32 × MI) e => ∃ w_10 w_11 w_12 : Value, e = .inl (32, [.ref 1631, .int q.1, w_10, w_11, w_12], [], (n, u, t, q.2, r))) (ge_itr (C := fun (q : Int32 × Int32 × Int32 × MI) e => ∃ w_7 : Value, e = .inl (15, [.ref 1631, .int q.1, .int q.2.1, .int q.2.2.1, w_7], [], (n, u, t, q.2.2.2, r))) ?_ _ _ _ (Exists.intro _ rfl)) ?_
    · rintro ⟨x1_3, x2_4, x3_5, i_6⟩ _ ⟨w_7, rfl⟩
      try dsimp only
      refine ge_run (pc' := 17) (L' := [.ref 1631, .int x1_3, .int x2_4, .int x3_5, w_7]) (S' := [.int (100 : Int32), .int x3_5]) 2 rfl ?_
      refine ge_ge rfl (fun h_13 => ?_) (fun h_20 => ?_)
      · refine ge_run (pc' := 21) (L' := [.ref 1631, .int x1_3, .int x2_4, .int x3_5, w_7]) (S' := [.int x2_4, .int x3_5, .ref 1631]) 3 rfl ?_
        refine ge_cv rfl rfl rfl (t1631 s) rfl rfl rfl (D := 3) (Nat.le_trans (by decide) hd) (c_Gu_greatestPart (n := n) (u := u) (t := t) (i := i_6) (r := r) s x3_5 x2_4) ?_
        rintro ⟨v_14, i_15⟩ -
        dsimp only [bkE, F_i1]
        refine ge_run (pc' := 25) (L' := [.ref 1631, .int x1_3, .int x2_4, .int x3_5, .int v_14]) (S' := [.int x2_4, .int v_14]) 3 rfl ?_
        refine ge_bind (K1 := fun (q : Int32 × Int32) e => e = .inl (30, [.ref 1631, .int q.1, .int q.2, .int x3_5, .int v_14], [], (n, u, t, i_15, r))) ?_ ?_
        · refine ge_ge rfl (fun h_18 => ?_) (fun h_19 => ?_)
          · refine ge_run (pc' := 30) (L' := [.ref 1631, .int x3_5, .int v_14, .int x3_5, .int v_14]) (S' := []) 4 rfl ?_
            exact ge_leaf rfl
          · exact ge_leaf rfl
        · rintro ⟨x1_16, x2_17⟩ _ rfl
          try dsimp only
          refine ge_run (pc' := 15) (L' := [.ref 1631, .int x1_16, .int x2_17, .int (x3_5 + (1 : Int32)), .int v_14]) (S' := []) 2 rfl ?_
          exact ge_leaf (K := kX _ _) (Exists.intro _ rfl)
      · exact ge_leaf (K := kX _ _) (Exists.intro _ (Exists.intro _ (Exists.intro _ rfl)))
    · rintro ⟨x1_8, i_9⟩ _ ⟨w_10, w_11, w_12, rfl⟩
      try dsimp only
      refine ge_run (pc' := 33) (L' := [.ref 1631, .int x1_8, w_10, w_11, w_12]) (S' := [.int x1_8]) 1 rfl ?_
      exact ge_ret rfl rfl (And.intro rfl trivial)
def f_La_holds (t : MT) (i : MI) (l : Nat) (x1 : Int32) (b2 : Nat) (x3 : Int32) (x4 : Int32) : Option (Int32 × MI) :=
  grd x1 (t (l + 4)).2 ((itr (σ := Int32 × Int32 × MI) (ρ := Int32 × MI) (fun (x5_3, x6_4, i_5) => grd (x1 + (1 : Int32)) (t (l + 4)).2 (if x6_4 < (i_5 (l + 4) (ix (x1 + (1 : Int32)))) then (grd x6_4 (t (l + 5)).2 ((if (-12 : Int32) < (i_5 (l + 5) (ix x6_4)) then (some (x5_3, (0 : Int32))) else (if 0 < x5_3 then (grd (x5_3 + (-1 : Int32)) 32 (some ((x5_3 + (-1 : Int32)), (i_5 (l + 1) (ix (x5_3 + (-1 : Int32))))))) else (some (x5_3, (0 : Int32)))) : Option (Int32 × Int32)).bind (fun (x5_22, y_23) => (if (-11 : Int32) < (i_5 (l + 5) (ix x6_4)) then (some (x5_22, (0 : Int32))) else (if 0 < x5_22 then (grd (x5_22 + (-1 : Int32)) 32 (some ((x5_22 + (-1 : Int32)), (i_5 (l + 1) (ix (x5_22 + (-1 : Int32))))))) else (some (x5_22, (0 : Int32)))) : Option (Int32 × Int32)).bind (fun (x5_30, y_31) => (sw (i_5 (l + 5) (ix x6_4)) (-16) [(some (y_31 ||| y_23)), (some (y_31 &&& y_23)), ((if y_23 < y_31 then (some (1 : Int32)) else (some (0 : Int32)) : Option (Int32)).bind (fun y_42 => some y_42)), ((if y_31 < y_23 then (some (1 : Int32)) else (some (0 : Int32)) : Option (Int32)).bind (fun y_46 => some y_46)), (some (y_31 + y_23)), (some ((1 : Int32) - y_31)), (grd x3 8 ((if (i_5 (b2 + 3 + (ix x3)) 1) < (7 : Int32) then (some (0 : Int32)) else (some (1 : Int32)) : Option (Int32)).bind (fun y_54 => some y_54))), (grd x3 8 ((if (i_5 (b2 + 3 + (ix x3)) 3) = (2 : Int32) then (some (1 : Int32)) else (some (0 : Int32)) : Option (Int32)).bind (fun y_60 => some y_60))), ((if 0 < (i_5 b2 12) then (some (1 : Int32)) else (some (0 : Int32)) : Option (Int32)).bind (fun y_64 => some y_64)), (some (rm (i_5 b2 14) (100 : Int32))), (some x4), (some (i_5 b2 12)), (grd x3 8 (some (i_5 (b2 + 3 + (ix x3)) 2))), (grd x3 8 (some (i_5 (b2 + 3 + (ix x3)) 1))), (grd x3 8 (some (i_5 (b2 + 3 + (ix x3)) 0))), (some x3)] ((some (i_5 (l + 5) (ix x6_4)))) : Option (Int32)).bind (fun x10_38 => (if x5_30 < (32 : Int32) then (grd x5_30 32 (bnd (wr i_5 (l + 1) (ix x5_30) x10_38) (fun i_86 => some ((x5_30 + (1 : Int32)), i_86)))) else (some (x5_30, i_5)) : Option (Int32 × MI)).bind (fun (x5_81, i_82) => some (.inl (x5_81, (x6_4 + (1 : Int32)), i_82)))))))) else (some (.inr (x5_3, i_5))))) 1000000 ((0 : Int32), (i (l + 4) (ix x1)), i)).bind (fun (x5_10, i_11) => if x5_10 = 0 then (some ((1 : Int32), i_11)) else (if (i_11 (l + 1) 0) = 0 then (some ((0 : Int32), i_11)) else (some ((1 : Int32), i_11)))))
set_option maxHeartbeats 4000000 in
theorem c_La_holds {n u : Nat} {t : MT} {i : MI} {r : MR} (s : Sh n t r) (l : Nat) (hl : isLw n t r l) (x1 : Int32) (b2 : Nat) (hb2 : SeaAd b2) (x3 : Int32) (x4 : Int32) : Cn 1 20 [.ref l, .int x1, .ref b2, .int x3, .int x4] (n, u, t, i, r) (f_La_holds t i l x1 b2 x3 x4) (F_i1 n u t r) PT := by
  refine cn_of (Y := K_La_holds) (L0 := [.ref l, .int x1, .ref b2, .int x3, .int x4, uV, uV, uV, uV, uV, uV]) rfl rfl rfl ?_
  intro d hd
  unfold f_La_holds
  refine ge_run (pc' := 3) (L' := [.ref l, .int x1, .ref b2, .int x3, .int x4, .int (0 : Int32), uV, uV, uV, uV, uV]) (S' := [.ref l]) 3 rfl ?_
  refine ge_getR (b := (l + 4)) rfl (lT hl) rfl (lR3 hl) (lgeo hl) ?_
  refine ge_run (pc' := 5) (L' := [.ref l, .int x1, .ref b2, .int x3, .int x4, .int (0 : Int32), uV, uV, uV, uV, uV]) (S' := [.int x1, .ref (l + 4)]) 1 rfl ?_
  refine ge_grd (fun g_1 g_2 => ?_)
  refine ge_iald (jn := (ix x1)) rfl (lT4 hl) ⟨g_1, rfl⟩ g_2 ?_
  refine ge_run (pc' := 7) (L' := [.ref l, .int x1, .ref b2, .int x3, .int x4, .int (0 : Int32), .int (i (l + 4) (ix x1)), uV, uV, uV, uV]) (S' := []) 1 rfl ?_
  refine ge_bind (K1 := fun (q : Int32 × MI) e => ∃ w_12 w_13 w_14 w_15 w_16 : Value, e = .inl (171, [.ref l, .int x1, .ref b2, .int x3, .int x4, .int q.1, w_12, w_13, w_14, w_15, w_16], [], (n, u, t, q.2, r))) (ge_itr (C := fun (q : Int32 × Int32 × MI) e => ∃ w_6 w_7 w_8 w_9 : Value, e = .inl (7, [.ref l, .int x1, .ref b2, .int x3, .int x4, .int q.1, .int q.2.1, w_6, w_7, w_8, w_9], [], (n, u, t, q.2.2, r))) ?_ _ _ _ (Exists.intro _ (Exists.intro _ (Exists.intro _ (Exists.intro _ rfl))))) ?_
  · rintro ⟨x5_3, x6_4, i_5⟩ _ ⟨w_6, w_7, w_8, w_9, rfl⟩
    try dsimp only
    refine ge_run (pc' := 9) (L' := [.ref l, .int x1, .ref b2, .int x3, .int x4, .int x5_3, .int x6_4, w_6, w_7, w_8, w_9]) (S' := [.ref l, .int x6_4]) 2 rfl ?_
    refine ge_getR (b := (l + 4)) rfl (lT hl) rfl (lR3 hl) (lgeo hl) ?_
    refine ge_run (pc' := 13) (L' := [.ref l, .int x1, .ref b2, .int x3, .int x4, .int x5_3, .int x6_4, w_6, w_7, w_8, w_9]) (S' := [.int (x1 + (1 : Int32)), .ref (l + 4), .int x6_4]) 3 rfl ?_
    refine ge_grd (fun g_17 g_18 => ?_)
    refine ge_iald (jn := (ix (x1 + (1 : Int32)))) rfl (lT4 hl) ⟨g_17, rfl⟩ g_18 ?_
    refine ge_ge rfl (fun h_19 => ?_) (fun h_88 => ?_)
    · refine ge_run (pc' := 16) (L' := [.ref l, .int x1, .ref b2, .int x3, .int x4, .int x5_3, .int x6_4, w_6, w_7, w_8, w_9]) (S' := [.ref l]) 1 rfl ?_
      refine ge_getR (b := (l + 5)) rfl (lT hl) rfl (lR4 hl) (lgeo hl) ?_
      refine ge_run (pc' := 18) (L' := [.ref l, .int x1, .ref b2, .int x3, .int x4, .int x5_3, .int x6_4, w_6, w_7, w_8, w_9]) (S' := [.int x6_4, .ref (l + 5)]) 1 rfl ?_
      refine ge_grd (fun g_20 g_21 => ?_)
      refine ge_iald (jn := (ix x6_4)) rfl (lT5 hl) ⟨g_20, rfl⟩ g_21 ?_
      refine ge_run (pc' := 22) (L' := [.ref l, .int x1, .ref b2, .int x3, .int x4, .int x5_3, .int x6_4, .int (i_5 (l + 5) (ix x6_4)), w_7, w_8, w_9]) (S' := [.int (-12 : Int32), .int (i_5 (l + 5) (ix x6_4))]) 3 rfl ?_
      refine ge_bind (K1 := fun (q : Int32 × Int32) e => e = .inl (32, [.ref l, .int x1, .ref b2, .int x3, .int x4, .int q.1, .int x6_4, .int (i_5 (l + 5) (ix x6_4)), w_7, w_8, w_9], [.int q.2], (n, u, t, i_5, r))) ?_ ?_
      · refine ge_gt rfl (fun h_24 => ?_) (fun h_25 => ?_)
        · refine ge_run (pc' := 32) (L' := [.ref l, .int x1, .ref b2, .int x3, .int x4, .int x5_3, .int x6_4, .int (i_5 (l + 5) (ix x6_4)), w_7, w_8, w_9]) (S' := [.int (0 : Int32)]) 1 rfl ?_
          exact ge_leaf rfl
        · refine ge_run (pc' := 24) (L' := [.ref l, .int x1, .ref b2, .int x3, .int x4, .int x5_3, .int x6_4, .int (i_5 (l + 5) (ix x6_4)), w_7, w_8, w_9]) (S' := [.int x5_3]) 1 rfl ?_
          refine ge_le0 rfl (fun h_26 => ?_) (fun h_29 => ?_)
          · refine ge_run (pc' := 26) (L' := [.ref l, .int x1, .ref b2, .int x3, .int x4, .int x5_3, .int x6_4, .int (i_5 (l + 5) (ix x6_4)), w_7, w_8, w_9]) (S' := [.ref l]) 1 rfl ?_
            refine ge_getR (b := (l + 1)) rfl (lT hl) rfl (lR5 hl) (lgeo hl) ?_
            refine ge_run (pc' := 29) (L' := [.ref l, .int x1, .ref b2, .int x3, .int x4, .int (x5_3 + (-1 : Int32)), .int x6_4, .int (i_5 (l + 5) (ix x6_4)), w_7, w_8, w_9]) (S' := [.int (x5_3 + (-1 : Int32)), .ref (l + 1)]) 2 rfl ?_
            refine ge_grd (fun g_27 g_28 => ?_)
            refine ge_iald (jn := (ix (x5_3 + (-1 : Int32)))) rfl (lT1 hl) ⟨g_27, rfl⟩ g_28 ?_
            refine ge_run (pc' := 32) (L' := [.ref l, .int x1, .ref b2, .int x3, .int x4, .int (x5_3 + (-1 : Int32)), .int x6_4, .int (i_5 (l + 5) (ix x6_4)), w_7, w_8, w_9]) (S' := [.int (i_5 (l + 1) (ix (x5_3 + (-1 : Int32))))]) 1 rfl ?_
            exact ge_leaf rfl
          · refine ge_run (pc' := 32) (L' := [.ref l, .int x1, .ref b2, .int x3, .int x4, .int x5_3, .int x6_4, .int (i_5 (l + 5) (ix x6_4)), w_7, w_8, w_9]) (S' := [.int (0 : Int32)]) 1 rfl ?_
            exact ge_leaf rfl
      · rintro ⟨x5_22, y_23⟩ _ rfl
        try dsimp only
        refine ge_run (pc' := 35) (L' := [.ref l, .int x1, .ref b2, .int x3, .int x4, .int x5_22, .int x6_4, .int (i_5 (l + 5) (ix x6_4)), .int y_23, w_8, w_9]) (S' := [.int (-11 : Int32), .int (i_5 (l + 5) (ix x6_4))]) 3 rfl ?_
        refine ge_bind (K1 := fun (q : Int32 × Int32) e => e = .inl (45, [.ref l, .int x1, .ref b2, .int x3, .int x4, .int q.1, .int x6_4, .int (i_5 (l + 5) (ix x6_4)), .int y_23, w_8, w_9], [.int q.2], (n, u, t, i_5, r))) ?_ ?_
        · refine ge_gt rfl (fun h_32 => ?_) (fun h_33 => ?_)
          · refine ge_run (pc' := 45) (L' := [.ref l, .int x1, .ref b2, .int x3, .int x4, .int x5_22, .int x6_4, .int (i_5 (l + 5) (ix x6_4)), .int y_23, w_8, w_9]) (S' := [.int (0 : Int32)]) 1 rfl ?_
            exact ge_leaf rfl
          · refine ge_run (pc' := 37) (L' := [.ref l, .int x1, .ref b2, .int x3, .int x4, .int x5_22, .int x6_4, .int (i_5 (l + 5) (ix x6_4)), .int y_23, w_8, w_9]) (S' := [.int x5_22]) 1 rfl ?_
            refine ge_le0 rfl (fun h_34 => ?_) (fun h_37 => ?_)
            · refine ge_run (pc' := 39) (L' := [.ref l, .int x1, .ref b2, .int x3, .int x4, .int x5_22, .int x6_4, .int (i_5 (l + 5) (ix x6_4)), .int y_23, w_8, w_9]) (S' := [.ref l]) 1 rfl ?_
              refine ge_getR (b := (l + 1)) rfl (lT hl) rfl (lR5 hl) (lgeo hl) ?_
              refine ge_run (pc' := 42) (L' := [.ref l, .int x1, .ref b2, .int x3, .int x4, .int (x5_22 + (-1 : Int32)), .int x6_4, .int (i_5 (l + 5) (ix x6_4)), .int y_23, w_8, w_9]) (S' := [.int (x5_22 + (-1 : Int32)), .ref (l + 1)]) 2 rfl ?_
              refine ge_grd (fun g_35 g_36 => ?_)
              refine ge_iald (jn := (ix (x5_22 + (-1 : Int32)))) rfl (lT1 hl) ⟨g_35, rfl⟩ g_36 ?_
              refine ge_run (pc' := 45) (L' := [.ref l, .int x1, .ref b2, .int x3, .int x4, .int (x5_22 + (-1 : Int32)), .int x6_4, .int (i_5 (l + 5) (ix x6_4)), .int y_23, w_8, w_9]) (S' := [.int (i_5 (l + 1) (ix (x5_22 + (-1 : Int32))))]) 1 rfl ?_
              exact ge_leaf rfl
            · refine ge_run (pc' := 45) (L' := [.ref l, .int x1, .ref b2, .int x3, .int x4, .int x5_22, .int x6_4, .int (i_5 (l + 5) (ix x6_4)), .int y_23, w_8, w_9]) (S' := [.int (0 : Int32)]) 1 rfl ?_
              exact ge_leaf rfl
        · rintro ⟨x5_30, y_31⟩ _ rfl
          try dsimp only
          refine ge_run (pc' := 47) (L' := [.ref l, .int x1, .ref b2, .int x3, .int x4, .int x5_30, .int x6_4, .int (i_5 (l + 5) (ix x6_4)), .int y_23, .int y_31, w_9]) (S' := [.int (i_5 (l + 5) (ix x6_4))]) 2 rfl ?_
          refine ge_bind (K1 := fun (q : Int32) e => e = .inl (160, [.ref l, .int x1, .ref b2, .int x3, .int x4, .int x5_30, .int x6_4, .int (i_5 (l + 5) (ix x6_4)), .int y_23, .int y_31, .int q], [], (n, u, t, i_5, r))) ?_ ?_
          · refine ge_sw rfl rfl (And.intro ?_ (And.intro ?_ (And.intro ?_ (And.intro ?_ (And.intro ?_ (And.intro ?_ (And.intro ?_ (And.intro ?_ (And.intro ?_ (And.intro ?_ (And.intro ?_ (And.intro ?_ (And.intro ?_ (And.intro ?_ (And.intro ?_ (And.intro ?_ trivial)))))))))))))))) ?_
            · refine ge_run (pc' := 160) (L' := [.ref l, .int x1, .ref b2, .int x3, .int x4, .int x5_30, .int x6_4, .int (i_5 (l + 5) (ix x6_4)), .int y_23, .int y_31, .int (y_31 ||| y_23)]) (S' := []) 5 rfl ?_
              exact ge_leaf rfl
            · refine ge_run (pc' := 160) (L' := [.ref l, .int x1, .ref b2, .int x3, .int x4, .int x5_30, .int x6_4, .int (i_5 (l + 5) (ix x6_4)), .int y_23, .int y_31, .int (y_31 &&& y_23)]) (S' := []) 5 rfl ?_
              exact ge_leaf rfl
            · refine ge_run (pc' := 142) (L' := [.ref l, .int x1, .ref b2, .int x3, .int x4, .int x5_30, .int x6_4, .int (i_5 (l + 5) (ix x6_4)), .int y_23, .int y_31, w_9]) (S' := [.int y_23, .int y_31]) 2 rfl ?_
              refine ge_bind (K1 := fun (q : Int32) e => e = .inl (146, [.ref l, .int x1, .ref b2, .int x3, .int x4, .int x5_30, .int x6_4, .int (i_5 (l + 5) (ix x6_4)), .int y_23, .int y_31, w_9], [.int q], (n, u, t, i_5, r))) ?_ ?_
              · refine ge_le rfl (fun h_43 => ?_) (fun h_44 => ?_)
                · refine ge_run (pc' := 146) (L' := [.ref l, .int x1, .ref b2, .int x3, .int x4, .int x5_30, .int x6_4, .int (i_5 (l + 5) (ix x6_4)), .int y_23, .int y_31, w_9]) (S' := [.int (1 : Int32)]) 2 rfl ?_
                  exact ge_leaf rfl
                · refine ge_run (pc' := 146) (L' := [.ref l, .int x1, .ref b2, .int x3, .int x4, .int x5_30, .int x6_4, .int (i_5 (l + 5) (ix x6_4)), .int y_23, .int y_31, w_9]) (S' := [.int (0 : Int32)]) 1 rfl ?_
                  exact ge_leaf rfl
              · rintro y_42 _ rfl
                try dsimp only
                refine ge_run (pc' := 160) (L' := [.ref l, .int x1, .ref b2, .int x3, .int x4, .int x5_30, .int x6_4, .int (i_5 (l + 5) (ix x6_4)), .int y_23, .int y_31, .int y_42]) (S' := []) 2 rfl ?_
                exact ge_leaf rfl
            · refine ge_run (pc' := 134) (L' := [.ref l, .int x1, .ref b2, .int x3, .int x4, .int x5_30, .int x6_4, .int (i_5 (l + 5) (ix x6_4)), .int y_23, .int y_31, w_9]) (S' := [.int y_23, .int y_31]) 2 rfl ?_
              refine ge_bind (K1 := fun (q : Int32) e => e = .inl (138, [.ref l, .int x1, .ref b2, .int x3, .int x4, .int x5_30, .int x6_4, .int (i_5 (l + 5) (ix x6_4)), .int y_23, .int y_31, w_9], [.int q], (n, u, t, i_5, r))) ?_ ?_
              · refine ge_ge rfl (fun h_47 => ?_) (fun h_48 => ?_)
                · refine ge_run (pc' := 138) (L' := [.ref l, .int x1, .ref b2, .int x3, .int x4, .int x5_30, .int x6_4, .int (i_5 (l + 5) (ix x6_4)), .int y_23, .int y_31, w_9]) (S' := [.int (1 : Int32)]) 2 rfl ?_
                  exact ge_leaf rfl
                · refine ge_run (pc' := 138) (L' := [.ref l, .int x1, .ref b2, .int x3, .int x4, .int x5_30, .int x6_4, .int (i_5 (l + 5) (ix x6_4)), .int y_23, .int y_31, w_9]) (S' := [.int (0 : Int32)]) 1 rfl ?_
                  exact ge_leaf rfl
              · rintro y_46 _ rfl
                try dsimp only
                refine ge_run (pc' := 160) (L' := [.ref l, .int x1, .ref b2, .int x3, .int x4, .int x5_30, .int x6_4, .int (i_5 (l + 5) (ix x6_4)), .int y_23, .int y_31, .int y_46]) (S' := []) 2 rfl ?_
                exact ge_leaf rfl
            · refine ge_run (pc' := 160) (L' := [.ref l, .int x1, .ref b2, .int x3, .int x4, .int x5_30, .int x6_4, .int (i_5 (l + 5) (ix x6_4)), .int y_23, .int y_31, .int (y_31 + y_23)]) (S' := []) 5 rfl ?_
              exact ge_leaf rfl
            · refine ge_run (pc' := 160) (L' := [.ref l, .int x1, .ref b2, .int x3, .int x4, .int x5_30, .int x6_4, .int (i_5 (l + 5) (ix x6_4)), .int y_23, .int y_31, .int ((1 : Int32) - y_31)]) (S' := []) 5 rfl ?_
              exact ge_leaf rfl
            · refine ge_run (pc' := 110) (L' := [.ref l, .int x1, .ref b2, .int x3, .int x4, .int x5_30, .int x6_4, .int (i_5 (l + 5) (ix x6_4)), .int y_23, .int y_31, w_9]) (S' := [.ref b2]) 1 rfl ?_
              refine ge_getR (b := (b2 + 2)) rfl (sT0 s hb2) rfl (sR1 s hb2) (sge hb2) ?_
              refine ge_run (pc' := 112) (L' := [.ref l, .int x1, .ref b2, .int x3, .int x4, .int x5_30, .int x6_4, .int (i_5 (l + 5) (ix x6_4)), .int y_23, .int y_31, w_9]) (S' := [.int x3, .ref (b2 + 2)]) 1 rfl ?_
              refine ge_grd (fun g_52 g_53 => ?_)
              refine ge_aald (jn := (ix x3)) (b := (b2 + 3 + (ix x3))) rfl (sT2 s hb2) (Or.inl rfl) ⟨g_52, rfl⟩ g_53 (sRr_fish s hb2 g_53) (sge2 hb2) ?_
              refine ge_run (pc' := 114) (L' := [.ref l, .int x1, .ref b2, .int x3, .int x4, .int x5_30, .int x6_4, .int (i_5 (l + 5) (ix x6_4)), .int y_23, .int y_31, w_9]) (S' := [.int (1 : Int32), .ref (b2 + 3 + (ix x3))]) 1 rfl ?_
              refine ge_iald (jn := 1) rfl (sRow_fish s hb2 g_53) lk1 (by decide) ?_
              refine ge_run (pc' := 116) (L' := [.ref l, .int x1, .ref b2, .int x3, .int x4, .int x5_30, .int x6_4, .int (i_5 (l + 5) (ix x6_4)), .int y_23, .int y_31, w_9]) (S' := [.int (7 : Int32), .int (i_5 (b2 + 3 + (ix x3)) 1)]) 1 rfl ?_
              refine ge_bind (K1 := fun (q : Int32) e => e = .inl (120, [.ref l, .int x1, .ref b2, .int x3, .int x4, .int x5_30, .int x6_4, .int (i_5 (l + 5) (ix x6_4)), .int y_23, .int y_31, w_9], [.int q], (n, u, t, i_5, r))) ?_ ?_
              · refine ge_lt rfl (fun h_55 => ?_) (fun h_56 => ?_)
                · refine ge_run (pc' := 120) (L' := [.ref l, .int x1, .ref b2, .int x3, .int x4, .int x5_30, .int x6_4, .int (i_5 (l + 5) (ix x6_4)), .int y_23, .int y_31, w_9]) (S' := [.int (0 : Int32)]) 1 rfl ?_
                  exact ge_leaf rfl
                · refine ge_run (pc' := 120) (L' := [.ref l, .int x1, .ref b2, .int x3, .int x4, .int x5_30, .int x6_4, .int (i_5 (l + 5) (ix x6_4)), .int y_23, .int y_31, w_9]) (S' := [.int (1 : Int32)]) 2 rfl ?_
                  exact ge_leaf rfl
              · rintro y_54 _ rfl
                try dsimp only
                refine ge_run (pc' := 160) (L' := [.ref l, .int x1, .ref b2, .int x3, .int x4, .int x5_30, .int x6_4, .int (i_5 (l + 5) (ix x6_4)), .int y_23, .int y_31, .int y_54]) (S' := []) 2 rfl ?_
                exact ge_leaf rfl
            · refine ge_run (pc' := 97) (L' := [.ref l, .int x1, .ref b2, .int x3, .int x4, .int x5_30, .int x6_4, .int (i_5 (l + 5) (ix x6_4)), .int y_23, .int y_31, w_9]) (S' := [.ref b2]) 1 rfl ?_
              refine ge_getR (b := (b2 + 2)) rfl (sT0 s hb2) rfl (sR1 s hb2) (sge hb2) ?_
              refine ge_run (pc' := 99) (L' := [.ref l, .int x1, .ref b2, .int x3, .int x4, .int x5_30, .int x6_4, .int (i_5 (l + 5) (ix x6_4)), .int y_23, .int y_31, w_9]) (S' := [.int x3, .ref (b2 + 2)]) 1 rfl ?_
              refine ge_grd (fun g_58 g_59 => ?_)
              refine ge_aald (jn := (ix x3)) (b := (b2 + 3 + (ix x3))) rfl (sT2 s hb2) (Or.inl rfl) ⟨g_58, rfl⟩ g_59 (sRr_fish s hb2 g_59) (sge2 hb2) ?_
              refine ge_run (pc' := 101) (L' := [.ref l, .int x1, .ref b2, .int x3, .int x4, .int x5_30, .int x6_4, .int (i_5 (l + 5) (ix x6_4)), .int y_23, .int y_31, w_9]) (S' := [.int (3 : Int32), .ref (b2 + 3 + (ix x3))]) 1 rfl ?_
              refine ge_iald (jn := 3) rfl (sRow_fish s hb2 g_59) lk3 (by decide) ?_
              refine ge_run (pc' := 103) (L' := [.ref l, .int x1, .ref b2, .int x3, .int x4, .int x5_30, .int x6_4, .int (i_5 (l + 5) (ix x6_4)), .int y_23, .int y_31, w_9]) (S' := [.int (2 : Int32), .int (i_5 (b2 + 3 + (ix x3)) 3)]) 1 rfl ?_
              refine ge_bind (K1 := fun (q : Int32) e => e = .inl (107, [.ref l, .int x1, .ref b2, .int x3, .int x4, .int x5_30, .int x6_4, .int (i_5 (l + 5) (ix x6_4)), .int y_23, .int y_31, w_9], [.int q], (n, u, t, i_5, r))) ?_ ?_
              · refine ge_ne rfl (fun h_61 => ?_) (fun h_62 => ?_)
                · refine ge_run (pc' := 107) (L' := [.ref l, .int x1, .ref b2, .int x3, .int x4, .int x5_30, .int x6_4, .int (i_5 (l + 5) (ix x6_4)), .int y_23, .int y_31, w_9]) (S' := [.int (1 : Int32)]) 2 rfl ?_
                  exact ge_leaf rfl
                · refine ge_run (pc' := 107) (L' := [.ref l, .int x1, .ref b2, .int x3, .int x4, .int x5_30, .int x6_4, .int (i_5 (l + 5) (ix x6_4)), .int y_23, .int y_31, w_9]) (S' := [.int (0 : Int32)]) 1 rfl ?_
                  exact ge_leaf rfl
              · rintro y_60 _ rfl
                try dsimp only
                refine ge_run (pc' := 160) (L' := [.ref l, .int x1, .ref b2, .int x3, .int x4, .int x5_30, .int x6_4, .int (i_5 (l + 5) (ix x6_4)), .int y_23, .int y_31, .int y_60]) (S' := []) 2 rfl ?_
                exact ge_leaf rfl
            · refine ge_run (pc' := 89) (L' := [.ref l, .int x1, .ref b2, .int x3, .int x4, .int x5_30, .int x6_4, .int (i_5 (l + 5) (ix x6_4)), .int y_23, .int y_31, w_9]) (S' := [.ref b2]) 1 rfl ?_
              refine ge_getI rfl (sT0 s hb2) rfl ?_
              refine ge_bind (K1 := fun (q : Int32) e => e = .inl (94, [.ref l, .int x1, .ref b2, .int x3, .int x4, .int x5_30, .int x6_4, .int (i_5 (l + 5) (ix x6_4)), .int y_23, .int y_31, w_9], [.int q], (n, u, t, i_5, r))) ?_ ?_
              · refine ge_le0 rfl (fun h_65 => ?_) (fun h_66 => ?_)
                · refine ge_run (pc' := 94) (L' := [.ref l, .int x1, .ref b2, .int x3, .int x4, .int x5_30, .int x6_4, .int (i_5 (l + 5) (ix x6_4)), .int y_23, .int y_31, w_9]) (S' := [.int (1 : Int32)]) 2 rfl ?_
                  exact ge_leaf rfl
                · refine ge_run (pc' := 94) (L' := [.ref l, .int x1, .ref b2, .int x3, .int x4, .int x5_30, .int x6_4, .int (i_5 (l + 5) (ix x6_4)), .int y_23, .int y_31, w_9]) (S' := [.int (0 : Int32)]) 1 rfl ?_
                  exact ge_leaf rfl
              · rintro y_64 _ rfl
                try dsimp only
                refine ge_run (pc' := 160) (L' := [.ref l, .int x1, .ref b2, .int x3, .int x4, .int x5_30, .int x6_4, .int (i_5 (l + 5) (ix x6_4)), .int y_23, .int y_31, .int y_64]) (S' := []) 2 rfl ?_
                exact ge_leaf rfl
            · refine ge_run (pc' := 83) (L' := [.ref l, .int x1, .ref b2, .int x3, .int x4, .int x5_30, .int x6_4, .int (i_5 (l + 5) (ix x6_4)), .int y_23, .int y_31, w_9]) (S' := [.ref b2]) 1 rfl ?_
              refine ge_getI rfl (sT0 s hb2) rfl ?_
              refine ge_run (pc' := 85) (L' := [.ref l, .int x1, .ref b2, .int x3, .int x4, .int x5_30, .int x6_4, .int (i_5 (l + 5) (ix x6_4)), .int y_23, .int y_31, w_9]) (S' := [.int (100 : Int32), .int (i_5 b2 14)]) 1 rfl ?_
              refine ge_rem rfl (by decide) ?_
              refine ge_run (pc' := 160) (L' := [.ref l, .int x1, .ref b2, .int x3, .int x4, .int x5_30, .int x6_4, .int (i_5 (l + 5) (ix x6_4)), .int y_23, .int y_31, .int (rm (i_5 b2 14) (100 : Int32))]) (S' := []) 2 rfl ?_
              exact ge_leaf rfl
            · refine ge_run (pc' := 160) (L' := [.ref l, .int x1, .ref b2, .int x3, .int x4, .int x5_30, .int x6_4, .int (i_5 (l + 5) (ix x6_4)), .int y_23, .int y_31, .int x4]) (S' := []) 3 rfl ?_
              exact ge_leaf rfl
            · refine ge_run (pc' := 76) (L' := [.ref l, .int x1, .ref b2, .int x3, .int x4, .int x5_30, .int x6_4, .int (i_5 (l + 5) (ix x6_4)), .int y_23, .int y_31, w_9]) (S' := [.ref b2]) 1 rfl ?_
              refine ge_getI rfl (sT0 s hb2) rfl ?_
              refine ge_run (pc' := 160) (L' := [.ref l, .int x1, .ref b2, .int x3, .int x4, .int x5_30, .int x6_4, .int (i_5 (l + 5) (ix x6_4)), .int y_23, .int y_31, .int (i_5 b2 12)]) (S' := []) 2 rfl ?_
              exact ge_leaf rfl
            · refine ge_run (pc' := 68) (L' := [.ref l, .int x1, .ref b2, .int x3, .int x4, .int x5_30, .int x6_4, .int (i_5 (l + 5) (ix x6_4)), .int y_23, .int y_31, w_9]) (S' := [.ref b2]) 1 rfl ?_
              refine ge_getR (b := (b2 + 2)) rfl (sT0 s hb2) rfl (sR1 s hb2) (sge hb2) ?_
              refine ge_run (pc' := 70) (L' := [.ref l, .int x1, .ref b2, .int x3, .int x4, .int x5_30, .int x6_4, .int (i_5 (l + 5) (ix x6_4)), .int y_23, .int y_31, w_9]) (S' := [.int x3, .ref (b2 + 2)]) 1 rfl ?_
              refine ge_grd (fun g_71 g_72 => ?_)
              refine ge_aald (jn := (ix x3)) (b := (b2 + 3 + (ix x3))) rfl (sT2 s hb2) (Or.inl rfl) ⟨g_71, rfl⟩ g_72 (sRr_fish s hb2 g_72) (sge2 hb2) ?_
              refine ge_run (pc' := 72) (L' := [.ref l, .int x1, .ref b2, .int x3, .int x4, .int x5_30, .int x6_4, .int (i_5 (l + 5) (ix x6_4)), .int y_23, .int y_31, w_9]) (S' := [.int (2 : Int32), .ref (b2 + 3 + (ix x3))]) 1 rfl ?_
              refine ge_iald (jn := 2) rfl (sRow_fish s hb2 g_72) lk2 (by decide) ?_
              refine ge_run (pc' := 160) (L' := [.ref l, .int x1, .ref b2, .int x3, .int x4, .int x5_30, .int x6_4, .int (i_5 (l + 5) (ix x6_4)), .int y_23, .int y_31, .int (i_5 (b2 + 3 + (ix x3)) 2)]) (S' := []) 2 rfl ?_
              exact ge_leaf rfl
            · refine ge_run (pc' := 60) (L' := [.ref l, .int x1, .ref b2, .int x3, .int x4, .int x5_30, .int x6_4, .int (i_5 (l + 5) (ix x6_4)), .int y_23, .int y_31, w_9]) (S' := [.ref b2]) 1 rfl ?_
              refine ge_getR (b := (b2 + 2)) rfl (sT0 s hb2) rfl (sR1 s hb2) (sge hb2) ?_
              refine ge_run (pc' := 62) (L' := [.ref l, .int x1, .ref b2, .int x3, .int x4, .int x5_30, .int x6_4, .int (i_5 (l + 5) (ix x6_4)), .int y_23, .int y_31, w_9]) (S' := [.int x3, .ref (b2 + 2)]) 1 rfl ?_
              refine ge_grd (fun g_74 g_75 => ?_)
              refine ge_aald (jn := (ix x3)) (b := (b2 + 3 + (ix x3))) rfl (sT2 s hb2) (Or.inl rfl) ⟨g_74, rfl⟩ g_75 (sRr_fish s hb2 g_75) (sge2 hb2) ?_
              refine ge_run (pc' := 64) (L' := [.ref l, .int x1, .ref b2, .int x3, .int x4, .int x5_30, .int x6_4, .int (i_5 (l + 5) (ix x6_4)), .int y_23, .int y_31, w_9]) (S' := [.int (1 : Int32), .ref (b2 + 3 + (ix x3))]) 1 rfl ?_
              refine ge_iald (jn := 1) rfl (sRow_fish s hb2 g_75) lk1 (by decide) ?_
              refine ge_run (pc' := 160) (L' := [.ref l, .int x1, .ref b2, .int x3, .int x4, .int x5_30, .int x6_4, .int (i_5 (l + 5) (ix x6_4)), .int y_23, .int y_31, .int (i_5 (b2 + 3 + (ix x3)) 1)]) (S' := []) 2 rfl ?_
              exact ge_leaf rfl
            · refine ge_run (pc' := 52) (L' := [.ref l, .int x1, .ref b2, .int x3, .int x4, .int x5_30, .int x6_4, .int (i_5 (l + 5) (ix x6_4)), .int y_23, .int y_31, w_9]) (S' := [.ref b2]) 1 rfl ?_
              refine ge_getR (b := (b2 + 2)) rfl (sT0 s hb2) rfl (sR1 s hb2) (sge hb2) ?_
              refine ge_run (pc' := 54) (L' := [.ref l, .int x1, .ref b2, .int x3, .int x4, .int x5_30, .int x6_4, .int (i_5 (l + 5) (ix x6_4)), .int y_23, .int y_31, w_9]) (S' := [.int x3, .ref (b2 + 2)]) 1 rfl ?_
              refine ge_grd (fun g_77 g_78 => ?_)
              refine ge_aald (jn := (ix x3)) (b := (b2 + 3 + (ix x3))) rfl (sT2 s hb2) (Or.inl rfl) ⟨g_77, rfl⟩ g_78 (sRr_fish s hb2 g_78) (sge2 hb2) ?_
              refine ge_run (pc' := 56) (L' := [.ref l, .int x1, .ref b2, .int x3, .int x4, .int x5_30, .int x6_4, .int (i_5 (l + 5) (ix x6_4)), .int y_23, .int y_31, w_9]) (S' := [.int (0 : Int32), .ref (b2 + 3 + (ix x3))]) 1 rfl ?_
              refine ge_iald (jn := 0) rfl (sRow_fish s hb2 g_78) lk0 (by decide) ?_
              refine ge_run (pc' := 160) (L' := [.ref l, .int x1, .ref b2, .int x3, .int x4, .int x5_30, .int x6_4, .int (i_5 (l + 5) (ix x6_4)), .int y_23, .int y_31, .int (i_5 (b2 + 3 + (ix x3)) 0)]) (S' := []) 2 rfl ?_
              exact ge_leaf rfl
            · refine ge_run (pc' := 160) (L' := [.ref l, .int x1, .ref b2, .int x3, .int x4, .int x5_30, .int x6_4, .int (i_5 (l + 5) (ix x6_4)), .int y_23, .int y_31, .int x3]) (S' := []) 3 rfl ?_
              exact ge_leaf rfl
            · refine ge_run (pc' := 160) (L' := [.ref l, .int x1, .ref b2, .int x3, .int x4, .int x5_30, .int x6_4, .int (i_5 (l + 5) (ix x6_4)), .int y_23, .int y_31, .int (i_5 (l + 5) (ix x6_4))]) (S' := []) 2 rfl ?_
              exact ge_leaf rfl
          · rintro x10_38 _ rfl
            try dsimp only
            refine ge_run (pc' := 162) (L' := [.ref l, .int x1, .ref b2, .int x3, .int x4, .int x5_30, .int x6_4, .int (i_5 (l + 5) (ix x6_4)), .int y_23, .int y_31, .int x10_38]) (S' := [.int (32 : Int32), .int x5_30]) 2 rfl ?_
            refine ge_bind (K1 := fun (q : Int32 × MI) e => e = .inl (169, [.ref l, .int x1, .ref b2, .int x3, .int x4, .int q.1, .int x6_4, .int (i_5 (l + 5) (ix x6_4)), .int y_23, .int y_31, .int x10_38], [], (n, u, t, q.2, r))) ?_ ?_
            · refine ge_ge rfl (fun h_83 => ?_) (fun h_87 => ?_)
              · refine ge_run (pc' := 164) (L' := [.ref l, .int x1, .ref b2, .int x3, .int x4, .int x5_30, .int x6_4, .int (i_5 (l + 5) (ix x6_4)), .int y_23, .int y_31, .int x10_38]) (S' := [.ref l]) 1 rfl ?_
                refine ge_getR (b := (l + 1)) rfl (lT hl) rfl (lR5 hl) (lgeo hl) ?_
                refine ge_run (pc' := 168) (L' := [.ref l, .int x1, .ref b2, .int x3, .int x4, .int (x5_30 + (1 : Int32)), .int x6_4, .int (i_5 (l + 5) (ix x6_4)), .int y_23, .int y_31, .int x10_38]) (S' := [.int x10_38, .int x5_30, .ref (l + 1)]) 3 rfl ?_
                refine ge_grd (fun g_84 g_85 => ?_)
                refine ge_iast (jn := (ix x5_30)) rfl (lT1 hl) (lgeo hl) ⟨g_84, rfl⟩ g_85 (fun i_86 => ?_)
                exact ge_leaf rfl
              · exact ge_leaf rfl
            · rintro ⟨x5_81, i_82⟩ _ rfl
              try dsimp only
              refine ge_run (pc' := 7) (L' := [.ref l, .int x1, .ref b2, .int x3, .int x4, .int x5_81, .int (x6_4 + (1 : Int32)), .int (i_5 (l + 5) (ix x6_4)), .int y_23, .int y_31, .int x10_38]) (S' := []) 2 rfl ?_
              exact ge_leaf (K := kX _ _) (Exists.intro _ (Exists.intro _ (Exists.intro _ (Exists.intro _ rfl))))
    · exact ge_leaf (K := kX _ _) (Exists.intro _ (Exists.intro _ (Exists.intro _ (Exists.intro _ (Exists.intro _ rfl)))))
  · rintro ⟨x5_10, i_11⟩ _ ⟨w_12, w_13, w_14, w_15, w_16, rfl⟩
    try dsimp only
    refine ge_run (pc' := 172) (L' := [.ref l, .int x1, .ref b2, .int x3, .int x4, .int x5_10, w_12, w_13, w_14, w_15, w_16]) (S' := [.int x5_10]) 1 rfl ?_
    refine ge_eq0 rfl (fun h_89 => ?_) (fun h_90 => ?_)
    · refine ge_run (pc' := 181) (L' := [.ref l, .int x1, .ref b2, .int x3, .int x4, .int x5_10, w_12, w_13, w_14, w_15, w_16]) (S' := [.int (1 : Int32)]) 2 rfl ?_
      exact ge_retz rfl rfl (Or.inr rfl) (And.intro rfl trivial)
    · refine ge_run (pc' := 174) (L' := [.ref l, .int x1, .ref b2, .int x3, .int x4, .int x5_10, w_12, w_13, w_14, w_15, w_16]) (S' := [.ref l]) 1 rfl ?_
      refine ge_getR (b := (l + 1)) rfl (lT hl) rfl (lR5 hl) (lgeo hl) ?_
      refine ge_run (pc' := 176) (L' := [.ref l, .int x1, .ref b2, .int x3, .int x4, .int x5_10, w_12, w_13, w_14, w_15, w_16]) (S' := [.int (0 : Int32), .ref (l + 1)]) 1 rfl ?_
      refine ge_iald (jn := 0) rfl (lT1 hl) lk0 (by decide) ?_
      refine ge_eq0 rfl (fun h_91 => ?_) (fun h_92 => ?_)
      · refine ge_run (pc' := 181) (L' := [.ref l, .int x1, .ref b2, .int x3, .int x4, .int x5_10, w_12, w_13, w_14, w_15, w_16]) (S' := [.int (0 : Int32)]) 1 rfl ?_
        exact ge_retz rfl rfl (Or.inl rfl) (And.intro rfl trivial)
      · refine ge_run (pc' := 181) (L' := [.ref l, .int x1, .ref b2, .int x3, .int x4, .int x5_10, w_12, w_13, w_14, w_15, w_16]) (S' := [.int (1 : Int32)]) 2 rfl ?_
        exact ge_retz rfl rfl (Or.inr rfl) (And.intro rfl trivial)
def f_La_sum (t : MT) (i : MI) (l : Nat) (x1 : Int32) (b2 : Nat) (x3 : Int32) (x4 : Int32) : Option (Int32 × MI) :=
  (itr (σ := Int32 × Int32 × MI) (ρ := Int32 × MI) (fun (x5_1, x6_2, i_3) => if x6_2 < (i_3 l 0) then (grd x6_2 (t (l + 2)).2 ((if (i_3 (l + 2) (ix x6_2)) = x1 then ((f_La_holds t i_3 l x6_2 b2 x3 x4).bind (fun (v_13, i_14) => if v_13 = 0 then (some (x5_1, i_14)) else (grd x6_2 (t (l + 3)).2 (some ((x5_1 + (i_14 (l + 3) (ix x6_2))), i_14))))) else (some (x5_1, i_3)) : Option (Int32 × MI)).bind (fun (x5_10, i_11) => some (.inl (x5_10, (x6_2 + (1 : Int32)), i_11))))) else (some (.inr (x5_1, i_3)))) 1000000 ((0 : Int32), (0 : Int32), i)).bind (fun (x5_4, i_5) => some (x5_4, i_5))
set_option maxHeartbeats 4000000 in
theorem c_La_sum {n u : Nat} {t : MT} {i : MI} {r : MR} (s : Sh n t r) (l : Nat) (hl : isLw n t r l) (x1 : Int32) (b2 : Nat) (hb2 : SeaAd b2) (x3 : Int32) (x4 : Int32) : Cn 2 19 [.ref l, .int x1, .ref b2, .int x3, .int x4] (n, u, t, i, r) (f_La_sum t i l x1 b2 x3 x4) (F_i1 n u t r) PT := by
  refine cn_of (Y := K_La_sum) (L0 := [.ref l, .int x1, .ref b2, .int x3, .int x4, uV, uV]) rfl rfl rfl ?_
  intro d hd
  unfold f_La_sum
  refine ge_run (pc' := 4) (L' := [.ref l, .int x1, .ref b2, .int x3, .int x4, .int (0 : Int32), .int (0 : Int32)]) (S' := []) 4 rfl ?_
  refine ge_bind (K1 := fun (q : Int32 × MI) e => ∃ w_6 : Value, e = .inl (30, [.ref l, .int x1, .ref b2, .int x3, .int x4, .int q.1, w_6], [], (n, u, t, q.2, r))) (ge_itr (C := fun (q : Int32 × Int32 × MI) e => e = .inl (4, [.ref l, .int x1, .ref b2, .int x3, .int x4, .int q.1, .int q.2.1], [], (n, u, t, q.2.2, r))) ?_ _ _ _ rfl) ?_
  · rintro ⟨x5_1, x6_2, i_3⟩ _ rfl
    try dsimp only
    refine ge_run (pc' := 6) (L' := [.ref l, .int x1, .ref b2, .int x3, .int x4, .int x5_1, .int x6_2]) (S' := [.ref l, .int x6_2]) 2 rfl ?_
    refine ge_getI rfl (lT hl) rfl ?_
    refine ge_ge rfl (fun h_7 => ?_) (fun h_20 => ?_)
    · refine ge_run (pc' := 9) (L' := [.ref l, .int x1, .ref b2, .int x3, .int x4, .int x5_1, .int x6_2]) (S' := [.ref l]) 1 rfl ?_
      refine ge_getR (b := (l + 2)) rfl (lT hl) rfl (lR1 hl) (lgeo hl) ?_
      refine ge_run (pc' := 11) (L' := [.ref l, .int x1, .ref b2, .int x3, .int x4, .int x5_1, .int x6_2]) (S' := [.int x6_2, .ref (l + 2)]) 1 rfl ?_
      refine ge_grd (fun g_8 g_9 => ?_)
      refine ge_iald (jn := (ix x6_2)) rfl (lT2 hl) ⟨g_8, rfl⟩ g_9 ?_
      refine ge_run (pc' := 13) (L' := [.ref l, .int x1, .ref b2, .int x3, .int x4, .int x5_1, .int x6_2]) (S' := [.int x1, .int (i_3 (l + 2) (ix x6_2))]) 1 rfl ?_
      refine ge_bind (K1 := fun (q : Int32 × MI) e => e = .inl (28, [.ref l, .int x1, .ref b2, .int x3, .int x4, .int q.1, .int x6_2], [], (n, u, t, q.2, r))) ?_ ?_
      · refine ge_ne rfl (fun h_12 => ?_) (fun h_19 => ?_)
        · refine ge_run (pc' := 19) (L' := [.ref l, .int x1, .ref b2, .int x3, .int x4, .int x5_1, .int x6_2]) (S' := [.int x4, .int x3, .ref b2, .int x6_2, .ref l]) 5 rfl ?_
          refine ge_cv rfl rfl rfl (lT hl) rfl rfl rfl (D := 1) (Nat.le_trans (by decide) hd) (c_La_holds (n := n) (u := u) (t := t) (i := i_3) (r := r) s l hl x6_2 b2 hb2 x3 x4) ?_
          rintro ⟨v_13, i_14⟩ -
          dsimp only [bkE, F_i1]
          refine ge_eq0 rfl (fun h_15 => ?_) (fun h_16 => ?_)
          · exact ge_leaf rfl
          · refine ge_run (pc' := 23) (L' := [.ref l, .int x1, .ref b2, .int x3, .int x4, .int x5_1, .int x6_2]) (S' := [.ref l, .int x5_1]) 2 rfl ?_
            refine ge_getR (b := (l + 3)) rfl (lT hl) rfl (lR2 hl) (lgeo hl) ?_
            refine ge_run (pc' := 25) (L' := [.ref l, .int x1, .ref b2, .int x3, .int x4, .int x5_1, .int x6_2]) (S' := [.int x6_2, .ref (l + 3), .int x5_1]) 1 rfl ?_
            refine ge_grd (fun g_17 g_18 => ?_)
            refine ge_iald (jn := (ix x6_2)) rfl (lT3 hl) ⟨g_17, rfl⟩ g_18 ?_
            refine ge_run (pc' := 28) (L' := [.ref l, .int x1, .ref b2, .int x3, .int x4, .int (x5_1 + (i_14 (l + 3) (ix x6_2))), .int x6_2]) (S' := []) 2 rfl ?_
            exact ge_leaf rfl
        · exact ge_leaf rfl
      · rintro ⟨x5_10, i_11⟩ _ rfl
        try dsimp only
        refine ge_run (pc' := 4) (L' := [.ref l, .int x1, .ref b2, .int x3, .int x4, .int x5_10, .int (x6_2 + (1 : Int32))]) (S' := []) 2 rfl ?_
        exact ge_leaf (K := kX _ _) rfl
    · exact ge_leaf (K := kX _ _) (Exists.intro _ rfl)
  · rintro ⟨x5_4, i_5⟩ _ ⟨w_6, rfl⟩
    try dsimp only
    refine ge_run (pc' := 31) (L' := [.ref l, .int x1, .ref b2, .int x3, .int x4, .int x5_4, w_6]) (S' := [.int x5_4]) 1 rfl ?_
    exact ge_ret rfl rfl (And.intro rfl trivial)
def f_Ta_sortOf (x0 : Int32) : Option (Int32) :=
  if x0 < (97 : Int32) then (if x0 < (48 : Int32) then (some ((3 : Int32))) else (if (57 : Int32) < x0 then (some ((3 : Int32))) else (some ((2 : Int32))))) else (if (122 : Int32) < x0 then (if x0 < (48 : Int32) then (some ((3 : Int32))) else (if (57 : Int32) < x0 then (some ((3 : Int32))) else (some ((2 : Int32))))) else (some ((1 : Int32))))
set_option maxHeartbeats 4000000 in
theorem c_Ta_sortOf {n u : Nat} {t : MT} {i : MI} {r : MR} (s : Sh n t r) (x0 : Int32) : Cn 1 110 [.int x0] (n, u, t, i, r) (f_Ta_sortOf  x0) (F_i0 n u t i r) PT := by
  refine cn_of (Y := K_Ta_sortOf) (L0 := [.int x0]) rfl rfl rfl ?_
  intro d hd
  unfold f_Ta_sortOf
  refine ge_run (pc' := 2) (L' := [.int x0]) (S' := [.int (97 : Int32), .int x0]) 2 rfl ?_
  refine ge_lt rfl (fun h_1 => ?_) (fun h_6 => ?_)
  · refine ge_run (pc' := 10) (L' := [.int x0]) (S' := [.int (48 : Int32), .int x0]) 2 rfl ?_
    refine ge_lt rfl (fun h_2 => ?_) (fun h_3 => ?_)
    · refine ge_run (pc' := 17) (L' := [.int x0]) (S' := [.int (3 : Int32)]) 1 rfl ?_
      exact ge_ret rfl rfl (And.intro rfl trivial)
    · refine ge_run (pc' := 13) (L' := [.int x0]) (S' := [.int (57 : Int32), .int x0]) 2 rfl ?_
      refine ge_gt rfl (fun h_4 => ?_) (fun h_5 => ?_)
      · refine ge_run (pc' := 17) (L' := [.int x0]) (S' := [.int (3 : Int32)]) 1 rfl ?_
        exact ge_ret rfl rfl (And.intro rfl trivial)
      · refine ge_run (pc' := 17) (L' := [.int x0]) (S' := [.int (2 : Int32)]) 2 rfl ?_
        exact ge_ret rfl rfl (And.intro rfl trivial)
  · refine ge_run (pc' := 5) (L' := [.int x0]) (S' := [.int (122 : Int32), .int x0]) 2 rfl ?_
    refine ge_gt rfl (fun h_7 => ?_) (fun h_12 => ?_)
    · refine ge_run (pc' := 10) (L' := [.int x0]) (S' := [.int (48 : Int32), .int x0]) 2 rfl ?_
      refine ge_lt rfl (fun h_8 => ?_) (fun h_9 => ?_)
      · refine ge_run (pc' := 17) (L' := [.int x0]) (S' := [.int (3 : Int32)]) 1 rfl ?_
        exact ge_ret rfl rfl (And.intro rfl trivial)
      · refine ge_run (pc' := 13) (L' := [.int x0]) (S' := [.int (57 : Int32), .int x0]) 2 rfl ?_
        refine ge_gt rfl (fun h_10 => ?_) (fun h_11 => ?_)
        · refine ge_run (pc' := 17) (L' := [.int x0]) (S' := [.int (3 : Int32)]) 1 rfl ?_
          exact ge_ret rfl rfl (And.intro rfl trivial)
        · refine ge_run (pc' := 17) (L' := [.int x0]) (S' := [.int (2 : Int32)]) 2 rfl ?_
          exact ge_ret rfl rfl (And.intro rfl trivial)
    · refine ge_run (pc' := 7) (L' := [.int x0]) (S' := [.int (1 : Int32)]) 1 rfl ?_
      exact ge_ret rfl rfl (And.intro rfl trivial)
def f_Ta_step (i : MI) : Option (MI) :=
  bnd (wr i 1595 5 (i 1595 6)) (fun i_1 => (itr (σ := MI) (ρ := MI) (fun i_2 => if (i_2 1595 5) < (i_2 1595 3) then (grd (i_2 1595 5) 400 (if (i_2 1596 (ix (i_2 1595 5))) = (32 : Int32) then (bnd (wr i_2 1595 5 ((i_2 1595 5) + (1 : Int32))) (fun i_8 => some (.inl i_8))) else (some (.inr i_2)))) else (some (.inr i_2))) 1000000 i_1).bind (fun i_3 => bnd (wr i_3 1595 6 (i_3 1595 5)) (fun i_11 => if (i_11 1595 5) < (i_11 1595 3) then (grd (i_11 1595 5) 400 ((f_Ta_sortOf (i_11 1596 (ix (i_11 1595 5)))).bind (fun v_15 => bnd (wr i_11 1595 4 v_15) (fun i_16 => bnd (wr i_16 1595 6 ((i_16 1595 6) + (1 : Int32))) (fun i_17 => (itr (σ := MI) (ρ := MI) (fun i_18 => if (i_18 1595 4) = (3 : Int32) then (some (.inr i_18)) else (if (i_18 1595 6) < (i_18 1595 3) then (grd (i_18 1595 6) 400 ((f_Ta_sortOf (i_18 1596 (ix (i_18 1595 6)))).bind (fun v_25 => if v_25 = (i_18 1595 4) then (bnd (wr i_18 1595 6 ((i_18 1595 6) + (1 : Int32))) (fun i_27 => some (.inl i_27))) else (some (.inr i_18))))) else (some (.inr i_18)))) 1000000 i_17).bind (fun i_19 => some i_19)))))) else (bnd (wr i_11 1595 4 (0 : Int32)) (fun i_31 => some i_31)))))
set_option maxHeartbeats 4000000 in
theorem c_Ta_step {n u : Nat} {t : MT} {i : MI} {r : MR} (s : Sh n t r)  : Cn 2 109 [.ref 1595] (n, u, t, i, r) (f_Ta_step i ) (F_v1 n u t r) PT := by
  refine cn_of (Y := K_Ta_step) (L0 := [.ref 1595]) rfl rfl rfl ?_
  intro d hd
  unfold f_Ta_step
  refine ge_run (pc' := 2) (L' := [.ref 1595]) (S' := [.ref 1595, .ref 1595]) 2 rfl ?_
  refine ge_getI rfl (t1595 s) rfl ?_
  refine ge_putI rfl (t1595 s) (Nat.le_of_ble_eq_true rfl) rfl (fun i_1 => ?_)
  refine ge_bind (K1 := fun (q : MI) e => e = .inl (23, [.ref 1595], [], (n, u, t, q, r))) (ge_itr (C := fun (q : MI) e => e = .inl (4, [.ref 1595], [], (n, u, t, q, r))) ?_ _ _ _ rfl) ?_
  · rintro i_2 _ rfl
    try dsimp only
    refine ge_run (pc' := 5) (L' := [.ref 1595]) (S' := [.ref 1595]) 1 rfl ?_
    refine ge_getI rfl (t1595 s) rfl ?_
    refine ge_run (pc' := 7) (L' := [.ref 1595]) (S' := [.ref 1595, .int (i_2 1595 5)]) 1 rfl ?_
    refine ge_getI rfl (t1595 s) rfl ?_
    refine ge_ge rfl (fun h_4 => ?_) (fun h_10 => ?_)
    · refine ge_run (pc' := 10) (L' := [.ref 1595]) (S' := [.ref 1595]) 1 rfl ?_
      refine ge_getR (b := 1596) rfl (t1595 s) rfl (r1595_0 s) (Nat.le_of_ble_eq_true rfl) ?_
      refine ge_run (pc' := 12) (L' := [.ref 1595]) (S' := [.ref 1595, .ref 1596]) 1 rfl ?_
      refine ge_getI rfl (t1595 s) rfl ?_
      refine ge_grd (fun g_5 g_6 => ?_)
      refine ge_bald (jn := (ix (i_2 1595 5))) rfl (Or.inl (t1596 s)) ⟨g_5, rfl⟩ g_6 ?_
      refine ge_run (pc' := 15) (L' := [.ref 1595]) (S' := [.int (32 : Int32), .int (i_2 1596 (ix (i_2 1595 5)))]) 1 rfl ?_
      refine ge_ne rfl (fun h_7 => ?_) (fun h_9 => ?_)
      · refine ge_run (pc' := 18) (L' := [.ref 1595]) (S' := [.ref 1595, .ref 1595]) 2 rfl ?_
        refine ge_getI rfl (t1595 s) rfl ?_
        refine ge_run (pc' := 21) (L' := [.ref 1595]) (S' := [.int ((i_2 1595 5) + (1 : Int32)), .ref 1595]) 2 rfl ?_
        refine ge_putI rfl (t1595 s) (Nat.le_of_ble_eq_true rfl) rfl (fun i_8 => ?_)
        refine ge_run (pc' := 4) (L' := [.ref 1595]) (S' := []) 1 rfl ?_
        exact ge_leaf (K := kX _ _) rfl
      · exact ge_leaf (K := kX _ _) rfl
    · exact ge_leaf (K := kX _ _) rfl
  · rintro i_3 _ rfl
    try dsimp only
    refine ge_run (pc' := 25) (L' := [.ref 1595]) (S' := [.ref 1595, .ref 1595]) 2 rfl ?_
    refine ge_getI rfl (t1595 s) rfl ?_
    refine ge_putI rfl (t1595 s) (Nat.le_of_ble_eq_true rfl) rfl (fun i_11 => ?_)
    refine ge_run (pc' := 28) (L' := [.ref 1595]) (S' := [.ref 1595]) 1 rfl ?_
    refine ge_getI rfl (t1595 s) rfl ?_
    refine ge_run (pc' := 30) (L' := [.ref 1595]) (S' := [.ref 1595, .int (i_11 1595 5)]) 1 rfl ?_
    refine ge_getI rfl (t1595 s) rfl ?_
    refine ge_lt rfl (fun h_12 => ?_) (fun h_30 => ?_)
    · refine ge_run (pc' := 38) (L' := [.ref 1595]) (S' := [.ref 1595, .ref 1595]) 2 rfl ?_
      refine ge_getR (b := 1596) rfl (t1595 s) rfl (r1595_0 s) (Nat.le_of_ble_eq_true rfl) ?_
      refine ge_run (pc' := 40) (L' := [.ref 1595]) (S' := [.ref 1595, .ref 1596, .ref 1595]) 1 rfl ?_
      refine ge_getI rfl (t1595 s) rfl ?_
      refine ge_grd (fun g_13 g_14 => ?_)
      refine ge_bald (jn := (ix (i_11 1595 5))) rfl (Or.inl (t1596 s)) ⟨g_13, rfl⟩ g_14 ?_
      refine ge_cs rfl rfl rfl rfl rfl rfl (D := 1) (Nat.le_trans (by decide) hd) (c_Ta_sortOf (n := n) (u := u) (t := t) (i := i_11) (r := r) s (i_11 1596 (ix (i_11 1595 5)))) ?_
      rintro v_15 -
      dsimp only [bkE, F_i0]
      refine ge_putI rfl (t1595 s) (Nat.le_of_ble_eq_true rfl) rfl (fun i_16 => ?_)
      refine ge_run (pc' := 46) (L' := [.ref 1595]) (S' := [.ref 1595, .ref 1595]) 2 rfl ?_
      refine ge_getI rfl (t1595 s) rfl ?_
      refine ge_run (pc' := 49) (L' := [.ref 1595]) (S' := [.int ((i_16 1595 6) + (1 : Int32)), .ref 1595]) 2 rfl ?_
      refine ge_putI rfl (t1595 s) (Nat.le_of_ble_eq_true rfl) rfl (fun i_17 => ?_)
      refine ge_bind (K1 := fun (q : MI) e => e = .inl (75, [.ref 1595], [], (n, u, t, q, r))) (ge_itr (C := fun (q : MI) e => e = .inl (50, [.ref 1595], [], (n, u, t, q, r))) ?_ _ _ _ rfl) ?_
      · rintro i_18 _ rfl
        try dsimp only
        refine ge_run (pc' := 51) (L' := [.ref 1595]) (S' := [.ref 1595]) 1 rfl ?_
        refine ge_getI rfl (t1595 s) rfl ?_
        refine ge_run (pc' := 53) (L' := [.ref 1595]) (S' := [.int (3 : Int32), .int (i_18 1595 4)]) 1 rfl ?_
        refine ge_eq rfl (fun h_20 => ?_) (fun h_21 => ?_)
        · exact ge_leaf (K := kX _ _) rfl
        · refine ge_run (pc' := 55) (L' := [.ref 1595]) (S' := [.ref 1595]) 1 rfl ?_
          refine ge_getI rfl (t1595 s) rfl ?_
          refine ge_run (pc' := 57) (L' := [.ref 1595]) (S' := [.ref 1595, .int (i_18 1595 6)]) 1 rfl ?_
          refine ge_getI rfl (t1595 s) rfl ?_
          refine ge_ge rfl (fun h_22 => ?_) (fun h_29 => ?_)
          · refine ge_run (pc' := 60) (L' := [.ref 1595]) (S' := [.ref 1595]) 1 rfl ?_
            refine ge_getR (b := 1596) rfl (t1595 s) rfl (r1595_0 s) (Nat.le_of_ble_eq_true rfl) ?_
            refine ge_run (pc' := 62) (L' := [.ref 1595]) (S' := [.ref 1595, .ref 1596]) 1 rfl ?_
            refine ge_getI rfl (t1595 s) rfl ?_
            refine ge_grd (fun g_23 g_24 => ?_)
            refine ge_bald (jn := (ix (i_18 1595 6))) rfl (Or.inl (t1596 s)) ⟨g_23, rfl⟩ g_24 ?_
            refine ge_cs rfl rfl rfl rfl rfl rfl (D := 1) (Nat.le_trans (by decide) hd) (c_Ta_sortOf (n := n) (u := u) (t := t) (i := i_18) (r := r) s (i_18 1596 (ix (i_18 1595 6)))) ?_
            rintro v_25 -
            dsimp only [bkE, F_i0]
            refine ge_run (pc' := 66) (L' := [.ref 1595]) (S' := [.ref 1595, .int v_25]) 1 rfl ?_
            refine ge_getI rfl (t1595 s) rfl ?_
            refine ge_ne rfl (fun h_26 => ?_) (fun h_28 => ?_)
            · refine ge_run (pc' := 70) (L' := [.ref 1595]) (S' := [.ref 1595, .ref 1595]) 2 rfl ?_
              refine ge_getI rfl (t1595 s) rfl ?_
              refine ge_run (pc' := 73) (L' := [.ref 1595]) (S' := [.int ((i_18 1595 6) + (1 : Int32)), .ref 1595]) 2 rfl ?_
              refine ge_putI rfl (t1595 s) (Nat.le_of_ble_eq_true rfl) rfl (fun i_27 => ?_)
              refine ge_run (pc' := 50) (L' := [.ref 1595]) (S' := []) 1 rfl ?_
              exact ge_leaf (K := kX _ _) rfl
            · exact ge_leaf (K := kX _ _) rfl
          · exact ge_leaf (K := kX _ _) rfl
      · rintro i_19 _ rfl
        try dsimp only
        exact ge_retv rfl rfl (And.intro rfl trivial)
    · refine ge_run (pc' := 34) (L' := [.ref 1595]) (S' := [.int (0 : Int32), .ref 1595]) 2 rfl ?_
      refine ge_putI rfl (t1595 s) (Nat.le_of_ble_eq_true rfl) rfl (fun i_31 => ?_)
      exact ge_retv rfl rfl (And.intro rfl trivial)
def f_J_coder (i : MI) (w : Nat) : Option (Int32) :=
  if (1 : Int32) = 0 then (grd2 (decide (((1 : Int32)).toInt8.toInt32 = (1 : Int32))) (some ((1 : Int32)))) else (grd2 (decide (((i w 1)).toInt8.toInt32 = (i w 1))) (some ((i w 1))))
set_option maxHeartbeats 4000000 in
theorem c_J_coder {n u : Nat} {t : MT} {i : MI} {r : MR} (s : Sh n t r) (w : Nat) (hw : StrAd w) : Cn 1 359 [.ref w] (n, u, t, i, r) (f_J_coder i w) (F_i0 n u t i r) PT := by
  refine cn_of (Y := K_J_coder) (L0 := [.ref w]) rfl rfl rfl ?_
  intro d hd
  unfold f_J_coder
  refine ge_run (pc' := 1) (L' := [.ref w]) (S' := [.int (1 : Int32)]) 1 rfl ?_
  refine ge_eq0 rfl (fun h_1 => ?_) (fun h_2 => ?_)
  · refine ge_run (pc' := 6) (L' := [.ref w]) (S' := [.int (1 : Int32)]) 1 rfl ?_
    exact ge_retb rfl rfl (And.intro rfl trivial)
  · refine ge_run (pc' := 3) (L' := [.ref w]) (S' := [.ref w]) 1 rfl ?_
    refine ge_getI rfl (strT s hw) rfl ?_
    refine ge_run (pc' := 6) (L' := [.ref w]) (S' := [.int (i w 1)]) 1 rfl ?_
    exact ge_retb rfl rfl (And.intro rfl trivial)
def f_J_length (t : MT) (i : MI) (w : Nat) : Option (Int32) :=
  (f_J_coder i w).bind (fun v_1 => some ((shr (nI (t (w + 1)).2) v_1)))
set_option maxHeartbeats 4000000 in
theorem c_J_length {n u : Nat} {t : MT} {i : MI} {r : MR} (s : Sh n t r) (w : Nat) (hw : StrAd w) : Cn 2 357 [.ref w] (n, u, t, i, r) (f_J_length t i w) (F_i0 n u t i r) PT := by
  refine cn_of (Y := K_J_length) (L0 := [.ref w]) rfl rfl rfl ?_
  intro d hd
  unfold f_J_length
  refine ge_run (pc' := 1) (L' := [.ref w]) (S' := [.ref w]) 1 rfl ?_
  refine ge_getR0 (b := (w + 1)) rfl (strT s hw) rfl (strR s hw) (Nat.succ_ne_zero _) ?_
  refine ge_alen rfl (strB s hw) (by decide) ?_
  refine ge_run (pc' := 4) (L' := [.ref w]) (S' := [.ref w, .int (nI (t (w + 1)).2)]) 1 rfl ?_
  refine ge_cv rfl rfl rfl (strT s hw) rfl rfl rfl (D := 1) (Nat.le_trans (by decide) hd) (c_J_coder (n := n) (u := u) (t := t) (i := i) (r := r) s w hw) ?_
  rintro v_1 -
  dsimp only [bkE, F_i0]
  refine ge_run (pc' := 6) (L' := [.ref w]) (S' := [.int (shr (nI (t (w + 1)).2) v_1)]) 1 rfl ?_
  exact ge_ret rfl rfl (And.intro rfl trivial)
def f_J_isLatin1 (i : MI) (w : Nat) : Option (Int32) :=
  if (1 : Int32) = 0 then (some ((0 : Int32))) else (if (i w 1) = 0 then (some ((1 : Int32))) else (some ((0 : Int32))))
set_option maxHeartbeats 4000000 in
theorem c_J_isLatin1 {n u : Nat} {t : MT} {i : MI} {r : MR} (s : Sh n t r) (w : Nat) (hw : StrAd w) : Cn 1 360 [.ref w] (n, u, t, i, r) (f_J_isLatin1 i w) (F_i0 n u t i r) PT := by
  refine cn_of (Y := K_J_isLatin1) (L0 := [.ref w]) rfl rfl rfl ?_
  intro d hd
  unfold f_J_isLatin1
  refine ge_run (pc' := 1) (L' := [.ref w]) (S' := [.int (1 : Int32)]) 1 rfl ?_
  refine ge_eq0 rfl (fun h_1 => ?_) (fun h_2 => ?_)
  · refine ge_run (pc' := 8) (L' := [.ref w]) (S' := [.int (0 : Int32)]) 1 rfl ?_
    exact ge_retz rfl rfl (Or.inl rfl) (And.intro rfl trivial)
  · refine ge_run (pc' := 3) (L' := [.ref w]) (S' := [.ref w]) 1 rfl ?_
    refine ge_getI rfl (strT s hw) rfl ?_
    refine ge_ne0 rfl (fun h_3 => ?_) (fun h_4 => ?_)
    · refine ge_run (pc' := 8) (L' := [.ref w]) (S' := [.int (1 : Int32)]) 2 rfl ?_
      exact ge_retz rfl rfl (Or.inr rfl) (And.intro rfl trivial)
    · refine ge_run (pc' := 8) (L' := [.ref w]) (S' := [.int (0 : Int32)]) 1 rfl ?_
      exact ge_retz rfl rfl (Or.inl rfl) (And.intro rfl trivial)
def f_J_checkIndexP (x0 : Int32) (x1 : Int32) : Option (Int32) :=
  if x0 < 0 then (none) else (if x0 < x1 then (some (x0)) else (none))
set_option maxHeartbeats 4000000 in
theorem c_J_checkIndexP {n u : Nat} {t : MT} {i : MI} {r : MR} (s : Sh n t r) (x0 : Int32) (x1 : Int32) : Cn 1 363 [.int x0, .int x1, .ref 999] (n, u, t, i, r) (f_J_checkIndexP  x0 x1) (F_i0 n u t i r) PT := by
  refine cn_of (Y := K_J_checkIndexP) (L0 := [.int x0, .int x1, .ref 999]) rfl rfl rfl ?_
  intro d hd
  unfold f_J_checkIndexP
  refine ge_run (pc' := 1) (L' := [.int x0, .int x1, .ref 999]) (S' := [.int x0]) 1 rfl ?_
  refine ge_lt0 rfl (fun h_1 => ?_) (fun h_2 => ?_)
  · refine ge_run (pc' := 8) (L' := [.int x0, .int x1, .ref 999]) (S' := [.int x1, .int x0, .ref 999]) 3 rfl ?_
    exact ge_none
  · refine ge_run (pc' := 4) (L' := [.int x0, .int x1, .ref 999]) (S' := [.int x1, .int x0]) 2 rfl ?_
    refine ge_lt rfl (fun h_3 => ?_) (fun h_4 => ?_)
    · refine ge_run (pc' := 11) (L' := [.int x0, .int x1, .ref 999]) (S' := [.int x0]) 1 rfl ?_
      exact ge_ret rfl rfl (And.intro rfl trivial)
    · refine ge_run (pc' := 8) (L' := [.int x0, .int x1, .ref 999]) (S' := [.int x1, .int x0, .ref 999]) 3 rfl ?_
      exact ge_none
def f_J_checkIndex (x0 : Int32) (x1 : Int32) : Option (Unit) :=
  (f_J_checkIndexP x0 x1).bind (fun v_1 => some ())
set_option maxHeartbeats 4000000 in
theorem c_J_checkIndex {n u : Nat} {t : MT} {i : MI} {r : MR} (s : Sh n t r) (x0 : Int32) (x1 : Int32) : Cn 2 361 [.int x0, .int x1] (n, u, t, i, r) (f_J_checkIndex  x0 x1) (F_v0 n u t i r) PT := by
  refine cn_of (Y := K_J_checkIndex) (L0 := [.int x0, .int x1]) rfl rfl rfl ?_
  intro d hd
  unfold f_J_checkIndex
  refine ge_run (pc' := 3) (L' := [.int x0, .int x1]) (S' := [.ref 999, .int x1, .int x0]) 3 rfl ?_
  refine ge_cs rfl rfl rfl rfl rfl rfl (D := 1) (Nat.le_trans (by decide) hd) (c_J_checkIndexP (n := n) (u := u) (t := t) (i := i) (r := r) s x0 x1) ?_
  rintro v_1 -
  dsimp only [bkE, F_i0]
  refine ge_run (pc' := 5) (L' := [.int x0, .int x1]) (S' := []) 1 rfl ?_
  exact ge_retv rfl rfl (And.intro rfl trivial)
def f_J_charAtL (i : MI) (v0 l0 : Nat) (x1 : Int32) : Option (Int32) :=
  (f_J_checkIndex x1 (nI l0)).bind (fun _ => grd x1 l0 (grd2 (decide (((((i v0 (ix x1)) &&& (255 : Int32)).toUInt32 % 65536).toInt32).toUInt32.toUInt16.toUInt32.toInt32 = (((i v0 (ix x1)) &&& (255 : Int32)).toUInt32 % 65536).toInt32)) (some ((((i v0 (ix x1)) &&& (255 : Int32)).toUInt32 % 65536).toInt32))))
set_option maxHeartbeats 4000000 in
theorem c_J_charAtL {n u : Nat} {t : MT} {i : MI} {r : MR} (s : Sh n t r) (v0 l0 : Nat) (ht0 : t v0 = (101, l0)) (x1 : Int32) : Cn 3 362 [.ref v0, .int x1] (n, u, t, i, r) (f_J_charAtL i v0 l0 x1) (F_i0 n u t i r) PT := by
  refine cn_of (Y := K_J_charAtL) (L0 := [.ref v0, .int x1]) rfl rfl rfl ?_
  intro d hd
  unfold f_J_charAtL
  refine ge_run (pc' := 2) (L' := [.ref v0, .int x1]) (S' := [.ref v0, .int x1]) 2 rfl ?_
  refine ge_alen rfl ht0 (by decide) ?_
  refine ge_cs rfl rfl rfl rfl rfl rfl (D := 2) (Nat.le_trans (by decide) hd) (c_J_checkIndex (n := n) (u := u) (t := t) (i := i) (r := r) s x1 (nI l0)) ?_
  rintro _ -
  dsimp only [bkE, F_v0]
  refine ge_run (pc' := 6) (L' := [.ref v0, .int x1]) (S' := [.int x1, .ref v0]) 2 rfl ?_
  refine ge_grd (fun g_1 g_2 => ?_)
  refine ge_bald (jn := (ix x1)) rfl (Or.inl ht0) ⟨g_1, rfl⟩ g_2 ?_
  refine ge_run (pc' := 10) (L' := [.ref v0, .int x1]) (S' := [.int (((i v0 (ix x1)) &&& (255 : Int32)).toUInt32 % 65536).toInt32]) 3 rfl ?_
  exact ge_retch rfl rfl (And.intro rfl trivial)
def f_J_charAt (t : MT) (i : MI) (w : Nat) (x1 : Int32) : Option (Int32) :=
  (f_J_isLatin1 i w).bind (fun v_1 => if v_1 = 0 then (none) else ((f_J_charAtL i (w + 1) (t (w + 1)).2 x1).bind (fun v_4 => grd2 (decide ((v_4).toUInt32.toUInt16.toUInt32.toInt32 = v_4)) (some (v_4)))))
set_option maxHeartbeats 4000000 in
theorem c_J_charAt {n u : Nat} {t : MT} {i : MI} {r : MR} (s : Sh n t r) (w : Nat) (hw : StrAd w) (x1 : Int32) : Cn 4 358 [.ref w, .int x1] (n, u, t, i, r) (f_J_charAt t i w x1) (F_i0 n u t i r) PT := by
  refine cn_of (Y := K_J_charAt) (L0 := [.ref w, .int x1]) rfl rfl rfl ?_
  intro d hd
  unfold f_J_charAt
  refine ge_run (pc' := 1) (L' := [.ref w, .int x1]) (S' := [.ref w]) 1 rfl ?_
  refine ge_cv rfl rfl rfl (strT s hw) rfl rfl rfl (D := 1) (Nat.le_trans (by decide) hd) (c_J_isLatin1 (n := n) (u := u) (t := t) (i := i) (r := r) s w hw) ?_
  rintro v_1 -
  dsimp only [bkE, F_i0]
  refine ge_eq0 rfl (fun h_2 => ?_) (fun h_3 => ?_)
  · refine ge_run (pc' := 9) (L' := [.ref w, .int x1]) (S' := [.ref w]) 1 rfl ?_
    refine ge_getR0 (b := (w + 1)) rfl (strT s hw) rfl (strR s hw) (Nat.succ_ne_zero _) ?_
    refine ge_run (pc' := 11) (L' := [.ref w, .int x1]) (S' := [.int x1, .ref (w + 1)]) 1 rfl ?_
    exact ge_none
  · refine ge_run (pc' := 4) (L' := [.ref w, .int x1]) (S' := [.ref w]) 1 rfl ?_
    refine ge_getR0 (b := (w + 1)) rfl (strT s hw) rfl (strR s hw) (Nat.succ_ne_zero _) ?_
    refine ge_run (pc' := 6) (L' := [.ref w, .int x1]) (S' := [.int x1, .ref (w + 1)]) 1 rfl ?_
    refine ge_cs rfl rfl rfl rfl rfl rfl (D := 3) (Nat.le_trans (by decide) hd) (c_J_charAtL (n := n) (u := u) (t := t) (i := i) (r := r) s (w + 1) (t (w + 1)).2 (strB s hw) x1) ?_
    rintro v_4 -
    dsimp only [bkE, F_i0]
    exact ge_retch rfl rfl (And.intro rfl trivial)
def f_Ta_isWord (t : MT) (i : MI) (w1 : Nat) : Option (Int32) :=
  if (i 1595 4) = (1 : Int32) then ((f_J_length t i w1).bind (fun v_2 => if ((i 1595 6) - (i 1595 5)) = v_2 then (itr (σ := Int32) (ρ := Int32) (fun x2_4 => (f_J_length t i w1).bind (fun v_5 => if x2_4 < v_5 then (grd ((i 1595 5) + x2_4) 400 ((f_J_charAt t i w1 x2_4).bind (fun v_9 => if (i 1596 (ix ((i 1595 5) + x2_4))) = v_9 then (some (.inl (x2_4 + (1 : Int32)))) else (some (.inr (((0 : Int32)))))))) else (some (.inr (((1 : Int32))))))) 1000000 (0 : Int32)) else (some ((0 : Int32))))) else (some ((0 : Int32)))
set_option maxHeartbeats 4000000 in
theorem c_Ta_isWord {n u : Nat} {t : MT} {i : MI} {r : MR} (s : Sh n t r) (w1 : Nat) (hw1 : StrAd w1) : Cn 5 112 [.ref 1595, .ref w1] (n, u, t, i, r) (f_Ta_isWord t i w1) (F_i0 n u t i r) PT := by
  refine cn_of (Y := K_Ta_isWord) (L0 := [.ref 1595, .ref w1, uV]) rfl rfl rfl ?_
  intro d hd
  unfold f_Ta_isWord
  refine ge_run (pc' := 1) (L' := [.ref 1595, .ref w1, uV]) (S' := [.ref 1595]) 1 rfl ?_
  refine ge_getI rfl (t1595 s) rfl ?_
  refine ge_run (pc' := 3) (L' := [.ref 1595, .ref w1, uV]) (S' := [.int (1 : Int32), .int (i 1595 4)]) 1 rfl ?_
  refine ge_ne rfl (fun h_1 => ?_) (fun h_14 => ?_)
  · refine ge_run (pc' := 5) (L' := [.ref 1595, .ref w1, uV]) (S' := [.ref 1595]) 1 rfl ?_
    refine ge_getI rfl (t1595 s) rfl ?_
    refine ge_run (pc' := 7) (L' := [.ref 1595, .ref w1, uV]) (S' := [.ref 1595, .int (i 1595 6)]) 1 rfl ?_
    refine ge_getI rfl (t1595 s) rfl ?_
    refine ge_run (pc' := 10) (L' := [.ref 1595, .ref w1, uV]) (S' := [.ref w1, .int ((i 1595 6) - (i 1595 5))]) 2 rfl ?_
    refine ge_cv rfl rfl rfl (strT s hw1) rfl rfl rfl (D := 2) (Nat.le_trans (by decide) hd) (c_J_length (n := n) (u := u) (t := t) (i := i) (r := r) s w1 hw1) ?_
    rintro v_2 -
    dsimp only [bkE, F_i0]
    refine ge_eq rfl (fun h_3 => ?_) (fun h_13 => ?_)
    · refine ge_run (pc' := 16) (L' := [.ref 1595, .ref w1, .int (0 : Int32)]) (S' := []) 2 rfl ?_
      refine ge_itr (C := fun (q : Int32) e => e = .inl (16, [.ref 1595, .ref w1, .int q], [], (n, u, t, i, r))) ?_ _ _ _ rfl
      rintro x2_4 _ rfl
      try dsimp only
      refine ge_run (pc' := 18) (L' := [.ref 1595, .ref w1, .int x2_4]) (S' := [.ref w1, .int x2_4]) 2 rfl ?_
      refine ge_cv rfl rfl rfl (strT s hw1) rfl rfl rfl (D := 2) (Nat.le_trans (by decide) hd) (c_J_length (n := n) (u := u) (t := t) (i := i) (r := r) s w1 hw1) ?_
      rintro v_5 -
      dsimp only [bkE, F_i0]
      refine ge_ge rfl (fun h_6 => ?_) (fun h_12 => ?_)
      · refine ge_run (pc' := 21) (L' := [.ref 1595, .ref w1, .int x2_4]) (S' := [.ref 1595]) 1 rfl ?_
        refine ge_getR (b := 1596) rfl (t1595 s) rfl (r1595_0 s) (Nat.le_of_ble_eq_true rfl) ?_
        refine ge_run (pc' := 23) (L' := [.ref 1595, .ref w1, .int x2_4]) (S' := [.ref 1595, .ref 1596]) 1 rfl ?_
        refine ge_getI rfl (t1595 s) rfl ?_
        refine ge_run (pc' := 26) (L' := [.ref 1595, .ref w1, .int x2_4]) (S' := [.int ((i 1595 5) + x2_4), .ref 1596]) 2 rfl ?_
        refine ge_grd (fun g_7 g_8 => ?_)
        refine ge_bald (jn := (ix ((i 1595 5) + x2_4))) rfl (Or.inl (t1596 s)) ⟨g_7, rfl⟩ g_8 ?_
        refine ge_run (pc' := 29) (L' := [.ref 1595, .ref w1, .int x2_4]) (S' := [.int x2_4, .ref w1, .int (i 1596 (ix ((i 1595 5) + x2_4)))]) 2 rfl ?_
        refine ge_cv rfl rfl rfl (strT s hw1) rfl rfl rfl (D := 4) (Nat.le_trans (by decide) hd) (c_J_charAt (n := n) (u := u) (t := t) (i := i) (r := r) s w1 hw1 x2_4) ?_
        rintro v_9 -
        dsimp only [bkE, F_i0]
        refine ge_eq rfl (fun h_10 => ?_) (fun h_11 => ?_)
        · refine ge_run (pc' := 16) (L' := [.ref 1595, .ref w1, .int (x2_4 + (1 : Int32))]) (S' := []) 2 rfl ?_
          exact ge_leaf (K := kX _ _) rfl
        · refine ge_run (pc' := 32) (L' := [.ref 1595, .ref w1, .int x2_4]) (S' := [.int (0 : Int32)]) 1 rfl ?_
          exact ge_retz rfl rfl (Or.inl rfl) (And.intro rfl trivial)
      · refine ge_run (pc' := 36) (L' := [.ref 1595, .ref w1, .int x2_4]) (S' := [.int (1 : Int32)]) 1 rfl ?_
        exact ge_retz rfl rfl (Or.inr rfl) (And.intro rfl trivial)
    · refine ge_run (pc' := 13) (L' := [.ref 1595, .ref w1, uV]) (S' := [.int (0 : Int32)]) 1 rfl ?_
      exact ge_retz rfl rfl (Or.inl rfl) (And.intro rfl trivial)
  · refine ge_run (pc' := 13) (L' := [.ref 1595, .ref w1, uV]) (S' := [.int (0 : Int32)]) 1 rfl ?_
    exact ge_retz rfl rfl (Or.inl rfl) (And.intro rfl trivial)
def f_Ta_takeWord (t : MT) (i : MI) (w1 : Nat) : Option (Int32 × MI) :=
  (f_Ta_isWord t i w1).bind (fun v_1 => if v_1 = 0 then (grd2 (decide (v_1 = 0 ∨ v_1 = 1)) (some (v_1, i))) else ((f_Ta_step i).bind (fun i_4 => grd2 (decide (v_1 = 0 ∨ v_1 = 1)) (some (v_1, i_4)))))
set_option maxHeartbeats 4000000 in
theorem c_Ta_takeWord {n u : Nat} {t : MT} {i : MI} {r : MR} (s : Sh n t r) (w1 : Nat) (hw1 : StrAd w1) : Cn 6 114 [.ref 1595, .ref w1] (n, u, t, i, r) (f_Ta_takeWord t i w1) (F_i1 n u t r) PT := by
  refine cn_of (Y := K_Ta_takeWord) (L0 := [.ref 1595, .ref w1, uV]) rfl rfl rfl ?_
  intro d hd
  unfold f_Ta_takeWord
  refine ge_run (pc' := 2) (L' := [.ref 1595, .ref w1, uV]) (S' := [.ref w1, .ref 1595]) 2 rfl ?_
  refine ge_cv rfl rfl rfl (t1595 s) rfl rfl rfl (D := 5) (Nat.le_trans (by decide) hd) (c_Ta_isWord (n := n) (u := u) (t := t) (i := i) (r := r) s w1 hw1) ?_
  rintro v_1 -
  dsimp only [bkE, F_i0]
  refine ge_run (pc' := 5) (L' := [.ref 1595, .ref w1, .int v_1]) (S' := [.int v_1]) 2 rfl ?_
  refine ge_eq0 rfl (fun h_2 => ?_) (fun h_3 => ?_)
  · refine ge_run (pc' := 9) (L' := [.ref 1595, .ref w1, .int v_1]) (S' := [.int v_1]) 1 rfl ?_
    exact ge_retZ rfl rfl (And.intro rfl trivial)
  · refine ge_run (pc' := 7) (L' := [.ref 1595, .ref w1, .int v_1]) (S' := [.ref 1595]) 1 rfl ?_
    refine ge_cv rfl rfl rfl (t1595 s) rfl rfl rfl (D := 2) (Nat.le_trans (by decide) hd) (c_Ta_step (n := n) (u := u) (t := t) (i := i) (r := r) s ) ?_
    rintro i_4 -
    dsimp only [bkE, F_v1]
    refine ge_run (pc' := 9) (L' := [.ref 1595, .ref w1, .int v_1]) (S' := [.int v_1]) 1 rfl ?_
    exact ge_retZ rfl rfl (And.intro rfl trivial)
def f_Ta_refuse (i : MI) : Option ((Unit ⊕ Nat) × MI) :=
  bnd (wr i 1595 2 (i 1595 5)) (fun i_1 => some (.inr 20, i_1))
set_option maxHeartbeats 4000000 in
theorem c_Ta_refuse {n u : Nat} {t : MT} {i : MI} {r : MR} (s : Sh n t r)  : Cn 1 111 [.ref 1595] (n, u, t, i, r) (f_Ta_refuse i ) (F_tv1 n u t r) PT := by
  refine cn_of (Y := K_Ta_refuse) (L0 := [.ref 1595]) rfl rfl rfl ?_
  intro d hd
  unfold f_Ta_refuse
  refine ge_run (pc' := 2) (L' := [.ref 1595]) (S' := [.ref 1595, .ref 1595]) 2 rfl ?_
  refine ge_getI rfl (t1595 s) rfl ?_
  refine ge_putI rfl (t1595 s) (Nat.le_of_ble_eq_true rfl) rfl (fun i_1 => ?_)
  exact ge_throw rfl (by decide) rfl rfl (And.intro rfl trivial)
def f_Ta_needWord (t : MT) (i : MI) (w1 : Nat) : Option ((Unit ⊕ Nat) × MI) :=
  (f_Ta_takeWord t i w1).bind (fun (v_1, i_2) => if v_1 = 0 then ((f_Ta_refuse i_2).bind (fun | (.inl (), i_4) => some (.inl (), i_4) | (.inr c_5, i_4) => some (.inr c_5, i_4))) else (some (.inl (), i_2)))
set_option maxHeartbeats 4000000 in
theorem c_Ta_needWord {n u : Nat} {t : MT} {i : MI} {r : MR} (s : Sh n t r) (w1 : Nat) (hw1 : StrAd w1) : Cn 7 116 [.ref 1595, .ref w1] (n, u, t, i, r) (f_Ta_needWord t i w1) (F_tv1 n u t r) PT := by
  refine cn_of (Y := K_Ta_needWord) (L0 := [.ref 1595, .ref w1]) rfl rfl rfl ?_
  intro d hd
  unfold f_Ta_needWord
  refine ge_run (pc' := 2) (L' := [.ref 1595, .ref w1]) (S' := [.ref w1, .ref 1595]) 2 rfl ?_
  refine ge_cv rfl rfl rfl (t1595 s) rfl rfl rfl (D := 6) (Nat.le_trans (by decide) hd) (c_Ta_takeWord (n := n) (u := u) (t := t) (i := i) (r := r) s w1 hw1) ?_
  rintro ⟨v_1, i_2⟩ -
  dsimp only [bkE, F_i1]
  refine ge_ne0 rfl (fun h_3 => ?_) (fun h_6 => ?_)
  · refine ge_run (pc' := 5) (L' := [.ref 1595, .ref w1]) (S' := [.ref 1595]) 1 rfl ?_
    refine ge_cv rfl rfl rfl (t1595 s) rfl rfl rfl (D := 1) (Nat.le_trans (by decide) hd) (c_Ta_refuse (n := n) (u := u) (t := t) (i := i_2) (r := r) s ) ?_
    rintro ⟨⟨⟩ | c_5, i_4⟩ -
    · dsimp only [bkE, F_tv1]
      exact ge_retv rfl rfl (And.intro rfl trivial)
    · exact ge_leaf (And.intro rfl trivial)
  · exact ge_retv rfl rfl (And.intro rfl trivial)
def f_Lt_needSort (t : MT) (i : MI) : Option ((Int32 ⊕ Nat) × MI) :=
  (f_Ta_takeWord t i 56).bind (fun (v_1, i_2) => if v_1 = 0 then ((f_Ta_takeWord t i_2 58).bind (fun (v_4, i_5) => if v_4 = 0 then ((f_Ta_needWord t i_5 60).bind (fun | (.inl (), i_7) => some (.inl (2 : Int32), i_7) | (.inr c_8, i_7) => some (.inr c_8, i_7))) else (some (.inl (1 : Int32), i_5)))) else (some (.inl (0 : Int32), i_2)))
set_option maxHeartbeats 4000000 in
theorem c_Lt_needSort {n u : Nat} {t : MT} {i : MI} {r : MR} (s : Sh n t r)  : Cn 8 23 [.ref 1598] (n, u, t, i, r) (f_Lt_needSort t i ) (F_ti1 n u t r) PT := by
  refine cn_of (Y := K_Lt_needSort) (L0 := [.ref 1598]) rfl rfl rfl ?_
  intro d hd
  unfold f_Lt_needSort
  refine ge_run (pc' := 1) (L' := [.ref 1598]) (S' := [.ref 1598]) 1 rfl ?_
  refine ge_getR (b := 1595) rfl (t1598 s) rfl (r1598_0 s) (Nat.le_of_ble_eq_true rfl) ?_
  refine ge_run (pc' := 3) (L' := [.ref 1598]) (S' := [.ref 56, .ref 1595]) 1 rfl ?_
  refine ge_cv rfl rfl rfl (t1595 s) rfl rfl rfl (D := 6) (Nat.le_trans (by decide) hd) (c_Ta_takeWord (n := n) (u := u) (t := t) (i := i) (r := r) s 56 (strAd 27)) ?_
  rintro ⟨v_1, i_2⟩ -
  dsimp only [bkE, F_i1]
  refine ge_eq0 rfl (fun h_3 => ?_) (fun h_10 => ?_)
  · refine ge_run (pc' := 8) (L' := [.ref 1598]) (S' := [.ref 1598]) 1 rfl ?_
    refine ge_getR (b := 1595) rfl (t1598 s) rfl (r1598_0 s) (Nat.le_of_ble_eq_true rfl) ?_
    refine ge_run (pc' := 10) (L' := [.ref 1598]) (S' := [.ref 58, .ref 1595]) 1 rfl ?_
    refine ge_cv rfl rfl rfl (t1595 s) rfl rfl rfl (D := 6) (Nat.le_trans (by decide) hd) (c_Ta_takeWord (n := n) (u := u) (t := t) (i := i_2) (r := r) s 58 (strAd 28)) ?_
    rintro ⟨v_4, i_5⟩ -
    dsimp only [bkE, F_i1]
    refine ge_eq0 rfl (fun h_6 => ?_) (fun h_9 => ?_)
    · refine ge_run (pc' := 15) (L' := [.ref 1598]) (S' := [.ref 1598]) 1 rfl ?_
      refine ge_getR (b := 1595) rfl (t1598 s) rfl (r1598_0 s) (Nat.le_of_ble_eq_true rfl) ?_
      refine ge_run (pc' := 17) (L' := [.ref 1598]) (S' := [.ref 60, .ref 1595]) 1 rfl ?_
      refine ge_cv rfl rfl rfl (t1595 s) rfl rfl rfl (D := 7) (Nat.le_trans (by decide) hd) (c_Ta_needWord (n := n) (u := u) (t := t) (i := i_5) (r := r) s 60 (strAd 29)) ?_
      rintro ⟨⟨⟩ | c_8, i_7⟩ -
      · dsimp only [bkE, F_tv1]
        refine ge_run (pc' := 19) (L' := [.ref 1598]) (S' := [.int (2 : Int32)]) 1 rfl ?_
        exact ge_ret rfl rfl (And.intro rfl trivial)
      · exact ge_leaf (And.intro rfl trivial)
    · refine ge_run (pc' := 13) (L' := [.ref 1598]) (S' := [.int (1 : Int32)]) 1 rfl ?_
      exact ge_ret rfl rfl (And.intro rfl trivial)
  · refine ge_run (pc' := 6) (L' := [.ref 1598]) (S' := [.int (0 : Int32)]) 1 rfl ?_
    exact ge_ret rfl rfl (And.intro rfl trivial)
def f_Lt_emit (i : MI) (x1 : Int32) : Option (MI) :=
  if (i 1598 6) < (nI 400) then (bnd (wr i 1598 6 ((i 1598 6) + (1 : Int32))) (fun i_2 => grd (i 1598 6) 400 (bnd (wr i_2 1602 (ix (i 1598 6)) x1) (fun i_5 => some i_5)))) else (some i)
set_option maxHeartbeats 4000000 in
theorem c_Lt_emit {n u : Nat} {t : MT} {i : MI} {r : MR} (s : Sh n t r) (x1 : Int32) : Cn 1 24 [.ref 1598, .int x1] (n, u, t, i, r) (f_Lt_emit i x1) (F_v1 n u t r) PT := by
  refine cn_of (Y := K_Lt_emit) (L0 := [.ref 1598, .int x1]) rfl rfl rfl ?_
  intro d hd
  unfold f_Lt_emit
  refine ge_run (pc' := 1) (L' := [.ref 1598, .int x1]) (S' := [.ref 1598]) 1 rfl ?_
  refine ge_getI rfl (t1598 s) rfl ?_
  refine ge_run (pc' := 3) (L' := [.ref 1598, .int x1]) (S' := [.ref 1598, .int (i 1598 6)]) 1 rfl ?_
  refine ge_getR (b := 1602) rfl (t1598 s) rfl (r1598_4 s) (Nat.le_of_ble_eq_true rfl) ?_
  refine ge_alen rfl (t1602 s) (by decide) ?_
  refine ge_ge rfl (fun h_1 => ?_) (fun h_6 => ?_)
  · refine ge_run (pc' := 7) (L' := [.ref 1598, .int x1]) (S' := [.ref 1598]) 1 rfl ?_
    refine ge_getR (b := 1602) rfl (t1598 s) rfl (r1598_4 s) (Nat.le_of_ble_eq_true rfl) ?_
    refine ge_run (pc' := 10) (L' := [.ref 1598, .int x1]) (S' := [.ref 1598, .ref 1598, .ref 1602]) 2 rfl ?_
    refine ge_getI rfl (t1598 s) rfl ?_
    refine ge_run (pc' := 14) (L' := [.ref 1598, .int x1]) (S' := [.int ((i 1598 6) + (1 : Int32)), .ref 1598, .int (i 1598 6), .ref 1602]) 3 rfl ?_
    refine ge_putI rfl (t1598 s) (Nat.le_of_ble_eq_true rfl) rfl (fun i_2 => ?_)
    refine ge_run (pc' := 16) (L' := [.ref 1598, .int x1]) (S' := [.int x1, .int (i 1598 6), .ref 1602]) 1 rfl ?_
    refine ge_grd (fun g_3 g_4 => ?_)
    refine ge_iast (jn := (ix (i 1598 6))) rfl (t1602 s) (Nat.le_of_ble_eq_true rfl) ⟨g_3, rfl⟩ g_4 (fun i_5 => ?_)
    exact ge_retv rfl rfl (And.intro rfl trivial)
  · exact ge_retv rfl rfl (And.intro rfl trivial)
def f_Lt_partWord (x0 : Int32) : Option (Nat) :=
  sw x0 (-6) [(some (86)), (some (84)), (some (82)), (some (80)), (some (78)), (some (76))] ((some (88)))
set_option maxHeartbeats 4000000 in
theorem c_Lt_partWord {n u : Nat} {t : MT} {i : MI} {r : MR} (s : Sh n t r) (x0 : Int32) : Cn 1 29 [.int x0] (n, u, t, i, r) (f_Lt_partWord  x0) (F_a0 n u t i r) StrAd := by
  refine cn_of (Y := K_Lt_partWord) (L0 := [.int x0]) rfl rfl rfl ?_
  intro d hd
  unfold f_Lt_partWord
  refine ge_run (pc' := 1) (L' := [.int x0]) (S' := [.int x0]) 1 rfl ?_
  refine ge_sw rfl rfl (And.intro ?_ (And.intro ?_ (And.intro ?_ (And.intro ?_ (And.intro ?_ (And.intro ?_ trivial)))))) ?_
  · refine ge_run (pc' := 13) (L' := [.int x0]) (S' := [.ref 86]) 1 rfl ?_
    exact ge_reta rfl rfl (And.intro rfl (strAd 42))
  · refine ge_run (pc' := 11) (L' := [.int x0]) (S' := [.ref 84]) 1 rfl ?_
    exact ge_reta rfl rfl (And.intro rfl (strAd 41))
  · refine ge_run (pc' := 9) (L' := [.int x0]) (S' := [.ref 82]) 1 rfl ?_
    exact ge_reta rfl rfl (And.intro rfl (strAd 40))
  · refine ge_run (pc' := 7) (L' := [.int x0]) (S' := [.ref 80]) 1 rfl ?_
    exact ge_reta rfl rfl (And.intro rfl (strAd 39))
  · refine ge_run (pc' := 5) (L' := [.int x0]) (S' := [.ref 78]) 1 rfl ?_
    exact ge_reta rfl rfl (And.intro rfl (strAd 38))
  · refine ge_run (pc' := 3) (L' := [.int x0]) (S' := [.ref 76]) 1 rfl ?_
    exact ge_reta rfl rfl (And.intro rfl (strAd 37))
  · refine ge_run (pc' := 15) (L' := [.int x0]) (S' := [.ref 88]) 1 rfl ?_
    exact ge_reta rfl rfl (And.intro rfl (strAd 43))
def f_Lt_partAhead (t : MT) (i : MI) : Option (Int32) :=
  itr (σ := Int32) (ρ := Int32) (fun x1_1 => if x1_1 < (-7 : Int32) then (some (.inr (((-17 : Int32))))) else ((f_Lt_partWord x1_1).bind (fun v_4 => (f_Ta_isWord t i v_4).bind (fun v_6 => if v_6 = 0 then (some (.inl (x1_1 + (-1 : Int32)))) else (some (.inr ((x1_1)))))))) 1000000 (-1 : Int32)
set_option maxHeartbeats 4000000 in
theorem c_Lt_partAhead {n u : Nat} {t : MT} {i : MI} {r : MR} (s : Sh n t r)  : Cn 6 28 [.ref 1598] (n, u, t, i, r) (f_Lt_partAhead t i ) (F_i0 n u t i r) PT := by
  refine cn_of (Y := K_Lt_partAhead) (L0 := [.ref 1598, uV]) rfl rfl rfl ?_
  intro d hd
  unfold f_Lt_partAhead
  refine ge_run (pc' := 2) (L' := [.ref 1598, .int (-1 : Int32)]) (S' := []) 2 rfl ?_
  refine ge_itr (C := fun (q : Int32) e => e = .inl (2, [.ref 1598, .int q], [], (n, u, t, i, r))) ?_ _ _ _ rfl
  rintro x1_1 _ rfl
  try dsimp only
  refine ge_run (pc' := 4) (L' := [.ref 1598, .int x1_1]) (S' := [.int (-7 : Int32), .int x1_1]) 2 rfl ?_
  refine ge_lt rfl (fun h_2 => ?_) (fun h_3 => ?_)
  · refine ge_run (pc' := 16) (L' := [.ref 1598, .int x1_1]) (S' := [.int (-17 : Int32)]) 1 rfl ?_
    exact ge_ret rfl rfl (And.intro rfl trivial)
  · refine ge_run (pc' := 6) (L' := [.ref 1598, .int x1_1]) (S' := [.ref 1598]) 1 rfl ?_
    refine ge_getR (b := 1595) rfl (t1598 s) rfl (r1598_0 s) (Nat.le_of_ble_eq_true rfl) ?_
    refine ge_run (pc' := 8) (L' := [.ref 1598, .int x1_1]) (S' := [.int x1_1, .ref 1595]) 1 rfl ?_
    refine ge_cs rfl rfl rfl rfl rfl rfl (D := 1) (Nat.le_trans (by decide) hd) (c_Lt_partWord (n := n) (u := u) (t := t) (i := i) (r := r) s x1_1) ?_
    rintro v_4 s_5
    dsimp only [bkE, F_a0]
    refine ge_cv rfl rfl rfl (t1595 s) rfl rfl rfl (D := 5) (Nat.le_trans (by decide) hd) (c_Ta_isWord (n := n) (u := u) (t := t) (i := i) (r := r) s v_4 s_5) ?_
    rintro v_6 -
    dsimp only [bkE, F_i0]
    refine ge_eq0 rfl (fun h_7 => ?_) (fun h_8 => ?_)
    · refine ge_run (pc' := 2) (L' := [.ref 1598, .int (x1_1 + (-1 : Int32))]) (S' := []) 2 rfl ?_
      exact ge_leaf (K := kX _ _) rfl
    · refine ge_run (pc' := 12) (L' := [.ref 1598, .int x1_1]) (S' := [.int x1_1]) 1 rfl ?_
      exact ge_ret rfl rfl (And.intro rfl trivial)
def f_Ta_isSign (i : MI) (x1 : Int32) : Option (Int32) :=
  if (i 1595 4) = (3 : Int32) then (grd (i 1595 5) 400 (if (i 1596 (ix (i 1595 5))) = x1 then (some ((1 : Int32))) else (some ((0 : Int32))))) else (some ((0 : Int32)))
set_option maxHeartbeats 4000000 in
theorem c_Ta_isSign {n u : Nat} {t : MT} {i : MI} {r : MR} (s : Sh n t r) (x1 : Int32) : Cn 1 113 [.ref 1595, .int x1] (n, u, t, i, r) (f_Ta_isSign i x1) (F_i0 n u t i r) PT := by
  refine cn_of (Y := K_Ta_isSign) (L0 := [.ref 1595, .int x1]) rfl rfl rfl ?_
  intro d hd
  unfold f_Ta_isSign
  refine ge_run (pc' := 1) (L' := [.ref 1595, .int x1]) (S' := [.ref 1595]) 1 rfl ?_
  refine ge_getI rfl (t1595 s) rfl ?_
  refine ge_run (pc' := 3) (L' := [.ref 1595, .int x1]) (S' := [.int (3 : Int32), .int (i 1595 4)]) 1 rfl ?_
  refine ge_ne rfl (fun h_1 => ?_) (fun h_6 => ?_)
  · refine ge_run (pc' := 5) (L' := [.ref 1595, .int x1]) (S' := [.ref 1595]) 1 rfl ?_
    refine ge_getR (b := 1596) rfl (t1595 s) rfl (r1595_0 s) (Nat.le_of_ble_eq_true rfl) ?_
    refine ge_run (pc' := 7) (L' := [.ref 1595, .int x1]) (S' := [.ref 1595, .ref 1596]) 1 rfl ?_
    refine ge_getI rfl (t1595 s) rfl ?_
    refine ge_grd (fun g_2 g_3 => ?_)
    refine ge_bald (jn := (ix (i 1595 5))) rfl (Or.inl (t1596 s)) ⟨g_2, rfl⟩ g_3 ?_
    refine ge_run (pc' := 10) (L' := [.ref 1595, .int x1]) (S' := [.int x1, .int (i 1596 (ix (i 1595 5)))]) 1 rfl ?_
    refine ge_ne rfl (fun h_4 => ?_) (fun h_5 => ?_)
    · refine ge_run (pc' := 14) (L' := [.ref 1595, .int x1]) (S' := [.int (1 : Int32)]) 2 rfl ?_
      exact ge_retz rfl rfl (Or.inr rfl) (And.intro rfl trivial)
    · refine ge_run (pc' := 14) (L' := [.ref 1595, .int x1]) (S' := [.int (0 : Int32)]) 1 rfl ?_
      exact ge_retz rfl rfl (Or.inl rfl) (And.intro rfl trivial)
  · refine ge_run (pc' := 14) (L' := [.ref 1595, .int x1]) (S' := [.int (0 : Int32)]) 1 rfl ?_
    exact ge_retz rfl rfl (Or.inl rfl) (And.intro rfl trivial)
def f_Ta_takeSign (i : MI) (x1 : Int32) : Option (Int32 × MI) :=
  (f_Ta_isSign i x1).bind (fun v_1 => if v_1 = 0 then (grd2 (decide (v_1 = 0 ∨ v_1 = 1)) (some (v_1, i))) else ((f_Ta_step i).bind (fun i_4 => grd2 (decide (v_1 = 0 ∨ v_1 = 1)) (some (v_1, i_4)))))
set_option maxHeartbeats 4000000 in
theorem c_Ta_takeSign {n u : Nat} {t : MT} {i : MI} {r : MR} (s : Sh n t r) (x1 : Int32) : Cn 3 115 [.ref 1595, .int x1] (n, u, t, i, r) (f_Ta_takeSign i x1) (F_i1 n u t r) PT := by
  refine cn_of (Y := K_Ta_takeSign) (L0 := [.ref 1595, .int x1, uV]) rfl rfl rfl ?_
  intro d hd
  unfold f_Ta_takeSign
  refine ge_run (pc' := 2) (L' := [.ref 1595, .int x1, uV]) (S' := [.int x1, .ref 1595]) 2 rfl ?_
  refine ge_cv rfl rfl rfl (t1595 s) rfl rfl rfl (D := 1) (Nat.le_trans (by decide) hd) (c_Ta_isSign (n := n) (u := u) (t := t) (i := i) (r := r) s x1) ?_
  rintro v_1 -
  dsimp only [bkE, F_i0]
  refine ge_run (pc' := 5) (L' := [.ref 1595, .int x1, .int v_1]) (S' := [.int v_1]) 2 rfl ?_
  refine ge_eq0 rfl (fun h_2 => ?_) (fun h_3 => ?_)
  · refine ge_run (pc' := 9) (L' := [.ref 1595, .int x1, .int v_1]) (S' := [.int v_1]) 1 rfl ?_
    exact ge_retZ rfl rfl (And.intro rfl trivial)
  · refine ge_run (pc' := 7) (L' := [.ref 1595, .int x1, .int v_1]) (S' := [.ref 1595]) 1 rfl ?_
    refine ge_cv rfl rfl rfl (t1595 s) rfl rfl rfl (D := 2) (Nat.le_trans (by decide) hd) (c_Ta_step (n := n) (u := u) (t := t) (i := i) (r := r) s ) ?_
    rintro i_4 -
    dsimp only [bkE, F_v1]
    refine ge_run (pc' := 9) (L' := [.ref 1595, .int x1, .int v_1]) (S' := [.int v_1]) 1 rfl ?_
    exact ge_retZ rfl rfl (And.intro rfl trivial)
def f_Ta_number (i : MI) (x1 : Int32) (x2 : Int32) : Option ((Int32 ⊕ Nat) × MI) :=
  (if (i 1595 4) = (2 : Int32) then (if (3 : Int32) < ((i 1595 6) - (i 1595 5)) then ((f_Ta_refuse i).bind (fun | (.inl (), i_4) => some (.inl i_4) | (.inr c_5, i_4) => some (.inr ((.inr c_5, i_4))))) else (some (.inl i))) else ((f_Ta_refuse i).bind (fun | (.inl (), i_8) => some (.inl i_8) | (.inr c_9, i_8) => some (.inr ((.inr c_9, i_8))))) : Option ((MI) ⊕ ((Int32 ⊕ Nat) × MI))).bind (fun | .inl i_1 => (itr (σ := Int32 × Int32) (ρ := Int32) (fun (x3_10, x4_11) => if x4_11 < (i_1 1595 6) then (grd x4_11 400 (some (.inl ((((x3_10 * (10 : Int32)) + (i_1 1596 (ix x4_11))) - (48 : Int32)), (x4_11 + (1 : Int32)))))) else (some (.inr x3_10))) 1000000 ((0 : Int32), (i_1 1595 5))).bind (fun x3_12 => (if x3_12 < x1 then ((f_Ta_refuse i_1).bind (fun | (.inl (), i_20) => some (.inl i_20) | (.inr c_21, i_20) => some (.inr ((.inr c_21, i_20))))) else (if x2 < x3_12 then ((f_Ta_refuse i_1).bind (fun | (.inl (), i_24) => some (.inl i_24) | (.inr c_25, i_24) => some (.inr ((.inr c_25, i_24))))) else (some (.inl i_1))) : Option ((MI) ⊕ ((Int32 ⊕ Nat) × MI))).bind (fun | .inl i_18 => (f_Ta_step i_18).bind (fun i_27 => some (.inl x3_12, i_27)) | .inr y_28 => some y_28)) | .inr y_29 => some y_29)
set_option maxHeartbeats 4000000 in
theorem c_Ta_number {n u : Nat} {t : MT} {i : MI} {r : MR} (s : Sh n t r) (x1 : Int32) (x2 : Int32) : Cn 3 118 [.ref 1595, .int x1, .int x2] (n, u, t, i, r) (f_Ta_number i x1 x2) (F_ti1 n u t r) PT := by
  refine cn_of (Y := K_Ta_number) (L0 := [.ref 1595, .int x1, .int x2, uV, uV]) rfl rfl rfl ?_
  intro d hd
  unfold f_Ta_number
  refine ge_run (pc' := 1) (L' := [.ref 1595, .int x1, .int x2, uV, uV]) (S' := [.ref 1595]) 1 rfl ?_
  refine ge_getI rfl (t1595 s) rfl ?_
  refine ge_run (pc' := 3) (L' := [.ref 1595, .int x1, .int x2, uV, uV]) (S' := [.int (2 : Int32), .int (i 1595 4)]) 1 rfl ?_
  refine ge_bind (K1 := kX (fun (q : MI) e => e = .inl (13, [.ref 1595, .int x1, .int x2, uV, uV], [], (n, u, t, q, r))) (kR (F_ti1 n u t r) PT)) ?_ ?_
  · refine ge_ne rfl (fun h_2 => ?_) (fun h_7 => ?_)
    · refine ge_run (pc' := 5) (L' := [.ref 1595, .int x1, .int x2, uV, uV]) (S' := [.ref 1595]) 1 rfl ?_
      refine ge_getI rfl (t1595 s) rfl ?_
      refine ge_run (pc' := 7) (L' := [.ref 1595, .int x1, .int x2, uV, uV]) (S' := [.ref 1595, .int (i 1595 6)]) 1 rfl ?_
      refine ge_getI rfl (t1595 s) rfl ?_
      refine ge_run (pc' := 10) (L' := [.ref 1595, .int x1, .int x2, uV, uV]) (S' := [.int (3 : Int32), .int ((i 1595 6) - (i 1595 5))]) 2 rfl ?_
      refine ge_le rfl (fun h_3 => ?_) (fun h_6 => ?_)
      · refine ge_run (pc' := 12) (L' := [.ref 1595, .int x1, .int x2, uV, uV]) (S' := [.ref 1595]) 1 rfl ?_
        refine ge_cv rfl rfl rfl (t1595 s) rfl rfl rfl (D := 1) (Nat.le_trans (by decide) hd) (c_Ta_refuse (n := n) (u := u) (t := t) (i := i) (r := r) s ) ?_
        rintro ⟨⟨⟩ | c_5, i_4⟩ -
        · dsimp only [bkE, F_tv1]
          exact ge_leaf rfl
        · exact ge_leaf (And.intro rfl trivial)
      · exact ge_leaf rfl
    · refine ge_run (pc' := 12) (L' := [.ref 1595, .int x1, .int x2, uV, uV]) (S' := [.ref 1595]) 1 rfl ?_
      refine ge_cv rfl rfl rfl (t1595 s) rfl rfl rfl (D := 1) (Nat.le_trans (by decide) hd) (c_Ta_refuse (n := n) (u := u) (t := t) (i := i) (r := r) s ) ?_
      rintro ⟨⟨⟩ | c_9, i_8⟩ -
      · dsimp only [bkE, F_tv1]
        exact ge_leaf rfl
      · exact ge_leaf (And.intro rfl trivial)
  · rintro (i_1 | y_29) e he
    · obtain rfl := he
      try dsimp only
      refine ge_run (pc' := 16) (L' := [.ref 1595, .int x1, .int x2, .int (0 : Int32), uV]) (S' := [.ref 1595]) 3 rfl ?_
      refine ge_getI rfl (t1595 s) rfl ?_
      refine ge_run (pc' := 18) (L' := [.ref 1595, .int x1, .int x2, .int (0 : Int32), .int (i_1 1595 5)]) (S' := []) 1 rfl ?_
      refine ge_bind (K1 := fun (q : Int32) e => ∃ w_13 : Value, e = .inl (35, [.ref 1595, .int x1, .int x2, .int q, w_13], [], (n, u, t, i_1, r))) (ge_itr (C := fun (q : Int32 × Int32) e => e = .inl (18, [.ref 1595, .int x1, .int x2, .int q.1, .int q.2], [], (n, u, t, i_1, r))) ?_ _ _ _ rfl) ?_
      · rintro ⟨x3_10, x4_11⟩ _ rfl
        try dsimp only
        refine ge_run (pc' := 20) (L' := [.ref 1595, .int x1, .int x2, .int x3_10, .int x4_11]) (S' := [.ref 1595, .int x4_11]) 2 rfl ?_
        refine ge_getI rfl (t1595 s) rfl ?_
        refine ge_ge rfl (fun h_14 => ?_) (fun h_17 => ?_)
        · refine ge_run (pc' := 26) (L' := [.ref 1595, .int x1, .int x2, .int x3_10, .int x4_11]) (S' := [.ref 1595, .int (x3_10 * (10 : Int32))]) 4 rfl ?_
          refine ge_getR (b := 1596) rfl (t1595 s) rfl (r1595_0 s) (Nat.le_of_ble_eq_true rfl) ?_
          refine ge_run (pc' := 28) (L' := [.ref 1595, .int x1, .int x2, .int x3_10, .int x4_11]) (S' := [.int x4_11, .ref 1596, .int (x3_10 * (10 : Int32))]) 1 rfl ?_
          refine ge_grd (fun g_15 g_16 => ?_)
          refine ge_bald (jn := (ix x4_11)) rfl (Or.inl (t1596 s)) ⟨g_15, rfl⟩ g_16 ?_
          refine ge_run (pc' := 18) (L' := [.ref 1595, .int x1, .int x2, .int (((x3_10 * (10 : Int32)) + (i_1 1596 (ix x4_11))) - (48 : Int32)), .int (x4_11 + (1 : Int32))]) (S' := []) 6 rfl ?_
          exact ge_leaf (K := kX _ _) rfl
        · exact ge_leaf (K := kX _ _) (Exists.intro _ rfl)
      · rintro x3_12 _ ⟨w_13, rfl⟩
        try dsimp only
        refine ge_run (pc' := 37) (L' := [.ref 1595, .int x1, .int x2, .int x3_12, w_13]) (S' := [.int x1, .int x3_12]) 2 rfl ?_
        refine ge_bind (K1 := kX (fun (q : MI) e => e = .inl (43, [.ref 1595, .int x1, .int x2, .int x3_12, w_13], [], (n, u, t, q, r))) (kR (F_ti1 n u t r) PT)) ?_ ?_
        · refine ge_lt rfl (fun h_19 => ?_) (fun h_22 => ?_)
          · refine ge_run (pc' := 42) (L' := [.ref 1595, .int x1, .int x2, .int x3_12, w_13]) (S' := [.ref 1595]) 1 rfl ?_
            refine ge_cv rfl rfl rfl (t1595 s) rfl rfl rfl (D := 1) (Nat.le_trans (by decide) hd) (c_Ta_refuse (n := n) (u := u) (t := t) (i := i_1) (r := r) s ) ?_
            rintro ⟨⟨⟩ | c_21, i_20⟩ -
            · dsimp only [bkE, F_tv1]
              exact ge_leaf rfl
            · exact ge_leaf (And.intro rfl trivial)
          · refine ge_run (pc' := 40) (L' := [.ref 1595, .int x1, .int x2, .int x3_12, w_13]) (S' := [.int x2, .int x3_12]) 2 rfl ?_
            refine ge_le rfl (fun h_23 => ?_) (fun h_26 => ?_)
            · refine ge_run (pc' := 42) (L' := [.ref 1595, .int x1, .int x2, .int x3_12, w_13]) (S' := [.ref 1595]) 1 rfl ?_
              refine ge_cv rfl rfl rfl (t1595 s) rfl rfl rfl (D := 1) (Nat.le_trans (by decide) hd) (c_Ta_refuse (n := n) (u := u) (t := t) (i := i_1) (r := r) s ) ?_
              rintro ⟨⟨⟩ | c_25, i_24⟩ -
              · dsimp only [bkE, F_tv1]
                exact ge_leaf rfl
              · exact ge_leaf (And.intro rfl trivial)
            · exact ge_leaf rfl
        · rintro (i_18 | y_28) e he
          · obtain rfl := he
            try dsimp only
            refine ge_run (pc' := 44) (L' := [.ref 1595, .int x1, .int x2, .int x3_12, w_13]) (S' := [.ref 1595]) 1 rfl ?_
            refine ge_cv rfl rfl rfl (t1595 s) rfl rfl rfl (D := 2) (Nat.le_trans (by decide) hd) (c_Ta_step (n := n) (u := u) (t := t) (i := i_18) (r := r) s ) ?_
            rintro i_27 -
            dsimp only [bkE, F_v1]
            refine ge_run (pc' := 46) (L' := [.ref 1595, .int x1, .int x2, .int x3_12, w_13]) (S' := [.int x3_12]) 1 rfl ?_
            exact ge_ret rfl rfl (And.intro rfl trivial)
          · exact ge_leaf he
    · exact ge_leaf he
def f_Lt_readSum (t : MT) (i : MI) : Option ((Unit ⊕ Nat) × MI) :=
  itr (σ := Int32 × MI) (ρ := (Unit ⊕ Nat) × MI) (fun (x1_1, i_2) => if x1_1 < (400 : Int32) then (if x1_1 = 0 then ((f_Lt_partAhead t i_2).bind (fun v_6 => (if v_6 = (-17 : Int32) then ((f_Ta_number i_2 (0 : Int32) (999 : Int32)).bind (fun | (.inl v_10, i_11) => some (.inl (v_10, i_11)) | (.inr c_12, i_11) => some (.inr ((.inr c_12, i_11))))) else ((f_Ta_step i_2).bind (fun i_14 => some (.inl (v_6, i_14)))) : Option ((Int32 × MI) ⊕ ((Unit ⊕ Nat) × MI))).bind (fun | .inl (x2_7, i_8) => (f_Lt_emit i_8 x2_7).bind (fun i_15 => (if 0 < x1_1 then ((f_Lt_emit i_15 (-12 : Int32)).bind (fun i_18 => some i_18)) else (some i_15) : Option (MI)).bind (fun i_16 => some (.inl ((x1_1 + (1 : Int32)), i_16)))) | .inr y_20 => some (.inr (y_20))))) else ((f_Ta_takeSign i_2 (43 : Int32)).bind (fun (v_22, i_23) => if v_22 = 0 then (some (.inr ((.inl (), i_23)))) else ((f_Lt_partAhead t i_23).bind (fun v_26 => (if v_26 = (-17 : Int32) then ((f_Ta_number i_23 (0 : Int32) (999 : Int32)).bind (fun | (.inl v_30, i_31) => some (.inl (v_30, i_31)) | (.inr c_32, i_31) => some (.inr ((.inr c_32, i_31))))) else ((f_Ta_step i_23).bind (fun i_34 => some (.inl (v_26, i_34)))) : Option ((Int32 × MI) ⊕ ((Unit ⊕ Nat) × MI))).bind (fun | .inl (x2_27, i_28) => (f_Lt_emit i_28 x2_27).bind (fun i_35 => (if 0 < x1_1 then ((f_Lt_emit i_35 (-12 : Int32)).bind (fun i_38 => some i_38)) else (some i_35) : Option (MI)).bind (fun i_36 => some (.inl ((x1_1 + (1 : Int32)), i_36)))) | .inr y_40 => some (.inr (y_40)))))))) else (some (.inr ((.inl (), i_2))))) 1000000 ((0 : Int32), i)
set_option maxHeartbeats 4000000 in
theorem c_Lt_readSum {n u : Nat} {t : MT} {i : MI} {r : MR} (s : Sh n t r)  : Cn 7 27 [.ref 1598] (n, u, t, i, r) (f_Lt_readSum t i ) (F_tv1 n u t r) PT := by
  refine cn_of (Y := K_Lt_readSum) (L0 := [.ref 1598, uV, uV]) rfl rfl rfl ?_
  intro d hd
  unfold f_Lt_readSum
  refine ge_run (pc' := 2) (L' := [.ref 1598, .int (0 : Int32), uV]) (S' := []) 2 rfl ?_
  refine ge_itr (C := fun (q : Int32 × MI) e => ∃ w_3 : Value, e = .inl (2, [.ref 1598, .int q.1, w_3], [], (n, u, t, q.2, r))) ?_ _ _ _ (Exists.intro _ rfl)
  rintro ⟨x1_1, i_2⟩ _ ⟨w_3, rfl⟩
  try dsimp only
  refine ge_run (pc' := 4) (L' := [.ref 1598, .int x1_1, w_3]) (S' := [.int (400 : Int32), .int x1_1]) 2 rfl ?_
  refine ge_ge rfl (fun h_4 => ?_) (fun h_41 => ?_)
  · refine ge_run (pc' := 6) (L' := [.ref 1598, .int x1_1, w_3]) (S' := [.int x1_1]) 1 rfl ?_
    refine ge_eq0 rfl (fun h_5 => ?_) (fun h_21 => ?_)
    · refine ge_run (pc' := 13) (L' := [.ref 1598, .int x1_1, w_3]) (S' := [.ref 1598]) 1 rfl ?_
      refine ge_cv rfl rfl rfl (t1598 s) rfl rfl rfl (D := 6) (Nat.le_trans (by decide) hd) (c_Lt_partAhead (n := n) (u := u) (t := t) (i := i_2) (r := r) s ) ?_
      rintro v_6 -
      dsimp only [bkE, F_i0]
      refine ge_run (pc' := 17) (L' := [.ref 1598, .int x1_1, .int v_6]) (S' := [.int (-17 : Int32), .int v_6]) 3 rfl ?_
      refine ge_bind (K1 := kX (fun (q : Int32 × MI) e => e = .inl (28, [.ref 1598, .int x1_1, .int q.1], [], (n, u, t, q.2, r))) (kR (F_tv1 n u t r) PT)) ?_ ?_
      · refine ge_ne rfl (fun h_9 => ?_) (fun h_13 => ?_)
        · refine ge_run (pc' := 19) (L' := [.ref 1598, .int x1_1, .int v_6]) (S' := [.ref 1598]) 1 rfl ?_
          refine ge_getR (b := 1595) rfl (t1598 s) rfl (r1598_0 s) (Nat.le_of_ble_eq_true rfl) ?_
          refine ge_run (pc' := 22) (L' := [.ref 1598, .int x1_1, .int v_6]) (S' := [.int (999 : Int32), .int (0 : Int32), .ref 1595]) 2 rfl ?_
          refine ge_cv rfl rfl rfl (t1595 s) rfl rfl rfl (D := 3) (Nat.le_trans (by decide) hd) (c_Ta_number (n := n) (u := u) (t := t) (i := i_2) (r := r) s (0 : Int32) (999 : Int32)) ?_
          rintro ⟨v_10 | c_12, i_11⟩ -
          · dsimp only [bkE, F_ti1]
            refine ge_run (pc' := 28) (L' := [.ref 1598, .int x1_1, .int v_10]) (S' := []) 2 rfl ?_
            exact ge_leaf rfl
          · exact ge_leaf (And.intro rfl trivial)
        · refine ge_run (pc' := 26) (L' := [.ref 1598, .int x1_1, .int v_6]) (S' := [.ref 1598]) 1 rfl ?_
          refine ge_getR (b := 1595) rfl (t1598 s) rfl (r1598_0 s) (Nat.le_of_ble_eq_true rfl) ?_
          refine ge_cv rfl rfl rfl (t1595 s) rfl rfl rfl (D := 2) (Nat.le_trans (by decide) hd) (c_Ta_step (n := n) (u := u) (t := t) (i := i_2) (r := r) s ) ?_
          rintro i_14 -
          dsimp only [bkE, F_v1]
          exact ge_leaf rfl
      · rintro (⟨x2_7, i_8⟩ | y_20) e he
        · obtain rfl := he
          try dsimp only
          refine ge_run (pc' := 30) (L' := [.ref 1598, .int x1_1, .int x2_7]) (S' := [.int x2_7, .ref 1598]) 2 rfl ?_
          refine ge_cv rfl rfl rfl (t1598 s) rfl rfl rfl (D := 1) (Nat.le_trans (by decide) hd) (c_Lt_emit (n := n) (u := u) (t := t) (i := i_8) (r := r) s x2_7) ?_
          rintro i_15 -
          dsimp only [bkE, F_v1]
          refine ge_run (pc' := 32) (L' := [.ref 1598, .int x1_1, .int x2_7]) (S' := [.int x1_1]) 1 rfl ?_
          refine ge_bind (K1 := fun (q : MI) e => e = .inl (36, [.ref 1598, .int x1_1, .int x2_7], [], (n, u, t, q, r))) ?_ ?_
          · refine ge_le0 rfl (fun h_17 => ?_) (fun h_19 => ?_)
            · refine ge_run (pc' := 35) (L' := [.ref 1598, .int x1_1, .int x2_7]) (S' := [.int (-12 : Int32), .ref 1598]) 2 rfl ?_
              refine ge_cv rfl rfl rfl (t1598 s) rfl rfl rfl (D := 1) (Nat.le_trans (by decide) hd) (c_Lt_emit (n := n) (u := u) (t := t) (i := i_15) (r := r) s (-12 : Int32)) ?_
              rintro i_18 -
              dsimp only [bkE, F_v1]
              exact ge_leaf rfl
            · exact ge_leaf rfl
          · rintro i_16 _ rfl
            try dsimp only
            refine ge_run (pc' := 2) (L' := [.ref 1598, .int (x1_1 + (1 : Int32)), .int x2_7]) (S' := []) 2 rfl ?_
            exact ge_leaf (K := kX _ _) (Exists.intro _ rfl)
        · exact ge_leaf he
    · refine ge_run (pc' := 8) (L' := [.ref 1598, .int x1_1, w_3]) (S' := [.ref 1598]) 1 rfl ?_
      refine ge_getR (b := 1595) rfl (t1598 s) rfl (r1598_0 s) (Nat.le_of_ble_eq_true rfl) ?_
      refine ge_run (pc' := 10) (L' := [.ref 1598, .int x1_1, w_3]) (S' := [.int (43 : Int32), .ref 1595]) 1 rfl ?_
      refine ge_cv rfl rfl rfl (t1595 s) rfl rfl rfl (D := 3) (Nat.le_trans (by decide) hd) (c_Ta_takeSign (n := n) (u := u) (t := t) (i := i_2) (r := r) s (43 : Int32)) ?_
      rintro ⟨v_22, i_23⟩ -
      dsimp only [bkE, F_i1]
      refine ge_eq0 rfl (fun h_24 => ?_) (fun h_25 => ?_)
      · exact ge_retv rfl rfl (And.intro rfl trivial)
      · refine ge_run (pc' := 13) (L' := [.ref 1598, .int x1_1, w_3]) (S' := [.ref 1598]) 1 rfl ?_
        refine ge_cv rfl rfl rfl (t1598 s) rfl rfl rfl (D := 6) (Nat.le_trans (by decide) hd) (c_Lt_partAhead (n := n) (u := u) (t := t) (i := i_23) (r := r) s ) ?_
        rintro v_26 -
        dsimp only [bkE, F_i0]
        refine ge_run (pc' := 17) (L' := [.ref 1598, .int x1_1, .int v_26]) (S' := [.int (-17 : Int32), .int v_26]) 3 rfl ?_
        refine ge_bind (K1 := kX (fun (q : Int32 × MI) e => e = .inl (28, [.ref 1598, .int x1_1, .int q.1], [], (n, u, t, q.2, r))) (kR (F_tv1 n u t r) PT)) ?_ ?_
        · refine ge_ne rfl (fun h_29 => ?_) (fun h_33 => ?_)
          · refine ge_run (pc' := 19) (L' := [.ref 1598, .int x1_1, .int v_26]) (S' := [.ref 1598]) 1 rfl ?_
            refine ge_getR (b := 1595) rfl (t1598 s) rfl (r1598_0 s) (Nat.le_of_ble_eq_true rfl) ?_
            refine ge_run (pc' := 22) (L' := [.ref 1598, .int x1_1, .int v_26]) (S' := [.int (999 : Int32), .int (0 : Int32), .ref 1595]) 2 rfl ?_
            refine ge_cv rfl rfl rfl (t1595 s) rfl rfl rfl (D := 3) (Nat.le_trans (by decide) hd) (c_Ta_number (n := n) (u := u) (t := t) (i := i_23) (r := r) s (0 : Int32) (999 : Int32)) ?_
            rintro ⟨v_30 | c_32, i_31⟩ -
            · dsimp only [bkE, F_ti1]
              refine ge_run (pc' := 28) (L' := [.ref 1598, .int x1_1, .int v_30]) (S' := []) 2 rfl ?_
              exact ge_leaf rfl
            · exact ge_leaf (And.intro rfl trivial)
          · refine ge_run (pc' := 26) (L' := [.ref 1598, .int x1_1, .int v_26]) (S' := [.ref 1598]) 1 rfl ?_
            refine ge_getR (b := 1595) rfl (t1598 s) rfl (r1598_0 s) (Nat.le_of_ble_eq_true rfl) ?_
            refine ge_cv rfl rfl rfl (t1595 s) rfl rfl rfl (D := 2) (Nat.le_trans (by decide) hd) (c_Ta_step (n := n) (u := u) (t := t) (i := i_23) (r := r) s ) ?_
            rintro i_34 -
            dsimp only [bkE, F_v1]
            exact ge_leaf rfl
        · rintro (⟨x2_27, i_28⟩ | y_40) e he
          · obtain rfl := he
            try dsimp only
            refine ge_run (pc' := 30) (L' := [.ref 1598, .int x1_1, .int x2_27]) (S' := [.int x2_27, .ref 1598]) 2 rfl ?_
            refine ge_cv rfl rfl rfl (t1598 s) rfl rfl rfl (D := 1) (Nat.le_trans (by decide) hd) (c_Lt_emit (n := n) (u := u) (t := t) (i := i_28) (r := r) s x2_27) ?_
            rintro i_35 -
            dsimp only [bkE, F_v1]
            refine ge_run (pc' := 32) (L' := [.ref 1598, .int x1_1, .int x2_27]) (S' := [.int x1_1]) 1 rfl ?_
            refine ge_bind (K1 := fun (q : MI) e => e = .inl (36, [.ref 1598, .int x1_1, .int x2_27], [], (n, u, t, q, r))) ?_ ?_
            · refine ge_le0 rfl (fun h_37 => ?_) (fun h_39 => ?_)
              · refine ge_run (pc' := 35) (L' := [.ref 1598, .int x1_1, .int x2_27]) (S' := [.int (-12 : Int32), .ref 1598]) 2 rfl ?_
                refine ge_cv rfl rfl rfl (t1598 s) rfl rfl rfl (D := 1) (Nat.le_trans (by decide) hd) (c_Lt_emit (n := n) (u := u) (t := t) (i := i_35) (r := r) s (-12 : Int32)) ?_
                rintro i_38 -
                dsimp only [bkE, F_v1]
                exact ge_leaf rfl
              · exact ge_leaf rfl
            · rintro i_36 _ rfl
              try dsimp only
              refine ge_run (pc' := 2) (L' := [.ref 1598, .int (x1_1 + (1 : Int32)), .int x2_27]) (S' := []) 2 rfl ?_
              exact ge_leaf (K := kX _ _) (Exists.intro _ rfl)
          · exact ge_leaf he
  · exact ge_retv rfl rfl (And.intro rfl trivial)
def f_Ta_needSign (i : MI) (x1 : Int32) : Option ((Unit ⊕ Nat) × MI) :=
  (f_Ta_takeSign i x1).bind (fun (v_1, i_2) => if v_1 = 0 then ((f_Ta_refuse i_2).bind (fun | (.inl (), i_4) => some (.inl (), i_4) | (.inr c_5, i_4) => some (.inr c_5, i_4))) else (some (.inl (), i_2)))
set_option maxHeartbeats 4000000 in
theorem c_Ta_needSign {n u : Nat} {t : MT} {i : MI} {r : MR} (s : Sh n t r) (x1 : Int32) : Cn 4 117 [.ref 1595, .int x1] (n, u, t, i, r) (f_Ta_needSign i x1) (F_tv1 n u t r) PT := by
  refine cn_of (Y := K_Ta_needSign) (L0 := [.ref 1595, .int x1]) rfl rfl rfl ?_
  intro d hd
  unfold f_Ta_needSign
  refine ge_run (pc' := 2) (L' := [.ref 1595, .int x1]) (S' := [.int x1, .ref 1595]) 2 rfl ?_
  refine ge_cv rfl rfl rfl (t1595 s) rfl rfl rfl (D := 3) (Nat.le_trans (by decide) hd) (c_Ta_takeSign (n := n) (u := u) (t := t) (i := i) (r := r) s x1) ?_
  rintro ⟨v_1, i_2⟩ -
  dsimp only [bkE, F_i1]
  refine ge_ne0 rfl (fun h_3 => ?_) (fun h_6 => ?_)
  · refine ge_run (pc' := 5) (L' := [.ref 1595, .int x1]) (S' := [.ref 1595]) 1 rfl ?_
    refine ge_cv rfl rfl rfl (t1595 s) rfl rfl rfl (D := 1) (Nat.le_trans (by decide) hd) (c_Ta_refuse (n := n) (u := u) (t := t) (i := i_2) (r := r) s ) ?_
    rintro ⟨⟨⟩ | c_5, i_4⟩ -
    · dsimp only [bkE, F_tv1]
      exact ge_retv rfl rfl (And.intro rfl trivial)
    · exact ge_leaf (And.intro rfl trivial)
  · exact ge_retv rfl rfl (And.intro rfl trivial)
