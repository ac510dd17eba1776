/-! ===== methods as functions, part 6 (written by wip/gen/decall.py) ===== -/
def f_Mo_days (i : MI) (x1 : Int32) : Option (Int32 × MI) :=
  bnd (wr i 1638 0 (0 : Int32)) (fun i_1 => (f_Mo_in x1 (1 : Int32) (60 : Int32)).bind (fun v_2 => (if v_2 = 0 then (some (1 : Int32)) else (some (0 : Int32)) : Option (Int32)).bind (fun y_3 => (f_Mo_throwsIf i_1 y_3 (1 : Int32)).bind (fun (v_6, i_7) => if v_6 = 0 then ((f_Mo_remembers i_7).bind (fun i_9 => (f_Mo_goesOn i_9 x1 (0 : Int32)).bind (fun (v_10, i_11) => some (v_10, i_11)))) else (some ((0 : Int32), i_7))))))
set_option maxHeartbeats 4000000 in
theorem c_Mo_days {n u : Nat} {t : MT} {i : MI} {r : MR} (s : Sh n t r) (x1 : Int32) : Cn 12 285 [.ref 1638, .int x1] (n, u, t, i, r) (f_Mo_days i x1) (F_i1 n u t r) PT := by
  refine cn_of (Y := K_Mo_days) (L0 := [.ref 1638, .int x1]) rfl rfl rfl ?_
  intro d hd
  unfold f_Mo_days
  refine ge_run (pc' := 2) (L' := [.ref 1638, .int x1]) (S' := [.int (0 : Int32), .ref 1638]) 2 rfl ?_
  refine ge_putI rfl (t1638 s) (Nat.le_of_ble_eq_true rfl) rfl (fun i_1 => ?_)
  refine ge_run (pc' := 7) (L' := [.ref 1638, .int x1]) (S' := [.int (60 : Int32), .int (1 : Int32), .int x1, .ref 1638]) 4 rfl ?_
  refine ge_cs rfl rfl rfl rfl rfl rfl (D := 1) (Nat.le_trans (by decide) hd) (c_Mo_in (n := n) (u := u) (t := t) (i := i_1) (r := r) s x1 (1 : Int32) (60 : Int32)) ?_
  rintro v_2 -
  dsimp only [bkE, F_i0]
  refine ge_bind (K1 := fun (q : Int32) e => e = .inl (12, [.ref 1638, .int x1], [.int q, .ref 1638], (n, u, t, i_1, r))) ?_ ?_
  · refine ge_ne0 rfl (fun h_4 => ?_) (fun h_5 => ?_)
    · refine ge_run (pc' := 12) (L' := [.ref 1638, .int x1]) (S' := [.int (1 : Int32), .ref 1638]) 2 rfl ?_
      exact ge_leaf rfl
    · refine ge_run (pc' := 12) (L' := [.ref 1638, .int x1]) (S' := [.int (0 : Int32), .ref 1638]) 1 rfl ?_
      exact ge_leaf rfl
  · rintro y_3 _ rfl
    try dsimp only
    refine ge_run (pc' := 13) (L' := [.ref 1638, .int x1]) (S' := [.int (1 : Int32), .int y_3, .ref 1638]) 1 rfl ?_
    refine ge_cv rfl rfl rfl (t1638 s) rfl rfl rfl (D := 1) (Nat.le_trans (by decide) hd) (c_Mo_throwsIf (n := n) (u := u) (t := t) (i := i_1) (r := r) s y_3 (1 : Int32)) ?_
    rintro ⟨v_6, i_7⟩ -
    dsimp only [bkE, F_i1]
    refine ge_eq0 rfl (fun h_8 => ?_) (fun h_12 => ?_)
    · refine ge_run (pc' := 18) (L' := [.ref 1638, .int x1]) (S' := [.ref 1638]) 1 rfl ?_
      refine ge_cv rfl rfl rfl (t1638 s) rfl rfl rfl (D := 1) (Nat.le_trans (by decide) hd) (c_Mo_remembers (n := n) (u := u) (t := t) (i := i_7) (r := r) s ) ?_
      rintro i_9 -
      dsimp only [bkE, F_v1]
      refine ge_run (pc' := 22) (L' := [.ref 1638, .int x1]) (S' := [.int (0 : Int32), .int x1, .ref 1638]) 3 rfl ?_
      refine ge_cv rfl rfl rfl (t1638 s) rfl rfl rfl (D := 11) (Nat.le_trans (by decide) hd) (c_Mo_goesOn (n := n) (u := u) (t := t) (i := i_9) (r := r) s x1 (0 : Int32)) ?_
      rintro ⟨v_10, i_11⟩ -
      dsimp only [bkE, F_i1]
      exact ge_ret rfl rfl (And.intro rfl trivial)
    · refine ge_run (pc' := 16) (L' := [.ref 1638, .int x1]) (S' := [.int (0 : Int32)]) 1 rfl ?_
      exact ge_ret rfl rfl (And.intro rfl trivial)
def f_Mo_isNow (i : MI) (x1 : Int32) (x2 : Int32) : Option (Int32 × MI) :=
  (f_Mo_remembers i).bind (fun i_1 => grd x1 2115 (bnd (wr i_1 1639 (ix x1) x2) (fun i_4 => some ((i_1 1639 (ix x1)), i_4))))
set_option maxHeartbeats 4000000 in
theorem c_Mo_isNow {n u : Nat} {t : MT} {i : MI} {r : MR} (s : Sh n t r) (x1 : Int32) (x2 : Int32) : Cn 2 286 [.ref 1638, .int x1, .int x2] (n, u, t, i, r) (f_Mo_isNow i x1 x2) (F_i1 n u t r) PT := by
  refine cn_of (Y := K_Mo_isNow) (L0 := [.ref 1638, .int x1, .int x2, uV]) rfl rfl rfl ?_
  intro d hd
  unfold f_Mo_isNow
  refine ge_run (pc' := 1) (L' := [.ref 1638, .int x1, .int x2, uV]) (S' := [.ref 1638]) 1 rfl ?_
  refine ge_cv rfl rfl rfl (t1638 s) rfl rfl rfl (D := 1) (Nat.le_trans (by decide) hd) (c_Mo_remembers (n := n) (u := u) (t := t) (i := i) (r := r) s ) ?_
  rintro i_1 -
  dsimp only [bkE, F_v1]
  refine ge_run (pc' := 3) (L' := [.ref 1638, .int x1, .int x2, uV]) (S' := [.ref 1638]) 1 rfl ?_
  refine ge_getR (b := 1639) rfl (t1638 s) rfl (r1638_1 s) (Nat.le_of_ble_eq_true rfl) ?_
  refine ge_run (pc' := 5) (L' := [.ref 1638, .int x1, .int x2, uV]) (S' := [.int x1, .ref 1639]) 1 rfl ?_
  refine ge_grd (fun g_2 g_3 => ?_)
  refine ge_iald (jn := (ix x1)) rfl (t1639 s) ⟨g_2, rfl⟩ g_3 ?_
  refine ge_run (pc' := 8) (L' := [.ref 1638, .int x1, .int x2, .int (i_1 1639 (ix x1))]) (S' := [.ref 1638]) 2 rfl ?_
  refine ge_getR (b := 1639) rfl (t1638 s) rfl (r1638_1 s) (Nat.le_of_ble_eq_true rfl) ?_
  refine ge_run (pc' := 11) (L' := [.ref 1638, .int x1, .int x2, .int (i_1 1639 (ix x1))]) (S' := [.int x2, .int x1, .ref 1639]) 2 rfl ?_
  refine ge_iast (jn := (ix x1)) rfl (t1639 s) (Nat.le_of_ble_eq_true rfl) ⟨g_2, rfl⟩ g_3 (fun i_4 => ?_)
  refine ge_run (pc' := 13) (L' := [.ref 1638, .int x1, .int x2, .int (i_1 1639 (ix x1))]) (S' := [.int (i_1 1639 (ix x1))]) 1 rfl ?_
  exact ge_ret rfl rfl (And.intro rfl trivial)
def f_Mo_heads (i : MI) (x1 : Int32) (x2 : Int32) : Option (Int32 × MI) :=
  bnd (wr i 1638 0 (0 : Int32)) (fun i_1 => (f_Mo_noBoat i_1 x1).bind (fun v_2 => (if v_2 = 0 then (if x2 = (-1 : Int32) then (some (0 : Int32)) else ((f_Mo_noCell x2).bind (fun v_7 => if v_7 = 0 then (some (0 : Int32)) else (some (1 : Int32))))) else (some (1 : Int32)) : Option (Int32)).bind (fun y_3 => (f_Mo_throwsIf i_1 y_3 (1 : Int32)).bind (fun (v_11, i_12) => if v_11 = 0 then ((f_Mo_boatAt x1 (1 : Int32)).bind (fun v_14 => (f_Mo_isNow i_12 v_14 x2).bind (fun (v_15, i_16) => some (v_15, i_16)))) else (some ((0 : Int32), i_12))))))
set_option maxHeartbeats 4000000 in
theorem c_Mo_heads {n u : Nat} {t : MT} {i : MI} {r : MR} (s : Sh n t r) (x1 : Int32) (x2 : Int32) : Cn 3 287 [.ref 1638, .int x1, .int x2] (n, u, t, i, r) (f_Mo_heads i x1 x2) (F_i1 n u t r) PT := by
  refine cn_of (Y := K_Mo_heads) (L0 := [.ref 1638, .int x1, .int x2]) rfl rfl rfl ?_
  intro d hd
  unfold f_Mo_heads
  refine ge_run (pc' := 2) (L' := [.ref 1638, .int x1, .int x2]) (S' := [.int (0 : Int32), .ref 1638]) 2 rfl ?_
  refine ge_putI rfl (t1638 s) (Nat.le_of_ble_eq_true rfl) rfl (fun i_1 => ?_)
  refine ge_run (pc' := 6) (L' := [.ref 1638, .int x1, .int x2]) (S' := [.int x1, .ref 1638, .ref 1638]) 3 rfl ?_
  refine ge_cv rfl rfl rfl (t1638 s) rfl rfl rfl (D := 2) (Nat.le_trans (by decide) hd) (c_Mo_noBoat (n := n) (u := u) (t := t) (i := i_1) (r := r) s x1) ?_
  rintro v_2 -
  dsimp only [bkE, F_i0]
  refine ge_bind (K1 := fun (q : Int32) e => e = .inl (17, [.ref 1638, .int x1, .int x2], [.int q, .ref 1638], (n, u, t, i_1, r))) ?_ ?_
  · refine ge_ne0 rfl (fun h_4 => ?_) (fun h_10 => ?_)
    · refine ge_run (pc' := 10) (L' := [.ref 1638, .int x1, .int x2]) (S' := [.int (-1 : Int32), .int x2, .ref 1638]) 2 rfl ?_
      refine ge_eq rfl (fun h_5 => ?_) (fun h_6 => ?_)
      · refine ge_run (pc' := 17) (L' := [.ref 1638, .int x1, .int x2]) (S' := [.int (0 : Int32), .ref 1638]) 1 rfl ?_
        exact ge_leaf rfl
      · refine ge_run (pc' := 12) (L' := [.ref 1638, .int x1, .int x2]) (S' := [.int x2, .ref 1638]) 1 rfl ?_
        refine ge_cs rfl rfl rfl rfl rfl rfl (D := 2) (Nat.le_trans (by decide) hd) (c_Mo_noCell (n := n) (u := u) (t := t) (i := i_1) (r := r) s x2) ?_
        rintro v_7 -
        dsimp only [bkE, F_i0]
        refine ge_eq0 rfl (fun h_8 => ?_) (fun h_9 => ?_)
        · refine ge_run (pc' := 17) (L' := [.ref 1638, .int x1, .int x2]) (S' := [.int (0 : Int32), .ref 1638]) 1 rfl ?_
          exact ge_leaf rfl
        · refine ge_run (pc' := 17) (L' := [.ref 1638, .int x1, .int x2]) (S' := [.int (1 : Int32), .ref 1638]) 2 rfl ?_
          exact ge_leaf rfl
    · refine ge_run (pc' := 17) (L' := [.ref 1638, .int x1, .int x2]) (S' := [.int (1 : Int32), .ref 1638]) 2 rfl ?_
      exact ge_leaf rfl
  · rintro y_3 _ rfl
    try dsimp only
    refine ge_run (pc' := 18) (L' := [.ref 1638, .int x1, .int x2]) (S' := [.int (1 : Int32), .int y_3, .ref 1638]) 1 rfl ?_
    refine ge_cv rfl rfl rfl (t1638 s) rfl rfl rfl (D := 1) (Nat.le_trans (by decide) hd) (c_Mo_throwsIf (n := n) (u := u) (t := t) (i := i_1) (r := r) s y_3 (1 : Int32)) ?_
    rintro ⟨v_11, i_12⟩ -
    dsimp only [bkE, F_i1]
    refine ge_eq0 rfl (fun h_13 => ?_) (fun h_17 => ?_)
    · refine ge_run (pc' := 25) (L' := [.ref 1638, .int x1, .int x2]) (S' := [.int (1 : Int32), .int x1, .ref 1638]) 3 rfl ?_
      refine ge_cs rfl rfl rfl rfl rfl rfl (D := 1) (Nat.le_trans (by decide) hd) (c_Mo_boatAt (n := n) (u := u) (t := t) (i := i_12) (r := r) s x1 (1 : Int32)) ?_
      rintro v_14 -
      dsimp only [bkE, F_i0]
      refine ge_run (pc' := 27) (L' := [.ref 1638, .int x1, .int x2]) (S' := [.int x2, .int v_14, .ref 1638]) 1 rfl ?_
      refine ge_cv rfl rfl rfl (t1638 s) rfl rfl rfl (D := 2) (Nat.le_trans (by decide) hd) (c_Mo_isNow (n := n) (u := u) (t := t) (i := i_12) (r := r) s v_14 x2) ?_
      rintro ⟨v_15, i_16⟩ -
      dsimp only [bkE, F_i1]
      exact ge_ret rfl rfl (And.intro rfl trivial)
    · refine ge_run (pc' := 28) (L' := [.ref 1638, .int x1, .int x2]) (S' := [.int (0 : Int32)]) 2 rfl ?_
      exact ge_ret rfl rfl (And.intro rfl trivial)
def f_Mo_ice (i : MI) (x1 : Int32) : Option (Int32 × MI) :=
  bnd (wr i 1638 0 (0 : Int32)) (fun i_1 => (f_Mo_in x1 (1 : Int32) (999 : Int32)).bind (fun v_2 => (if v_2 = 0 then (some (1 : Int32)) else (some (0 : Int32)) : Option (Int32)).bind (fun y_3 => (f_Mo_throwsIf i_1 y_3 (1 : Int32)).bind (fun (v_6, i_7) => if v_6 = 0 then ((f_J_min (999 : Int32) ((i_7 1639 6) + x1)).bind (fun v_9 => (f_Mo_isNow i_7 (6 : Int32) v_9).bind (fun (v_10, i_11) => some ((i_11 1639 6), i_11)))) else (some ((0 : Int32), i_7))))))
set_option maxHeartbeats 4000000 in
theorem c_Mo_ice {n u : Nat} {t : MT} {i : MI} {r : MR} (s : Sh n t r) (x1 : Int32) : Cn 3 288 [.ref 1638, .int x1] (n, u, t, i, r) (f_Mo_ice i x1) (F_i1 n u t r) PT := by
  refine cn_of (Y := K_Mo_ice) (L0 := [.ref 1638, .int x1]) rfl rfl rfl ?_
  intro d hd
  unfold f_Mo_ice
  refine ge_run (pc' := 2) (L' := [.ref 1638, .int x1]) (S' := [.int (0 : Int32), .ref 1638]) 2 rfl ?_
  refine ge_putI rfl (t1638 s) (Nat.le_of_ble_eq_true rfl) rfl (fun i_1 => ?_)
  refine ge_run (pc' := 7) (L' := [.ref 1638, .int x1]) (S' := [.int (999 : Int32), .int (1 : Int32), .int x1, .ref 1638]) 4 rfl ?_
  refine ge_cs rfl rfl rfl rfl rfl rfl (D := 1) (Nat.le_trans (by decide) hd) (c_Mo_in (n := n) (u := u) (t := t) (i := i_1) (r := r) s x1 (1 : Int32) (999 : Int32)) ?_
  rintro v_2 -
  dsimp only [bkE, F_i0]
  refine ge_bind (K1 := fun (q : Int32) e => e = .inl (12, [.ref 1638, .int x1], [.int q, .ref 1638], (n, u, t, i_1, r))) ?_ ?_
  · refine ge_ne0 rfl (fun h_4 => ?_) (fun h_5 => ?_)
    · refine ge_run (pc' := 12) (L' := [.ref 1638, .int x1]) (S' := [.int (1 : Int32), .ref 1638]) 2 rfl ?_
      exact ge_leaf rfl
    · refine ge_run (pc' := 12) (L' := [.ref 1638, .int x1]) (S' := [.int (0 : Int32), .ref 1638]) 1 rfl ?_
      exact ge_leaf rfl
  · rintro y_3 _ rfl
    try dsimp only
    refine ge_run (pc' := 13) (L' := [.ref 1638, .int x1]) (S' := [.int (1 : Int32), .int y_3, .ref 1638]) 1 rfl ?_
    refine ge_cv rfl rfl rfl (t1638 s) rfl rfl rfl (D := 1) (Nat.le_trans (by decide) hd) (c_Mo_throwsIf (n := n) (u := u) (t := t) (i := i_1) (r := r) s y_3 (1 : Int32)) ?_
    rintro ⟨v_6, i_7⟩ -
    dsimp only [bkE, F_i1]
    refine ge_eq0 rfl (fun h_8 => ?_) (fun h_12 => ?_)
    · refine ge_run (pc' := 21) (L' := [.ref 1638, .int x1]) (S' := [.ref 1638, .int (999 : Int32), .int (6 : Int32), .ref 1638]) 4 rfl ?_
      refine ge_getR (b := 1639) rfl (t1638 s) rfl (r1638_1 s) (Nat.le_of_ble_eq_true rfl) ?_
      refine ge_run (pc' := 23) (L' := [.ref 1638, .int x1]) (S' := [.int (6 : Int32), .ref 1639, .int (999 : Int32), .int (6 : Int32), .ref 1638]) 1 rfl ?_
      refine ge_iald (jn := 6) rfl (t1639 s) lk6 (by decide) ?_
      refine ge_run (pc' := 26) (L' := [.ref 1638, .int x1]) (S' := [.int ((i_7 1639 6) + x1), .int (999 : Int32), .int (6 : Int32), .ref 1638]) 2 rfl ?_
      refine ge_cs rfl rfl rfl rfl rfl rfl (D := 1) (Nat.le_trans (by decide) hd) (c_J_min (n := n) (u := u) (t := t) (i := i_7) (r := r) s (999 : Int32) ((i_7 1639 6) + x1)) ?_
      rintro v_9 -
      dsimp only [bkE, F_i0]
      refine ge_cv rfl rfl rfl (t1638 s) rfl rfl rfl (D := 2) (Nat.le_trans (by decide) hd) (c_Mo_isNow (n := n) (u := u) (t := t) (i := i_7) (r := r) s (6 : Int32) v_9) ?_
      rintro ⟨v_10, i_11⟩ -
      dsimp only [bkE, F_i1]
      refine ge_run (pc' := 30) (L' := [.ref 1638, .int x1]) (S' := [.ref 1638]) 2 rfl ?_
      refine ge_getR (b := 1639) rfl (t1638 s) rfl (r1638_1 s) (Nat.le_of_ble_eq_true rfl) ?_
      refine ge_run (pc' := 32) (L' := [.ref 1638, .int x1]) (S' := [.int (6 : Int32), .ref 1639]) 1 rfl ?_
      refine ge_iald (jn := 6) rfl (t1639 s) lk6 (by decide) ?_
      exact ge_ret rfl rfl (And.intro rfl trivial)
    · refine ge_run (pc' := 16) (L' := [.ref 1638, .int x1]) (S' := [.int (0 : Int32)]) 1 rfl ?_
      exact ge_ret rfl rfl (And.intro rfl trivial)
def f_Mo_sponge (i : MI) (x1 : Int32) (x2 : Int32) : Option (Int32 × MI) :=
  bnd (wr i 1638 0 (0 : Int32)) (fun i_1 => (f_Mo_noFish i_1 x1).bind (fun v_2 => (f_Mo_throwsIf i_1 v_2 (1 : Int32)).bind (fun (v_3, i_4) => if v_3 = 0 then ((f_Mo_in x2 (1 : Int32) (99 : Int32)).bind (fun v_6 => (if v_6 = 0 then (some (1 : Int32)) else (some (0 : Int32)) : Option (Int32)).bind (fun y_7 => (f_Mo_throwsIf i_4 y_7 (2 : Int32)).bind (fun (v_10, i_11) => if v_10 = 0 then ((f_Mo_of i_11 x1 (3 : Int32)).bind (fun v_13 => (if v_13 = (2 : Int32) then (some (0 : Int32)) else (some (1 : Int32)) : Option (Int32)).bind (fun y_14 => (f_Mo_throwsIf i_11 y_14 (3 : Int32)).bind (fun (v_17, i_18) => if v_17 = 0 then ((f_Mo_fishAt x1 (2 : Int32)).bind (fun v_20 => (f_Mo_of i_18 x1 (2 : Int32)).bind (fun v_21 => (f_J_min (99 : Int32) (v_21 + x2)).bind (fun v_22 => (f_Mo_isNow i_18 v_20 v_22).bind (fun (v_23, i_24) => (f_Mo_of i_24 x1 (2 : Int32)).bind (fun v_25 => some (v_25, i_24))))))) else (some ((0 : Int32), i_18)))))) else (some ((0 : Int32), i_11)))))) else (some ((0 : Int32), i_4)))))
set_option maxHeartbeats 4000000 in
theorem c_Mo_sponge {n u : Nat} {t : MT} {i : MI} {r : MR} (s : Sh n t r) (x1 : Int32) (x2 : Int32) : Cn 3 289 [.ref 1638, .int x1, .int x2] (n, u, t, i, r) (f_Mo_sponge i x1 x2) (F_i1 n u t r) PT := by
  refine cn_of (Y := K_Mo_sponge) (L0 := [.ref 1638, .int x1, .int x2]) rfl rfl rfl ?_
  intro d hd
  unfold f_Mo_sponge
  refine ge_run (pc' := 2) (L' := [.ref 1638, .int x1, .int x2]) (S' := [.int (0 : Int32), .ref 1638]) 2 rfl ?_
  refine ge_putI rfl (t1638 s) (Nat.le_of_ble_eq_true rfl) rfl (fun i_1 => ?_)
  refine ge_run (pc' := 6) (L' := [.ref 1638, .int x1, .int x2]) (S' := [.int x1, .ref 1638, .ref 1638]) 3 rfl ?_
  refine ge_cv rfl rfl rfl (t1638 s) rfl rfl rfl (D := 2) (Nat.le_trans (by decide) hd) (c_Mo_noFish (n := n) (u := u) (t := t) (i := i_1) (r := r) s x1) ?_
  rintro v_2 -
  dsimp only [bkE, F_i0]
  refine ge_run (pc' := 8) (L' := [.ref 1638, .int x1, .int x2]) (S' := [.int (1 : Int32), .int v_2, .ref 1638]) 1 rfl ?_
  refine ge_cv rfl rfl rfl (t1638 s) rfl rfl rfl (D := 1) (Nat.le_trans (by decide) hd) (c_Mo_throwsIf (n := n) (u := u) (t := t) (i := i_1) (r := r) s v_2 (1 : Int32)) ?_
  rintro ⟨v_3, i_4⟩ -
  dsimp only [bkE, F_i1]
  refine ge_ne0 rfl (fun h_5 => ?_) (fun h_28 => ?_)
  · refine ge_run (pc' := 14) (L' := [.ref 1638, .int x1, .int x2]) (S' := [.int (99 : Int32), .int (1 : Int32), .int x2, .ref 1638]) 4 rfl ?_
    refine ge_cs rfl rfl rfl rfl rfl rfl (D := 1) (Nat.le_trans (by decide) hd) (c_Mo_in (n := n) (u := u) (t := t) (i := i_4) (r := r) s x2 (1 : Int32) (99 : Int32)) ?_
    rintro v_6 -
    dsimp only [bkE, F_i0]
    refine ge_bind (K1 := fun (q : Int32) e => e = .inl (19, [.ref 1638, .int x1, .int x2], [.int q, .ref 1638], (n, u, t, i_4, r))) ?_ ?_
    · refine ge_ne0 rfl (fun h_8 => ?_) (fun h_9 => ?_)
      · refine ge_run (pc' := 19) (L' := [.ref 1638, .int x1, .int x2]) (S' := [.int (1 : Int32), .ref 1638]) 2 rfl ?_
        exact ge_leaf rfl
      · refine ge_run (pc' := 19) (L' := [.ref 1638, .int x1, .int x2]) (S' := [.int (0 : Int32), .ref 1638]) 1 rfl ?_
        exact ge_leaf rfl
    · rintro y_7 _ rfl
      try dsimp only
      refine ge_run (pc' := 20) (L' := [.ref 1638, .int x1, .int x2]) (S' := [.int (2 : Int32), .int y_7, .ref 1638]) 1 rfl ?_
      refine ge_cv rfl rfl rfl (t1638 s) rfl rfl rfl (D := 1) (Nat.le_trans (by decide) hd) (c_Mo_throwsIf (n := n) (u := u) (t := t) (i := i_4) (r := r) s y_7 (2 : Int32)) ?_
      rintro ⟨v_10, i_11⟩ -
      dsimp only [bkE, F_i1]
      refine ge_ne0 rfl (fun h_12 => ?_) (fun h_27 => ?_)
      · refine ge_run (pc' := 26) (L' := [.ref 1638, .int x1, .int x2]) (S' := [.int (3 : Int32), .int x1, .ref 1638, .ref 1638]) 4 rfl ?_
        refine ge_cv rfl rfl rfl (t1638 s) rfl rfl rfl (D := 2) (Nat.le_trans (by decide) hd) (c_Mo_of (n := n) (u := u) (t := t) (i := i_11) (r := r) s x1 (3 : Int32)) ?_
        rintro v_13 -
        dsimp only [bkE, F_i0]
        refine ge_run (pc' := 28) (L' := [.ref 1638, .int x1, .int x2]) (S' := [.int (2 : Int32), .int v_13, .ref 1638]) 1 rfl ?_
        refine ge_bind (K1 := fun (q : Int32) e => e = .inl (32, [.ref 1638, .int x1, .int x2], [.int q, .ref 1638], (n, u, t, i_11, r))) ?_ ?_
        · refine ge_eq rfl (fun h_15 => ?_) (fun h_16 => ?_)
          · refine ge_run (pc' := 32) (L' := [.ref 1638, .int x1, .int x2]) (S' := [.int (0 : Int32), .ref 1638]) 1 rfl ?_
            exact ge_leaf rfl
          · refine ge_run (pc' := 32) (L' := [.ref 1638, .int x1, .int x2]) (S' := [.int (1 : Int32), .ref 1638]) 2 rfl ?_
            exact ge_leaf rfl
        · rintro y_14 _ rfl
          try dsimp only
          refine ge_run (pc' := 33) (L' := [.ref 1638, .int x1, .int x2]) (S' := [.int (3 : Int32), .int y_14, .ref 1638]) 1 rfl ?_
          refine ge_cv rfl rfl rfl (t1638 s) rfl rfl rfl (D := 1) (Nat.le_trans (by decide) hd) (c_Mo_throwsIf (n := n) (u := u) (t := t) (i := i_11) (r := r) s y_14 (3 : Int32)) ?_
          rintro ⟨v_17, i_18⟩ -
          dsimp only [bkE, F_i1]
          refine ge_eq0 rfl (fun h_19 => ?_) (fun h_26 => ?_)
          · refine ge_run (pc' := 40) (L' := [.ref 1638, .int x1, .int x2]) (S' := [.int (2 : Int32), .int x1, .ref 1638]) 3 rfl ?_
            refine ge_cs rfl rfl rfl rfl rfl rfl (D := 1) (Nat.le_trans (by decide) hd) (c_Mo_fishAt (n := n) (u := u) (t := t) (i := i_18) (r := r) s x1 (2 : Int32)) ?_
            rintro v_20 -
            dsimp only [bkE, F_i0]
            refine ge_run (pc' := 45) (L' := [.ref 1638, .int x1, .int x2]) (S' := [.int (2 : Int32), .int x1, .ref 1638, .int (99 : Int32), .int v_20, .ref 1638]) 4 rfl ?_
            refine ge_cv rfl rfl rfl (t1638 s) rfl rfl rfl (D := 2) (Nat.le_trans (by decide) hd) (c_Mo_of (n := n) (u := u) (t := t) (i := i_18) (r := r) s x1 (2 : Int32)) ?_
            rintro v_21 -
            dsimp only [bkE, F_i0]
            refine ge_run (pc' := 48) (L' := [.ref 1638, .int x1, .int x2]) (S' := [.int (v_21 + x2), .int (99 : Int32), .int v_20, .ref 1638]) 2 rfl ?_
            refine ge_cs rfl rfl rfl rfl rfl rfl (D := 1) (Nat.le_trans (by decide) hd) (c_J_min (n := n) (u := u) (t := t) (i := i_18) (r := r) s (99 : Int32) (v_21 + x2)) ?_
            rintro v_22 -
            dsimp only [bkE, F_i0]
            refine ge_cv rfl rfl rfl (t1638 s) rfl rfl rfl (D := 2) (Nat.le_trans (by decide) hd) (c_Mo_isNow (n := n) (u := u) (t := t) (i := i_18) (r := r) s v_20 v_22) ?_
            rintro ⟨v_23, i_24⟩ -
            dsimp only [bkE, F_i1]
            refine ge_run (pc' := 54) (L' := [.ref 1638, .int x1, .int x2]) (S' := [.int (2 : Int32), .int x1, .ref 1638]) 4 rfl ?_
            refine ge_cv rfl rfl rfl (t1638 s) rfl rfl rfl (D := 2) (Nat.le_trans (by decide) hd) (c_Mo_of (n := n) (u := u) (t := t) (i := i_24) (r := r) s x1 (2 : Int32)) ?_
            rintro v_25 -
            dsimp only [bkE, F_i0]
            exact ge_ret rfl rfl (And.intro rfl trivial)
          · refine ge_run (pc' := 36) (L' := [.ref 1638, .int x1, .int x2]) (S' := [.int (0 : Int32)]) 1 rfl ?_
            exact ge_ret rfl rfl (And.intro rfl trivial)
      · refine ge_run (pc' := 36) (L' := [.ref 1638, .int x1, .int x2]) (S' := [.int (0 : Int32)]) 1 rfl ?_
        exact ge_ret rfl rfl (And.intro rfl trivial)
  · refine ge_run (pc' := 36) (L' := [.ref 1638, .int x1, .int x2]) (S' := [.int (0 : Int32)]) 1 rfl ?_
    exact ge_ret rfl rfl (And.intro rfl trivial)
def f_Mo_pay (i : MI) (x1 : Int32) (x2 : Int32) : Option (Int32 × MI) :=
  bnd (wr i 1638 0 (0 : Int32)) (fun i_1 => (f_Mo_noBuyer i_1 x1).bind (fun v_2 => (f_Mo_throwsIf i_1 v_2 (1 : Int32)).bind (fun (v_3, i_4) => if v_3 = 0 then ((f_Mo_in x2 (1 : Int32) (999 : Int32)).bind (fun v_6 => (if v_6 = 0 then (some (1 : Int32)) else (some (0 : Int32)) : Option (Int32)).bind (fun y_7 => (f_Mo_throwsIf i_4 y_7 (2 : Int32)).bind (fun (v_10, i_11) => if v_10 = 0 then ((f_Mo_buyerAt x1 (1 : Int32)).bind (fun v_13 => (f_Mo_ofBuyer i_11 x1 (1 : Int32)).bind (fun v_14 => (f_J_min (999 : Int32) (v_14 + x2)).bind (fun v_15 => (f_Mo_isNow i_11 v_13 v_15).bind (fun (v_16, i_17) => (f_Mo_ofBuyer i_17 x1 (1 : Int32)).bind (fun v_18 => some (v_18, i_17))))))) else (some ((0 : Int32), i_11)))))) else (some ((0 : Int32), i_4)))))
set_option maxHeartbeats 4000000 in
theorem c_Mo_pay {n u : Nat} {t : MT} {i : MI} {r : MR} (s : Sh n t r) (x1 : Int32) (x2 : Int32) : Cn 3 290 [.ref 1638, .int x1, .int x2] (n, u, t, i, r) (f_Mo_pay i x1 x2) (F_i1 n u t r) PT := by
  refine cn_of (Y := K_Mo_pay) (L0 := [.ref 1638, .int x1, .int x2]) rfl rfl rfl ?_
  intro d hd
  unfold f_Mo_pay
  refine ge_run (pc' := 2) (L' := [.ref 1638, .int x1, .int x2]) (S' := [.int (0 : Int32), .ref 1638]) 2 rfl ?_
  refine ge_putI rfl (t1638 s) (Nat.le_of_ble_eq_true rfl) rfl (fun i_1 => ?_)
  refine ge_run (pc' := 6) (L' := [.ref 1638, .int x1, .int x2]) (S' := [.int x1, .ref 1638, .ref 1638]) 3 rfl ?_
  refine ge_cv rfl rfl rfl (t1638 s) rfl rfl rfl (D := 2) (Nat.le_trans (by decide) hd) (c_Mo_noBuyer (n := n) (u := u) (t := t) (i := i_1) (r := r) s x1) ?_
  rintro v_2 -
  dsimp only [bkE, F_i0]
  refine ge_run (pc' := 8) (L' := [.ref 1638, .int x1, .int x2]) (S' := [.int (1 : Int32), .int v_2, .ref 1638]) 1 rfl ?_
  refine ge_cv rfl rfl rfl (t1638 s) rfl rfl rfl (D := 1) (Nat.le_trans (by decide) hd) (c_Mo_throwsIf (n := n) (u := u) (t := t) (i := i_1) (r := r) s v_2 (1 : Int32)) ?_
  rintro ⟨v_3, i_4⟩ -
  dsimp only [bkE, F_i1]
  refine ge_ne0 rfl (fun h_5 => ?_) (fun h_20 => ?_)
  · refine ge_run (pc' := 14) (L' := [.ref 1638, .int x1, .int x2]) (S' := [.int (999 : Int32), .int (1 : Int32), .int x2, .ref 1638]) 4 rfl ?_
    refine ge_cs rfl rfl rfl rfl rfl rfl (D := 1) (Nat.le_trans (by decide) hd) (c_Mo_in (n := n) (u := u) (t := t) (i := i_4) (r := r) s x2 (1 : Int32) (999 : Int32)) ?_
    rintro v_6 -
    dsimp only [bkE, F_i0]
    refine ge_bind (K1 := fun (q : Int32) e => e = .inl (19, [.ref 1638, .int x1, .int x2], [.int q, .ref 1638], (n, u, t, i_4, r))) ?_ ?_
    · refine ge_ne0 rfl (fun h_8 => ?_) (fun h_9 => ?_)
      · refine ge_run (pc' := 19) (L' := [.ref 1638, .int x1, .int x2]) (S' := [.int (1 : Int32), .ref 1638]) 2 rfl ?_
        exact ge_leaf rfl
      · refine ge_run (pc' := 19) (L' := [.ref 1638, .int x1, .int x2]) (S' := [.int (0 : Int32), .ref 1638]) 1 rfl ?_
        exact ge_leaf rfl
    · rintro y_7 _ rfl
      try dsimp only
      refine ge_run (pc' := 20) (L' := [.ref 1638, .int x1, .int x2]) (S' := [.int (2 : Int32), .int y_7, .ref 1638]) 1 rfl ?_
      refine ge_cv rfl rfl rfl (t1638 s) rfl rfl rfl (D := 1) (Nat.le_trans (by decide) hd) (c_Mo_throwsIf (n := n) (u := u) (t := t) (i := i_4) (r := r) s y_7 (2 : Int32)) ?_
      rintro ⟨v_10, i_11⟩ -
      dsimp only [bkE, F_i1]
      refine ge_eq0 rfl (fun h_12 => ?_) (fun h_19 => ?_)
      · refine ge_run (pc' := 27) (L' := [.ref 1638, .int x1, .int x2]) (S' := [.int (1 : Int32), .int x1, .ref 1638]) 3 rfl ?_
        refine ge_cs rfl rfl rfl rfl rfl rfl (D := 1) (Nat.le_trans (by decide) hd) (c_Mo_buyerAt (n := n) (u := u) (t := t) (i := i_11) (r := r) s x1 (1 : Int32)) ?_
        rintro v_13 -
        dsimp only [bkE, F_i0]
        refine ge_run (pc' := 32) (L' := [.ref 1638, .int x1, .int x2]) (S' := [.int (1 : Int32), .int x1, .ref 1638, .int (999 : Int32), .int v_13, .ref 1638]) 4 rfl ?_
        refine ge_cv rfl rfl rfl (t1638 s) rfl rfl rfl (D := 2) (Nat.le_trans (by decide) hd) (c_Mo_ofBuyer (n := n) (u := u) (t := t) (i := i_11) (r := r) s x1 (1 : Int32)) ?_
        rintro v_14 -
        dsimp only [bkE, F_i0]
        refine ge_run (pc' := 35) (L' := [.ref 1638, .int x1, .int x2]) (S' := [.int (v_14 + x2), .int (999 : Int32), .int v_13, .ref 1638]) 2 rfl ?_
        refine ge_cs rfl rfl rfl rfl rfl rfl (D := 1) (Nat.le_trans (by decide) hd) (c_J_min (n := n) (u := u) (t := t) (i := i_11) (r := r) s (999 : Int32) (v_14 + x2)) ?_
        rintro v_15 -
        dsimp only [bkE, F_i0]
        refine ge_cv rfl rfl rfl (t1638 s) rfl rfl rfl (D := 2) (Nat.le_trans (by decide) hd) (c_Mo_isNow (n := n) (u := u) (t := t) (i := i_11) (r := r) s v_13 v_15) ?_
        rintro ⟨v_16, i_17⟩ -
        dsimp only [bkE, F_i1]
        refine ge_run (pc' := 41) (L' := [.ref 1638, .int x1, .int x2]) (S' := [.int (1 : Int32), .int x1, .ref 1638]) 4 rfl ?_
        refine ge_cv rfl rfl rfl (t1638 s) rfl rfl rfl (D := 2) (Nat.le_trans (by decide) hd) (c_Mo_ofBuyer (n := n) (u := u) (t := t) (i := i_17) (r := r) s x1 (1 : Int32)) ?_
        rintro v_18 -
        dsimp only [bkE, F_i0]
        exact ge_ret rfl rfl (And.intro rfl trivial)
      · refine ge_run (pc' := 23) (L' := [.ref 1638, .int x1, .int x2]) (S' := [.int (0 : Int32)]) 1 rfl ?_
        exact ge_ret rfl rfl (And.intro rfl trivial)
  · refine ge_run (pc' := 23) (L' := [.ref 1638, .int x1, .int x2]) (S' := [.int (0 : Int32)]) 1 rfl ?_
    exact ge_ret rfl rfl (And.intro rfl trivial)
def f_Mo_tell (i : MI) (x1 : Int32) (x2 : Int32) (x3 : Int32) : Option (Int32 × MI) :=
  bnd (wr i 1638 0 (0 : Int32)) (fun i_1 => (f_Mo_in x1 (0 : Int32) (3 : Int32)).bind (fun v_2 => (if v_2 = 0 then (some (1 : Int32)) else ((f_Mo_noCell x2).bind (fun v_6 => if v_6 = 0 then (some (0 : Int32)) else (some (1 : Int32)))) : Option (Int32)).bind (fun y_3 => (f_Mo_throwsIf i_1 y_3 (1 : Int32)).bind (fun (v_9, i_10) => if v_9 = 0 then ((f_Mo_in x3 (1 : Int32) (9 : Int32)).bind (fun v_12 => (if v_12 = 0 then (some (1 : Int32)) else (some (0 : Int32)) : Option (Int32)).bind (fun y_13 => (f_Mo_throwsIf i_10 y_13 (2 : Int32)).bind (fun (v_16, i_17) => if v_16 = 0 then ((f_Mo_fishes i_17).bind (fun v_19 => (if v_19 = (8 : Int32) then (some (1 : Int32)) else (some (0 : Int32)) : Option (Int32)).bind (fun y_20 => (f_Mo_throwsIf i_17 y_20 (3 : Int32)).bind (fun (v_23, i_24) => if v_23 = 0 then ((f_Mo_remembers i_24).bind (fun i_26 => (f_Mo_isFish i_26 x1 x2 x3 (90 : Int32)).bind (fun i_27 => (f_Mo_fishes i_27).bind (fun v_28 => some ((v_28 - (1 : Int32)), i_27))))) else (some ((0 : Int32), i_24)))))) else (some ((0 : Int32), i_17)))))) else (some ((0 : Int32), i_10))))))
set_option maxHeartbeats 4000000 in
theorem c_Mo_tell {n u : Nat} {t : MT} {i : MI} {r : MR} (s : Sh n t r) (x1 : Int32) (x2 : Int32) (x3 : Int32) : Cn 3 291 [.ref 1638, .int x1, .int x2, .int x3] (n, u, t, i, r) (f_Mo_tell i x1 x2 x3) (F_i1 n u t r) PT := by
  refine cn_of (Y := K_Mo_tell) (L0 := [.ref 1638, .int x1, .int x2, .int x3]) rfl rfl rfl ?_
  intro d hd
  unfold f_Mo_tell
  refine ge_run (pc' := 2) (L' := [.ref 1638, .int x1, .int x2, .int x3]) (S' := [.int (0 : Int32), .ref 1638]) 2 rfl ?_
  refine ge_putI rfl (t1638 s) (Nat.le_of_ble_eq_true rfl) rfl (fun i_1 => ?_)
  refine ge_run (pc' := 7) (L' := [.ref 1638, .int x1, .int x2, .int x3]) (S' := [.int (3 : Int32), .int (0 : Int32), .int x1, .ref 1638]) 4 rfl ?_
  refine ge_cs rfl rfl rfl rfl rfl rfl (D := 1) (Nat.le_trans (by decide) hd) (c_Mo_in (n := n) (u := u) (t := t) (i := i_1) (r := r) s x1 (0 : Int32) (3 : Int32)) ?_
  rintro v_2 -
  dsimp only [bkE, F_i0]
  refine ge_bind (K1 := fun (q : Int32) e => e = .inl (15, [.ref 1638, .int x1, .int x2, .int x3], [.int q, .ref 1638], (n, u, t, i_1, r))) ?_ ?_
  · refine ge_eq0 rfl (fun h_4 => ?_) (fun h_5 => ?_)
    · refine ge_run (pc' := 15) (L' := [.ref 1638, .int x1, .int x2, .int x3]) (S' := [.int (1 : Int32), .ref 1638]) 2 rfl ?_
      exact ge_leaf rfl
    · refine ge_run (pc' := 10) (L' := [.ref 1638, .int x1, .int x2, .int x3]) (S' := [.int x2, .ref 1638]) 1 rfl ?_
      refine ge_cs rfl rfl rfl rfl rfl rfl (D := 2) (Nat.le_trans (by decide) hd) (c_Mo_noCell (n := n) (u := u) (t := t) (i := i_1) (r := r) s x2) ?_
      rintro v_6 -
      dsimp only [bkE, F_i0]
      refine ge_eq0 rfl (fun h_7 => ?_) (fun h_8 => ?_)
      · refine ge_run (pc' := 15) (L' := [.ref 1638, .int x1, .int x2, .int x3]) (S' := [.int (0 : Int32), .ref 1638]) 1 rfl ?_
        exact ge_leaf rfl
      · refine ge_run (pc' := 15) (L' := [.ref 1638, .int x1, .int x2, .int x3]) (S' := [.int (1 : Int32), .ref 1638]) 2 rfl ?_
        exact ge_leaf rfl
  · rintro y_3 _ rfl
    try dsimp only
    refine ge_run (pc' := 16) (L' := [.ref 1638, .int x1, .int x2, .int x3]) (S' := [.int (1 : Int32), .int y_3, .ref 1638]) 1 rfl ?_
    refine ge_cv rfl rfl rfl (t1638 s) rfl rfl rfl (D := 1) (Nat.le_trans (by decide) hd) (c_Mo_throwsIf (n := n) (u := u) (t := t) (i := i_1) (r := r) s y_3 (1 : Int32)) ?_
    rintro ⟨v_9, i_10⟩ -
    dsimp only [bkE, F_i1]
    refine ge_ne0 rfl (fun h_11 => ?_) (fun h_31 => ?_)
    · refine ge_run (pc' := 22) (L' := [.ref 1638, .int x1, .int x2, .int x3]) (S' := [.int (9 : Int32), .int (1 : Int32), .int x3, .ref 1638]) 4 rfl ?_
      refine ge_cs rfl rfl rfl rfl rfl rfl (D := 1) (Nat.le_trans (by decide) hd) (c_Mo_in (n := n) (u := u) (t := t) (i := i_10) (r := r) s x3 (1 : Int32) (9 : Int32)) ?_
      rintro v_12 -
      dsimp only [bkE, F_i0]
      refine ge_bind (K1 := fun (q : Int32) e => e = .inl (27, [.ref 1638, .int x1, .int x2, .int x3], [.int q, .ref 1638], (n, u, t, i_10, r))) ?_ ?_
      · refine ge_ne0 rfl (fun h_14 => ?_) (fun h_15 => ?_)
        · refine ge_run (pc' := 27) (L' := [.ref 1638, .int x1, .int x2, .int x3]) (S' := [.int (1 : Int32), .ref 1638]) 2 rfl ?_
          exact ge_leaf rfl
        · refine ge_run (pc' := 27) (L' := [.ref 1638, .int x1, .int x2, .int x3]) (S' := [.int (0 : Int32), .ref 1638]) 1 rfl ?_
          exact ge_leaf rfl
      · rintro y_13 _ rfl
        try dsimp only
        refine ge_run (pc' := 28) (L' := [.ref 1638, .int x1, .int x2, .int x3]) (S' := [.int (2 : Int32), .int y_13, .ref 1638]) 1 rfl ?_
        refine ge_cv rfl rfl rfl (t1638 s) rfl rfl rfl (D := 1) (Nat.le_trans (by decide) hd) (c_Mo_throwsIf (n := n) (u := u) (t := t) (i := i_10) (r := r) s y_13 (2 : Int32)) ?_
        rintro ⟨v_16, i_17⟩ -
        dsimp only [bkE, F_i1]
        refine ge_ne0 rfl (fun h_18 => ?_) (fun h_30 => ?_)
        · refine ge_run (pc' := 32) (L' := [.ref 1638, .int x1, .int x2, .int x3]) (S' := [.ref 1638, .ref 1638]) 2 rfl ?_
          refine ge_cv rfl rfl rfl (t1638 s) rfl rfl rfl (D := 1) (Nat.le_trans (by decide) hd) (c_Mo_fishes (n := n) (u := u) (t := t) (i := i_17) (r := r) s ) ?_
          rintro v_19 -
          dsimp only [bkE, F_i0]
          refine ge_run (pc' := 34) (L' := [.ref 1638, .int x1, .int x2, .int x3]) (S' := [.int (8 : Int32), .int v_19, .ref 1638]) 1 rfl ?_
          refine ge_bind (K1 := fun (q : Int32) e => e = .inl (38, [.ref 1638, .int x1, .int x2, .int x3], [.int q, .ref 1638], (n, u, t, i_17, r))) ?_ ?_
          · refine ge_ne rfl (fun h_21 => ?_) (fun h_22 => ?_)
            · refine ge_run (pc' := 38) (L' := [.ref 1638, .int x1, .int x2, .int x3]) (S' := [.int (1 : Int32), .ref 1638]) 2 rfl ?_
              exact ge_leaf rfl
            · refine ge_run (pc' := 38) (L' := [.ref 1638, .int x1, .int x2, .int x3]) (S' := [.int (0 : Int32), .ref 1638]) 1 rfl ?_
              exact ge_leaf rfl
          · rintro y_20 _ rfl
            try dsimp only
            refine ge_run (pc' := 39) (L' := [.ref 1638, .int x1, .int x2, .int x3]) (S' := [.int (3 : Int32), .int y_20, .ref 1638]) 1 rfl ?_
            refine ge_cv rfl rfl rfl (t1638 s) rfl rfl rfl (D := 1) (Nat.le_trans (by decide) hd) (c_Mo_throwsIf (n := n) (u := u) (t := t) (i := i_17) (r := r) s y_20 (3 : Int32)) ?_
            rintro ⟨v_23, i_24⟩ -
            dsimp only [bkE, F_i1]
            refine ge_eq0 rfl (fun h_25 => ?_) (fun h_29 => ?_)
            · refine ge_run (pc' := 44) (L' := [.ref 1638, .int x1, .int x2, .int x3]) (S' := [.ref 1638]) 1 rfl ?_
              refine ge_cv rfl rfl rfl (t1638 s) rfl rfl rfl (D := 1) (Nat.le_trans (by decide) hd) (c_Mo_remembers (n := n) (u := u) (t := t) (i := i_24) (r := r) s ) ?_
              rintro i_26 -
              dsimp only [bkE, F_v1]
              refine ge_run (pc' := 50) (L' := [.ref 1638, .int x1, .int x2, .int x3]) (S' := [.int (90 : Int32), .int x3, .int x2, .int x1, .ref 1638]) 5 rfl ?_
              refine ge_cv rfl rfl rfl (t1638 s) rfl rfl rfl (D := 2) (Nat.le_trans (by decide) hd) (c_Mo_isFish (n := n) (u := u) (t := t) (i := i_26) (r := r) s x1 x2 x3 (90 : Int32)) ?_
              rintro i_27 -
              dsimp only [bkE, F_v1]
              refine ge_run (pc' := 52) (L' := [.ref 1638, .int x1, .int x2, .int x3]) (S' := [.ref 1638]) 1 rfl ?_
              refine ge_cv rfl rfl rfl (t1638 s) rfl rfl rfl (D := 1) (Nat.le_trans (by decide) hd) (c_Mo_fishes (n := n) (u := u) (t := t) (i := i_27) (r := r) s ) ?_
              rintro v_28 -
              dsimp only [bkE, F_i0]
              refine ge_run (pc' := 55) (L' := [.ref 1638, .int x1, .int x2, .int x3]) (S' := [.int (v_28 - (1 : Int32))]) 2 rfl ?_
              exact ge_ret rfl rfl (And.intro rfl trivial)
            · refine ge_run (pc' := 42) (L' := [.ref 1638, .int x1, .int x2, .int x3]) (S' := [.int (0 : Int32)]) 1 rfl ?_
              exact ge_ret rfl rfl (And.intro rfl trivial)
        · refine ge_run (pc' := 42) (L' := [.ref 1638, .int x1, .int x2, .int x3]) (S' := [.int (0 : Int32)]) 1 rfl ?_
          exact ge_ret rfl rfl (And.intro rfl trivial)
    · refine ge_run (pc' := 42) (L' := [.ref 1638, .int x1, .int x2, .int x3]) (S' := [.int (0 : Int32)]) 1 rfl ?_
      exact ge_ret rfl rfl (And.intro rfl trivial)
def f_Mo_release (i : MI) (x1 : Int32) : Option (Int32 × MI) :=
  bnd (wr i 1638 0 (0 : Int32)) (fun i_1 => (f_Mo_noFish i_1 x1).bind (fun v_2 => (f_Mo_throwsIf i_1 v_2 (1 : Int32)).bind (fun (v_3, i_4) => if v_3 = 0 then ((f_Mo_of i_4 x1 (3 : Int32)).bind (fun v_6 => (if v_6 = 0 then (some (1 : Int32)) else ((f_Mo_of i_4 x1 (3 : Int32)).bind (fun v_10 => if v_10 = (3 : Int32) then (some (1 : Int32)) else (some (0 : Int32)))) : Option (Int32)).bind (fun y_7 => (f_Mo_throwsIf i_4 y_7 (2 : Int32)).bind (fun (v_13, i_14) => if v_13 = 0 then ((f_Mo_remembers i_14).bind (fun i_16 => (f_Mo_of i_16 x1 (3 : Int32)).bind (fun v_17 => (if v_17 = (2 : Int32) then (some (0 : Int32)) else ((f_Mo_cellOf i_16 x1).bind (fun v_21 => some v_21)) : Option (Int32)).bind (fun y_18 => (f_Mo_isNowIn i_16 x1 (0 : Int32) y_18).bind (fun i_22 => (f_Mo_of i_22 x1 (4 : Int32)).bind (fun v_23 => some (v_23, i_22))))))) else (some ((0 : Int32), i_14)))))) else (some ((0 : Int32), i_4)))))
set_option maxHeartbeats 4000000 in
theorem c_Mo_release {n u : Nat} {t : MT} {i : MI} {r : MR} (s : Sh n t r) (x1 : Int32) : Cn 4 292 [.ref 1638, .int x1] (n, u, t, i, r) (f_Mo_release i x1) (F_i1 n u t r) PT := by
  refine cn_of (Y := K_Mo_release) (L0 := [.ref 1638, .int x1]) rfl rfl rfl ?_
  intro d hd
  unfold f_Mo_release
  refine ge_run (pc' := 2) (L' := [.ref 1638, .int x1]) (S' := [.int (0 : Int32), .ref 1638]) 2 rfl ?_
  refine ge_putI rfl (t1638 s) (Nat.le_of_ble_eq_true rfl) rfl (fun i_1 => ?_)
  refine ge_run (pc' := 6) (L' := [.ref 1638, .int x1]) (S' := [.int x1, .ref 1638, .ref 1638]) 3 rfl ?_
  refine ge_cv rfl rfl rfl (t1638 s) rfl rfl rfl (D := 2) (Nat.le_trans (by decide) hd) (c_Mo_noFish (n := n) (u := u) (t := t) (i := i_1) (r := r) s x1) ?_
  rintro v_2 -
  dsimp only [bkE, F_i0]
  refine ge_run (pc' := 8) (L' := [.ref 1638, .int x1]) (S' := [.int (1 : Int32), .int v_2, .ref 1638]) 1 rfl ?_
  refine ge_cv rfl rfl rfl (t1638 s) rfl rfl rfl (D := 1) (Nat.le_trans (by decide) hd) (c_Mo_throwsIf (n := n) (u := u) (t := t) (i := i_1) (r := r) s v_2 (1 : Int32)) ?_
  rintro ⟨v_3, i_4⟩ -
  dsimp only [bkE, F_i1]
  refine ge_ne0 rfl (fun h_5 => ?_) (fun h_25 => ?_)
  · refine ge_run (pc' := 14) (L' := [.ref 1638, .int x1]) (S' := [.int (3 : Int32), .int x1, .ref 1638, .ref 1638]) 4 rfl ?_
    refine ge_cv rfl rfl rfl (t1638 s) rfl rfl rfl (D := 2) (Nat.le_trans (by decide) hd) (c_Mo_of (n := n) (u := u) (t := t) (i := i_4) (r := r) s x1 (3 : Int32)) ?_
    rintro v_6 -
    dsimp only [bkE, F_i0]
    refine ge_bind (K1 := fun (q : Int32) e => e = .inl (25, [.ref 1638, .int x1], [.int q, .ref 1638], (n, u, t, i_4, r))) ?_ ?_
    · refine ge_eq0 rfl (fun h_8 => ?_) (fun h_9 => ?_)
      · refine ge_run (pc' := 25) (L' := [.ref 1638, .int x1]) (S' := [.int (1 : Int32), .ref 1638]) 2 rfl ?_
        exact ge_leaf rfl
      · refine ge_run (pc' := 19) (L' := [.ref 1638, .int x1]) (S' := [.int (3 : Int32), .int x1, .ref 1638, .ref 1638]) 3 rfl ?_
        refine ge_cv rfl rfl rfl (t1638 s) rfl rfl rfl (D := 2) (Nat.le_trans (by decide) hd) (c_Mo_of (n := n) (u := u) (t := t) (i := i_4) (r := r) s x1 (3 : Int32)) ?_
        rintro v_10 -
        dsimp only [bkE, F_i0]
        refine ge_run (pc' := 21) (L' := [.ref 1638, .int x1]) (S' := [.int (3 : Int32), .int v_10, .ref 1638]) 1 rfl ?_
        refine ge_ne rfl (fun h_11 => ?_) (fun h_12 => ?_)
        · refine ge_run (pc' := 25) (L' := [.ref 1638, .int x1]) (S' := [.int (1 : Int32), .ref 1638]) 2 rfl ?_
          exact ge_leaf rfl
        · refine ge_run (pc' := 25) (L' := [.ref 1638, .int x1]) (S' := [.int (0 : Int32), .ref 1638]) 1 rfl ?_
          exact ge_leaf rfl
    · rintro y_7 _ rfl
      try dsimp only
      refine ge_run (pc' := 26) (L' := [.ref 1638, .int x1]) (S' := [.int (2 : Int32), .int y_7, .ref 1638]) 1 rfl ?_
      refine ge_cv rfl rfl rfl (t1638 s) rfl rfl rfl (D := 1) (Nat.le_trans (by decide) hd) (c_Mo_throwsIf (n := n) (u := u) (t := t) (i := i_4) (r := r) s y_7 (2 : Int32)) ?_
      rintro ⟨v_13, i_14⟩ -
      dsimp only [bkE, F_i1]
      refine ge_eq0 rfl (fun h_15 => ?_) (fun h_24 => ?_)
      · refine ge_run (pc' := 31) (L' := [.ref 1638, .int x1]) (S' := [.ref 1638]) 1 rfl ?_
        refine ge_cv rfl rfl rfl (t1638 s) rfl rfl rfl (D := 1) (Nat.le_trans (by decide) hd) (c_Mo_remembers (n := n) (u := u) (t := t) (i := i_14) (r := r) s ) ?_
        rintro i_16 -
        dsimp only [bkE, F_v1]
        refine ge_run (pc' := 38) (L' := [.ref 1638, .int x1]) (S' := [.int (3 : Int32), .int x1, .ref 1638, .int (0 : Int32), .int x1, .ref 1638]) 6 rfl ?_
        refine ge_cv rfl rfl rfl (t1638 s) rfl rfl rfl (D := 2) (Nat.le_trans (by decide) hd) (c_Mo_of (n := n) (u := u) (t := t) (i := i_16) (r := r) s x1 (3 : Int32)) ?_
        rintro v_17 -
        dsimp only [bkE, F_i0]
        refine ge_run (pc' := 40) (L' := [.ref 1638, .int x1]) (S' := [.int (2 : Int32), .int v_17, .int (0 : Int32), .int x1, .ref 1638]) 1 rfl ?_
        refine ge_bind (K1 := fun (q : Int32) e => e = .inl (46, [.ref 1638, .int x1], [.int q, .int (0 : Int32), .int x1, .ref 1638], (n, u, t, i_16, r))) ?_ ?_
        · refine ge_ne rfl (fun h_19 => ?_) (fun h_20 => ?_)
          · refine ge_run (pc' := 46) (L' := [.ref 1638, .int x1]) (S' := [.int (0 : Int32), .int (0 : Int32), .int x1, .ref 1638]) 2 rfl ?_
            exact ge_leaf rfl
          · refine ge_run (pc' := 45) (L' := [.ref 1638, .int x1]) (S' := [.int x1, .ref 1638, .int (0 : Int32), .int x1, .ref 1638]) 2 rfl ?_
            refine ge_cv rfl rfl rfl (t1638 s) rfl rfl rfl (D := 3) (Nat.le_trans (by decide) hd) (c_Mo_cellOf (n := n) (u := u) (t := t) (i := i_16) (r := r) s x1) ?_
            rintro v_21 -
            dsimp only [bkE, F_i0]
            exact ge_leaf rfl
        · rintro y_18 _ rfl
          try dsimp only
          refine ge_cv rfl rfl rfl (t1638 s) rfl rfl rfl (D := 2) (Nat.le_trans (by decide) hd) (c_Mo_isNowIn (n := n) (u := u) (t := t) (i := i_16) (r := r) s x1 (0 : Int32) y_18) ?_
          rintro i_22 -
          dsimp only [bkE, F_v1]
          refine ge_run (pc' := 50) (L' := [.ref 1638, .int x1]) (S' := [.int (4 : Int32), .int x1, .ref 1638]) 3 rfl ?_
          refine ge_cv rfl rfl rfl (t1638 s) rfl rfl rfl (D := 2) (Nat.le_trans (by decide) hd) (c_Mo_of (n := n) (u := u) (t := t) (i := i_22) (r := r) s x1 (4 : Int32)) ?_
          rintro v_23 -
          dsimp only [bkE, F_i0]
          exact ge_ret rfl rfl (And.intro rfl trivial)
      · refine ge_run (pc' := 29) (L' := [.ref 1638, .int x1]) (S' := [.int (0 : Int32)]) 1 rfl ?_
        exact ge_ret rfl rfl (And.intro rfl trivial)
  · refine ge_run (pc' := 29) (L' := [.ref 1638, .int x1]) (S' := [.int (0 : Int32)]) 1 rfl ?_
    exact ge_ret rfl rfl (And.intro rfl trivial)
def f_Mo_current (i : MI) (x1 : Int32) (x2 : Int32) : Option (Int32 × MI) :=
  bnd (wr i 1638 0 (0 : Int32)) (fun i_1 => (f_Mo_noCell x1).bind (fun v_2 => (f_Mo_throwsIf i_1 v_2 (1 : Int32)).bind (fun (v_3, i_4) => if v_3 = 0 then ((f_Mo_in x2 (0 : Int32) (4 : Int32)).bind (fun v_6 => (if v_6 = 0 then (some (1 : Int32)) else (some (0 : Int32)) : Option (Int32)).bind (fun y_7 => (f_Mo_throwsIf i_4 y_7 (2 : Int32)).bind (fun (v_10, i_11) => if v_10 = 0 then ((f_Mo_isNow i_11 ((11 : Int32) + x1) x2).bind (fun (v_13, i_14) => some (v_13, i_14))) else (some ((0 : Int32), i_11)))))) else (some ((0 : Int32), i_4)))))
set_option maxHeartbeats 4000000 in
theorem c_Mo_current {n u : Nat} {t : MT} {i : MI} {r : MR} (s : Sh n t r) (x1 : Int32) (x2 : Int32) : Cn 3 293 [.ref 1638, .int x1, .int x2] (n, u, t, i, r) (f_Mo_current i x1 x2) (F_i1 n u t r) PT := by
  refine cn_of (Y := K_Mo_current) (L0 := [.ref 1638, .int x1, .int x2]) rfl rfl rfl ?_
  intro d hd
  unfold f_Mo_current
  refine ge_run (pc' := 2) (L' := [.ref 1638, .int x1, .int x2]) (S' := [.int (0 : Int32), .ref 1638]) 2 rfl ?_
  refine ge_putI rfl (t1638 s) (Nat.le_of_ble_eq_true rfl) rfl (fun i_1 => ?_)
  refine ge_run (pc' := 5) (L' := [.ref 1638, .int x1, .int x2]) (S' := [.int x1, .ref 1638]) 2 rfl ?_
  refine ge_cs rfl rfl rfl rfl rfl rfl (D := 2) (Nat.le_trans (by decide) hd) (c_Mo_noCell (n := n) (u := u) (t := t) (i := i_1) (r := r) s x1) ?_
  rintro v_2 -
  dsimp only [bkE, F_i0]
  refine ge_run (pc' := 7) (L' := [.ref 1638, .int x1, .int x2]) (S' := [.int (1 : Int32), .int v_2, .ref 1638]) 1 rfl ?_
  refine ge_cv rfl rfl rfl (t1638 s) rfl rfl rfl (D := 1) (Nat.le_trans (by decide) hd) (c_Mo_throwsIf (n := n) (u := u) (t := t) (i := i_1) (r := r) s v_2 (1 : Int32)) ?_
  rintro ⟨v_3, i_4⟩ -
  dsimp only [bkE, F_i1]
  refine ge_ne0 rfl (fun h_5 => ?_) (fun h_16 => ?_)
  · refine ge_run (pc' := 13) (L' := [.ref 1638, .int x1, .int x2]) (S' := [.int (4 : Int32), .int (0 : Int32), .int x2, .ref 1638]) 4 rfl ?_
    refine ge_cs rfl rfl rfl rfl rfl rfl (D := 1) (Nat.le_trans (by decide) hd) (c_Mo_in (n := n) (u := u) (t := t) (i := i_4) (r := r) s x2 (0 : Int32) (4 : Int32)) ?_
    rintro v_6 -
    dsimp only [bkE, F_i0]
    refine ge_bind (K1 := fun (q : Int32) e => e = .inl (18, [.ref 1638, .int x1, .int x2], [.int q, .ref 1638], (n, u, t, i_4, r))) ?_ ?_
    · refine ge_ne0 rfl (fun h_8 => ?_) (fun h_9 => ?_)
      · refine ge_run (pc' := 18) (L' := [.ref 1638, .int x1, .int x2]) (S' := [.int (1 : Int32), .ref 1638]) 2 rfl ?_
        exact ge_leaf rfl
      · refine ge_run (pc' := 18) (L' := [.ref 1638, .int x1, .int x2]) (S' := [.int (0 : Int32), .ref 1638]) 1 rfl ?_
        exact ge_leaf rfl
    · rintro y_7 _ rfl
      try dsimp only
      refine ge_run (pc' := 19) (L' := [.ref 1638, .int x1, .int x2]) (S' := [.int (2 : Int32), .int y_7, .ref 1638]) 1 rfl ?_
      refine ge_cv rfl rfl rfl (t1638 s) rfl rfl rfl (D := 1) (Nat.le_trans (by decide) hd) (c_Mo_throwsIf (n := n) (u := u) (t := t) (i := i_4) (r := r) s y_7 (2 : Int32)) ?_
      rintro ⟨v_10, i_11⟩ -
      dsimp only [bkE, F_i1]
      refine ge_eq0 rfl (fun h_12 => ?_) (fun h_15 => ?_)
      · refine ge_run (pc' := 28) (L' := [.ref 1638, .int x1, .int x2]) (S' := [.int x2, .int ((11 : Int32) + x1), .ref 1638]) 5 rfl ?_
        refine ge_cv rfl rfl rfl (t1638 s) rfl rfl rfl (D := 2) (Nat.le_trans (by decide) hd) (c_Mo_isNow (n := n) (u := u) (t := t) (i := i_11) (r := r) s ((11 : Int32) + x1) x2) ?_
        rintro ⟨v_13, i_14⟩ -
        dsimp only [bkE, F_i1]
        exact ge_ret rfl rfl (And.intro rfl trivial)
      · refine ge_run (pc' := 29) (L' := [.ref 1638, .int x1, .int x2]) (S' := [.int (0 : Int32)]) 2 rfl ?_
        exact ge_ret rfl rfl (And.intro rfl trivial)
  · refine ge_run (pc' := 29) (L' := [.ref 1638, .int x1, .int x2]) (S' := [.int (0 : Int32)]) 2 rfl ?_
    exact ge_ret rfl rfl (And.intro rfl trivial)
def f_Mo_sell (i : MI) (x1 : Int32) (x2 : Int32) : Option (Int32 × MI) :=
  bnd (wr i 1638 0 (0 : Int32)) (fun i_1 => (f_Mo_noFish i_1 x1).bind (fun v_2 => (if v_2 = 0 then ((f_Mo_noBuyer i_1 x2).bind (fun v_5 => if v_5 = 0 then (some (0 : Int32)) else (some (1 : Int32)))) else (some (1 : Int32)) : Option (Int32)).bind (fun y_3 => (f_Mo_throwsIf i_1 y_3 (1 : Int32)).bind (fun (v_9, i_10) => if v_9 = 0 then ((f_Mo_of i_10 x1 (3 : Int32)).bind (fun v_12 => (if v_12 = (2 : Int32) then ((f_Mo_priceOf i_10 x1).bind (fun (v_16, i_17) => (f_Mo_ofBuyer i_17 x2 (1 : Int32)).bind (fun v_18 => if v_18 < v_16 then (some ((1 : Int32), i_17)) else (some ((0 : Int32), i_17))))) else (some ((1 : Int32), i_10)) : Option (Int32 × MI)).bind (fun (y_13, i_14) => (f_Mo_throwsIf i_14 y_13 (2 : Int32)).bind (fun (v_22, i_23) => if v_22 = 0 then ((f_Mo_remembers i_23).bind (fun i_25 => (f_Mo_isSold i_25 x1 x2 (3 : Int32)).bind (fun (v_26, i_27) => some (v_26, i_27)))) else (some ((0 : Int32), i_23)))))) else (some ((0 : Int32), i_10))))))
set_option maxHeartbeats 4000000 in
theorem c_Mo_sell {n u : Nat} {t : MT} {i : MI} {r : MR} (s : Sh n t r) (x1 : Int32) (x2 : Int32) : Cn 9 294 [.ref 1638, .int x1, .int x2] (n, u, t, i, r) (f_Mo_sell i x1 x2) (F_i1 n u t r) PT := by
  refine cn_of (Y := K_Mo_sell) (L0 := [.ref 1638, .int x1, .int x2]) rfl rfl rfl ?_
  intro d hd
  unfold f_Mo_sell
  refine ge_run (pc' := 2) (L' := [.ref 1638, .int x1, .int x2]) (S' := [.int (0 : Int32), .ref 1638]) 2 rfl ?_
  refine ge_putI rfl (t1638 s) (Nat.le_of_ble_eq_true rfl) rfl (fun i_1 => ?_)
  refine ge_run (pc' := 6) (L' := [.ref 1638, .int x1, .int x2]) (S' := [.int x1, .ref 1638, .ref 1638]) 3 rfl ?_
  refine ge_cv rfl rfl rfl (t1638 s) rfl rfl rfl (D := 2) (Nat.le_trans (by decide) hd) (c_Mo_noFish (n := n) (u := u) (t := t) (i := i_1) (r := r) s x1) ?_
  rintro v_2 -
  dsimp only [bkE, F_i0]
  refine ge_bind (K1 := fun (q : Int32) e => e = .inl (15, [.ref 1638, .int x1, .int x2], [.int q, .ref 1638], (n, u, t, i_1, r))) ?_ ?_
  · refine ge_ne0 rfl (fun h_4 => ?_) (fun h_8 => ?_)
    · refine ge_run (pc' := 10) (L' := [.ref 1638, .int x1, .int x2]) (S' := [.int x2, .ref 1638, .ref 1638]) 2 rfl ?_
      refine ge_cv rfl rfl rfl (t1638 s) rfl rfl rfl (D := 2) (Nat.le_trans (by decide) hd) (c_Mo_noBuyer (n := n) (u := u) (t := t) (i := i_1) (r := r) s x2) ?_
      rintro v_5 -
      dsimp only [bkE, F_i0]
      refine ge_eq0 rfl (fun h_6 => ?_) (fun h_7 => ?_)
      · refine ge_run (pc' := 15) (L' := [.ref 1638, .int x1, .int x2]) (S' := [.int (0 : Int32), .ref 1638]) 1 rfl ?_
        exact ge_leaf rfl
      · refine ge_run (pc' := 15) (L' := [.ref 1638, .int x1, .int x2]) (S' := [.int (1 : Int32), .ref 1638]) 2 rfl ?_
        exact ge_leaf rfl
    · refine ge_run (pc' := 15) (L' := [.ref 1638, .int x1, .int x2]) (S' := [.int (1 : Int32), .ref 1638]) 2 rfl ?_
      exact ge_leaf rfl
  · rintro y_3 _ rfl
    try dsimp only
    refine ge_run (pc' := 16) (L' := [.ref 1638, .int x1, .int x2]) (S' := [.int (1 : Int32), .int y_3, .ref 1638]) 1 rfl ?_
    refine ge_cv rfl rfl rfl (t1638 s) rfl rfl rfl (D := 1) (Nat.le_trans (by decide) hd) (c_Mo_throwsIf (n := n) (u := u) (t := t) (i := i_1) (r := r) s y_3 (1 : Int32)) ?_
    rintro ⟨v_9, i_10⟩ -
    dsimp only [bkE, F_i1]
    refine ge_ne0 rfl (fun h_11 => ?_) (fun h_29 => ?_)
    · refine ge_run (pc' := 22) (L' := [.ref 1638, .int x1, .int x2]) (S' := [.int (3 : Int32), .int x1, .ref 1638, .ref 1638]) 4 rfl ?_
      refine ge_cv rfl rfl rfl (t1638 s) rfl rfl rfl (D := 2) (Nat.le_trans (by decide) hd) (c_Mo_of (n := n) (u := u) (t := t) (i := i_10) (r := r) s x1 (3 : Int32)) ?_
      rintro v_12 -
      dsimp only [bkE, F_i0]
      refine ge_run (pc' := 24) (L' := [.ref 1638, .int x1, .int x2]) (S' := [.int (2 : Int32), .int v_12, .ref 1638]) 1 rfl ?_
      refine ge_bind (K1 := fun (q : Int32 × MI) e => e = .inl (36, [.ref 1638, .int x1, .int x2], [.int q.1, .ref 1638], (n, u, t, q.2, r))) ?_ ?_
      · refine ge_ne rfl (fun h_15 => ?_) (fun h_21 => ?_)
        · refine ge_run (pc' := 27) (L' := [.ref 1638, .int x1, .int x2]) (S' := [.int x1, .ref 1638, .ref 1638]) 2 rfl ?_
          refine ge_cv rfl rfl rfl (t1638 s) rfl rfl rfl (D := 7) (Nat.le_trans (by decide) hd) (c_Mo_priceOf (n := n) (u := u) (t := t) (i := i_10) (r := r) s x1) ?_
          rintro ⟨v_16, i_17⟩ -
          dsimp only [bkE, F_i1]
          refine ge_run (pc' := 31) (L' := [.ref 1638, .int x1, .int x2]) (S' := [.int (1 : Int32), .int x2, .ref 1638, .int v_16, .ref 1638]) 3 rfl ?_
          refine ge_cv rfl rfl rfl (t1638 s) rfl rfl rfl (D := 2) (Nat.le_trans (by decide) hd) (c_Mo_ofBuyer (n := n) (u := u) (t := t) (i := i_17) (r := r) s x2 (1 : Int32)) ?_
          rintro v_18 -
          dsimp only [bkE, F_i0]
          refine ge_le rfl (fun h_19 => ?_) (fun h_20 => ?_)
          · refine ge_run (pc' := 36) (L' := [.ref 1638, .int x1, .int x2]) (S' := [.int (1 : Int32), .ref 1638]) 2 rfl ?_
            exact ge_leaf rfl
          · refine ge_run (pc' := 36) (L' := [.ref 1638, .int x1, .int x2]) (S' := [.int (0 : Int32), .ref 1638]) 1 rfl ?_
            exact ge_leaf rfl
        · refine ge_run (pc' := 36) (L' := [.ref 1638, .int x1, .int x2]) (S' := [.int (1 : Int32), .ref 1638]) 2 rfl ?_
          exact ge_leaf rfl
      · rintro ⟨y_13, i_14⟩ _ rfl
        try dsimp only
        refine ge_run (pc' := 37) (L' := [.ref 1638, .int x1, .int x2]) (S' := [.int (2 : Int32), .int y_13, .ref 1638]) 1 rfl ?_
        refine ge_cv rfl rfl rfl (t1638 s) rfl rfl rfl (D := 1) (Nat.le_trans (by decide) hd) (c_Mo_throwsIf (n := n) (u := u) (t := t) (i := i_14) (r := r) s y_13 (2 : Int32)) ?_
        rintro ⟨v_22, i_23⟩ -
        dsimp only [bkE, F_i1]
        refine ge_eq0 rfl (fun h_24 => ?_) (fun h_28 => ?_)
        · refine ge_run (pc' := 42) (L' := [.ref 1638, .int x1, .int x2]) (S' := [.ref 1638]) 1 rfl ?_
          refine ge_cv rfl rfl rfl (t1638 s) rfl rfl rfl (D := 1) (Nat.le_trans (by decide) hd) (c_Mo_remembers (n := n) (u := u) (t := t) (i := i_23) (r := r) s ) ?_
          rintro i_25 -
          dsimp only [bkE, F_v1]
          refine ge_run (pc' := 47) (L' := [.ref 1638, .int x1, .int x2]) (S' := [.int (3 : Int32), .int x2, .int x1, .ref 1638]) 4 rfl ?_
          refine ge_cv rfl rfl rfl (t1638 s) rfl rfl rfl (D := 8) (Nat.le_trans (by decide) hd) (c_Mo_isSold (n := n) (u := u) (t := t) (i := i_25) (r := r) s x1 x2 (3 : Int32)) ?_
          rintro ⟨v_26, i_27⟩ -
          dsimp only [bkE, F_i1]
          exact ge_ret rfl rfl (And.intro rfl trivial)
        · refine ge_run (pc' := 40) (L' := [.ref 1638, .int x1, .int x2]) (S' := [.int (0 : Int32)]) 1 rfl ?_
          exact ge_ret rfl rfl (And.intro rfl trivial)
    · refine ge_run (pc' := 40) (L' := [.ref 1638, .int x1, .int x2]) (S' := [.int (0 : Int32)]) 1 rfl ?_
      exact ge_ret rfl rfl (And.intro rfl trivial)
def f_Mo_noDays (x0 : Int32) : Option (Int32) :=
  (f_Mo_in x0 (0 : Int32) (60 : Int32)).bind (fun v_1 => if v_1 = 0 then (some ((1 : Int32))) else (some ((0 : Int32))))
set_option maxHeartbeats 4000000 in
theorem c_Mo_noDays {n u : Nat} {t : MT} {i : MI} {r : MR} (s : Sh n t r) (x0 : Int32) : Cn 2 295 [.int x0] (n, u, t, i, r) (f_Mo_noDays  x0) (F_i0 n u t i r) PT := by
  refine cn_of (Y := K_Mo_noDays) (L0 := [.int x0]) rfl rfl rfl ?_
  intro d hd
  unfold f_Mo_noDays
  refine ge_run (pc' := 3) (L' := [.int x0]) (S' := [.int (60 : Int32), .int (0 : Int32), .int x0]) 3 rfl ?_
  refine ge_cs rfl rfl rfl rfl rfl rfl (D := 1) (Nat.le_trans (by decide) hd) (c_Mo_in (n := n) (u := u) (t := t) (i := i) (r := r) s x0 (0 : Int32) (60 : Int32)) ?_
  rintro v_1 -
  dsimp only [bkE, F_i0]
  refine ge_ne0 rfl (fun h_2 => ?_) (fun h_3 => ?_)
  · refine ge_run (pc' := 8) (L' := [.int x0]) (S' := [.int (1 : Int32)]) 2 rfl ?_
    exact ge_retz rfl rfl (Or.inr rfl) (And.intro rfl trivial)
  · refine ge_run (pc' := 8) (L' := [.int x0]) (S' := [.int (0 : Int32)]) 1 rfl ?_
    exact ge_retz rfl rfl (Or.inl rfl) (And.intro rfl trivial)
def f_Mo_where (i : MI) (x1 : Int32) (x2 : Int32) : Option (Int32 × MI) :=
  bnd (wr i 1638 0 (0 : Int32)) (fun i_1 => (f_Mo_noFish i_1 x1).bind (fun v_2 => (f_Mo_throwsIf i_1 v_2 (1 : Int32)).bind (fun (v_3, i_4) => if v_3 = 0 then ((f_Mo_noDays x2).bind (fun v_6 => (f_Mo_throwsIf i_4 v_6 (2 : Int32)).bind (fun (v_7, i_8) => if v_7 = 0 then ((f_Mo_keepsAll i_8).bind (fun i_10 => (f_Mo_goesOn i_10 x2 (1 : Int32)).bind (fun (v_11, i_12) => (f_Mo_of i_12 x1 (3 : Int32)).bind (fun v_13 => (if v_13 = 0 then ((f_Mo_of i_12 x1 (4 : Int32)).bind (fun v_16 => some v_16)) else (some (-1 : Int32)) : Option (Int32)).bind (fun y_14 => (f_Mo_bringsBack i_12).bind (fun i_18 => some (y_14, i_18))))))) else (some ((0 : Int32), i_8))))) else (some ((0 : Int32), i_4)))))
set_option maxHeartbeats 4000000 in
theorem c_Mo_where {n u : Nat} {t : MT} {i : MI} {r : MR} (s : Sh n t r) (x1 : Int32) (x2 : Int32) : Cn 12 296 [.ref 1638, .int x1, .int x2] (n, u, t, i, r) (f_Mo_where i x1 x2) (F_i1 n u t r) PT := by
  refine cn_of (Y := K_Mo_where) (L0 := [.ref 1638, .int x1, .int x2, uV]) rfl rfl rfl ?_
  intro d hd
  unfold f_Mo_where
  refine ge_run (pc' := 2) (L' := [.ref 1638, .int x1, .int x2, uV]) (S' := [.int (0 : Int32), .ref 1638]) 2 rfl ?_
  refine ge_putI rfl (t1638 s) (Nat.le_of_ble_eq_true rfl) rfl (fun i_1 => ?_)
  refine ge_run (pc' := 6) (L' := [.ref 1638, .int x1, .int x2, uV]) (S' := [.int x1, .ref 1638, .ref 1638]) 3 rfl ?_
  refine ge_cv rfl rfl rfl (t1638 s) rfl rfl rfl (D := 2) (Nat.le_trans (by decide) hd) (c_Mo_noFish (n := n) (u := u) (t := t) (i := i_1) (r := r) s x1) ?_
  rintro v_2 -
  dsimp only [bkE, F_i0]
  refine ge_run (pc' := 8) (L' := [.ref 1638, .int x1, .int x2, uV]) (S' := [.int (1 : Int32), .int v_2, .ref 1638]) 1 rfl ?_
  refine ge_cv rfl rfl rfl (t1638 s) rfl rfl rfl (D := 1) (Nat.le_trans (by decide) hd) (c_Mo_throwsIf (n := n) (u := u) (t := t) (i := i_1) (r := r) s v_2 (1 : Int32)) ?_
  rintro ⟨v_3, i_4⟩ -
  dsimp only [bkE, F_i1]
  refine ge_ne0 rfl (fun h_5 => ?_) (fun h_20 => ?_)
  · refine ge_run (pc' := 12) (L' := [.ref 1638, .int x1, .int x2, uV]) (S' := [.int x2, .ref 1638]) 2 rfl ?_
    refine ge_cs rfl rfl rfl rfl rfl rfl (D := 2) (Nat.le_trans (by decide) hd) (c_Mo_noDays (n := n) (u := u) (t := t) (i := i_4) (r := r) s x2) ?_
    rintro v_6 -
    dsimp only [bkE, F_i0]
    refine ge_run (pc' := 14) (L' := [.ref 1638, .int x1, .int x2, uV]) (S' := [.int (2 : Int32), .int v_6, .ref 1638]) 1 rfl ?_
    refine ge_cv rfl rfl rfl (t1638 s) rfl rfl rfl (D := 1) (Nat.le_trans (by decide) hd) (c_Mo_throwsIf (n := n) (u := u) (t := t) (i := i_4) (r := r) s v_6 (2 : Int32)) ?_
    rintro ⟨v_7, i_8⟩ -
    dsimp only [bkE, F_i1]
    refine ge_eq0 rfl (fun h_9 => ?_) (fun h_19 => ?_)
    · refine ge_run (pc' := 19) (L' := [.ref 1638, .int x1, .int x2, uV]) (S' := [.ref 1638]) 1 rfl ?_
      refine ge_cv rfl rfl rfl (t1638 s) rfl rfl rfl (D := 1) (Nat.le_trans (by decide) hd) (c_Mo_keepsAll (n := n) (u := u) (t := t) (i := i_8) (r := r) s ) ?_
      rintro i_10 -
      dsimp only [bkE, F_v1]
      refine ge_run (pc' := 23) (L' := [.ref 1638, .int x1, .int x2, uV]) (S' := [.int (1 : Int32), .int x2, .ref 1638]) 3 rfl ?_
      refine ge_cv rfl rfl rfl (t1638 s) rfl rfl rfl (D := 11) (Nat.le_trans (by decide) hd) (c_Mo_goesOn (n := n) (u := u) (t := t) (i := i_10) (r := r) s x2 (1 : Int32)) ?_
      rintro ⟨v_11, i_12⟩ -
      dsimp only [bkE, F_i1]
      refine ge_run (pc' := 28) (L' := [.ref 1638, .int x1, .int x2, uV]) (S' := [.int (3 : Int32), .int x1, .ref 1638]) 4 rfl ?_
      refine ge_cv rfl rfl rfl (t1638 s) rfl rfl rfl (D := 2) (Nat.le_trans (by decide) hd) (c_Mo_of (n := n) (u := u) (t := t) (i := i_12) (r := r) s x1 (3 : Int32)) ?_
      rintro v_13 -
      dsimp only [bkE, F_i0]
      refine ge_bind (K1 := fun (q : Int32) e => e = .inl (36, [.ref 1638, .int x1, .int x2, uV], [.int q], (n, u, t, i_12, r))) ?_ ?_
      · refine ge_ne0 rfl (fun h_15 => ?_) (fun h_17 => ?_)
        · refine ge_run (pc' := 33) (L' := [.ref 1638, .int x1, .int x2, uV]) (S' := [.int (4 : Int32), .int x1, .ref 1638]) 3 rfl ?_
          refine ge_cv rfl rfl rfl (t1638 s) rfl rfl rfl (D := 2) (Nat.le_trans (by decide) hd) (c_Mo_of (n := n) (u := u) (t := t) (i := i_12) (r := r) s x1 (4 : Int32)) ?_
          rintro v_16 -
          dsimp only [bkE, F_i0]
          refine ge_run (pc' := 36) (L' := [.ref 1638, .int x1, .int x2, uV]) (S' := [.int v_16]) 1 rfl ?_
          exact ge_leaf rfl
        · refine ge_run (pc' := 36) (L' := [.ref 1638, .int x1, .int x2, uV]) (S' := [.int (-1 : Int32)]) 1 rfl ?_
          exact ge_leaf rfl
      · rintro y_14 _ rfl
        try dsimp only
        refine ge_run (pc' := 38) (L' := [.ref 1638, .int x1, .int x2, .int y_14]) (S' := [.ref 1638]) 2 rfl ?_
        refine ge_cv rfl rfl rfl (t1638 s) rfl rfl rfl (D := 1) (Nat.le_trans (by decide) hd) (c_Mo_bringsBack (n := n) (u := u) (t := t) (i := i_12) (r := r) s ) ?_
        rintro i_18 -
        dsimp only [bkE, F_v1]
        refine ge_run (pc' := 40) (L' := [.ref 1638, .int x1, .int x2, .int y_14]) (S' := [.int y_14]) 1 rfl ?_
        exact ge_ret rfl rfl (And.intro rfl trivial)
    · refine ge_run (pc' := 17) (L' := [.ref 1638, .int x1, .int x2, uV]) (S' := [.int (0 : Int32)]) 1 rfl ?_
      exact ge_ret rfl rfl (And.intro rfl trivial)
  · refine ge_run (pc' := 17) (L' := [.ref 1638, .int x1, .int x2, uV]) (S' := [.int (0 : Int32)]) 1 rfl ?_
    exact ge_ret rfl rfl (And.intro rfl trivial)
def f_Mo_apart (x0 : Int32) (x1 : Int32) : Option (Int32) :=
  (f_J_abs ((rm x0 (5 : Int32)) - (rm x1 (5 : Int32)))).bind (fun v_1 => (f_J_abs ((x0 / (5 : Int32)) - (x1 / (5 : Int32)))).bind (fun v_2 => some ((v_1 + v_2))))
set_option maxHeartbeats 4000000 in
theorem c_Mo_apart {n u : Nat} {t : MT} {i : MI} {r : MR} (s : Sh n t r) (x0 : Int32) (x1 : Int32) : Cn 2 297 [.int x0, .int x1] (n, u, t, i, r) (f_Mo_apart  x0 x1) (F_i0 n u t i r) PT := by
  refine cn_of (Y := K_Mo_apart) (L0 := [.int x0, .int x1]) rfl rfl rfl ?_
  intro d hd
  unfold f_Mo_apart
  refine ge_run (pc' := 2) (L' := [.int x0, .int x1]) (S' := [.int (5 : Int32), .int x0]) 2 rfl ?_
  refine ge_rem rfl (by decide) ?_
  refine ge_run (pc' := 5) (L' := [.int x0, .int x1]) (S' := [.int (5 : Int32), .int x1, .int (rm x0 (5 : Int32))]) 2 rfl ?_
  refine ge_rem rfl (by decide) ?_
  refine ge_run (pc' := 7) (L' := [.int x0, .int x1]) (S' := [.int ((rm x0 (5 : Int32)) - (rm x1 (5 : Int32)))]) 1 rfl ?_
  refine ge_cs rfl rfl rfl rfl rfl rfl (D := 1) (Nat.le_trans (by decide) hd) (c_J_abs (n := n) (u := u) (t := t) (i := i) (r := r) s ((rm x0 (5 : Int32)) - (rm x1 (5 : Int32)))) ?_
  rintro v_1 -
  dsimp only [bkE, F_i0]
  refine ge_run (pc' := 10) (L' := [.int x0, .int x1]) (S' := [.int (5 : Int32), .int x0, .int v_1]) 2 rfl ?_
  refine ge_div rfl (by decide) ?_
  refine ge_run (pc' := 13) (L' := [.int x0, .int x1]) (S' := [.int (5 : Int32), .int x1, .int (x0 / (5 : Int32)), .int v_1]) 2 rfl ?_
  refine ge_div rfl (by decide) ?_
  refine ge_run (pc' := 15) (L' := [.int x0, .int x1]) (S' := [.int ((x0 / (5 : Int32)) - (x1 / (5 : Int32))), .int v_1]) 1 rfl ?_
  refine ge_cs rfl rfl rfl rfl rfl rfl (D := 1) (Nat.le_trans (by decide) hd) (c_J_abs (n := n) (u := u) (t := t) (i := i) (r := r) s ((x0 / (5 : Int32)) - (x1 / (5 : Int32)))) ?_
  rintro v_2 -
  dsimp only [bkE, F_i0]
  refine ge_run (pc' := 17) (L' := [.int x0, .int x1]) (S' := [.int (v_1 + v_2)]) 1 rfl ?_
  exact ge_ret rfl rfl (And.intro rfl trivial)
def f_Mo_meetsIn (i : MI) (x1 : Int32) (x2 : Int32) : Option (Int32) :=
  (f_Mo_of i x2 (3 : Int32)).bind (fun v_1 => if v_1 = 0 then ((f_Mo_of i x2 (4 : Int32)).bind (fun v_3 => (itr (σ := Int32 × Int32 × Int32) (ρ := Int32) (fun (x3_4, x4_5, x5_6) => if (60 : Int32) < x5_6 then (some (.inr x4_5)) else (if x4_5 = (-1 : Int32) then ((f_Mo_ofBoat i x1 (0 : Int32)).bind (fun v_13 => (f_Mo_apart v_13 x3_4).bind (fun v_14 => (if x5_6 < v_14 then (some (-1 : Int32)) else (some x5_6) : Option (Int32)).bind (fun y_15 => (f_Mo_driftOf i x3_4).bind (fun v_18 => some (.inl (v_18, y_15, (x5_6 + (1 : Int32))))))))) else (some (.inr x4_5)))) 1000000 (v_3, (-1 : Int32), (0 : Int32))).bind (fun x4_7 => some (x4_7)))) else (some ((-1 : Int32))))
set_option maxHeartbeats 4000000 in
theorem c_Mo_meetsIn {n u : Nat} {t : MT} {i : MI} {r : MR} (s : Sh n t r) (x1 : Int32) (x2 : Int32) : Cn 3 298 [.ref 1638, .int x1, .int x2] (n, u, t, i, r) (f_Mo_meetsIn i x1 x2) (F_i0 n u t i r) PT := by
  refine cn_of (Y := K_Mo_meetsIn) (L0 := [.ref 1638, .int x1, .int x2, uV, uV, uV]) rfl rfl rfl ?_
  intro d hd
  unfold f_Mo_meetsIn
  refine ge_run (pc' := 3) (L' := [.ref 1638, .int x1, .int x2, uV, uV, uV]) (S' := [.int (3 : Int32), .int x2, .ref 1638]) 3 rfl ?_
  refine ge_cv rfl rfl rfl (t1638 s) rfl rfl rfl (D := 2) (Nat.le_trans (by decide) hd) (c_Mo_of (n := n) (u := u) (t := t) (i := i) (r := r) s x2 (3 : Int32)) ?_
  rintro v_1 -
  dsimp only [bkE, F_i0]
  refine ge_eq0 rfl (fun h_2 => ?_) (fun h_20 => ?_)
  · refine ge_run (pc' := 10) (L' := [.ref 1638, .int x1, .int x2, uV, uV, uV]) (S' := [.int (4 : Int32), .int x2, .ref 1638]) 3 rfl ?_
    refine ge_cv rfl rfl rfl (t1638 s) rfl rfl rfl (D := 2) (Nat.le_trans (by decide) hd) (c_Mo_of (n := n) (u := u) (t := t) (i := i) (r := r) s x2 (4 : Int32)) ?_
    rintro v_3 -
    dsimp only [bkE, F_i0]
    refine ge_run (pc' := 16) (L' := [.ref 1638, .int x1, .int x2, .int v_3, .int (-1 : Int32), .int (0 : Int32)]) (S' := []) 5 rfl ?_
    refine ge_bind (K1 := fun (q : Int32) e => ∃ w_8 w_9 : Value, e = .inl (40, [.ref 1638, .int x1, .int x2, w_8, .int q, w_9], [], (n, u, t, i, r))) (ge_itr (C := fun (q : Int32 × Int32 × Int32) e => e = .inl (16, [.ref 1638, .int x1, .int x2, .int q.1, .int q.2.1, .int q.2.2], [], (n, u, t, i, r))) ?_ _ _ _ rfl) ?_
    · rintro ⟨x3_4, x4_5, x5_6⟩ _ rfl
      try dsimp only
      refine ge_run (pc' := 18) (L' := [.ref 1638, .int x1, .int x2, .int x3_4, .int x4_5, .int x5_6]) (S' := [.int (60 : Int32), .int x5_6]) 2 rfl ?_
      refine ge_gt rfl (fun h_10 => ?_) (fun h_11 => ?_)
      · exact ge_leaf (K := kX _ _) (Exists.intro _ (Exists.intro _ rfl))
      · refine ge_run (pc' := 21) (L' := [.ref 1638, .int x1, .int x2, .int x3_4, .int x4_5, .int x5_6]) (S' := [.int (-1 : Int32), .int x4_5]) 2 rfl ?_
        refine ge_ne rfl (fun h_12 => ?_) (fun h_19 => ?_)
        · refine ge_run (pc' := 25) (L' := [.ref 1638, .int x1, .int x2, .int x3_4, .int x4_5, .int x5_6]) (S' := [.int (0 : Int32), .int x1, .ref 1638]) 3 rfl ?_
          refine ge_cv rfl rfl rfl (t1638 s) rfl rfl rfl (D := 2) (Nat.le_trans (by decide) hd) (c_Mo_ofBoat (n := n) (u := u) (t := t) (i := i) (r := r) s x1 (0 : Int32)) ?_
          rintro v_13 -
          dsimp only [bkE, F_i0]
          refine ge_run (pc' := 27) (L' := [.ref 1638, .int x1, .int x2, .int x3_4, .int x4_5, .int x5_6]) (S' := [.int x3_4, .int v_13]) 1 rfl ?_
          refine ge_cs rfl rfl rfl rfl rfl rfl (D := 2) (Nat.le_trans (by decide) hd) (c_Mo_apart (n := n) (u := u) (t := t) (i := i) (r := r) s v_13 x3_4) ?_
          rintro v_14 -
          dsimp only [bkE, F_i0]
          refine ge_run (pc' := 29) (L' := [.ref 1638, .int x1, .int x2, .int x3_4, .int x4_5, .int x5_6]) (S' := [.int x5_6, .int v_14]) 1 rfl ?_
          refine ge_bind (K1 := fun (q : Int32) e => e = .inl (33, [.ref 1638, .int x1, .int x2, .int x3_4, .int x4_5, .int x5_6], [.int q], (n, u, t, i, r))) ?_ ?_
          · refine ge_gt rfl (fun h_16 => ?_) (fun h_17 => ?_)
            · refine ge_run (pc' := 33) (L' := [.ref 1638, .int x1, .int x2, .int x3_4, .int x4_5, .int x5_6]) (S' := [.int (-1 : Int32)]) 1 rfl ?_
              exact ge_leaf rfl
            · refine ge_run (pc' := 33) (L' := [.ref 1638, .int x1, .int x2, .int x3_4, .int x4_5, .int x5_6]) (S' := [.int x5_6]) 2 rfl ?_
              exact ge_leaf rfl
          · rintro y_15 _ rfl
            try dsimp only
            refine ge_run (pc' := 36) (L' := [.ref 1638, .int x1, .int x2, .int x3_4, .int y_15, .int x5_6]) (S' := [.int x3_4, .ref 1638]) 3 rfl ?_
            refine ge_cv rfl rfl rfl (t1638 s) rfl rfl rfl (D := 2) (Nat.le_trans (by decide) hd) (c_Mo_driftOf (n := n) (u := u) (t := t) (i := i) (r := r) s x3_4) ?_
            rintro v_18 -
            dsimp only [bkE, F_i0]
            refine ge_run (pc' := 16) (L' := [.ref 1638, .int x1, .int x2, .int v_18, .int y_15, .int (x5_6 + (1 : Int32))]) (S' := []) 3 rfl ?_
            exact ge_leaf (K := kX _ _) rfl
        · exact ge_leaf (K := kX _ _) (Exists.intro _ (Exists.intro _ rfl))
    · rintro x4_7 _ ⟨w_8, w_9, rfl⟩
      try dsimp only
      refine ge_run (pc' := 41) (L' := [.ref 1638, .int x1, .int x2, w_8, .int x4_7, w_9]) (S' := [.int x4_7]) 1 rfl ?_
      exact ge_ret rfl rfl (And.intro rfl trivial)
  · refine ge_run (pc' := 6) (L' := [.ref 1638, .int x1, .int x2, uV, uV, uV]) (S' := [.int (-1 : Int32)]) 1 rfl ?_
    exact ge_ret rfl rfl (And.intro rfl trivial)
def f_Mo_meets (i : MI) (x1 : Int32) (x2 : Int32) : Option (Int32 × MI) :=
  bnd (wr i 1638 0 (0 : Int32)) (fun i_1 => (f_Mo_noBoat i_1 x1).bind (fun v_2 => (if v_2 = 0 then ((f_Mo_noFish i_1 x2).bind (fun v_5 => if v_5 = 0 then (some (0 : Int32)) else (some (1 : Int32)))) else (some (1 : Int32)) : Option (Int32)).bind (fun y_3 => (f_Mo_throwsIf i_1 y_3 (1 : Int32)).bind (fun (v_9, i_10) => if v_9 = 0 then ((f_Mo_meetsIn i_10 x1 x2).bind (fun v_12 => some (v_12, i_10))) else (some ((0 : Int32), i_10))))))
set_option maxHeartbeats 4000000 in
theorem c_Mo_meets {n u : Nat} {t : MT} {i : MI} {r : MR} (s : Sh n t r) (x1 : Int32) (x2 : Int32) : Cn 4 299 [.ref 1638, .int x1, .int x2] (n, u, t, i, r) (f_Mo_meets i x1 x2) (F_i1 n u t r) PT := by
  refine cn_of (Y := K_Mo_meets) (L0 := [.ref 1638, .int x1, .int x2]) rfl rfl rfl ?_
  intro d hd
  unfold f_Mo_meets
  refine ge_run (pc' := 2) (L' := [.ref 1638, .int x1, .int x2]) (S' := [.int (0 : Int32), .ref 1638]) 2 rfl ?_
  refine ge_putI rfl (t1638 s) (Nat.le_of_ble_eq_true rfl) rfl (fun i_1 => ?_)
  refine ge_run (pc' := 6) (L' := [.ref 1638, .int x1, .int x2]) (S' := [.int x1, .ref 1638, .ref 1638]) 3 rfl ?_
  refine ge_cv rfl rfl rfl (t1638 s) rfl rfl rfl (D := 2) (Nat.le_trans (by decide) hd) (c_Mo_noBoat (n := n) (u := u) (t := t) (i := i_1) (r := r) s x1) ?_
  rintro v_2 -
  dsimp only [bkE, F_i0]
  refine ge_bind (K1 := fun (q : Int32) e => e = .inl (15, [.ref 1638, .int x1, .int x2], [.int q, .ref 1638], (n, u, t, i_1, r))) ?_ ?_
  · refine ge_ne0 rfl (fun h_4 => ?_) (fun h_8 => ?_)
    · refine ge_run (pc' := 10) (L' := [.ref 1638, .int x1, .int x2]) (S' := [.int x2, .ref 1638, .ref 1638]) 2 rfl ?_
      refine ge_cv rfl rfl rfl (t1638 s) rfl rfl rfl (D := 2) (Nat.le_trans (by decide) hd) (c_Mo_noFish (n := n) (u := u) (t := t) (i := i_1) (r := r) s x2) ?_
      rintro v_5 -
      dsimp only [bkE, F_i0]
      refine ge_eq0 rfl (fun h_6 => ?_) (fun h_7 => ?_)
      · refine ge_run (pc' := 15) (L' := [.ref 1638, .int x1, .int x2]) (S' := [.int (0 : Int32), .ref 1638]) 1 rfl ?_
        exact ge_leaf rfl
      · refine ge_run (pc' := 15) (L' := [.ref 1638, .int x1, .int x2]) (S' := [.int (1 : Int32), .ref 1638]) 2 rfl ?_
        exact ge_leaf rfl
    · refine ge_run (pc' := 15) (L' := [.ref 1638, .int x1, .int x2]) (S' := [.int (1 : Int32), .ref 1638]) 2 rfl ?_
      exact ge_leaf rfl
  · rintro y_3 _ rfl
    try dsimp only
    refine ge_run (pc' := 16) (L' := [.ref 1638, .int x1, .int x2]) (S' := [.int (1 : Int32), .int y_3, .ref 1638]) 1 rfl ?_
    refine ge_cv rfl rfl rfl (t1638 s) rfl rfl rfl (D := 1) (Nat.le_trans (by decide) hd) (c_Mo_throwsIf (n := n) (u := u) (t := t) (i := i_1) (r := r) s y_3 (1 : Int32)) ?_
    rintro ⟨v_9, i_10⟩ -
    dsimp only [bkE, F_i1]
    refine ge_eq0 rfl (fun h_11 => ?_) (fun h_13 => ?_)
    · refine ge_run (pc' := 23) (L' := [.ref 1638, .int x1, .int x2]) (S' := [.int x2, .int x1, .ref 1638]) 3 rfl ?_
      refine ge_cv rfl rfl rfl (t1638 s) rfl rfl rfl (D := 3) (Nat.le_trans (by decide) hd) (c_Mo_meetsIn (n := n) (u := u) (t := t) (i := i_10) (r := r) s x1 x2) ?_
      rintro v_12 -
      dsimp only [bkE, F_i0]
      exact ge_ret rfl rfl (And.intro rfl trivial)
    · refine ge_run (pc' := 24) (L' := [.ref 1638, .int x1, .int x2]) (S' := [.int (0 : Int32)]) 2 rfl ?_
      exact ge_ret rfl rfl (And.intro rfl trivial)
def f_Mo_lost (i : MI) : Option (Int32 × MI) :=
  bnd (wr i 1638 0 (0 : Int32)) (fun i_1 => (itr (σ := Int32 × Int32) (ρ := Int32) (fun (x1_2, x2_3) => (f_Mo_fishes i_1).bind (fun v_10 => if x2_3 < v_10 then ((f_Mo_of i_1 x2_3 (3 : Int32)).bind (fun v_12 => (if v_12 = 0 then (some (0 : Int32)) else (some (1 : Int32)) : Option (Int32)).bind (fun y_13 => (itr (σ := Int32 × Int32) (ρ := Int32) (fun (x3_16, x4_17) => (f_Mo_boats i_1).bind (fun v_20 => if x4_17 < v_20 then ((if x3_16 = 0 then ((f_Mo_meetsIn i_1 x4_17 x2_3).bind (fun v_24 => if v_24 = (-1 : Int32) then (some (0 : Int32)) else (some (1 : Int32)))) else (some (1 : Int32)) : Option (Int32)).bind (fun y_22 => some (.inl (y_22, (x4_17 + (1 : Int32)))))) else (some (.inr x3_16)))) 1000000 (y_13, (0 : Int32))).bind (fun x3_18 => (if x3_18 = 0 then (some (shl (1 : Int32) x2_3)) else (some (0 : Int32)) : Option (Int32)).bind (fun y_29 => some (.inl ((x1_2 ||| y_29), (x2_3 + (1 : Int32))))))))) else (some (.inr x1_2)))) 1000000 ((0 : Int32), (0 : Int32))).bind (fun x1_6 => some (x1_6, i_1)))
set_option maxHeartbeats 4000000 in
theorem c_Mo_lost {n u : Nat} {t : MT} {i : MI} {r : MR} (s : Sh n t r)  : Cn 4 300 [.ref 1638] (n, u, t, i, r) (f_Mo_lost i ) (F_i1 n u t r) PT := by
  refine cn_of (Y := K_Mo_lost) (L0 := [.ref 1638, uV, uV, uV, uV]) rfl rfl rfl ?_
  intro d hd
  unfold f_Mo_lost
  refine ge_run (pc' := 2) (L' := [.ref 1638, uV, uV, uV, uV]) (S' := [.int (0 : Int32), .ref 1638]) 2 rfl ?_
  refine ge_putI rfl (t1638 s) (Nat.le_of_ble_eq_true rfl) rfl (fun i_1 => ?_)
  refine ge_run (pc' := 7) (L' := [.ref 1638, .int (0 : Int32), .int (0 : Int32), uV, uV]) (S' := []) 4 rfl ?_
  refine ge_bind (K1 := fun (q : Int32) e => ∃ w_7 w_8 w_9 : Value, e = .inl (52, [.ref 1638, .int q, w_7, w_8, w_9], [], (n, u, t, i_1, r))) (ge_itr (C := fun (q : Int32 × Int32) e => ∃ w_4 w_5 : Value, e = .inl (7, [.ref 1638, .int q.1, .int q.2, w_4, w_5], [], (n, u, t, i_1, r))) ?_ _ _ _ (Exists.intro _ (Exists.intro _ rfl))) ?_
  · rintro ⟨x1_2, x2_3⟩ _ ⟨w_4, w_5, rfl⟩
    try dsimp only
    refine ge_run (pc' := 9) (L' := [.ref 1638, .int x1_2, .int x2_3, w_4, w_5]) (S' := [.ref 1638, .int x2_3]) 2 rfl ?_
    refine ge_cv rfl rfl rfl (t1638 s) rfl rfl rfl (D := 1) (Nat.le_trans (by decide) hd) (c_Mo_fishes (n := n) (u := u) (t := t) (i := i_1) (r := r) s ) ?_
    rintro v_10 -
    dsimp only [bkE, F_i0]
    refine ge_ge rfl (fun h_11 => ?_) (fun h_32 => ?_)
    · refine ge_run (pc' := 14) (L' := [.ref 1638, .int x1_2, .int x2_3, w_4, w_5]) (S' := [.int (3 : Int32), .int x2_3, .ref 1638]) 3 rfl ?_
      refine ge_cv rfl rfl rfl (t1638 s) rfl rfl rfl (D := 2) (Nat.le_trans (by decide) hd) (c_Mo_of (n := n) (u := u) (t := t) (i := i_1) (r := r) s x2_3 (3 : Int32)) ?_
      rintro v_12 -
      dsimp only [bkE, F_i0]
      refine ge_bind (K1 := fun (q : Int32) e => e = .inl (19, [.ref 1638, .int x1_2, .int x2_3, w_4, w_5], [.int q], (n, u, t, i_1, r))) ?_ ?_
      · refine ge_eq0 rfl (fun h_14 => ?_) (fun h_15 => ?_)
        · refine ge_run (pc' := 19) (L' := [.ref 1638, .int x1_2, .int x2_3, w_4, w_5]) (S' := [.int (0 : Int32)]) 1 rfl ?_
          exact ge_leaf rfl
        · refine ge_run (pc' := 19) (L' := [.ref 1638, .int x1_2, .int x2_3, w_4, w_5]) (S' := [.int (1 : Int32)]) 2 rfl ?_
          exact ge_leaf rfl
      · rintro y_13 _ rfl
        try dsimp only
        refine ge_run (pc' := 22) (L' := [.ref 1638, .int x1_2, .int x2_3, .int y_13, .int (0 : Int32)]) (S' := []) 3 rfl ?_
        refine ge_bind (K1 := fun (q : Int32) e => ∃ w_19 : Value, e = .inl (40, [.ref 1638, .int x1_2, .int x2_3, .int q, w_19], [], (n, u, t, i_1, r))) (ge_itr (C := fun (q : Int32 × Int32) e => e = .inl (22, [.ref 1638, .int x1_2, .int x2_3, .int q.1, .int q.2], [], (n, u, t, i_1, r))) ?_ _ _ _ rfl) ?_
        · rintro ⟨x3_16, x4_17⟩ _ rfl
          try dsimp only
          refine ge_run (pc' := 24) (L' := [.ref 1638, .int x1_2, .int x2_3, .int x3_16, .int x4_17]) (S' := [.ref 1638, .int x4_17]) 2 rfl ?_
          refine ge_cv rfl rfl rfl (t1638 s) rfl rfl rfl (D := 1) (Nat.le_trans (by decide) hd) (c_Mo_boats (n := n) (u := u) (t := t) (i := i_1) (r := r) s ) ?_
          rintro v_20 -
          dsimp only [bkE, F_i0]
          refine ge_ge rfl (fun h_21 => ?_) (fun h_28 => ?_)
          · refine ge_run (pc' := 27) (L' := [.ref 1638, .int x1_2, .int x2_3, .int x3_16, .int x4_17]) (S' := [.int x3_16]) 1 rfl ?_
            refine ge_bind (K1 := fun (q : Int32) e => e = .inl (37, [.ref 1638, .int x1_2, .int x2_3, .int x3_16, .int x4_17], [.int q], (n, u, t, i_1, r))) ?_ ?_
            · refine ge_ne0 rfl (fun h_23 => ?_) (fun h_27 => ?_)
              · refine ge_run (pc' := 31) (L' := [.ref 1638, .int x1_2, .int x2_3, .int x3_16, .int x4_17]) (S' := [.int x2_3, .int x4_17, .ref 1638]) 3 rfl ?_
                refine ge_cv rfl rfl rfl (t1638 s) rfl rfl rfl (D := 3) (Nat.le_trans (by decide) hd) (c_Mo_meetsIn (n := n) (u := u) (t := t) (i := i_1) (r := r) s x4_17 x2_3) ?_
                rintro v_24 -
                dsimp only [bkE, F_i0]
                refine ge_run (pc' := 33) (L' := [.ref 1638, .int x1_2, .int x2_3, .int x3_16, .int x4_17]) (S' := [.int (-1 : Int32), .int v_24]) 1 rfl ?_
                refine ge_eq rfl (fun h_25 => ?_) (fun h_26 => ?_)
                · refine ge_run (pc' := 37) (L' := [.ref 1638, .int x1_2, .int x2_3, .int x3_16, .int x4_17]) (S' := [.int (0 : Int32)]) 1 rfl ?_
                  exact ge_leaf rfl
                · refine ge_run (pc' := 37) (L' := [.ref 1638, .int x1_2, .int x2_3, .int x3_16, .int x4_17]) (S' := [.int (1 : Int32)]) 2 rfl ?_
                  exact ge_leaf rfl
              · refine ge_run (pc' := 37) (L' := [.ref 1638, .int x1_2, .int x2_3, .int x3_16, .int x4_17]) (S' := [.int (1 : Int32)]) 2 rfl ?_
                exact ge_leaf rfl
            · rintro y_22 _ rfl
              try dsimp only
              refine ge_run (pc' := 22) (L' := [.ref 1638, .int x1_2, .int x2_3, .int y_22, .int (x4_17 + (1 : Int32))]) (S' := []) 3 rfl ?_
              exact ge_leaf (K := kX _ _) rfl
          · exact ge_leaf (K := kX _ _) (Exists.intro _ rfl)
        · rintro x3_18 _ ⟨w_19, rfl⟩
          try dsimp only
          refine ge_run (pc' := 42) (L' := [.ref 1638, .int x1_2, .int x2_3, .int x3_18, w_19]) (S' := [.int x3_18, .int x1_2]) 2 rfl ?_
          refine ge_bind (K1 := fun (q : Int32) e => e = .inl (48, [.ref 1638, .int x1_2, .int x2_3, .int x3_18, w_19], [.int q, .int x1_2], (n, u, t, i_1, r))) ?_ ?_
          · refine ge_eq0 rfl (fun h_30 => ?_) (fun h_31 => ?_)
            · refine ge_run (pc' := 48) (L' := [.ref 1638, .int x1_2, .int x2_3, .int x3_18, w_19]) (S' := [.int (shl (1 : Int32) x2_3), .int x1_2]) 3 rfl ?_
              exact ge_leaf rfl
            · refine ge_run (pc' := 48) (L' := [.ref 1638, .int x1_2, .int x2_3, .int x3_18, w_19]) (S' := [.int (0 : Int32), .int x1_2]) 2 rfl ?_
              exact ge_leaf rfl
          · rintro y_29 _ rfl
            try dsimp only
            refine ge_run (pc' := 7) (L' := [.ref 1638, .int (x1_2 ||| y_29), .int (x2_3 + (1 : Int32)), .int x3_18, w_19]) (S' := []) 4 rfl ?_
            exact ge_leaf (K := kX _ _) (Exists.intro _ (Exists.intro _ rfl))
    · exact ge_leaf (K := kX _ _) (Exists.intro _ (Exists.intro _ (Exists.intro _ rfl)))
  · rintro x1_6 _ ⟨w_7, w_8, w_9, rfl⟩
    try dsimp only
    refine ge_run (pc' := 53) (L' := [.ref 1638, .int x1_6, w_7, w_8, w_9]) (S' := [.int x1_6]) 1 rfl ?_
    exact ge_ret rfl rfl (And.intro rfl trivial)
def f_Mo_laysDrifts (i : MI) (x1 : Int32) : Option (MI) :=
  (itr (σ := Int32 × MI) (ρ := MI) (fun (x2_1, i_2) => (f_Mo_fishes i_2).bind (fun v_9 => if x2_1 < v_9 then ((f_Mo_of i_2 x2_1 (3 : Int32)).bind (fun v_11 => (if v_11 = 0 then ((f_Mo_of i_2 x2_1 (4 : Int32)).bind (fun v_14 => some v_14)) else (some (-1 : Int32)) : Option (Int32)).bind (fun y_12 => (itr (σ := Int32 × Int32 × MI) (ρ := MI) (fun (x3_16, x4_17, i_18) => if x1 < x4_17 then (some (.inr i_18)) else (grd (((8 : Int32) * x4_17) + x2_1) 48 (bnd (wr i_18 1648 (ix (((8 : Int32) * x4_17) + x2_1)) x3_16) (fun i_26 => (if x3_16 = (-1 : Int32) then (some (-1 : Int32)) else ((f_Mo_driftOf i_26 x3_16).bind (fun v_30 => some v_30)) : Option (Int32)).bind (fun y_27 => some (.inl (y_27, (x4_17 + (1 : Int32)), i_26))))))) 1000000 (y_12, (0 : Int32), i_2)).bind (fun i_19 => some (.inl ((x2_1 + (1 : Int32)), i_19)))))) else (some (.inr i_2)))) 1000000 ((0 : Int32), i)).bind (fun i_5 => some i_5)
set_option maxHeartbeats 4000000 in
theorem c_Mo_laysDrifts {n u : Nat} {t : MT} {i : MI} {r : MR} (s : Sh n t r) (x1 : Int32) : Cn 3 301 [.ref 1638, .int x1] (n, u, t, i, r) (f_Mo_laysDrifts i x1) (F_v1 n u t r) PT := by
  refine cn_of (Y := K_Mo_laysDrifts) (L0 := [.ref 1638, .int x1, uV, uV, uV]) rfl rfl rfl ?_
  intro d hd
  unfold f_Mo_laysDrifts
  refine ge_run (pc' := 2) (L' := [.ref 1638, .int x1, .int (0 : Int32), uV, uV]) (S' := []) 2 rfl ?_
  refine ge_bind (K1 := fun (q : MI) e => ∃ w_6 w_7 w_8 : Value, e = .inl (45, [.ref 1638, .int x1, w_6, w_7, w_8], [], (n, u, t, q, r))) (ge_itr (C := fun (q : Int32 × MI) e => ∃ w_3 w_4 : Value, e = .inl (2, [.ref 1638, .int x1, .int q.1, w_3, w_4], [], (n, u, t, q.2, r))) ?_ _ _ _ (Exists.intro _ (Exists.intro _ rfl))) ?_
  · rintro ⟨x2_1, i_2⟩ _ ⟨w_3, w_4, rfl⟩
    try dsimp only
    refine ge_run (pc' := 4) (L' := [.ref 1638, .int x1, .int x2_1, w_3, w_4]) (S' := [.ref 1638, .int x2_1]) 2 rfl ?_
    refine ge_cv rfl rfl rfl (t1638 s) rfl rfl rfl (D := 1) (Nat.le_trans (by decide) hd) (c_Mo_fishes (n := n) (u := u) (t := t) (i := i_2) (r := r) s ) ?_
    rintro v_9 -
    dsimp only [bkE, F_i0]
    refine ge_ge rfl (fun h_10 => ?_) (fun h_31 => ?_)
    · refine ge_run (pc' := 9) (L' := [.ref 1638, .int x1, .int x2_1, w_3, w_4]) (S' := [.int (3 : Int32), .int x2_1, .ref 1638]) 3 rfl ?_
      refine ge_cv rfl rfl rfl (t1638 s) rfl rfl rfl (D := 2) (Nat.le_trans (by decide) hd) (c_Mo_of (n := n) (u := u) (t := t) (i := i_2) (r := r) s x2_1 (3 : Int32)) ?_
      rintro v_11 -
      dsimp only [bkE, F_i0]
      refine ge_bind (K1 := fun (q : Int32) e => e = .inl (17, [.ref 1638, .int x1, .int x2_1, w_3, w_4], [.int q], (n, u, t, i_2, r))) ?_ ?_
      · refine ge_ne0 rfl (fun h_13 => ?_) (fun h_15 => ?_)
        · refine ge_run (pc' := 14) (L' := [.ref 1638, .int x1, .int x2_1, w_3, w_4]) (S' := [.int (4 : Int32), .int x2_1, .ref 1638]) 3 rfl ?_
          refine ge_cv rfl rfl rfl (t1638 s) rfl rfl rfl (D := 2) (Nat.le_trans (by decide) hd) (c_Mo_of (n := n) (u := u) (t := t) (i := i_2) (r := r) s x2_1 (4 : Int32)) ?_
          rintro v_14 -
          dsimp only [bkE, F_i0]
          refine ge_run (pc' := 17) (L' := [.ref 1638, .int x1, .int x2_1, w_3, w_4]) (S' := [.int v_14]) 1 rfl ?_
          exact ge_leaf rfl
        · refine ge_run (pc' := 17) (L' := [.ref 1638, .int x1, .int x2_1, w_3, w_4]) (S' := [.int (-1 : Int32)]) 1 rfl ?_
          exact ge_leaf rfl
      · rintro y_12 _ rfl
        try dsimp only
        refine ge_run (pc' := 20) (L' := [.ref 1638, .int x1, .int x2_1, .int y_12, .int (0 : Int32)]) (S' := []) 3 rfl ?_
        refine ge_bind (K1 := fun (q : MI) e => ∃ w_20 w_21 : Value, e = .inl (43, [.ref 1638, .int x1, .int x2_1, w_20, w_21], [], (n, u, t, q, r))) (ge_itr (C := fun (q : Int32 × Int32 × MI) e => e = .inl (20, [.ref 1638, .int x1, .int x2_1, .int q.1, .int q.2.1], [], (n, u, t, q.2.2, r))) ?_ _ _ _ rfl) ?_
        · rintro ⟨x3_16, x4_17, i_18⟩ _ rfl
          try dsimp only
          refine ge_run (pc' := 22) (L' := [.ref 1638, .int x1, .int x2_1, .int x3_16, .int x4_17]) (S' := [.int x1, .int x4_17]) 2 rfl ?_
          refine ge_gt rfl (fun h_22 => ?_) (fun h_23 => ?_)
          · exact ge_leaf (K := kX _ _) (Exists.intro _ (Exists.intro _ rfl))
          · refine ge_run (pc' := 24) (L' := [.ref 1638, .int x1, .int x2_1, .int x3_16, .int x4_17]) (S' := [.ref 1638]) 1 rfl ?_
            refine ge_getR (b := 1648) rfl (t1638 s) rfl (r1638_19 s) (Nat.le_of_ble_eq_true rfl) ?_
            refine ge_run (pc' := 31) (L' := [.ref 1638, .int x1, .int x2_1, .int x3_16, .int x4_17]) (S' := [.int x3_16, .int (((8 : Int32) * x4_17) + x2_1), .ref 1648]) 6 rfl ?_
            refine ge_grd (fun g_24 g_25 => ?_)
            refine ge_iast (jn := (ix (((8 : Int32) * x4_17) + x2_1))) rfl (t1648 s) (Nat.le_of_ble_eq_true rfl) ⟨g_24, rfl⟩ g_25 (fun i_26 => ?_)
            refine ge_run (pc' := 34) (L' := [.ref 1638, .int x1, .int x2_1, .int x3_16, .int x4_17]) (S' := [.int (-1 : Int32), .int x3_16]) 2 rfl ?_
            refine ge_bind (K1 := fun (q : Int32) e => e = .inl (40, [.ref 1638, .int x1, .int x2_1, .int x3_16, .int x4_17], [.int q], (n, u, t, i_26, r))) ?_ ?_
            · refine ge_ne rfl (fun h_28 => ?_) (fun h_29 => ?_)
              · refine ge_run (pc' := 40) (L' := [.ref 1638, .int x1, .int x2_1, .int x3_16, .int x4_17]) (S' := [.int (-1 : Int32)]) 2 rfl ?_
                exact ge_leaf rfl
              · refine ge_run (pc' := 39) (L' := [.ref 1638, .int x1, .int x2_1, .int x3_16, .int x4_17]) (S' := [.int x3_16, .ref 1638]) 2 rfl ?_
                refine ge_cv rfl rfl rfl (t1638 s) rfl rfl rfl (D := 2) (Nat.le_trans (by decide) hd) (c_Mo_driftOf (n := n) (u := u) (t := t) (i := i_26) (r := r) s x3_16) ?_
                rintro v_30 -
                dsimp only [bkE, F_i0]
                exact ge_leaf rfl
            · rintro y_27 _ rfl
              try dsimp only
              refine ge_run (pc' := 20) (L' := [.ref 1638, .int x1, .int x2_1, .int y_27, .int (x4_17 + (1 : Int32))]) (S' := []) 3 rfl ?_
              exact ge_leaf (K := kX _ _) rfl
        · rintro i_19 _ ⟨w_20, w_21, rfl⟩
          try dsimp only
          refine ge_run (pc' := 2) (L' := [.ref 1638, .int x1, .int (x2_1 + (1 : Int32)), w_20, w_21]) (S' := []) 2 rfl ?_
          exact ge_leaf (K := kX _ _) (Exists.intro _ (Exists.intro _ rfl))
    · exact ge_leaf (K := kX _ _) (Exists.intro _ (Exists.intro _ (Exists.intro _ rfl)))
  · rintro i_5 _ ⟨w_6, w_7, w_8, rfl⟩
    try dsimp only
    exact ge_retv rfl rfl (And.intro rfl trivial)
def f_Mo_hauledBy (i : MI) (x1 : Int32) (x2 : Int32) (x3 : Int32) : Option (Int32) :=
  (f_Mo_ofBoat i x1 (0 : Int32)).bind (fun v_1 => (f_Mo_ofBoat i x1 (2 : Int32)).bind (fun v_2 => (f_Mo_aboard i x1).bind (fun v_3 => (f_J_bitCount v_3).bind (fun v_4 => (itr (σ := Int32 × Int32) (ρ := Int32) (fun (x8_5, x9_6) => if x9_6 < x3 then (some (.inl ((x8_5 * (5 : Int32)), (x9_6 + (1 : Int32))))) else (some (.inr x8_5))) 1000000 ((1 : Int32), (1 : Int32))).bind (fun x8_7 => itr (σ := Int32 × Int32 × Int32 × Int32 × Int32 × Int32) (ρ := Int32) (fun (x4_11, x5_12, x6_13, x7_14, x8_15, x9_16) => if x3 < x9_16 then (some (.inr ((x7_14)))) else (grd2 (decide (¬ x8_15 = 0)) ((f_J_max (1 : Int32) (x8_15 / (5 : Int32))).bind (fun v_23 => (f_Mo_beside x4_11 (rm (x2 / x8_15) (5 : Int32))).bind (fun v_24 => if (rm (x2 / x8_15) (5 : Int32)) = (4 : Int32) then ((itr (σ := Int32 × Int32 × Int32 × Int32) (ρ := Int32 × Int32 × Int32) (fun (x5_26, x6_27, x7_28, x12_29) => (f_Mo_fishes i).bind (fun v_34 => if x12_29 < v_34 then ((f_Mo_has x6_27 x12_29).bind (fun v_36 => (if v_36 = 0 then (grd (((8 : Int32) * x9_16) + x12_29) 48 (if (i 1648 (ix (((8 : Int32) * x9_16) + x12_29))) = v_24 then (if 0 < x5_26 then ((f_Mo_of i x12_29 (1 : Int32)).bind (fun v_45 => some ((x5_26 + (-1 : Int32)), (x6_27 ||| (shl (1 : Int32) x12_29)), (x7_28 + v_45)))) else (some (x5_26, x6_27, x7_28))) else (some (x5_26, x6_27, x7_28)))) else (some (x5_26, x6_27, x7_28)) : Option (Int32 × Int32 × Int32)).bind (fun (x5_37, x6_38, x7_39) => some (.inl (x5_37, x6_38, x7_39, (x12_29 + (1 : Int32))))))) else (some (.inr (x5_26, x6_27, x7_28))))) 1000000 (x5_12, x6_13, x7_14, (0 : Int32))).bind (fun (x5_30, x6_31, x7_32) => some (.inl (v_24, x5_30, x6_31, x7_32, v_23, (x9_16 + (1 : Int32)))))) else (if v_24 = x4_11 then (some (.inr (((-1 : Int32))))) else ((itr (σ := Int32 × Int32 × Int32 × Int32) (ρ := Int32 × Int32 × Int32) (fun (x5_53, x6_54, x7_55, x12_56) => (f_Mo_fishes i).bind (fun v_61 => if x12_56 < v_61 then ((f_Mo_has x6_54 x12_56).bind (fun v_63 => (if v_63 = 0 then (grd (((8 : Int32) * x9_16) + x12_56) 48 (if (i 1648 (ix (((8 : Int32) * x9_16) + x12_56))) = v_24 then (if 0 < x5_53 then ((f_Mo_of i x12_56 (1 : Int32)).bind (fun v_72 => some ((x5_53 + (-1 : Int32)), (x6_54 ||| (shl (1 : Int32) x12_56)), (x7_55 + v_72)))) else (some (x5_53, x6_54, x7_55))) else (some (x5_53, x6_54, x7_55)))) else (some (x5_53, x6_54, x7_55)) : Option (Int32 × Int32 × Int32)).bind (fun (x5_64, x6_65, x7_66) => some (.inl (x5_64, x6_65, x7_66, (x12_56 + (1 : Int32))))))) else (some (.inr (x5_53, x6_54, x7_55))))) 1000000 (x5_12, x6_13, x7_14, (0 : Int32))).bind (fun (x5_57, x6_58, x7_59) => some (.inl (v_24, x5_57, x6_58, x7_59, v_23, (x9_16 + (1 : Int32)))))))))))) 1000000 (v_1, (v_2 - v_4), (0 : Int32), (0 : Int32), x8_7, (1 : Int32)))))))
set_option maxHeartbeats 4000000 in
theorem c_Mo_hauledBy {n u : Nat} {t : MT} {i : MI} {r : MR} (s : Sh n t r) (x1 : Int32) (x2 : Int32) (x3 : Int32) : Cn 4 302 [.ref 1638, .int x1, .int x2, .int x3] (n, u, t, i, r) (f_Mo_hauledBy i x1 x2 x3) (F_i0 n u t i r) PT := by
  refine cn_of (Y := K_Mo_hauledBy) (L0 := [.ref 1638, .int x1, .int x2, .int x3, uV, uV, uV, uV, uV, uV, uV, uV, uV]) rfl rfl rfl ?_
  intro d hd
  unfold f_Mo_hauledBy
  refine ge_run (pc' := 3) (L' := [.ref 1638, .int x1, .int x2, .int x3, uV, uV, uV, uV, uV, uV, uV, uV, uV]) (S' := [.int (0 : Int32), .int x1, .ref 1638]) 3 rfl ?_
  refine ge_cv rfl rfl rfl (t1638 s) rfl rfl rfl (D := 2) (Nat.le_trans (by decide) hd) (c_Mo_ofBoat (n := n) (u := u) (t := t) (i := i) (r := r) s x1 (0 : Int32)) ?_
  rintro v_1 -
  dsimp only [bkE, F_i0]
  refine ge_run (pc' := 8) (L' := [.ref 1638, .int x1, .int x2, .int x3, .int v_1, uV, uV, uV, uV, uV, uV, uV, uV]) (S' := [.int (2 : Int32), .int x1, .ref 1638]) 4 rfl ?_
  refine ge_cv rfl rfl rfl (t1638 s) rfl rfl rfl (D := 2) (Nat.le_trans (by decide) hd) (c_Mo_ofBoat (n := n) (u := u) (t := t) (i := i) (r := r) s x1 (2 : Int32)) ?_
  rintro v_2 -
  dsimp only [bkE, F_i0]
  refine ge_run (pc' := 11) (L' := [.ref 1638, .int x1, .int x2, .int x3, .int v_1, uV, uV, uV, uV, uV, uV, uV, uV]) (S' := [.int x1, .ref 1638, .int v_2]) 2 rfl ?_
  refine ge_cv rfl rfl rfl (t1638 s) rfl rfl rfl (D := 3) (Nat.le_trans (by decide) hd) (c_Mo_aboard (n := n) (u := u) (t := t) (i := i) (r := r) s x1) ?_
  rintro v_3 -
  dsimp only [bkE, F_i0]
  refine ge_cs rfl rfl rfl rfl rfl rfl (D := 1) (Nat.le_trans (by decide) hd) (c_J_bitCount (n := n) (u := u) (t := t) (i := i) (r := r) s v_3) ?_
  rintro v_4 -
  dsimp only [bkE, F_i0]
  refine ge_run (pc' := 23) (L' := [.ref 1638, .int x1, .int x2, .int x3, .int v_1, .int (v_2 - v_4), .int (0 : Int32), .int (0 : Int32), .int (1 : Int32), .int (1 : Int32), uV, uV, uV]) (S' := []) 10 rfl ?_
  refine ge_bind (K1 := fun (q : Int32) e => ∃ w_8 : Value, e = .inl (32, [.ref 1638, .int x1, .int x2, .int x3, .int v_1, .int (v_2 - v_4), .int (0 : Int32), .int (0 : Int32), .int q, w_8, uV, uV, uV], [], (n, u, t, i, r))) (ge_itr (C := fun (q : Int32 × Int32) e => e = .inl (23, [.ref 1638, .int x1, .int x2, .int x3, .int v_1, .int (v_2 - v_4), .int (0 : Int32), .int (0 : Int32), .int q.1, .int q.2, uV, uV, uV], [], (n, u, t, i, r))) ?_ _ _ _ rfl) ?_
  · rintro ⟨x8_5, x9_6⟩ _ rfl
    try dsimp only
    refine ge_run (pc' := 25) (L' := [.ref 1638, .int x1, .int x2, .int x3, .int v_1, .int (v_2 - v_4), .int (0 : Int32), .int (0 : Int32), .int x8_5, .int x9_6, uV, uV, uV]) (S' := [.int x3, .int x9_6]) 2 rfl ?_
    refine ge_ge rfl (fun h_9 => ?_) (fun h_10 => ?_)
    · refine ge_run (pc' := 23) (L' := [.ref 1638, .int x1, .int x2, .int x3, .int v_1, .int (v_2 - v_4), .int (0 : Int32), .int (0 : Int32), .int (x8_5 * (5 : Int32)), .int (x9_6 + (1 : Int32)), uV, uV, uV]) (S' := []) 6 rfl ?_
      exact ge_leaf (K := kX _ _) rfl
    · exact ge_leaf (K := kX _ _) (Exists.intro _ rfl)
  · rintro x8_7 _ ⟨w_8, rfl⟩
    try dsimp only
    refine ge_run (pc' := 34) (L' := [.ref 1638, .int x1, .int x2, .int x3, .int v_1, .int (v_2 - v_4), .int (0 : Int32), .int (0 : Int32), .int x8_7, .int (1 : Int32), uV, uV, uV]) (S' := []) 2 rfl ?_
    refine ge_itr (C := fun (q : Int32 × Int32 × Int32 × Int32 × Int32 × Int32) e => ∃ w_17 w_18 w_19 : Value, e = .inl (34, [.ref 1638, .int x1, .int x2, .int x3, .int q.1, .int q.2.1, .int q.2.2.1, .int q.2.2.2.1, .int q.2.2.2.2.1, .int q.2.2.2.2.2, w_17, w_18, w_19], [], (n, u, t, i, r))) ?_ _ _ _ (Exists.intro _ (Exists.intro _ (Exists.intro _ rfl)))
    rintro ⟨x4_11, x5_12, x6_13, x7_14, x8_15, x9_16⟩ _ ⟨w_17, w_18, w_19, rfl⟩
    try dsimp only
    refine ge_run (pc' := 36) (L' := [.ref 1638, .int x1, .int x2, .int x3, .int x4_11, .int x5_12, .int x6_13, .int x7_14, .int x8_15, .int x9_16, w_17, w_18, w_19]) (S' := [.int x3, .int x9_16]) 2 rfl ?_
    refine ge_gt rfl (fun h_20 => ?_) (fun h_21 => ?_)
    · refine ge_run (pc' := 105) (L' := [.ref 1638, .int x1, .int x2, .int x3, .int x4_11, .int x5_12, .int x6_13, .int x7_14, .int x8_15, .int x9_16, w_17, w_18, w_19]) (S' := [.int x7_14]) 1 rfl ?_
      exact ge_ret rfl rfl (And.intro rfl trivial)
    · refine ge_run (pc' := 39) (L' := [.ref 1638, .int x1, .int x2, .int x3, .int x4_11, .int x5_12, .int x6_13, .int x7_14, .int x8_15, .int x9_16, w_17, w_18, w_19]) (S' := [.int x8_15, .int x2]) 2 rfl ?_
      refine ge_grd2 (fun h_22 => ?_)
      refine ge_div rfl (of_decide_eq_true h_22) ?_
      refine ge_run (pc' := 41) (L' := [.ref 1638, .int x1, .int x2, .int x3, .int x4_11, .int x5_12, .int x6_13, .int x7_14, .int x8_15, .int x9_16, w_17, w_18, w_19]) (S' := [.int (5 : Int32), .int (x2 / x8_15)]) 1 rfl ?_
      refine ge_rem rfl (by decide) ?_
      refine ge_run (pc' := 46) (L' := [.ref 1638, .int x1, .int x2, .int x3, .int x4_11, .int x5_12, .int x6_13, .int x7_14, .int x8_15, .int x9_16, .int (rm (x2 / x8_15) (5 : Int32)), w_18, w_19]) (S' := [.int (5 : Int32), .int x8_15, .int (1 : Int32)]) 4 rfl ?_
      refine ge_div rfl (by decide) ?_
      refine ge_cs rfl rfl rfl rfl rfl rfl (D := 1) (Nat.le_trans (by decide) hd) (c_J_max (n := n) (u := u) (t := t) (i := i) (r := r) s (1 : Int32) (x8_15 / (5 : Int32))) ?_
      rintro v_23 -
      dsimp only [bkE, F_i0]
      refine ge_run (pc' := 51) (L' := [.ref 1638, .int x1, .int x2, .int x3, .int x4_11, .int x5_12, .int x6_13, .int x7_14, .int v_23, .int x9_16, .int (rm (x2 / x8_15) (5 : Int32)), w_18, w_19]) (S' := [.int (rm (x2 / x8_15) (5 : Int32)), .int x4_11]) 3 rfl ?_
      refine ge_cs rfl rfl rfl rfl rfl rfl (D := 1) (Nat.le_trans (by decide) hd) (c_Mo_beside (n := n) (u := u) (t := t) (i := i) (r := r) s x4_11 (rm (x2 / x8_15) (5 : Int32))) ?_
      rintro v_24 -
      dsimp only [bkE, F_i0]
      refine ge_run (pc' := 55) (L' := [.ref 1638, .int x1, .int x2, .int x3, .int x4_11, .int x5_12, .int x6_13, .int x7_14, .int v_23, .int x9_16, .int (rm (x2 / x8_15) (5 : Int32)), .int v_24, w_19]) (S' := [.int (4 : Int32), .int (rm (x2 / x8_15) (5 : Int32))]) 3 rfl ?_
      refine ge_eq rfl (fun h_25 => ?_) (fun h_50 => ?_)
      · refine ge_run (pc' := 65) (L' := [.ref 1638, .int x1, .int x2, .int x3, .int v_24, .int x5_12, .int x6_13, .int x7_14, .int v_23, .int x9_16, .int (rm (x2 / x8_15) (5 : Int32)), .int v_24, .int (0 : Int32)]) (S' := []) 4 rfl ?_
        refine ge_bind (K1 := fun (q : Int32 × Int32 × Int32) e => ∃ w_33 : Value, e = .inl (102, [.ref 1638, .int x1, .int x2, .int x3, .int v_24, .int q.1, .int q.2.1, .int q.2.2, .int v_23, .int x9_16, .int (rm (x2 / x8_15) (5 : Int32)), .int v_24, w_33], [], (n, u, t, i, r))) (ge_itr (C := fun (q : Int32 × Int32 × Int32 × Int32) e => e = .inl (65, [.ref 1638, .int x1, .int x2, .int x3, .int v_24, .int q.1, .int q.2.1, .int q.2.2.1, .int v_23, .int x9_16, .int (rm (x2 / x8_15) (5 : Int32)), .int v_24, .int q.2.2.2], [], (n, u, t, i, r))) ?_ _ _ _ rfl) ?_
        · rintro ⟨x5_26, x6_27, x7_28, x12_29⟩ _ rfl
          try dsimp only
          refine ge_run (pc' := 67) (L' := [.ref 1638, .int x1, .int x2, .int x3, .int v_24, .int x5_26, .int x6_27, .int x7_28, .int v_23, .int x9_16, .int (rm (x2 / x8_15) (5 : Int32)), .int v_24, .int x12_29]) (S' := [.ref 1638, .int x12_29]) 2 rfl ?_
          refine ge_cv rfl rfl rfl (t1638 s) rfl rfl rfl (D := 1) (Nat.le_trans (by decide) hd) (c_Mo_fishes (n := n) (u := u) (t := t) (i := i) (r := r) s ) ?_
          rintro v_34 -
          dsimp only [bkE, F_i0]
          refine ge_ge rfl (fun h_35 => ?_) (fun h_49 => ?_)
          · refine ge_run (pc' := 71) (L' := [.ref 1638, .int x1, .int x2, .int x3, .int v_24, .int x5_26, .int x6_27, .int x7_28, .int v_23, .int x9_16, .int (rm (x2 / x8_15) (5 : Int32)), .int v_24, .int x12_29]) (S' := [.int x12_29, .int x6_27]) 2 rfl ?_
            refine ge_cs rfl rfl rfl rfl rfl rfl (D := 1) (Nat.le_trans (by decide) hd) (c_Mo_has (n := n) (u := u) (t := t) (i := i) (r := r) s x6_27 x12_29) ?_
            rintro v_36 -
            dsimp only [bkE, F_i0]
            refine ge_bind (K1 := fun (q : Int32 × Int32 × Int32) e => e = .inl (100, [.ref 1638, .int x1, .int x2, .int x3, .int v_24, .int q.1, .int q.2.1, .int q.2.2, .int v_23, .int x9_16, .int (rm (x2 / x8_15) (5 : Int32)), .int v_24, .int x12_29], [], (n, u, t, i, r))) ?_ ?_
            · refine ge_ne0 rfl (fun h_40 => ?_) (fun h_48 => ?_)
              · refine ge_run (pc' := 74) (L' := [.ref 1638, .int x1, .int x2, .int x3, .int v_24, .int x5_26, .int x6_27, .int x7_28, .int v_23, .int x9_16, .int (rm (x2 / x8_15) (5 : Int32)), .int v_24, .int x12_29]) (S' := [.ref 1638]) 1 rfl ?_
                refine ge_getR (b := 1648) rfl (t1638 s) rfl (r1638_19 s) (Nat.le_of_ble_eq_true rfl) ?_
                refine ge_run (pc' := 80) (L' := [.ref 1638, .int x1, .int x2, .int x3, .int v_24, .int x5_26, .int x6_27, .int x7_28, .int v_23, .int x9_16, .int (rm (x2 / x8_15) (5 : Int32)), .int v_24, .int x12_29]) (S' := [.int (((8 : Int32) * x9_16) + x12_29), .ref 1648]) 5 rfl ?_
                refine ge_grd (fun g_41 g_42 => ?_)
                refine ge_iald (jn := (ix (((8 : Int32) * x9_16) + x12_29))) rfl (t1648 s) ⟨g_41, rfl⟩ g_42 ?_
                refine ge_run (pc' := 82) (L' := [.ref 1638, .int x1, .int x2, .int x3, .int v_24, .int x5_26, .int x6_27, .int x7_28, .int v_23, .int x9_16, .int (rm (x2 / x8_15) (5 : Int32)), .int v_24, .int x12_29]) (S' := [.int v_24, .int (i 1648 (ix (((8 : Int32) * x9_16) + x12_29)))]) 1 rfl ?_
                refine ge_ne rfl (fun h_43 => ?_) (fun h_47 => ?_)
                · refine ge_run (pc' := 84) (L' := [.ref 1638, .int x1, .int x2, .int x3, .int v_24, .int x5_26, .int x6_27, .int x7_28, .int v_23, .int x9_16, .int (rm (x2 / x8_15) (5 : Int32)), .int v_24, .int x12_29]) (S' := [.int x5_26]) 1 rfl ?_
                  refine ge_gt0 rfl (fun h_44 => ?_) (fun h_46 => ?_)
                  · refine ge_run (pc' := 96) (L' := [.ref 1638, .int x1, .int x2, .int x3, .int v_24, .int x5_26, .int (x6_27 ||| (shl (1 : Int32) x12_29)), .int x7_28, .int v_23, .int x9_16, .int (rm (x2 / x8_15) (5 : Int32)), .int v_24, .int x12_29]) (S' := [.int (1 : Int32), .int x12_29, .ref 1638, .int x7_28]) 10 rfl ?_
                    refine ge_cv rfl rfl rfl (t1638 s) rfl rfl rfl (D := 2) (Nat.le_trans (by decide) hd) (c_Mo_of (n := n) (u := u) (t := t) (i := i) (r := r) s x12_29 (1 : Int32)) ?_
                    rintro v_45 -
                    dsimp only [bkE, F_i0]
                    refine ge_run (pc' := 100) (L' := [.ref 1638, .int x1, .int x2, .int x3, .int v_24, .int (x5_26 + (-1 : Int32)), .int (x6_27 ||| (shl (1 : Int32) x12_29)), .int (x7_28 + v_45), .int v_23, .int x9_16, .int (rm (x2 / x8_15) (5 : Int32)), .int v_24, .int x12_29]) (S' := []) 3 rfl ?_
                    exact ge_leaf rfl
                  · refine ge_run (pc' := 100) (L' := [.ref 1638, .int x1, .int x2, .int x3, .int v_24, .int x5_26, .int x6_27, .int x7_28, .int v_23, .int x9_16, .int (rm (x2 / x8_15) (5 : Int32)), .int v_24, .int x12_29]) (S' := []) 1 rfl ?_
                    exact ge_leaf rfl
                · exact ge_leaf rfl
              · exact ge_leaf rfl
            · rintro ⟨x5_37, x6_38, x7_39⟩ _ rfl
              try dsimp only
              refine ge_run (pc' := 65) (L' := [.ref 1638, .int x1, .int x2, .int x3, .int v_24, .int x5_37, .int x6_38, .int x7_39, .int v_23, .int x9_16, .int (rm (x2 / x8_15) (5 : Int32)), .int v_24, .int (x12_29 + (1 : Int32))]) (S' := []) 2 rfl ?_
              exact ge_leaf (K := kX _ _) rfl
          · exact ge_leaf (K := kX _ _) (Exists.intro _ rfl)
        · rintro ⟨x5_30, x6_31, x7_32⟩ _ ⟨w_33, rfl⟩
          try dsimp only
          refine ge_run (pc' := 34) (L' := [.ref 1638, .int x1, .int x2, .int x3, .int v_24, .int x5_30, .int x6_31, .int x7_32, .int v_23, .int (x9_16 + (1 : Int32)), .int (rm (x2 / x8_15) (5 : Int32)), .int v_24, w_33]) (S' := []) 2 rfl ?_
          exact ge_leaf (K := kX _ _) (Exists.intro _ (Exists.intro _ (Exists.intro _ rfl)))
      · refine ge_run (pc' := 58) (L' := [.ref 1638, .int x1, .int x2, .int x3, .int x4_11, .int x5_12, .int x6_13, .int x7_14, .int v_23, .int x9_16, .int (rm (x2 / x8_15) (5 : Int32)), .int v_24, w_19]) (S' := [.int x4_11, .int v_24]) 2 rfl ?_
        refine ge_ne rfl (fun h_51 => ?_) (fun h_52 => ?_)
        · refine ge_run (pc' := 60) (L' := [.ref 1638, .int x1, .int x2, .int x3, .int x4_11, .int x5_12, .int x6_13, .int x7_14, .int v_23, .int x9_16, .int (rm (x2 / x8_15) (5 : Int32)), .int v_24, w_19]) (S' := [.int (-1 : Int32)]) 1 rfl ?_
          exact ge_ret rfl rfl (And.intro rfl trivial)
        · refine ge_run (pc' := 65) (L' := [.ref 1638, .int x1, .int x2, .int x3, .int v_24, .int x5_12, .int x6_13, .int x7_14, .int v_23, .int x9_16, .int (rm (x2 / x8_15) (5 : Int32)), .int v_24, .int (0 : Int32)]) (S' := []) 4 rfl ?_
          refine ge_bind (K1 := fun (q : Int32 × Int32 × Int32) e => ∃ w_60 : Value, e = .inl (102, [.ref 1638, .int x1, .int x2, .int x3, .int v_24, .int q.1, .int q.2.1, .int q.2.2, .int v_23, .int x9_16, .int (rm (x2 / x8_15) (5 : Int32)), .int v_24, w_60], [], (n, u, t, i, r))) (ge_itr (C := fun (q : Int32 × Int32 × Int32 × Int32) e => e = .inl (65, [.ref 1638, .int x1, .int x2, .int x3, .int v_24, .int q.1, .int q.2.1, .int q.2.2.1, .int v_23, .int x9_16, .int (rm (x2 / x8_15) (5 : Int32)), .int v_24, .int q.2.2.2], [], (n, u, t, i, r))) ?_ _ _ _ rfl) ?_
          · rintro ⟨x5_53, x6_54, x7_55, x12_56⟩ _ rfl
            try dsimp only
            refine ge_run (pc' := 67) (L' := [.ref 1638, .int x1, .int x2, .int x3, .int v_24, .int x5_53, .int x6_54, .int x7_55, .int v_23, .int x9_16, .int (rm (x2 / x8_15) (5 : Int32)), .int v_24, .int x12_56]) (S' := [.ref 1638, .int x12_56]) 2 rfl ?_
            refine ge_cv rfl rfl rfl (t1638 s) rfl rfl rfl (D := 1) (Nat.le_trans (by decide) hd) (c_Mo_fishes (n := n) (u := u) (t := t) (i := i) (r := r) s ) ?_
            rintro v_61 -
            dsimp only [bkE, F_i0]
            refine ge_ge rfl (fun h_62 => ?_) (fun h_76 => ?_)
            · refine ge_run (pc' := 71) (L' := [.ref 1638, .int x1, .int x2, .int x3, .int v_24, .int x5_53, .int x6_54, .int x7_55, .int v_23, .int x9_16, .int (rm (x2 / x8_15) (5 : Int32)), .int v_24, .int x12_56]) (S' := [.int x12_56, .int x6_54]) 2 rfl ?_
              refine ge_cs rfl rfl rfl rfl rfl rfl (D := 1) (Nat.le_trans (by decide) hd) (c_Mo_has (n := n) (u := u) (t := t) (i := i) (r := r) s x6_54 x12_56) ?_
              rintro v_63 -
              dsimp only [bkE, F_i0]
              refine ge_bind (K1 := fun (q : Int32 × Int32 × Int32) e => e = .inl (100, [.ref 1638, .int x1, .int x2, .int x3, .int v_24, .int q.1, .int q.2.1, .int q.2.2, .int v_23, .int x9_16, .int (rm (x2 / x8_15) (5 : Int32)), .int v_24, .int x12_56], [], (n, u, t, i, r))) ?_ ?_
              · refine ge_ne0 rfl (fun h_67 => ?_) (fun h_75 => ?_)
                · refine ge_run (pc' := 74) (L' := [.ref 1638, .int x1, .int x2, .int x3, .int v_24, .int x5_53, .int x6_54, .int x7_55, .int v_23, .int x9_16, .int (rm (x2 / x8_15) (5 : Int32)), .int v_24, .int x12_56]) (S' := [.ref 1638]) 1 rfl ?_
                  refine ge_getR (b := 1648) rfl (t1638 s) rfl (r1638_19 s) (Nat.le_of_ble_eq_true rfl) ?_
                  refine ge_run (pc' := 80) (L' := [.ref 1638, .int x1, .int x2, .int x3, .int v_24, .int x5_53, .int x6_54, .int x7_55, .int v_23, .int x9_16, .int (rm (x2 / x8_15) (5 : Int32)), .int v_24, .int x12_56]) (S' := [.int (((8 : Int32) * x9_16) + x12_56), .ref 1648]) 5 rfl ?_
                  refine ge_grd (fun g_68 g_69 => ?_)
                  refine ge_iald (jn := (ix (((8 : Int32) * x9_16) + x12_56))) rfl (t1648 s) ⟨g_68, rfl⟩ g_69 ?_
                  refine ge_run (pc' := 82) (L' := [.ref 1638, .int x1, .int x2, .int x3, .int v_24, .int x5_53, .int x6_54, .int x7_55, .int v_23, .int x9_16, .int (rm (x2 / x8_15) (5 : Int32)), .int v_24, .int x12_56]) (S' := [.int v_24, .int (i 1648 (ix (((8 : Int32) * x9_16) + x12_56)))]) 1 rfl ?_
                  refine ge_ne rfl (fun h_70 => ?_) (fun h_74 => ?_)
                  · refine ge_run (pc' := 84) (L' := [.ref 1638, .int x1, .int x2, .int x3, .int v_24, .int x5_53, .int x6_54, .int x7_55, .int v_23, .int x9_16, .int (rm (x2 / x8_15) (5 : Int32)), .int v_24, .int x12_56]) (S' := [.int x5_53]) 1 rfl ?_
                    refine ge_gt0 rfl (fun h_71 => ?_) (fun h_73 => ?_)
                    · refine ge_run (pc' := 96) (L' := [.ref 1638, .int x1, .int x2, .int x3, .int v_24, .int x5_53, .int (x6_54 ||| (shl (1 : Int32) x12_56)), .int x7_55, .int v_23, .int x9_16, .int (rm (x2 / x8_15) (5 : Int32)), .int v_24, .int x12_56]) (S' := [.int (1 : Int32), .int x12_56, .ref 1638, .int x7_55]) 10 rfl ?_
                      refine ge_cv rfl rfl rfl (t1638 s) rfl rfl rfl (D := 2) (Nat.le_trans (by decide) hd) (c_Mo_of (n := n) (u := u) (t := t) (i := i) (r := r) s x12_56 (1 : Int32)) ?_
                      rintro v_72 -
                      dsimp only [bkE, F_i0]
                      refine ge_run (pc' := 100) (L' := [.ref 1638, .int x1, .int x2, .int x3, .int v_24, .int (x5_53 + (-1 : Int32)), .int (x6_54 ||| (shl (1 : Int32) x12_56)), .int (x7_55 + v_72), .int v_23, .int x9_16, .int (rm (x2 / x8_15) (5 : Int32)), .int v_24, .int x12_56]) (S' := []) 3 rfl ?_
                      exact ge_leaf rfl
                    · refine ge_run (pc' := 100) (L' := [.ref 1638, .int x1, .int x2, .int x3, .int v_24, .int x5_53, .int x6_54, .int x7_55, .int v_23, .int x9_16, .int (rm (x2 / x8_15) (5 : Int32)), .int v_24, .int x12_56]) (S' := []) 1 rfl ?_
                      exact ge_leaf rfl
                  · exact ge_leaf rfl
                · exact ge_leaf rfl
              · rintro ⟨x5_64, x6_65, x7_66⟩ _ rfl
                try dsimp only
                refine ge_run (pc' := 65) (L' := [.ref 1638, .int x1, .int x2, .int x3, .int v_24, .int x5_64, .int x6_65, .int x7_66, .int v_23, .int x9_16, .int (rm (x2 / x8_15) (5 : Int32)), .int v_24, .int (x12_56 + (1 : Int32))]) (S' := []) 2 rfl ?_
                exact ge_leaf (K := kX _ _) rfl
            · exact ge_leaf (K := kX _ _) (Exists.intro _ rfl)
          · rintro ⟨x5_57, x6_58, x7_59⟩ _ ⟨w_60, rfl⟩
            try dsimp only
            refine ge_run (pc' := 34) (L' := [.ref 1638, .int x1, .int x2, .int x3, .int v_24, .int x5_57, .int x6_58, .int x7_59, .int v_23, .int (x9_16 + (1 : Int32)), .int (rm (x2 / x8_15) (5 : Int32)), .int v_24, w_60]) (S' := []) 2 rfl ?_
            exact ge_leaf (K := kX _ _) (Exists.intro _ (Exists.intro _ (Exists.intro _ rfl)))
def f_Mo_waysOf (x0 : Int32) : Option (Int32) :=
  (itr (σ := Int32 × Int32) (ρ := Int32) (fun (x1_1, x2_2) => if x2_2 < x0 then (some (.inl ((x1_1 * (5 : Int32)), (x2_2 + (1 : Int32))))) else (some (.inr x1_1))) 1000000 ((1 : Int32), (0 : Int32))).bind (fun x1_3 => some (x1_3))
set_option maxHeartbeats 4000000 in
theorem c_Mo_waysOf {n u : Nat} {t : MT} {i : MI} {r : MR} (s : Sh n t r) (x0 : Int32) : Cn 1 303 [.int x0] (n, u, t, i, r) (f_Mo_waysOf  x0) (F_i0 n u t i r) PT := by
  refine cn_of (Y := K_Mo_waysOf) (L0 := [.int x0, uV, uV]) rfl rfl rfl ?_
  intro d hd
  unfold f_Mo_waysOf
  refine ge_run (pc' := 4) (L' := [.int x0, .int (1 : Int32), .int (0 : Int32)]) (S' := []) 4 rfl ?_
  refine ge_bind (K1 := fun (q : Int32) e => ∃ w_4 : Value, e = .inl (13, [.int x0, .int q, w_4], [], (n, u, t, i, r))) (ge_itr (C := fun (q : Int32 × Int32) e => e = .inl (4, [.int x0, .int q.1, .int q.2], [], (n, u, t, i, r))) ?_ _ _ _ rfl) ?_
  · rintro ⟨x1_1, x2_2⟩ _ rfl
    try dsimp only
    refine ge_run (pc' := 6) (L' := [.int x0, .int x1_1, .int x2_2]) (S' := [.int x0, .int x2_2]) 2 rfl ?_
    refine ge_ge rfl (fun h_5 => ?_) (fun h_6 => ?_)
    · refine ge_run (pc' := 4) (L' := [.int x0, .int (x1_1 * (5 : Int32)), .int (x2_2 + (1 : Int32))]) (S' := []) 6 rfl ?_
      exact ge_leaf (K := kX _ _) rfl
    · exact ge_leaf (K := kX _ _) (Exists.intro _ rfl)
  · rintro x1_3 _ ⟨w_4, rfl⟩
    try dsimp only
    refine ge_run (pc' := 14) (L' := [.int x0, .int x1_3, w_4]) (S' := [.int x1_3]) 1 rfl ?_
    exact ge_ret rfl rfl (And.intro rfl trivial)
def f_Mo_bestWay (i : MI) (x1 : Int32) (x2 : Int32) : Option (Int32 × MI) :=
  (f_Mo_laysDrifts i x2).bind (fun i_1 => (itr (σ := Int32 × Int32 × Int32) (ρ := Int32) (fun (x3_2, x4_3, x5_4) => (f_Mo_waysOf x2).bind (fun v_10 => if x5_4 < v_10 then ((f_Mo_hauledBy i_1 x1 x5_4 x2).bind (fun v_12 => (if x4_3 < v_12 then (some x5_4) else (some x3_2) : Option (Int32)).bind (fun y_13 => (f_J_max x4_3 v_12).bind (fun v_16 => some (.inl (y_13, v_16, (x5_4 + (1 : Int32)))))))) else (some (.inr x3_2)))) 1000000 ((0 : Int32), (-1 : Int32), (0 : Int32))).bind (fun x3_6 => some (x3_6, i_1)))
set_option maxHeartbeats 4000000 in
theorem c_Mo_bestWay {n u : Nat} {t : MT} {i : MI} {r : MR} (s : Sh n t r) (x1 : Int32) (x2 : Int32) : Cn 5 304 [.ref 1638, .int x1, .int x2] (n, u, t, i, r) (f_Mo_bestWay i x1 x2) (F_i1 n u t r) PT := by
  refine cn_of (Y := K_Mo_bestWay) (L0 := [.ref 1638, .int x1, .int x2, uV, uV, uV, uV]) rfl rfl rfl ?_
  intro d hd
  unfold f_Mo_bestWay
  refine ge_run (pc' := 2) (L' := [.ref 1638, .int x1, .int x2, uV, uV, uV, uV]) (S' := [.int x2, .ref 1638]) 2 rfl ?_
  refine ge_cv rfl rfl rfl (t1638 s) rfl rfl rfl (D := 3) (Nat.le_trans (by decide) hd) (c_Mo_laysDrifts (n := n) (u := u) (t := t) (i := i) (r := r) s x2) ?_
  rintro i_1 -
  dsimp only [bkE, F_v1]
  refine ge_run (pc' := 9) (L' := [.ref 1638, .int x1, .int x2, .int (0 : Int32), .int (-1 : Int32), .int (0 : Int32), uV]) (S' := []) 6 rfl ?_
  refine ge_bind (K1 := fun (q : Int32) e => ∃ w_7 w_8 w_9 : Value, e = .inl (32, [.ref 1638, .int x1, .int x2, .int q, w_7, w_8, w_9], [], (n, u, t, i_1, r))) (ge_itr (C := fun (q : Int32 × Int32 × Int32) e => ∃ w_5 : Value, e = .inl (9, [.ref 1638, .int x1, .int x2, .int q.1, .int q.2.1, .int q.2.2, w_5], [], (n, u, t, i_1, r))) ?_ _ _ _ (Exists.intro _ rfl)) ?_
  · rintro ⟨x3_2, x4_3, x5_4⟩ _ ⟨w_5, rfl⟩
    try dsimp only
    refine ge_run (pc' := 11) (L' := [.ref 1638, .int x1, .int x2, .int x3_2, .int x4_3, .int x5_4, w_5]) (S' := [.int x2, .int x5_4]) 2 rfl ?_
    refine ge_cs rfl rfl rfl rfl rfl rfl (D := 1) (Nat.le_trans (by decide) hd) (c_Mo_waysOf (n := n) (u := u) (t := t) (i := i_1) (r := r) s x2) ?_
    rintro v_10 -
    dsimp only [bkE, F_i0]
    refine ge_ge rfl (fun h_11 => ?_) (fun h_17 => ?_)
    · refine ge_run (pc' := 17) (L' := [.ref 1638, .int x1, .int x2, .int x3_2, .int x4_3, .int x5_4, w_5]) (S' := [.int x2, .int x5_4, .int x1, .ref 1638]) 4 rfl ?_
      refine ge_cv rfl rfl rfl (t1638 s) rfl rfl rfl (D := 4) (Nat.le_trans (by decide) hd) (c_Mo_hauledBy (n := n) (u := u) (t := t) (i := i_1) (r := r) s x1 x5_4 x2) ?_
      rintro v_12 -
      dsimp only [bkE, F_i0]
      refine ge_run (pc' := 21) (L' := [.ref 1638, .int x1, .int x2, .int x3_2, .int x4_3, .int x5_4, .int v_12]) (S' := [.int x4_3, .int v_12]) 3 rfl ?_
      refine ge_bind (K1 := fun (q : Int32) e => e = .inl (25, [.ref 1638, .int x1, .int x2, .int x3_2, .int x4_3, .int x5_4, .int v_12], [.int q], (n, u, t, i_1, r))) ?_ ?_
      · refine ge_le rfl (fun h_14 => ?_) (fun h_15 => ?_)
        · refine ge_run (pc' := 25) (L' := [.ref 1638, .int x1, .int x2, .int x3_2, .int x4_3, .int x5_4, .int v_12]) (S' := [.int x5_4]) 2 rfl ?_
          exact ge_leaf rfl
        · refine ge_run (pc' := 25) (L' := [.ref 1638, .int x1, .int x2, .int x3_2, .int x4_3, .int x5_4, .int v_12]) (S' := [.int x3_2]) 1 rfl ?_
          exact ge_leaf rfl
      · rintro y_13 _ rfl
        try dsimp only
        refine ge_run (pc' := 28) (L' := [.ref 1638, .int x1, .int x2, .int y_13, .int x4_3, .int x5_4, .int v_12]) (S' := [.int v_12, .int x4_3]) 3 rfl ?_
        refine ge_cs rfl rfl rfl rfl rfl rfl (D := 1) (Nat.le_trans (by decide) hd) (c_J_max (n := n) (u := u) (t := t) (i := i_1) (r := r) s x4_3 v_12) ?_
        rintro v_16 -
        dsimp only [bkE, F_i0]
        refine ge_run (pc' := 9) (L' := [.ref 1638, .int x1, .int x2, .int y_13, .int v_16, .int (x5_4 + (1 : Int32)), .int v_12]) (S' := []) 3 rfl ?_
        exact ge_leaf (K := kX _ _) (Exists.intro _ rfl)
    · exact ge_leaf (K := kX _ _) (Exists.intro _ (Exists.intro _ (Exists.intro _ rfl)))
  · rintro x3_6 _ ⟨w_7, w_8, w_9, rfl⟩
    try dsimp only
    refine ge_run (pc' := 33) (L' := [.ref 1638, .int x1, .int x2, .int x3_6, w_7, w_8, w_9]) (S' := [.int x3_6]) 1 rfl ?_
    exact ge_ret rfl rfl (And.intro rfl trivial)
def f_Mo_wrongHaul (i : MI) (x1 : Int32) (x2 : Int32) : Option (Int32 × MI) :=
  bnd (wr i 1638 0 (0 : Int32)) (fun i_1 => (f_Mo_noBoat i_1 x1).bind (fun v_2 => (f_Mo_throwsIf i_1 v_2 (1 : Int32)).bind (fun (v_3, i_4) => if v_3 = 0 then ((f_Mo_in x2 (0 : Int32) (5 : Int32)).bind (fun v_6 => (if v_6 = 0 then (some (1 : Int32)) else (some (0 : Int32)) : Option (Int32)).bind (fun y_7 => (f_Mo_throwsIf i_4 y_7 (2 : Int32)).bind (fun (v_10, i_11) => if v_10 = 0 then (some ((0 : Int32), i_11)) else (some ((1 : Int32), i_11)))))) else (some ((1 : Int32), i_4)))))
set_option maxHeartbeats 4000000 in
theorem c_Mo_wrongHaul {n u : Nat} {t : MT} {i : MI} {r : MR} (s : Sh n t r) (x1 : Int32) (x2 : Int32) : Cn 3 305 [.ref 1638, .int x1, .int x2] (n, u, t, i, r) (f_Mo_wrongHaul i x1 x2) (F_i1 n u t r) PT := by
  refine cn_of (Y := K_Mo_wrongHaul) (L0 := [.ref 1638, .int x1, .int x2]) rfl rfl rfl ?_
  intro d hd
  unfold f_Mo_wrongHaul
  refine ge_run (pc' := 2) (L' := [.ref 1638, .int x1, .int x2]) (S' := [.int (0 : Int32), .ref 1638]) 2 rfl ?_
  refine ge_putI rfl (t1638 s) (Nat.le_of_ble_eq_true rfl) rfl (fun i_1 => ?_)
  refine ge_run (pc' := 6) (L' := [.ref 1638, .int x1, .int x2]) (S' := [.int x1, .ref 1638, .ref 1638]) 3 rfl ?_
  refine ge_cv rfl rfl rfl (t1638 s) rfl rfl rfl (D := 2) (Nat.le_trans (by decide) hd) (c_Mo_noBoat (n := n) (u := u) (t := t) (i := i_1) (r := r) s x1) ?_
  rintro v_2 -
  dsimp only [bkE, F_i0]
  refine ge_run (pc' := 8) (L' := [.ref 1638, .int x1, .int x2]) (S' := [.int (1 : Int32), .int v_2, .ref 1638]) 1 rfl ?_
  refine ge_cv rfl rfl rfl (t1638 s) rfl rfl rfl (D := 1) (Nat.le_trans (by decide) hd) (c_Mo_throwsIf (n := n) (u := u) (t := t) (i := i_1) (r := r) s v_2 (1 : Int32)) ?_
  rintro ⟨v_3, i_4⟩ -
  dsimp only [bkE, F_i1]
  refine ge_ne0 rfl (fun h_5 => ?_) (fun h_14 => ?_)
  · refine ge_run (pc' := 14) (L' := [.ref 1638, .int x1, .int x2]) (S' := [.int (5 : Int32), .int (0 : Int32), .int x2, .ref 1638]) 4 rfl ?_
    refine ge_cs rfl rfl rfl rfl rfl rfl (D := 1) (Nat.le_trans (by decide) hd) (c_Mo_in (n := n) (u := u) (t := t) (i := i_4) (r := r) s x2 (0 : Int32) (5 : Int32)) ?_
    rintro v_6 -
    dsimp only [bkE, F_i0]
    refine ge_bind (K1 := fun (q : Int32) e => e = .inl (19, [.ref 1638, .int x1, .int x2], [.int q, .ref 1638], (n, u, t, i_4, r))) ?_ ?_
    · refine ge_ne0 rfl (fun h_8 => ?_) (fun h_9 => ?_)
      · refine ge_run (pc' := 19) (L' := [.ref 1638, .int x1, .int x2]) (S' := [.int (1 : Int32), .ref 1638]) 2 rfl ?_
        exact ge_leaf rfl
      · refine ge_run (pc' := 19) (L' := [.ref 1638, .int x1, .int x2]) (S' := [.int (0 : Int32), .ref 1638]) 1 rfl ?_
        exact ge_leaf rfl
    · rintro y_7 _ rfl
      try dsimp only
      refine ge_run (pc' := 20) (L' := [.ref 1638, .int x1, .int x2]) (S' := [.int (2 : Int32), .int y_7, .ref 1638]) 1 rfl ?_
      refine ge_cv rfl rfl rfl (t1638 s) rfl rfl rfl (D := 1) (Nat.le_trans (by decide) hd) (c_Mo_throwsIf (n := n) (u := u) (t := t) (i := i_4) (r := r) s y_7 (2 : Int32)) ?_
      rintro ⟨v_10, i_11⟩ -
      dsimp only [bkE, F_i1]
      refine ge_eq0 rfl (fun h_12 => ?_) (fun h_13 => ?_)
      · refine ge_run (pc' := 25) (L' := [.ref 1638, .int x1, .int x2]) (S' := [.int (0 : Int32)]) 1 rfl ?_
        exact ge_retz rfl rfl (Or.inl rfl) (And.intro rfl trivial)
      · refine ge_run (pc' := 25) (L' := [.ref 1638, .int x1, .int x2]) (S' := [.int (1 : Int32)]) 2 rfl ?_
        exact ge_retz rfl rfl (Or.inr rfl) (And.intro rfl trivial)
  · refine ge_run (pc' := 25) (L' := [.ref 1638, .int x1, .int x2]) (S' := [.int (1 : Int32)]) 2 rfl ?_
    exact ge_retz rfl rfl (Or.inr rfl) (And.intro rfl trivial)
def f_Mo_haul (i : MI) (x1 : Int32) (x2 : Int32) : Option (Int32 × MI) :=
  (f_Mo_wrongHaul i x1 x2).bind (fun (v_1, i_2) => if v_1 = 0 then ((f_Mo_bestWay i_2 x1 x2).bind (fun (v_4, i_5) => (f_Mo_hauledBy i_5 x1 v_4 x2).bind (fun v_6 => some (v_6, i_5)))) else (some ((0 : Int32), i_2)))
set_option maxHeartbeats 4000000 in
theorem c_Mo_haul {n u : Nat} {t : MT} {i : MI} {r : MR} (s : Sh n t r) (x1 : Int32) (x2 : Int32) : Cn 6 306 [.ref 1638, .int x1, .int x2] (n, u, t, i, r) (f_Mo_haul i x1 x2) (F_i1 n u t r) PT := by
  refine cn_of (Y := K_Mo_haul) (L0 := [.ref 1638, .int x1, .int x2]) rfl rfl rfl ?_
  intro d hd
  unfold f_Mo_haul
  refine ge_run (pc' := 3) (L' := [.ref 1638, .int x1, .int x2]) (S' := [.int x2, .int x1, .ref 1638]) 3 rfl ?_
  refine ge_cv rfl rfl rfl (t1638 s) rfl rfl rfl (D := 3) (Nat.le_trans (by decide) hd) (c_Mo_wrongHaul (n := n) (u := u) (t := t) (i := i) (r := r) s x1 x2) ?_
  rintro ⟨v_1, i_2⟩ -
  dsimp only [bkE, F_i1]
  refine ge_eq0 rfl (fun h_3 => ?_) (fun h_7 => ?_)
  · refine ge_run (pc' := 12) (L' := [.ref 1638, .int x1, .int x2]) (S' := [.int x2, .int x1, .ref 1638, .int x1, .ref 1638]) 5 rfl ?_
    refine ge_cv rfl rfl rfl (t1638 s) rfl rfl rfl (D := 5) (Nat.le_trans (by decide) hd) (c_Mo_bestWay (n := n) (u := u) (t := t) (i := i_2) (r := r) s x1 x2) ?_
    rintro ⟨v_4, i_5⟩ -
    dsimp only [bkE, F_i1]
    refine ge_run (pc' := 14) (L' := [.ref 1638, .int x1, .int x2]) (S' := [.int x2, .int v_4, .int x1, .ref 1638]) 1 rfl ?_
    refine ge_cv rfl rfl rfl (t1638 s) rfl rfl rfl (D := 4) (Nat.le_trans (by decide) hd) (c_Mo_hauledBy (n := n) (u := u) (t := t) (i := i_5) (r := r) s x1 v_4 x2) ?_
    rintro v_6 -
    dsimp only [bkE, F_i0]
    exact ge_ret rfl rfl (And.intro rfl trivial)
  · refine ge_run (pc' := 15) (L' := [.ref 1638, .int x1, .int x2]) (S' := [.int (0 : Int32)]) 2 rfl ?_
    exact ge_ret rfl rfl (And.intro rfl trivial)
def f_Mo_first (i : MI) (x1 : Int32) (x2 : Int32) : Option (Int32 × MI) :=
  (f_Mo_wrongHaul i x1 x2).bind (fun (v_1, i_2) => if v_1 = 0 then (if x2 = 0 then (some ((-1 : Int32), i_2)) else ((f_Mo_bestWay i_2 x1 x2).bind (fun (v_6, i_7) => (f_Mo_waysOf x2).bind (fun v_8 => grd2 (decide (¬ (v_8 / (5 : Int32)) = 0)) (some ((v_6 / (v_8 / (5 : Int32))), i_7)))))) else (some ((0 : Int32), i_2)))
set_option maxHeartbeats 4000000 in
theorem c_Mo_first {n u : Nat} {t : MT} {i : MI} {r : MR} (s : Sh n t r) (x1 : Int32) (x2 : Int32) : Cn 6 307 [.ref 1638, .int x1, .int x2] (n, u, t, i, r) (f_Mo_first i x1 x2) (F_i1 n u t r) PT := by
  refine cn_of (Y := K_Mo_first) (L0 := [.ref 1638, .int x1, .int x2]) rfl rfl rfl ?_
  intro d hd
  unfold f_Mo_first
  refine ge_run (pc' := 3) (L' := [.ref 1638, .int x1, .int x2]) (S' := [.int x2, .int x1, .ref 1638]) 3 rfl ?_
  refine ge_cv rfl rfl rfl (t1638 s) rfl rfl rfl (D := 3) (Nat.le_trans (by decide) hd) (c_Mo_wrongHaul (n := n) (u := u) (t := t) (i := i) (r := r) s x1 x2) ?_
  rintro ⟨v_1, i_2⟩ -
  dsimp only [bkE, F_i1]
  refine ge_eq0 rfl (fun h_3 => ?_) (fun h_10 => ?_)
  · refine ge_run (pc' := 8) (L' := [.ref 1638, .int x1, .int x2]) (S' := [.int x2]) 1 rfl ?_
    refine ge_ne0 rfl (fun h_4 => ?_) (fun h_5 => ?_)
    · refine ge_run (pc' := 20) (L' := [.ref 1638, .int x1, .int x2]) (S' := [.int (-1 : Int32)]) 2 rfl ?_
      exact ge_ret rfl rfl (And.intro rfl trivial)
    · refine ge_run (pc' := 14) (L' := [.ref 1638, .int x1, .int x2]) (S' := [.int x2, .int x1, .ref 1638]) 3 rfl ?_
      refine ge_cv rfl rfl rfl (t1638 s) rfl rfl rfl (D := 5) (Nat.le_trans (by decide) hd) (c_Mo_bestWay (n := n) (u := u) (t := t) (i := i_2) (r := r) s x1 x2) ?_
      rintro ⟨v_6, i_7⟩ -
      dsimp only [bkE, F_i1]
      refine ge_run (pc' := 16) (L' := [.ref 1638, .int x1, .int x2]) (S' := [.int x2, .int v_6]) 1 rfl ?_
      refine ge_cs rfl rfl rfl rfl rfl rfl (D := 1) (Nat.le_trans (by decide) hd) (c_Mo_waysOf (n := n) (u := u) (t := t) (i := i_7) (r := r) s x2) ?_
      rintro v_8 -
      dsimp only [bkE, F_i0]
      refine ge_run (pc' := 18) (L' := [.ref 1638, .int x1, .int x2]) (S' := [.int (5 : Int32), .int v_8, .int v_6]) 1 rfl ?_
      refine ge_div rfl (by decide) ?_
      refine ge_grd2 (fun h_9 => ?_)
      refine ge_div rfl (of_decide_eq_true h_9) ?_
      exact ge_ret rfl rfl (And.intro rfl trivial)
  · refine ge_run (pc' := 6) (L' := [.ref 1638, .int x1, .int x2]) (S' := [.int (0 : Int32)]) 1 rfl ?_
    exact ge_ret rfl rfl (And.intro rfl trivial)
def f_Mo_comesTo (i : MI) (x1 : Int32) (x2 : Int32) : Option (Int32) :=
  (itr (σ := Int32 × Int32) (ρ := Int32) (fun (x3_1, x4_2) => if x4_2 < (25 : Int32) then (if x3_1 = x2 then (some (.inr x3_1)) else ((f_Mo_driftOf i x3_1).bind (fun v_8 => some (.inl (v_8, (x4_2 + (1 : Int32))))))) else (some (.inr x3_1))) 1000000 (x1, (0 : Int32))).bind (fun x3_3 => if x3_3 = x2 then (some ((1 : Int32))) else (some ((0 : Int32))))
set_option maxHeartbeats 4000000 in
theorem c_Mo_comesTo {n u : Nat} {t : MT} {i : MI} {r : MR} (s : Sh n t r) (x1 : Int32) (x2 : Int32) : Cn 3 308 [.ref 1638, .int x1, .int x2] (n, u, t, i, r) (f_Mo_comesTo i x1 x2) (F_i0 n u t i r) PT := by
  refine cn_of (Y := K_Mo_comesTo) (L0 := [.ref 1638, .int x1, .int x2, uV, uV]) rfl rfl rfl ?_
  intro d hd
  unfold f_Mo_comesTo
  refine ge_run (pc' := 4) (L' := [.ref 1638, .int x1, .int x2, .int x1, .int (0 : Int32)]) (S' := []) 4 rfl ?_
  refine ge_bind (K1 := fun (q : Int32) e => ∃ w_4 : Value, e = .inl (16, [.ref 1638, .int x1, .int x2, .int q, w_4], [], (n, u, t, i, r))) (ge_itr (C := fun (q : Int32 × Int32) e => e = .inl (4, [.ref 1638, .int x1, .int x2, .int q.1, .int q.2], [], (n, u, t, i, r))) ?_ _ _ _ rfl) ?_
  · rintro ⟨x3_1, x4_2⟩ _ rfl
    try dsimp only
    refine ge_run (pc' := 6) (L' := [.ref 1638, .int x1, .int x2, .int x3_1, .int x4_2]) (S' := [.int (25 : Int32), .int x4_2]) 2 rfl ?_
    refine ge_ge rfl (fun h_5 => ?_) (fun h_9 => ?_)
    · refine ge_run (pc' := 9) (L' := [.ref 1638, .int x1, .int x2, .int x3_1, .int x4_2]) (S' := [.int x2, .int x3_1]) 2 rfl ?_
      refine ge_eq rfl (fun h_6 => ?_) (fun h_7 => ?_)
      · exact ge_leaf (K := kX _ _) (Exists.intro _ rfl)
      · refine ge_run (pc' := 12) (L' := [.ref 1638, .int x1, .int x2, .int x3_1, .int x4_2]) (S' := [.int x3_1, .ref 1638]) 2 rfl ?_
        refine ge_cv rfl rfl rfl (t1638 s) rfl rfl rfl (D := 2) (Nat.le_trans (by decide) hd) (c_Mo_driftOf (n := n) (u := u) (t := t) (i := i) (r := r) s x3_1) ?_
        rintro v_8 -
        dsimp only [bkE, F_i0]
        refine ge_run (pc' := 4) (L' := [.ref 1638, .int x1, .int x2, .int v_8, .int (x4_2 + (1 : Int32))]) (S' := []) 3 rfl ?_
        exact ge_leaf (K := kX _ _) rfl
    · exact ge_leaf (K := kX _ _) (Exists.intro _ rfl)
  · rintro x3_3 _ ⟨w_4, rfl⟩
    try dsimp only
    refine ge_run (pc' := 18) (L' := [.ref 1638, .int x1, .int x2, .int x3_3, w_4]) (S' := [.int x2, .int x3_3]) 2 rfl ?_
    refine ge_ne rfl (fun h_10 => ?_) (fun h_11 => ?_)
    · refine ge_run (pc' := 22) (L' := [.ref 1638, .int x1, .int x2, .int x3_3, w_4]) (S' := [.int (1 : Int32)]) 2 rfl ?_
      exact ge_retz rfl rfl (Or.inr rfl) (And.intro rfl trivial)
    · refine ge_run (pc' := 22) (L' := [.ref 1638, .int x1, .int x2, .int x3_3, w_4]) (S' := [.int (0 : Int32)]) 1 rfl ?_
      exact ge_retz rfl rfl (Or.inl rfl) (And.intro rfl trivial)
def f_Mo_eddy (i : MI) : Option (Int32 × MI) :=
  bnd (wr i 1638 0 (0 : Int32)) (fun i_1 => (itr (σ := Int32 × Int32 × Int32) (ρ := Int32) (fun (x1_2, x2_3, x3_4) => if x3_4 < (25 : Int32) then ((itr (σ := Int32 × Int32) (ρ := Int32) (fun (x4_13, x5_14) => if x5_14 < (25 : Int32) then ((f_Mo_comesTo i_1 x5_14 x3_4).bind (fun v_18 => (if v_18 = 0 then (some (0 : Int32)) else (some (1 : Int32)) : Option (Int32)).bind (fun y_19 => some (.inl ((x4_13 + y_19), (x5_14 + (1 : Int32))))))) else (some (.inr x4_13))) 1000000 ((0 : Int32), (0 : Int32))).bind (fun x4_15 => (if x2_3 < x4_15 then (some x3_4) else (some x1_2) : Option (Int32)).bind (fun y_23 => (f_J_max x2_3 x4_15).bind (fun v_26 => some (.inl (y_23, v_26, (x3_4 + (1 : Int32)))))))) else (some (.inr x1_2))) 1000000 ((0 : Int32), (0 : Int32), (0 : Int32))).bind (fun x1_7 => some (x1_7, i_1)))
set_option maxHeartbeats 4000000 in
theorem c_Mo_eddy {n u : Nat} {t : MT} {i : MI} {r : MR} (s : Sh n t r)  : Cn 4 309 [.ref 1638] (n, u, t, i, r) (f_Mo_eddy i ) (F_i1 n u t r) PT := by
  refine cn_of (Y := K_Mo_eddy) (L0 := [.ref 1638, uV, uV, uV, uV, uV]) rfl rfl rfl ?_
  intro d hd
  unfold f_Mo_eddy
  refine ge_run (pc' := 2) (L' := [.ref 1638, uV, uV, uV, uV, uV]) (S' := [.int (0 : Int32), .ref 1638]) 2 rfl ?_
  refine ge_putI rfl (t1638 s) (Nat.le_of_ble_eq_true rfl) rfl (fun i_1 => ?_)
  refine ge_run (pc' := 9) (L' := [.ref 1638, .int (0 : Int32), .int (0 : Int32), .int (0 : Int32), uV, uV]) (S' := []) 6 rfl ?_
  refine ge_bind (K1 := fun (q : Int32) e => ∃ w_8 w_9 w_10 w_11 : Value, e = .inl (45, [.ref 1638, .int q, w_8, w_9, w_10, w_11], [], (n, u, t, i_1, r))) (ge_itr (C := fun (q : Int32 × Int32 × Int32) e => ∃ w_5 w_6 : Value, e = .inl (9, [.ref 1638, .int q.1, .int q.2.1, .int q.2.2, w_5, w_6], [], (n, u, t, i_1, r))) ?_ _ _ _ (Exists.intro _ (Exists.intro _ rfl))) ?_
  · rintro ⟨x1_2, x2_3, x3_4⟩ _ ⟨w_5, w_6, rfl⟩
    try dsimp only
    refine ge_run (pc' := 11) (L' := [.ref 1638, .int x1_2, .int x2_3, .int x3_4, w_5, w_6]) (S' := [.int (25 : Int32), .int x3_4]) 2 rfl ?_
    refine ge_ge rfl (fun h_12 => ?_) (fun h_27 => ?_)
    · refine ge_run (pc' := 16) (L' := [.ref 1638, .int x1_2, .int x2_3, .int x3_4, .int (0 : Int32), .int (0 : Int32)]) (S' := []) 4 rfl ?_
      refine ge_bind (K1 := fun (q : Int32) e => ∃ w_16 : Value, e = .inl (32, [.ref 1638, .int x1_2, .int x2_3, .int x3_4, .int q, w_16], [], (n, u, t, i_1, r))) (ge_itr (C := fun (q : Int32 × Int32) e => e = .inl (16, [.ref 1638, .int x1_2, .int x2_3, .int x3_4, .int q.1, .int q.2], [], (n, u, t, i_1, r))) ?_ _ _ _ rfl) ?_
      · rintro ⟨x4_13, x5_14⟩ _ rfl
        try dsimp only
        refine ge_run (pc' := 18) (L' := [.ref 1638, .int x1_2, .int x2_3, .int x3_4, .int x4_13, .int x5_14]) (S' := [.int (25 : Int32), .int x5_14]) 2 rfl ?_
        refine ge_ge rfl (fun h_17 => ?_) (fun h_22 => ?_)
        · refine ge_run (pc' := 23) (L' := [.ref 1638, .int x1_2, .int x2_3, .int x3_4, .int x4_13, .int x5_14]) (S' := [.int x3_4, .int x5_14, .ref 1638, .int x4_13]) 4 rfl ?_
          refine ge_cv rfl rfl rfl (t1638 s) rfl rfl rfl (D := 3) (Nat.le_trans (by decide) hd) (c_Mo_comesTo (n := n) (u := u) (t := t) (i := i_1) (r := r) s x5_14 x3_4) ?_
          rintro v_18 -
          dsimp only [bkE, F_i0]
          refine ge_bind (K1 := fun (q : Int32) e => e = .inl (28, [.ref 1638, .int x1_2, .int x2_3, .int x3_4, .int x4_13, .int x5_14], [.int q, .int x4_13], (n, u, t, i_1, r))) ?_ ?_
          · refine ge_eq0 rfl (fun h_20 => ?_) (fun h_21 => ?_)
            · refine ge_run (pc' := 28) (L' := [.ref 1638, .int x1_2, .int x2_3, .int x3_4, .int x4_13, .int x5_14]) (S' := [.int (0 : Int32), .int x4_13]) 1 rfl ?_
              exact ge_leaf rfl
            · refine ge_run (pc' := 28) (L' := [.ref 1638, .int x1_2, .int x2_3, .int x3_4, .int x4_13, .int x5_14]) (S' := [.int (1 : Int32), .int x4_13]) 2 rfl ?_
              exact ge_leaf rfl
          · rintro y_19 _ rfl
            try dsimp only
            refine ge_run (pc' := 16) (L' := [.ref 1638, .int x1_2, .int x2_3, .int x3_4, .int (x4_13 + y_19), .int (x5_14 + (1 : Int32))]) (S' := []) 4 rfl ?_
            exact ge_leaf (K := kX _ _) rfl
        · exact ge_leaf (K := kX _ _) (Exists.intro _ rfl)
      · rintro x4_15 _ ⟨w_16, rfl⟩
        try dsimp only
        refine ge_run (pc' := 34) (L' := [.ref 1638, .int x1_2, .int x2_3, .int x3_4, .int x4_15, w_16]) (S' := [.int x2_3, .int x4_15]) 2 rfl ?_
        refine ge_bind (K1 := fun (q : Int32) e => e = .inl (38, [.ref 1638, .int x1_2, .int x2_3, .int x3_4, .int x4_15, w_16], [.int q], (n, u, t, i_1, r))) ?_ ?_
        · refine ge_le rfl (fun h_24 => ?_) (fun h_25 => ?_)
          · refine ge_run (pc' := 38) (L' := [.ref 1638, .int x1_2, .int x2_3, .int x3_4, .int x4_15, w_16]) (S' := [.int x3_4]) 2 rfl ?_
            exact ge_leaf rfl
          · refine ge_run (pc' := 38) (L' := [.ref 1638, .int x1_2, .int x2_3, .int x3_4, .int x4_15, w_16]) (S' := [.int x1_2]) 1 rfl ?_
            exact ge_leaf rfl
        · rintro y_23 _ rfl
          try dsimp only
          refine ge_run (pc' := 41) (L' := [.ref 1638, .int y_23, .int x2_3, .int x3_4, .int x4_15, w_16]) (S' := [.int x4_15, .int x2_3]) 3 rfl ?_
          refine ge_cs rfl rfl rfl rfl rfl rfl (D := 1) (Nat.le_trans (by decide) hd) (c_J_max (n := n) (u := u) (t := t) (i := i_1) (r := r) s x2_3 x4_15) ?_
          rintro v_26 -
          dsimp only [bkE, F_i0]
          refine ge_run (pc' := 9) (L' := [.ref 1638, .int y_23, .int v_26, .int (x3_4 + (1 : Int32)), .int x4_15, w_16]) (S' := []) 3 rfl ?_
          exact ge_leaf (K := kX _ _) (Exists.intro _ (Exists.intro _ rfl))
    · exact ge_leaf (K := kX _ _) (Exists.intro _ (Exists.intro _ (Exists.intro _ (Exists.intro _ rfl))))
  · rintro x1_7 _ ⟨w_8, w_9, w_10, w_11, rfl⟩
    try dsimp only
    refine ge_run (pc' := 46) (L' := [.ref 1638, .int x1_7, w_8, w_9, w_10, w_11]) (S' := [.int x1_7]) 1 rfl ?_
    exact ge_ret rfl rfl (And.intro rfl trivial)
def f_Mo_canSayAll (i : MI) (x1 : Int32) (x2 : Int32) : Option (Int32) :=
  (itr (σ := Int32 × Int32 × Int32) (ρ := Int32 × Int32) (fun (x3_1, x4_2, x5_3) => (f_Mo_fishes i).bind (fun v_7 => if x5_3 < v_7 then ((f_Mo_has x2 x5_3).bind (fun v_9 => (if v_9 = 0 then (some (x3_1, x4_2)) else ((f_Mo_of i x5_3 (1 : Int32)).bind (fun v_14 => (if x4_2 = 0 then (some (0 : Int32)) else ((f_Mo_ofDead i x1 (0 : Int32)).bind (fun v_18 => (f_Mo_of i x5_3 (0 : Int32)).bind (fun v_19 => (f_Mo_has v_18 v_19).bind (fun v_20 => if v_20 = 0 then (some (0 : Int32)) else (some (1 : Int32)))))) : Option (Int32)).bind (fun y_15 => some ((x3_1 + v_14), y_15)))) : Option (Int32 × Int32)).bind (fun (x3_10, x4_11) => some (.inl (x3_10, x4_11, (x5_3 + (1 : Int32))))))) else (some (.inr (x3_1, x4_2))))) 1000000 ((0 : Int32), (1 : Int32), (0 : Int32))).bind (fun (x3_4, x4_5) => if x4_5 = 0 then (some ((0 : Int32))) else (grd x1 6 (if (i 1650 (ix x1)) < x3_4 then (some ((0 : Int32))) else (some ((1 : Int32))))))
set_option maxHeartbeats 4000000 in
theorem c_Mo_canSayAll {n u : Nat} {t : MT} {i : MI} {r : MR} (s : Sh n t r) (x1 : Int32) (x2 : Int32) : Cn 3 310 [.ref 1638, .int x1, .int x2] (n, u, t, i, r) (f_Mo_canSayAll i x1 x2) (F_i0 n u t i r) PT := by
  refine cn_of (Y := K_Mo_canSayAll) (L0 := [.ref 1638, .int x1, .int x2, uV, uV, uV]) rfl rfl rfl ?_
  intro d hd
  unfold f_Mo_canSayAll
  refine ge_run (pc' := 6) (L' := [.ref 1638, .int x1, .int x2, .int (0 : Int32), .int (1 : Int32), .int (0 : Int32)]) (S' := []) 6 rfl ?_
  refine ge_bind (K1 := fun (q : Int32 × Int32) e => ∃ w_6 : Value, e = .inl (40, [.ref 1638, .int x1, .int x2, .int q.1, .int q.2, w_6], [], (n, u, t, i, r))) (ge_itr (C := fun (q : Int32 × Int32 × Int32) e => e = .inl (6, [.ref 1638, .int x1, .int x2, .int q.1, .int q.2.1, .int q.2.2], [], (n, u, t, i, r))) ?_ _ _ _ rfl) ?_
  · rintro ⟨x3_1, x4_2, x5_3⟩ _ rfl
    try dsimp only
    refine ge_run (pc' := 8) (L' := [.ref 1638, .int x1, .int x2, .int x3_1, .int x4_2, .int x5_3]) (S' := [.ref 1638, .int x5_3]) 2 rfl ?_
    refine ge_cv rfl rfl rfl (t1638 s) rfl rfl rfl (D := 1) (Nat.le_trans (by decide) hd) (c_Mo_fishes (n := n) (u := u) (t := t) (i := i) (r := r) s ) ?_
    rintro v_7 -
    dsimp only [bkE, F_i0]
    refine ge_ge rfl (fun h_8 => ?_) (fun h_23 => ?_)
    · refine ge_run (pc' := 12) (L' := [.ref 1638, .int x1, .int x2, .int x3_1, .int x4_2, .int x5_3]) (S' := [.int x5_3, .int x2]) 2 rfl ?_
      refine ge_cs rfl rfl rfl rfl rfl rfl (D := 1) (Nat.le_trans (by decide) hd) (c_Mo_has (n := n) (u := u) (t := t) (i := i) (r := r) s x2 x5_3) ?_
      rintro v_9 -
      dsimp only [bkE, F_i0]
      refine ge_bind (K1 := fun (q : Int32 × Int32) e => e = .inl (38, [.ref 1638, .int x1, .int x2, .int q.1, .int q.2, .int x5_3], [], (n, u, t, i, r))) ?_ ?_
      · refine ge_ne0 rfl (fun h_12 => ?_) (fun h_13 => ?_)
        · refine ge_run (pc' := 38) (L' := [.ref 1638, .int x1, .int x2, .int x3_1, .int x4_2, .int x5_3]) (S' := []) 1 rfl ?_
          exact ge_leaf rfl
        · refine ge_run (pc' := 19) (L' := [.ref 1638, .int x1, .int x2, .int x3_1, .int x4_2, .int x5_3]) (S' := [.int (1 : Int32), .int x5_3, .ref 1638, .int x3_1]) 4 rfl ?_
          refine ge_cv rfl rfl rfl (t1638 s) rfl rfl rfl (D := 2) (Nat.le_trans (by decide) hd) (c_Mo_of (n := n) (u := u) (t := t) (i := i) (r := r) s x5_3 (1 : Int32)) ?_
          rintro v_14 -
          dsimp only [bkE, F_i0]
          refine ge_run (pc' := 23) (L' := [.ref 1638, .int x1, .int x2, .int (x3_1 + v_14), .int x4_2, .int x5_3]) (S' := [.int x4_2]) 3 rfl ?_
          refine ge_bind (K1 := fun (q : Int32) e => e = .inl (37, [.ref 1638, .int x1, .int x2, .int (x3_1 + v_14), .int x4_2, .int x5_3], [.int q], (n, u, t, i, r))) ?_ ?_
          · refine ge_eq0 rfl (fun h_16 => ?_) (fun h_17 => ?_)
            · refine ge_run (pc' := 37) (L' := [.ref 1638, .int x1, .int x2, .int (x3_1 + v_14), .int x4_2, .int x5_3]) (S' := [.int (0 : Int32)]) 1 rfl ?_
              exact ge_leaf rfl
            · refine ge_run (pc' := 27) (L' := [.ref 1638, .int x1, .int x2, .int (x3_1 + v_14), .int x4_2, .int x5_3]) (S' := [.int (0 : Int32), .int x1, .ref 1638]) 3 rfl ?_
              refine ge_cv rfl rfl rfl (t1638 s) rfl rfl rfl (D := 1) (Nat.le_trans (by decide) hd) (c_Mo_ofDead (n := n) (u := u) (t := t) (i := i) (r := r) s x1 (0 : Int32)) ?_
              rintro v_18 -
              dsimp only [bkE, F_i0]
              refine ge_run (pc' := 31) (L' := [.ref 1638, .int x1, .int x2, .int (x3_1 + v_14), .int x4_2, .int x5_3]) (S' := [.int (0 : Int32), .int x5_3, .ref 1638, .int v_18]) 3 rfl ?_
              refine ge_cv rfl rfl rfl (t1638 s) rfl rfl rfl (D := 2) (Nat.le_trans (by decide) hd) (c_Mo_of (n := n) (u := u) (t := t) (i := i) (r := r) s x5_3 (0 : Int32)) ?_
              rintro v_19 -
              dsimp only [bkE, F_i0]
              refine ge_cs rfl rfl rfl rfl rfl rfl (D := 1) (Nat.le_trans (by decide) hd) (c_Mo_has (n := n) (u := u) (t := t) (i := i) (r := r) s v_18 v_19) ?_
              rintro v_20 -
              dsimp only [bkE, F_i0]
              refine ge_eq0 rfl (fun h_21 => ?_) (fun h_22 => ?_)
              · refine ge_run (pc' := 37) (L' := [.ref 1638, .int x1, .int x2, .int (x3_1 + v_14), .int x4_2, .int x5_3]) (S' := [.int (0 : Int32)]) 1 rfl ?_
                exact ge_leaf rfl
              · refine ge_run (pc' := 37) (L' := [.ref 1638, .int x1, .int x2, .int (x3_1 + v_14), .int x4_2, .int x5_3]) (S' := [.int (1 : Int32)]) 2 rfl ?_
                exact ge_leaf rfl
          · rintro y_15 _ rfl
            try dsimp only
            refine ge_run (pc' := 38) (L' := [.ref 1638, .int x1, .int x2, .int (x3_1 + v_14), .int y_15, .int x5_3]) (S' := []) 1 rfl ?_
            exact ge_leaf rfl
      · rintro ⟨x3_10, x4_11⟩ _ rfl
        try dsimp only
        refine ge_run (pc' := 6) (L' := [.ref 1638, .int x1, .int x2, .int x3_10, .int x4_11, .int (x5_3 + (1 : Int32))]) (S' := []) 2 rfl ?_
        exact ge_leaf (K := kX _ _) rfl
    · exact ge_leaf (K := kX _ _) (Exists.intro _ rfl)
  · rintro ⟨x3_4, x4_5⟩ _ ⟨w_6, rfl⟩
    try dsimp only
    refine ge_run (pc' := 41) (L' := [.ref 1638, .int x1, .int x2, .int x3_4, .int x4_5, w_6]) (S' := [.int x4_5]) 1 rfl ?_
    refine ge_eq0 rfl (fun h_24 => ?_) (fun h_25 => ?_)
    · refine ge_run (pc' := 51) (L' := [.ref 1638, .int x1, .int x2, .int x3_4, .int x4_5, w_6]) (S' := [.int (0 : Int32)]) 1 rfl ?_
      exact ge_retz rfl rfl (Or.inl rfl) (And.intro rfl trivial)
    · refine ge_run (pc' := 44) (L' := [.ref 1638, .int x1, .int x2, .int x3_4, .int x4_5, w_6]) (S' := [.ref 1638, .int x3_4]) 2 rfl ?_
      refine ge_getR (b := 1650) rfl (t1638 s) rfl (r1638_21 s) (Nat.le_of_ble_eq_true rfl) ?_
      refine ge_run (pc' := 46) (L' := [.ref 1638, .int x1, .int x2, .int x3_4, .int x4_5, w_6]) (S' := [.int x1, .ref 1650, .int x3_4]) 1 rfl ?_
      refine ge_grd (fun g_26 g_27 => ?_)
      refine ge_iald (jn := (ix x1)) rfl (t1650 s) ⟨g_26, rfl⟩ g_27 ?_
      refine ge_gt rfl (fun h_28 => ?_) (fun h_29 => ?_)
      · refine ge_run (pc' := 51) (L' := [.ref 1638, .int x1, .int x2, .int x3_4, .int x4_5, w_6]) (S' := [.int (0 : Int32)]) 1 rfl ?_
        exact ge_retz rfl rfl (Or.inl rfl) (And.intro rfl trivial)
      · refine ge_run (pc' := 51) (L' := [.ref 1638, .int x1, .int x2, .int x3_4, .int x4_5, w_6]) (S' := [.int (1 : Int32)]) 2 rfl ?_
        exact ge_retz rfl rfl (Or.inr rfl) (And.intro rfl trivial)
def f_Mo_putAt (x0 : Int32) (x1 : Int32) : Option (Int32) :=
  some (((shl x0 (8 : Int32)) + x1))
set_option maxHeartbeats 4000000 in
theorem c_Mo_putAt {n u : Nat} {t : MT} {i : MI} {r : MR} (s : Sh n t r) (x0 : Int32) (x1 : Int32) : Cn 1 311 [.int x0, .int x1] (n, u, t, i, r) (f_Mo_putAt  x0 x1) (F_i0 n u t i r) PT := by
  refine cn_of (Y := K_Mo_putAt) (L0 := [.int x0, .int x1]) rfl rfl rfl ?_
  intro d hd
  unfold f_Mo_putAt
  refine ge_run (pc' := 5) (L' := [.int x0, .int x1]) (S' := [.int ((shl x0 (8 : Int32)) + x1)]) 5 rfl ?_
  exact ge_ret rfl rfl (And.intro rfl trivial)
def f_Mo_mostOf (i : MI) (x1 : Int32) : Option (Int32 × MI) :=
  (itr (σ := Int32 × MI) (ρ := MI) (fun (x2_1, i_2) => if x1 < x2_1 then (some (.inr i_2)) else ((f_Mo_deadOnes i_2).bind (fun v_7 => (f_Mo_putAt v_7 x2_1).bind (fun v_8 => grd v_8 1792 (bnd (wr i_2 1649 (ix v_8) (0 : Int32)) (fun i_11 => some (.inl ((x2_1 + (1 : Int32)), i_11)))))))) 1000000 ((0 : Int32), i)).bind (fun i_3 => (f_Mo_deadOnes i_3).bind (fun v_12 => (itr (σ := Int32 × MI) (ρ := MI) (fun (x2_13, i_14) => if x2_13 < 0 then (some (.inr i_14)) else ((itr (σ := Int32 × MI) (ρ := MI) (fun (x3_25, i_26) => if x1 < x3_25 then (some (.inr i_26)) else ((if (x3_25 &&& (x1 ^^^ (-1 : Int32))) = 0 then ((itr (σ := Int32 × Int32) (ρ := Int32) (fun (x4_39, x5_40) => if x5_40 < 0 then (some (.inr x4_39)) else ((f_Mo_canSayAll i_26 x2_13 x5_40).bind (fun v_45 => (if v_45 = 0 then (some x4_39) else ((f_J_bitCount x5_40).bind (fun v_49 => (f_Mo_putAt (x2_13 + (1 : Int32)) (x3_25 &&& (x5_40 ^^^ (-1 : Int32)))).bind (fun v_50 => grd v_50 1792 ((f_J_max x4_39 (v_49 + (i_26 1649 (ix v_50)))).bind (fun v_53 => some v_53))))) : Option (Int32)).bind (fun x4_46 => (if x5_40 = 0 then (some (-1 : Int32)) else (some ((x5_40 - (1 : Int32)) &&& x3_25)) : Option (Int32)).bind (fun y_54 => some (.inl (x4_46, y_54))))))) 1000000 ((0 : Int32), x3_25)).bind (fun x4_41 => (f_Mo_putAt x2_13 x3_25).bind (fun v_57 => grd v_57 1792 (bnd (wr i_26 1649 (ix v_57) x4_41) (fun i_60 => some i_60))))) else (some i_26) : Option (MI)).bind (fun i_35 => some (.inl ((x3_25 + (1 : Int32)), i_35))))) 1000000 ((0 : Int32), i_14)).bind (fun i_29 => some (.inl ((x2_13 + (-1 : Int32)), i_29))))) 1000000 ((v_12 - (1 : Int32)), i_3)).bind (fun i_18 => (f_Mo_putAt (0 : Int32) x1).bind (fun v_62 => grd v_62 1792 (some ((i_18 1649 (ix v_62)), i_18))))))
set_option maxHeartbeats 4000000 in
theorem c_Mo_mostOf {n u : Nat} {t : MT} {i : MI} {r : MR} (s : Sh n t r) (x1 : Int32) : Cn 4 312 [.ref 1638, .int x1] (n, u, t, i, r) (f_Mo_mostOf i x1) (F_i1 n u t r) PT := by
  refine cn_of (Y := K_Mo_mostOf) (L0 := [.ref 1638, .int x1, uV, uV, uV, uV]) rfl rfl rfl ?_
  intro d hd
  unfold f_Mo_mostOf
  refine ge_run (pc' := 2) (L' := [.ref 1638, .int x1, .int (0 : Int32), uV, uV, uV]) (S' := []) 2 rfl ?_
  refine ge_bind (K1 := fun (q : MI) e => ∃ w_4 : Value, e = .inl (15, [.ref 1638, .int x1, w_4, uV, uV, uV], [], (n, u, t, q, r))) (ge_itr (C := fun (q : Int32 × MI) e => e = .inl (2, [.ref 1638, .int x1, .int q.1, uV, uV, uV], [], (n, u, t, q.2, r))) ?_ _ _ _ rfl) ?_
  · rintro ⟨x2_1, i_2⟩ _ rfl
    try dsimp only
    refine ge_run (pc' := 4) (L' := [.ref 1638, .int x1, .int x2_1, uV, uV, uV]) (S' := [.int x1, .int x2_1]) 2 rfl ?_
    refine ge_gt rfl (fun h_5 => ?_) (fun h_6 => ?_)
    · exact ge_leaf (K := kX _ _) (Exists.intro _ rfl)
    · refine ge_run (pc' := 6) (L' := [.ref 1638, .int x1, .int x2_1, uV, uV, uV]) (S' := [.ref 1638]) 1 rfl ?_
      refine ge_getR (b := 1649) rfl (t1638 s) rfl (r1638_20 s) (Nat.le_of_ble_eq_true rfl) ?_
      refine ge_run (pc' := 8) (L' := [.ref 1638, .int x1, .int x2_1, uV, uV, uV]) (S' := [.ref 1638, .ref 1649]) 1 rfl ?_
      refine ge_cv rfl rfl rfl (t1638 s) rfl rfl rfl (D := 1) (Nat.le_trans (by decide) hd) (c_Mo_deadOnes (n := n) (u := u) (t := t) (i := i_2) (r := r) s ) ?_
      rintro v_7 -
      dsimp only [bkE, F_i0]
      refine ge_run (pc' := 10) (L' := [.ref 1638, .int x1, .int x2_1, uV, uV, uV]) (S' := [.int x2_1, .int v_7, .ref 1649]) 1 rfl ?_
      refine ge_cs rfl rfl rfl rfl rfl rfl (D := 1) (Nat.le_trans (by decide) hd) (c_Mo_putAt (n := n) (u := u) (t := t) (i := i_2) (r := r) s v_7 x2_1) ?_
      rintro v_8 -
      dsimp only [bkE, F_i0]
      refine ge_run (pc' := 12) (L' := [.ref 1638, .int x1, .int x2_1, uV, uV, uV]) (S' := [.int (0 : Int32), .int v_8, .ref 1649]) 1 rfl ?_
      refine ge_grd (fun g_9 g_10 => ?_)
      refine ge_iast (jn := (ix v_8)) rfl (t1649 s) (Nat.le_of_ble_eq_true rfl) ⟨g_9, rfl⟩ g_10 (fun i_11 => ?_)
      refine ge_run (pc' := 2) (L' := [.ref 1638, .int x1, .int (x2_1 + (1 : Int32)), uV, uV, uV]) (S' := []) 2 rfl ?_
      exact ge_leaf (K := kX _ _) rfl
  · rintro i_3 _ ⟨w_4, rfl⟩
    try dsimp only
    refine ge_run (pc' := 16) (L' := [.ref 1638, .int x1, w_4, uV, uV, uV]) (S' := [.ref 1638]) 1 rfl ?_
    refine ge_cv rfl rfl rfl (t1638 s) rfl rfl rfl (D := 1) (Nat.le_trans (by decide) hd) (c_Mo_deadOnes (n := n) (u := u) (t := t) (i := i_3) (r := r) s ) ?_
    rintro v_12 -
    dsimp only [bkE, F_i0]
    refine ge_run (pc' := 20) (L' := [.ref 1638, .int x1, .int (v_12 - (1 : Int32)), uV, uV, uV]) (S' := []) 3 rfl ?_
    refine ge_bind (K1 := fun (q : MI) e => ∃ w_19 w_20 w_21 w_22 : Value, e = .inl (85, [.ref 1638, .int x1, w_19, w_20, w_21, w_22], [], (n, u, t, q, r))) (ge_itr (C := fun (q : Int32 × MI) e => ∃ w_15 w_16 w_17 : Value, e = .inl (20, [.ref 1638, .int x1, .int q.1, w_15, w_16, w_17], [], (n, u, t, q.2, r))) ?_ _ _ _ (Exists.intro _ (Exists.intro _ (Exists.intro _ rfl)))) ?_
    · rintro ⟨x2_13, i_14⟩ _ ⟨w_15, w_16, w_17, rfl⟩
      try dsimp only
      refine ge_run (pc' := 21) (L' := [.ref 1638, .int x1, .int x2_13, w_15, w_16, w_17]) (S' := [.int x2_13]) 1 rfl ?_
      refine ge_lt0 rfl (fun h_23 => ?_) (fun h_24 => ?_)
      · exact ge_leaf (K := kX _ _) (Exists.intro _ (Exists.intro _ (Exists.intro _ (Exists.intro _ rfl))))
      · refine ge_run (pc' := 24) (L' := [.ref 1638, .int x1, .int x2_13, .int (0 : Int32), w_16, w_17]) (S' := []) 2 rfl ?_
        refine ge_bind (K1 := fun (q : MI) e => ∃ w_30 w_31 w_32 : Value, e = .inl (83, [.ref 1638, .int x1, .int x2_13, w_30, w_31, w_32], [], (n, u, t, q, r))) (ge_itr (C := fun (q : Int32 × MI) e => ∃ w_27 w_28 : Value, e = .inl (24, [.ref 1638, .int x1, .int x2_13, .int q.1, w_27, w_28], [], (n, u, t, q.2, r))) ?_ _ _ _ (Exists.intro _ (Exists.intro _ rfl))) ?_
        · rintro ⟨x3_25, i_26⟩ _ ⟨w_27, w_28, rfl⟩
          try dsimp only
          refine ge_run (pc' := 26) (L' := [.ref 1638, .int x1, .int x2_13, .int x3_25, w_27, w_28]) (S' := [.int x1, .int x3_25]) 2 rfl ?_
          refine ge_gt rfl (fun h_33 => ?_) (fun h_34 => ?_)
          · exact ge_leaf (K := kX _ _) (Exists.intro _ (Exists.intro _ (Exists.intro _ rfl)))
          · refine ge_run (pc' := 32) (L' := [.ref 1638, .int x1, .int x2_13, .int x3_25, w_27, w_28]) (S' := [.int (x3_25 &&& (x1 ^^^ (-1 : Int32)))]) 5 rfl ?_
            refine ge_bind (K1 := fun (q : MI) e => ∃ w_36 w_37 : Value, e = .inl (81, [.ref 1638, .int x1, .int x2_13, .int x3_25, w_36, w_37], [], (n, u, t, q, r))) ?_ ?_
            · refine ge_eq0 rfl (fun h_38 => ?_) (fun h_61 => ?_)
              · refine ge_run (pc' := 38) (L' := [.ref 1638, .int x1, .int x2_13, .int x3_25, .int (0 : Int32), .int x3_25]) (S' := []) 4 rfl ?_
                refine ge_bind (K1 := fun (q : Int32) e => ∃ w_42 : Value, e = .inl (74, [.ref 1638, .int x1, .int x2_13, .int x3_25, .int q, w_42], [], (n, u, t, i_26, r))) (ge_itr (C := fun (q : Int32 × Int32) e => e = .inl (38, [.ref 1638, .int x1, .int x2_13, .int x3_25, .int q.1, .int q.2], [], (n, u, t, i_26, r))) ?_ _ _ _ rfl) ?_
                · rintro ⟨x4_39, x5_40⟩ _ rfl
                  try dsimp only
                  refine ge_run (pc' := 39) (L' := [.ref 1638, .int x1, .int x2_13, .int x3_25, .int x4_39, .int x5_40]) (S' := [.int x5_40]) 1 rfl ?_
                  refine ge_lt0 rfl (fun h_43 => ?_) (fun h_44 => ?_)
                  · exact ge_leaf (K := kX _ _) (Exists.intro _ rfl)
                  · refine ge_run (pc' := 43) (L' := [.ref 1638, .int x1, .int x2_13, .int x3_25, .int x4_39, .int x5_40]) (S' := [.int x5_40, .int x2_13, .ref 1638]) 3 rfl ?_
                    refine ge_cv rfl rfl rfl (t1638 s) rfl rfl rfl (D := 3) (Nat.le_trans (by decide) hd) (c_Mo_canSayAll (n := n) (u := u) (t := t) (i := i_26) (r := r) s x2_13 x5_40) ?_
                    rintro v_45 -
                    dsimp only [bkE, F_i0]
                    refine ge_bind (K1 := fun (q : Int32) e => e = .inl (63, [.ref 1638, .int x1, .int x2_13, .int x3_25, .int q, .int x5_40], [], (n, u, t, i_26, r))) ?_ ?_
                    · refine ge_eq0 rfl (fun h_47 => ?_) (fun h_48 => ?_)
                      · exact ge_leaf rfl
                      · refine ge_run (pc' := 47) (L' := [.ref 1638, .int x1, .int x2_13, .int x3_25, .int x4_39, .int x5_40]) (S' := [.int x5_40, .int x4_39]) 2 rfl ?_
                        refine ge_cs rfl rfl rfl rfl rfl rfl (D := 1) (Nat.le_trans (by decide) hd) (c_J_bitCount (n := n) (u := u) (t := t) (i := i_26) (r := r) s x5_40) ?_
                        rintro v_49 -
                        dsimp only [bkE, F_i0]
                        refine ge_run (pc' := 49) (L' := [.ref 1638, .int x1, .int x2_13, .int x3_25, .int x4_39, .int x5_40]) (S' := [.ref 1638, .int v_49, .int x4_39]) 1 rfl ?_
                        refine ge_getR (b := 1649) rfl (t1638 s) rfl (r1638_20 s) (Nat.le_of_ble_eq_true rfl) ?_
                        refine ge_run (pc' := 58) (L' := [.ref 1638, .int x1, .int x2_13, .int x3_25, .int x4_39, .int x5_40]) (S' := [.int (x3_25 &&& (x5_40 ^^^ (-1 : Int32))), .int (x2_13 + (1 : Int32)), .ref 1649, .int v_49, .int x4_39]) 8 rfl ?_
                        refine ge_cs rfl rfl rfl rfl rfl rfl (D := 1) (Nat.le_trans (by decide) hd) (c_Mo_putAt (n := n) (u := u) (t := t) (i := i_26) (r := r) s (x2_13 + (1 : Int32)) (x3_25 &&& (x5_40 ^^^ (-1 : Int32)))) ?_
                        rintro v_50 -
                        dsimp only [bkE, F_i0]
                        refine ge_grd (fun g_51 g_52 => ?_)
                        refine ge_iald (jn := (ix v_50)) rfl (t1649 s) ⟨g_51, rfl⟩ g_52 ?_
                        refine ge_run (pc' := 61) (L' := [.ref 1638, .int x1, .int x2_13, .int x3_25, .int x4_39, .int x5_40]) (S' := [.int (v_49 + (i_26 1649 (ix v_50))), .int x4_39]) 1 rfl ?_
                        refine ge_cs rfl rfl rfl rfl rfl rfl (D := 1) (Nat.le_trans (by decide) hd) (c_J_max (n := n) (u := u) (t := t) (i := i_26) (r := r) s x4_39 (v_49 + (i_26 1649 (ix v_50)))) ?_
                        rintro v_53 -
                        dsimp only [bkE, F_i0]
                        refine ge_run (pc' := 63) (L' := [.ref 1638, .int x1, .int x2_13, .int x3_25, .int v_53, .int x5_40]) (S' := []) 1 rfl ?_
                        exact ge_leaf rfl
                    · rintro x4_46 _ rfl
                      try dsimp only
                      refine ge_run (pc' := 64) (L' := [.ref 1638, .int x1, .int x2_13, .int x3_25, .int x4_46, .int x5_40]) (S' := [.int x5_40]) 1 rfl ?_
                      refine ge_bind (K1 := fun (q : Int32) e => e = .inl (72, [.ref 1638, .int x1, .int x2_13, .int x3_25, .int x4_46, .int x5_40], [.int q], (n, u, t, i_26, r))) ?_ ?_
                      · refine ge_ne0 rfl (fun h_55 => ?_) (fun h_56 => ?_)
                        · refine ge_run (pc' := 72) (L' := [.ref 1638, .int x1, .int x2_13, .int x3_25, .int x4_46, .int x5_40]) (S' := [.int (-1 : Int32)]) 2 rfl ?_
                          exact ge_leaf rfl
                        · refine ge_run (pc' := 72) (L' := [.ref 1638, .int x1, .int x2_13, .int x3_25, .int x4_46, .int x5_40]) (S' := [.int ((x5_40 - (1 : Int32)) &&& x3_25)]) 5 rfl ?_
                          exact ge_leaf rfl
                      · rintro y_54 _ rfl
                        try dsimp only
                        refine ge_run (pc' := 38) (L' := [.ref 1638, .int x1, .int x2_13, .int x3_25, .int x4_46, .int y_54]) (S' := []) 2 rfl ?_
                        exact ge_leaf (K := kX _ _) rfl
                · rintro x4_41 _ ⟨w_42, rfl⟩
                  try dsimp only
                  refine ge_run (pc' := 75) (L' := [.ref 1638, .int x1, .int x2_13, .int x3_25, .int x4_41, w_42]) (S' := [.ref 1638]) 1 rfl ?_
                  refine ge_getR (b := 1649) rfl (t1638 s) rfl (r1638_20 s) (Nat.le_of_ble_eq_true rfl) ?_
                  refine ge_run (pc' := 78) (L' := [.ref 1638, .int x1, .int x2_13, .int x3_25, .int x4_41, w_42]) (S' := [.int x3_25, .int x2_13, .ref 1649]) 2 rfl ?_
                  refine ge_cs rfl rfl rfl rfl rfl rfl (D := 1) (Nat.le_trans (by decide) hd) (c_Mo_putAt (n := n) (u := u) (t := t) (i := i_26) (r := r) s x2_13 x3_25) ?_
                  rintro v_57 -
                  dsimp only [bkE, F_i0]
                  refine ge_run (pc' := 80) (L' := [.ref 1638, .int x1, .int x2_13, .int x3_25, .int x4_41, w_42]) (S' := [.int x4_41, .int v_57, .ref 1649]) 1 rfl ?_
                  refine ge_grd (fun g_58 g_59 => ?_)
                  refine ge_iast (jn := (ix v_57)) rfl (t1649 s) (Nat.le_of_ble_eq_true rfl) ⟨g_58, rfl⟩ g_59 (fun i_60 => ?_)
                  exact ge_leaf (Exists.intro _ (Exists.intro _ rfl))
              · refine ge_run (pc' := 81) (L' := [.ref 1638, .int x1, .int x2_13, .int x3_25, w_27, w_28]) (S' := []) 1 rfl ?_
                exact ge_leaf (Exists.intro _ (Exists.intro _ rfl))
            · rintro i_35 _ ⟨w_36, w_37, rfl⟩
              try dsimp only
              refine ge_run (pc' := 24) (L' := [.ref 1638, .int x1, .int x2_13, .int (x3_25 + (1 : Int32)), w_36, w_37]) (S' := []) 2 rfl ?_
              exact ge_leaf (K := kX _ _) (Exists.intro _ (Exists.intro _ rfl))
        · rintro i_29 _ ⟨w_30, w_31, w_32, rfl⟩
          try dsimp only
          refine ge_run (pc' := 20) (L' := [.ref 1638, .int x1, .int (x2_13 + (-1 : Int32)), w_30, w_31, w_32]) (S' := []) 2 rfl ?_
          exact ge_leaf (K := kX _ _) (Exists.intro _ (Exists.intro _ (Exists.intro _ rfl)))
    · rintro i_18 _ ⟨w_19, w_20, w_21, w_22, rfl⟩
      try dsimp only
      refine ge_run (pc' := 86) (L' := [.ref 1638, .int x1, w_19, w_20, w_21, w_22]) (S' := [.ref 1638]) 1 rfl ?_
      refine ge_getR (b := 1649) rfl (t1638 s) rfl (r1638_20 s) (Nat.le_of_ble_eq_true rfl) ?_
      refine ge_run (pc' := 89) (L' := [.ref 1638, .int x1, w_19, w_20, w_21, w_22]) (S' := [.int x1, .int (0 : Int32), .ref 1649]) 2 rfl ?_
      refine ge_cs rfl rfl rfl rfl rfl rfl (D := 1) (Nat.le_trans (by decide) hd) (c_Mo_putAt (n := n) (u := u) (t := t) (i := i_18) (r := r) s (0 : Int32) x1) ?_
      rintro v_62 -
      dsimp only [bkE, F_i0]
      refine ge_grd (fun g_63 g_64 => ?_)
      refine ge_iald (jn := (ix v_62)) rfl (t1649 s) ⟨g_63, rfl⟩ g_64 ?_
      exact ge_ret rfl rfl (And.intro rfl trivial)
def f_Mo_whose (i : MI) (x1 : Int32) : Option (Int32 × MI) :=
  bnd (wr i 1638 0 (0 : Int32)) (fun i_1 => (if x1 = (-1 : Int32) then (some (0 : Int32)) else ((f_Mo_noFish i_1 x1).bind (fun v_5 => if v_5 = 0 then (some (0 : Int32)) else (some (1 : Int32)))) : Option (Int32)).bind (fun y_2 => (f_Mo_throwsIf i_1 y_2 (1 : Int32)).bind (fun (v_8, i_9) => if v_8 = 0 then ((itr (σ := Int32 × MI) (ρ := MI) (fun (x2_11, i_12) => if x2_11 < (6 : Int32) then ((f_Mo_deadOnes i_12).bind (fun v_16 => (if x2_11 < v_16 then ((f_Mo_ofDead i_12 x2_11 (1 : Int32)).bind (fun v_19 => some v_19)) else (some (0 : Int32)) : Option (Int32)).bind (fun y_17 => grd x2_11 6 (bnd (wr i_12 1650 (ix x2_11) y_17) (fun i_23 => some (.inl ((x2_11 + (1 : Int32)), i_23))))))) else (some (.inr i_12))) 1000000 ((0 : Int32), i_9)).bind (fun i_13 => (f_Mo_fishes i_13).bind (fun v_25 => (f_Mo_allThat i_13 (3 : Int32)).bind (fun v_26 => (f_Mo_mostOf i_13 (((shl (1 : Int32) v_25) - (1 : Int32)) &&& (v_26 ^^^ (-1 : Int32)))).bind (fun (v_27, i_28) => if x1 = (-1 : Int32) then (some (v_27, i_28)) else ((itr (σ := Int32 × Int32 × Int32 × Int32 × MI) (ρ := Int32 × MI) (fun (x2_31, x3_32, x4_33, x5_34, i_35) => if x1 < x5_34 then (some (.inr (x4_33, i_35))) else ((f_Mo_has x2_31 x5_34).bind (fun v_45 => (if v_45 = 0 then (some (x2_31, x3_32, (-1 : Int32), i_35)) else ((itr (σ := Int32 × Int32 × MI) (ρ := Int32 × MI) (fun (x4_53, x6_54, i_55) => (f_Mo_deadOnes i_55).bind (fun v_59 => if x6_54 < v_59 then (if x4_53 = (-1 : Int32) then ((f_Mo_ofDead i_55 x6_54 (0 : Int32)).bind (fun v_62 => (f_Mo_of i_55 x5_34 (0 : Int32)).bind (fun v_63 => (f_Mo_has v_62 v_63).bind (fun v_64 => (if v_64 = 0 then (some (x4_53, i_55)) else (grd x6_54 6 ((f_Mo_of i_55 x5_34 (1 : Int32)).bind (fun v_71 => if (i_55 1650 (ix x6_54)) < v_71 then (some (x4_53, i_55)) else ((f_Mo_of i_55 x5_34 (1 : Int32)).bind (fun v_74 => bnd (wr i_55 1650 (ix x6_54) ((i_55 1650 (ix x6_54)) - v_74)) (fun i_75 => (f_Mo_mostOf i_75 (x2_31 &&& ((shl (1 : Int32) x5_34) ^^^ (-1 : Int32)))).bind (fun (v_76, i_77) => if ((1 : Int32) + v_76) = x3_32 then (some (x6_54, i_77)) else ((f_Mo_of i_77 x5_34 (1 : Int32)).bind (fun v_80 => bnd (wr i_77 1650 (ix x6_54) ((i_77 1650 (ix x6_54)) + v_80)) (fun i_81 => some (x4_53, i_81))))))))))) : Option (Int32 × MI)).bind (fun (x4_65, i_66) => some (.inl (x4_65, (x6_54 + (1 : Int32)), i_66))))))) else (some (.inr (x4_53, i_55)))) else (some (.inr (x4_53, i_55))))) 1000000 ((-1 : Int32), (0 : Int32), i_35)).bind (fun (x4_56, i_57) => (if x4_56 = (-1 : Int32) then (some (0 : Int32)) else (some (1 : Int32)) : Option (Int32)).bind (fun y_84 => some ((x2_31 &&& ((shl (1 : Int32) x5_34) ^^^ (-1 : Int32))), (x3_32 - y_84), x4_56, i_57)))) : Option (Int32 × Int32 × Int32 × MI)).bind (fun (x2_46, x3_47, x4_48, i_49) => some (.inl (x2_46, x3_47, x4_48, (x5_34 + (1 : Int32)), i_49)))))) 1000000 ((((shl (1 : Int32) v_25) - (1 : Int32)) &&& (v_26 ^^^ (-1 : Int32))), v_27, (-1 : Int32), (0 : Int32), i_28)).bind (fun (x4_37, i_38) => some (x4_37, i_38)))))))) else (some ((0 : Int32), i_9)))))
set_option maxHeartbeats 4000000 in
theorem c_Mo_whose {n u : Nat} {t : MT} {i : MI} {r : MR} (s : Sh n t r) (x1 : Int32) : Cn 5 313 [.ref 1638, .int x1] (n, u, t, i, r) (f_Mo_whose i x1) (F_i1 n u t r) PT := by
  refine cn_of (Y := K_Mo_whose) (L0 := [.ref 1638, .int x1, uV, uV, uV, uV, uV]) rfl rfl rfl ?_
  intro d hd
  unfold f_Mo_whose
  refine ge_run (pc' := 2) (L' := [.ref 1638, .int x1, uV, uV, uV, uV, uV]) (S' := [.int (0 : Int32), .ref 1638]) 2 rfl ?_
  refine ge_putI rfl (t1638 s) (Nat.le_of_ble_eq_true rfl) rfl (fun i_1 => ?_)
  refine ge_run (pc' := 6) (L' := [.ref 1638, .int x1, uV, uV, uV, uV, uV]) (S' := [.int (-1 : Int32), .int x1, .ref 1638]) 3 rfl ?_
  refine ge_bind (K1 := fun (q : Int32) e => e = .inl (14, [.ref 1638, .int x1, uV, uV, uV, uV, uV], [.int q, .ref 1638], (n, u, t, i_1, r))) ?_ ?_
  · refine ge_eq rfl (fun h_3 => ?_) (fun h_4 => ?_)
    · refine ge_run (pc' := 14) (L' := [.ref 1638, .int x1, uV, uV, uV, uV, uV]) (S' := [.int (0 : Int32), .ref 1638]) 1 rfl ?_
      exact ge_leaf rfl
    · refine ge_run (pc' := 9) (L' := [.ref 1638, .int x1, uV, uV, uV, uV, uV]) (S' := [.int x1, .ref 1638, .ref 1638]) 2 rfl ?_
      refine ge_cv rfl rfl rfl (t1638 s) rfl rfl rfl (D := 2) (Nat.le_trans (by decide) hd) (c_Mo_noFish (n := n) (u := u) (t := t) (i := i_1) (r := r) s x1) ?_
      rintro v_5 -
      dsimp only [bkE, F_i0]
      refine ge_eq0 rfl (fun h_6 => ?_) (fun h_7 => ?_)
      · refine ge_run (pc' := 14) (L' := [.ref 1638, .int x1, uV, uV, uV, uV, uV]) (S' := [.int (0 : Int32), .ref 1638]) 1 rfl ?_
        exact ge_leaf rfl
      · refine ge_run (pc' := 14) (L' := [.ref 1638, .int x1, uV, uV, uV, uV, uV]) (S' := [.int (1 : Int32), .ref 1638]) 2 rfl ?_
        exact ge_leaf rfl
  · rintro y_2 _ rfl
    try dsimp only
    refine ge_run (pc' := 15) (L' := [.ref 1638, .int x1, uV, uV, uV, uV, uV]) (S' := [.int (1 : Int32), .int y_2, .ref 1638]) 1 rfl ?_
    refine ge_cv rfl rfl rfl (t1638 s) rfl rfl rfl (D := 1) (Nat.le_trans (by decide) hd) (c_Mo_throwsIf (n := n) (u := u) (t := t) (i := i_1) (r := r) s y_2 (1 : Int32)) ?_
    rintro ⟨v_8, i_9⟩ -
    dsimp only [bkE, F_i1]
    refine ge_eq0 rfl (fun h_10 => ?_) (fun h_87 => ?_)
    · refine ge_run (pc' := 21) (L' := [.ref 1638, .int x1, .int (0 : Int32), uV, uV, uV, uV]) (S' := []) 2 rfl ?_
      refine ge_bind (K1 := fun (q : MI) e => ∃ w_14 : Value, e = .inl (40, [.ref 1638, .int x1, w_14, uV, uV, uV, uV], [], (n, u, t, q, r))) (ge_itr (C := fun (q : Int32 × MI) e => e = .inl (21, [.ref 1638, .int x1, .int q.1, uV, uV, uV, uV], [], (n, u, t, q.2, r))) ?_ _ _ _ rfl) ?_
      · rintro ⟨x2_11, i_12⟩ _ rfl
        try dsimp only
        refine ge_run (pc' := 23) (L' := [.ref 1638, .int x1, .int x2_11, uV, uV, uV, uV]) (S' := [.int (6 : Int32), .int x2_11]) 2 rfl ?_
        refine ge_ge rfl (fun h_15 => ?_) (fun h_24 => ?_)
        · refine ge_run (pc' := 25) (L' := [.ref 1638, .int x1, .int x2_11, uV, uV, uV, uV]) (S' := [.ref 1638]) 1 rfl ?_
          refine ge_getR (b := 1650) rfl (t1638 s) rfl (r1638_21 s) (Nat.le_of_ble_eq_true rfl) ?_
          refine ge_run (pc' := 29) (L' := [.ref 1638, .int x1, .int x2_11, uV, uV, uV, uV]) (S' := [.ref 1638, .int x2_11, .int x2_11, .ref 1650]) 3 rfl ?_
          refine ge_cv rfl rfl rfl (t1638 s) rfl rfl rfl (D := 1) (Nat.le_trans (by decide) hd) (c_Mo_deadOnes (n := n) (u := u) (t := t) (i := i_12) (r := r) s ) ?_
          rintro v_16 -
          dsimp only [bkE, F_i0]
          refine ge_bind (K1 := fun (q : Int32) e => e = .inl (37, [.ref 1638, .int x1, .int x2_11, uV, uV, uV, uV], [.int q, .int x2_11, .ref 1650], (n, u, t, i_12, r))) ?_ ?_
          · refine ge_ge rfl (fun h_18 => ?_) (fun h_20 => ?_)
            · refine ge_run (pc' := 34) (L' := [.ref 1638, .int x1, .int x2_11, uV, uV, uV, uV]) (S' := [.int (1 : Int32), .int x2_11, .ref 1638, .int x2_11, .ref 1650]) 3 rfl ?_
              refine ge_cv rfl rfl rfl (t1638 s) rfl rfl rfl (D := 1) (Nat.le_trans (by decide) hd) (c_Mo_ofDead (n := n) (u := u) (t := t) (i := i_12) (r := r) s x2_11 (1 : Int32)) ?_
              rintro v_19 -
              dsimp only [bkE, F_i0]
              refine ge_run (pc' := 37) (L' := [.ref 1638, .int x1, .int x2_11, uV, uV, uV, uV]) (S' := [.int v_19, .int x2_11, .ref 1650]) 1 rfl ?_
              exact ge_leaf rfl
            · refine ge_run (pc' := 37) (L' := [.ref 1638, .int x1, .int x2_11, uV, uV, uV, uV]) (S' := [.int (0 : Int32), .int x2_11, .ref 1650]) 1 rfl ?_
              exact ge_leaf rfl
          · rintro y_17 _ rfl
            try dsimp only
            refine ge_grd (fun g_21 g_22 => ?_)
            refine ge_iast (jn := (ix x2_11)) rfl (t1650 s) (Nat.le_of_ble_eq_true rfl) ⟨g_21, rfl⟩ g_22 (fun i_23 => ?_)
            refine ge_run (pc' := 21) (L' := [.ref 1638, .int x1, .int (x2_11 + (1 : Int32)), uV, uV, uV, uV]) (S' := []) 2 rfl ?_
            exact ge_leaf (K := kX _ _) rfl
        · exact ge_leaf (K := kX _ _) (Exists.intro _ rfl)
      · rintro i_13 _ ⟨w_14, rfl⟩
        try dsimp only
        refine ge_run (pc' := 42) (L' := [.ref 1638, .int x1, w_14, uV, uV, uV, uV]) (S' := [.ref 1638, .int (1 : Int32)]) 2 rfl ?_
        refine ge_cv rfl rfl rfl (t1638 s) rfl rfl rfl (D := 1) (Nat.le_trans (by decide) hd) (c_Mo_fishes (n := n) (u := u) (t := t) (i := i_13) (r := r) s ) ?_
        rintro v_25 -
        dsimp only [bkE, F_i0]
        refine ge_run (pc' := 48) (L' := [.ref 1638, .int x1, w_14, uV, uV, uV, uV]) (S' := [.int (3 : Int32), .ref 1638, .int ((shl (1 : Int32) v_25) - (1 : Int32))]) 5 rfl ?_
        refine ge_cv rfl rfl rfl (t1638 s) rfl rfl rfl (D := 3) (Nat.le_trans (by decide) hd) (c_Mo_allThat (n := n) (u := u) (t := t) (i := i_13) (r := r) s (3 : Int32)) ?_
        rintro v_26 -
        dsimp only [bkE, F_i0]
        refine ge_run (pc' := 55) (L' := [.ref 1638, .int x1, .int (((shl (1 : Int32) v_25) - (1 : Int32)) &&& (v_26 ^^^ (-1 : Int32))), uV, uV, uV, uV]) (S' := [.int (((shl (1 : Int32) v_25) - (1 : Int32)) &&& (v_26 ^^^ (-1 : Int32))), .ref 1638]) 6 rfl ?_
        refine ge_cv rfl rfl rfl (t1638 s) rfl rfl rfl (D := 4) (Nat.le_trans (by decide) hd) (c_Mo_mostOf (n := n) (u := u) (t := t) (i := i_13) (r := r) s (((shl (1 : Int32) v_25) - (1 : Int32)) &&& (v_26 ^^^ (-1 : Int32)))) ?_
        rintro ⟨v_27, i_28⟩ -
        dsimp only [bkE, F_i1]
        refine ge_run (pc' := 59) (L' := [.ref 1638, .int x1, .int (((shl (1 : Int32) v_25) - (1 : Int32)) &&& (v_26 ^^^ (-1 : Int32))), .int v_27, uV, uV, uV]) (S' := [.int (-1 : Int32), .int x1]) 3 rfl ?_
        refine ge_ne rfl (fun h_29 => ?_) (fun h_30 => ?_)
        · refine ge_run (pc' := 61) (L' := [.ref 1638, .int x1, .int (((shl (1 : Int32) v_25) - (1 : Int32)) &&& (v_26 ^^^ (-1 : Int32))), .int v_27, uV, uV, uV]) (S' := [.int v_27]) 1 rfl ?_
          exact ge_ret rfl rfl (And.intro rfl trivial)
        · refine ge_run (pc' := 66) (L' := [.ref 1638, .int x1, .int (((shl (1 : Int32) v_25) - (1 : Int32)) &&& (v_26 ^^^ (-1 : Int32))), .int v_27, .int (-1 : Int32), .int (0 : Int32), uV]) (S' := []) 4 rfl ?_
          refine ge_bind (K1 := fun (q : Int32 × MI) e => ∃ w_39 w_40 w_41 w_42 : Value, e = .inl (158, [.ref 1638, .int x1, w_39, w_40, .int q.1, w_41, w_42], [], (n, u, t, q.2, r))) (ge_itr (C := fun (q : Int32 × Int32 × Int32 × Int32 × MI) e => ∃ w_36 : Value, e = .inl (66, [.ref 1638, .int x1, .int q.1, .int q.2.1, .int q.2.2.1, .int q.2.2.2.1, w_36], [], (n, u, t, q.2.2.2.2, r))) ?_ _ _ _ (Exists.intro _ rfl)) ?_
          · rintro ⟨x2_31, x3_32, x4_33, x5_34, i_35⟩ _ ⟨w_36, rfl⟩
            try dsimp only
            refine ge_run (pc' := 68) (L' := [.ref 1638, .int x1, .int x2_31, .int x3_32, .int x4_33, .int x5_34, w_36]) (S' := [.int x1, .int x5_34]) 2 rfl ?_
            refine ge_gt rfl (fun h_43 => ?_) (fun h_44 => ?_)
            · exact ge_leaf (K := kX _ _) (Exists.intro _ (Exists.intro _ (Exists.intro _ (Exists.intro _ rfl))))
            · refine ge_run (pc' := 73) (L' := [.ref 1638, .int x1, .int x2_31, .int x3_32, .int (-1 : Int32), .int x5_34, w_36]) (S' := [.int x5_34, .int x2_31]) 4 rfl ?_
              refine ge_cs rfl rfl rfl rfl rfl rfl (D := 1) (Nat.le_trans (by decide) hd) (c_Mo_has (n := n) (u := u) (t := t) (i := i_35) (r := r) s x2_31 x5_34) ?_
              rintro v_45 -
              dsimp only [bkE, F_i0]
              refine ge_bind (K1 := fun (q : Int32 × Int32 × Int32 × MI) e => ∃ w_50 : Value, e = .inl (156, [.ref 1638, .int x1, .int q.1, .int q.2.1, .int q.2.2.1, .int x5_34, w_50], [], (n, u, t, q.2.2.2, r))) ?_ ?_
              · refine ge_ne0 rfl (fun h_51 => ?_) (fun h_52 => ?_)
                · refine ge_run (pc' := 156) (L' := [.ref 1638, .int x1, .int x2_31, .int x3_32, .int (-1 : Int32), .int x5_34, w_36]) (S' := []) 1 rfl ?_
                  exact ge_leaf (Exists.intro _ rfl)
                · refine ge_run (pc' := 86) (L' := [.ref 1638, .int x1, .int (x2_31 &&& ((shl (1 : Int32) x5_34) ^^^ (-1 : Int32))), .int x3_32, .int (-1 : Int32), .int x5_34, .int (0 : Int32)]) (S' := []) 10 rfl ?_
                  refine ge_bind (K1 := fun (q : Int32 × MI) e => ∃ w_58 : Value, e = .inl (147, [.ref 1638, .int x1, .int (x2_31 &&& ((shl (1 : Int32) x5_34) ^^^ (-1 : Int32))), .int x3_32, .int q.1, .int x5_34, w_58], [], (n, u, t, q.2, r))) (ge_itr (C := fun (q : Int32 × Int32 × MI) e => e = .inl (86, [.ref 1638, .int x1, .int (x2_31 &&& ((shl (1 : Int32) x5_34) ^^^ (-1 : Int32))), .int x3_32, .int q.1, .int x5_34, .int q.2.1], [], (n, u, t, q.2.2, r))) ?_ _ _ _ rfl) ?_
                  · rintro ⟨x4_53, x6_54, i_55⟩ _ rfl
                    try dsimp only
                    refine ge_run (pc' := 88) (L' := [.ref 1638, .int x1, .int (x2_31 &&& ((shl (1 : Int32) x5_34) ^^^ (-1 : Int32))), .int x3_32, .int x4_53, .int x5_34, .int x6_54]) (S' := [.ref 1638, .int x6_54]) 2 rfl ?_
                    refine ge_cv rfl rfl rfl (t1638 s) rfl rfl rfl (D := 1) (Nat.le_trans (by decide) hd) (c_Mo_deadOnes (n := n) (u := u) (t := t) (i := i_55) (r := r) s ) ?_
                    rintro v_59 -
                    dsimp only [bkE, F_i0]
                    refine ge_ge rfl (fun h_60 => ?_) (fun h_83 => ?_)
                    · refine ge_run (pc' := 92) (L' := [.ref 1638, .int x1, .int (x2_31 &&& ((shl (1 : Int32) x5_34) ^^^ (-1 : Int32))), .int x3_32, .int x4_53, .int x5_34, .int x6_54]) (S' := [.int (-1 : Int32), .int x4_53]) 2 rfl ?_
                      refine ge_ne rfl (fun h_61 => ?_) (fun h_82 => ?_)
                      · refine ge_run (pc' := 96) (L' := [.ref 1638, .int x1, .int (x2_31 &&& ((shl (1 : Int32) x5_34) ^^^ (-1 : Int32))), .int x3_32, .int x4_53, .int x5_34, .int x6_54]) (S' := [.int (0 : Int32), .int x6_54, .ref 1638]) 3 rfl ?_
                        refine ge_cv rfl rfl rfl (t1638 s) rfl rfl rfl (D := 1) (Nat.le_trans (by decide) hd) (c_Mo_ofDead (n := n) (u := u) (t := t) (i := i_55) (r := r) s x6_54 (0 : Int32)) ?_
                        rintro v_62 -
                        dsimp only [bkE, F_i0]
                        refine ge_run (pc' := 100) (L' := [.ref 1638, .int x1, .int (x2_31 &&& ((shl (1 : Int32) x5_34) ^^^ (-1 : Int32))), .int x3_32, .int x4_53, .int x5_34, .int x6_54]) (S' := [.int (0 : Int32), .int x5_34, .ref 1638, .int v_62]) 3 rfl ?_
                        refine ge_cv rfl rfl rfl (t1638 s) rfl rfl rfl (D := 2) (Nat.le_trans (by decide) hd) (c_Mo_of (n := n) (u := u) (t := t) (i := i_55) (r := r) s x5_34 (0 : Int32)) ?_
                        rintro v_63 -
                        dsimp only [bkE, F_i0]
                        refine ge_cs rfl rfl rfl rfl rfl rfl (D := 1) (Nat.le_trans (by decide) hd) (c_Mo_has (n := n) (u := u) (t := t) (i := i_55) (r := r) s v_62 v_63) ?_
                        rintro v_64 -
                        dsimp only [bkE, F_i0]
                        refine ge_bind (K1 := fun (q : Int32 × MI) e => e = .inl (145, [.ref 1638, .int x1, .int (x2_31 &&& ((shl (1 : Int32) x5_34) ^^^ (-1 : Int32))), .int x3_32, .int q.1, .int x5_34, .int x6_54], [], (n, u, t, q.2, r))) ?_ ?_
                        · refine ge_eq0 rfl (fun h_67 => ?_) (fun h_68 => ?_)
                          · exact ge_leaf rfl
                          · refine ge_run (pc' := 104) (L' := [.ref 1638, .int x1, .int (x2_31 &&& ((shl (1 : Int32) x5_34) ^^^ (-1 : Int32))), .int x3_32, .int x4_53, .int x5_34, .int x6_54]) (S' := [.ref 1638]) 1 rfl ?_
                            refine ge_getR (b := 1650) rfl (t1638 s) rfl (r1638_21 s) (Nat.le_of_ble_eq_true rfl) ?_
                            refine ge_run (pc' := 106) (L' := [.ref 1638, .int x1, .int (x2_31 &&& ((shl (1 : Int32) x5_34) ^^^ (-1 : Int32))), .int x3_32, .int x4_53, .int x5_34, .int x6_54]) (S' := [.int x6_54, .ref 1650]) 1 rfl ?_
                            refine ge_grd (fun g_69 g_70 => ?_)
                            refine ge_iald (jn := (ix x6_54)) rfl (t1650 s) ⟨g_69, rfl⟩ g_70 ?_
                            refine ge_run (pc' := 110) (L' := [.ref 1638, .int x1, .int (x2_31 &&& ((shl (1 : Int32) x5_34) ^^^ (-1 : Int32))), .int x3_32, .int x4_53, .int x5_34, .int x6_54]) (S' := [.int (1 : Int32), .int x5_34, .ref 1638, .int (i_55 1650 (ix x6_54))]) 3 rfl ?_
                            refine ge_cv rfl rfl rfl (t1638 s) rfl rfl rfl (D := 2) (Nat.le_trans (by decide) hd) (c_Mo_of (n := n) (u := u) (t := t) (i := i_55) (r := r) s x5_34 (1 : Int32)) ?_
                            rintro v_71 -
                            dsimp only [bkE, F_i0]
                            refine ge_ge rfl (fun h_72 => ?_) (fun h_73 => ?_)
                            · refine ge_run (pc' := 145) (L' := [.ref 1638, .int x1, .int (x2_31 &&& ((shl (1 : Int32) x5_34) ^^^ (-1 : Int32))), .int x3_32, .int x4_53, .int x5_34, .int x6_54]) (S' := []) 1 rfl ?_
                              exact ge_leaf rfl
                            · refine ge_run (pc' := 114) (L' := [.ref 1638, .int x1, .int (x2_31 &&& ((shl (1 : Int32) x5_34) ^^^ (-1 : Int32))), .int x3_32, .int x4_53, .int x5_34, .int x6_54]) (S' := [.ref 1638]) 1 rfl ?_
                              refine ge_getR (b := 1650) rfl (t1638 s) rfl (r1638_21 s) (Nat.le_of_ble_eq_true rfl) ?_
                              refine ge_run (pc' := 117) (L' := [.ref 1638, .int x1, .int (x2_31 &&& ((shl (1 : Int32) x5_34) ^^^ (-1 : Int32))), .int x3_32, .int x4_53, .int x5_34, .int x6_54]) (S' := [.int x6_54, .ref 1650, .int x6_54, .ref 1650]) 2 rfl ?_
                              refine ge_iald (jn := (ix x6_54)) rfl (t1650 s) ⟨g_69, rfl⟩ g_70 ?_
                              refine ge_run (pc' := 121) (L' := [.ref 1638, .int x1, .int (x2_31 &&& ((shl (1 : Int32) x5_34) ^^^ (-1 : Int32))), .int x3_32, .int x4_53, .int x5_34, .int x6_54]) (S' := [.int (1 : Int32), .int x5_34, .ref 1638, .int (i_55 1650 (ix x6_54)), .int x6_54, .ref 1650]) 3 rfl ?_
                              refine ge_cv rfl rfl rfl (t1638 s) rfl rfl rfl (D := 2) (Nat.le_trans (by decide) hd) (c_Mo_of (n := n) (u := u) (t := t) (i := i_55) (r := r) s x5_34 (1 : Int32)) ?_
                              rintro v_74 -
                              dsimp only [bkE, F_i0]
                              refine ge_run (pc' := 123) (L' := [.ref 1638, .int x1, .int (x2_31 &&& ((shl (1 : Int32) x5_34) ^^^ (-1 : Int32))), .int x3_32, .int x4_53, .int x5_34, .int x6_54]) (S' := [.int ((i_55 1650 (ix x6_54)) - v_74), .int x6_54, .ref 1650]) 1 rfl ?_
                              refine ge_iast (jn := (ix x6_54)) rfl (t1650 s) (Nat.le_of_ble_eq_true rfl) ⟨g_69, rfl⟩ g_70 (fun i_75 => ?_)
                              refine ge_run (pc' := 127) (L' := [.ref 1638, .int x1, .int (x2_31 &&& ((shl (1 : Int32) x5_34) ^^^ (-1 : Int32))), .int x3_32, .int x4_53, .int x5_34, .int x6_54]) (S' := [.int (x2_31 &&& ((shl (1 : Int32) x5_34) ^^^ (-1 : Int32))), .ref 1638, .int (1 : Int32)]) 3 rfl ?_
                              refine ge_cv rfl rfl rfl (t1638 s) rfl rfl rfl (D := 4) (Nat.le_trans (by decide) hd) (c_Mo_mostOf (n := n) (u := u) (t := t) (i := i_75) (r := r) s (x2_31 &&& ((shl (1 : Int32) x5_34) ^^^ (-1 : Int32)))) ?_
                              rintro ⟨v_76, i_77⟩ -
                              dsimp only [bkE, F_i1]
                              refine ge_run (pc' := 130) (L' := [.ref 1638, .int x1, .int (x2_31 &&& ((shl (1 : Int32) x5_34) ^^^ (-1 : Int32))), .int x3_32, .int x4_53, .int x5_34, .int x6_54]) (S' := [.int x3_32, .int ((1 : Int32) + v_76)]) 2 rfl ?_
                              refine ge_ne rfl (fun h_78 => ?_) (fun h_79 => ?_)
                              · refine ge_run (pc' := 145) (L' := [.ref 1638, .int x1, .int (x2_31 &&& ((shl (1 : Int32) x5_34) ^^^ (-1 : Int32))), .int x3_32, .int x6_54, .int x5_34, .int x6_54]) (S' := []) 3 rfl ?_
                                exact ge_leaf rfl
                              · refine ge_run (pc' := 135) (L' := [.ref 1638, .int x1, .int (x2_31 &&& ((shl (1 : Int32) x5_34) ^^^ (-1 : Int32))), .int x3_32, .int x4_53, .int x5_34, .int x6_54]) (S' := [.ref 1638]) 1 rfl ?_
                                refine ge_getR (b := 1650) rfl (t1638 s) rfl (r1638_21 s) (Nat.le_of_ble_eq_true rfl) ?_
                                refine ge_run (pc' := 138) (L' := [.ref 1638, .int x1, .int (x2_31 &&& ((shl (1 : Int32) x5_34) ^^^ (-1 : Int32))), .int x3_32, .int x4_53, .int x5_34, .int x6_54]) (S' := [.int x6_54, .ref 1650, .int x6_54, .ref 1650]) 2 rfl ?_
                                refine ge_iald (jn := (ix x6_54)) rfl (t1650 s) ⟨g_69, rfl⟩ g_70 ?_
                                refine ge_run (pc' := 142) (L' := [.ref 1638, .int x1, .int (x2_31 &&& ((shl (1 : Int32) x5_34) ^^^ (-1 : Int32))), .int x3_32, .int x4_53, .int x5_34, .int x6_54]) (S' := [.int (1 : Int32), .int x5_34, .ref 1638, .int (i_77 1650 (ix x6_54)), .int x6_54, .ref 1650]) 3 rfl ?_
                                refine ge_cv rfl rfl rfl (t1638 s) rfl rfl rfl (D := 2) (Nat.le_trans (by decide) hd) (c_Mo_of (n := n) (u := u) (t := t) (i := i_77) (r := r) s x5_34 (1 : Int32)) ?_
                                rintro v_80 -
                                dsimp only [bkE, F_i0]
                                refine ge_run (pc' := 144) (L' := [.ref 1638, .int x1, .int (x2_31 &&& ((shl (1 : Int32) x5_34) ^^^ (-1 : Int32))), .int x3_32, .int x4_53, .int x5_34, .int x6_54]) (S' := [.int ((i_77 1650 (ix x6_54)) + v_80), .int x6_54, .ref 1650]) 1 rfl ?_
                                refine ge_iast (jn := (ix x6_54)) rfl (t1650 s) (Nat.le_of_ble_eq_true rfl) ⟨g_69, rfl⟩ g_70 (fun i_81 => ?_)
                                exact ge_leaf rfl
                        · rintro ⟨x4_65, i_66⟩ _ rfl
                          try dsimp only
                          refine ge_run (pc' := 86) (L' := [.ref 1638, .int x1, .int (x2_31 &&& ((shl (1 : Int32) x5_34) ^^^ (-1 : Int32))), .int x3_32, .int x4_65, .int x5_34, .int (x6_54 + (1 : Int32))]) (S' := []) 2 rfl ?_
                          exact ge_leaf (K := kX _ _) rfl
                      · exact ge_leaf (K := kX _ _) (Exists.intro _ rfl)
                    · exact ge_leaf (K := kX _ _) (Exists.intro _ rfl)
                  · rintro ⟨x4_56, i_57⟩ _ ⟨w_58, rfl⟩
                    try dsimp only
                    refine ge_run (pc' := 150) (L' := [.ref 1638, .int x1, .int (x2_31 &&& ((shl (1 : Int32) x5_34) ^^^ (-1 : Int32))), .int x3_32, .int x4_56, .int x5_34, w_58]) (S' := [.int (-1 : Int32), .int x4_56, .int x3_32]) 3 rfl ?_
                    refine ge_bind (K1 := fun (q : Int32) e => e = .inl (154, [.ref 1638, .int x1, .int (x2_31 &&& ((shl (1 : Int32) x5_34) ^^^ (-1 : Int32))), .int x3_32, .int x4_56, .int x5_34, w_58], [.int q, .int x3_32], (n, u, t, i_57, r))) ?_ ?_
                    · refine ge_ne rfl (fun h_85 => ?_) (fun h_86 => ?_)
                      · refine ge_run (pc' := 154) (L' := [.ref 1638, .int x1, .int (x2_31 &&& ((shl (1 : Int32) x5_34) ^^^ (-1 : Int32))), .int x3_32, .int x4_56, .int x5_34, w_58]) (S' := [.int (0 : Int32), .int x3_32]) 2 rfl ?_
                        exact ge_leaf rfl
                      · refine ge_run (pc' := 154) (L' := [.ref 1638, .int x1, .int (x2_31 &&& ((shl (1 : Int32) x5_34) ^^^ (-1 : Int32))), .int x3_32, .int x4_56, .int x5_34, w_58]) (S' := [.int (1 : Int32), .int x3_32]) 1 rfl ?_
                        exact ge_leaf rfl
                    · rintro y_84 _ rfl
                      try dsimp only
                      refine ge_run (pc' := 156) (L' := [.ref 1638, .int x1, .int (x2_31 &&& ((shl (1 : Int32) x5_34) ^^^ (-1 : Int32))), .int (x3_32 - y_84), .int x4_56, .int x5_34, w_58]) (S' := []) 2 rfl ?_
                      exact ge_leaf (Exists.intro _ rfl)
              · rintro ⟨x2_46, x3_47, x4_48, i_49⟩ _ ⟨w_50, rfl⟩
                try dsimp only
                refine ge_run (pc' := 66) (L' := [.ref 1638, .int x1, .int x2_46, .int x3_47, .int x4_48, .int (x5_34 + (1 : Int32)), w_50]) (S' := []) 2 rfl ?_
                exact ge_leaf (K := kX _ _) (Exists.intro _ rfl)
          · rintro ⟨x4_37, i_38⟩ _ ⟨w_39, w_40, w_41, w_42, rfl⟩
            try dsimp only
            refine ge_run (pc' := 159) (L' := [.ref 1638, .int x1, w_39, w_40, .int x4_37, w_41, w_42]) (S' := [.int x4_37]) 1 rfl ?_
            exact ge_ret rfl rfl (And.intro rfl trivial)
    · refine ge_run (pc' := 18) (L' := [.ref 1638, .int x1, uV, uV, uV, uV, uV]) (S' := [.int (0 : Int32)]) 1 rfl ?_
      exact ge_ret rfl rfl (And.intro rfl trivial)
def f_Mo_noSize (x0 : Int32) : Option (Int32) :=
  (f_Mo_in x0 (0 : Int32) (99 : Int32)).bind (fun v_1 => if v_1 = 0 then (some ((1 : Int32))) else (some ((0 : Int32))))
set_option maxHeartbeats 4000000 in
theorem c_Mo_noSize {n u : Nat} {t : MT} {i : MI} {r : MR} (s : Sh n t r) (x0 : Int32) : Cn 2 314 [.int x0] (n, u, t, i, r) (f_Mo_noSize  x0) (F_i0 n u t i r) PT := by
  refine cn_of (Y := K_Mo_noSize) (L0 := [.int x0]) rfl rfl rfl ?_
  intro d hd
  unfold f_Mo_noSize
  refine ge_run (pc' := 3) (L' := [.int x0]) (S' := [.int (99 : Int32), .int (0 : Int32), .int x0]) 3 rfl ?_
  refine ge_cs rfl rfl rfl rfl rfl rfl (D := 1) (Nat.le_trans (by decide) hd) (c_Mo_in (n := n) (u := u) (t := t) (i := i) (r := r) s x0 (0 : Int32) (99 : Int32)) ?_
  rintro v_1 -
  dsimp only [bkE, F_i0]
  refine ge_ne0 rfl (fun h_2 => ?_) (fun h_3 => ?_)
  · refine ge_run (pc' := 8) (L' := [.int x0]) (S' := [.int (1 : Int32)]) 2 rfl ?_
    exact ge_retz rfl rfl (Or.inr rfl) (And.intro rfl trivial)
  · refine ge_run (pc' := 8) (L' := [.int x0]) (S' := [.int (0 : Int32)]) 1 rfl ?_
    exact ge_retz rfl rfl (Or.inl rfl) (And.intro rfl trivial)
def f_Mo_parted (i : MI) (x1 : Int32) : Option (Int32 × MI) :=
  bnd (wr i 1638 0 (0 : Int32)) (fun i_1 => (f_Mo_noSize x1).bind (fun v_2 => (f_Mo_throwsIf i_1 v_2 (1 : Int32)).bind (fun (v_3, i_4) => if v_3 = 0 then ((itr (σ := Int32 × MI) (ρ := MI) (fun (x2_6, i_7) => if (99 : Int32) < x2_6 then (some (.inr i_7)) else ((if x2_6 = 0 then (some (1 : Int32)) else (some (0 : Int32)) : Option (Int32)).bind (fun y_12 => grd x2_6 100 (bnd (wr i_7 1651 (ix x2_6) y_12) (fun i_17 => some (.inl ((x2_6 + (1 : Int32)), i_17))))))) 1000000 ((0 : Int32), i_4)).bind (fun i_8 => (itr (σ := Int32 × MI) (ρ := MI) (fun (x2_18, i_19) => (f_Mo_deadOnes i_19).bind (fun v_28 => if x2_18 < v_28 then ((itr (σ := Int32 × MI) (ρ := MI) (fun (x3_30, i_31) => if x3_30 < 0 then (some (.inr i_31)) else ((itr (σ := Int32 × Int32) (ρ := Int32) (fun (x4_40, x5_41) => (f_Mo_ofDead i_31 x2_18 (1 : Int32)).bind (fun v_44 => (f_J_min x3_30 v_44).bind (fun v_45 => if v_45 < x5_41 then (some (.inr x4_40)) else (grd (x3_30 - x5_41) 100 (some (.inl ((x4_40 + (i_31 1651 (ix (x3_30 - x5_41)))), (x5_41 + (1 : Int32))))))))) 1000000 ((0 : Int32), (0 : Int32))).bind (fun x4_42 => grd x3_30 100 (bnd (wr i_31 1651 (ix x3_30) x4_42) (fun i_52 => some (.inl ((x3_30 + (-1 : Int32)), i_52))))))) 1000000 ((99 : Int32), i_19)).bind (fun i_34 => some (.inl ((x2_18 + (1 : Int32)), i_34)))) else (some (.inr i_19)))) 1000000 ((0 : Int32), i_8)).bind (fun i_23 => grd x1 100 (some ((i_23 1651 (ix x1)), i_23))))) else (some ((0 : Int32), i_4)))))
set_option maxHeartbeats 4000000 in
theorem c_Mo_parted {n u : Nat} {t : MT} {i : MI} {r : MR} (s : Sh n t r) (x1 : Int32) : Cn 3 315 [.ref 1638, .int x1] (n, u, t, i, r) (f_Mo_parted i x1) (F_i1 n u t r) PT := by
  refine cn_of (Y := K_Mo_parted) (L0 := [.ref 1638, .int x1, uV, uV, uV, uV]) rfl rfl rfl ?_
  intro d hd
  unfold f_Mo_parted
  refine ge_run (pc' := 2) (L' := [.ref 1638, .int x1, uV, uV, uV, uV]) (S' := [.int (0 : Int32), .ref 1638]) 2 rfl ?_
  refine ge_putI rfl (t1638 s) (Nat.le_of_ble_eq_true rfl) rfl (fun i_1 => ?_)
  refine ge_run (pc' := 5) (L' := [.ref 1638, .int x1, uV, uV, uV, uV]) (S' := [.int x1, .ref 1638]) 2 rfl ?_
  refine ge_cs rfl rfl rfl rfl rfl rfl (D := 2) (Nat.le_trans (by decide) hd) (c_Mo_noSize (n := n) (u := u) (t := t) (i := i_1) (r := r) s x1) ?_
  rintro v_2 -
  dsimp only [bkE, F_i0]
  refine ge_run (pc' := 7) (L' := [.ref 1638, .int x1, uV, uV, uV, uV]) (S' := [.int (1 : Int32), .int v_2, .ref 1638]) 1 rfl ?_
  refine ge_cv rfl rfl rfl (t1638 s) rfl rfl rfl (D := 1) (Nat.le_trans (by decide) hd) (c_Mo_throwsIf (n := n) (u := u) (t := t) (i := i_1) (r := r) s v_2 (1 : Int32)) ?_
  rintro ⟨v_3, i_4⟩ -
  dsimp only [bkE, F_i1]
  refine ge_eq0 rfl (fun h_5 => ?_) (fun h_56 => ?_)
  · refine ge_run (pc' := 13) (L' := [.ref 1638, .int x1, .int (0 : Int32), uV, uV, uV]) (S' := []) 2 rfl ?_
    refine ge_bind (K1 := fun (q : MI) e => ∃ w_9 : Value, e = .inl (27, [.ref 1638, .int x1, w_9, uV, uV, uV], [], (n, u, t, q, r))) (ge_itr (C := fun (q : Int32 × MI) e => e = .inl (13, [.ref 1638, .int x1, .int q.1, uV, uV, uV], [], (n, u, t, q.2, r))) ?_ _ _ _ rfl) ?_
    · rintro ⟨x2_6, i_7⟩ _ rfl
      try dsimp only
      refine ge_run (pc' := 15) (L' := [.ref 1638, .int x1, .int x2_6, uV, uV, uV]) (S' := [.int (99 : Int32), .int x2_6]) 2 rfl ?_
      refine ge_gt rfl (fun h_10 => ?_) (fun h_11 => ?_)
      · exact ge_leaf (K := kX _ _) (Exists.intro _ rfl)
      · refine ge_run (pc' := 17) (L' := [.ref 1638, .int x1, .int x2_6, uV, uV, uV]) (S' := [.ref 1638]) 1 rfl ?_
        refine ge_getR (b := 1651) rfl (t1638 s) rfl (r1638_22 s) (Nat.le_of_ble_eq_true rfl) ?_
        refine ge_run (pc' := 20) (L' := [.ref 1638, .int x1, .int x2_6, uV, uV, uV]) (S' := [.int x2_6, .int x2_6, .ref 1651]) 2 rfl ?_
        refine ge_bind (K1 := fun (q : Int32) e => e = .inl (24, [.ref 1638, .int x1, .int x2_6, uV, uV, uV], [.int q, .int x2_6, .ref 1651], (n, u, t, i_7, r))) ?_ ?_
        · refine ge_ne0 rfl (fun h_13 => ?_) (fun h_14 => ?_)
          · refine ge_run (pc' := 24) (L' := [.ref 1638, .int x1, .int x2_6, uV, uV, uV]) (S' := [.int (1 : Int32), .int x2_6, .ref 1651]) 2 rfl ?_
            exact ge_leaf rfl
          · refine ge_run (pc' := 24) (L' := [.ref 1638, .int x1, .int x2_6, uV, uV, uV]) (S' := [.int (0 : Int32), .int x2_6, .ref 1651]) 1 rfl ?_
            exact ge_leaf rfl
        · rintro y_12 _ rfl
          try dsimp only
          refine ge_grd (fun g_15 g_16 => ?_)
          refine ge_iast (jn := (ix x2_6)) rfl (t1651 s) (Nat.le_of_ble_eq_true rfl) ⟨g_15, rfl⟩ g_16 (fun i_17 => ?_)
          refine ge_run (pc' := 13) (L' := [.ref 1638, .int x1, .int (x2_6 + (1 : Int32)), uV, uV, uV]) (S' := []) 2 rfl ?_
          exact ge_leaf (K := kX _ _) rfl
    · rintro i_8 _ ⟨w_9, rfl⟩
      try dsimp only
      refine ge_run (pc' := 29) (L' := [.ref 1638, .int x1, .int (0 : Int32), uV, uV, uV]) (S' := []) 2 rfl ?_
      refine ge_bind (K1 := fun (q : MI) e => ∃ w_24 w_25 w_26 w_27 : Value, e = .inl (69, [.ref 1638, .int x1, w_24, w_25, w_26, w_27], [], (n, u, t, q, r))) (ge_itr (C := fun (q : Int32 × MI) e => ∃ w_20 w_21 w_22 : Value, e = .inl (29, [.ref 1638, .int x1, .int q.1, w_20, w_21, w_22], [], (n, u, t, q.2, r))) ?_ _ _ _ (Exists.intro _ (Exists.intro _ (Exists.intro _ rfl)))) ?_
      · rintro ⟨x2_18, i_19⟩ _ ⟨w_20, w_21, w_22, rfl⟩
        try dsimp only
        refine ge_run (pc' := 31) (L' := [.ref 1638, .int x1, .int x2_18, w_20, w_21, w_22]) (S' := [.ref 1638, .int x2_18]) 2 rfl ?_
        refine ge_cv rfl rfl rfl (t1638 s) rfl rfl rfl (D := 1) (Nat.le_trans (by decide) hd) (c_Mo_deadOnes (n := n) (u := u) (t := t) (i := i_19) (r := r) s ) ?_
        rintro v_28 -
        dsimp only [bkE, F_i0]
        refine ge_ge rfl (fun h_29 => ?_) (fun h_53 => ?_)
        · refine ge_run (pc' := 35) (L' := [.ref 1638, .int x1, .int x2_18, .int (99 : Int32), w_21, w_22]) (S' := []) 2 rfl ?_
          refine ge_bind (K1 := fun (q : MI) e => ∃ w_35 w_36 w_37 : Value, e = .inl (67, [.ref 1638, .int x1, .int x2_18, w_35, w_36, w_37], [], (n, u, t, q, r))) (ge_itr (C := fun (q : Int32 × MI) e => ∃ w_32 w_33 : Value, e = .inl (35, [.ref 1638, .int x1, .int x2_18, .int q.1, w_32, w_33], [], (n, u, t, q.2, r))) ?_ _ _ _ (Exists.intro _ (Exists.intro _ rfl))) ?_
          · rintro ⟨x3_30, i_31⟩ _ ⟨w_32, w_33, rfl⟩
            try dsimp only
            refine ge_run (pc' := 36) (L' := [.ref 1638, .int x1, .int x2_18, .int x3_30, w_32, w_33]) (S' := [.int x3_30]) 1 rfl ?_
            refine ge_lt0 rfl (fun h_38 => ?_) (fun h_39 => ?_)
            · exact ge_leaf (K := kX _ _) (Exists.intro _ (Exists.intro _ (Exists.intro _ rfl)))
            · refine ge_run (pc' := 41) (L' := [.ref 1638, .int x1, .int x2_18, .int x3_30, .int (0 : Int32), .int (0 : Int32)]) (S' := []) 4 rfl ?_
              refine ge_bind (K1 := fun (q : Int32) e => ∃ w_43 : Value, e = .inl (60, [.ref 1638, .int x1, .int x2_18, .int x3_30, .int q, w_43], [], (n, u, t, i_31, r))) (ge_itr (C := fun (q : Int32 × Int32) e => e = .inl (41, [.ref 1638, .int x1, .int x2_18, .int x3_30, .int q.1, .int q.2], [], (n, u, t, i_31, r))) ?_ _ _ _ rfl) ?_
              · rintro ⟨x4_40, x5_41⟩ _ rfl
                try dsimp only
                refine ge_run (pc' := 46) (L' := [.ref 1638, .int x1, .int x2_18, .int x3_30, .int x4_40, .int x5_41]) (S' := [.int (1 : Int32), .int x2_18, .ref 1638, .int x3_30, .int x5_41]) 5 rfl ?_
                refine ge_cv rfl rfl rfl (t1638 s) rfl rfl rfl (D := 1) (Nat.le_trans (by decide) hd) (c_Mo_ofDead (n := n) (u := u) (t := t) (i := i_31) (r := r) s x2_18 (1 : Int32)) ?_
                rintro v_44 -
                dsimp only [bkE, F_i0]
                refine ge_cs rfl rfl rfl rfl rfl rfl (D := 1) (Nat.le_trans (by decide) hd) (c_J_min (n := n) (u := u) (t := t) (i := i_31) (r := r) s x3_30 v_44) ?_
                rintro v_45 -
                dsimp only [bkE, F_i0]
                refine ge_gt rfl (fun h_46 => ?_) (fun h_47 => ?_)
                · exact ge_leaf (K := kX _ _) (Exists.intro _ rfl)
                · refine ge_run (pc' := 51) (L' := [.ref 1638, .int x1, .int x2_18, .int x3_30, .int x4_40, .int x5_41]) (S' := [.ref 1638, .int x4_40]) 2 rfl ?_
                  refine ge_getR (b := 1651) rfl (t1638 s) rfl (r1638_22 s) (Nat.le_of_ble_eq_true rfl) ?_
                  refine ge_run (pc' := 55) (L' := [.ref 1638, .int x1, .int x2_18, .int x3_30, .int x4_40, .int x5_41]) (S' := [.int (x3_30 - x5_41), .ref 1651, .int x4_40]) 3 rfl ?_
                  refine ge_grd (fun g_48 g_49 => ?_)
                  refine ge_iald (jn := (ix (x3_30 - x5_41))) rfl (t1651 s) ⟨g_48, rfl⟩ g_49 ?_
                  refine ge_run (pc' := 41) (L' := [.ref 1638, .int x1, .int x2_18, .int x3_30, .int (x4_40 + (i_31 1651 (ix (x3_30 - x5_41)))), .int (x5_41 + (1 : Int32))]) (S' := []) 4 rfl ?_
                  exact ge_leaf (K := kX _ _) rfl
              · rintro x4_42 _ ⟨w_43, rfl⟩
                try dsimp only
                refine ge_run (pc' := 61) (L' := [.ref 1638, .int x1, .int x2_18, .int x3_30, .int x4_42, w_43]) (S' := [.ref 1638]) 1 rfl ?_
                refine ge_getR (b := 1651) rfl (t1638 s) rfl (r1638_22 s) (Nat.le_of_ble_eq_true rfl) ?_
                refine ge_run (pc' := 64) (L' := [.ref 1638, .int x1, .int x2_18, .int x3_30, .int x4_42, w_43]) (S' := [.int x4_42, .int x3_30, .ref 1651]) 2 rfl ?_
                refine ge_grd (fun g_50 g_51 => ?_)
                refine ge_iast (jn := (ix x3_30)) rfl (t1651 s) (Nat.le_of_ble_eq_true rfl) ⟨g_50, rfl⟩ g_51 (fun i_52 => ?_)
                refine ge_run (pc' := 35) (L' := [.ref 1638, .int x1, .int x2_18, .int (x3_30 + (-1 : Int32)), .int x4_42, w_43]) (S' := []) 2 rfl ?_
                exact ge_leaf (K := kX _ _) (Exists.intro _ (Exists.intro _ rfl))
          · rintro i_34 _ ⟨w_35, w_36, w_37, rfl⟩
            try dsimp only
            refine ge_run (pc' := 29) (L' := [.ref 1638, .int x1, .int (x2_18 + (1 : Int32)), w_35, w_36, w_37]) (S' := []) 2 rfl ?_
            exact ge_leaf (K := kX _ _) (Exists.intro _ (Exists.intro _ (Exists.intro _ rfl)))
        · exact ge_leaf (K := kX _ _) (Exists.intro _ (Exists.intro _ (Exists.intro _ (Exists.intro _ rfl))))
      · rintro i_23 _ ⟨w_24, w_25, w_26, w_27, rfl⟩
        try dsimp only
        refine ge_run (pc' := 70) (L' := [.ref 1638, .int x1, w_24, w_25, w_26, w_27]) (S' := [.ref 1638]) 1 rfl ?_
        refine ge_getR (b := 1651) rfl (t1638 s) rfl (r1638_22 s) (Nat.le_of_ble_eq_true rfl) ?_
        refine ge_run (pc' := 72) (L' := [.ref 1638, .int x1, w_24, w_25, w_26, w_27]) (S' := [.int x1, .ref 1651]) 1 rfl ?_
        refine ge_grd (fun g_54 g_55 => ?_)
        refine ge_iald (jn := (ix x1)) rfl (t1651 s) ⟨g_54, rfl⟩ g_55 ?_
        exact ge_ret rfl rfl (And.intro rfl trivial)
  · refine ge_run (pc' := 10) (L' := [.ref 1638, .int x1, uV, uV, uV, uV]) (S' := [.int (0 : Int32)]) 1 rfl ?_
    exact ge_ret rfl rfl (And.intro rfl trivial)
def f_Mo_fewest (i : MI) (x1 : Int32) : Option (Int32 × MI) :=
  bnd (wr i 1638 0 (0 : Int32)) (fun i_1 => (f_Mo_noSize x1).bind (fun v_2 => (f_Mo_throwsIf i_1 v_2 (1 : Int32)).bind (fun (v_3, i_4) => if v_3 = 0 then ((itr (σ := Int32 × Int32) (ρ := Int32) (fun (x2_6, x3_7) => (f_Mo_deadOnes i_4).bind (fun v_14 => if x3_7 < (shl (1 : Int32) v_14) then ((itr (σ := Int32 × Int32) (ρ := Int32) (fun (x4_16, x5_17) => (f_Mo_deadOnes i_4).bind (fun v_20 => if x5_17 < v_20 then ((f_Mo_has x3_7 x5_17).bind (fun v_22 => (if v_22 = 0 then (some (0 : Int32)) else ((f_Mo_ofDead i_4 x5_17 (1 : Int32)).bind (fun v_26 => some v_26)) : Option (Int32)).bind (fun y_23 => some (.inl ((x4_16 + y_23), (x5_17 + (1 : Int32))))))) else (some (.inr x4_16)))) 1000000 ((0 : Int32), (0 : Int32))).bind (fun x4_18 => (if x4_18 < x1 then (some x2_6) else (if x2_6 = (-1 : Int32) then (some x3_7) else ((f_J_bitCount x3_7).bind (fun v_33 => (f_J_bitCount x2_6).bind (fun v_34 => if v_33 < v_34 then (some x3_7) else (some x2_6))))) : Option (Int32)).bind (fun y_28 => some (.inl (y_28, (x3_7 + (1 : Int32))))))) else (some (.inr x2_6)))) 1000000 ((-1 : Int32), (0 : Int32))).bind (fun x2_10 => some (x2_10, i_4))) else (some ((0 : Int32), i_4)))))
set_option maxHeartbeats 4000000 in
theorem c_Mo_fewest {n u : Nat} {t : MT} {i : MI} {r : MR} (s : Sh n t r) (x1 : Int32) : Cn 3 316 [.ref 1638, .int x1] (n, u, t, i, r) (f_Mo_fewest i x1) (F_i1 n u t r) PT := by
  refine cn_of (Y := K_Mo_fewest) (L0 := [.ref 1638, .int x1, uV, uV, uV, uV]) rfl rfl rfl ?_
  intro d hd
  unfold f_Mo_fewest
  refine ge_run (pc' := 2) (L' := [.ref 1638, .int x1, uV, uV, uV, uV]) (S' := [.int (0 : Int32), .ref 1638]) 2 rfl ?_
  refine ge_putI rfl (t1638 s) (Nat.le_of_ble_eq_true rfl) rfl (fun i_1 => ?_)
  refine ge_run (pc' := 5) (L' := [.ref 1638, .int x1, uV, uV, uV, uV]) (S' := [.int x1, .ref 1638]) 2 rfl ?_
  refine ge_cs rfl rfl rfl rfl rfl rfl (D := 2) (Nat.le_trans (by decide) hd) (c_Mo_noSize (n := n) (u := u) (t := t) (i := i_1) (r := r) s x1) ?_
  rintro v_2 -
  dsimp only [bkE, F_i0]
  refine ge_run (pc' := 7) (L' := [.ref 1638, .int x1, uV, uV, uV, uV]) (S' := [.int (1 : Int32), .int v_2, .ref 1638]) 1 rfl ?_
  refine ge_cv rfl rfl rfl (t1638 s) rfl rfl rfl (D := 1) (Nat.le_trans (by decide) hd) (c_Mo_throwsIf (n := n) (u := u) (t := t) (i := i_1) (r := r) s v_2 (1 : Int32)) ?_
  rintro ⟨v_3, i_4⟩ -
  dsimp only [bkE, F_i1]
  refine ge_eq0 rfl (fun h_5 => ?_) (fun h_38 => ?_)
  · refine ge_run (pc' := 15) (L' := [.ref 1638, .int x1, .int (-1 : Int32), .int (0 : Int32), uV, uV]) (S' := []) 4 rfl ?_
    refine ge_bind (K1 := fun (q : Int32) e => ∃ w_11 w_12 w_13 : Value, e = .inl (61, [.ref 1638, .int x1, .int q, w_11, w_12, w_13], [], (n, u, t, i_4, r))) (ge_itr (C := fun (q : Int32 × Int32) e => ∃ w_8 w_9 : Value, e = .inl (15, [.ref 1638, .int x1, .int q.1, .int q.2, w_8, w_9], [], (n, u, t, i_4, r))) ?_ _ _ _ (Exists.intro _ (Exists.intro _ rfl))) ?_
    · rintro ⟨x2_6, x3_7⟩ _ ⟨w_8, w_9, rfl⟩
      try dsimp only
      refine ge_run (pc' := 18) (L' := [.ref 1638, .int x1, .int x2_6, .int x3_7, w_8, w_9]) (S' := [.ref 1638, .int (1 : Int32), .int x3_7]) 3 rfl ?_
      refine ge_cv rfl rfl rfl (t1638 s) rfl rfl rfl (D := 1) (Nat.le_trans (by decide) hd) (c_Mo_deadOnes (n := n) (u := u) (t := t) (i := i_4) (r := r) s ) ?_
      rintro v_14 -
      dsimp only [bkE, F_i0]
      refine ge_run (pc' := 20) (L' := [.ref 1638, .int x1, .int x2_6, .int x3_7, w_8, w_9]) (S' := [.int (shl (1 : Int32) v_14), .int x3_7]) 1 rfl ?_
      refine ge_ge rfl (fun h_15 => ?_) (fun h_37 => ?_)
      · refine ge_run (pc' := 25) (L' := [.ref 1638, .int x1, .int x2_6, .int x3_7, .int (0 : Int32), .int (0 : Int32)]) (S' := []) 4 rfl ?_
        refine ge_bind (K1 := fun (q : Int32) e => ∃ w_19 : Value, e = .inl (44, [.ref 1638, .int x1, .int x2_6, .int x3_7, .int q, w_19], [], (n, u, t, i_4, r))) (ge_itr (C := fun (q : Int32 × Int32) e => e = .inl (25, [.ref 1638, .int x1, .int x2_6, .int x3_7, .int q.1, .int q.2], [], (n, u, t, i_4, r))) ?_ _ _ _ rfl) ?_
        · rintro ⟨x4_16, x5_17⟩ _ rfl
          try dsimp only
          refine ge_run (pc' := 27) (L' := [.ref 1638, .int x1, .int x2_6, .int x3_7, .int x4_16, .int x5_17]) (S' := [.ref 1638, .int x5_17]) 2 rfl ?_
          refine ge_cv rfl rfl rfl (t1638 s) rfl rfl rfl (D := 1) (Nat.le_trans (by decide) hd) (c_Mo_deadOnes (n := n) (u := u) (t := t) (i := i_4) (r := r) s ) ?_
          rintro v_20 -
          dsimp only [bkE, F_i0]
          refine ge_ge rfl (fun h_21 => ?_) (fun h_27 => ?_)
          · refine ge_run (pc' := 32) (L' := [.ref 1638, .int x1, .int x2_6, .int x3_7, .int x4_16, .int x5_17]) (S' := [.int x5_17, .int x3_7, .int x4_16]) 3 rfl ?_
            refine ge_cs rfl rfl rfl rfl rfl rfl (D := 1) (Nat.le_trans (by decide) hd) (c_Mo_has (n := n) (u := u) (t := t) (i := i_4) (r := r) s x3_7 x5_17) ?_
            rintro v_22 -
            dsimp only [bkE, F_i0]
            refine ge_bind (K1 := fun (q : Int32) e => e = .inl (40, [.ref 1638, .int x1, .int x2_6, .int x3_7, .int x4_16, .int x5_17], [.int q, .int x4_16], (n, u, t, i_4, r))) ?_ ?_
            · refine ge_eq0 rfl (fun h_24 => ?_) (fun h_25 => ?_)
              · refine ge_run (pc' := 40) (L' := [.ref 1638, .int x1, .int x2_6, .int x3_7, .int x4_16, .int x5_17]) (S' := [.int (0 : Int32), .int x4_16]) 1 rfl ?_
                exact ge_leaf rfl
              · refine ge_run (pc' := 37) (L' := [.ref 1638, .int x1, .int x2_6, .int x3_7, .int x4_16, .int x5_17]) (S' := [.int (1 : Int32), .int x5_17, .ref 1638, .int x4_16]) 3 rfl ?_
                refine ge_cv rfl rfl rfl (t1638 s) rfl rfl rfl (D := 1) (Nat.le_trans (by decide) hd) (c_Mo_ofDead (n := n) (u := u) (t := t) (i := i_4) (r := r) s x5_17 (1 : Int32)) ?_
                rintro v_26 -
                dsimp only [bkE, F_i0]
                refine ge_run (pc' := 40) (L' := [.ref 1638, .int x1, .int x2_6, .int x3_7, .int x4_16, .int x5_17]) (S' := [.int v_26, .int x4_16]) 1 rfl ?_
                exact ge_leaf rfl
            · rintro y_23 _ rfl
              try dsimp only
              refine ge_run (pc' := 25) (L' := [.ref 1638, .int x1, .int x2_6, .int x3_7, .int (x4_16 + y_23), .int (x5_17 + (1 : Int32))]) (S' := []) 4 rfl ?_
              exact ge_leaf (K := kX _ _) rfl
          · exact ge_leaf (K := kX _ _) (Exists.intro _ rfl)
        · rintro x4_18 _ ⟨w_19, rfl⟩
          try dsimp only
          refine ge_run (pc' := 46) (L' := [.ref 1638, .int x1, .int x2_6, .int x3_7, .int x4_18, w_19]) (S' := [.int x1, .int x4_18]) 2 rfl ?_
          refine ge_bind (K1 := fun (q : Int32) e => e = .inl (58, [.ref 1638, .int x1, .int x2_6, .int x3_7, .int x4_18, w_19], [.int q], (n, u, t, i_4, r))) ?_ ?_
          · refine ge_lt rfl (fun h_29 => ?_) (fun h_30 => ?_)
            · refine ge_run (pc' := 58) (L' := [.ref 1638, .int x1, .int x2_6, .int x3_7, .int x4_18, w_19]) (S' := [.int x2_6]) 1 rfl ?_
              exact ge_leaf rfl
            · refine ge_run (pc' := 49) (L' := [.ref 1638, .int x1, .int x2_6, .int x3_7, .int x4_18, w_19]) (S' := [.int (-1 : Int32), .int x2_6]) 2 rfl ?_
              refine ge_eq rfl (fun h_31 => ?_) (fun h_32 => ?_)
              · refine ge_run (pc' := 58) (L' := [.ref 1638, .int x1, .int x2_6, .int x3_7, .int x4_18, w_19]) (S' := [.int x3_7]) 2 rfl ?_
                exact ge_leaf rfl
              · refine ge_run (pc' := 51) (L' := [.ref 1638, .int x1, .int x2_6, .int x3_7, .int x4_18, w_19]) (S' := [.int x3_7]) 1 rfl ?_
                refine ge_cs rfl rfl rfl rfl rfl rfl (D := 1) (Nat.le_trans (by decide) hd) (c_J_bitCount (n := n) (u := u) (t := t) (i := i_4) (r := r) s x3_7) ?_
                rintro v_33 -
                dsimp only [bkE, F_i0]
                refine ge_run (pc' := 53) (L' := [.ref 1638, .int x1, .int x2_6, .int x3_7, .int x4_18, w_19]) (S' := [.int x2_6, .int v_33]) 1 rfl ?_
                refine ge_cs rfl rfl rfl rfl rfl rfl (D := 1) (Nat.le_trans (by decide) hd) (c_J_bitCount (n := n) (u := u) (t := t) (i := i_4) (r := r) s x2_6) ?_
                rintro v_34 -
                dsimp only [bkE, F_i0]
                refine ge_ge rfl (fun h_35 => ?_) (fun h_36 => ?_)
                · refine ge_run (pc' := 58) (L' := [.ref 1638, .int x1, .int x2_6, .int x3_7, .int x4_18, w_19]) (S' := [.int x3_7]) 2 rfl ?_
                  exact ge_leaf rfl
                · refine ge_run (pc' := 58) (L' := [.ref 1638, .int x1, .int x2_6, .int x3_7, .int x4_18, w_19]) (S' := [.int x2_6]) 1 rfl ?_
                  exact ge_leaf rfl
          · rintro y_28 _ rfl
            try dsimp only
            refine ge_run (pc' := 15) (L' := [.ref 1638, .int x1, .int y_28, .int (x3_7 + (1 : Int32)), .int x4_18, w_19]) (S' := []) 3 rfl ?_
            exact ge_leaf (K := kX _ _) (Exists.intro _ (Exists.intro _ rfl))
      · exact ge_leaf (K := kX _ _) (Exists.intro _ (Exists.intro _ (Exists.intro _ rfl)))
    · rintro x2_10 _ ⟨w_11, w_12, w_13, rfl⟩
      try dsimp only
      refine ge_run (pc' := 62) (L' := [.ref 1638, .int x1, .int x2_10, w_11, w_12, w_13]) (S' := [.int x2_10]) 1 rfl ?_
      exact ge_ret rfl rfl (And.intro rfl trivial)
  · refine ge_run (pc' := 10) (L' := [.ref 1638, .int x1, uV, uV, uV, uV]) (S' := [.int (0 : Int32)]) 1 rfl ?_
    exact ge_ret rfl rfl (And.intro rfl trivial)
def f_Mo_isTurned (i : MI) : Option (Int32) :=
  (if (rm (i 1638 11) (2 : Int32)) = 0 then (if (40 : Int32) < (i 1638 11) then (some (0 : Int32)) else (some (1 : Int32))) else (some (0 : Int32)) : Option (Int32)).bind (fun y_1 => (itr (σ := Int32 × Int32) (ρ := Int32) (fun (x1_6, x2_7) => if x2_7 < (i 1638 11) then (if x1_6 = 0 then (some (.inr x1_6)) else (grd x2_7 400 ((f_Mo_in (i 1644 (ix x2_7)) (0 : Int32) (99 : Int32)).bind (fun v_15 => (if v_15 = 0 then (some (0 : Int32)) else (grd (x2_7 + (1 : Int32)) 400 ((f_Mo_in (i 1644 (ix (x2_7 + (1 : Int32)))) (0 : Int32) (99 : Int32)).bind (fun v_21 => if v_21 = 0 then (some (0 : Int32)) else (some (1 : Int32))))) : Option (Int32)).bind (fun y_16 => some (.inl (y_16, (x2_7 + (2 : Int32))))))))) else (some (.inr x1_6))) 1000000 (y_1, (0 : Int32))).bind (fun x1_8 => grd2 (decide (x1_8 = 0 ∨ x1_8 = 1)) (some (x1_8))))
set_option maxHeartbeats 4000000 in
theorem c_Mo_isTurned {n u : Nat} {t : MT} {i : MI} {r : MR} (s : Sh n t r)  : Cn 2 317 [.ref 1638] (n, u, t, i, r) (f_Mo_isTurned i ) (F_i0 n u t i r) PT := by
  refine cn_of (Y := K_Mo_isTurned) (L0 := [.ref 1638, uV, uV]) rfl rfl rfl ?_
  intro d hd
  unfold f_Mo_isTurned
  refine ge_run (pc' := 1) (L' := [.ref 1638, uV, uV]) (S' := [.ref 1638]) 1 rfl ?_
  refine ge_getI rfl (t1638 s) rfl ?_
  refine ge_run (pc' := 3) (L' := [.ref 1638, uV, uV]) (S' := [.int (2 : Int32), .int (i 1638 11)]) 1 rfl ?_
  refine ge_rem rfl (by decide) ?_
  refine ge_bind (K1 := fun (q : Int32) e => e = .inl (12, [.ref 1638, uV, uV], [.int q], (n, u, t, i, r))) ?_ ?_
  · refine ge_ne0 rfl (fun h_2 => ?_) (fun h_5 => ?_)
    · refine ge_run (pc' := 6) (L' := [.ref 1638, uV, uV]) (S' := [.ref 1638]) 1 rfl ?_
      refine ge_getI rfl (t1638 s) rfl ?_
      refine ge_run (pc' := 8) (L' := [.ref 1638, uV, uV]) (S' := [.int (40 : Int32), .int (i 1638 11)]) 1 rfl ?_
      refine ge_gt rfl (fun h_3 => ?_) (fun h_4 => ?_)
      · refine ge_run (pc' := 12) (L' := [.ref 1638, uV, uV]) (S' := [.int (0 : Int32)]) 1 rfl ?_
        exact ge_leaf rfl
      · refine ge_run (pc' := 12) (L' := [.ref 1638, uV, uV]) (S' := [.int (1 : Int32)]) 2 rfl ?_
        exact ge_leaf rfl
    · refine ge_run (pc' := 12) (L' := [.ref 1638, uV, uV]) (S' := [.int (0 : Int32)]) 1 rfl ?_
      exact ge_leaf rfl
  · rintro y_1 _ rfl
    try dsimp only
    refine ge_run (pc' := 15) (L' := [.ref 1638, .int y_1, .int (0 : Int32)]) (S' := []) 3 rfl ?_
    refine ge_bind (K1 := fun (q : Int32) e => ∃ w_9 : Value, e = .inl (45, [.ref 1638, .int q, w_9], [], (n, u, t, i, r))) (ge_itr (C := fun (q : Int32 × Int32) e => e = .inl (15, [.ref 1638, .int q.1, .int q.2], [], (n, u, t, i, r))) ?_ _ _ _ rfl) ?_
    · rintro ⟨x1_6, x2_7⟩ _ rfl
      try dsimp only
      refine ge_run (pc' := 17) (L' := [.ref 1638, .int x1_6, .int x2_7]) (S' := [.ref 1638, .int x2_7]) 2 rfl ?_
      refine ge_getI rfl (t1638 s) rfl ?_
      refine ge_ge rfl (fun h_10 => ?_) (fun h_24 => ?_)
      · refine ge_run (pc' := 20) (L' := [.ref 1638, .int x1_6, .int x2_7]) (S' := [.int x1_6]) 1 rfl ?_
        refine ge_eq0 rfl (fun h_11 => ?_) (fun h_12 => ?_)
        · exact ge_leaf (K := kX _ _) (Exists.intro _ rfl)
        · refine ge_run (pc' := 22) (L' := [.ref 1638, .int x1_6, .int x2_7]) (S' := [.ref 1638]) 1 rfl ?_
          refine ge_getR (b := 1644) rfl (t1638 s) rfl (r1638_8 s) (Nat.le_of_ble_eq_true rfl) ?_
          refine ge_run (pc' := 24) (L' := [.ref 1638, .int x1_6, .int x2_7]) (S' := [.int x2_7, .ref 1644]) 1 rfl ?_
          refine ge_grd (fun g_13 g_14 => ?_)
          refine ge_bald (jn := (ix x2_7)) rfl (Or.inl (t1644 s)) ⟨g_13, rfl⟩ g_14 ?_
          refine ge_run (pc' := 27) (L' := [.ref 1638, .int x1_6, .int x2_7]) (S' := [.int (99 : Int32), .int (0 : Int32), .int (i 1644 (ix x2_7))]) 2 rfl ?_
          refine ge_cs rfl rfl rfl rfl rfl rfl (D := 1) (Nat.le_trans (by decide) hd) (c_Mo_in (n := n) (u := u) (t := t) (i := i) (r := r) s (i 1644 (ix x2_7)) (0 : Int32) (99 : Int32)) ?_
          rintro v_15 -
          dsimp only [bkE, F_i0]
          refine ge_bind (K1 := fun (q : Int32) e => e = .inl (42, [.ref 1638, .int x1_6, .int x2_7], [.int q], (n, u, t, i, r))) ?_ ?_
          · refine ge_eq0 rfl (fun h_17 => ?_) (fun h_18 => ?_)
            · refine ge_run (pc' := 42) (L' := [.ref 1638, .int x1_6, .int x2_7]) (S' := [.int (0 : Int32)]) 1 rfl ?_
              exact ge_leaf rfl
            · refine ge_run (pc' := 30) (L' := [.ref 1638, .int x1_6, .int x2_7]) (S' := [.ref 1638]) 1 rfl ?_
              refine ge_getR (b := 1644) rfl (t1638 s) rfl (r1638_8 s) (Nat.le_of_ble_eq_true rfl) ?_
              refine ge_run (pc' := 34) (L' := [.ref 1638, .int x1_6, .int x2_7]) (S' := [.int (x2_7 + (1 : Int32)), .ref 1644]) 3 rfl ?_
              refine ge_grd (fun g_19 g_20 => ?_)
              refine ge_bald (jn := (ix (x2_7 + (1 : Int32)))) rfl (Or.inl (t1644 s)) ⟨g_19, rfl⟩ g_20 ?_
              refine ge_run (pc' := 37) (L' := [.ref 1638, .int x1_6, .int x2_7]) (S' := [.int (99 : Int32), .int (0 : Int32), .int (i 1644 (ix (x2_7 + (1 : Int32))))]) 2 rfl ?_
              refine ge_cs rfl rfl rfl rfl rfl rfl (D := 1) (Nat.le_trans (by decide) hd) (c_Mo_in (n := n) (u := u) (t := t) (i := i) (r := r) s (i 1644 (ix (x2_7 + (1 : Int32)))) (0 : Int32) (99 : Int32)) ?_
              rintro v_21 -
              dsimp only [bkE, F_i0]
              refine ge_eq0 rfl (fun h_22 => ?_) (fun h_23 => ?_)
              · refine ge_run (pc' := 42) (L' := [.ref 1638, .int x1_6, .int x2_7]) (S' := [.int (0 : Int32)]) 1 rfl ?_
                exact ge_leaf rfl
              · refine ge_run (pc' := 42) (L' := [.ref 1638, .int x1_6, .int x2_7]) (S' := [.int (1 : Int32)]) 2 rfl ?_
                exact ge_leaf rfl
          · rintro y_16 _ rfl
            try dsimp only
            refine ge_run (pc' := 15) (L' := [.ref 1638, .int y_16, .int (x2_7 + (2 : Int32))]) (S' := []) 3 rfl ?_
            exact ge_leaf (K := kX _ _) rfl
      · exact ge_leaf (K := kX _ _) (Exists.intro _ rfl)
    · rintro x1_8 _ ⟨w_9, rfl⟩
      try dsimp only
      refine ge_run (pc' := 46) (L' := [.ref 1638, .int x1_8, w_9]) (S' := [.int x1_8]) 1 rfl ?_
      exact ge_retZ rfl rfl (And.intro rfl trivial)
def f_Mo_freshBy (x0 : Int32) (x1 : Int32) : Option (Int32) :=
  (f_J_max (0 : Int32) (x1 - (rm x0 (100 : Int32)))).bind (fun v_1 => (f_J_max (0 : Int32) ((99 : Int32) - ((x0 / (100 : Int32)) * v_1))).bind (fun v_2 => some (v_2)))
set_option maxHeartbeats 4000000 in
theorem c_Mo_freshBy {n u : Nat} {t : MT} {i : MI} {r : MR} (s : Sh n t r) (x0 : Int32) (x1 : Int32) : Cn 2 318 [.int x0, .int x1] (n, u, t, i, r) (f_Mo_freshBy  x0 x1) (F_i0 n u t i r) PT := by
  refine cn_of (Y := K_Mo_freshBy) (L0 := [.int x0, .int x1]) rfl rfl rfl ?_
  intro d hd
  unfold f_Mo_freshBy
  refine ge_run (pc' := 4) (L' := [.int x0, .int x1]) (S' := [.int (100 : Int32), .int x0, .int (99 : Int32), .int (0 : Int32)]) 4 rfl ?_
  refine ge_div rfl (by decide) ?_
  refine ge_run (pc' := 9) (L' := [.int x0, .int x1]) (S' := [.int (100 : Int32), .int x0, .int x1, .int (0 : Int32), .int (x0 / (100 : Int32)), .int (99 : Int32), .int (0 : Int32)]) 4 rfl ?_
  refine ge_rem rfl (by decide) ?_
  refine ge_run (pc' := 11) (L' := [.int x0, .int x1]) (S' := [.int (x1 - (rm x0 (100 : Int32))), .int (0 : Int32), .int (x0 / (100 : Int32)), .int (99 : Int32), .int (0 : Int32)]) 1 rfl ?_
  refine ge_cs rfl rfl rfl rfl rfl rfl (D := 1) (Nat.le_trans (by decide) hd) (c_J_max (n := n) (u := u) (t := t) (i := i) (r := r) s (0 : Int32) (x1 - (rm x0 (100 : Int32)))) ?_
  rintro v_1 -
  dsimp only [bkE, F_i0]
  refine ge_run (pc' := 14) (L' := [.int x0, .int x1]) (S' := [.int ((99 : Int32) - ((x0 / (100 : Int32)) * v_1)), .int (0 : Int32)]) 2 rfl ?_
  refine ge_cs rfl rfl rfl rfl rfl rfl (D := 1) (Nat.le_trans (by decide) hd) (c_J_max (n := n) (u := u) (t := t) (i := i) (r := r) s (0 : Int32) ((99 : Int32) - ((x0 / (100 : Int32)) * v_1))) ?_
  rintro v_2 -
  dsimp only [bkE, F_i0]
  exact ge_ret rfl rfl (And.intro rfl trivial)
def f_Mo_laysPairsThatFit (i : MI) : Option (Int32 × MI) :=
  (itr (σ := Int32 × Int32 × MI) (ρ := Int32 × MI) (fun (x1_1, x2_2, i_3) => if x2_2 < (2000 : Int32) then ((itr (σ := Int32 × Int32) (ρ := Int32) (fun (x3_12, x4_13) => if x4_13 < (i_3 1638 11) then (if x3_12 = 0 then (some (.inr x3_12)) else (grd x4_13 400 ((f_Mo_freshBy x2_2 (i_3 1644 (ix x4_13))).bind (fun v_21 => grd (x4_13 + (1 : Int32)) 400 ((if v_21 = (i_3 1644 (ix (x4_13 + (1 : Int32)))) then (some (1 : Int32)) else (some (0 : Int32)) : Option (Int32)).bind (fun y_24 => some (.inl (y_24, (x4_13 + (2 : Int32)))))))))) else (some (.inr x3_12))) 1000000 ((1 : Int32), (0 : Int32))).bind (fun x3_14 => grd x2_2 2000 (grd2 (decide (x3_14 = 0 ∨ x3_14 = 1)) (bnd (wr i_3 1652 (ix x2_2) x3_14) (fun i_30 => (if x3_14 = 0 then (some (0 : Int32)) else (some (1 : Int32)) : Option (Int32)).bind (fun y_31 => some (.inl ((x1_1 + y_31), (x2_2 + (1 : Int32)), i_30)))))))) else (some (.inr (x1_1, i_3)))) 1000000 ((0 : Int32), (0 : Int32), i)).bind (fun (x1_6, i_7) => some (x1_6, i_7))
set_option maxHeartbeats 4000000 in
theorem c_Mo_laysPairsThatFit {n u : Nat} {t : MT} {i : MI} {r : MR} (s : Sh n t r)  : Cn 3 319 [.ref 1638] (n, u, t, i, r) (f_Mo_laysPairsThatFit i ) (F_i1 n u t r) PT := by
  refine cn_of (Y := K_Mo_laysPairsThatFit) (L0 := [.ref 1638, uV, uV, uV, uV]) rfl rfl rfl ?_
  intro d hd
  unfold f_Mo_laysPairsThatFit
  refine ge_run (pc' := 4) (L' := [.ref 1638, .int (0 : Int32), .int (0 : Int32), uV, uV]) (S' := []) 4 rfl ?_
  refine ge_bind (K1 := fun (q : Int32 × MI) e => ∃ w_8 w_9 w_10 : Value, e = .inl (51, [.ref 1638, .int q.1, w_8, w_9, w_10], [], (n, u, t, q.2, r))) (ge_itr (C := fun (q : Int32 × Int32 × MI) e => ∃ w_4 w_5 : Value, e = .inl (4, [.ref 1638, .int q.1, .int q.2.1, w_4, w_5], [], (n, u, t, q.2.2, r))) ?_ _ _ _ (Exists.intro _ (Exists.intro _ rfl))) ?_
  · rintro ⟨x1_1, x2_2, i_3⟩ _ ⟨w_4, w_5, rfl⟩
    try dsimp only
    refine ge_run (pc' := 6) (L' := [.ref 1638, .int x1_1, .int x2_2, w_4, w_5]) (S' := [.int (2000 : Int32), .int x2_2]) 2 rfl ?_
    refine ge_ge rfl (fun h_11 => ?_) (fun h_34 => ?_)
    · refine ge_run (pc' := 11) (L' := [.ref 1638, .int x1_1, .int x2_2, .int (1 : Int32), .int (0 : Int32)]) (S' := []) 4 rfl ?_
      refine ge_bind (K1 := fun (q : Int32) e => ∃ w_15 : Value, e = .inl (36, [.ref 1638, .int x1_1, .int x2_2, .int q, w_15], [], (n, u, t, i_3, r))) (ge_itr (C := fun (q : Int32 × Int32) e => e = .inl (11, [.ref 1638, .int x1_1, .int x2_2, .int q.1, .int q.2], [], (n, u, t, i_3, r))) ?_ _ _ _ rfl) ?_
      · rintro ⟨x3_12, x4_13⟩ _ rfl
        try dsimp only
        refine ge_run (pc' := 13) (L' := [.ref 1638, .int x1_1, .int x2_2, .int x3_12, .int x4_13]) (S' := [.ref 1638, .int x4_13]) 2 rfl ?_
        refine ge_getI rfl (t1638 s) rfl ?_
        refine ge_ge rfl (fun h_16 => ?_) (fun h_27 => ?_)
        · refine ge_run (pc' := 16) (L' := [.ref 1638, .int x1_1, .int x2_2, .int x3_12, .int x4_13]) (S' := [.int x3_12]) 1 rfl ?_
          refine ge_eq0 rfl (fun h_17 => ?_) (fun h_18 => ?_)
          · exact ge_leaf (K := kX _ _) (Exists.intro _ rfl)
          · refine ge_run (pc' := 19) (L' := [.ref 1638, .int x1_1, .int x2_2, .int x3_12, .int x4_13]) (S' := [.ref 1638, .int x2_2]) 2 rfl ?_
            refine ge_getR (b := 1644) rfl (t1638 s) rfl (r1638_8 s) (Nat.le_of_ble_eq_true rfl) ?_
            refine ge_run (pc' := 21) (L' := [.ref 1638, .int x1_1, .int x2_2, .int x3_12, .int x4_13]) (S' := [.int x4_13, .ref 1644, .int x2_2]) 1 rfl ?_
            refine ge_grd (fun g_19 g_20 => ?_)
            refine ge_bald (jn := (ix x4_13)) rfl (Or.inl (t1644 s)) ⟨g_19, rfl⟩ g_20 ?_
            refine ge_cs rfl rfl rfl rfl rfl rfl (D := 2) (Nat.le_trans (by decide) hd) (c_Mo_freshBy (n := n) (u := u) (t := t) (i := i_3) (r := r) s x2_2 (i_3 1644 (ix x4_13))) ?_
            rintro v_21 -
            dsimp only [bkE, F_i0]
            refine ge_run (pc' := 24) (L' := [.ref 1638, .int x1_1, .int x2_2, .int x3_12, .int x4_13]) (S' := [.ref 1638, .int v_21]) 1 rfl ?_
            refine ge_getR (b := 1644) rfl (t1638 s) rfl (r1638_8 s) (Nat.le_of_ble_eq_true rfl) ?_
            refine ge_run (pc' := 28) (L' := [.ref 1638, .int x1_1, .int x2_2, .int x3_12, .int x4_13]) (S' := [.int (x4_13 + (1 : Int32)), .ref 1644, .int v_21]) 3 rfl ?_
            refine ge_grd (fun g_22 g_23 => ?_)
            refine ge_bald (jn := (ix (x4_13 + (1 : Int32)))) rfl (Or.inl (t1644 s)) ⟨g_22, rfl⟩ g_23 ?_
            refine ge_bind (K1 := fun (q : Int32) e => e = .inl (33, [.ref 1638, .int x1_1, .int x2_2, .int x3_12, .int x4_13], [.int q], (n, u, t, i_3, r))) ?_ ?_
            · refine ge_ne rfl (fun h_25 => ?_) (fun h_26 => ?_)
              · refine ge_run (pc' := 33) (L' := [.ref 1638, .int x1_1, .int x2_2, .int x3_12, .int x4_13]) (S' := [.int (1 : Int32)]) 2 rfl ?_
                exact ge_leaf rfl
              · refine ge_run (pc' := 33) (L' := [.ref 1638, .int x1_1, .int x2_2, .int x3_12, .int x4_13]) (S' := [.int (0 : Int32)]) 1 rfl ?_
                exact ge_leaf rfl
            · rintro y_24 _ rfl
              try dsimp only
              refine ge_run (pc' := 11) (L' := [.ref 1638, .int x1_1, .int x2_2, .int y_24, .int (x4_13 + (2 : Int32))]) (S' := []) 3 rfl ?_
              exact ge_leaf (K := kX _ _) rfl
        · exact ge_leaf (K := kX _ _) (Exists.intro _ rfl)
      · rintro x3_14 _ ⟨w_15, rfl⟩
        try dsimp only
        refine ge_run (pc' := 37) (L' := [.ref 1638, .int x1_1, .int x2_2, .int x3_14, w_15]) (S' := [.ref 1638]) 1 rfl ?_
        refine ge_getR (b := 1652) rfl (t1638 s) rfl (r1638_23 s) (Nat.le_of_ble_eq_true rfl) ?_
        refine ge_run (pc' := 40) (L' := [.ref 1638, .int x1_1, .int x2_2, .int x3_14, w_15]) (S' := [.int x3_14, .int x2_2, .ref 1652]) 2 rfl ?_
        refine ge_grd (fun g_28 g_29 => ?_)
        refine ge_zast (jn := (ix x2_2)) rfl (t1652 s) (Nat.le_of_ble_eq_true rfl) ⟨g_28, rfl⟩ g_29 (fun i_30 => ?_)
        refine ge_run (pc' := 43) (L' := [.ref 1638, .int x1_1, .int x2_2, .int x3_14, w_15]) (S' := [.int x3_14, .int x1_1]) 2 rfl ?_
        refine ge_bind (K1 := fun (q : Int32) e => e = .inl (47, [.ref 1638, .int x1_1, .int x2_2, .int x3_14, w_15], [.int q, .int x1_1], (n, u, t, i_30, r))) ?_ ?_
        · refine ge_eq0 rfl (fun h_32 => ?_) (fun h_33 => ?_)
          · refine ge_run (pc' := 47) (L' := [.ref 1638, .int x1_1, .int x2_2, .int x3_14, w_15]) (S' := [.int (0 : Int32), .int x1_1]) 1 rfl ?_
            exact ge_leaf rfl
          · refine ge_run (pc' := 47) (L' := [.ref 1638, .int x1_1, .int x2_2, .int x3_14, w_15]) (S' := [.int (1 : Int32), .int x1_1]) 2 rfl ?_
            exact ge_leaf rfl
        · rintro y_31 _ rfl
          try dsimp only
          refine ge_run (pc' := 4) (L' := [.ref 1638, .int (x1_1 + y_31), .int (x2_2 + (1 : Int32)), .int x3_14, w_15]) (S' := []) 4 rfl ?_
          exact ge_leaf (K := kX _ _) (Exists.intro _ (Exists.intro _ rfl))
    · exact ge_leaf (K := kX _ _) (Exists.intro _ (Exists.intro _ (Exists.intro _ rfl)))
  · rintro ⟨x1_6, i_7⟩ _ ⟨w_8, w_9, w_10, rfl⟩
    try dsimp only
    refine ge_run (pc' := 52) (L' := [.ref 1638, .int x1_6, w_8, w_9, w_10]) (S' := [.int x1_6]) 1 rfl ?_
    exact ge_ret rfl rfl (And.intro rfl trivial)
def f_Mo_turned (i : MI) (x1 : Int32) : Option (Int32 × MI) :=
  (f_Mo_uses i).bind (fun i_1 => (f_Mo_isTurned i_1).bind (fun v_2 => (if v_2 = 0 then (some (1 : Int32)) else (some (0 : Int32)) : Option (Int32)).bind (fun y_3 => (f_Mo_throwsIf i_1 y_3 (1 : Int32)).bind (fun (v_6, i_7) => if v_6 = 0 then ((f_Mo_laysPairsThatFit i_7).bind (fun (v_9, i_10) => (itr (σ := Int32 × Int32) (ρ := Int32) (fun (x3_11, x4_12) => if x4_12 < 0 then (some (.inr x3_11)) else (grd x4_12 2000 ((if (i_10 1652 (ix x4_12)) = 0 then (some x3_11) else (some x4_12) : Option (Int32)).bind (fun y_19 => some (.inl (y_19, (x4_12 + (-1 : Int32)))))))) 1000000 ((-1 : Int32), (1999 : Int32))).bind (fun x3_13 => if x1 = 0 then (some (v_9, i_10)) else (some (x3_13, i_10))))) else (some ((0 : Int32), i_7))))))
set_option maxHeartbeats 4000000 in
theorem c_Mo_turned {n u : Nat} {t : MT} {i : MI} {r : MR} (s : Sh n t r) (x1 : Int32) : Cn 4 320 [.ref 1638, .int x1] (n, u, t, i, r) (f_Mo_turned i x1) (F_i1 n u t r) PT := by
  refine cn_of (Y := K_Mo_turned) (L0 := [.ref 1638, .int x1, uV, uV, uV]) rfl rfl rfl ?_
  intro d hd
  unfold f_Mo_turned
  refine ge_run (pc' := 1) (L' := [.ref 1638, .int x1, uV, uV, uV]) (S' := [.ref 1638]) 1 rfl ?_
  refine ge_cv rfl rfl rfl (t1638 s) rfl rfl rfl (D := 1) (Nat.le_trans (by decide) hd) (c_Mo_uses (n := n) (u := u) (t := t) (i := i) (r := r) s ) ?_
  rintro i_1 -
  dsimp only [bkE, F_v1]
  refine ge_run (pc' := 4) (L' := [.ref 1638, .int x1, uV, uV, uV]) (S' := [.ref 1638, .ref 1638]) 2 rfl ?_
  refine ge_cv rfl rfl rfl (t1638 s) rfl rfl rfl (D := 2) (Nat.le_trans (by decide) hd) (c_Mo_isTurned (n := n) (u := u) (t := t) (i := i_1) (r := r) s ) ?_
  rintro v_2 -
  dsimp only [bkE, F_i0]
  refine ge_bind (K1 := fun (q : Int32) e => e = .inl (9, [.ref 1638, .int x1, uV, uV, uV], [.int q, .ref 1638], (n, u, t, i_1, r))) ?_ ?_
  · refine ge_ne0 rfl (fun h_4 => ?_) (fun h_5 => ?_)
    · refine ge_run (pc' := 9) (L' := [.ref 1638, .int x1, uV, uV, uV]) (S' := [.int (1 : Int32), .ref 1638]) 2 rfl ?_
      exact ge_leaf rfl
    · refine ge_run (pc' := 9) (L' := [.ref 1638, .int x1, uV, uV, uV]) (S' := [.int (0 : Int32), .ref 1638]) 1 rfl ?_
      exact ge_leaf rfl
  · rintro y_3 _ rfl
    try dsimp only
    refine ge_run (pc' := 10) (L' := [.ref 1638, .int x1, uV, uV, uV]) (S' := [.int (1 : Int32), .int y_3, .ref 1638]) 1 rfl ?_
    refine ge_cv rfl rfl rfl (t1638 s) rfl rfl rfl (D := 1) (Nat.le_trans (by decide) hd) (c_Mo_throwsIf (n := n) (u := u) (t := t) (i := i_1) (r := r) s y_3 (1 : Int32)) ?_
    rintro ⟨v_6, i_7⟩ -
    dsimp only [bkE, F_i1]
    refine ge_eq0 rfl (fun h_8 => ?_) (fun h_24 => ?_)
    · refine ge_run (pc' := 15) (L' := [.ref 1638, .int x1, uV, uV, uV]) (S' := [.ref 1638]) 1 rfl ?_
      refine ge_cv rfl rfl rfl (t1638 s) rfl rfl rfl (D := 3) (Nat.le_trans (by decide) hd) (c_Mo_laysPairsThatFit (n := n) (u := u) (t := t) (i := i_7) (r := r) s ) ?_
      rintro ⟨v_9, i_10⟩ -
      dsimp only [bkE, F_i1]
      refine ge_run (pc' := 21) (L' := [.ref 1638, .int x1, .int v_9, .int (-1 : Int32), .int (1999 : Int32)]) (S' := []) 5 rfl ?_
      refine ge_bind (K1 := fun (q : Int32) e => ∃ w_14 : Value, e = .inl (34, [.ref 1638, .int x1, .int v_9, .int q, w_14], [], (n, u, t, i_10, r))) (ge_itr (C := fun (q : Int32 × Int32) e => e = .inl (21, [.ref 1638, .int x1, .int v_9, .int q.1, .int q.2], [], (n, u, t, i_10, r))) ?_ _ _ _ rfl) ?_
      · rintro ⟨x3_11, x4_12⟩ _ rfl
        try dsimp only
        refine ge_run (pc' := 22) (L' := [.ref 1638, .int x1, .int v_9, .int x3_11, .int x4_12]) (S' := [.int x4_12]) 1 rfl ?_
        refine ge_lt0 rfl (fun h_15 => ?_) (fun h_16 => ?_)
        · exact ge_leaf (K := kX _ _) (Exists.intro _ rfl)
        · refine ge_run (pc' := 24) (L' := [.ref 1638, .int x1, .int v_9, .int x3_11, .int x4_12]) (S' := [.ref 1638]) 1 rfl ?_
          refine ge_getR (b := 1652) rfl (t1638 s) rfl (r1638_23 s) (Nat.le_of_ble_eq_true rfl) ?_
          refine ge_run (pc' := 26) (L' := [.ref 1638, .int x1, .int v_9, .int x3_11, .int x4_12]) (S' := [.int x4_12, .ref 1652]) 1 rfl ?_
          refine ge_grd (fun g_17 g_18 => ?_)
          refine ge_bald (jn := (ix x4_12)) rfl (Or.inr (t1652 s)) ⟨g_17, rfl⟩ g_18 ?_
          refine ge_bind (K1 := fun (q : Int32) e => e = .inl (31, [.ref 1638, .int x1, .int v_9, .int x3_11, .int x4_12], [.int q], (n, u, t, i_10, r))) ?_ ?_
          · refine ge_eq0 rfl (fun h_20 => ?_) (fun h_21 => ?_)
            · refine ge_run (pc' := 31) (L' := [.ref 1638, .int x1, .int v_9, .int x3_11, .int x4_12]) (S' := [.int x3_11]) 1 rfl ?_
              exact ge_leaf rfl
            · refine ge_run (pc' := 31) (L' := [.ref 1638, .int x1, .int v_9, .int x3_11, .int x4_12]) (S' := [.int x4_12]) 2 rfl ?_
              exact ge_leaf rfl
          · rintro y_19 _ rfl
            try dsimp only
            refine ge_run (pc' := 21) (L' := [.ref 1638, .int x1, .int v_9, .int y_19, .int (x4_12 + (-1 : Int32))]) (S' := []) 3 rfl ?_
            exact ge_leaf (K := kX _ _) rfl
      · rintro x3_13 _ ⟨w_14, rfl⟩
        try dsimp only
        refine ge_run (pc' := 35) (L' := [.ref 1638, .int x1, .int v_9, .int x3_13, w_14]) (S' := [.int x1]) 1 rfl ?_
        refine ge_eq0 rfl (fun h_22 => ?_) (fun h_23 => ?_)
        · refine ge_run (pc' := 39) (L' := [.ref 1638, .int x1, .int v_9, .int x3_13, w_14]) (S' := [.int v_9]) 1 rfl ?_
          exact ge_ret rfl rfl (And.intro rfl trivial)
        · refine ge_run (pc' := 39) (L' := [.ref 1638, .int x1, .int v_9, .int x3_13, w_14]) (S' := [.int x3_13]) 2 rfl ?_
          exact ge_ret rfl rfl (And.intro rfl trivial)
    · refine ge_run (pc' := 13) (L' := [.ref 1638, .int x1, uV, uV, uV]) (S' := [.int (0 : Int32)]) 1 rfl ?_
      exact ge_ret rfl rfl (And.intro rfl trivial)
def f_Mo_partBy (i : MI) (x1 : Int32) : Option (Int32 × MI) :=
  (itr (σ := Int32 × MI) (ρ := MI) (fun (x2_1, i_2) => if (99 : Int32) < x2_1 then (some (.inr i_2)) else (grd x2_1 100 (bnd (wr i_2 1653 (ix x2_1) (0 : Int32)) (fun i_9 => some (.inl ((x2_1 + (1 : Int32)), i_9)))))) 1000000 ((0 : Int32), i)).bind (fun i_3 => (itr (σ := Int32 × Int32 × MI) (ρ := Int32 × MI) (fun (x2_10, x3_11, i_12) => if x3_11 < (2000 : Int32) then (grd x3_11 2000 ((if (i_12 1652 (ix x3_11)) = 0 then (some (x2_10, i_12)) else ((f_Mo_freshBy x3_11 x1).bind (fun v_26 => grd v_26 100 (bnd (wr i_12 1653 (ix v_26) ((i_12 1653 (ix v_26)) + (1 : Int32))) (fun i_29 => (f_J_max x2_10 (i_29 1653 (ix v_26))).bind (fun v_30 => some (v_30, i_29)))))) : Option (Int32 × MI)).bind (fun (x2_21, i_22) => some (.inl (x2_21, (x3_11 + (1 : Int32)), i_22))))) else (some (.inr (x2_10, i_12)))) 1000000 ((0 : Int32), (0 : Int32), i_3)).bind (fun (x2_14, i_15) => some (x2_14, i_15)))
set_option maxHeartbeats 4000000 in
theorem c_Mo_partBy {n u : Nat} {t : MT} {i : MI} {r : MR} (s : Sh n t r) (x1 : Int32) : Cn 3 321 [.ref 1638, .int x1] (n, u, t, i, r) (f_Mo_partBy i x1) (F_i1 n u t r) PT := by
  refine cn_of (Y := K_Mo_partBy) (L0 := [.ref 1638, .int x1, uV, uV, uV]) rfl rfl rfl ?_
  intro d hd
  unfold f_Mo_partBy
  refine ge_run (pc' := 2) (L' := [.ref 1638, .int x1, .int (0 : Int32), uV, uV]) (S' := []) 2 rfl ?_
  refine ge_bind (K1 := fun (q : MI) e => ∃ w_4 : Value, e = .inl (12, [.ref 1638, .int x1, w_4, uV, uV], [], (n, u, t, q, r))) (ge_itr (C := fun (q : Int32 × MI) e => e = .inl (2, [.ref 1638, .int x1, .int q.1, uV, uV], [], (n, u, t, q.2, r))) ?_ _ _ _ rfl) ?_
  · rintro ⟨x2_1, i_2⟩ _ rfl
    try dsimp only
    refine ge_run (pc' := 4) (L' := [.ref 1638, .int x1, .int x2_1, uV, uV]) (S' := [.int (99 : Int32), .int x2_1]) 2 rfl ?_
    refine ge_gt rfl (fun h_5 => ?_) (fun h_6 => ?_)
    · exact ge_leaf (K := kX _ _) (Exists.intro _ rfl)
    · refine ge_run (pc' := 6) (L' := [.ref 1638, .int x1, .int x2_1, uV, uV]) (S' := [.ref 1638]) 1 rfl ?_
      refine ge_getR (b := 1653) rfl (t1638 s) rfl (r1638_24 s) (Nat.le_of_ble_eq_true rfl) ?_
      refine ge_run (pc' := 9) (L' := [.ref 1638, .int x1, .int x2_1, uV, uV]) (S' := [.int (0 : Int32), .int x2_1, .ref 1653]) 2 rfl ?_
      refine ge_grd (fun g_7 g_8 => ?_)
      refine ge_iast (jn := (ix x2_1)) rfl (t1653 s) (Nat.le_of_ble_eq_true rfl) ⟨g_7, rfl⟩ g_8 (fun i_9 => ?_)
      refine ge_run (pc' := 2) (L' := [.ref 1638, .int x1, .int (x2_1 + (1 : Int32)), uV, uV]) (S' := []) 2 rfl ?_
      exact ge_leaf (K := kX _ _) rfl
  · rintro i_3 _ ⟨w_4, rfl⟩
    try dsimp only
    refine ge_run (pc' := 16) (L' := [.ref 1638, .int x1, .int (0 : Int32), .int (0 : Int32), uV]) (S' := []) 4 rfl ?_
    refine ge_bind (K1 := fun (q : Int32 × MI) e => ∃ w_16 w_17 : Value, e = .inl (46, [.ref 1638, .int x1, .int q.1, w_16, w_17], [], (n, u, t, q.2, r))) (ge_itr (C := fun (q : Int32 × Int32 × MI) e => ∃ w_13 : Value, e = .inl (16, [.ref 1638, .int x1, .int q.1, .int q.2.1, w_13], [], (n, u, t, q.2.2, r))) ?_ _ _ _ (Exists.intro _ rfl)) ?_
    · rintro ⟨x2_10, x3_11, i_12⟩ _ ⟨w_13, rfl⟩
      try dsimp only
      refine ge_run (pc' := 18) (L' := [.ref 1638, .int x1, .int x2_10, .int x3_11, w_13]) (S' := [.int (2000 : Int32), .int x3_11]) 2 rfl ?_
      refine ge_ge rfl (fun h_18 => ?_) (fun h_31 => ?_)
      · refine ge_run (pc' := 20) (L' := [.ref 1638, .int x1, .int x2_10, .int x3_11, w_13]) (S' := [.ref 1638]) 1 rfl ?_
        refine ge_getR (b := 1652) rfl (t1638 s) rfl (r1638_23 s) (Nat.le_of_ble_eq_true rfl) ?_
        refine ge_run (pc' := 22) (L' := [.ref 1638, .int x1, .int x2_10, .int x3_11, w_13]) (S' := [.int x3_11, .ref 1652]) 1 rfl ?_
        refine ge_grd (fun g_19 g_20 => ?_)
        refine ge_bald (jn := (ix x3_11)) rfl (Or.inr (t1652 s)) ⟨g_19, rfl⟩ g_20 ?_
        refine ge_bind (K1 := fun (q : Int32 × MI) e => ∃ w_23 : Value, e = .inl (44, [.ref 1638, .int x1, .int q.1, .int x3_11, w_23], [], (n, u, t, q.2, r))) ?_ ?_
        · refine ge_ne0 rfl (fun h_24 => ?_) (fun h_25 => ?_)
          · refine ge_run (pc' := 44) (L' := [.ref 1638, .int x1, .int x2_10, .int x3_11, w_13]) (S' := []) 1 rfl ?_
            exact ge_leaf (Exists.intro _ rfl)
          · refine ge_run (pc' := 27) (L' := [.ref 1638, .int x1, .int x2_10, .int x3_11, w_13]) (S' := [.int x1, .int x3_11]) 2 rfl ?_
            refine ge_cs rfl rfl rfl rfl rfl rfl (D := 2) (Nat.le_trans (by decide) hd) (c_Mo_freshBy (n := n) (u := u) (t := t) (i := i_12) (r := r) s x3_11 x1) ?_
            rintro v_26 -
            dsimp only [bkE, F_i0]
            refine ge_run (pc' := 30) (L' := [.ref 1638, .int x1, .int x2_10, .int x3_11, .int v_26]) (S' := [.ref 1638]) 2 rfl ?_
            refine ge_getR (b := 1653) rfl (t1638 s) rfl (r1638_24 s) (Nat.le_of_ble_eq_true rfl) ?_
            refine ge_run (pc' := 33) (L' := [.ref 1638, .int x1, .int x2_10, .int x3_11, .int v_26]) (S' := [.int v_26, .ref 1653, .int v_26, .ref 1653]) 2 rfl ?_
            refine ge_grd (fun g_27 g_28 => ?_)
            refine ge_iald (jn := (ix v_26)) rfl (t1653 s) ⟨g_27, rfl⟩ g_28 ?_
            refine ge_run (pc' := 36) (L' := [.ref 1638, .int x1, .int x2_10, .int x3_11, .int v_26]) (S' := [.int ((i_12 1653 (ix v_26)) + (1 : Int32)), .int v_26, .ref 1653]) 2 rfl ?_
            refine ge_iast (jn := (ix v_26)) rfl (t1653 s) (Nat.le_of_ble_eq_true rfl) ⟨g_27, rfl⟩ g_28 (fun i_29 => ?_)
            refine ge_run (pc' := 39) (L' := [.ref 1638, .int x1, .int x2_10, .int x3_11, .int v_26]) (S' := [.ref 1638, .int x2_10]) 2 rfl ?_
            refine ge_getR (b := 1653) rfl (t1638 s) rfl (r1638_24 s) (Nat.le_of_ble_eq_true rfl) ?_
            refine ge_run (pc' := 41) (L' := [.ref 1638, .int x1, .int x2_10, .int x3_11, .int v_26]) (S' := [.int v_26, .ref 1653, .int x2_10]) 1 rfl ?_
            refine ge_iald (jn := (ix v_26)) rfl (t1653 s) ⟨g_27, rfl⟩ g_28 ?_
            refine ge_cs rfl rfl rfl rfl rfl rfl (D := 1) (Nat.le_trans (by decide) hd) (c_J_max (n := n) (u := u) (t := t) (i := i_29) (r := r) s x2_10 (i_29 1653 (ix v_26))) ?_
            rintro v_30 -
            dsimp only [bkE, F_i0]
            refine ge_run (pc' := 44) (L' := [.ref 1638, .int x1, .int v_30, .int x3_11, .int v_26]) (S' := []) 1 rfl ?_
            exact ge_leaf (Exists.intro _ rfl)
        · rintro ⟨x2_21, i_22⟩ _ ⟨w_23, rfl⟩
          try dsimp only
          refine ge_run (pc' := 16) (L' := [.ref 1638, .int x1, .int x2_21, .int (x3_11 + (1 : Int32)), w_23]) (S' := []) 2 rfl ?_
          exact ge_leaf (K := kX _ _) (Exists.intro _ rfl)
      · exact ge_leaf (K := kX _ _) (Exists.intro _ (Exists.intro _ rfl))
    · rintro ⟨x2_14, i_15⟩ _ ⟨w_16, w_17, rfl⟩
      try dsimp only
      refine ge_run (pc' := 47) (L' := [.ref 1638, .int x1, .int x2_14, w_16, w_17]) (S' := [.int x2_14]) 1 rfl ?_
      exact ge_ret rfl rfl (And.intro rfl trivial)
def f_Mo_ask (i : MI) : Option (Int32 × MI) :=
  (f_Mo_uses i).bind (fun i_1 => (f_Mo_isTurned i_1).bind (fun v_2 => (if v_2 = 0 then (some (1 : Int32)) else (some (0 : Int32)) : Option (Int32)).bind (fun y_3 => (f_Mo_throwsIf i_1 y_3 (1 : Int32)).bind (fun (v_6, i_7) => if v_6 = 0 then ((f_Mo_laysPairsThatFit i_7).bind (fun (v_9, i_10) => (itr (σ := Int32 × Int32 × Int32 × MI) (ρ := Int32 × MI) (fun (x2_11, x3_12, x4_13, i_14) => if (99 : Int32) < x4_13 then (some (.inr (x2_11, i_14))) else (if (1 : Int32) < v_9 then ((f_Mo_partBy i_14 x4_13).bind (fun (v_24, i_25) => (if v_24 < x3_12 then (some x4_13) else (some x2_11) : Option (Int32)).bind (fun y_26 => (f_J_min x3_12 v_24).bind (fun v_29 => some (.inl (y_26, v_29, (x4_13 + (1 : Int32)), i_25)))))) else (some (.inr (x2_11, i_14))))) 1000000 ((-1 : Int32), (1000000 : Int32), (0 : Int32), i_10)).bind (fun (x2_16, i_17) => some (x2_16, i_17)))) else (some ((0 : Int32), i_7))))))
set_option maxHeartbeats 4000000 in
theorem c_Mo_ask {n u : Nat} {t : MT} {i : MI} {r : MR} (s : Sh n t r)  : Cn 4 322 [.ref 1638] (n, u, t, i, r) (f_Mo_ask i ) (F_i1 n u t r) PT := by
  refine cn_of (Y := K_Mo_ask) (L0 := [.ref 1638, uV, uV, uV, uV, uV]) rfl rfl rfl ?_
  intro d hd
  unfold f_Mo_ask
  refine ge_run (pc' := 1) (L' := [.ref 1638, uV, uV, uV, uV, uV]) (S' := [.ref 1638]) 1 rfl ?_
  refine ge_cv rfl rfl rfl (t1638 s) rfl rfl rfl (D := 1) (Nat.le_trans (by decide) hd) (c_Mo_uses (n := n) (u := u) (t := t) (i := i) (r := r) s ) ?_
  rintro i_1 -
  dsimp only [bkE, F_v1]
  refine ge_run (pc' := 4) (L' := [.ref 1638, uV, uV, uV, uV, uV]) (S' := [.ref 1638, .ref 1638]) 2 rfl ?_
  refine ge_cv rfl rfl rfl (t1638 s) rfl rfl rfl (D := 2) (Nat.le_trans (by decide) hd) (c_Mo_isTurned (n := n) (u := u) (t := t) (i := i_1) (r := r) s ) ?_
  rintro v_2 -
  dsimp only [bkE, F_i0]
  refine ge_bind (K1 := fun (q : Int32) e => e = .inl (9, [.ref 1638, uV, uV, uV, uV, uV], [.int q, .ref 1638], (n, u, t, i_1, r))) ?_ ?_
  · refine ge_ne0 rfl (fun h_4 => ?_) (fun h_5 => ?_)
    · refine ge_run (pc' := 9) (L' := [.ref 1638, uV, uV, uV, uV, uV]) (S' := [.int (1 : Int32), .ref 1638]) 2 rfl ?_
      exact ge_leaf rfl
    · refine ge_run (pc' := 9) (L' := [.ref 1638, uV, uV, uV, uV, uV]) (S' := [.int (0 : Int32), .ref 1638]) 1 rfl ?_
      exact ge_leaf rfl
  · rintro y_3 _ rfl
    try dsimp only
    refine ge_run (pc' := 10) (L' := [.ref 1638, uV, uV, uV, uV, uV]) (S' := [.int (1 : Int32), .int y_3, .ref 1638]) 1 rfl ?_
    refine ge_cv rfl rfl rfl (t1638 s) rfl rfl rfl (D := 1) (Nat.le_trans (by decide) hd) (c_Mo_throwsIf (n := n) (u := u) (t := t) (i := i_1) (r := r) s y_3 (1 : Int32)) ?_
    rintro ⟨v_6, i_7⟩ -
    dsimp only [bkE, F_i1]
    refine ge_eq0 rfl (fun h_8 => ?_) (fun h_31 => ?_)
    · refine ge_run (pc' := 15) (L' := [.ref 1638, uV, uV, uV, uV, uV]) (S' := [.ref 1638]) 1 rfl ?_
      refine ge_cv rfl rfl rfl (t1638 s) rfl rfl rfl (D := 3) (Nat.le_trans (by decide) hd) (c_Mo_laysPairsThatFit (n := n) (u := u) (t := t) (i := i_7) (r := r) s ) ?_
      rintro ⟨v_9, i_10⟩ -
      dsimp only [bkE, F_i1]
      refine ge_run (pc' := 23) (L' := [.ref 1638, .int v_9, .int (-1 : Int32), .int (1000000 : Int32), .int (0 : Int32), uV]) (S' := []) 7 rfl ?_
      refine ge_bind (K1 := fun (q : Int32 × MI) e => ∃ w_18 w_19 w_20 : Value, e = .inl (46, [.ref 1638, .int v_9, .int q.1, w_18, w_19, w_20], [], (n, u, t, q.2, r))) (ge_itr (C := fun (q : Int32 × Int32 × Int32 × MI) e => ∃ w_15 : Value, e = .inl (23, [.ref 1638, .int v_9, .int q.1, .int q.2.1, .int q.2.2.1, w_15], [], (n, u, t, q.2.2.2, r))) ?_ _ _ _ (Exists.intro _ rfl)) ?_
      · rintro ⟨x2_11, x3_12, x4_13, i_14⟩ _ ⟨w_15, rfl⟩
        try dsimp only
        refine ge_run (pc' := 25) (L' := [.ref 1638, .int v_9, .int x2_11, .int x3_12, .int x4_13, w_15]) (S' := [.int (99 : Int32), .int x4_13]) 2 rfl ?_
        refine ge_gt rfl (fun h_21 => ?_) (fun h_22 => ?_)
        · exact ge_leaf (K := kX _ _) (Exists.intro _ (Exists.intro _ (Exists.intro _ rfl)))
        · refine ge_run (pc' := 28) (L' := [.ref 1638, .int v_9, .int x2_11, .int x3_12, .int x4_13, w_15]) (S' := [.int (1 : Int32), .int v_9]) 2 rfl ?_
          refine ge_le rfl (fun h_23 => ?_) (fun h_30 => ?_)
          · refine ge_run (pc' := 31) (L' := [.ref 1638, .int v_9, .int x2_11, .int x3_12, .int x4_13, w_15]) (S' := [.int x4_13, .ref 1638]) 2 rfl ?_
            refine ge_cv rfl rfl rfl (t1638 s) rfl rfl rfl (D := 3) (Nat.le_trans (by decide) hd) (c_Mo_partBy (n := n) (u := u) (t := t) (i := i_14) (r := r) s x4_13) ?_
            rintro ⟨v_24, i_25⟩ -
            dsimp only [bkE, F_i1]
            refine ge_run (pc' := 35) (L' := [.ref 1638, .int v_9, .int x2_11, .int x3_12, .int x4_13, .int v_24]) (S' := [.int x3_12, .int v_24]) 3 rfl ?_
            refine ge_bind (K1 := fun (q : Int32) e => e = .inl (39, [.ref 1638, .int v_9, .int x2_11, .int x3_12, .int x4_13, .int v_24], [.int q], (n, u, t, i_25, r))) ?_ ?_
            · refine ge_ge rfl (fun h_27 => ?_) (fun h_28 => ?_)
              · refine ge_run (pc' := 39) (L' := [.ref 1638, .int v_9, .int x2_11, .int x3_12, .int x4_13, .int v_24]) (S' := [.int x4_13]) 2 rfl ?_
                exact ge_leaf rfl
              · refine ge_run (pc' := 39) (L' := [.ref 1638, .int v_9, .int x2_11, .int x3_12, .int x4_13, .int v_24]) (S' := [.int x2_11]) 1 rfl ?_
                exact ge_leaf rfl
            · rintro y_26 _ rfl
              try dsimp only
              refine ge_run (pc' := 42) (L' := [.ref 1638, .int v_9, .int y_26, .int x3_12, .int x4_13, .int v_24]) (S' := [.int v_24, .int x3_12]) 3 rfl ?_
              refine ge_cs rfl rfl rfl rfl rfl rfl (D := 1) (Nat.le_trans (by decide) hd) (c_J_min (n := n) (u := u) (t := t) (i := i_25) (r := r) s x3_12 v_24) ?_
              rintro v_29 -
              dsimp only [bkE, F_i0]
              refine ge_run (pc' := 23) (L' := [.ref 1638, .int v_9, .int y_26, .int v_29, .int (x4_13 + (1 : Int32)), .int v_24]) (S' := []) 3 rfl ?_
              exact ge_leaf (K := kX _ _) (Exists.intro _ rfl)
          · exact ge_leaf (K := kX _ _) (Exists.intro _ (Exists.intro _ (Exists.intro _ rfl)))
      · rintro ⟨x2_16, i_17⟩ _ ⟨w_18, w_19, w_20, rfl⟩
        try dsimp only
        refine ge_run (pc' := 47) (L' := [.ref 1638, .int v_9, .int x2_16, w_18, w_19, w_20]) (S' := [.int x2_16]) 1 rfl ?_
        exact ge_ret rfl rfl (And.intro rfl trivial)
    · refine ge_run (pc' := 13) (L' := [.ref 1638, uV, uV, uV, uV, uV]) (S' := [.int (0 : Int32)]) 1 rfl ?_
      exact ge_ret rfl rfl (And.intro rfl trivial)
def f_Mo_paidAt (x0 : Int32) (x1 : Int32) : Option (Int32) :=
  some (((shl x0 (8 : Int32)) + x1))
set_option maxHeartbeats 4000000 in
theorem c_Mo_paidAt {n u : Nat} {t : MT} {i : MI} {r : MR} (s : Sh n t r) (x0 : Int32) (x1 : Int32) : Cn 1 323 [.int x0, .int x1] (n, u, t, i, r) (f_Mo_paidAt  x0 x1) (F_i0 n u t i r) PT := by
  refine cn_of (Y := K_Mo_paidAt) (L0 := [.int x0, .int x1]) rfl rfl rfl ?_
  intro d hd
  unfold f_Mo_paidAt
  refine ge_run (pc' := 5) (L' := [.int x0, .int x1]) (S' := [.int ((shl x0 (8 : Int32)) + x1)]) 5 rfl ?_
  exact ge_ret rfl rfl (And.intro rfl trivial)
