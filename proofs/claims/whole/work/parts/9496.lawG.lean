/-! ===== law: the class's lines, as a function (written by wip/gen/mk9496.py) ===== -/
def f_Lt_line1 (t : MT) (i_8 : MI) : Option (MI ⊕ ((Unit ⊕ Nat) × MI)) :=
  (f_Lt_needSort t i_8).bind (fun | (.inl v_14, i_15) => grd (i_8 1598 5) 12 (bnd (wr i_15 1599 (ix (i_8 1598 5)) v_14) (fun i_19 => (f_Ta_number i_19 (0 : Int32) (99 : Int32)).bind (fun | (.inl v_20, i_21) => grd (i_19 1598 5) 12 (bnd (wr i_21 1600 (ix (i_19 1598 5)) v_20) (fun i_25 => (f_Ta_takeWord t i_25 62).bind (fun (v_26, i_27) => (if v_26 = 0 then (some (.inl i_27)) else ((f_Lt_readCondition t i_27 (0 : Int32)).bind (fun | (.inl (), i_31) => some (.inl i_31) | (.inr c_32, i_31) => some (.inr ((.inr c_32, i_31))))) : Option ((MI) ⊕ ((Unit ⊕ Nat) × MI))).bind (fun | .inl i_28 => grd ((i_28 1598 5) + (1 : Int32)) 13 (bnd (wr i_28 1601 (ix ((i_28 1598 5) + (1 : Int32))) (i_28 1598 6)) (fun i_35 => some (.inl i_35))) | .inr y_36 => some (.inr (y_36)))))) | (.inr c_22, i_21) => some (.inr ((.inr c_22, i_21)))))) | (.inr c_16, i_15) => some (.inr ((.inr c_16, i_15))))
def f_Lt_lines (t : MT) (i : MI) : Option ((Unit ⊕ Nat) × MI) :=
  (f_Ta_startText i).bind (fun i_1 => bnd (wr i_1 1598 6 (0 : Int32)) (fun i_2 => bnd (wr i_2 1598 5 (0 : Int32)) (fun i_3 => itr (σ := MI) (ρ := (Unit ⊕ Nat) × MI) (fun i_4 => if (12 : Int32) < (i_4 1598 5) then (some (.inr ((.inl (), i_4)))) else ((f_Ta_hasNextLine i_4 (i_4 1598 5) (12 : Int32)).bind (fun | (.inl v_7, i_8) => if v_7 = 0 then (some (.inr ((.inl (), i_8)))) else ((if (i_8 1598 5) < (12 : Int32) then (f_Lt_line1 t i_8) else (some (.inl i_8)) : Option ((MI) ⊕ ((Unit ⊕ Nat) × MI))).bind (fun | .inl i_12 => bnd (wr i_12 1598 5 ((i_12 1598 5) + (1 : Int32))) (fun i_38 => some (.inl i_38)) | .inr y_39 => some (.inr (y_39)))) | (.inr c_9, i_8) => some (.inr ((.inr c_9, i_8)))))) 1000000 i_3)))
abbrev KLt (n u : Nat) (t : MT) (r : MR) : (Unit ⊕ Nat) × MI → cfg ⊕ (oR × aH) → Prop := fun x e => match x with
  | (.inl _, i') => e = .inl (65, [.ref 1598], [], (n, u, t, i', r))
  | (.inr c, i') => e = .inr (.inr n, aNew (n, u, t, i', r) c 0 6)
set_option maxHeartbeats 4000000 in
theorem g_Lt_lines {n u : Nat} {t : MT} {i : MI} {r : MR} (s : Sh n t r) {d : Nat} (hd : 160 ≤ d) : Ge d K_Lt_read (.inl (0, [.ref 1598], [], (n, u, t, i, r))) (f_Lt_lines t i) (KLt n u t r) := by
  unfold f_Lt_lines f_Lt_line1
  refine ge_run (pc' := 1) (L' := [.ref 1598]) (S' := [.ref 1598]) 1 rfl ?_
  refine ge_getR (b := 1595) rfl (t1598 s) rfl (r1598_0 s) (Nat.le_of_ble_eq_true rfl) ?_
  refine ge_cv rfl rfl rfl (t1595 s) rfl rfl rfl (D := 3) (Nat.le_trans (by decide) hd) (c_Ta_startText (n := n) (u := u) (t := t) (i := i) (r := r) s ) ?_
  rintro i_1 -
  dsimp only [bkE, F_v1]
  refine ge_run (pc' := 5) (L' := [.ref 1598]) (S' := [.int (0 : Int32), .ref 1598]) 2 rfl ?_
  refine ge_putI rfl (t1598 s) (Nat.le_of_ble_eq_true rfl) rfl (fun i_2 => ?_)
  refine ge_run (pc' := 8) (L' := [.ref 1598]) (S' := [.int (0 : Int32), .ref 1598]) 2 rfl ?_
  refine ge_putI rfl (t1598 s) (Nat.le_of_ble_eq_true rfl) rfl (fun i_3 => ?_)
  refine ge_itr (C := fun (q : MI) e => e = .inl (9, [.ref 1598], [], (n, u, t, q, r))) ?_ _ _ _ rfl
  rintro i_4 _ rfl
  try dsimp only
  refine ge_run (pc' := 10) (L' := [.ref 1598]) (S' := [.ref 1598]) 1 rfl ?_
  refine ge_getI rfl (t1598 s) rfl ?_
  refine ge_run (pc' := 12) (L' := [.ref 1598]) (S' := [.int (12 : Int32), .int (i_4 1598 5)]) 1 rfl ?_
  refine ge_gt rfl (fun h_5 => ?_) (fun h_6 => ?_)
  · exact ge_leaf rfl
  · refine ge_run (pc' := 14) (L' := [.ref 1598]) (S' := [.ref 1598]) 1 rfl ?_
    refine ge_getR (b := 1595) rfl (t1598 s) rfl (r1598_0 s) (Nat.le_of_ble_eq_true rfl) ?_
    refine ge_run (pc' := 16) (L' := [.ref 1598]) (S' := [.ref 1598, .ref 1595]) 1 rfl ?_
    refine ge_getI rfl (t1598 s) rfl ?_
    refine ge_run (pc' := 18) (L' := [.ref 1598]) (S' := [.int (12 : Int32), .int (i_4 1598 5), .ref 1595]) 1 rfl ?_
    refine ge_cv rfl rfl rfl (t1595 s) rfl rfl rfl (D := 4) (Nat.le_trans (by decide) hd) (c_Ta_hasNextLine (n := n) (u := u) (t := t) (i := i_4) (r := r) s (i_4 1598 5) (12 : Int32)) ?_
    rintro ⟨v_7 | c_9, i_8⟩ -
    · dsimp only [bkE, F_ti1]
      refine ge_eq0 rfl (fun h_10 => ?_) (fun h_11 => ?_)
      · exact ge_leaf rfl
      · refine ge_run (pc' := 21) (L' := [.ref 1598]) (S' := [.ref 1598]) 1 rfl ?_
        refine ge_getI rfl (t1598 s) rfl ?_
        refine ge_run (pc' := 23) (L' := [.ref 1598]) (S' := [.int (12 : Int32), .int (i_8 1598 5)]) 1 rfl ?_
        refine ge_bind (K1 := kX (fun (q : MI) e => e = .inl (58, [.ref 1598], [], (n, u, t, q, r))) (KLt n u t r)) ?_ ?_
        · refine ge_ge rfl (fun h_13 => ?_) (fun h_37 => ?_)
          · refine ge_run (pc' := 25) (L' := [.ref 1598]) (S' := [.ref 1598]) 1 rfl ?_
            refine ge_getR (b := 1599) rfl (t1598 s) rfl (r1598_1 s) (Nat.le_of_ble_eq_true rfl) ?_
            refine ge_run (pc' := 27) (L' := [.ref 1598]) (S' := [.ref 1598, .ref 1599]) 1 rfl ?_
            refine ge_getI rfl (t1598 s) rfl ?_
            refine ge_run (pc' := 29) (L' := [.ref 1598]) (S' := [.ref 1598, .int (i_8 1598 5), .ref 1599]) 1 rfl ?_
            refine ge_cv rfl rfl rfl (t1598 s) rfl rfl rfl (D := 8) (Nat.le_trans (by decide) hd) (c_Lt_needSort (n := n) (u := u) (t := t) (i := i_8) (r := r) s ) ?_
            rintro ⟨v_14 | c_16, i_15⟩ -
            · dsimp only [bkE, F_ti1]
              refine ge_grd (fun g_17 g_18 => ?_)
              refine ge_iast (jn := (ix (i_8 1598 5))) rfl (t1599 s) (Nat.le_of_ble_eq_true rfl) ⟨g_17, rfl⟩ g_18 (fun i_19 => ?_)
              refine ge_run (pc' := 32) (L' := [.ref 1598]) (S' := [.ref 1598]) 1 rfl ?_
              refine ge_getR (b := 1600) rfl (t1598 s) rfl (r1598_2 s) (Nat.le_of_ble_eq_true rfl) ?_
              refine ge_run (pc' := 34) (L' := [.ref 1598]) (S' := [.ref 1598, .ref 1600]) 1 rfl ?_
              refine ge_getI rfl (t1598 s) rfl ?_
              refine ge_run (pc' := 36) (L' := [.ref 1598]) (S' := [.ref 1598, .int (i_19 1598 5), .ref 1600]) 1 rfl ?_
              refine ge_getR (b := 1595) rfl (t1598 s) rfl (r1598_0 s) (Nat.le_of_ble_eq_true rfl) ?_
              refine ge_run (pc' := 39) (L' := [.ref 1598]) (S' := [.int (99 : Int32), .int (0 : Int32), .ref 1595, .int (i_19 1598 5), .ref 1600]) 2 rfl ?_
              refine ge_cv rfl rfl rfl (t1595 s) rfl rfl rfl (D := 3) (Nat.le_trans (by decide) hd) (c_Ta_number (n := n) (u := u) (t := t) (i := i_19) (r := r) s (0 : Int32) (99 : Int32)) ?_
              rintro ⟨v_20 | c_22, i_21⟩ -
              · dsimp only [bkE, F_ti1]
                refine ge_grd (fun g_23 g_24 => ?_)
                refine ge_iast (jn := (ix (i_19 1598 5))) rfl (t1600 s) (Nat.le_of_ble_eq_true rfl) ⟨g_23, rfl⟩ g_24 (fun i_25 => ?_)
                refine ge_run (pc' := 42) (L' := [.ref 1598]) (S' := [.ref 1598]) 1 rfl ?_
                refine ge_getR (b := 1595) rfl (t1598 s) rfl (r1598_0 s) (Nat.le_of_ble_eq_true rfl) ?_
                refine ge_run (pc' := 44) (L' := [.ref 1598]) (S' := [.ref 62, .ref 1595]) 1 rfl ?_
                refine ge_cv rfl rfl rfl (t1595 s) rfl rfl rfl (D := 6) (Nat.le_trans (by decide) hd) (c_Ta_takeWord (n := n) (u := u) (t := t) (i := i_25) (r := r) s 62 (strAd 30)) ?_
                rintro ⟨v_26, i_27⟩ -
                dsimp only [bkE, F_i1]
                refine ge_bind (K1 := kX (fun (q : MI) e => e = .inl (49, [.ref 1598], [], (n, u, t, q, r))) (KLt n u t r)) ?_ ?_
                · refine ge_eq0 rfl (fun h_29 => ?_) (fun h_30 => ?_)
                  · exact ge_leaf rfl
                  · refine ge_run (pc' := 48) (L' := [.ref 1598]) (S' := [.int (0 : Int32), .ref 1598]) 2 rfl ?_
                    refine ge_cv rfl rfl rfl (t1598 s) rfl rfl rfl (D := 160) (Nat.le_trans (by decide) hd) (c_Lt_readCondition (n := n) (u := u) (t := t) (i := i_27) (r := r) s (0 : Int32)) ?_
                    rintro ⟨⟨⟩ | c_32, i_31⟩ -
                    · dsimp only [bkE, F_tv1]
                      exact ge_leaf rfl
                    · exact ge_leaf rfl
                · rintro (i_28 | y_36) e he
                  · obtain rfl := he
                    try dsimp only
                    refine ge_run (pc' := 50) (L' := [.ref 1598]) (S' := [.ref 1598]) 1 rfl ?_
                    refine ge_getR (b := 1601) rfl (t1598 s) rfl (r1598_3 s) (Nat.le_of_ble_eq_true rfl) ?_
                    refine ge_run (pc' := 52) (L' := [.ref 1598]) (S' := [.ref 1598, .ref 1601]) 1 rfl ?_
                    refine ge_getI rfl (t1598 s) rfl ?_
                    refine ge_run (pc' := 56) (L' := [.ref 1598]) (S' := [.ref 1598, .int ((i_28 1598 5) + (1 : Int32)), .ref 1601]) 3 rfl ?_
                    refine ge_getI rfl (t1598 s) rfl ?_
                    refine ge_grd (fun g_33 g_34 => ?_)
                    refine ge_iast (jn := (ix ((i_28 1598 5) + (1 : Int32)))) rfl (t1601 s) (Nat.le_of_ble_eq_true rfl) ⟨g_33, rfl⟩ g_34 (fun i_35 => ?_)
                    exact ge_leaf rfl
                  · exact ge_leaf he
              · exact ge_leaf rfl
            · exact ge_leaf rfl
          · exact ge_leaf rfl
        · rintro (i_12 | y_39) e he
          · obtain rfl := he
            try dsimp only
            refine ge_run (pc' := 60) (L' := [.ref 1598]) (S' := [.ref 1598, .ref 1598]) 2 rfl ?_
            refine ge_getI rfl (t1598 s) rfl ?_
            refine ge_run (pc' := 63) (L' := [.ref 1598]) (S' := [.int ((i_12 1598 5) + (1 : Int32)), .ref 1598]) 2 rfl ?_
            refine ge_putI rfl (t1598 s) (Nat.le_of_ble_eq_true rfl) rfl (fun i_38 => ?_)
            refine ge_run (pc' := 9) (L' := [.ref 1598]) (S' := []) 1 rfl ?_
            exact ge_leaf (K := kX _ _) rfl
          · exact ge_leaf he
    · exact ge_leaf rfl

