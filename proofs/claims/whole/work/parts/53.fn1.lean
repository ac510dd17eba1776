/-! ===== methods as functions, part 1 (written by wip/gen/decall.py) ===== -/
def fb_Lt_readCondition (R_Lt_readCondition : MT → MI → Int32 → Option ((Unit ⊕ Nat) × MI)) (R_Lt_readAtom : MT → MI → Int32 → Option ((Unit ⊕ Nat) × MI)) (t : MT) (i : MI) (x1 : Int32) : Option ((Unit ⊕ Nat) × MI) :=
  itr (σ := Int32 × MI) (ρ := (Unit ⊕ Nat) × MI) (fun (x2_1, i_2) => if x2_1 < (400 : Int32) then (if x2_1 = 0 then ((itr (σ := Int32 × MI) (ρ := (MI) ⊕ ((Unit ⊕ Nat) × MI)) (fun (x3_6, i_7) => if x3_6 < (400 : Int32) then (if x3_6 = 0 then ((R_Lt_readAtom t i_7 x1).bind (fun | (.inl (), i_12) => (if 0 < x3_6 then ((f_Lt_emit i_12 (-15 : Int32)).bind (fun i_16 => some i_16)) else (some i_12) : Option (MI)).bind (fun i_14 => some (.inl ((x3_6 + (1 : Int32)), i_14))) | (.inr c_13, i_12) => some (.inr (.inr ((.inr c_13, i_12)))))) else ((f_Ta_takeWord t i_7 66).bind (fun (v_19, i_20) => if v_19 = 0 then (some (.inr (.inl i_20))) else ((R_Lt_readAtom t i_20 x1).bind (fun | (.inl (), i_23) => (if 0 < x3_6 then ((f_Lt_emit i_23 (-15 : Int32)).bind (fun i_27 => some i_27)) else (some i_23) : Option (MI)).bind (fun i_25 => some (.inl ((x3_6 + (1 : Int32)), i_25))) | (.inr c_24, i_23) => some (.inr (.inr ((.inr c_24, i_23))))))))) else (some (.inr (.inl i_7)))) 1000000 ((0 : Int32), i_2)).bind (fun | .inl i_8 => (if 0 < x2_1 then ((f_Lt_emit i_8 (-16 : Int32)).bind (fun i_32 => some i_32)) else (some i_8) : Option (MI)).bind (fun i_30 => some (.inl ((x2_1 + (1 : Int32)), i_30))) | .inr y_34 => some (.inr (y_34)))) else ((f_Ta_takeWord t i_2 64).bind (fun (v_36, i_37) => if v_36 = 0 then (some (.inr ((.inl (), i_37)))) else ((itr (σ := Int32 × MI) (ρ := (MI) ⊕ ((Unit ⊕ Nat) × MI)) (fun (x3_40, i_41) => if x3_40 < (400 : Int32) then (if x3_40 = 0 then ((R_Lt_readAtom t i_41 x1).bind (fun | (.inl (), i_46) => (if 0 < x3_40 then ((f_Lt_emit i_46 (-15 : Int32)).bind (fun i_50 => some i_50)) else (some i_46) : Option (MI)).bind (fun i_48 => some (.inl ((x3_40 + (1 : Int32)), i_48))) | (.inr c_47, i_46) => some (.inr (.inr ((.inr c_47, i_46)))))) else ((f_Ta_takeWord t i_41 66).bind (fun (v_53, i_54) => if v_53 = 0 then (some (.inr (.inl i_54))) else ((R_Lt_readAtom t i_54 x1).bind (fun | (.inl (), i_57) => (if 0 < x3_40 then ((f_Lt_emit i_57 (-15 : Int32)).bind (fun i_61 => some i_61)) else (some i_57) : Option (MI)).bind (fun i_59 => some (.inl ((x3_40 + (1 : Int32)), i_59))) | (.inr c_58, i_57) => some (.inr (.inr ((.inr c_58, i_57))))))))) else (some (.inr (.inl i_41)))) 1000000 ((0 : Int32), i_37)).bind (fun | .inl i_42 => (if 0 < x2_1 then ((f_Lt_emit i_42 (-16 : Int32)).bind (fun i_66 => some i_66)) else (some i_42) : Option (MI)).bind (fun i_64 => some (.inl ((x2_1 + (1 : Int32)), i_64))) | .inr y_68 => some (.inr (y_68))))))) else (some (.inr ((.inl (), i_2))))) 1000000 ((0 : Int32), i)
set_option maxHeartbeats 4000000 in
theorem cb_Lt_readCondition {DR : Nat} {R_Lt_readCondition : MT → MI → Int32 → Option ((Unit ⊕ Nat) × MI)} {R_Lt_readAtom : MT → MI → Int32 → Option ((Unit ⊕ Nat) × MI)} (hR_Lt_readCondition : ∀ {n u : Nat} {t : MT} {i : MI} {r : MR} (s : Sh n t r) (x1 : Int32), Cn DR 25 [.ref 1598, .int x1] (n, u, t, i, r) (R_Lt_readCondition t i x1) (F_tv1 n u t r) PT) (hR_Lt_readAtom : ∀ {n u : Nat} {t : MT} {i : MI} {r : MR} (s : Sh n t r) (x1 : Int32), Cn DR 26 [.ref 1598, .int x1] (n, u, t, i, r) (R_Lt_readAtom t i x1) (F_tv1 n u t r) PT) {n u : Nat} {t : MT} {i : MI} {r : MR} (s : Sh n t r) (x1 : Int32) : Cn (DR + 7 + 1) 25 [.ref 1598, .int x1] (n, u, t, i, r) (fb_Lt_readCondition R_Lt_readCondition R_Lt_readAtom t i x1) (F_tv1 n u t r) PT := by
  refine cn_of (Y := K_Lt_readCondition) (L0 := [.ref 1598, .int x1, uV, uV]) rfl rfl rfl ?_
  intro d hd
  unfold fb_Lt_readCondition
  refine ge_run (pc' := 2) (L' := [.ref 1598, .int x1, .int (0 : Int32), uV]) (S' := []) 2 rfl ?_
  refine ge_itr (C := fun (q : Int32 × MI) e => ∃ w_3 : Value, e = .inl (2, [.ref 1598, .int x1, .int q.1, w_3], [], (n, u, t, q.2, r))) ?_ _ _ _ (Exists.intro _ rfl)
  rintro ⟨x2_1, i_2⟩ _ ⟨w_3, rfl⟩
  try dsimp only
  refine ge_run (pc' := 4) (L' := [.ref 1598, .int x1, .int x2_1, w_3]) (S' := [.int (400 : Int32), .int x2_1]) 2 rfl ?_
  refine ge_ge rfl (fun h_4 => ?_) (fun h_69 => ?_)
  · refine ge_run (pc' := 6) (L' := [.ref 1598, .int x1, .int x2_1, w_3]) (S' := [.int x2_1]) 1 rfl ?_
    refine ge_eq0 rfl (fun h_5 => ?_) (fun h_35 => ?_)
    · refine ge_run (pc' := 14) (L' := [.ref 1598, .int x1, .int x2_1, .int (0 : Int32)]) (S' := []) 2 rfl ?_
      refine ge_bind (K1 := kX (fun (q : MI) e => ∃ w_9 : Value, e = .inl (34, [.ref 1598, .int x1, .int x2_1, w_9], [], (n, u, t, q, r))) (kR (F_tv1 n u t r) PT)) (ge_itr (C := fun (q : Int32 × MI) e => e = .inl (14, [.ref 1598, .int x1, .int x2_1, .int q.1], [], (n, u, t, q.2, r))) ?_ _ _ _ rfl) ?_
      · rintro ⟨x3_6, i_7⟩ _ rfl
        try dsimp only
        refine ge_run (pc' := 16) (L' := [.ref 1598, .int x1, .int x2_1, .int x3_6]) (S' := [.int (400 : Int32), .int x3_6]) 2 rfl ?_
        refine ge_ge rfl (fun h_10 => ?_) (fun h_29 => ?_)
        · refine ge_run (pc' := 18) (L' := [.ref 1598, .int x1, .int x2_1, .int x3_6]) (S' := [.int x3_6]) 1 rfl ?_
          refine ge_eq0 rfl (fun h_11 => ?_) (fun h_18 => ?_)
          · refine ge_run (pc' := 26) (L' := [.ref 1598, .int x1, .int x2_1, .int x3_6]) (S' := [.int x1, .ref 1598]) 2 rfl ?_
            refine ge_cv rfl rfl rfl (t1598 s) rfl rfl rfl (D := DR) (by omega) (hR_Lt_readAtom (n := n) (u := u) (t := t) (i := i_7) (r := r) s x1) ?_
            rintro ⟨⟨⟩ | c_13, i_12⟩ -
            · dsimp only [bkE, F_tv1]
              refine ge_run (pc' := 28) (L' := [.ref 1598, .int x1, .int x2_1, .int x3_6]) (S' := [.int x3_6]) 1 rfl ?_
              refine ge_bind (K1 := fun (q : MI) e => e = .inl (32, [.ref 1598, .int x1, .int x2_1, .int x3_6], [], (n, u, t, q, r))) ?_ ?_
              · refine ge_le0 rfl (fun h_15 => ?_) (fun h_17 => ?_)
                · refine ge_run (pc' := 31) (L' := [.ref 1598, .int x1, .int x2_1, .int x3_6]) (S' := [.int (-15 : Int32), .ref 1598]) 2 rfl ?_
                  refine ge_cv rfl rfl rfl (t1598 s) rfl rfl rfl (D := 1) (by omega) (c_Lt_emit (n := n) (u := u) (t := t) (i := i_12) (r := r) s (-15 : Int32)) ?_
                  rintro i_16 -
                  dsimp only [bkE, F_v1]
                  exact ge_leaf rfl
                · exact ge_leaf rfl
              · rintro i_14 _ rfl
                try dsimp only
                refine ge_run (pc' := 14) (L' := [.ref 1598, .int x1, .int x2_1, .int (x3_6 + (1 : Int32))]) (S' := []) 2 rfl ?_
                exact ge_leaf (K := kX _ _) rfl
            · exact ge_leaf (And.intro rfl trivial)
          · refine ge_run (pc' := 20) (L' := [.ref 1598, .int x1, .int x2_1, .int x3_6]) (S' := [.ref 1598]) 1 rfl ?_
            refine ge_getR (b := 1595) rfl (t1598 s) rfl (r1598_0 s) (Nat.le_of_ble_eq_true rfl) ?_
            refine ge_run (pc' := 22) (L' := [.ref 1598, .int x1, .int x2_1, .int x3_6]) (S' := [.ref 66, .ref 1595]) 1 rfl ?_
            refine ge_cv rfl rfl rfl (t1595 s) rfl rfl rfl (D := 6) (by omega) (c_Ta_takeWord (n := n) (u := u) (t := t) (i := i_7) (r := r) s 66 (strAd 32)) ?_
            rintro ⟨v_19, i_20⟩ -
            dsimp only [bkE, F_i1]
            refine ge_eq0 rfl (fun h_21 => ?_) (fun h_22 => ?_)
            · exact ge_leaf (K := kX _ _) (Exists.intro _ rfl)
            · refine ge_run (pc' := 26) (L' := [.ref 1598, .int x1, .int x2_1, .int x3_6]) (S' := [.int x1, .ref 1598]) 2 rfl ?_
              refine ge_cv rfl rfl rfl (t1598 s) rfl rfl rfl (D := DR) (by omega) (hR_Lt_readAtom (n := n) (u := u) (t := t) (i := i_20) (r := r) s x1) ?_
              rintro ⟨⟨⟩ | c_24, i_23⟩ -
              · dsimp only [bkE, F_tv1]
                refine ge_run (pc' := 28) (L' := [.ref 1598, .int x1, .int x2_1, .int x3_6]) (S' := [.int x3_6]) 1 rfl ?_
                refine ge_bind (K1 := fun (q : MI) e => e = .inl (32, [.ref 1598, .int x1, .int x2_1, .int x3_6], [], (n, u, t, q, r))) ?_ ?_
                · refine ge_le0 rfl (fun h_26 => ?_) (fun h_28 => ?_)
                  · refine ge_run (pc' := 31) (L' := [.ref 1598, .int x1, .int x2_1, .int x3_6]) (S' := [.int (-15 : Int32), .ref 1598]) 2 rfl ?_
                    refine ge_cv rfl rfl rfl (t1598 s) rfl rfl rfl (D := 1) (by omega) (c_Lt_emit (n := n) (u := u) (t := t) (i := i_23) (r := r) s (-15 : Int32)) ?_
                    rintro i_27 -
                    dsimp only [bkE, F_v1]
                    exact ge_leaf rfl
                  · exact ge_leaf rfl
                · rintro i_25 _ rfl
                  try dsimp only
                  refine ge_run (pc' := 14) (L' := [.ref 1598, .int x1, .int x2_1, .int (x3_6 + (1 : Int32))]) (S' := []) 2 rfl ?_
                  exact ge_leaf (K := kX _ _) rfl
              · exact ge_leaf (And.intro rfl trivial)
        · exact ge_leaf (K := kX _ _) (Exists.intro _ rfl)
      · rintro (i_8 | y_34) e he
        · obtain ⟨w_9, rfl⟩ := he
          try dsimp only
          refine ge_run (pc' := 35) (L' := [.ref 1598, .int x1, .int x2_1, w_9]) (S' := [.int x2_1]) 1 rfl ?_
          refine ge_bind (K1 := fun (q : MI) e => e = .inl (39, [.ref 1598, .int x1, .int x2_1, w_9], [], (n, u, t, q, r))) ?_ ?_
          · refine ge_le0 rfl (fun h_31 => ?_) (fun h_33 => ?_)
            · refine ge_run (pc' := 38) (L' := [.ref 1598, .int x1, .int x2_1, w_9]) (S' := [.int (-16 : Int32), .ref 1598]) 2 rfl ?_
              refine ge_cv rfl rfl rfl (t1598 s) rfl rfl rfl (D := 1) (by omega) (c_Lt_emit (n := n) (u := u) (t := t) (i := i_8) (r := r) s (-16 : Int32)) ?_
              rintro i_32 -
              dsimp only [bkE, F_v1]
              exact ge_leaf rfl
            · exact ge_leaf rfl
          · rintro i_30 _ rfl
            try dsimp only
            refine ge_run (pc' := 2) (L' := [.ref 1598, .int x1, .int (x2_1 + (1 : Int32)), w_9]) (S' := []) 2 rfl ?_
            exact ge_leaf (K := kX _ _) (Exists.intro _ rfl)
        · exact ge_leaf he
    · refine ge_run (pc' := 8) (L' := [.ref 1598, .int x1, .int x2_1, w_3]) (S' := [.ref 1598]) 1 rfl ?_
      refine ge_getR (b := 1595) rfl (t1598 s) rfl (r1598_0 s) (Nat.le_of_ble_eq_true rfl) ?_
      refine ge_run (pc' := 10) (L' := [.ref 1598, .int x1, .int x2_1, w_3]) (S' := [.ref 64, .ref 1595]) 1 rfl ?_
      refine ge_cv rfl rfl rfl (t1595 s) rfl rfl rfl (D := 6) (by omega) (c_Ta_takeWord (n := n) (u := u) (t := t) (i := i_2) (r := r) s 64 (strAd 31)) ?_
      rintro ⟨v_36, i_37⟩ -
      dsimp only [bkE, F_i1]
      refine ge_eq0 rfl (fun h_38 => ?_) (fun h_39 => ?_)
      · exact ge_retv rfl rfl (And.intro rfl trivial)
      · refine ge_run (pc' := 14) (L' := [.ref 1598, .int x1, .int x2_1, .int (0 : Int32)]) (S' := []) 2 rfl ?_
        refine ge_bind (K1 := kX (fun (q : MI) e => ∃ w_43 : Value, e = .inl (34, [.ref 1598, .int x1, .int x2_1, w_43], [], (n, u, t, q, r))) (kR (F_tv1 n u t r) PT)) (ge_itr (C := fun (q : Int32 × MI) e => e = .inl (14, [.ref 1598, .int x1, .int x2_1, .int q.1], [], (n, u, t, q.2, r))) ?_ _ _ _ rfl) ?_
        · rintro ⟨x3_40, i_41⟩ _ rfl
          try dsimp only
          refine ge_run (pc' := 16) (L' := [.ref 1598, .int x1, .int x2_1, .int x3_40]) (S' := [.int (400 : Int32), .int x3_40]) 2 rfl ?_
          refine ge_ge rfl (fun h_44 => ?_) (fun h_63 => ?_)
          · refine ge_run (pc' := 18) (L' := [.ref 1598, .int x1, .int x2_1, .int x3_40]) (S' := [.int x3_40]) 1 rfl ?_
            refine ge_eq0 rfl (fun h_45 => ?_) (fun h_52 => ?_)
            · refine ge_run (pc' := 26) (L' := [.ref 1598, .int x1, .int x2_1, .int x3_40]) (S' := [.int x1, .ref 1598]) 2 rfl ?_
              refine ge_cv rfl rfl rfl (t1598 s) rfl rfl rfl (D := DR) (by omega) (hR_Lt_readAtom (n := n) (u := u) (t := t) (i := i_41) (r := r) s x1) ?_
              rintro ⟨⟨⟩ | c_47, i_46⟩ -
              · dsimp only [bkE, F_tv1]
                refine ge_run (pc' := 28) (L' := [.ref 1598, .int x1, .int x2_1, .int x3_40]) (S' := [.int x3_40]) 1 rfl ?_
                refine ge_bind (K1 := fun (q : MI) e => e = .inl (32, [.ref 1598, .int x1, .int x2_1, .int x3_40], [], (n, u, t, q, r))) ?_ ?_
                · refine ge_le0 rfl (fun h_49 => ?_) (fun h_51 => ?_)
                  · refine ge_run (pc' := 31) (L' := [.ref 1598, .int x1, .int x2_1, .int x3_40]) (S' := [.int (-15 : Int32), .ref 1598]) 2 rfl ?_
                    refine ge_cv rfl rfl rfl (t1598 s) rfl rfl rfl (D := 1) (by omega) (c_Lt_emit (n := n) (u := u) (t := t) (i := i_46) (r := r) s (-15 : Int32)) ?_
                    rintro i_50 -
                    dsimp only [bkE, F_v1]
                    exact ge_leaf rfl
                  · exact ge_leaf rfl
                · rintro i_48 _ rfl
                  try dsimp only
                  refine ge_run (pc' := 14) (L' := [.ref 1598, .int x1, .int x2_1, .int (x3_40 + (1 : Int32))]) (S' := []) 2 rfl ?_
                  exact ge_leaf (K := kX _ _) rfl
              · exact ge_leaf (And.intro rfl trivial)
            · refine ge_run (pc' := 20) (L' := [.ref 1598, .int x1, .int x2_1, .int x3_40]) (S' := [.ref 1598]) 1 rfl ?_
              refine ge_getR (b := 1595) rfl (t1598 s) rfl (r1598_0 s) (Nat.le_of_ble_eq_true rfl) ?_
              refine ge_run (pc' := 22) (L' := [.ref 1598, .int x1, .int x2_1, .int x3_40]) (S' := [.ref 66, .ref 1595]) 1 rfl ?_
              refine ge_cv rfl rfl rfl (t1595 s) rfl rfl rfl (D := 6) (by omega) (c_Ta_takeWord (n := n) (u := u) (t := t) (i := i_41) (r := r) s 66 (strAd 32)) ?_
              rintro ⟨v_53, i_54⟩ -
              dsimp only [bkE, F_i1]
              refine ge_eq0 rfl (fun h_55 => ?_) (fun h_56 => ?_)
              · exact ge_leaf (K := kX _ _) (Exists.intro _ rfl)
              · refine ge_run (pc' := 26) (L' := [.ref 1598, .int x1, .int x2_1, .int x3_40]) (S' := [.int x1, .ref 1598]) 2 rfl ?_
                refine ge_cv rfl rfl rfl (t1598 s) rfl rfl rfl (D := DR) (by omega) (hR_Lt_readAtom (n := n) (u := u) (t := t) (i := i_54) (r := r) s x1) ?_
                rintro ⟨⟨⟩ | c_58, i_57⟩ -
                · dsimp only [bkE, F_tv1]
                  refine ge_run (pc' := 28) (L' := [.ref 1598, .int x1, .int x2_1, .int x3_40]) (S' := [.int x3_40]) 1 rfl ?_
                  refine ge_bind (K1 := fun (q : MI) e => e = .inl (32, [.ref 1598, .int x1, .int x2_1, .int x3_40], [], (n, u, t, q, r))) ?_ ?_
                  · refine ge_le0 rfl (fun h_60 => ?_) (fun h_62 => ?_)
                    · refine ge_run (pc' := 31) (L' := [.ref 1598, .int x1, .int x2_1, .int x3_40]) (S' := [.int (-15 : Int32), .ref 1598]) 2 rfl ?_
                      refine ge_cv rfl rfl rfl (t1598 s) rfl rfl rfl (D := 1) (by omega) (c_Lt_emit (n := n) (u := u) (t := t) (i := i_57) (r := r) s (-15 : Int32)) ?_
                      rintro i_61 -
                      dsimp only [bkE, F_v1]
                      exact ge_leaf rfl
                    · exact ge_leaf rfl
                  · rintro i_59 _ rfl
                    try dsimp only
                    refine ge_run (pc' := 14) (L' := [.ref 1598, .int x1, .int x2_1, .int (x3_40 + (1 : Int32))]) (S' := []) 2 rfl ?_
                    exact ge_leaf (K := kX _ _) rfl
                · exact ge_leaf (And.intro rfl trivial)
          · exact ge_leaf (K := kX _ _) (Exists.intro _ rfl)
        · rintro (i_42 | y_68) e he
          · obtain ⟨w_43, rfl⟩ := he
            try dsimp only
            refine ge_run (pc' := 35) (L' := [.ref 1598, .int x1, .int x2_1, w_43]) (S' := [.int x2_1]) 1 rfl ?_
            refine ge_bind (K1 := fun (q : MI) e => e = .inl (39, [.ref 1598, .int x1, .int x2_1, w_43], [], (n, u, t, q, r))) ?_ ?_
            · refine ge_le0 rfl (fun h_65 => ?_) (fun h_67 => ?_)
              · refine ge_run (pc' := 38) (L' := [.ref 1598, .int x1, .int x2_1, w_43]) (S' := [.int (-16 : Int32), .ref 1598]) 2 rfl ?_
                refine ge_cv rfl rfl rfl (t1598 s) rfl rfl rfl (D := 1) (by omega) (c_Lt_emit (n := n) (u := u) (t := t) (i := i_42) (r := r) s (-16 : Int32)) ?_
                rintro i_66 -
                dsimp only [bkE, F_v1]
                exact ge_leaf rfl
              · exact ge_leaf rfl
            · rintro i_64 _ rfl
              try dsimp only
              refine ge_run (pc' := 2) (L' := [.ref 1598, .int x1, .int (x2_1 + (1 : Int32)), w_43]) (S' := []) 2 rfl ?_
              exact ge_leaf (K := kX _ _) (Exists.intro _ rfl)
          · exact ge_leaf he
  · exact ge_retv rfl rfl (And.intro rfl trivial)
def fb_Lt_readAtom (R_Lt_readCondition : MT → MI → Int32 → Option ((Unit ⊕ Nat) × MI)) (R_Lt_readAtom : MT → MI → Int32 → Option ((Unit ⊕ Nat) × MI)) (t : MT) (i : MI) (x1 : Int32) : Option ((Unit ⊕ Nat) × MI) :=
  (f_Ta_isWord t i 68).bind (fun v_1 => (if v_1 = 0 then ((f_Ta_isSign i (40 : Int32)).bind (fun v_4 => if v_4 = 0 then (some (0 : Int32)) else (some (1 : Int32)))) else (some (1 : Int32)) : Option (Int32)).bind (fun y_2 => if y_2 = 0 then ((f_Ta_takeWord t i 68).bind (fun (v_9, i_10) => if v_9 = 0 then ((f_Ta_takeSign i_10 (40 : Int32)).bind (fun (v_12, i_13) => if v_12 = 0 then ((f_Ta_takeWord t i_13 70).bind (fun (v_15, i_16) => if v_15 = 0 then ((f_Ta_takeWord t i_16 72).bind (fun (v_18, i_19) => if v_18 = 0 then ((f_Ta_takeWord t i_19 74).bind (fun (v_21, i_22) => if v_21 = 0 then ((f_Lt_readSum t i_22).bind (fun | (.inl (), i_24) => (f_Ta_takeSign i_24 (60 : Int32)).bind (fun (v_26, i_27) => (if v_26 = 0 then ((f_Ta_needSign i_27 (62 : Int32)).bind (fun | (.inl (), i_30) => some (.inl i_30) | (.inr c_31, i_30) => some (.inr ((.inr c_31, i_30))))) else (some (.inl i_27)) : Option ((MI) ⊕ ((Unit ⊕ Nat) × MI))).bind (fun | .inl i_28 => (f_Lt_readSum t i_28).bind (fun | (.inl (), i_33) => (if v_26 = 0 then (some (-14 : Int32)) else (some (-13 : Int32)) : Option (Int32)).bind (fun y_35 => (f_Lt_emit i_33 y_35).bind (fun i_38 => some (.inl (), i_38))) | (.inr c_34, i_33) => some (.inr c_34, i_33)) | .inr y_39 => some y_39)) | (.inr c_25, i_24) => some (.inr c_25, i_24))) else ((f_Lt_emit i_22 (-10 : Int32)).bind (fun i_41 => some (.inl (), i_41))))) else ((f_Lt_emit i_19 (-9 : Int32)).bind (fun i_43 => some (.inl (), i_43))))) else ((f_Lt_emit i_16 (-8 : Int32)).bind (fun i_45 => some (.inl (), i_45))))) else ((R_Lt_readCondition t i_13 (x1 + (1 : Int32))).bind (fun | (.inl (), i_47) => (f_Ta_needSign i_47 (41 : Int32)).bind (fun | (.inl (), i_49) => some (.inl (), i_49) | (.inr c_50, i_49) => some (.inr c_50, i_49)) | (.inr c_48, i_47) => some (.inr c_48, i_47))))) else ((R_Lt_readAtom t i_10 (x1 + (1 : Int32))).bind (fun | (.inl (), i_52) => (f_Lt_emit i_52 (-11 : Int32)).bind (fun i_54 => some (.inl (), i_54)) | (.inr c_53, i_52) => some (.inr c_53, i_52))))) else (if x1 < (6 : Int32) then ((f_Ta_takeWord t i 68).bind (fun (v_57, i_58) => if v_57 = 0 then ((f_Ta_takeSign i_58 (40 : Int32)).bind (fun (v_60, i_61) => if v_60 = 0 then ((f_Ta_takeWord t i_61 70).bind (fun (v_63, i_64) => if v_63 = 0 then ((f_Ta_takeWord t i_64 72).bind (fun (v_66, i_67) => if v_66 = 0 then ((f_Ta_takeWord t i_67 74).bind (fun (v_69, i_70) => if v_69 = 0 then ((f_Lt_readSum t i_70).bind (fun | (.inl (), i_72) => (f_Ta_takeSign i_72 (60 : Int32)).bind (fun (v_74, i_75) => (if v_74 = 0 then ((f_Ta_needSign i_75 (62 : Int32)).bind (fun | (.inl (), i_78) => some (.inl i_78) | (.inr c_79, i_78) => some (.inr ((.inr c_79, i_78))))) else (some (.inl i_75)) : Option ((MI) ⊕ ((Unit ⊕ Nat) × MI))).bind (fun | .inl i_76 => (f_Lt_readSum t i_76).bind (fun | (.inl (), i_81) => (if v_74 = 0 then (some (-14 : Int32)) else (some (-13 : Int32)) : Option (Int32)).bind (fun y_83 => (f_Lt_emit i_81 y_83).bind (fun i_86 => some (.inl (), i_86))) | (.inr c_82, i_81) => some (.inr c_82, i_81)) | .inr y_87 => some y_87)) | (.inr c_73, i_72) => some (.inr c_73, i_72))) else ((f_Lt_emit i_70 (-10 : Int32)).bind (fun i_89 => some (.inl (), i_89))))) else ((f_Lt_emit i_67 (-9 : Int32)).bind (fun i_91 => some (.inl (), i_91))))) else ((f_Lt_emit i_64 (-8 : Int32)).bind (fun i_93 => some (.inl (), i_93))))) else ((R_Lt_readCondition t i_61 (x1 + (1 : Int32))).bind (fun | (.inl (), i_95) => (f_Ta_needSign i_95 (41 : Int32)).bind (fun | (.inl (), i_97) => some (.inl (), i_97) | (.inr c_98, i_97) => some (.inr c_98, i_97)) | (.inr c_96, i_95) => some (.inr c_96, i_95))))) else ((R_Lt_readAtom t i_58 (x1 + (1 : Int32))).bind (fun | (.inl (), i_100) => (f_Lt_emit i_100 (-11 : Int32)).bind (fun i_102 => some (.inl (), i_102)) | (.inr c_101, i_100) => some (.inr c_101, i_100))))) else ((f_Ta_refuse i).bind (fun | (.inl (), i_104) => some (.inl (), i_104) | (.inr c_105, i_104) => some (.inr c_105, i_104))))))
set_option maxHeartbeats 4000000 in
theorem cb_Lt_readAtom {DR : Nat} {R_Lt_readCondition : MT → MI → Int32 → Option ((Unit ⊕ Nat) × MI)} {R_Lt_readAtom : MT → MI → Int32 → Option ((Unit ⊕ Nat) × MI)} (hR_Lt_readCondition : ∀ {n u : Nat} {t : MT} {i : MI} {r : MR} (s : Sh n t r) (x1 : Int32), Cn DR 25 [.ref 1598, .int x1] (n, u, t, i, r) (R_Lt_readCondition t i x1) (F_tv1 n u t r) PT) (hR_Lt_readAtom : ∀ {n u : Nat} {t : MT} {i : MI} {r : MR} (s : Sh n t r) (x1 : Int32), Cn DR 26 [.ref 1598, .int x1] (n, u, t, i, r) (R_Lt_readAtom t i x1) (F_tv1 n u t r) PT) {n u : Nat} {t : MT} {i : MI} {r : MR} (s : Sh n t r) (x1 : Int32) : Cn (DR + 7 + 1) 26 [.ref 1598, .int x1] (n, u, t, i, r) (fb_Lt_readAtom R_Lt_readCondition R_Lt_readAtom t i x1) (F_tv1 n u t r) PT := by
  refine cn_of (Y := K_Lt_readAtom) (L0 := [.ref 1598, .int x1, uV, uV]) rfl rfl rfl ?_
  intro d hd
  unfold fb_Lt_readAtom
  refine ge_run (pc' := 1) (L' := [.ref 1598, .int x1, uV, uV]) (S' := [.ref 1598]) 1 rfl ?_
  refine ge_getR (b := 1595) rfl (t1598 s) rfl (r1598_0 s) (Nat.le_of_ble_eq_true rfl) ?_
  refine ge_run (pc' := 3) (L' := [.ref 1598, .int x1, uV, uV]) (S' := [.ref 68, .ref 1595]) 1 rfl ?_
  refine ge_cv rfl rfl rfl (t1595 s) rfl rfl rfl (D := 5) (by omega) (c_Ta_isWord (n := n) (u := u) (t := t) (i := i) (r := r) s 68 (strAd 33)) ?_
  rintro v_1 -
  dsimp only [bkE, F_i0]
  refine ge_bind (K1 := fun (q : Int32) e => e = .inl (13, [.ref 1598, .int x1, uV, uV], [.int q], (n, u, t, i, r))) ?_ ?_
  · refine ge_ne0 rfl (fun h_3 => ?_) (fun h_7 => ?_)
    · refine ge_run (pc' := 6) (L' := [.ref 1598, .int x1, uV, uV]) (S' := [.ref 1598]) 1 rfl ?_
      refine ge_getR (b := 1595) rfl (t1598 s) rfl (r1598_0 s) (Nat.le_of_ble_eq_true rfl) ?_
      refine ge_run (pc' := 8) (L' := [.ref 1598, .int x1, uV, uV]) (S' := [.int (40 : Int32), .ref 1595]) 1 rfl ?_
      refine ge_cv rfl rfl rfl (t1595 s) rfl rfl rfl (D := 1) (by omega) (c_Ta_isSign (n := n) (u := u) (t := t) (i := i) (r := r) s (40 : Int32)) ?_
      rintro v_4 -
      dsimp only [bkE, F_i0]
      refine ge_eq0 rfl (fun h_5 => ?_) (fun h_6 => ?_)
      · refine ge_run (pc' := 13) (L' := [.ref 1598, .int x1, uV, uV]) (S' := [.int (0 : Int32)]) 1 rfl ?_
        exact ge_leaf rfl
      · refine ge_run (pc' := 13) (L' := [.ref 1598, .int x1, uV, uV]) (S' := [.int (1 : Int32)]) 2 rfl ?_
        exact ge_leaf rfl
    · refine ge_run (pc' := 13) (L' := [.ref 1598, .int x1, uV, uV]) (S' := [.int (1 : Int32)]) 2 rfl ?_
      exact ge_leaf rfl
  · rintro y_2 _ rfl
    try dsimp only
    refine ge_run (pc' := 15) (L' := [.ref 1598, .int x1, .int y_2, uV]) (S' := [.int y_2]) 2 rfl ?_
    refine ge_eq0 rfl (fun h_8 => ?_) (fun h_55 => ?_)
    · refine ge_run (pc' := 24) (L' := [.ref 1598, .int x1, .int y_2, uV]) (S' := [.ref 1598]) 1 rfl ?_
      refine ge_getR (b := 1595) rfl (t1598 s) rfl (r1598_0 s) (Nat.le_of_ble_eq_true rfl) ?_
      refine ge_run (pc' := 26) (L' := [.ref 1598, .int x1, .int y_2, uV]) (S' := [.ref 68, .ref 1595]) 1 rfl ?_
      refine ge_cv rfl rfl rfl (t1595 s) rfl rfl rfl (D := 6) (by omega) (c_Ta_takeWord (n := n) (u := u) (t := t) (i := i) (r := r) s 68 (strAd 33)) ?_
      rintro ⟨v_9, i_10⟩ -
      dsimp only [bkE, F_i1]
      refine ge_eq0 rfl (fun h_11 => ?_) (fun h_51 => ?_)
      · refine ge_run (pc' := 38) (L' := [.ref 1598, .int x1, .int y_2, uV]) (S' := [.ref 1598]) 1 rfl ?_
        refine ge_getR (b := 1595) rfl (t1598 s) rfl (r1598_0 s) (Nat.le_of_ble_eq_true rfl) ?_
        refine ge_run (pc' := 40) (L' := [.ref 1598, .int x1, .int y_2, uV]) (S' := [.int (40 : Int32), .ref 1595]) 1 rfl ?_
        refine ge_cv rfl rfl rfl (t1595 s) rfl rfl rfl (D := 3) (by omega) (c_Ta_takeSign (n := n) (u := u) (t := t) (i := i_10) (r := r) s (40 : Int32)) ?_
        rintro ⟨v_12, i_13⟩ -
        dsimp only [bkE, F_i1]
        refine ge_eq0 rfl (fun h_14 => ?_) (fun h_46 => ?_)
        · refine ge_run (pc' := 53) (L' := [.ref 1598, .int x1, .int y_2, uV]) (S' := [.ref 1598]) 1 rfl ?_
          refine ge_getR (b := 1595) rfl (t1598 s) rfl (r1598_0 s) (Nat.le_of_ble_eq_true rfl) ?_
          refine ge_run (pc' := 55) (L' := [.ref 1598, .int x1, .int y_2, uV]) (S' := [.ref 70, .ref 1595]) 1 rfl ?_
          refine ge_cv rfl rfl rfl (t1595 s) rfl rfl rfl (D := 6) (by omega) (c_Ta_takeWord (n := n) (u := u) (t := t) (i := i_13) (r := r) s 70 (strAd 34)) ?_
          rintro ⟨v_15, i_16⟩ -
          dsimp only [bkE, F_i1]
          refine ge_eq0 rfl (fun h_17 => ?_) (fun h_44 => ?_)
          · refine ge_run (pc' := 62) (L' := [.ref 1598, .int x1, .int y_2, uV]) (S' := [.ref 1598]) 1 rfl ?_
            refine ge_getR (b := 1595) rfl (t1598 s) rfl (r1598_0 s) (Nat.le_of_ble_eq_true rfl) ?_
            refine ge_run (pc' := 64) (L' := [.ref 1598, .int x1, .int y_2, uV]) (S' := [.ref 72, .ref 1595]) 1 rfl ?_
            refine ge_cv rfl rfl rfl (t1595 s) rfl rfl rfl (D := 6) (by omega) (c_Ta_takeWord (n := n) (u := u) (t := t) (i := i_16) (r := r) s 72 (strAd 35)) ?_
            rintro ⟨v_18, i_19⟩ -
            dsimp only [bkE, F_i1]
            refine ge_eq0 rfl (fun h_20 => ?_) (fun h_42 => ?_)
            · refine ge_run (pc' := 71) (L' := [.ref 1598, .int x1, .int y_2, uV]) (S' := [.ref 1598]) 1 rfl ?_
              refine ge_getR (b := 1595) rfl (t1598 s) rfl (r1598_0 s) (Nat.le_of_ble_eq_true rfl) ?_
              refine ge_run (pc' := 73) (L' := [.ref 1598, .int x1, .int y_2, uV]) (S' := [.ref 74, .ref 1595]) 1 rfl ?_
              refine ge_cv rfl rfl rfl (t1595 s) rfl rfl rfl (D := 6) (by omega) (c_Ta_takeWord (n := n) (u := u) (t := t) (i := i_19) (r := r) s 74 (strAd 36)) ?_
              rintro ⟨v_21, i_22⟩ -
              dsimp only [bkE, F_i1]
              refine ge_eq0 rfl (fun h_23 => ?_) (fun h_40 => ?_)
              · refine ge_run (pc' := 80) (L' := [.ref 1598, .int x1, .int y_2, uV]) (S' := [.ref 1598]) 1 rfl ?_
                refine ge_cv rfl rfl rfl (t1598 s) rfl rfl rfl (D := 7) (by omega) (c_Lt_readSum (n := n) (u := u) (t := t) (i := i_22) (r := r) s ) ?_
                rintro ⟨⟨⟩ | c_25, i_24⟩ -
                · dsimp only [bkE, F_tv1]
                  refine ge_run (pc' := 82) (L' := [.ref 1598, .int x1, .int y_2, uV]) (S' := [.ref 1598]) 1 rfl ?_
                  refine ge_getR (b := 1595) rfl (t1598 s) rfl (r1598_0 s) (Nat.le_of_ble_eq_true rfl) ?_
                  refine ge_run (pc' := 84) (L' := [.ref 1598, .int x1, .int y_2, uV]) (S' := [.int (60 : Int32), .ref 1595]) 1 rfl ?_
                  refine ge_cv rfl rfl rfl (t1595 s) rfl rfl rfl (D := 3) (by omega) (c_Ta_takeSign (n := n) (u := u) (t := t) (i := i_24) (r := r) s (60 : Int32)) ?_
                  rintro ⟨v_26, i_27⟩ -
                  dsimp only [bkE, F_i1]
                  refine ge_run (pc' := 87) (L' := [.ref 1598, .int x1, .int y_2, .int v_26]) (S' := [.int v_26]) 2 rfl ?_
                  refine ge_bind (K1 := kX (fun (q : MI) e => e = .inl (92, [.ref 1598, .int x1, .int y_2, .int v_26], [], (n, u, t, q, r))) (kR (F_tv1 n u t r) PT)) ?_ ?_
                  · refine ge_ne0 rfl (fun h_29 => ?_) (fun h_32 => ?_)
                    · refine ge_run (pc' := 89) (L' := [.ref 1598, .int x1, .int y_2, .int v_26]) (S' := [.ref 1598]) 1 rfl ?_
                      refine ge_getR (b := 1595) rfl (t1598 s) rfl (r1598_0 s) (Nat.le_of_ble_eq_true rfl) ?_
                      refine ge_run (pc' := 91) (L' := [.ref 1598, .int x1, .int y_2, .int v_26]) (S' := [.int (62 : Int32), .ref 1595]) 1 rfl ?_
                      refine ge_cv rfl rfl rfl (t1595 s) rfl rfl rfl (D := 4) (by omega) (c_Ta_needSign (n := n) (u := u) (t := t) (i := i_27) (r := r) s (62 : Int32)) ?_
                      rintro ⟨⟨⟩ | c_31, i_30⟩ -
                      · dsimp only [bkE, F_tv1]
                        exact ge_leaf rfl
                      · exact ge_leaf (And.intro rfl trivial)
                    · exact ge_leaf rfl
                  · rintro (i_28 | y_39) e he
                    · obtain rfl := he
                      try dsimp only
                      refine ge_run (pc' := 93) (L' := [.ref 1598, .int x1, .int y_2, .int v_26]) (S' := [.ref 1598]) 1 rfl ?_
                      refine ge_cv rfl rfl rfl (t1598 s) rfl rfl rfl (D := 7) (by omega) (c_Lt_readSum (n := n) (u := u) (t := t) (i := i_28) (r := r) s ) ?_
                      rintro ⟨⟨⟩ | c_34, i_33⟩ -
                      · dsimp only [bkE, F_tv1]
                        refine ge_run (pc' := 96) (L' := [.ref 1598, .int x1, .int y_2, .int v_26]) (S' := [.int v_26, .ref 1598]) 2 rfl ?_
                        refine ge_bind (K1 := fun (q : Int32) e => e = .inl (100, [.ref 1598, .int x1, .int y_2, .int v_26], [.int q, .ref 1598], (n, u, t, i_33, r))) ?_ ?_
                        · refine ge_eq0 rfl (fun h_36 => ?_) (fun h_37 => ?_)
                          · refine ge_run (pc' := 100) (L' := [.ref 1598, .int x1, .int y_2, .int v_26]) (S' := [.int (-14 : Int32), .ref 1598]) 1 rfl ?_
                            exact ge_leaf rfl
                          · refine ge_run (pc' := 100) (L' := [.ref 1598, .int x1, .int y_2, .int v_26]) (S' := [.int (-13 : Int32), .ref 1598]) 2 rfl ?_
                            exact ge_leaf rfl
                        · rintro y_35 _ rfl
                          try dsimp only
                          refine ge_cv rfl rfl rfl (t1598 s) rfl rfl rfl (D := 1) (by omega) (c_Lt_emit (n := n) (u := u) (t := t) (i := i_33) (r := r) s y_35) ?_
                          rintro i_38 -
                          dsimp only [bkE, F_v1]
                          exact ge_retv rfl rfl (And.intro rfl trivial)
                      · exact ge_leaf (And.intro rfl trivial)
                    · exact ge_leaf he
                · exact ge_leaf (And.intro rfl trivial)
              · refine ge_run (pc' := 77) (L' := [.ref 1598, .int x1, .int y_2, uV]) (S' := [.int (-10 : Int32), .ref 1598]) 2 rfl ?_
                refine ge_cv rfl rfl rfl (t1598 s) rfl rfl rfl (D := 1) (by omega) (c_Lt_emit (n := n) (u := u) (t := t) (i := i_22) (r := r) s (-10 : Int32)) ?_
                rintro i_41 -
                dsimp only [bkE, F_v1]
                refine ge_run (pc' := 101) (L' := [.ref 1598, .int x1, .int y_2, uV]) (S' := []) 1 rfl ?_
                exact ge_retv rfl rfl (And.intro rfl trivial)
            · refine ge_run (pc' := 68) (L' := [.ref 1598, .int x1, .int y_2, uV]) (S' := [.int (-9 : Int32), .ref 1598]) 2 rfl ?_
              refine ge_cv rfl rfl rfl (t1598 s) rfl rfl rfl (D := 1) (by omega) (c_Lt_emit (n := n) (u := u) (t := t) (i := i_19) (r := r) s (-9 : Int32)) ?_
              rintro i_43 -
              dsimp only [bkE, F_v1]
              refine ge_run (pc' := 101) (L' := [.ref 1598, .int x1, .int y_2, uV]) (S' := []) 1 rfl ?_
              exact ge_retv rfl rfl (And.intro rfl trivial)
          · refine ge_run (pc' := 59) (L' := [.ref 1598, .int x1, .int y_2, uV]) (S' := [.int (-8 : Int32), .ref 1598]) 2 rfl ?_
            refine ge_cv rfl rfl rfl (t1598 s) rfl rfl rfl (D := 1) (by omega) (c_Lt_emit (n := n) (u := u) (t := t) (i := i_16) (r := r) s (-8 : Int32)) ?_
            rintro i_45 -
            dsimp only [bkE, F_v1]
            refine ge_run (pc' := 101) (L' := [.ref 1598, .int x1, .int y_2, uV]) (S' := []) 1 rfl ?_
            exact ge_retv rfl rfl (And.intro rfl trivial)
        · refine ge_run (pc' := 46) (L' := [.ref 1598, .int x1, .int y_2, uV]) (S' := [.int (x1 + (1 : Int32)), .ref 1598]) 4 rfl ?_
          refine ge_cv rfl rfl rfl (t1598 s) rfl rfl rfl (D := DR) (by omega) (hR_Lt_readCondition (n := n) (u := u) (t := t) (i := i_13) (r := r) s (x1 + (1 : Int32))) ?_
          rintro ⟨⟨⟩ | c_48, i_47⟩ -
          · dsimp only [bkE, F_tv1]
            refine ge_run (pc' := 48) (L' := [.ref 1598, .int x1, .int y_2, uV]) (S' := [.ref 1598]) 1 rfl ?_
            refine ge_getR (b := 1595) rfl (t1598 s) rfl (r1598_0 s) (Nat.le_of_ble_eq_true rfl) ?_
            refine ge_run (pc' := 50) (L' := [.ref 1598, .int x1, .int y_2, uV]) (S' := [.int (41 : Int32), .ref 1595]) 1 rfl ?_
            refine ge_cv rfl rfl rfl (t1595 s) rfl rfl rfl (D := 4) (by omega) (c_Ta_needSign (n := n) (u := u) (t := t) (i := i_47) (r := r) s (41 : Int32)) ?_
            rintro ⟨⟨⟩ | c_50, i_49⟩ -
            · dsimp only [bkE, F_tv1]
              refine ge_run (pc' := 101) (L' := [.ref 1598, .int x1, .int y_2, uV]) (S' := []) 1 rfl ?_
              exact ge_retv rfl rfl (And.intro rfl trivial)
            · exact ge_leaf (And.intro rfl trivial)
          · exact ge_leaf (And.intro rfl trivial)
      · refine ge_run (pc' := 32) (L' := [.ref 1598, .int x1, .int y_2, uV]) (S' := [.int (x1 + (1 : Int32)), .ref 1598]) 4 rfl ?_
        refine ge_cv rfl rfl rfl (t1598 s) rfl rfl rfl (D := DR) (by omega) (hR_Lt_readAtom (n := n) (u := u) (t := t) (i := i_10) (r := r) s (x1 + (1 : Int32))) ?_
        rintro ⟨⟨⟩ | c_53, i_52⟩ -
        · dsimp only [bkE, F_tv1]
          refine ge_run (pc' := 35) (L' := [.ref 1598, .int x1, .int y_2, uV]) (S' := [.int (-11 : Int32), .ref 1598]) 2 rfl ?_
          refine ge_cv rfl rfl rfl (t1598 s) rfl rfl rfl (D := 1) (by omega) (c_Lt_emit (n := n) (u := u) (t := t) (i := i_52) (r := r) s (-11 : Int32)) ?_
          rintro i_54 -
          dsimp only [bkE, F_v1]
          refine ge_run (pc' := 101) (L' := [.ref 1598, .int x1, .int y_2, uV]) (S' := []) 1 rfl ?_
          exact ge_retv rfl rfl (And.intro rfl trivial)
        · exact ge_leaf (And.intro rfl trivial)
    · refine ge_run (pc' := 18) (L' := [.ref 1598, .int x1, .int y_2, uV]) (S' := [.int (6 : Int32), .int x1]) 2 rfl ?_
      refine ge_lt rfl (fun h_56 => ?_) (fun h_103 => ?_)
      · refine ge_run (pc' := 24) (L' := [.ref 1598, .int x1, .int y_2, uV]) (S' := [.ref 1598]) 1 rfl ?_
        refine ge_getR (b := 1595) rfl (t1598 s) rfl (r1598_0 s) (Nat.le_of_ble_eq_true rfl) ?_
        refine ge_run (pc' := 26) (L' := [.ref 1598, .int x1, .int y_2, uV]) (S' := [.ref 68, .ref 1595]) 1 rfl ?_
        refine ge_cv rfl rfl rfl (t1595 s) rfl rfl rfl (D := 6) (by omega) (c_Ta_takeWord (n := n) (u := u) (t := t) (i := i) (r := r) s 68 (strAd 33)) ?_
        rintro ⟨v_57, i_58⟩ -
        dsimp only [bkE, F_i1]
        refine ge_eq0 rfl (fun h_59 => ?_) (fun h_99 => ?_)
        · refine ge_run (pc' := 38) (L' := [.ref 1598, .int x1, .int y_2, uV]) (S' := [.ref 1598]) 1 rfl ?_
          refine ge_getR (b := 1595) rfl (t1598 s) rfl (r1598_0 s) (Nat.le_of_ble_eq_true rfl) ?_
          refine ge_run (pc' := 40) (L' := [.ref 1598, .int x1, .int y_2, uV]) (S' := [.int (40 : Int32), .ref 1595]) 1 rfl ?_
          refine ge_cv rfl rfl rfl (t1595 s) rfl rfl rfl (D := 3) (by omega) (c_Ta_takeSign (n := n) (u := u) (t := t) (i := i_58) (r := r) s (40 : Int32)) ?_
          rintro ⟨v_60, i_61⟩ -
          dsimp only [bkE, F_i1]
          refine ge_eq0 rfl (fun h_62 => ?_) (fun h_94 => ?_)
          · refine ge_run (pc' := 53) (L' := [.ref 1598, .int x1, .int y_2, uV]) (S' := [.ref 1598]) 1 rfl ?_
            refine ge_getR (b := 1595) rfl (t1598 s) rfl (r1598_0 s) (Nat.le_of_ble_eq_true rfl) ?_
            refine ge_run (pc' := 55) (L' := [.ref 1598, .int x1, .int y_2, uV]) (S' := [.ref 70, .ref 1595]) 1 rfl ?_
            refine ge_cv rfl rfl rfl (t1595 s) rfl rfl rfl (D := 6) (by omega) (c_Ta_takeWord (n := n) (u := u) (t := t) (i := i_61) (r := r) s 70 (strAd 34)) ?_
            rintro ⟨v_63, i_64⟩ -
            dsimp only [bkE, F_i1]
            refine ge_eq0 rfl (fun h_65 => ?_) (fun h_92 => ?_)
            · refine ge_run (pc' := 62) (L' := [.ref 1598, .int x1, .int y_2, uV]) (S' := [.ref 1598]) 1 rfl ?_
              refine ge_getR (b := 1595) rfl (t1598 s) rfl (r1598_0 s) (Nat.le_of_ble_eq_true rfl) ?_
              refine ge_run (pc' := 64) (L' := [.ref 1598, .int x1, .int y_2, uV]) (S' := [.ref 72, .ref 1595]) 1 rfl ?_
              refine ge_cv rfl rfl rfl (t1595 s) rfl rfl rfl (D := 6) (by omega) (c_Ta_takeWord (n := n) (u := u) (t := t) (i := i_64) (r := r) s 72 (strAd 35)) ?_
              rintro ⟨v_66, i_67⟩ -
              dsimp only [bkE, F_i1]
              refine ge_eq0 rfl (fun h_68 => ?_) (fun h_90 => ?_)
              · refine ge_run (pc' := 71) (L' := [.ref 1598, .int x1, .int y_2, uV]) (S' := [.ref 1598]) 1 rfl ?_
                refine ge_getR (b := 1595) rfl (t1598 s) rfl (r1598_0 s) (Nat.le_of_ble_eq_true rfl) ?_
                refine ge_run (pc' := 73) (L' := [.ref 1598, .int x1, .int y_2, uV]) (S' := [.ref 74, .ref 1595]) 1 rfl ?_
                refine ge_cv rfl rfl rfl (t1595 s) rfl rfl rfl (D := 6) (by omega) (c_Ta_takeWord (n := n) (u := u) (t := t) (i := i_67) (r := r) s 74 (strAd 36)) ?_
                rintro ⟨v_69, i_70⟩ -
                dsimp only [bkE, F_i1]
                refine ge_eq0 rfl (fun h_71 => ?_) (fun h_88 => ?_)
                · refine ge_run (pc' := 80) (L' := [.ref 1598, .int x1, .int y_2, uV]) (S' := [.ref 1598]) 1 rfl ?_
                  refine ge_cv rfl rfl rfl (t1598 s) rfl rfl rfl (D := 7) (by omega) (c_Lt_readSum (n := n) (u := u) (t := t) (i := i_70) (r := r) s ) ?_
                  rintro ⟨⟨⟩ | c_73, i_72⟩ -
                  · dsimp only [bkE, F_tv1]
                    refine ge_run (pc' := 82) (L' := [.ref 1598, .int x1, .int y_2, uV]) (S' := [.ref 1598]) 1 rfl ?_
                    refine ge_getR (b := 1595) rfl (t1598 s) rfl (r1598_0 s) (Nat.le_of_ble_eq_true rfl) ?_
                    refine ge_run (pc' := 84) (L' := [.ref 1598, .int x1, .int y_2, uV]) (S' := [.int (60 : Int32), .ref 1595]) 1 rfl ?_
                    refine ge_cv rfl rfl rfl (t1595 s) rfl rfl rfl (D := 3) (by omega) (c_Ta_takeSign (n := n) (u := u) (t := t) (i := i_72) (r := r) s (60 : Int32)) ?_
                    rintro ⟨v_74, i_75⟩ -
                    dsimp only [bkE, F_i1]
                    refine ge_run (pc' := 87) (L' := [.ref 1598, .int x1, .int y_2, .int v_74]) (S' := [.int v_74]) 2 rfl ?_
                    refine ge_bind (K1 := kX (fun (q : MI) e => e = .inl (92, [.ref 1598, .int x1, .int y_2, .int v_74], [], (n, u, t, q, r))) (kR (F_tv1 n u t r) PT)) ?_ ?_
                    · refine ge_ne0 rfl (fun h_77 => ?_) (fun h_80 => ?_)
                      · refine ge_run (pc' := 89) (L' := [.ref 1598, .int x1, .int y_2, .int v_74]) (S' := [.ref 1598]) 1 rfl ?_
                        refine ge_getR (b := 1595) rfl (t1598 s) rfl (r1598_0 s) (Nat.le_of_ble_eq_true rfl) ?_
                        refine ge_run (pc' := 91) (L' := [.ref 1598, .int x1, .int y_2, .int v_74]) (S' := [.int (62 : Int32), .ref 1595]) 1 rfl ?_
                        refine ge_cv rfl rfl rfl (t1595 s) rfl rfl rfl (D := 4) (by omega) (c_Ta_needSign (n := n) (u := u) (t := t) (i := i_75) (r := r) s (62 : Int32)) ?_
                        rintro ⟨⟨⟩ | c_79, i_78⟩ -
                        · dsimp only [bkE, F_tv1]
                          exact ge_leaf rfl
                        · exact ge_leaf (And.intro rfl trivial)
                      · exact ge_leaf rfl
                    · rintro (i_76 | y_87) e he
                      · obtain rfl := he
                        try dsimp only
                        refine ge_run (pc' := 93) (L' := [.ref 1598, .int x1, .int y_2, .int v_74]) (S' := [.ref 1598]) 1 rfl ?_
                        refine ge_cv rfl rfl rfl (t1598 s) rfl rfl rfl (D := 7) (by omega) (c_Lt_readSum (n := n) (u := u) (t := t) (i := i_76) (r := r) s ) ?_
                        rintro ⟨⟨⟩ | c_82, i_81⟩ -
                        · dsimp only [bkE, F_tv1]
                          refine ge_run (pc' := 96) (L' := [.ref 1598, .int x1, .int y_2, .int v_74]) (S' := [.int v_74, .ref 1598]) 2 rfl ?_
                          refine ge_bind (K1 := fun (q : Int32) e => e = .inl (100, [.ref 1598, .int x1, .int y_2, .int v_74], [.int q, .ref 1598], (n, u, t, i_81, r))) ?_ ?_
                          · refine ge_eq0 rfl (fun h_84 => ?_) (fun h_85 => ?_)
                            · refine ge_run (pc' := 100) (L' := [.ref 1598, .int x1, .int y_2, .int v_74]) (S' := [.int (-14 : Int32), .ref 1598]) 1 rfl ?_
                              exact ge_leaf rfl
                            · refine ge_run (pc' := 100) (L' := [.ref 1598, .int x1, .int y_2, .int v_74]) (S' := [.int (-13 : Int32), .ref 1598]) 2 rfl ?_
                              exact ge_leaf rfl
                          · rintro y_83 _ rfl
                            try dsimp only
                            refine ge_cv rfl rfl rfl (t1598 s) rfl rfl rfl (D := 1) (by omega) (c_Lt_emit (n := n) (u := u) (t := t) (i := i_81) (r := r) s y_83) ?_
                            rintro i_86 -
                            dsimp only [bkE, F_v1]
                            exact ge_retv rfl rfl (And.intro rfl trivial)
                        · exact ge_leaf (And.intro rfl trivial)
                      · exact ge_leaf he
                  · exact ge_leaf (And.intro rfl trivial)
                · refine ge_run (pc' := 77) (L' := [.ref 1598, .int x1, .int y_2, uV]) (S' := [.int (-10 : Int32), .ref 1598]) 2 rfl ?_
                  refine ge_cv rfl rfl rfl (t1598 s) rfl rfl rfl (D := 1) (by omega) (c_Lt_emit (n := n) (u := u) (t := t) (i := i_70) (r := r) s (-10 : Int32)) ?_
                  rintro i_89 -
                  dsimp only [bkE, F_v1]
                  refine ge_run (pc' := 101) (L' := [.ref 1598, .int x1, .int y_2, uV]) (S' := []) 1 rfl ?_
                  exact ge_retv rfl rfl (And.intro rfl trivial)
              · refine ge_run (pc' := 68) (L' := [.ref 1598, .int x1, .int y_2, uV]) (S' := [.int (-9 : Int32), .ref 1598]) 2 rfl ?_
                refine ge_cv rfl rfl rfl (t1598 s) rfl rfl rfl (D := 1) (by omega) (c_Lt_emit (n := n) (u := u) (t := t) (i := i_67) (r := r) s (-9 : Int32)) ?_
                rintro i_91 -
                dsimp only [bkE, F_v1]
                refine ge_run (pc' := 101) (L' := [.ref 1598, .int x1, .int y_2, uV]) (S' := []) 1 rfl ?_
                exact ge_retv rfl rfl (And.intro rfl trivial)
            · refine ge_run (pc' := 59) (L' := [.ref 1598, .int x1, .int y_2, uV]) (S' := [.int (-8 : Int32), .ref 1598]) 2 rfl ?_
              refine ge_cv rfl rfl rfl (t1598 s) rfl rfl rfl (D := 1) (by omega) (c_Lt_emit (n := n) (u := u) (t := t) (i := i_64) (r := r) s (-8 : Int32)) ?_
              rintro i_93 -
              dsimp only [bkE, F_v1]
              refine ge_run (pc' := 101) (L' := [.ref 1598, .int x1, .int y_2, uV]) (S' := []) 1 rfl ?_
              exact ge_retv rfl rfl (And.intro rfl trivial)
          · refine ge_run (pc' := 46) (L' := [.ref 1598, .int x1, .int y_2, uV]) (S' := [.int (x1 + (1 : Int32)), .ref 1598]) 4 rfl ?_
            refine ge_cv rfl rfl rfl (t1598 s) rfl rfl rfl (D := DR) (by omega) (hR_Lt_readCondition (n := n) (u := u) (t := t) (i := i_61) (r := r) s (x1 + (1 : Int32))) ?_
            rintro ⟨⟨⟩ | c_96, i_95⟩ -
            · dsimp only [bkE, F_tv1]
              refine ge_run (pc' := 48) (L' := [.ref 1598, .int x1, .int y_2, uV]) (S' := [.ref 1598]) 1 rfl ?_
              refine ge_getR (b := 1595) rfl (t1598 s) rfl (r1598_0 s) (Nat.le_of_ble_eq_true rfl) ?_
              refine ge_run (pc' := 50) (L' := [.ref 1598, .int x1, .int y_2, uV]) (S' := [.int (41 : Int32), .ref 1595]) 1 rfl ?_
              refine ge_cv rfl rfl rfl (t1595 s) rfl rfl rfl (D := 4) (by omega) (c_Ta_needSign (n := n) (u := u) (t := t) (i := i_95) (r := r) s (41 : Int32)) ?_
              rintro ⟨⟨⟩ | c_98, i_97⟩ -
              · dsimp only [bkE, F_tv1]
                refine ge_run (pc' := 101) (L' := [.ref 1598, .int x1, .int y_2, uV]) (S' := []) 1 rfl ?_
                exact ge_retv rfl rfl (And.intro rfl trivial)
              · exact ge_leaf (And.intro rfl trivial)
            · exact ge_leaf (And.intro rfl trivial)
        · refine ge_run (pc' := 32) (L' := [.ref 1598, .int x1, .int y_2, uV]) (S' := [.int (x1 + (1 : Int32)), .ref 1598]) 4 rfl ?_
          refine ge_cv rfl rfl rfl (t1598 s) rfl rfl rfl (D := DR) (by omega) (hR_Lt_readAtom (n := n) (u := u) (t := t) (i := i_58) (r := r) s (x1 + (1 : Int32))) ?_
          rintro ⟨⟨⟩ | c_101, i_100⟩ -
          · dsimp only [bkE, F_tv1]
            refine ge_run (pc' := 35) (L' := [.ref 1598, .int x1, .int y_2, uV]) (S' := [.int (-11 : Int32), .ref 1598]) 2 rfl ?_
            refine ge_cv rfl rfl rfl (t1598 s) rfl rfl rfl (D := 1) (by omega) (c_Lt_emit (n := n) (u := u) (t := t) (i := i_100) (r := r) s (-11 : Int32)) ?_
            rintro i_102 -
            dsimp only [bkE, F_v1]
            refine ge_run (pc' := 101) (L' := [.ref 1598, .int x1, .int y_2, uV]) (S' := []) 1 rfl ?_
            exact ge_retv rfl rfl (And.intro rfl trivial)
          · exact ge_leaf (And.intro rfl trivial)
      · refine ge_run (pc' := 20) (L' := [.ref 1598, .int x1, .int y_2, uV]) (S' := [.ref 1598]) 1 rfl ?_
        refine ge_getR (b := 1595) rfl (t1598 s) rfl (r1598_0 s) (Nat.le_of_ble_eq_true rfl) ?_
        refine ge_cv rfl rfl rfl (t1595 s) rfl rfl rfl (D := 1) (by omega) (c_Ta_refuse (n := n) (u := u) (t := t) (i := i) (r := r) s ) ?_
        rintro ⟨⟨⟩ | c_105, i_104⟩ -
        · dsimp only [bkE, F_tv1]
          refine ge_run (pc' := 101) (L' := [.ref 1598, .int x1, .int y_2, uV]) (S' := []) 1 rfl ?_
          exact ge_retv rfl rfl (And.intro rfl trivial)
        · exact ge_leaf (And.intro rfl trivial)
def fx_Lt : Nat → ((MT → MI → Int32 → Option ((Unit ⊕ Nat) × MI)) × (MT → MI → Int32 → Option ((Unit ⊕ Nat) × MI)))
  | 0 => ((fun _ _ _ => none), (fun _ _ _ => none))
  | k + 1 => (fb_Lt_readCondition ((fx_Lt k).1) ((fx_Lt k).2), fb_Lt_readAtom ((fx_Lt k).1) ((fx_Lt k).2))
set_option maxHeartbeats 4000000 in
theorem cx_Lt : ∀ k : Nat, (∀ {n u : Nat} {t : MT} {i : MI} {r : MR} (s : Sh n t r) (x1 : Int32), Cn (k * 8) 25 [.ref 1598, .int x1] (n, u, t, i, r) ((fx_Lt k).1 t i x1) (F_tv1 n u t r) PT) ∧ (∀ {n u : Nat} {t : MT} {i : MI} {r : MR} (s : Sh n t r) (x1 : Int32), Cn (k * 8) 26 [.ref 1598, .int x1] (n, u, t, i, r) ((fx_Lt k).2 t i x1) (F_tv1 n u t r) PT)
  | 0 => ⟨(by intros; exact cn_none), (by intros; exact cn_none)⟩
  | k + 1 => by
    have ih := cx_Lt k
    have e : (k + 1) * 8 = k * 8 + 7 + 1 := by omega
    rw [e]
    exact ⟨cb_Lt_readCondition ih.1 ih.2, cb_Lt_readAtom ih.1 ih.2⟩
def f_Lt_readCondition (t : MT) (i : MI) (x1 : Int32) : Option ((Unit ⊕ Nat) × MI) := (fx_Lt 20).1 t i x1
set_option maxHeartbeats 4000000 in
theorem c_Lt_readCondition {n u : Nat} {t : MT} {i : MI} {r : MR} (s : Sh n t r) (x1 : Int32) : Cn 160 25 [.ref 1598, .int x1] (n, u, t, i, r) (f_Lt_readCondition t i x1) (F_tv1 n u t r) PT := (cx_Lt 20).1 s x1
def f_Lt_readAtom (t : MT) (i : MI) (x1 : Int32) : Option ((Unit ⊕ Nat) × MI) := (fx_Lt 20).2 t i x1
set_option maxHeartbeats 4000000 in
theorem c_Lt_readAtom {n u : Nat} {t : MT} {i : MI} {r : MR} (s : Sh n t r) (x1 : Int32) : Cn 160 26 [.ref 1598, .int x1] (n, u, t, i, r) (f_Lt_readAtom t i x1) (F_tv1 n u t r) PT := (cx_Lt 20).2 s x1
def f_Lo_add (i : MI) (a : Nat) (x1 : Int32) (x2 : Int32) (x3 : Int32) (x4 : Int32) (x5 : Int32) : Option (MI) :=
  if ((i (a + 28) 2) * (5 : Int32)) < 0 then (some i) else (if (nI 300) < (((i (a + 28) 2) * (5 : Int32)) + (5 : Int32)) then (some i) else (grd ((i (a + 28) 2) * (5 : Int32)) 300 (bnd (wr i (a + 29) (ix ((i (a + 28) 2) * (5 : Int32))) x1) (fun i_7 => grd (((i (a + 28) 2) * (5 : Int32)) + (1 : Int32)) 300 (bnd (wr i_7 (a + 29) (ix (((i (a + 28) 2) * (5 : Int32)) + (1 : Int32))) x2) (fun i_10 => grd (((i (a + 28) 2) * (5 : Int32)) + (2 : Int32)) 300 (bnd (wr i_10 (a + 29) (ix (((i (a + 28) 2) * (5 : Int32)) + (2 : Int32))) x3) (fun i_13 => grd (((i (a + 28) 2) * (5 : Int32)) + (3 : Int32)) 300 (bnd (wr i_13 (a + 29) (ix (((i (a + 28) 2) * (5 : Int32)) + (3 : Int32))) x4) (fun i_16 => grd (((i (a + 28) 2) * (5 : Int32)) + (4 : Int32)) 300 (bnd (wr i_16 (a + 29) (ix (((i (a + 28) 2) * (5 : Int32)) + (4 : Int32))) x5) (fun i_19 => bnd (wr i_19 (a + 28) 2 (rm ((i_19 (a + 28) 2) + (1 : Int32)) (60 : Int32))) (fun i_20 => (f_J_min (60 : Int32) ((i_20 (a + 28) 1) + (1 : Int32))).bind (fun v_21 => bnd (wr i_20 (a + 28) 1 v_21) (fun i_22 => some i_22)))))))))))))))
set_option maxHeartbeats 4000000 in
theorem c_Lo_add {n u : Nat} {t : MT} {i : MI} {r : MR} (s : Sh n t r) (a : Nat) (ha : SeaAd a) (x1 : Int32) (x2 : Int32) (x3 : Int32) (x4 : Int32) (x5 : Int32) : Cn 2 31 [.ref (a + 28), .int x1, .int x2, .int x3, .int x4, .int x5] (n, u, t, i, r) (f_Lo_add i a x1 x2 x3 x4 x5) (F_v1 n u t r) PT := by
  refine cn_of (Y := K_Lo_add) (L0 := [.ref (a + 28), .int x1, .int x2, .int x3, .int x4, .int x5, uV]) rfl rfl rfl ?_
  intro d hd
  unfold f_Lo_add
  refine ge_run (pc' := 1) (L' := [.ref (a + 28), .int x1, .int x2, .int x3, .int x4, .int x5, uV]) (S' := [.ref (a + 28)]) 1 rfl ?_
  refine ge_getI rfl (sT28 s ha) rfl ?_
  refine ge_run (pc' := 6) (L' := [.ref (a + 28), .int x1, .int x2, .int x3, .int x4, .int x5, .int ((i (a + 28) 2) * (5 : Int32))]) (S' := [.int ((i (a + 28) 2) * (5 : Int32))]) 4 rfl ?_
  refine ge_lt0 rfl (fun h_1 => ?_) (fun h_2 => ?_)
  · exact ge_retv rfl rfl (And.intro rfl trivial)
  · refine ge_run (pc' := 11) (L' := [.ref (a + 28), .int x1, .int x2, .int x3, .int x4, .int x5, .int ((i (a + 28) 2) * (5 : Int32))]) (S' := [.ref (a + 28), .int (((i (a + 28) 2) * (5 : Int32)) + (5 : Int32))]) 4 rfl ?_
    refine ge_getR (b := (a + 29)) rfl (sT28 s ha) rfl (sRlog s ha) (sge ha) ?_
    refine ge_alen rfl (sT29 s ha) (by decide) ?_
    refine ge_le rfl (fun h_3 => ?_) (fun h_4 => ?_)
    · exact ge_retv rfl rfl (And.intro rfl trivial)
    · refine ge_run (pc' := 16) (L' := [.ref (a + 28), .int x1, .int x2, .int x3, .int x4, .int x5, .int ((i (a + 28) 2) * (5 : Int32))]) (S' := [.ref (a + 28)]) 1 rfl ?_
      refine ge_getR (b := (a + 29)) rfl (sT28 s ha) rfl (sRlog s ha) (sge ha) ?_
      refine ge_run (pc' := 19) (L' := [.ref (a + 28), .int x1, .int x2, .int x3, .int x4, .int x5, .int ((i (a + 28) 2) * (5 : Int32))]) (S' := [.int x1, .int ((i (a + 28) 2) * (5 : Int32)), .ref (a + 29)]) 2 rfl ?_
      refine ge_grd (fun g_5 g_6 => ?_)
      refine ge_iast (jn := (ix ((i (a + 28) 2) * (5 : Int32)))) rfl (sT29 s ha) (sge ha) ⟨g_5, rfl⟩ g_6 (fun i_7 => ?_)
      refine ge_run (pc' := 21) (L' := [.ref (a + 28), .int x1, .int x2, .int x3, .int x4, .int x5, .int ((i (a + 28) 2) * (5 : Int32))]) (S' := [.ref (a + 28)]) 1 rfl ?_
      refine ge_getR (b := (a + 29)) rfl (sT28 s ha) rfl (sRlog s ha) (sge ha) ?_
      refine ge_run (pc' := 26) (L' := [.ref (a + 28), .int x1, .int x2, .int x3, .int x4, .int x5, .int ((i (a + 28) 2) * (5 : Int32))]) (S' := [.int x2, .int (((i (a + 28) 2) * (5 : Int32)) + (1 : Int32)), .ref (a + 29)]) 4 rfl ?_
      refine ge_grd (fun g_8 g_9 => ?_)
      refine ge_iast (jn := (ix (((i (a + 28) 2) * (5 : Int32)) + (1 : Int32)))) rfl (sT29 s ha) (sge ha) ⟨g_8, rfl⟩ g_9 (fun i_10 => ?_)
      refine ge_run (pc' := 28) (L' := [.ref (a + 28), .int x1, .int x2, .int x3, .int x4, .int x5, .int ((i (a + 28) 2) * (5 : Int32))]) (S' := [.ref (a + 28)]) 1 rfl ?_
      refine ge_getR (b := (a + 29)) rfl (sT28 s ha) rfl (sRlog s ha) (sge ha) ?_
      refine ge_run (pc' := 33) (L' := [.ref (a + 28), .int x1, .int x2, .int x3, .int x4, .int x5, .int ((i (a + 28) 2) * (5 : Int32))]) (S' := [.int x3, .int (((i (a + 28) 2) * (5 : Int32)) + (2 : Int32)), .ref (a + 29)]) 4 rfl ?_
      refine ge_grd (fun g_11 g_12 => ?_)
      refine ge_iast (jn := (ix (((i (a + 28) 2) * (5 : Int32)) + (2 : Int32)))) rfl (sT29 s ha) (sge ha) ⟨g_11, rfl⟩ g_12 (fun i_13 => ?_)
      refine ge_run (pc' := 35) (L' := [.ref (a + 28), .int x1, .int x2, .int x3, .int x4, .int x5, .int ((i (a + 28) 2) * (5 : Int32))]) (S' := [.ref (a + 28)]) 1 rfl ?_
      refine ge_getR (b := (a + 29)) rfl (sT28 s ha) rfl (sRlog s ha) (sge ha) ?_
      refine ge_run (pc' := 40) (L' := [.ref (a + 28), .int x1, .int x2, .int x3, .int x4, .int x5, .int ((i (a + 28) 2) * (5 : Int32))]) (S' := [.int x4, .int (((i (a + 28) 2) * (5 : Int32)) + (3 : Int32)), .ref (a + 29)]) 4 rfl ?_
      refine ge_grd (fun g_14 g_15 => ?_)
      refine ge_iast (jn := (ix (((i (a + 28) 2) * (5 : Int32)) + (3 : Int32)))) rfl (sT29 s ha) (sge ha) ⟨g_14, rfl⟩ g_15 (fun i_16 => ?_)
      refine ge_run (pc' := 42) (L' := [.ref (a + 28), .int x1, .int x2, .int x3, .int x4, .int x5, .int ((i (a + 28) 2) * (5 : Int32))]) (S' := [.ref (a + 28)]) 1 rfl ?_
      refine ge_getR (b := (a + 29)) rfl (sT28 s ha) rfl (sRlog s ha) (sge ha) ?_
      refine ge_run (pc' := 47) (L' := [.ref (a + 28), .int x1, .int x2, .int x3, .int x4, .int x5, .int ((i (a + 28) 2) * (5 : Int32))]) (S' := [.int x5, .int (((i (a + 28) 2) * (5 : Int32)) + (4 : Int32)), .ref (a + 29)]) 4 rfl ?_
      refine ge_grd (fun g_17 g_18 => ?_)
      refine ge_iast (jn := (ix (((i (a + 28) 2) * (5 : Int32)) + (4 : Int32)))) rfl (sT29 s ha) (sge ha) ⟨g_17, rfl⟩ g_18 (fun i_19 => ?_)
      refine ge_run (pc' := 50) (L' := [.ref (a + 28), .int x1, .int x2, .int x3, .int x4, .int x5, .int ((i (a + 28) 2) * (5 : Int32))]) (S' := [.ref (a + 28), .ref (a + 28)]) 2 rfl ?_
      refine ge_getI rfl (sT28 s ha) rfl ?_
      refine ge_run (pc' := 54) (L' := [.ref (a + 28), .int x1, .int x2, .int x3, .int x4, .int x5, .int ((i (a + 28) 2) * (5 : Int32))]) (S' := [.int (60 : Int32), .int ((i_19 (a + 28) 2) + (1 : Int32)), .ref (a + 28)]) 3 rfl ?_
      refine ge_rem rfl (by decide) ?_
      refine ge_putI rfl (sT28 s ha) (sge ha) rfl (fun i_20 => ?_)
      refine ge_run (pc' := 59) (L' := [.ref (a + 28), .int x1, .int x2, .int x3, .int x4, .int x5, .int ((i (a + 28) 2) * (5 : Int32))]) (S' := [.ref (a + 28), .int (60 : Int32), .ref (a + 28)]) 3 rfl ?_
      refine ge_getI rfl (sT28 s ha) rfl ?_
      refine ge_run (pc' := 62) (L' := [.ref (a + 28), .int x1, .int x2, .int x3, .int x4, .int x5, .int ((i (a + 28) 2) * (5 : Int32))]) (S' := [.int ((i_20 (a + 28) 1) + (1 : Int32)), .int (60 : Int32), .ref (a + 28)]) 2 rfl ?_
      refine ge_cs rfl rfl rfl rfl rfl rfl (D := 1) (Nat.le_trans (by decide) hd) (c_J_min (n := n) (u := u) (t := t) (i := i_20) (r := r) s (60 : Int32) ((i_20 (a + 28) 1) + (1 : Int32))) ?_
      rintro v_21 -
      dsimp only [bkE, F_i0]
      refine ge_putI rfl (sT28 s ha) (sge ha) rfl (fun i_22 => ?_)
      exact ge_retv rfl rfl (And.intro rfl trivial)
def f_Lo_told (i : MI) (a : Nat) (x1 : Int32) (x2 : Int32) : Option (Int32) :=
  if x1 < 0 then (some ((-2 : Int32))) else (if x1 < (i (a + 28) 1) then (if x2 < 0 then (some ((-2 : Int32))) else (if x2 < (5 : Int32) then (grd (((rm ((((i (a + 28) 2) + (60 : Int32)) - (1 : Int32)) - x1) (60 : Int32)) * (5 : Int32)) + x2) 300 (some ((i (a + 29) (ix (((rm ((((i (a + 28) 2) + (60 : Int32)) - (1 : Int32)) - x1) (60 : Int32)) * (5 : Int32)) + x2)))))) else (some ((-2 : Int32))))) else (some ((-2 : Int32))))
set_option maxHeartbeats 4000000 in
theorem c_Lo_told {n u : Nat} {t : MT} {i : MI} {r : MR} (s : Sh n t r) (a : Nat) (ha : SeaAd a) (x1 : Int32) (x2 : Int32) : Cn 1 32 [.ref (a + 28), .int x1, .int x2] (n, u, t, i, r) (f_Lo_told i a x1 x2) (F_i0 n u t i r) PT := by
  refine cn_of (Y := K_Lo_told) (L0 := [.ref (a + 28), .int x1, .int x2]) rfl rfl rfl ?_
  intro d hd
  unfold f_Lo_told
  refine ge_run (pc' := 1) (L' := [.ref (a + 28), .int x1, .int x2]) (S' := [.int x1]) 1 rfl ?_
  refine ge_lt0 rfl (fun h_1 => ?_) (fun h_2 => ?_)
  · refine ge_run (pc' := 12) (L' := [.ref (a + 28), .int x1, .int x2]) (S' := [.int (-2 : Int32)]) 1 rfl ?_
    exact ge_ret rfl rfl (And.intro rfl trivial)
  · refine ge_run (pc' := 4) (L' := [.ref (a + 28), .int x1, .int x2]) (S' := [.ref (a + 28), .int x1]) 2 rfl ?_
    refine ge_getI rfl (sT28 s ha) rfl ?_
    refine ge_ge rfl (fun h_3 => ?_) (fun h_10 => ?_)
    · refine ge_run (pc' := 7) (L' := [.ref (a + 28), .int x1, .int x2]) (S' := [.int x2]) 1 rfl ?_
      refine ge_lt0 rfl (fun h_4 => ?_) (fun h_5 => ?_)
      · refine ge_run (pc' := 12) (L' := [.ref (a + 28), .int x1, .int x2]) (S' := [.int (-2 : Int32)]) 1 rfl ?_
        exact ge_ret rfl rfl (And.intro rfl trivial)
      · refine ge_run (pc' := 10) (L' := [.ref (a + 28), .int x1, .int x2]) (S' := [.int (5 : Int32), .int x2]) 2 rfl ?_
        refine ge_lt rfl (fun h_6 => ?_) (fun h_9 => ?_)
        · refine ge_run (pc' := 14) (L' := [.ref (a + 28), .int x1, .int x2]) (S' := [.ref (a + 28)]) 1 rfl ?_
          refine ge_getR (b := (a + 29)) rfl (sT28 s ha) rfl (sRlog s ha) (sge ha) ?_
          refine ge_run (pc' := 16) (L' := [.ref (a + 28), .int x1, .int x2]) (S' := [.ref (a + 28), .ref (a + 29)]) 1 rfl ?_
          refine ge_getI rfl (sT28 s ha) rfl ?_
          refine ge_run (pc' := 24) (L' := [.ref (a + 28), .int x1, .int x2]) (S' := [.int (60 : Int32), .int ((((i (a + 28) 2) + (60 : Int32)) - (1 : Int32)) - x1), .ref (a + 29)]) 7 rfl ?_
          refine ge_rem rfl (by decide) ?_
          refine ge_run (pc' := 29) (L' := [.ref (a + 28), .int x1, .int x2]) (S' := [.int (((rm ((((i (a + 28) 2) + (60 : Int32)) - (1 : Int32)) - x1) (60 : Int32)) * (5 : Int32)) + x2), .ref (a + 29)]) 4 rfl ?_
          refine ge_grd (fun g_7 g_8 => ?_)
          refine ge_iald (jn := (ix (((rm ((((i (a + 28) 2) + (60 : Int32)) - (1 : Int32)) - x1) (60 : Int32)) * (5 : Int32)) + x2))) rfl (sT29 s ha) ⟨g_7, rfl⟩ g_8 ?_
          exact ge_ret rfl rfl (And.intro rfl trivial)
        · refine ge_run (pc' := 12) (L' := [.ref (a + 28), .int x1, .int x2]) (S' := [.int (-2 : Int32)]) 1 rfl ?_
          exact ge_ret rfl rfl (And.intro rfl trivial)
    · refine ge_run (pc' := 12) (L' := [.ref (a + 28), .int x1, .int x2]) (S' := [.int (-2 : Int32)]) 1 rfl ?_
      exact ge_ret rfl rfl (And.intro rfl trivial)
def f_Lo_copyFrom (i : MI) (a : Nat) (b1 : Nat) : Option (MI) :=
  bnd (cpI i (b1 + 29) 0 (a + 29) 0 300) (fun i_1 => bnd (wr i_1 (a + 28) 1 (i_1 (b1 + 28) 1)) (fun i_2 => bnd (wr i_2 (a + 28) 2 (i_2 (b1 + 28) 2)) (fun i_3 => some i_3)))
set_option maxHeartbeats 4000000 in
theorem c_Lo_copyFrom {n u : Nat} {t : MT} {i : MI} {r : MR} (s : Sh n t r) (a : Nat) (ha : SeaAd a) (b1 : Nat) (hb1 : SeaAd b1) : Cn 1 33 [.ref (a + 28), .ref (b1 + 28)] (n, u, t, i, r) (f_Lo_copyFrom i a b1) (F_v1 n u t r) PT := by
  refine cn_of (Y := K_Lo_copyFrom) (L0 := [.ref (a + 28), .ref (b1 + 28)]) rfl rfl rfl ?_
  intro d hd
  unfold f_Lo_copyFrom
  refine ge_run (pc' := 1) (L' := [.ref (a + 28), .ref (b1 + 28)]) (S' := [.ref (b1 + 28)]) 1 rfl ?_
  refine ge_getR (b := (b1 + 29)) rfl (sT28 s hb1) rfl (sRlog s hb1) (sge hb1) ?_
  refine ge_run (pc' := 4) (L' := [.ref (a + 28), .ref (b1 + 28)]) (S' := [.ref (a + 28), .int (0 : Int32), .ref (b1 + 29)]) 2 rfl ?_
  refine ge_getR (b := (a + 29)) rfl (sT28 s ha) rfl (sRlog s ha) (sge ha) ?_
  refine ge_run (pc' := 7) (L' := [.ref (a + 28), .ref (b1 + 28)]) (S' := [.ref (a + 28), .int (0 : Int32), .ref (a + 29), .int (0 : Int32), .ref (b1 + 29)]) 2 rfl ?_
  refine ge_getR (b := (a + 29)) rfl (sT28 s ha) rfl (sRlog s ha) (sge ha) ?_
  refine ge_alen rfl (sT29 s ha) (by decide) ?_
  refine ge_cpy rfl (sT29 s hb1) (sT29 s ha) (sge ha) rfl lk0 lk0 (ltrN 300 (by decide)) (by decide) (by decide) (fun i_1 => ?_)
  refine ge_run (pc' := 12) (L' := [.ref (a + 28), .ref (b1 + 28)]) (S' := [.ref (b1 + 28), .ref (a + 28)]) 2 rfl ?_
  refine ge_getI rfl (sT28 s hb1) rfl ?_
  refine ge_putI rfl (sT28 s ha) (sge ha) rfl (fun i_2 => ?_)
  refine ge_run (pc' := 16) (L' := [.ref (a + 28), .ref (b1 + 28)]) (S' := [.ref (b1 + 28), .ref (a + 28)]) 2 rfl ?_
  refine ge_getI rfl (sT28 s hb1) rfl ?_
  refine ge_putI rfl (sT28 s ha) (sge ha) rfl (fun i_3 => ?_)
  exact ge_retv rfl rfl (And.intro rfl trivial)
def f_Pa_forget (i : MI) : Option (MI) :=
  bnd (wr i 1149 1 (0 : Int32)) (fun i_1 => some i_1)
set_option maxHeartbeats 4000000 in
theorem c_Pa_forget {n u : Nat} {t : MT} {i : MI} {r : MR} (s : Sh n t r)  : Cn 1 35 [.ref 1149] (n, u, t, i, r) (f_Pa_forget i ) (F_v1 n u t r) PT := by
  refine cn_of (Y := K_Pa_forget) (L0 := [.ref 1149]) rfl rfl rfl ?_
  intro d hd
  unfold f_Pa_forget
  refine ge_run (pc' := 2) (L' := [.ref 1149]) (S' := [.int (0 : Int32), .ref 1149]) 2 rfl ?_
  refine ge_putI rfl (t1149 s) (Nat.le_of_ble_eq_true rfl) rfl (fun i_1 => ?_)
  exact ge_retv rfl rfl (And.intro rfl trivial)
def f_Se_copyRows (i : MI) (v0 m w : Nat) (v1 : Nat) : Option (MI) :=
  (itr (σ := Int32 × MI) (ρ := MI) (fun (x2_1, i_2) => if x2_1 < (nI m) then (if x2_1 < (nI m) then (grd x2_1 m ((f_J_min (nI w) (nI w)).bind (fun v_9 => grd2 (decide (v_9 = nI w)) (bnd (cpI i_2 (v0 + 1 + (ix x2_1)) 0 (v1 + 1 + (ix x2_1)) 0 w) (fun i_11 => some (.inl ((x2_1 + (1 : Int32)), i_11))))))) else (some (.inr i_2))) else (some (.inr i_2))) 1000000 ((0 : Int32), i)).bind (fun i_3 => some i_3)
set_option maxHeartbeats 4000000 in
theorem c_Se_copyRows {n u : Nat} {t : MT} {i : MI} {r : MR} (s : Sh n t r) (v0 m w : Nat) (ht0 : t v0 = (104, m)) (hr0 : ∀ j, j < m → r v0 j = v0 + 1 + j ∧ t (v0 + 1 + j) = (100, w)) (hq0 : ∀ j, 1000 ≤ v0 + 1 + j) (hw : w < 2 ^ 31) (v1 : Nat) (ht1 : t v1 = (104, m)) (hr1 : ∀ j, j < m → r v1 j = v1 + 1 + j ∧ t (v1 + 1 + j) = (100, w)) (hq1 : ∀ j, 1000 ≤ v1 + 1 + j) : Cn 2 47 [.ref v0, .ref v1] (n, u, t, i, r) (f_Se_copyRows i v0 m w v1) (F_v1 n u t r) PT := by
  refine cn_of (Y := K_Se_copyRows) (L0 := [.ref v0, .ref v1, uV]) rfl rfl rfl ?_
  intro d hd
  unfold f_Se_copyRows
  refine ge_run (pc' := 2) (L' := [.ref v0, .ref v1, .int (0 : Int32)]) (S' := []) 2 rfl ?_
  refine ge_bind (K1 := fun (q : MI) e => ∃ w_4 : Value, e = .inl (30, [.ref v0, .ref v1, w_4], [], (n, u, t, q, r))) (ge_itr (C := fun (q : Int32 × MI) e => e = .inl (2, [.ref v0, .ref v1, .int q.1], [], (n, u, t, q.2, r))) ?_ _ _ _ rfl) ?_
  · rintro ⟨x2_1, i_2⟩ _ rfl
    try dsimp only
    refine ge_run (pc' := 4) (L' := [.ref v0, .ref v1, .int x2_1]) (S' := [.ref v0, .int x2_1]) 2 rfl ?_
    refine ge_alen rfl ht0 (by decide) ?_
    refine ge_ge rfl (fun h_5 => ?_) (fun h_13 => ?_)
    · refine ge_run (pc' := 8) (L' := [.ref v0, .ref v1, .int x2_1]) (S' := [.ref v1, .int x2_1]) 2 rfl ?_
      refine ge_alen rfl ht1 (by decide) ?_
      refine ge_ge rfl (fun h_6 => ?_) (fun h_12 => ?_)
      · refine ge_run (pc' := 12) (L' := [.ref v0, .ref v1, .int x2_1]) (S' := [.int x2_1, .ref v0]) 2 rfl ?_
        refine ge_grd (fun g_7 g_8 => ?_)
        refine ge_aald (jn := (ix x2_1)) (b := (v0 + 1 + (ix x2_1))) rfl ht0 (Or.inl rfl) ⟨g_7, rfl⟩ g_8 (hr0 (ix x2_1) g_8).1 (hq0 (ix x2_1)) ?_
        refine ge_run (pc' := 16) (L' := [.ref v0, .ref v1, .int x2_1]) (S' := [.int x2_1, .ref v1, .int (0 : Int32), .ref (v0 + 1 + (ix x2_1))]) 3 rfl ?_
        refine ge_aald (jn := (ix x2_1)) (b := (v1 + 1 + (ix x2_1))) rfl ht1 (Or.inl rfl) ⟨g_7, rfl⟩ g_8 (hr1 (ix x2_1) g_8).1 (hq1 (ix x2_1)) ?_
        refine ge_run (pc' := 20) (L' := [.ref v0, .ref v1, .int x2_1]) (S' := [.int x2_1, .ref v0, .int (0 : Int32), .ref (v1 + 1 + (ix x2_1)), .int (0 : Int32), .ref (v0 + 1 + (ix x2_1))]) 3 rfl ?_
        refine ge_aald (jn := (ix x2_1)) (b := (v0 + 1 + (ix x2_1))) rfl ht0 (Or.inl rfl) ⟨g_7, rfl⟩ g_8 (hr0 (ix x2_1) g_8).1 (hq0 (ix x2_1)) ?_
        refine ge_alen rfl (hr0 (ix x2_1) g_8).2 (by decide) ?_
        refine ge_run (pc' := 24) (L' := [.ref v0, .ref v1, .int x2_1]) (S' := [.int x2_1, .ref v1, .int (nI w), .int (0 : Int32), .ref (v1 + 1 + (ix x2_1)), .int (0 : Int32), .ref (v0 + 1 + (ix x2_1))]) 2 rfl ?_
        refine ge_aald (jn := (ix x2_1)) (b := (v1 + 1 + (ix x2_1))) rfl ht1 (Or.inl rfl) ⟨g_7, rfl⟩ g_8 (hr1 (ix x2_1) g_8).1 (hq1 (ix x2_1)) ?_
        refine ge_alen rfl (hr1 (ix x2_1) g_8).2 (by decide) ?_
        refine ge_cs rfl rfl rfl rfl rfl rfl (D := 1) (Nat.le_trans (by decide) hd) (c_J_min (n := n) (u := u) (t := t) (i := i_2) (r := r) s (nI w) (nI w)) ?_
        rintro v_9 -
        dsimp only [bkE, F_i0]
        refine ge_grd2 (fun h_10 => ?_)
        have h_10 := of_decide_eq_true h_10
        subst h_10
        refine ge_cpy rfl (hr0 (ix x2_1) g_8).2 (hr1 (ix x2_1) g_8).2 (hq1 (ix x2_1)) rfl lk0 lk0 (ltrN w hw) (by omega) (by omega) (fun i_11 => ?_)
        refine ge_run (pc' := 2) (L' := [.ref v0, .ref v1, .int (x2_1 + (1 : Int32))]) (S' := []) 2 rfl ?_
        exact ge_leaf (K := kX _ _) rfl
      · exact ge_leaf (K := kX _ _) (Exists.intro _ rfl)
    · exact ge_leaf (K := kX _ _) (Exists.intro _ rfl)
  · rintro i_3 _ ⟨w_4, rfl⟩
    try dsimp only
    exact ge_retv rfl rfl (And.intro rfl trivial)
def f_Se_copyFrom (r : MR) (i : MI) (a : Nat) (b1 : Nat) : Option (MI × MR) :=
  bnd (cpI i (b1 + 1) 0 (a + 1) 0 25) (fun i_1 => (f_Se_copyRows i_1 (b1 + 2) 8 6 (a + 2)).bind (fun i_2 => (f_Se_copyRows i_2 (b1 + 11) 3 3 (a + 11)).bind (fun i_3 => (f_Se_copyRows i_3 (b1 + 15) 5 4 (a + 15)).bind (fun i_4 => (f_Se_copyRows i_4 (b1 + 21) 6 2 (a + 21)).bind (fun i_5 => (f_Lo_copyFrom i_5 a b1).bind (fun i_6 => bnd (wr i_6 a 7 (i_6 b1 7)) (fun i_7 => bnd (wr i_7 a 8 (i_7 b1 8)) (fun i_8 => bnd (wr i_8 a 9 (i_8 b1 9)) (fun i_9 => bnd (wr i_9 a 10 (i_9 b1 10)) (fun i_10 => bnd (wr i_10 a 11 (i_10 b1 11)) (fun i_11 => bnd (wr i_11 a 12 (i_11 b1 12)) (fun i_12 => bnd (wr i_12 a 13 (i_12 b1 13)) (fun i_13 => bnd (wr i_13 a 14 (i_13 b1 14)) (fun i_14 => bnd (wr i_14 a 15 (i_14 b1 15)) (fun i_15 => bnd (wrR r a 16 (r b1 16)) (fun r_16 => some (i_15, r_16)))))))))))))))))
set_option maxHeartbeats 4000000 in
theorem c_Se_copyFrom {n u : Nat} {t : MT} {i : MI} {r : MR} (s : Sh n t r) (a : Nat) (ha : SeaAd a) (b1 : Nat) (hb1 : SeaAd b1) : Cn 3 46 [.ref a, .ref b1] (n, u, t, i, r) (f_Se_copyFrom r i a b1) (F_v2 n u t) (PS1 n t) := by
  refine cn_of (Y := K_Se_copyFrom) (L0 := [.ref a, .ref b1]) rfl rfl rfl ?_
  intro d hd
  unfold f_Se_copyFrom
  refine ge_run (pc' := 1) (L' := [.ref a, .ref b1]) (S' := [.ref b1]) 1 rfl ?_
  refine ge_getR (b := (b1 + 1)) rfl (sT0 s hb1) rfl (sR0 s hb1) (sge hb1) ?_
  refine ge_run (pc' := 4) (L' := [.ref a, .ref b1]) (S' := [.ref a, .int (0 : Int32), .ref (b1 + 1)]) 2 rfl ?_
  refine ge_getR (b := (a + 1)) rfl (sT0 s ha) rfl (sR0 s ha) (sge ha) ?_
  refine ge_run (pc' := 7) (L' := [.ref a, .ref b1]) (S' := [.int (25 : Int32), .int (0 : Int32), .ref (a + 1), .int (0 : Int32), .ref (b1 + 1)]) 2 rfl ?_
  refine ge_cpy rfl (sT1 s hb1) (sT1 s ha) (sge ha) rfl lk0 lk0 lk25 (by decide) (by decide) (fun i_1 => ?_)
  refine ge_run (pc' := 9) (L' := [.ref a, .ref b1]) (S' := [.ref b1]) 1 rfl ?_
  refine ge_getR (b := (b1 + 2)) rfl (sT0 s hb1) rfl (sR1 s hb1) (sge hb1) ?_
  refine ge_run (pc' := 11) (L' := [.ref a, .ref b1]) (S' := [.ref a, .ref (b1 + 2)]) 1 rfl ?_
  refine ge_getR (b := (a + 2)) rfl (sT0 s ha) rfl (sR1 s ha) (sge ha) ?_
  refine ge_cs rfl rfl rfl rfl rfl rfl (D := 2) (Nat.le_trans (by decide) hd) (c_Se_copyRows (n := n) (u := u) (t := t) (i := i_1) (r := r) s (b1 + 2) 8 6 (sT2 s hb1) (fun j h => ⟨sRx_fish s hb1 h, sRowx_fish s hb1 h⟩) (fun j => sge3 hb1) (by decide) (a + 2) (sT2 s ha) (fun j h => ⟨sRx_fish s ha h, sRowx_fish s ha h⟩) (fun j => sge3 ha)) ?_
  rintro i_2 -
  dsimp only [bkE, F_v1]
  refine ge_run (pc' := 14) (L' := [.ref a, .ref b1]) (S' := [.ref b1]) 1 rfl ?_
  refine ge_getR (b := (b1 + 11)) rfl (sT0 s hb1) rfl (sR2 s hb1) (sge hb1) ?_
  refine ge_run (pc' := 16) (L' := [.ref a, .ref b1]) (S' := [.ref a, .ref (b1 + 11)]) 1 rfl ?_
  refine ge_getR (b := (a + 11)) rfl (sT0 s ha) rfl (sR2 s ha) (sge ha) ?_
  refine ge_cs rfl rfl rfl rfl rfl rfl (D := 2) (Nat.le_trans (by decide) hd) (c_Se_copyRows (n := n) (u := u) (t := t) (i := i_2) (r := r) s (b1 + 11) 3 3 (sT11 s hb1) (fun j h => ⟨sRx_boat s hb1 h, sRowx_boat s hb1 h⟩) (fun j => sge3 hb1) (by decide) (a + 11) (sT11 s ha) (fun j h => ⟨sRx_boat s ha h, sRowx_boat s ha h⟩) (fun j => sge3 ha)) ?_
  rintro i_3 -
  dsimp only [bkE, F_v1]
  refine ge_run (pc' := 19) (L' := [.ref a, .ref b1]) (S' := [.ref b1]) 1 rfl ?_
  refine ge_getR (b := (b1 + 15)) rfl (sT0 s hb1) rfl (sR3 s hb1) (sge hb1) ?_
  refine ge_run (pc' := 21) (L' := [.ref a, .ref b1]) (S' := [.ref a, .ref (b1 + 15)]) 1 rfl ?_
  refine ge_getR (b := (a + 15)) rfl (sT0 s ha) rfl (sR3 s ha) (sge ha) ?_
  refine ge_cs rfl rfl rfl rfl rfl rfl (D := 2) (Nat.le_trans (by decide) hd) (c_Se_copyRows (n := n) (u := u) (t := t) (i := i_3) (r := r) s (b1 + 15) 5 4 (sT15 s hb1) (fun j h => ⟨sRx_buyer s hb1 h, sRowx_buyer s hb1 h⟩) (fun j => sge3 hb1) (by decide) (a + 15) (sT15 s ha) (fun j h => ⟨sRx_buyer s ha h, sRowx_buyer s ha h⟩) (fun j => sge3 ha)) ?_
  rintro i_4 -
  dsimp only [bkE, F_v1]
  refine ge_run (pc' := 24) (L' := [.ref a, .ref b1]) (S' := [.ref b1]) 1 rfl ?_
  refine ge_getR (b := (b1 + 21)) rfl (sT0 s hb1) rfl (sR4 s hb1) (sge hb1) ?_
  refine ge_run (pc' := 26) (L' := [.ref a, .ref b1]) (S' := [.ref a, .ref (b1 + 21)]) 1 rfl ?_
  refine ge_getR (b := (a + 21)) rfl (sT0 s ha) rfl (sR4 s ha) (sge ha) ?_
  refine ge_cs rfl rfl rfl rfl rfl rfl (D := 2) (Nat.le_trans (by decide) hd) (c_Se_copyRows (n := n) (u := u) (t := t) (i := i_4) (r := r) s (b1 + 21) 6 2 (sT21 s hb1) (fun j h => ⟨sRx_dead s hb1 h, sRowx_dead s hb1 h⟩) (fun j => sge3 hb1) (by decide) (a + 21) (sT21 s ha) (fun j h => ⟨sRx_dead s ha h, sRowx_dead s ha h⟩) (fun j => sge3 ha)) ?_
  rintro i_5 -
  dsimp only [bkE, F_v1]
  refine ge_run (pc' := 29) (L' := [.ref a, .ref b1]) (S' := [.ref a]) 1 rfl ?_
  refine ge_getR (b := (a + 28)) rfl (sT0 s ha) rfl (sR5 s ha) (sge ha) ?_
  refine ge_run (pc' := 31) (L' := [.ref a, .ref b1]) (S' := [.ref b1, .ref (a + 28)]) 1 rfl ?_
  refine ge_getR (b := (b1 + 28)) rfl (sT0 s hb1) rfl (sR5 s hb1) (sge hb1) ?_
  refine ge_cv rfl rfl rfl (sT28 s ha) rfl rfl rfl (D := 1) (Nat.le_trans (by decide) hd) (c_Lo_copyFrom (n := n) (u := u) (t := t) (i := i_5) (r := r) s a ha b1 hb1) ?_
  rintro i_6 -
  dsimp only [bkE, F_v1]
  refine ge_run (pc' := 35) (L' := [.ref a, .ref b1]) (S' := [.ref b1, .ref a]) 2 rfl ?_
  refine ge_getI rfl (sT0 s hb1) rfl ?_
  refine ge_putI rfl (sT0 s ha) (sge0 ha) rfl (fun i_7 => ?_)
  refine ge_run (pc' := 39) (L' := [.ref a, .ref b1]) (S' := [.ref b1, .ref a]) 2 rfl ?_
  refine ge_getI rfl (sT0 s hb1) rfl ?_
  refine ge_putI rfl (sT0 s ha) (sge0 ha) rfl (fun i_8 => ?_)
  refine ge_run (pc' := 43) (L' := [.ref a, .ref b1]) (S' := [.ref b1, .ref a]) 2 rfl ?_
  refine ge_getI rfl (sT0 s hb1) rfl ?_
  refine ge_putI rfl (sT0 s ha) (sge0 ha) rfl (fun i_9 => ?_)
  refine ge_run (pc' := 47) (L' := [.ref a, .ref b1]) (S' := [.ref b1, .ref a]) 2 rfl ?_
  refine ge_getI rfl (sT0 s hb1) rfl ?_
  refine ge_putI rfl (sT0 s ha) (sge0 ha) rfl (fun i_10 => ?_)
  refine ge_run (pc' := 51) (L' := [.ref a, .ref b1]) (S' := [.ref b1, .ref a]) 2 rfl ?_
  refine ge_getI rfl (sT0 s hb1) rfl ?_
  refine ge_putI rfl (sT0 s ha) (sge0 ha) rfl (fun i_11 => ?_)
  refine ge_run (pc' := 55) (L' := [.ref a, .ref b1]) (S' := [.ref b1, .ref a]) 2 rfl ?_
  refine ge_getI rfl (sT0 s hb1) rfl ?_
  refine ge_putI rfl (sT0 s ha) (sge0 ha) rfl (fun i_12 => ?_)
  refine ge_run (pc' := 59) (L' := [.ref a, .ref b1]) (S' := [.ref b1, .ref a]) 2 rfl ?_
  refine ge_getI rfl (sT0 s hb1) rfl ?_
  refine ge_putI rfl (sT0 s ha) (sge0 ha) rfl (fun i_13 => ?_)
  refine ge_run (pc' := 63) (L' := [.ref a, .ref b1]) (S' := [.ref b1, .ref a]) 2 rfl ?_
  refine ge_getI rfl (sT0 s hb1) rfl ?_
  refine ge_putI rfl (sT0 s ha) (sge0 ha) rfl (fun i_14 => ?_)
  refine ge_run (pc' := 67) (L' := [.ref a, .ref b1]) (S' := [.ref b1, .ref a]) 2 rfl ?_
  refine ge_getI rfl (sT0 s hb1) rfl ?_
  refine ge_putI rfl (sT0 s ha) (sge0 ha) rfl (fun i_15 => ?_)
  refine ge_run (pc' := 71) (L' := [.ref a, .ref b1]) (S' := [.ref b1, .ref a]) 2 rfl ?_
  refine ge_getR (b := (r b1 16)) rfl (sT0 s hb1) rfl rfl (lge (sLaw s hb1)) ?_
  refine ge_putR rfl (sT0 s ha) (sge0 ha) rfl (lge (sLaw s hb1)) ?_
  have s_17 := shLaw s ha (sLaw s hb1)
  generalize wrR r a 16 (r b1 16) = r_16 at s_17 ⊢
  try dsimp only
  exact ge_retv rfl rfl (And.intro rfl s_17)
def f_Pa_remember (r : MR) (i : MI) (b1 : Nat) : Option (MI × MR) :=
  grd (i 1149 2) 12 ((f_Se_copyFrom r i (1151 + 37 * (ix (i 1149 2))) b1).bind (fun (i_3, r_4) => bnd (wr i_3 1149 2 (rm ((i_3 1149 2) + (1 : Int32)) (12 : Int32))) (fun i_6 => (f_J_min (12 : Int32) ((i_6 1149 1) + (1 : Int32))).bind (fun v_7 => bnd (wr i_6 1149 1 v_7) (fun i_8 => some (i_8, r_4))))))
set_option maxHeartbeats 4000000 in
theorem c_Pa_remember {n u : Nat} {t : MT} {i : MI} {r : MR} (s : Sh n t r) (b1 : Nat) (hb1 : SeaAd b1) : Cn 4 36 [.ref 1149, .ref b1] (n, u, t, i, r) (f_Pa_remember r i b1) (F_v2 n u t) (PS1 n t) := by
  refine cn_of (Y := K_Pa_remember) (L0 := [.ref 1149, .ref b1, uV]) rfl rfl rfl ?_
  intro d hd
  unfold f_Pa_remember
  refine ge_run (pc' := 1) (L' := [.ref 1149, .ref b1, uV]) (S' := [.ref 1149]) 1 rfl ?_
  refine ge_getR (b := 1150) rfl (t1149 s) rfl (r1149_0 s) (Nat.le_of_ble_eq_true rfl) ?_
  refine ge_run (pc' := 3) (L' := [.ref 1149, .ref b1, uV]) (S' := [.ref 1149, .ref 1150]) 1 rfl ?_
  refine ge_getI rfl (t1149 s) rfl ?_
  refine ge_grd (fun g_1 g_2 => ?_)
  refine ge_aald (jn := (ix (i 1149 2))) (b := (1151 + 37 * (ix (i 1149 2)))) rfl (t1150 s) (Or.inr rfl) ⟨g_1, rfl⟩ g_2 (pastR s g_2) (sge0 (pastAd g_2)) ?_
  refine ge_run (pc' := 7) (L' := [.ref 1149, .ref b1, .ref (1151 + 37 * (ix (i 1149 2)))]) (S' := [.ref (1151 + 37 * (ix (i 1149 2)))]) 2 rfl ?_
  refine ge_null rfl (sge0 (pastAd g_2)) ?_
  refine ge_run (pc' := 10) (L' := [.ref 1149, .ref b1, .ref (1151 + 37 * (ix (i 1149 2)))]) (S' := [.ref b1, .ref (1151 + 37 * (ix (i 1149 2)))]) 2 rfl ?_
  refine ge_cv rfl rfl rfl (sT0 s (pastAd g_2)) rfl rfl rfl (D := 3) (Nat.le_trans (by decide) hd) (c_Se_copyFrom (n := n) (u := u) (t := t) (i := i) (r := r) s (1151 + 37 * (ix (i 1149 2))) (pastAd g_2) b1 hb1) ?_
  rintro ⟨i_3, r_4⟩ s_5
  dsimp only [bkE, F_v2]
  refine ge_run (pc' := 13) (L' := [.ref 1149, .ref b1, .ref (1151 + 37 * (ix (i 1149 2)))]) (S' := [.ref 1149, .ref 1149]) 2 rfl ?_
  refine ge_getI rfl (t1149 s_5) rfl ?_
  refine ge_run (pc' := 17) (L' := [.ref 1149, .ref b1, .ref (1151 + 37 * (ix (i 1149 2)))]) (S' := [.int (12 : Int32), .int ((i_3 1149 2) + (1 : Int32)), .ref 1149]) 3 rfl ?_
  refine ge_rem rfl (by decide) ?_
  refine ge_putI rfl (t1149 s_5) (Nat.le_of_ble_eq_true rfl) rfl (fun i_6 => ?_)
  refine ge_run (pc' := 22) (L' := [.ref 1149, .ref b1, .ref (1151 + 37 * (ix (i 1149 2)))]) (S' := [.ref 1149, .int (12 : Int32), .ref 1149]) 3 rfl ?_
  refine ge_getI rfl (t1149 s_5) rfl ?_
  refine ge_run (pc' := 25) (L' := [.ref 1149, .ref b1, .ref (1151 + 37 * (ix (i 1149 2)))]) (S' := [.int ((i_6 1149 1) + (1 : Int32)), .int (12 : Int32), .ref 1149]) 2 rfl ?_
  refine ge_cs rfl rfl rfl rfl rfl rfl (D := 1) (Nat.le_trans (by decide) hd) (c_J_min (n := n) (u := u) (t := t) (i := i_6) (r := r_4) s_5 (12 : Int32) ((i_6 1149 1) + (1 : Int32))) ?_
  rintro v_7 -
  dsimp only [bkE, F_i0]
  refine ge_putI rfl (t1149 s_5) (Nat.le_of_ble_eq_true rfl) rfl (fun i_8 => ?_)
  exact ge_retv rfl rfl (And.intro rfl s_5)
def f_Pa_bringBack (r : MR) (i : MI) (b1 : Nat) : Option (Int32 × MI × MR) :=
  grd (rm (((i 1149 2) + (12 : Int32)) - (1 : Int32)) (12 : Int32)) 12 (if (i 1149 1) = 0 then (some ((0 : Int32), i, r)) else (bnd (wr i 1149 1 ((i 1149 1) - (1 : Int32))) (fun i_5 => bnd (wr i_5 1149 2 (rm (((i 1149 2) + (12 : Int32)) - (1 : Int32)) (12 : Int32))) (fun i_6 => (f_Se_copyFrom r i_6 b1 (1151 + 37 * (ix (rm (((i 1149 2) + (12 : Int32)) - (1 : Int32)) (12 : Int32))))).bind (fun (i_7, r_8) => some ((1 : Int32), i_7, r_8))))))
set_option maxHeartbeats 4000000 in
theorem c_Pa_bringBack {n u : Nat} {t : MT} {i : MI} {r : MR} (s : Sh n t r) (b1 : Nat) (hb1 : SeaAd b1) : Cn 4 37 [.ref 1149, .ref b1] (n, u, t, i, r) (f_Pa_bringBack r i b1) (F_i2 n u t) (PS2 n t) := by
  refine cn_of (Y := K_Pa_bringBack) (L0 := [.ref 1149, .ref b1, uV, uV]) rfl rfl rfl ?_
  intro d hd
  unfold f_Pa_bringBack
  refine ge_run (pc' := 1) (L' := [.ref 1149, .ref b1, uV, uV]) (S' := [.ref 1149]) 1 rfl ?_
  refine ge_getI rfl (t1149 s) rfl ?_
  refine ge_run (pc' := 7) (L' := [.ref 1149, .ref b1, uV, uV]) (S' := [.int (12 : Int32), .int (((i 1149 2) + (12 : Int32)) - (1 : Int32))]) 5 rfl ?_
  refine ge_rem rfl (by decide) ?_
  refine ge_run (pc' := 10) (L' := [.ref 1149, .ref b1, .int (rm (((i 1149 2) + (12 : Int32)) - (1 : Int32)) (12 : Int32)), uV]) (S' := [.ref 1149]) 2 rfl ?_
  refine ge_getR (b := 1150) rfl (t1149 s) rfl (r1149_0 s) (Nat.le_of_ble_eq_true rfl) ?_
  refine ge_run (pc' := 12) (L' := [.ref 1149, .ref b1, .int (rm (((i 1149 2) + (12 : Int32)) - (1 : Int32)) (12 : Int32)), uV]) (S' := [.int (rm (((i 1149 2) + (12 : Int32)) - (1 : Int32)) (12 : Int32)), .ref 1150]) 1 rfl ?_
  refine ge_grd (fun g_1 g_2 => ?_)
  refine ge_aald (jn := (ix (rm (((i 1149 2) + (12 : Int32)) - (1 : Int32)) (12 : Int32)))) (b := (1151 + 37 * (ix (rm (((i 1149 2) + (12 : Int32)) - (1 : Int32)) (12 : Int32))))) rfl (t1150 s) (Or.inr rfl) ⟨g_1, rfl⟩ g_2 (pastR s g_2) (sge0 (pastAd g_2)) ?_
  refine ge_run (pc' := 15) (L' := [.ref 1149, .ref b1, .int (rm (((i 1149 2) + (12 : Int32)) - (1 : Int32)) (12 : Int32)), .ref (1151 + 37 * (ix (rm (((i 1149 2) + (12 : Int32)) - (1 : Int32)) (12 : Int32))))]) (S' := [.ref 1149]) 2 rfl ?_
  refine ge_getI rfl (t1149 s) rfl ?_
  refine ge_eq0 rfl (fun h_3 => ?_) (fun h_4 => ?_)
  · refine ge_run (pc' := 20) (L' := [.ref 1149, .ref b1, .int (rm (((i 1149 2) + (12 : Int32)) - (1 : Int32)) (12 : Int32)), .ref (1151 + 37 * (ix (rm (((i 1149 2) + (12 : Int32)) - (1 : Int32)) (12 : Int32))))]) (S' := [.int (0 : Int32)]) 1 rfl ?_
    exact ge_retz rfl rfl (Or.inl rfl) (And.intro rfl s)
  · refine ge_run (pc' := 18) (L' := [.ref 1149, .ref b1, .int (rm (((i 1149 2) + (12 : Int32)) - (1 : Int32)) (12 : Int32)), .ref (1151 + 37 * (ix (rm (((i 1149 2) + (12 : Int32)) - (1 : Int32)) (12 : Int32))))]) (S' := [.ref (1151 + 37 * (ix (rm (((i 1149 2) + (12 : Int32)) - (1 : Int32)) (12 : Int32))))]) 1 rfl ?_
    refine ge_nonnull rfl (sge0 (pastAd g_2)) ?_
    refine ge_run (pc' := 23) (L' := [.ref 1149, .ref b1, .int (rm (((i 1149 2) + (12 : Int32)) - (1 : Int32)) (12 : Int32)), .ref (1151 + 37 * (ix (rm (((i 1149 2) + (12 : Int32)) - (1 : Int32)) (12 : Int32))))]) (S' := [.ref 1149, .ref 1149]) 2 rfl ?_
    refine ge_getI rfl (t1149 s) rfl ?_
    refine ge_run (pc' := 26) (L' := [.ref 1149, .ref b1, .int (rm (((i 1149 2) + (12 : Int32)) - (1 : Int32)) (12 : Int32)), .ref (1151 + 37 * (ix (rm (((i 1149 2) + (12 : Int32)) - (1 : Int32)) (12 : Int32))))]) (S' := [.int ((i 1149 1) - (1 : Int32)), .ref 1149]) 2 rfl ?_
    refine ge_putI rfl (t1149 s) (Nat.le_of_ble_eq_true rfl) rfl (fun i_5 => ?_)
    refine ge_run (pc' := 29) (L' := [.ref 1149, .ref b1, .int (rm (((i 1149 2) + (12 : Int32)) - (1 : Int32)) (12 : Int32)), .ref (1151 + 37 * (ix (rm (((i 1149 2) + (12 : Int32)) - (1 : Int32)) (12 : Int32))))]) (S' := [.int (rm (((i 1149 2) + (12 : Int32)) - (1 : Int32)) (12 : Int32)), .ref 1149]) 2 rfl ?_
    refine ge_putI rfl (t1149 s) (Nat.le_of_ble_eq_true rfl) rfl (fun i_6 => ?_)
    refine ge_run (pc' := 32) (L' := [.ref 1149, .ref b1, .int (rm (((i 1149 2) + (12 : Int32)) - (1 : Int32)) (12 : Int32)), .ref (1151 + 37 * (ix (rm (((i 1149 2) + (12 : Int32)) - (1 : Int32)) (12 : Int32))))]) (S' := [.ref (1151 + 37 * (ix (rm (((i 1149 2) + (12 : Int32)) - (1 : Int32)) (12 : Int32)))), .ref b1]) 2 rfl ?_
    refine ge_cv rfl rfl rfl (sT0 s hb1) rfl rfl rfl (D := 3) (Nat.le_trans (by decide) hd) (c_Se_copyFrom (n := n) (u := u) (t := t) (i := i_6) (r := r) s b1 hb1 (1151 + 37 * (ix (rm (((i 1149 2) + (12 : Int32)) - (1 : Int32)) (12 : Int32)))) (pastAd g_2)) ?_
    rintro ⟨i_7, r_8⟩ s_9
    dsimp only [bkE, F_v2]
    refine ge_run (pc' := 34) (L' := [.ref 1149, .ref b1, .int (rm (((i 1149 2) + (12 : Int32)) - (1 : Int32)) (12 : Int32)), .ref (1151 + 37 * (ix (rm (((i 1149 2) + (12 : Int32)) - (1 : Int32)) (12 : Int32))))]) (S' := [.int (1 : Int32)]) 1 rfl ?_
    exact ge_retz rfl rfl (Or.inr rfl) (And.intro rfl s_9)
def f_Se_sizesOf (i : MI) (a : Nat) (x1 : Int32) : Option (Int32) :=
  (itr (σ := Int32 × Int32) (ρ := Int32) (fun (x2_1, x3_2) => if x3_2 < (i a 7) then ((if ((shr x1 x3_2) &&& (1 : Int32)) = 0 then (some x2_1) else (grd x3_2 8 (some (x2_1 + (i (a + 3 + (ix x3_2)) 1)))) : Option (Int32)).bind (fun x2_6 => some (.inl (x2_6, (x3_2 + (1 : Int32)))))) else (some (.inr x2_1))) 1000000 ((0 : Int32), (0 : Int32))).bind (fun x2_3 => some (x2_3))
set_option maxHeartbeats 4000000 in
theorem c_Se_sizesOf {n u : Nat} {t : MT} {i : MI} {r : MR} (s : Sh n t r) (a : Nat) (ha : SeaAd a) (x1 : Int32) : Cn 1 67 [.ref a, .int x1] (n, u, t, i, r) (f_Se_sizesOf i a x1) (F_i0 n u t i r) PT := by
  refine cn_of (Y := K_Se_sizesOf) (L0 := [.ref a, .int x1, uV, uV]) rfl rfl rfl ?_
  intro d hd
  unfold f_Se_sizesOf
  refine ge_run (pc' := 4) (L' := [.ref a, .int x1, .int (0 : Int32), .int (0 : Int32)]) (S' := []) 4 rfl ?_
  refine ge_bind (K1 := fun (q : Int32) e => ∃ w_4 : Value, e = .inl (25, [.ref a, .int x1, .int q, w_4], [], (n, u, t, i, r))) (ge_itr (C := fun (q : Int32 × Int32) e => e = .inl (4, [.ref a, .int x1, .int q.1, .int q.2], [], (n, u, t, i, r))) ?_ _ _ _ rfl) ?_
  · rintro ⟨x2_1, x3_2⟩ _ rfl
    try dsimp only
    refine ge_run (pc' := 6) (L' := [.ref a, .int x1, .int x2_1, .int x3_2]) (S' := [.ref a, .int x3_2]) 2 rfl ?_
    refine ge_getI rfl (sT0 s ha) rfl ?_
    refine ge_ge rfl (fun h_5 => ?_) (fun h_11 => ?_)
    · refine ge_run (pc' := 13) (L' := [.ref a, .int x1, .int x2_1, .int x3_2]) (S' := [.int ((shr x1 x3_2) &&& (1 : Int32))]) 5 rfl ?_
      refine ge_bind (K1 := fun (q : Int32) e => e = .inl (23, [.ref a, .int x1, .int q, .int x3_2], [], (n, u, t, i, r))) ?_ ?_
      · refine ge_eq0 rfl (fun h_7 => ?_) (fun h_8 => ?_)
        · exact ge_leaf rfl
        · refine ge_run (pc' := 16) (L' := [.ref a, .int x1, .int x2_1, .int x3_2]) (S' := [.ref a, .int x2_1]) 2 rfl ?_
          refine ge_getR (b := (a + 2)) rfl (sT0 s ha) rfl (sR1 s ha) (sge ha) ?_
          refine ge_run (pc' := 18) (L' := [.ref a, .int x1, .int x2_1, .int x3_2]) (S' := [.int x3_2, .ref (a + 2), .int x2_1]) 1 rfl ?_
          refine ge_grd (fun g_9 g_10 => ?_)
          refine ge_aald (jn := (ix x3_2)) (b := (a + 3 + (ix x3_2))) rfl (sT2 s ha) (Or.inl rfl) ⟨g_9, rfl⟩ g_10 (sRr_fish s ha g_10) (sge2 ha) ?_
          refine ge_run (pc' := 20) (L' := [.ref a, .int x1, .int x2_1, .int x3_2]) (S' := [.int (1 : Int32), .ref (a + 3 + (ix x3_2)), .int x2_1]) 1 rfl ?_
          refine ge_iald (jn := 1) rfl (sRow_fish s ha g_10) lk1 (by decide) ?_
          refine ge_run (pc' := 23) (L' := [.ref a, .int x1, .int (x2_1 + (i (a + 3 + (ix x3_2)) 1)), .int x3_2]) (S' := []) 2 rfl ?_
          exact ge_leaf rfl
      · rintro x2_6 _ rfl
        try dsimp only
        refine ge_run (pc' := 4) (L' := [.ref a, .int x1, .int x2_6, .int (x3_2 + (1 : Int32))]) (S' := []) 2 rfl ?_
        exact ge_leaf (K := kX _ _) rfl
    · exact ge_leaf (K := kX _ _) (Exists.intro _ rfl)
  · rintro x2_3 _ ⟨w_4, rfl⟩
    try dsimp only
    refine ge_run (pc' := 26) (L' := [.ref a, .int x1, .int x2_3, w_4]) (S' := [.int x2_3]) 1 rfl ?_
    exact ge_ret rfl rfl (And.intro rfl trivial)
def f_Pu_addSizes (i : MI) (b1 : Nat) : Option (MI) :=
  (itr (σ := Int32 × MI) (ρ := MI) (fun (x2_1, i_2) => if x2_1 < (shl (1 : Int32) (i_2 b1 7)) then ((f_Se_sizesOf i_2 b1 x2_1).bind (fun v_6 => grd x2_1 256 (bnd (wr i_2 1618 (ix x2_1) v_6) (fun i_9 => some (.inl ((x2_1 + (1 : Int32)), i_9)))))) else (some (.inr i_2))) 1000000 ((1 : Int32), i)).bind (fun i_3 => some i_3)
set_option maxHeartbeats 4000000 in
theorem c_Pu_addSizes {n u : Nat} {t : MT} {i : MI} {r : MR} (s : Sh n t r) (b1 : Nat) (hb1 : SeaAd b1) : Cn 2 40 [.ref 1614, .ref b1] (n, u, t, i, r) (f_Pu_addSizes i b1) (F_v1 n u t r) PT := by
  refine cn_of (Y := K_Pu_addSizes) (L0 := [.ref 1614, .ref b1, uV]) rfl rfl rfl ?_
  intro d hd
  unfold f_Pu_addSizes
  refine ge_run (pc' := 2) (L' := [.ref 1614, .ref b1, .int (1 : Int32)]) (S' := []) 2 rfl ?_
  refine ge_bind (K1 := fun (q : MI) e => ∃ w_4 : Value, e = .inl (17, [.ref 1614, .ref b1, w_4], [], (n, u, t, q, r))) (ge_itr (C := fun (q : Int32 × MI) e => e = .inl (2, [.ref 1614, .ref b1, .int q.1], [], (n, u, t, q.2, r))) ?_ _ _ _ rfl) ?_
  · rintro ⟨x2_1, i_2⟩ _ rfl
    try dsimp only
    refine ge_run (pc' := 5) (L' := [.ref 1614, .ref b1, .int x2_1]) (S' := [.ref b1, .int (1 : Int32), .int x2_1]) 3 rfl ?_
    refine ge_getI rfl (sT0 s hb1) rfl ?_
    refine ge_run (pc' := 7) (L' := [.ref 1614, .ref b1, .int x2_1]) (S' := [.int (shl (1 : Int32) (i_2 b1 7)), .int x2_1]) 1 rfl ?_
    refine ge_ge rfl (fun h_5 => ?_) (fun h_10 => ?_)
    · refine ge_run (pc' := 9) (L' := [.ref 1614, .ref b1, .int x2_1]) (S' := [.ref 1614]) 1 rfl ?_
      refine ge_getR (b := 1618) rfl (t1614 s) rfl (r1614_3 s) (Nat.le_of_ble_eq_true rfl) ?_
      refine ge_run (pc' := 13) (L' := [.ref 1614, .ref b1, .int x2_1]) (S' := [.int x2_1, .ref b1, .int x2_1, .ref 1618]) 3 rfl ?_
      refine ge_cv rfl rfl rfl (sT0 s hb1) rfl rfl rfl (D := 1) (Nat.le_trans (by decide) hd) (c_Se_sizesOf (n := n) (u := u) (t := t) (i := i_2) (r := r) s b1 hb1 x2_1) ?_
      rintro v_6 -
      dsimp only [bkE, F_i0]
      refine ge_grd (fun g_7 g_8 => ?_)
      refine ge_iast (jn := (ix x2_1)) rfl (t1618 s) (Nat.le_of_ble_eq_true rfl) ⟨g_7, rfl⟩ g_8 (fun i_9 => ?_)
      refine ge_run (pc' := 2) (L' := [.ref 1614, .ref b1, .int (x2_1 + (1 : Int32))]) (S' := []) 2 rfl ?_
      exact ge_leaf (K := kX _ _) rfl
    · exact ge_leaf (K := kX _ _) (Exists.intro _ rfl)
  · rintro i_3 _ ⟨w_4, rfl⟩
    try dsimp only
    exact ge_retv rfl rfl (And.intro rfl trivial)
def f_Se_saidKindOf (i : MI) (a : Nat) (x1 : Int32) (x2 : Int32) : Option (Int32) :=
  grd x1 6 (grd x2 8 (if ((shr (i (a + 22 + (ix x1)) 0) (i (a + 3 + (ix x2)) 0)) &&& (1 : Int32)) = 0 then (some ((0 : Int32))) else (some ((1 : Int32)))))
set_option maxHeartbeats 4000000 in
theorem c_Se_saidKindOf {n u : Nat} {t : MT} {i : MI} {r : MR} (s : Sh n t r) (a : Nat) (ha : SeaAd a) (x1 : Int32) (x2 : Int32) : Cn 1 60 [.ref a, .int x1, .int x2] (n, u, t, i, r) (f_Se_saidKindOf i a x1 x2) (F_i0 n u t i r) PT := by
  refine cn_of (Y := K_Se_saidKindOf) (L0 := [.ref a, .int x1, .int x2]) rfl rfl rfl ?_
  intro d hd
  unfold f_Se_saidKindOf
  refine ge_run (pc' := 1) (L' := [.ref a, .int x1, .int x2]) (S' := [.ref a]) 1 rfl ?_
  refine ge_getR (b := (a + 21)) rfl (sT0 s ha) rfl (sR4 s ha) (sge ha) ?_
  refine ge_run (pc' := 3) (L' := [.ref a, .int x1, .int x2]) (S' := [.int x1, .ref (a + 21)]) 1 rfl ?_
  refine ge_grd (fun g_1 g_2 => ?_)
  refine ge_aald (jn := (ix x1)) (b := (a + 22 + (ix x1))) rfl (sT21 s ha) (Or.inl rfl) ⟨g_1, rfl⟩ g_2 (sRr_dead s ha g_2) (sge2 ha) ?_
  refine ge_run (pc' := 5) (L' := [.ref a, .int x1, .int x2]) (S' := [.int (0 : Int32), .ref (a + 22 + (ix x1))]) 1 rfl ?_
  refine ge_iald (jn := 0) rfl (sRow_dead s ha g_2) lk0 (by decide) ?_
  refine ge_run (pc' := 7) (L' := [.ref a, .int x1, .int x2]) (S' := [.ref a, .int (i (a + 22 + (ix x1)) 0)]) 1 rfl ?_
  refine ge_getR (b := (a + 2)) rfl (sT0 s ha) rfl (sR1 s ha) (sge ha) ?_
  refine ge_run (pc' := 9) (L' := [.ref a, .int x1, .int x2]) (S' := [.int x2, .ref (a + 2), .int (i (a + 22 + (ix x1)) 0)]) 1 rfl ?_
  refine ge_grd (fun g_3 g_4 => ?_)
  refine ge_aald (jn := (ix x2)) (b := (a + 3 + (ix x2))) rfl (sT2 s ha) (Or.inl rfl) ⟨g_3, rfl⟩ g_4 (sRr_fish s ha g_4) (sge2 ha) ?_
  refine ge_run (pc' := 11) (L' := [.ref a, .int x1, .int x2]) (S' := [.int (0 : Int32), .ref (a + 3 + (ix x2)), .int (i (a + 22 + (ix x1)) 0)]) 1 rfl ?_
  refine ge_iald (jn := 0) rfl (sRow_fish s ha g_4) lk0 (by decide) ?_
  refine ge_run (pc' := 15) (L' := [.ref a, .int x1, .int x2]) (S' := [.int ((shr (i (a + 22 + (ix x1)) 0) (i (a + 3 + (ix x2)) 0)) &&& (1 : Int32))]) 3 rfl ?_
  refine ge_eq0 rfl (fun h_5 => ?_) (fun h_6 => ?_)
  · refine ge_run (pc' := 19) (L' := [.ref a, .int x1, .int x2]) (S' := [.int (0 : Int32)]) 1 rfl ?_
    exact ge_retz rfl rfl (Or.inl rfl) (And.intro rfl trivial)
  · refine ge_run (pc' := 19) (L' := [.ref a, .int x1, .int x2]) (S' := [.int (1 : Int32)]) 2 rfl ?_
    exact ge_retz rfl rfl (Or.inr rfl) (And.intro rfl trivial)
def f_Pu_fittingTo (i : MI) (b0 : Nat) (x1 : Int32) : Option (Int32) :=
  (itr (σ := Int32 × Int32) (ρ := Int32) (fun (x2_1, x3_2) => if x3_2 < (i b0 7) then ((f_Se_saidKindOf i b0 x1 x3_2).bind (fun v_6 => (if v_6 = 0 then (some x2_1) else (some (x2_1 ||| (shl (1 : Int32) x3_2))) : Option (Int32)).bind (fun x2_7 => some (.inl (x2_7, (x3_2 + (1 : Int32))))))) else (some (.inr x2_1))) 1000000 ((0 : Int32), (0 : Int32))).bind (fun x2_3 => some (x2_3))
set_option maxHeartbeats 4000000 in
theorem c_Pu_fittingTo {n u : Nat} {t : MT} {i : MI} {r : MR} (s : Sh n t r) (b0 : Nat) (hb0 : SeaAd b0) (x1 : Int32) : Cn 2 41 [.ref b0, .int x1] (n, u, t, i, r) (f_Pu_fittingTo i b0 x1) (F_i0 n u t i r) PT := by
  refine cn_of (Y := K_Pu_fittingTo) (L0 := [.ref b0, .int x1, uV, uV]) rfl rfl rfl ?_
  intro d hd
  unfold f_Pu_fittingTo
  refine ge_run (pc' := 4) (L' := [.ref b0, .int x1, .int (0 : Int32), .int (0 : Int32)]) (S' := []) 4 rfl ?_
  refine ge_bind (K1 := fun (q : Int32) e => ∃ w_4 : Value, e = .inl (21, [.ref b0, .int x1, .int q, w_4], [], (n, u, t, i, r))) (ge_itr (C := fun (q : Int32 × Int32) e => e = .inl (4, [.ref b0, .int x1, .int q.1, .int q.2], [], (n, u, t, i, r))) ?_ _ _ _ rfl) ?_
  · rintro ⟨x2_1, x3_2⟩ _ rfl
    try dsimp only
    refine ge_run (pc' := 6) (L' := [.ref b0, .int x1, .int x2_1, .int x3_2]) (S' := [.ref b0, .int x3_2]) 2 rfl ?_
    refine ge_getI rfl (sT0 s hb0) rfl ?_
    refine ge_ge rfl (fun h_5 => ?_) (fun h_10 => ?_)
    · refine ge_run (pc' := 11) (L' := [.ref b0, .int x1, .int x2_1, .int x3_2]) (S' := [.int x3_2, .int x1, .ref b0]) 3 rfl ?_
      refine ge_cv rfl rfl rfl (sT0 s hb0) rfl rfl rfl (D := 1) (Nat.le_trans (by decide) hd) (c_Se_saidKindOf (n := n) (u := u) (t := t) (i := i) (r := r) s b0 hb0 x1 x3_2) ?_
      rintro v_6 -
      dsimp only [bkE, F_i0]
      refine ge_bind (K1 := fun (q : Int32) e => e = .inl (19, [.ref b0, .int x1, .int q, .int x3_2], [], (n, u, t, i, r))) ?_ ?_
      · refine ge_eq0 rfl (fun h_8 => ?_) (fun h_9 => ?_)
        · exact ge_leaf rfl
        · refine ge_run (pc' := 19) (L' := [.ref b0, .int x1, .int (x2_1 ||| (shl (1 : Int32) x3_2)), .int x3_2]) (S' := []) 6 rfl ?_
          exact ge_leaf rfl
      · rintro x2_7 _ rfl
        try dsimp only
        refine ge_run (pc' := 4) (L' := [.ref b0, .int x1, .int x2_7, .int (x3_2 + (1 : Int32))]) (S' := []) 2 rfl ?_
        exact ge_leaf (K := kX _ _) rfl
    · exact ge_leaf (K := kX _ _) (Exists.intro _ rfl)
  · rintro x2_3 _ ⟨w_4, rfl⟩
    try dsimp only
    refine ge_run (pc' := 22) (L' := [.ref b0, .int x1, .int x2_3, w_4]) (S' := [.int x2_3]) 1 rfl ?_
    exact ge_ret rfl rfl (And.intro rfl trivial)
def f_Pu_completes (i : MI) (x1 : Int32) (x2 : Int32) : Option (Int32) :=
  grd x2 6 (itr (σ := Int32) (ρ := Int32) (fun x4_3 => if 0 < x4_3 then (grd x4_3 256 (grd x2 6 (if (i 1616 (ix x2)) < (i 1618 (ix x4_3)) then (some (.inl ((x4_3 - (1 : Int32)) &&& (x1 &&& (i 1617 (ix x2)))))) else (grd (x1 &&& (x4_3 ^^^ (-1 : Int32))) 256 (if (i 1619 (ix (x1 &&& (x4_3 ^^^ (-1 : Int32))))) = 0 then (some (.inl ((x4_3 - (1 : Int32)) &&& (x1 &&& (i 1617 (ix x2)))))) else (some (.inr (((1 : Int32)))))))))) else (some (.inr (((0 : Int32)))))) 1000000 (x1 &&& (i 1617 (ix x2))))
set_option maxHeartbeats 4000000 in
theorem c_Pu_completes {n u : Nat} {t : MT} {i : MI} {r : MR} (s : Sh n t r) (x1 : Int32) (x2 : Int32) : Cn 1 44 [.ref 1614, .int x1, .int x2] (n, u, t, i, r) (f_Pu_completes i x1 x2) (F_i0 n u t i r) PT := by
  refine cn_of (Y := K_Pu_completes) (L0 := [.ref 1614, .int x1, .int x2, uV, uV]) rfl rfl rfl ?_
  intro d hd
  unfold f_Pu_completes
  refine ge_run (pc' := 2) (L' := [.ref 1614, .int x1, .int x2, uV, uV]) (S' := [.ref 1614, .int x1]) 2 rfl ?_
  refine ge_getR (b := 1617) rfl (t1614 s) rfl (r1614_2 s) (Nat.le_of_ble_eq_true rfl) ?_
  refine ge_run (pc' := 4) (L' := [.ref 1614, .int x1, .int x2, uV, uV]) (S' := [.int x2, .ref 1617, .int x1]) 1 rfl ?_
  refine ge_grd (fun g_1 g_2 => ?_)
  refine ge_iald (jn := (ix x2)) rfl (t1617 s) ⟨g_1, rfl⟩ g_2 ?_
  refine ge_run (pc' := 9) (L' := [.ref 1614, .int x1, .int x2, .int (x1 &&& (i 1617 (ix x2))), .int (x1 &&& (i 1617 (ix x2)))]) (S' := []) 4 rfl ?_
  refine ge_itr (C := fun (q : Int32) e => e = .inl (9, [.ref 1614, .int x1, .int x2, .int (x1 &&& (i 1617 (ix x2))), .int q], [], (n, u, t, i, r))) ?_ _ _ _ rfl
  rintro x4_3 _ rfl
  try dsimp only
  refine ge_run (pc' := 10) (L' := [.ref 1614, .int x1, .int x2, .int (x1 &&& (i 1617 (ix x2))), .int x4_3]) (S' := [.int x4_3]) 1 rfl ?_
  refine ge_le0 rfl (fun h_4 => ?_) (fun h_15 => ?_)
  · refine ge_run (pc' := 12) (L' := [.ref 1614, .int x1, .int x2, .int (x1 &&& (i 1617 (ix x2))), .int x4_3]) (S' := [.ref 1614]) 1 rfl ?_
    refine ge_getR (b := 1618) rfl (t1614 s) rfl (r1614_3 s) (Nat.le_of_ble_eq_true rfl) ?_
    refine ge_run (pc' := 14) (L' := [.ref 1614, .int x1, .int x2, .int (x1 &&& (i 1617 (ix x2))), .int x4_3]) (S' := [.int x4_3, .ref 1618]) 1 rfl ?_
    refine ge_grd (fun g_5 g_6 => ?_)
    refine ge_iald (jn := (ix x4_3)) rfl (t1618 s) ⟨g_5, rfl⟩ g_6 ?_
    refine ge_run (pc' := 16) (L' := [.ref 1614, .int x1, .int x2, .int (x1 &&& (i 1617 (ix x2))), .int x4_3]) (S' := [.ref 1614, .int (i 1618 (ix x4_3))]) 1 rfl ?_
    refine ge_getR (b := 1616) rfl (t1614 s) rfl (r1614_1 s) (Nat.le_of_ble_eq_true rfl) ?_
    refine ge_run (pc' := 18) (L' := [.ref 1614, .int x1, .int x2, .int (x1 &&& (i 1617 (ix x2))), .int x4_3]) (S' := [.int x2, .ref 1616, .int (i 1618 (ix x4_3))]) 1 rfl ?_
    refine ge_grd (fun g_7 g_8 => ?_)
    refine ge_iald (jn := (ix x2)) rfl (t1616 s) ⟨g_7, rfl⟩ g_8 ?_
    refine ge_gt rfl (fun h_9 => ?_) (fun h_10 => ?_)
    · refine ge_run (pc' := 9) (L' := [.ref 1614, .int x1, .int x2, .int (x1 &&& (i 1617 (ix x2))), .int ((x4_3 - (1 : Int32)) &&& (x1 &&& (i 1617 (ix x2))))]) (S' := []) 7 rfl ?_
      exact ge_leaf (K := kX _ _) rfl
    · refine ge_run (pc' := 21) (L' := [.ref 1614, .int x1, .int x2, .int (x1 &&& (i 1617 (ix x2))), .int x4_3]) (S' := [.ref 1614]) 1 rfl ?_
      refine ge_getR (b := 1619) rfl (t1614 s) rfl (r1614_4 s) (Nat.le_of_ble_eq_true rfl) ?_
      refine ge_run (pc' := 27) (L' := [.ref 1614, .int x1, .int x2, .int (x1 &&& (i 1617 (ix x2))), .int x4_3]) (S' := [.int (x1 &&& (x4_3 ^^^ (-1 : Int32))), .ref 1619]) 5 rfl ?_
      refine ge_grd (fun g_11 g_12 => ?_)
      refine ge_bald (jn := (ix (x1 &&& (x4_3 ^^^ (-1 : Int32))))) rfl (Or.inr (t1619 s)) ⟨g_11, rfl⟩ g_12 ?_
      refine ge_eq0 rfl (fun h_13 => ?_) (fun h_14 => ?_)
      · refine ge_run (pc' := 9) (L' := [.ref 1614, .int x1, .int x2, .int (x1 &&& (i 1617 (ix x2))), .int ((x4_3 - (1 : Int32)) &&& (x1 &&& (i 1617 (ix x2))))]) (S' := []) 7 rfl ?_
        exact ge_leaf (K := kX _ _) rfl
      · refine ge_run (pc' := 30) (L' := [.ref 1614, .int x1, .int x2, .int (x1 &&& (i 1617 (ix x2))), .int x4_3]) (S' := [.int (1 : Int32)]) 1 rfl ?_
        exact ge_retz rfl rfl (Or.inr rfl) (And.intro rfl trivial)
  · refine ge_run (pc' := 39) (L' := [.ref 1614, .int x1, .int x2, .int (x1 &&& (i 1617 (ix x2))), .int x4_3]) (S' := [.int (0 : Int32)]) 1 rfl ?_
    exact ge_retz rfl rfl (Or.inl rfl) (And.intro rfl trivial)
def f_Pu_mostOf (i : MI) (x1 : Int32) (x2 : Int32) : Option (Int32 × MI) :=
  (itr (σ := Int32 × MI) (ρ := MI) (fun (x3_1, i_2) => if 0 < x3_1 then (grd x3_1 256 (grd2 (decide ((0 : Int32) = 0 ∨ (0 : Int32) = 1)) (bnd (wr i_2 1619 (ix x3_1) (0 : Int32)) (fun i_8 => some (.inl (((x3_1 - (1 : Int32)) &&& x1), i_8)))))) else (some (.inr i_2))) 1000000 (x1, i)).bind (fun i_3 => grd2 (decide ((1 : Int32) = 0 ∨ (1 : Int32) = 1)) (bnd (wr i_3 1619 0 (1 : Int32)) (fun i_10 => (itr (σ := Int32 × MI) (ρ := MI) (fun (x3_11, i_12) => if x3_11 < x2 then ((itr (σ := Int32 × MI) (ρ := MI) (fun (x4_18, i_19) => if 0 < x4_18 then (grd x4_18 256 ((if (i_19 1619 (ix x4_18)) = 0 then ((f_Pu_completes i_19 x4_18 x3_11).bind (fun v_27 => if v_27 = 0 then (some (0 : Int32)) else (some (1 : Int32)))) else (some (1 : Int32)) : Option (Int32)).bind (fun y_25 => grd2 (decide (y_25 = 0 ∨ y_25 = 1)) (bnd (wr i_19 1619 (ix x4_18) y_25) (fun i_31 => some (.inl (((x4_18 - (1 : Int32)) &&& x1), i_31))))))) else (some (.inr i_19))) 1000000 (x1, i_12)).bind (fun i_20 => some (.inl ((x3_11 + (1 : Int32)), i_20)))) else (some (.inr i_12))) 1000000 ((0 : Int32), i_10)).bind (fun i_14 => (itr (σ := Int32 × Int32) (ρ := Int32) (fun (x3_34, x4_35) => if 0 < x4_35 then (grd x4_35 256 ((if (i_14 1619 (ix x4_35)) = 0 then (some x3_34) else ((f_J_bitCount x4_35).bind (fun v_44 => (f_J_max x3_34 v_44).bind (fun v_45 => some v_45))) : Option (Int32)).bind (fun x3_41 => some (.inl (x3_41, ((x4_35 - (1 : Int32)) &&& x1)))))) else (some (.inr x3_34))) 1000000 ((0 : Int32), x1)).bind (fun x3_36 => some (x3_36, i_14))))))
set_option maxHeartbeats 4000000 in
theorem c_Pu_mostOf {n u : Nat} {t : MT} {i : MI} {r : MR} (s : Sh n t r) (x1 : Int32) (x2 : Int32) : Cn 2 43 [.ref 1614, .int x1, .int x2] (n, u, t, i, r) (f_Pu_mostOf i x1 x2) (F_i1 n u t r) PT := by
  refine cn_of (Y := K_Pu_mostOf) (L0 := [.ref 1614, .int x1, .int x2, uV, uV]) rfl rfl rfl ?_
  intro d hd
  unfold f_Pu_mostOf
  refine ge_run (pc' := 2) (L' := [.ref 1614, .int x1, .int x2, .int x1, uV]) (S' := []) 2 rfl ?_
  refine ge_bind (K1 := fun (q : MI) e => ∃ w_4 : Value, e = .inl (16, [.ref 1614, .int x1, .int x2, w_4, uV], [], (n, u, t, q, r))) (ge_itr (C := fun (q : Int32 × MI) e => e = .inl (2, [.ref 1614, .int x1, .int x2, .int q.1, uV], [], (n, u, t, q.2, r))) ?_ _ _ _ rfl) ?_
  · rintro ⟨x3_1, i_2⟩ _ rfl
    try dsimp only
    refine ge_run (pc' := 3) (L' := [.ref 1614, .int x1, .int x2, .int x3_1, uV]) (S' := [.int x3_1]) 1 rfl ?_
    refine ge_le0 rfl (fun h_5 => ?_) (fun h_9 => ?_)
    · refine ge_run (pc' := 5) (L' := [.ref 1614, .int x1, .int x2, .int x3_1, uV]) (S' := [.ref 1614]) 1 rfl ?_
      refine ge_getR (b := 1619) rfl (t1614 s) rfl (r1614_4 s) (Nat.le_of_ble_eq_true rfl) ?_
      refine ge_run (pc' := 8) (L' := [.ref 1614, .int x1, .int x2, .int x3_1, uV]) (S' := [.int (0 : Int32), .int x3_1, .ref 1619]) 2 rfl ?_
      refine ge_grd (fun g_6 g_7 => ?_)
      refine ge_zast (jn := (ix x3_1)) rfl (t1619 s) (Nat.le_of_ble_eq_true rfl) ⟨g_6, rfl⟩ g_7 (fun i_8 => ?_)
      refine ge_run (pc' := 2) (L' := [.ref 1614, .int x1, .int x2, .int ((x3_1 - (1 : Int32)) &&& x1), uV]) (S' := []) 7 rfl ?_
      exact ge_leaf (K := kX _ _) rfl
    · exact ge_leaf (K := kX _ _) (Exists.intro _ rfl)
  · rintro i_3 _ ⟨w_4, rfl⟩
    try dsimp only
    refine ge_run (pc' := 17) (L' := [.ref 1614, .int x1, .int x2, w_4, uV]) (S' := [.ref 1614]) 1 rfl ?_
    refine ge_getR (b := 1619) rfl (t1614 s) rfl (r1614_4 s) (Nat.le_of_ble_eq_true rfl) ?_
    refine ge_run (pc' := 20) (L' := [.ref 1614, .int x1, .int x2, w_4, uV]) (S' := [.int (1 : Int32), .int (0 : Int32), .ref 1619]) 2 rfl ?_
    refine ge_zast (jn := 0) rfl (t1619 s) (Nat.le_of_ble_eq_true rfl) lk0 (by decide) (fun i_10 => ?_)
    refine ge_run (pc' := 23) (L' := [.ref 1614, .int x1, .int x2, .int (0 : Int32), uV]) (S' := []) 2 rfl ?_
    refine ge_bind (K1 := fun (q : MI) e => ∃ w_15 w_16 : Value, e = .inl (56, [.ref 1614, .int x1, .int x2, w_15, w_16], [], (n, u, t, q, r))) (ge_itr (C := fun (q : Int32 × MI) e => ∃ w_13 : Value, e = .inl (23, [.ref 1614, .int x1, .int x2, .int q.1, w_13], [], (n, u, t, q.2, r))) ?_ _ _ _ (Exists.intro _ rfl)) ?_
    · rintro ⟨x3_11, i_12⟩ _ ⟨w_13, rfl⟩
      try dsimp only
      refine ge_run (pc' := 25) (L' := [.ref 1614, .int x1, .int x2, .int x3_11, w_13]) (S' := [.int x2, .int x3_11]) 2 rfl ?_
      refine ge_ge rfl (fun h_17 => ?_) (fun h_33 => ?_)
      · refine ge_run (pc' := 28) (L' := [.ref 1614, .int x1, .int x2, .int x3_11, .int x1]) (S' := []) 2 rfl ?_
        refine ge_bind (K1 := fun (q : MI) e => ∃ w_21 : Value, e = .inl (54, [.ref 1614, .int x1, .int x2, .int x3_11, w_21], [], (n, u, t, q, r))) (ge_itr (C := fun (q : Int32 × MI) e => e = .inl (28, [.ref 1614, .int x1, .int x2, .int x3_11, .int q.1], [], (n, u, t, q.2, r))) ?_ _ _ _ rfl) ?_
        · rintro ⟨x4_18, i_19⟩ _ rfl
          try dsimp only
          refine ge_run (pc' := 29) (L' := [.ref 1614, .int x1, .int x2, .int x3_11, .int x4_18]) (S' := [.int x4_18]) 1 rfl ?_
          refine ge_le0 rfl (fun h_22 => ?_) (fun h_32 => ?_)
          · refine ge_run (pc' := 31) (L' := [.ref 1614, .int x1, .int x2, .int x3_11, .int x4_18]) (S' := [.ref 1614]) 1 rfl ?_
            refine ge_getR (b := 1619) rfl (t1614 s) rfl (r1614_4 s) (Nat.le_of_ble_eq_true rfl) ?_
            refine ge_run (pc' := 34) (L' := [.ref 1614, .int x1, .int x2, .int x3_11, .int x4_18]) (S' := [.ref 1614, .int x4_18, .ref 1619]) 2 rfl ?_
            refine ge_getR (b := 1619) rfl (t1614 s) rfl (r1614_4 s) (Nat.le_of_ble_eq_true rfl) ?_
            refine ge_run (pc' := 36) (L' := [.ref 1614, .int x1, .int x2, .int x3_11, .int x4_18]) (S' := [.int x4_18, .ref 1619, .int x4_18, .ref 1619]) 1 rfl ?_
            refine ge_grd (fun g_23 g_24 => ?_)
            refine ge_bald (jn := (ix x4_18)) rfl (Or.inr (t1619 s)) ⟨g_23, rfl⟩ g_24 ?_
            refine ge_bind (K1 := fun (q : Int32) e => e = .inl (46, [.ref 1614, .int x1, .int x2, .int x3_11, .int x4_18], [.int q, .int x4_18, .ref 1619], (n, u, t, i_19, r))) ?_ ?_
            · refine ge_ne0 rfl (fun h_26 => ?_) (fun h_30 => ?_)
              · refine ge_run (pc' := 41) (L' := [.ref 1614, .int x1, .int x2, .int x3_11, .int x4_18]) (S' := [.int x3_11, .int x4_18, .ref 1614, .int x4_18, .ref 1619]) 3 rfl ?_
                refine ge_cv rfl rfl rfl (t1614 s) rfl rfl rfl (D := 1) (Nat.le_trans (by decide) hd) (c_Pu_completes (n := n) (u := u) (t := t) (i := i_19) (r := r) s x4_18 x3_11) ?_
                rintro v_27 -
                dsimp only [bkE, F_i0]
                refine ge_eq0 rfl (fun h_28 => ?_) (fun h_29 => ?_)
                · refine ge_run (pc' := 46) (L' := [.ref 1614, .int x1, .int x2, .int x3_11, .int x4_18]) (S' := [.int (0 : Int32), .int x4_18, .ref 1619]) 1 rfl ?_
                  exact ge_leaf rfl
                · refine ge_run (pc' := 46) (L' := [.ref 1614, .int x1, .int x2, .int x3_11, .int x4_18]) (S' := [.int (1 : Int32), .int x4_18, .ref 1619]) 2 rfl ?_
                  exact ge_leaf rfl
              · refine ge_run (pc' := 46) (L' := [.ref 1614, .int x1, .int x2, .int x3_11, .int x4_18]) (S' := [.int (1 : Int32), .int x4_18, .ref 1619]) 2 rfl ?_
                exact ge_leaf rfl
            · rintro y_25 _ rfl
              try dsimp only
              refine ge_zast (jn := (ix x4_18)) rfl (t1619 s) (Nat.le_of_ble_eq_true rfl) ⟨g_23, rfl⟩ g_24 (fun i_31 => ?_)
              refine ge_run (pc' := 28) (L' := [.ref 1614, .int x1, .int x2, .int x3_11, .int ((x4_18 - (1 : Int32)) &&& x1)]) (S' := []) 7 rfl ?_
              exact ge_leaf (K := kX _ _) rfl
          · exact ge_leaf (K := kX _ _) (Exists.intro _ rfl)
        · rintro i_20 _ ⟨w_21, rfl⟩
          try dsimp only
          refine ge_run (pc' := 23) (L' := [.ref 1614, .int x1, .int x2, .int (x3_11 + (1 : Int32)), w_21]) (S' := []) 2 rfl ?_
          exact ge_leaf (K := kX _ _) (Exists.intro _ rfl)
      · exact ge_leaf (K := kX _ _) (Exists.intro _ (Exists.intro _ rfl))
    · rintro i_14 _ ⟨w_15, w_16, rfl⟩
      try dsimp only
      refine ge_run (pc' := 60) (L' := [.ref 1614, .int x1, .int x2, .int (0 : Int32), .int x1]) (S' := []) 4 rfl ?_
      refine ge_bind (K1 := fun (q : Int32) e => ∃ w_37 : Value, e = .inl (79, [.ref 1614, .int x1, .int x2, .int q, w_37], [], (n, u, t, i_14, r))) (ge_itr (C := fun (q : Int32 × Int32) e => e = .inl (60, [.ref 1614, .int x1, .int x2, .int q.1, .int q.2], [], (n, u, t, i_14, r))) ?_ _ _ _ rfl) ?_
      · rintro ⟨x3_34, x4_35⟩ _ rfl
        try dsimp only
        refine ge_run (pc' := 61) (L' := [.ref 1614, .int x1, .int x2, .int x3_34, .int x4_35]) (S' := [.int x4_35]) 1 rfl ?_
        refine ge_le0 rfl (fun h_38 => ?_) (fun h_46 => ?_)
        · refine ge_run (pc' := 63) (L' := [.ref 1614, .int x1, .int x2, .int x3_34, .int x4_35]) (S' := [.ref 1614]) 1 rfl ?_
          refine ge_getR (b := 1619) rfl (t1614 s) rfl (r1614_4 s) (Nat.le_of_ble_eq_true rfl) ?_
          refine ge_run (pc' := 65) (L' := [.ref 1614, .int x1, .int x2, .int x3_34, .int x4_35]) (S' := [.int x4_35, .ref 1619]) 1 rfl ?_
          refine ge_grd (fun g_39 g_40 => ?_)
          refine ge_bald (jn := (ix x4_35)) rfl (Or.inr (t1619 s)) ⟨g_39, rfl⟩ g_40 ?_
          refine ge_bind (K1 := fun (q : Int32) e => e = .inl (72, [.ref 1614, .int x1, .int x2, .int q, .int x4_35], [], (n, u, t, i_14, r))) ?_ ?_
          · refine ge_eq0 rfl (fun h_42 => ?_) (fun h_43 => ?_)
            · exact ge_leaf rfl
            · refine ge_run (pc' := 69) (L' := [.ref 1614, .int x1, .int x2, .int x3_34, .int x4_35]) (S' := [.int x4_35, .int x3_34]) 2 rfl ?_
              refine ge_cs rfl rfl rfl rfl rfl rfl (D := 1) (Nat.le_trans (by decide) hd) (c_J_bitCount (n := n) (u := u) (t := t) (i := i_14) (r := r) s x4_35) ?_
              rintro v_44 -
              dsimp only [bkE, F_i0]
              refine ge_cs rfl rfl rfl rfl rfl rfl (D := 1) (Nat.le_trans (by decide) hd) (c_J_max (n := n) (u := u) (t := t) (i := i_14) (r := r) s x3_34 v_44) ?_
              rintro v_45 -
              dsimp only [bkE, F_i0]
              refine ge_run (pc' := 72) (L' := [.ref 1614, .int x1, .int x2, .int v_45, .int x4_35]) (S' := []) 1 rfl ?_
              exact ge_leaf rfl
          · rintro x3_41 _ rfl
            try dsimp only
            refine ge_run (pc' := 60) (L' := [.ref 1614, .int x1, .int x2, .int x3_41, .int ((x4_35 - (1 : Int32)) &&& x1)]) (S' := []) 7 rfl ?_
            exact ge_leaf (K := kX _ _) rfl
        · exact ge_leaf (K := kX _ _) (Exists.intro _ rfl)
      · rintro x3_36 _ ⟨w_37, rfl⟩
        try dsimp only
        refine ge_run (pc' := 80) (L' := [.ref 1614, .int x1, .int x2, .int x3_36, w_37]) (S' := [.int x3_36]) 1 rfl ?_
        exact ge_ret rfl rfl (And.intro rfl trivial)
def f_Pu_firstFor (i : MI) (x1 : Int32) (x2 : Int32) (x3 : Int32) (x4 : Int32) : Option (Int32 × MI) :=
  grd (shl (1 : Int32) x1) 256 (itr (σ := Int32 × MI) (ρ := Int32 × MI) (fun (x6_3, i_4) => if x6_3 < x4 then (grd x6_3 6 (if ((shr (i_4 1617 (ix x6_3)) x1) &&& (1 : Int32)) = 0 then (some (.inl ((x6_3 + (1 : Int32)), i_4))) else (if (i_4 1616 (ix x6_3)) < (i 1618 (ix (shl (1 : Int32) x1))) then (some (.inl ((x6_3 + (1 : Int32)), i_4))) else (bnd (wr i_4 1616 (ix x6_3) ((i_4 1616 (ix x6_3)) - (i 1618 (ix (shl (1 : Int32) x1))))) (fun i_12 => (f_Pu_mostOf i_12 x2 x4).bind (fun (v_13, i_14) => if ((1 : Int32) + v_13) = x3 then (some (.inr ((x6_3, i_14)))) else (bnd (wr i_14 1616 (ix x6_3) ((i_14 1616 (ix x6_3)) + (i 1618 (ix (shl (1 : Int32) x1))))) (fun i_17 => some (.inl ((x6_3 + (1 : Int32)), i_17)))))))))) else (some (.inr (((-1 : Int32), i_4))))) 1000000 ((0 : Int32), i))
set_option maxHeartbeats 4000000 in
theorem c_Pu_firstFor {n u : Nat} {t : MT} {i : MI} {r : MR} (s : Sh n t r) (x1 : Int32) (x2 : Int32) (x3 : Int32) (x4 : Int32) : Cn 3 42 [.ref 1614, .int x1, .int x2, .int x3, .int x4] (n, u, t, i, r) (f_Pu_firstFor i x1 x2 x3 x4) (F_i1 n u t r) PT := by
  refine cn_of (Y := K_Pu_firstFor) (L0 := [.ref 1614, .int x1, .int x2, .int x3, .int x4, uV, uV]) rfl rfl rfl ?_
  intro d hd
  unfold f_Pu_firstFor
  refine ge_run (pc' := 1) (L' := [.ref 1614, .int x1, .int x2, .int x3, .int x4, uV, uV]) (S' := [.ref 1614]) 1 rfl ?_
  refine ge_getR (b := 1618) rfl (t1614 s) rfl (r1614_3 s) (Nat.le_of_ble_eq_true rfl) ?_
  refine ge_run (pc' := 5) (L' := [.ref 1614, .int x1, .int x2, .int x3, .int x4, uV, uV]) (S' := [.int (shl (1 : Int32) x1), .ref 1618]) 3 rfl ?_
  refine ge_grd (fun g_1 g_2 => ?_)
  refine ge_iald (jn := (ix (shl (1 : Int32) x1))) rfl (t1618 s) ⟨g_1, rfl⟩ g_2 ?_
  refine ge_run (pc' := 9) (L' := [.ref 1614, .int x1, .int x2, .int x3, .int x4, .int (i 1618 (ix (shl (1 : Int32) x1))), .int (0 : Int32)]) (S' := []) 3 rfl ?_
  refine ge_itr (C := fun (q : Int32 × MI) e => e = .inl (9, [.ref 1614, .int x1, .int x2, .int x3, .int x4, .int (i 1618 (ix (shl (1 : Int32) x1))), .int q.1], [], (n, u, t, q.2, r))) ?_ _ _ _ rfl
  rintro ⟨x6_3, i_4⟩ _ rfl
  try dsimp only
  refine ge_run (pc' := 11) (L' := [.ref 1614, .int x1, .int x2, .int x3, .int x4, .int (i 1618 (ix (shl (1 : Int32) x1))), .int x6_3]) (S' := [.int x4, .int x6_3]) 2 rfl ?_
  refine ge_ge rfl (fun h_5 => ?_) (fun h_18 => ?_)
  · refine ge_run (pc' := 13) (L' := [.ref 1614, .int x1, .int x2, .int x3, .int x4, .int (i 1618 (ix (shl (1 : Int32) x1))), .int x6_3]) (S' := [.ref 1614]) 1 rfl ?_
    refine ge_getR (b := 1617) rfl (t1614 s) rfl (r1614_2 s) (Nat.le_of_ble_eq_true rfl) ?_
    refine ge_run (pc' := 15) (L' := [.ref 1614, .int x1, .int x2, .int x3, .int x4, .int (i 1618 (ix (shl (1 : Int32) x1))), .int x6_3]) (S' := [.int x6_3, .ref 1617]) 1 rfl ?_
    refine ge_grd (fun g_6 g_7 => ?_)
    refine ge_iald (jn := (ix x6_3)) rfl (t1617 s) ⟨g_6, rfl⟩ g_7 ?_
    refine ge_run (pc' := 20) (L' := [.ref 1614, .int x1, .int x2, .int x3, .int x4, .int (i 1618 (ix (shl (1 : Int32) x1))), .int x6_3]) (S' := [.int ((shr (i_4 1617 (ix x6_3)) x1) &&& (1 : Int32))]) 4 rfl ?_
    refine ge_eq0 rfl (fun h_8 => ?_) (fun h_9 => ?_)
    · refine ge_run (pc' := 9) (L' := [.ref 1614, .int x1, .int x2, .int x3, .int x4, .int (i 1618 (ix (shl (1 : Int32) x1))), .int (x6_3 + (1 : Int32))]) (S' := []) 2 rfl ?_
      exact ge_leaf (K := kX _ _) rfl
    · refine ge_run (pc' := 22) (L' := [.ref 1614, .int x1, .int x2, .int x3, .int x4, .int (i 1618 (ix (shl (1 : Int32) x1))), .int x6_3]) (S' := [.ref 1614]) 1 rfl ?_
      refine ge_getR (b := 1616) rfl (t1614 s) rfl (r1614_1 s) (Nat.le_of_ble_eq_true rfl) ?_
      refine ge_run (pc' := 24) (L' := [.ref 1614, .int x1, .int x2, .int x3, .int x4, .int (i 1618 (ix (shl (1 : Int32) x1))), .int x6_3]) (S' := [.int x6_3, .ref 1616]) 1 rfl ?_
      refine ge_iald (jn := (ix x6_3)) rfl (t1616 s) ⟨g_6, rfl⟩ g_7 ?_
      refine ge_run (pc' := 26) (L' := [.ref 1614, .int x1, .int x2, .int x3, .int x4, .int (i 1618 (ix (shl (1 : Int32) x1))), .int x6_3]) (S' := [.int (i 1618 (ix (shl (1 : Int32) x1))), .int (i_4 1616 (ix x6_3))]) 1 rfl ?_
      refine ge_lt rfl (fun h_10 => ?_) (fun h_11 => ?_)
      · refine ge_run (pc' := 9) (L' := [.ref 1614, .int x1, .int x2, .int x3, .int x4, .int (i 1618 (ix (shl (1 : Int32) x1))), .int (x6_3 + (1 : Int32))]) (S' := []) 2 rfl ?_
        exact ge_leaf (K := kX _ _) rfl
      · refine ge_run (pc' := 28) (L' := [.ref 1614, .int x1, .int x2, .int x3, .int x4, .int (i 1618 (ix (shl (1 : Int32) x1))), .int x6_3]) (S' := [.ref 1614]) 1 rfl ?_
        refine ge_getR (b := 1616) rfl (t1614 s) rfl (r1614_1 s) (Nat.le_of_ble_eq_true rfl) ?_
        refine ge_run (pc' := 31) (L' := [.ref 1614, .int x1, .int x2, .int x3, .int x4, .int (i 1618 (ix (shl (1 : Int32) x1))), .int x6_3]) (S' := [.int x6_3, .ref 1616, .int x6_3, .ref 1616]) 2 rfl ?_
        refine ge_iald (jn := (ix x6_3)) rfl (t1616 s) ⟨g_6, rfl⟩ g_7 ?_
        refine ge_run (pc' := 34) (L' := [.ref 1614, .int x1, .int x2, .int x3, .int x4, .int (i 1618 (ix (shl (1 : Int32) x1))), .int x6_3]) (S' := [.int ((i_4 1616 (ix x6_3)) - (i 1618 (ix (shl (1 : Int32) x1)))), .int x6_3, .ref 1616]) 2 rfl ?_
        refine ge_iast (jn := (ix x6_3)) rfl (t1616 s) (Nat.le_of_ble_eq_true rfl) ⟨g_6, rfl⟩ g_7 (fun i_12 => ?_)
        refine ge_run (pc' := 39) (L' := [.ref 1614, .int x1, .int x2, .int x3, .int x4, .int (i 1618 (ix (shl (1 : Int32) x1))), .int x6_3]) (S' := [.int x4, .int x2, .ref 1614, .int (1 : Int32)]) 4 rfl ?_
        refine ge_cv rfl rfl rfl (t1614 s) rfl rfl rfl (D := 2) (Nat.le_trans (by decide) hd) (c_Pu_mostOf (n := n) (u := u) (t := t) (i := i_12) (r := r) s x2 x4) ?_
        rintro ⟨v_13, i_14⟩ -
        dsimp only [bkE, F_i1]
        refine ge_run (pc' := 42) (L' := [.ref 1614, .int x1, .int x2, .int x3, .int x4, .int (i 1618 (ix (shl (1 : Int32) x1))), .int x6_3]) (S' := [.int x3, .int ((1 : Int32) + v_13)]) 2 rfl ?_
        refine ge_ne rfl (fun h_15 => ?_) (fun h_16 => ?_)
        · refine ge_run (pc' := 44) (L' := [.ref 1614, .int x1, .int x2, .int x3, .int x4, .int (i 1618 (ix (shl (1 : Int32) x1))), .int x6_3]) (S' := [.int x6_3]) 1 rfl ?_
          exact ge_ret rfl rfl (And.intro rfl trivial)
        · refine ge_run (pc' := 46) (L' := [.ref 1614, .int x1, .int x2, .int x3, .int x4, .int (i 1618 (ix (shl (1 : Int32) x1))), .int x6_3]) (S' := [.ref 1614]) 1 rfl ?_
          refine ge_getR (b := 1616) rfl (t1614 s) rfl (r1614_1 s) (Nat.le_of_ble_eq_true rfl) ?_
          refine ge_run (pc' := 49) (L' := [.ref 1614, .int x1, .int x2, .int x3, .int x4, .int (i 1618 (ix (shl (1 : Int32) x1))), .int x6_3]) (S' := [.int x6_3, .ref 1616, .int x6_3, .ref 1616]) 2 rfl ?_
          refine ge_iald (jn := (ix x6_3)) rfl (t1616 s) ⟨g_6, rfl⟩ g_7 ?_
          refine ge_run (pc' := 52) (L' := [.ref 1614, .int x1, .int x2, .int x3, .int x4, .int (i 1618 (ix (shl (1 : Int32) x1))), .int x6_3]) (S' := [.int ((i_14 1616 (ix x6_3)) + (i 1618 (ix (shl (1 : Int32) x1)))), .int x6_3, .ref 1616]) 2 rfl ?_
          refine ge_iast (jn := (ix x6_3)) rfl (t1616 s) (Nat.le_of_ble_eq_true rfl) ⟨g_6, rfl⟩ g_7 (fun i_17 => ?_)
          refine ge_run (pc' := 9) (L' := [.ref 1614, .int x1, .int x2, .int x3, .int x4, .int (i 1618 (ix (shl (1 : Int32) x1))), .int (x6_3 + (1 : Int32))]) (S' := []) 2 rfl ?_
          exact ge_leaf (K := kX _ _) rfl
  · refine ge_run (pc' := 56) (L' := [.ref 1614, .int x1, .int x2, .int x3, .int x4, .int (i 1618 (ix (shl (1 : Int32) x1))), .int x6_3]) (S' := [.int (-1 : Int32)]) 1 rfl ?_
    exact ge_ret rfl rfl (And.intro rfl trivial)
def f_Pu_plan (i : MI) (b1 : Nat) : Option (MI) :=
  (f_Se_placed i b1 (3 : Int32)).bind (fun v_1 => (f_Pu_addSizes i b1).bind (fun i_2 => (itr (σ := Int32 × MI) (ρ := MI) (fun (x3_3, i_4) => if x3_3 < (i_4 b1 10) then (grd x3_3 6 (bnd (wr i_4 1616 (ix x3_3) (i_4 (b1 + 22 + (ix x3_3)) 1)) (fun i_10 => (f_Pu_fittingTo i_10 b1 x3_3).bind (fun v_11 => bnd (wr i_10 1617 (ix x3_3) (v_11 &&& (((shl (1 : Int32) (i b1 7)) - (1 : Int32)) &&& (v_1 ^^^ (-1 : Int32))))) (fun i_12 => some (.inl ((x3_3 + (1 : Int32)), i_12))))))) else (some (.inr i_4))) 1000000 ((0 : Int32), i_2)).bind (fun i_5 => (f_Pu_mostOf i_5 (((shl (1 : Int32) (i b1 7)) - (1 : Int32)) &&& (v_1 ^^^ (-1 : Int32))) (i_5 b1 10)).bind (fun (v_14, i_15) => bnd (wr i_15 1614 5 v_14) (fun i_16 => (itr (σ := Int32 × Int32 × Int32 × MI) (ρ := MI) (fun (x3_17, x4_18, x5_19, i_20) => if x5_19 < (i_20 b1 7) then ((if ((shr (((shl (1 : Int32) (i b1 7)) - (1 : Int32)) &&& (v_1 ^^^ (-1 : Int32))) x5_19) &&& (1 : Int32)) = 0 then (some ((-1 : Int32), i_20)) else ((f_Pu_firstFor i_20 x5_19 (x4_18 &&& ((shl (1 : Int32) x5_19) ^^^ (-1 : Int32))) x3_17 (i_20 b1 10)).bind (fun (v_30, i_31) => some (v_30, i_31))) : Option (Int32 × MI)).bind (fun (y_26, i_27) => grd x5_19 8 (bnd (wr i_27 1615 (ix x5_19) y_26) (fun i_34 => (if (i_34 1615 (ix x5_19)) = (-1 : Int32) then (some x3_17) else (some (x3_17 + (-1 : Int32))) : Option (Int32)).bind (fun x3_35 => some (.inl (x3_35, (x4_18 &&& ((shl (1 : Int32) x5_19) ^^^ (-1 : Int32))), (x5_19 + (1 : Int32)), i_34))))))) else (some (.inr i_20))) 1000000 ((i_16 1614 5), (((shl (1 : Int32) (i b1 7)) - (1 : Int32)) &&& (v_1 ^^^ (-1 : Int32))), (0 : Int32), i_16)).bind (fun i_21 => some i_21))))))
set_option maxHeartbeats 4000000 in
theorem c_Pu_plan {n u : Nat} {t : MT} {i : MI} {r : MR} (s : Sh n t r) (b1 : Nat) (hb1 : SeaAd b1) : Cn 4 39 [.ref 1614, .ref b1] (n, u, t, i, r) (f_Pu_plan i b1) (F_v1 n u t r) PT := by
  refine cn_of (Y := K_Pu_plan) (L0 := [.ref 1614, .ref b1, uV, uV, uV, uV]) rfl rfl rfl ?_
  intro d hd
  unfold f_Pu_plan
  refine ge_run (pc' := 2) (L' := [.ref 1614, .ref b1, uV, uV, uV, uV]) (S' := [.ref b1, .int (1 : Int32)]) 2 rfl ?_
  refine ge_getI rfl (sT0 s hb1) rfl ?_
  refine ge_run (pc' := 8) (L' := [.ref 1614, .ref b1, uV, uV, uV, uV]) (S' := [.int (3 : Int32), .ref b1, .int ((shl (1 : Int32) (i b1 7)) - (1 : Int32))]) 5 rfl ?_
  refine ge_cv rfl rfl rfl (sT0 s hb1) rfl rfl rfl (D := 1) (Nat.le_trans (by decide) hd) (c_Se_placed (n := n) (u := u) (t := t) (i := i) (r := r) s b1 hb1 (3 : Int32)) ?_
  rintro v_1 -
  dsimp only [bkE, F_i0]
  refine ge_run (pc' := 15) (L' := [.ref 1614, .ref b1, .int (((shl (1 : Int32) (i b1 7)) - (1 : Int32)) &&& (v_1 ^^^ (-1 : Int32))), uV, uV, uV]) (S' := [.ref b1, .ref 1614]) 6 rfl ?_
  refine ge_cv rfl rfl rfl (t1614 s) rfl rfl rfl (D := 2) (Nat.le_trans (by decide) hd) (c_Pu_addSizes (n := n) (u := u) (t := t) (i := i) (r := r) s b1 hb1) ?_
  rintro i_2 -
  dsimp only [bkE, F_v1]
  refine ge_run (pc' := 18) (L' := [.ref 1614, .ref b1, .int (((shl (1 : Int32) (i b1 7)) - (1 : Int32)) &&& (v_1 ^^^ (-1 : Int32))), .int (0 : Int32), uV, uV]) (S' := []) 2 rfl ?_
  refine ge_bind (K1 := fun (q : MI) e => ∃ w_6 : Value, e = .inl (43, [.ref 1614, .ref b1, .int (((shl (1 : Int32) (i b1 7)) - (1 : Int32)) &&& (v_1 ^^^ (-1 : Int32))), w_6, uV, uV], [], (n, u, t, q, r))) (ge_itr (C := fun (q : Int32 × MI) e => e = .inl (18, [.ref 1614, .ref b1, .int (((shl (1 : Int32) (i b1 7)) - (1 : Int32)) &&& (v_1 ^^^ (-1 : Int32))), .int q.1, uV, uV], [], (n, u, t, q.2, r))) ?_ _ _ _ rfl) ?_
  · rintro ⟨x3_3, i_4⟩ _ rfl
    try dsimp only
    refine ge_run (pc' := 20) (L' := [.ref 1614, .ref b1, .int (((shl (1 : Int32) (i b1 7)) - (1 : Int32)) &&& (v_1 ^^^ (-1 : Int32))), .int x3_3, uV, uV]) (S' := [.ref b1, .int x3_3]) 2 rfl ?_
    refine ge_getI rfl (sT0 s hb1) rfl ?_
    refine ge_ge rfl (fun h_7 => ?_) (fun h_13 => ?_)
    · refine ge_run (pc' := 23) (L' := [.ref 1614, .ref b1, .int (((shl (1 : Int32) (i b1 7)) - (1 : Int32)) &&& (v_1 ^^^ (-1 : Int32))), .int x3_3, uV, uV]) (S' := [.ref 1614]) 1 rfl ?_
      refine ge_getR (b := 1616) rfl (t1614 s) rfl (r1614_1 s) (Nat.le_of_ble_eq_true rfl) ?_
      refine ge_run (pc' := 26) (L' := [.ref 1614, .ref b1, .int (((shl (1 : Int32) (i b1 7)) - (1 : Int32)) &&& (v_1 ^^^ (-1 : Int32))), .int x3_3, uV, uV]) (S' := [.ref b1, .int x3_3, .ref 1616]) 2 rfl ?_
      refine ge_getR (b := (b1 + 21)) rfl (sT0 s hb1) rfl (sR4 s hb1) (sge hb1) ?_
      refine ge_run (pc' := 28) (L' := [.ref 1614, .ref b1, .int (((shl (1 : Int32) (i b1 7)) - (1 : Int32)) &&& (v_1 ^^^ (-1 : Int32))), .int x3_3, uV, uV]) (S' := [.int x3_3, .ref (b1 + 21), .int x3_3, .ref 1616]) 1 rfl ?_
      refine ge_grd (fun g_8 g_9 => ?_)
      refine ge_aald (jn := (ix x3_3)) (b := (b1 + 22 + (ix x3_3))) rfl (sT21 s hb1) (Or.inl rfl) ⟨g_8, rfl⟩ g_9 (sRr_dead s hb1 g_9) (sge2 hb1) ?_
      refine ge_run (pc' := 30) (L' := [.ref 1614, .ref b1, .int (((shl (1 : Int32) (i b1 7)) - (1 : Int32)) &&& (v_1 ^^^ (-1 : Int32))), .int x3_3, uV, uV]) (S' := [.int (1 : Int32), .ref (b1 + 22 + (ix x3_3)), .int x3_3, .ref 1616]) 1 rfl ?_
      refine ge_iald (jn := 1) rfl (sRow_dead s hb1 g_9) lk1 (by decide) ?_
      refine ge_iast (jn := (ix x3_3)) rfl (t1616 s) (Nat.le_of_ble_eq_true rfl) ⟨g_8, rfl⟩ g_9 (fun i_10 => ?_)
      refine ge_run (pc' := 33) (L' := [.ref 1614, .ref b1, .int (((shl (1 : Int32) (i b1 7)) - (1 : Int32)) &&& (v_1 ^^^ (-1 : Int32))), .int x3_3, uV, uV]) (S' := [.ref 1614]) 1 rfl ?_
      refine ge_getR (b := 1617) rfl (t1614 s) rfl (r1614_2 s) (Nat.le_of_ble_eq_true rfl) ?_
      refine ge_run (pc' := 37) (L' := [.ref 1614, .ref b1, .int (((shl (1 : Int32) (i b1 7)) - (1 : Int32)) &&& (v_1 ^^^ (-1 : Int32))), .int x3_3, uV, uV]) (S' := [.int x3_3, .ref b1, .int x3_3, .ref 1617]) 3 rfl ?_
      refine ge_cs rfl rfl rfl rfl rfl rfl (D := 2) (Nat.le_trans (by decide) hd) (c_Pu_fittingTo (n := n) (u := u) (t := t) (i := i_10) (r := r) s b1 hb1 x3_3) ?_
      rintro v_11 -
      dsimp only [bkE, F_i0]
      refine ge_run (pc' := 40) (L' := [.ref 1614, .ref b1, .int (((shl (1 : Int32) (i b1 7)) - (1 : Int32)) &&& (v_1 ^^^ (-1 : Int32))), .int x3_3, uV, uV]) (S' := [.int (v_11 &&& (((shl (1 : Int32) (i b1 7)) - (1 : Int32)) &&& (v_1 ^^^ (-1 : Int32)))), .int x3_3, .ref 1617]) 2 rfl ?_
      refine ge_iast (jn := (ix x3_3)) rfl (t1617 s) (Nat.le_of_ble_eq_true rfl) ⟨g_8, rfl⟩ g_9 (fun i_12 => ?_)
      refine ge_run (pc' := 18) (L' := [.ref 1614, .ref b1, .int (((shl (1 : Int32) (i b1 7)) - (1 : Int32)) &&& (v_1 ^^^ (-1 : Int32))), .int (x3_3 + (1 : Int32)), uV, uV]) (S' := []) 2 rfl ?_
      exact ge_leaf (K := kX _ _) rfl
    · exact ge_leaf (K := kX _ _) (Exists.intro _ rfl)
  · rintro i_5 _ ⟨w_6, rfl⟩
    try dsimp only
    refine ge_run (pc' := 47) (L' := [.ref 1614, .ref b1, .int (((shl (1 : Int32) (i b1 7)) - (1 : Int32)) &&& (v_1 ^^^ (-1 : Int32))), w_6, uV, uV]) (S' := [.ref b1, .int (((shl (1 : Int32) (i b1 7)) - (1 : Int32)) &&& (v_1 ^^^ (-1 : Int32))), .ref 1614, .ref 1614]) 4 rfl ?_
    refine ge_getI rfl (sT0 s hb1) rfl ?_
    refine ge_cv rfl rfl rfl (t1614 s) rfl rfl rfl (D := 2) (Nat.le_trans (by decide) hd) (c_Pu_mostOf (n := n) (u := u) (t := t) (i := i_5) (r := r) s (((shl (1 : Int32) (i b1 7)) - (1 : Int32)) &&& (v_1 ^^^ (-1 : Int32))) (i_5 b1 10)) ?_
    rintro ⟨v_14, i_15⟩ -
    dsimp only [bkE, F_i1]
    refine ge_putI rfl (t1614 s) (Nat.le_of_ble_eq_true rfl) rfl (fun i_16 => ?_)
    refine ge_run (pc' := 51) (L' := [.ref 1614, .ref b1, .int (((shl (1 : Int32) (i b1 7)) - (1 : Int32)) &&& (v_1 ^^^ (-1 : Int32))), w_6, uV, uV]) (S' := [.ref 1614]) 1 rfl ?_
    refine ge_getI rfl (t1614 s) rfl ?_
    refine ge_run (pc' := 57) (L' := [.ref 1614, .ref b1, .int (((shl (1 : Int32) (i b1 7)) - (1 : Int32)) &&& (v_1 ^^^ (-1 : Int32))), .int (i_16 1614 5), .int (((shl (1 : Int32) (i b1 7)) - (1 : Int32)) &&& (v_1 ^^^ (-1 : Int32))), .int (0 : Int32)]) (S' := []) 5 rfl ?_
    refine ge_bind (K1 := fun (q : MI) e => ∃ w_22 w_23 w_24 : Value, e = .inl (97, [.ref 1614, .ref b1, .int (((shl (1 : Int32) (i b1 7)) - (1 : Int32)) &&& (v_1 ^^^ (-1 : Int32))), w_22, w_23, w_24], [], (n, u, t, q, r))) (ge_itr (C := fun (q : Int32 × Int32 × Int32 × MI) e => e = .inl (57, [.ref 1614, .ref b1, .int (((shl (1 : Int32) (i b1 7)) - (1 : Int32)) &&& (v_1 ^^^ (-1 : Int32))), .int q.1, .int q.2.1, .int q.2.2.1], [], (n, u, t, q.2.2.2, r))) ?_ _ _ _ rfl) ?_
    · rintro ⟨x3_17, x4_18, x5_19, i_20⟩ _ rfl
      try dsimp only
      refine ge_run (pc' := 59) (L' := [.ref 1614, .ref b1, .int (((shl (1 : Int32) (i b1 7)) - (1 : Int32)) &&& (v_1 ^^^ (-1 : Int32))), .int x3_17, .int x4_18, .int x5_19]) (S' := [.ref b1, .int x5_19]) 2 rfl ?_
      refine ge_getI rfl (sT0 s hb1) rfl ?_
      refine ge_ge rfl (fun h_25 => ?_) (fun h_38 => ?_)
      · refine ge_run (pc' := 70) (L' := [.ref 1614, .ref b1, .int (((shl (1 : Int32) (i b1 7)) - (1 : Int32)) &&& (v_1 ^^^ (-1 : Int32))), .int x3_17, .int (x4_18 &&& ((shl (1 : Int32) x5_19) ^^^ (-1 : Int32))), .int x5_19]) (S' := [.ref 1614]) 9 rfl ?_
        refine ge_getR (b := 1615) rfl (t1614 s) rfl (r1614_0 s) (Nat.le_of_ble_eq_true rfl) ?_
        refine ge_run (pc' := 77) (L' := [.ref 1614, .ref b1, .int (((shl (1 : Int32) (i b1 7)) - (1 : Int32)) &&& (v_1 ^^^ (-1 : Int32))), .int x3_17, .int (x4_18 &&& ((shl (1 : Int32) x5_19) ^^^ (-1 : Int32))), .int x5_19]) (S' := [.int ((shr (((shl (1 : Int32) (i b1 7)) - (1 : Int32)) &&& (v_1 ^^^ (-1 : Int32))) x5_19) &&& (1 : Int32)), .int x5_19, .ref 1615]) 6 rfl ?_
        refine ge_bind (K1 := fun (q : Int32 × MI) e => e = .inl (87, [.ref 1614, .ref b1, .int (((shl (1 : Int32) (i b1 7)) - (1 : Int32)) &&& (v_1 ^^^ (-1 : Int32))), .int x3_17, .int (x4_18 &&& ((shl (1 : Int32) x5_19) ^^^ (-1 : Int32))), .int x5_19], [.int q.1, .int x5_19, .ref 1615], (n, u, t, q.2, r))) ?_ ?_
        · refine ge_ne0 rfl (fun h_28 => ?_) (fun h_29 => ?_)
          · refine ge_run (pc' := 87) (L' := [.ref 1614, .ref b1, .int (((shl (1 : Int32) (i b1 7)) - (1 : Int32)) &&& (v_1 ^^^ (-1 : Int32))), .int x3_17, .int (x4_18 &&& ((shl (1 : Int32) x5_19) ^^^ (-1 : Int32))), .int x5_19]) (S' := [.int (-1 : Int32), .int x5_19, .ref 1615]) 2 rfl ?_
            exact ge_leaf rfl
          · refine ge_run (pc' := 85) (L' := [.ref 1614, .ref b1, .int (((shl (1 : Int32) (i b1 7)) - (1 : Int32)) &&& (v_1 ^^^ (-1 : Int32))), .int x3_17, .int (x4_18 &&& ((shl (1 : Int32) x5_19) ^^^ (-1 : Int32))), .int x5_19]) (S' := [.ref b1, .int x3_17, .int (x4_18 &&& ((shl (1 : Int32) x5_19) ^^^ (-1 : Int32))), .int x5_19, .ref 1614, .int x5_19, .ref 1615]) 5 rfl ?_
            refine ge_getI rfl (sT0 s hb1) rfl ?_
            refine ge_cv rfl rfl rfl (t1614 s) rfl rfl rfl (D := 3) (Nat.le_trans (by decide) hd) (c_Pu_firstFor (n := n) (u := u) (t := t) (i := i_20) (r := r) s x5_19 (x4_18 &&& ((shl (1 : Int32) x5_19) ^^^ (-1 : Int32))) x3_17 (i_20 b1 10)) ?_
            rintro ⟨v_30, i_31⟩ -
            dsimp only [bkE, F_i1]
            exact ge_leaf rfl
        · rintro ⟨y_26, i_27⟩ _ rfl
          try dsimp only
          refine ge_grd (fun g_32 g_33 => ?_)
          refine ge_iast (jn := (ix x5_19)) rfl (t1615 s) (Nat.le_of_ble_eq_true rfl) ⟨g_32, rfl⟩ g_33 (fun i_34 => ?_)
          refine ge_run (pc' := 89) (L' := [.ref 1614, .ref b1, .int (((shl (1 : Int32) (i b1 7)) - (1 : Int32)) &&& (v_1 ^^^ (-1 : Int32))), .int x3_17, .int (x4_18 &&& ((shl (1 : Int32) x5_19) ^^^ (-1 : Int32))), .int x5_19]) (S' := [.ref 1614]) 1 rfl ?_
          refine ge_getR (b := 1615) rfl (t1614 s) rfl (r1614_0 s) (Nat.le_of_ble_eq_true rfl) ?_
          refine ge_run (pc' := 91) (L' := [.ref 1614, .ref b1, .int (((shl (1 : Int32) (i b1 7)) - (1 : Int32)) &&& (v_1 ^^^ (-1 : Int32))), .int x3_17, .int (x4_18 &&& ((shl (1 : Int32) x5_19) ^^^ (-1 : Int32))), .int x5_19]) (S' := [.int x5_19, .ref 1615]) 1 rfl ?_
          refine ge_iald (jn := (ix x5_19)) rfl (t1615 s) ⟨g_32, rfl⟩ g_33 ?_
          refine ge_run (pc' := 93) (L' := [.ref 1614, .ref b1, .int (((shl (1 : Int32) (i b1 7)) - (1 : Int32)) &&& (v_1 ^^^ (-1 : Int32))), .int x3_17, .int (x4_18 &&& ((shl (1 : Int32) x5_19) ^^^ (-1 : Int32))), .int x5_19]) (S' := [.int (-1 : Int32), .int (i_34 1615 (ix x5_19))]) 1 rfl ?_
          refine ge_bind (K1 := fun (q : Int32) e => e = .inl (95, [.ref 1614, .ref b1, .int (((shl (1 : Int32) (i b1 7)) - (1 : Int32)) &&& (v_1 ^^^ (-1 : Int32))), .int q, .int (x4_18 &&& ((shl (1 : Int32) x5_19) ^^^ (-1 : Int32))), .int x5_19], [], (n, u, t, i_34, r))) ?_ ?_
          · refine ge_eq rfl (fun h_36 => ?_) (fun h_37 => ?_)
            · exact ge_leaf rfl
            · refine ge_run (pc' := 95) (L' := [.ref 1614, .ref b1, .int (((shl (1 : Int32) (i b1 7)) - (1 : Int32)) &&& (v_1 ^^^ (-1 : Int32))), .int (x3_17 + (-1 : Int32)), .int (x4_18 &&& ((shl (1 : Int32) x5_19) ^^^ (-1 : Int32))), .int x5_19]) (S' := []) 1 rfl ?_
              exact ge_leaf rfl
          · rintro x3_35 _ rfl
            try dsimp only
            refine ge_run (pc' := 57) (L' := [.ref 1614, .ref b1, .int (((shl (1 : Int32) (i b1 7)) - (1 : Int32)) &&& (v_1 ^^^ (-1 : Int32))), .int x3_35, .int (x4_18 &&& ((shl (1 : Int32) x5_19) ^^^ (-1 : Int32))), .int (x5_19 + (1 : Int32))]) (S' := []) 2 rfl ?_
            exact ge_leaf (K := kX _ _) rfl
      · exact ge_leaf (K := kX _ _) (Exists.intro _ (Exists.intro _ (Exists.intro _ rfl)))
    · rintro i_21 _ ⟨w_22, w_23, w_24, rfl⟩
      try dsimp only
      exact ge_retv rfl rfl (And.intro rfl trivial)
def f_Se_put (i : MI) (a : Nat) (x1 : Int32) (x2 : Int32) (x3 : Int32) (x4 : Int32) : Option (MI) :=
  grd x1 8 (bnd (wr i (a + 3 + (ix x1)) 3 x2) (fun i_3 => bnd (wr i_3 (a + 3 + (ix x1)) 4 x3) (fun i_4 => bnd (wr i_4 (a + 3 + (ix x1)) 5 x4) (fun i_5 => some i_5))))
set_option maxHeartbeats 4000000 in
theorem c_Se_put {n u : Nat} {t : MT} {i : MI} {r : MR} (s : Sh n t r) (a : Nat) (ha : SeaAd a) (x1 : Int32) (x2 : Int32) (x3 : Int32) (x4 : Int32) : Cn 1 49 [.ref a, .int x1, .int x2, .int x3, .int x4] (n, u, t, i, r) (f_Se_put i a x1 x2 x3 x4) (F_v1 n u t r) PT := by
  refine cn_of (Y := K_Se_put) (L0 := [.ref a, .int x1, .int x2, .int x3, .int x4]) rfl rfl rfl ?_
  intro d hd
  unfold f_Se_put
  refine ge_run (pc' := 1) (L' := [.ref a, .int x1, .int x2, .int x3, .int x4]) (S' := [.ref a]) 1 rfl ?_
  refine ge_getR (b := (a + 2)) rfl (sT0 s ha) rfl (sR1 s ha) (sge ha) ?_
  refine ge_run (pc' := 3) (L' := [.ref a, .int x1, .int x2, .int x3, .int x4]) (S' := [.int x1, .ref (a + 2)]) 1 rfl ?_
  refine ge_grd (fun g_1 g_2 => ?_)
  refine ge_aald (jn := (ix x1)) (b := (a + 3 + (ix x1))) rfl (sT2 s ha) (Or.inl rfl) ⟨g_1, rfl⟩ g_2 (sRr_fish s ha g_2) (sge2 ha) ?_
  refine ge_run (pc' := 6) (L' := [.ref a, .int x1, .int x2, .int x3, .int x4]) (S' := [.int x2, .int (3 : Int32), .ref (a + 3 + (ix x1))]) 2 rfl ?_
  refine ge_iast (jn := 3) rfl (sRow_fish s ha g_2) (sge2 ha) lk3 (by decide) (fun i_3 => ?_)
  refine ge_run (pc' := 8) (L' := [.ref a, .int x1, .int x2, .int x3, .int x4]) (S' := [.ref a]) 1 rfl ?_
  refine ge_getR (b := (a + 2)) rfl (sT0 s ha) rfl (sR1 s ha) (sge ha) ?_
  refine ge_run (pc' := 10) (L' := [.ref a, .int x1, .int x2, .int x3, .int x4]) (S' := [.int x1, .ref (a + 2)]) 1 rfl ?_
  refine ge_aald (jn := (ix x1)) (b := (a + 3 + (ix x1))) rfl (sT2 s ha) (Or.inl rfl) ⟨g_1, rfl⟩ g_2 (sRr_fish s ha g_2) (sge2 ha) ?_
  refine ge_run (pc' := 13) (L' := [.ref a, .int x1, .int x2, .int x3, .int x4]) (S' := [.int x3, .int (4 : Int32), .ref (a + 3 + (ix x1))]) 2 rfl ?_
  refine ge_iast (jn := 4) rfl (sRow_fish s ha g_2) (sge2 ha) lk4 (by decide) (fun i_4 => ?_)
  refine ge_run (pc' := 15) (L' := [.ref a, .int x1, .int x2, .int x3, .int x4]) (S' := [.ref a]) 1 rfl ?_
  refine ge_getR (b := (a + 2)) rfl (sT0 s ha) rfl (sR1 s ha) (sge ha) ?_
  refine ge_run (pc' := 17) (L' := [.ref a, .int x1, .int x2, .int x3, .int x4]) (S' := [.int x1, .ref (a + 2)]) 1 rfl ?_
  refine ge_aald (jn := (ix x1)) (b := (a + 3 + (ix x1))) rfl (sT2 s ha) (Or.inl rfl) ⟨g_1, rfl⟩ g_2 (sRr_fish s ha g_2) (sge2 ha) ?_
  refine ge_run (pc' := 20) (L' := [.ref a, .int x1, .int x2, .int x3, .int x4]) (S' := [.int x4, .int (5 : Int32), .ref (a + 3 + (ix x1))]) 2 rfl ?_
  refine ge_iast (jn := 5) rfl (sRow_fish s ha g_2) (sge2 ha) lk5 (by decide) (fun i_5 => ?_)
  exact ge_retv rfl rfl (And.intro rfl trivial)
def f_Se_addFish (i : MI) (a : Nat) (x1 : Int32) (x2 : Int32) (x3 : Int32) : Option (Int32 × MI) :=
  if (i a 7) < (8 : Int32) then (grd (i a 7) 8 (bnd (wr i (a + 3 + (ix (i a 7))) 0 x1) (fun i_4 => bnd (wr i_4 (a + 3 + (ix (i a 7))) 1 x3) (fun i_5 => bnd (wr i_5 (a + 3 + (ix (i a 7))) 2 (90 : Int32)) (fun i_6 => (f_Se_put i_6 a (i a 7) (0 : Int32) x2 (-1 : Int32)).bind (fun i_7 => bnd (wr i_7 a 7 ((i_7 a 7) + (1 : Int32))) (fun i_8 => some ((i a 7), i_8)))))))) else (some ((-1 : Int32), i))
set_option maxHeartbeats 4000000 in
theorem c_Se_addFish {n u : Nat} {t : MT} {i : MI} {r : MR} (s : Sh n t r) (a : Nat) (ha : SeaAd a) (x1 : Int32) (x2 : Int32) (x3 : Int32) : Cn 2 48 [.ref a, .int x1, .int x2, .int x3] (n, u, t, i, r) (f_Se_addFish i a x1 x2 x3) (F_i1 n u t r) PT := by
  refine cn_of (Y := K_Se_addFish) (L0 := [.ref a, .int x1, .int x2, .int x3, uV]) rfl rfl rfl ?_
  intro d hd
  unfold f_Se_addFish
  refine ge_run (pc' := 1) (L' := [.ref a, .int x1, .int x2, .int x3, uV]) (S' := [.ref a]) 1 rfl ?_
  refine ge_getI rfl (sT0 s ha) rfl ?_
  refine ge_run (pc' := 5) (L' := [.ref a, .int x1, .int x2, .int x3, .int (i a 7)]) (S' := [.int (8 : Int32), .int (i a 7)]) 3 rfl ?_
  refine ge_lt rfl (fun h_1 => ?_) (fun h_9 => ?_)
  · refine ge_run (pc' := 9) (L' := [.ref a, .int x1, .int x2, .int x3, .int (i a 7)]) (S' := [.ref a]) 1 rfl ?_
    refine ge_getR (b := (a + 2)) rfl (sT0 s ha) rfl (sR1 s ha) (sge ha) ?_
    refine ge_run (pc' := 11) (L' := [.ref a, .int x1, .int x2, .int x3, .int (i a 7)]) (S' := [.int (i a 7), .ref (a + 2)]) 1 rfl ?_
    refine ge_grd (fun g_2 g_3 => ?_)
    refine ge_aald (jn := (ix (i a 7))) (b := (a + 3 + (ix (i a 7)))) rfl (sT2 s ha) (Or.inl rfl) ⟨g_2, rfl⟩ g_3 (sRr_fish s ha g_3) (sge2 ha) ?_
    refine ge_run (pc' := 14) (L' := [.ref a, .int x1, .int x2, .int x3, .int (i a 7)]) (S' := [.int x1, .int (0 : Int32), .ref (a + 3 + (ix (i a 7)))]) 2 rfl ?_
    refine ge_iast (jn := 0) rfl (sRow_fish s ha g_3) (sge2 ha) lk0 (by decide) (fun i_4 => ?_)
    refine ge_run (pc' := 16) (L' := [.ref a, .int x1, .int x2, .int x3, .int (i a 7)]) (S' := [.ref a]) 1 rfl ?_
    refine ge_getR (b := (a + 2)) rfl (sT0 s ha) rfl (sR1 s ha) (sge ha) ?_
    refine ge_run (pc' := 18) (L' := [.ref a, .int x1, .int x2, .int x3, .int (i a 7)]) (S' := [.int (i a 7), .ref (a + 2)]) 1 rfl ?_
    refine ge_aald (jn := (ix (i a 7))) (b := (a + 3 + (ix (i a 7)))) rfl (sT2 s ha) (Or.inl rfl) ⟨g_2, rfl⟩ g_3 (sRr_fish s ha g_3) (sge2 ha) ?_
    refine ge_run (pc' := 21) (L' := [.ref a, .int x1, .int x2, .int x3, .int (i a 7)]) (S' := [.int x3, .int (1 : Int32), .ref (a + 3 + (ix (i a 7)))]) 2 rfl ?_
    refine ge_iast (jn := 1) rfl (sRow_fish s ha g_3) (sge2 ha) lk1 (by decide) (fun i_5 => ?_)
    refine ge_run (pc' := 23) (L' := [.ref a, .int x1, .int x2, .int x3, .int (i a 7)]) (S' := [.ref a]) 1 rfl ?_
    refine ge_getR (b := (a + 2)) rfl (sT0 s ha) rfl (sR1 s ha) (sge ha) ?_
    refine ge_run (pc' := 25) (L' := [.ref a, .int x1, .int x2, .int x3, .int (i a 7)]) (S' := [.int (i a 7), .ref (a + 2)]) 1 rfl ?_
    refine ge_aald (jn := (ix (i a 7))) (b := (a + 3 + (ix (i a 7)))) rfl (sT2 s ha) (Or.inl rfl) ⟨g_2, rfl⟩ g_3 (sRr_fish s ha g_3) (sge2 ha) ?_
    refine ge_run (pc' := 28) (L' := [.ref a, .int x1, .int x2, .int x3, .int (i a 7)]) (S' := [.int (90 : Int32), .int (2 : Int32), .ref (a + 3 + (ix (i a 7)))]) 2 rfl ?_
    refine ge_iast (jn := 2) rfl (sRow_fish s ha g_3) (sge2 ha) lk2 (by decide) (fun i_6 => ?_)
    refine ge_run (pc' := 34) (L' := [.ref a, .int x1, .int x2, .int x3, .int (i a 7)]) (S' := [.int (-1 : Int32), .int x2, .int (0 : Int32), .int (i a 7), .ref a]) 5 rfl ?_
    refine ge_cv rfl rfl rfl (sT0 s ha) rfl rfl rfl (D := 1) (Nat.le_trans (by decide) hd) (c_Se_put (n := n) (u := u) (t := t) (i := i_6) (r := r) s a ha (i a 7) (0 : Int32) x2 (-1 : Int32)) ?_
    rintro i_7 -
    dsimp only [bkE, F_v1]
    refine ge_run (pc' := 37) (L' := [.ref a, .int x1, .int x2, .int x3, .int (i a 7)]) (S' := [.ref a, .ref a]) 2 rfl ?_
    refine ge_getI rfl (sT0 s ha) rfl ?_
    refine ge_run (pc' := 40) (L' := [.ref a, .int x1, .int x2, .int x3, .int (i a 7)]) (S' := [.int ((i_7 a 7) + (1 : Int32)), .ref a]) 2 rfl ?_
    refine ge_putI rfl (sT0 s ha) (sge0 ha) rfl (fun i_8 => ?_)
    refine ge_run (pc' := 42) (L' := [.ref a, .int x1, .int x2, .int x3, .int (i a 7)]) (S' := [.int (i a 7)]) 1 rfl ?_
    exact ge_ret rfl rfl (And.intro rfl trivial)
  · refine ge_run (pc' := 7) (L' := [.ref a, .int x1, .int x2, .int x3, .int (i a 7)]) (S' := [.int (-1 : Int32)]) 1 rfl ?_
    exact ge_ret rfl rfl (And.intro rfl trivial)
def f_J_abs (x0 : Int32) : Option (Int32) :=
  if x0 < 0 then (some ((-x0))) else (some (x0))
set_option maxHeartbeats 4000000 in
theorem c_J_abs {n u : Nat} {t : MT} {i : MI} {r : MR} (s : Sh n t r) (x0 : Int32) : Cn 1 366 [.int x0] (n, u, t, i, r) (f_J_abs  x0) (F_i0 n u t i r) PT := by
  refine cn_of (Y := K_J_abs) (L0 := [.int x0]) rfl rfl rfl ?_
  intro d hd
  unfold f_J_abs
  refine ge_run (pc' := 1) (L' := [.int x0]) (S' := [.int x0]) 1 rfl ?_
  refine ge_ge0 rfl (fun h_1 => ?_) (fun h_2 => ?_)
  · refine ge_run (pc' := 6) (L' := [.int x0]) (S' := [.int (-x0)]) 3 rfl ?_
    exact ge_ret rfl rfl (And.intro rfl trivial)
  · refine ge_run (pc' := 6) (L' := [.int x0]) (S' := [.int x0]) 1 rfl ?_
    exact ge_ret rfl rfl (And.intro rfl trivial)
def f_Se_distance (x0 : Int32) (x1 : Int32) : Option (Int32) :=
  (f_J_abs ((rm x0 (5 : Int32)) - (rm x1 (5 : Int32)))).bind (fun v_1 => (f_J_abs ((x0 / (5 : Int32)) - (x1 / (5 : Int32)))).bind (fun v_2 => some ((v_1 + v_2))))
set_option maxHeartbeats 4000000 in
theorem c_Se_distance {n u : Nat} {t : MT} {i : MI} {r : MR} (s : Sh n t r) (x0 : Int32) (x1 : Int32) : Cn 2 51 [.int x0, .int x1] (n, u, t, i, r) (f_Se_distance  x0 x1) (F_i0 n u t i r) PT := by
  refine cn_of (Y := K_Se_distance) (L0 := [.int x0, .int x1]) rfl rfl rfl ?_
  intro d hd
  unfold f_Se_distance
  refine ge_run (pc' := 2) (L' := [.int x0, .int x1]) (S' := [.int (5 : Int32), .int x0]) 2 rfl ?_
  refine ge_rem rfl (by decide) ?_
  refine ge_run (pc' := 5) (L' := [.int x0, .int x1]) (S' := [.int (5 : Int32), .int x1, .int (rm x0 (5 : Int32))]) 2 rfl ?_
  refine ge_rem rfl (by decide) ?_
  refine ge_run (pc' := 7) (L' := [.int x0, .int x1]) (S' := [.int ((rm x0 (5 : Int32)) - (rm x1 (5 : Int32)))]) 1 rfl ?_
  refine ge_cs rfl rfl rfl rfl rfl rfl (D := 1) (Nat.le_trans (by decide) hd) (c_J_abs (n := n) (u := u) (t := t) (i := i) (r := r) s ((rm x0 (5 : Int32)) - (rm x1 (5 : Int32)))) ?_
  rintro v_1 -
  dsimp only [bkE, F_i0]
  refine ge_run (pc' := 10) (L' := [.int x0, .int x1]) (S' := [.int (5 : Int32), .int x0, .int v_1]) 2 rfl ?_
  refine ge_div rfl (by decide) ?_
  refine ge_run (pc' := 13) (L' := [.int x0, .int x1]) (S' := [.int (5 : Int32), .int x1, .int (x0 / (5 : Int32)), .int v_1]) 2 rfl ?_
  refine ge_div rfl (by decide) ?_
  refine ge_run (pc' := 15) (L' := [.int x0, .int x1]) (S' := [.int ((x0 / (5 : Int32)) - (x1 / (5 : Int32))), .int v_1]) 1 rfl ?_
  refine ge_cs rfl rfl rfl rfl rfl rfl (D := 1) (Nat.le_trans (by decide) hd) (c_J_abs (n := n) (u := u) (t := t) (i := i) (r := r) s ((x0 / (5 : Int32)) - (x1 / (5 : Int32)))) ?_
  rintro v_2 -
  dsimp only [bkE, F_i0]
  refine ge_run (pc' := 17) (L' := [.int x0, .int x1]) (S' := [.int (v_1 + v_2)]) 1 rfl ?_
  exact ge_ret rfl rfl (And.intro rfl trivial)
def f_Se_comesRound (i : MI) (a : Nat) (x1 : Int32) : Option (Int32) :=
  itr (σ := Int32 × Int32) (ρ := Int32) (fun (x2_1, x3_2) => if x3_2 < (25 : Int32) then ((f_Se_drift i a x2_1).bind (fun v_4 => if v_4 = x1 then (some (.inr (((1 : Int32))))) else (some (.inl (v_4, (x3_2 + (1 : Int32))))))) else (some (.inr (((0 : Int32)))))) 1000000 (x1, (0 : Int32))
set_option maxHeartbeats 4000000 in
theorem c_Se_comesRound {n u : Nat} {t : MT} {i : MI} {r : MR} (s : Sh n t r) (a : Nat) (ha : SeaAd a) (x1 : Int32) : Cn 3 53 [.ref a, .int x1] (n, u, t, i, r) (f_Se_comesRound i a x1) (F_i0 n u t i r) PT := by
  refine cn_of (Y := K_Se_comesRound) (L0 := [.ref a, .int x1, uV, uV]) rfl rfl rfl ?_
  intro d hd
  unfold f_Se_comesRound
  refine ge_run (pc' := 4) (L' := [.ref a, .int x1, .int x1, .int (0 : Int32)]) (S' := []) 4 rfl ?_
  refine ge_itr (C := fun (q : Int32 × Int32) e => e = .inl (4, [.ref a, .int x1, .int q.1, .int q.2], [], (n, u, t, i, r))) ?_ _ _ _ rfl
  rintro ⟨x2_1, x3_2⟩ _ rfl
  try dsimp only
  refine ge_run (pc' := 6) (L' := [.ref a, .int x1, .int x2_1, .int x3_2]) (S' := [.int (25 : Int32), .int x3_2]) 2 rfl ?_
  refine ge_ge rfl (fun h_3 => ?_) (fun h_7 => ?_)
  · refine ge_run (pc' := 9) (L' := [.ref a, .int x1, .int x2_1, .int x3_2]) (S' := [.int x2_1, .ref a]) 2 rfl ?_
    refine ge_cv rfl rfl rfl (sT0 s ha) rfl rfl rfl (D := 2) (Nat.le_trans (by decide) hd) (c_Se_drift (n := n) (u := u) (t := t) (i := i) (r := r) s a ha x2_1) ?_
    rintro v_4 -
    dsimp only [bkE, F_i0]
    refine ge_run (pc' := 13) (L' := [.ref a, .int x1, .int v_4, .int x3_2]) (S' := [.int x1, .int v_4]) 3 rfl ?_
    refine ge_ne rfl (fun h_5 => ?_) (fun h_6 => ?_)
    · refine ge_run (pc' := 15) (L' := [.ref a, .int x1, .int v_4, .int x3_2]) (S' := [.int (1 : Int32)]) 1 rfl ?_
      exact ge_retz rfl rfl (Or.inr rfl) (And.intro rfl trivial)
    · refine ge_run (pc' := 4) (L' := [.ref a, .int x1, .int v_4, .int (x3_2 + (1 : Int32))]) (S' := []) 2 rfl ?_
      exact ge_leaf (K := kX _ _) rfl
  · refine ge_run (pc' := 19) (L' := [.ref a, .int x1, .int x2_1, .int x3_2]) (S' := [.int (0 : Int32)]) 1 rfl ?_
    exact ge_retz rfl rfl (Or.inl rfl) (And.intro rfl trivial)
def f_Se_swimmingAt (i : MI) (a : Nat) (x1 : Int32) : Option (Int32) :=
  (itr (σ := Int32 × Int32) (ρ := Int32) (fun (x2_1, x3_2) => if x3_2 < (i a 7) then (grd x3_2 8 ((if (i (a + 3 + (ix x3_2)) 3) = 0 then (if (i (a + 3 + (ix x3_2)) 4) = x1 then (some (x2_1 ||| (shl (1 : Int32) x3_2))) else (some x2_1)) else (some x2_1) : Option (Int32)).bind (fun x2_8 => some (.inl (x2_8, (x3_2 + (1 : Int32))))))) else (some (.inr x2_1))) 1000000 ((0 : Int32), (0 : Int32))).bind (fun x2_3 => some (x2_3))
set_option maxHeartbeats 4000000 in
theorem c_Se_swimmingAt {n u : Nat} {t : MT} {i : MI} {r : MR} (s : Sh n t r) (a : Nat) (ha : SeaAd a) (x1 : Int32) : Cn 1 54 [.ref a, .int x1] (n, u, t, i, r) (f_Se_swimmingAt i a x1) (F_i0 n u t i r) PT := by
  refine cn_of (Y := K_Se_swimmingAt) (L0 := [.ref a, .int x1, uV, uV]) rfl rfl rfl ?_
  intro d hd
  unfold f_Se_swimmingAt
  refine ge_run (pc' := 4) (L' := [.ref a, .int x1, .int (0 : Int32), .int (0 : Int32)]) (S' := []) 4 rfl ?_
  refine ge_bind (K1 := fun (q : Int32) e => ∃ w_4 : Value, e = .inl (31, [.ref a, .int x1, .int q, w_4], [], (n, u, t, i, r))) (ge_itr (C := fun (q : Int32 × Int32) e => e = .inl (4, [.ref a, .int x1, .int q.1, .int q.2], [], (n, u, t, i, r))) ?_ _ _ _ rfl) ?_
  · rintro ⟨x2_1, x3_2⟩ _ rfl
    try dsimp only
    refine ge_run (pc' := 6) (L' := [.ref a, .int x1, .int x2_1, .int x3_2]) (S' := [.ref a, .int x3_2]) 2 rfl ?_
    refine ge_getI rfl (sT0 s ha) rfl ?_
    refine ge_ge rfl (fun h_5 => ?_) (fun h_13 => ?_)
    · refine ge_run (pc' := 9) (L' := [.ref a, .int x1, .int x2_1, .int x3_2]) (S' := [.ref a]) 1 rfl ?_
      refine ge_getR (b := (a + 2)) rfl (sT0 s ha) rfl (sR1 s ha) (sge ha) ?_
      refine ge_run (pc' := 11) (L' := [.ref a, .int x1, .int x2_1, .int x3_2]) (S' := [.int x3_2, .ref (a + 2)]) 1 rfl ?_
      refine ge_grd (fun g_6 g_7 => ?_)
      refine ge_aald (jn := (ix x3_2)) (b := (a + 3 + (ix x3_2))) rfl (sT2 s ha) (Or.inl rfl) ⟨g_6, rfl⟩ g_7 (sRr_fish s ha g_7) (sge2 ha) ?_
      refine ge_run (pc' := 13) (L' := [.ref a, .int x1, .int x2_1, .int x3_2]) (S' := [.int (3 : Int32), .ref (a + 3 + (ix x3_2))]) 1 rfl ?_
      refine ge_iald (jn := 3) rfl (sRow_fish s ha g_7) lk3 (by decide) ?_
      refine ge_bind (K1 := fun (q : Int32) e => e = .inl (29, [.ref a, .int x1, .int q, .int x3_2], [], (n, u, t, i, r))) ?_ ?_
      · refine ge_ne0 rfl (fun h_9 => ?_) (fun h_12 => ?_)
        · refine ge_run (pc' := 16) (L' := [.ref a, .int x1, .int x2_1, .int x3_2]) (S' := [.ref a]) 1 rfl ?_
          refine ge_getR (b := (a + 2)) rfl (sT0 s ha) rfl (sR1 s ha) (sge ha) ?_
          refine ge_run (pc' := 18) (L' := [.ref a, .int x1, .int x2_1, .int x3_2]) (S' := [.int x3_2, .ref (a + 2)]) 1 rfl ?_
          refine ge_aald (jn := (ix x3_2)) (b := (a + 3 + (ix x3_2))) rfl (sT2 s ha) (Or.inl rfl) ⟨g_6, rfl⟩ g_7 (sRr_fish s ha g_7) (sge2 ha) ?_
          refine ge_run (pc' := 20) (L' := [.ref a, .int x1, .int x2_1, .int x3_2]) (S' := [.int (4 : Int32), .ref (a + 3 + (ix x3_2))]) 1 rfl ?_
          refine ge_iald (jn := 4) rfl (sRow_fish s ha g_7) lk4 (by decide) ?_
          refine ge_run (pc' := 22) (L' := [.ref a, .int x1, .int x2_1, .int x3_2]) (S' := [.int x1, .int (i (a + 3 + (ix x3_2)) 4)]) 1 rfl ?_
          refine ge_ne rfl (fun h_10 => ?_) (fun h_11 => ?_)
          · refine ge_run (pc' := 29) (L' := [.ref a, .int x1, .int (x2_1 ||| (shl (1 : Int32) x3_2)), .int x3_2]) (S' := []) 6 rfl ?_
            exact ge_leaf rfl
          · exact ge_leaf rfl
        · exact ge_leaf rfl
      · rintro x2_8 _ rfl
        try dsimp only
        refine ge_run (pc' := 4) (L' := [.ref a, .int x1, .int x2_8, .int (x3_2 + (1 : Int32))]) (S' := []) 2 rfl ?_
        exact ge_leaf (K := kX _ _) rfl
    · exact ge_leaf (K := kX _ _) (Exists.intro _ rfl)
  · rintro x2_3 _ ⟨w_4, rfl⟩
    try dsimp only
    refine ge_run (pc' := 32) (L' := [.ref a, .int x1, .int x2_3, w_4]) (S' := [.int x2_3]) 1 rfl ?_
    exact ge_ret rfl rfl (And.intro rfl trivial)
def f_Se_cellOf (i : MI) (a : Nat) (x1 : Int32) : Option (Int32) :=
  grd x1 8 (if (i (a + 3 + (ix x1)) 3) = (1 : Int32) then (if (i (a + 3 + (ix x1)) 5) < 0 then (some ((i (a + 3 + (ix x1)) 4))) else (if (i (a + 3 + (ix x1)) 5) < (i a 8) then (grd (i (a + 3 + (ix x1)) 5) 3 (some ((i (a + 12 + (ix (i (a + 3 + (ix x1)) 5))) 0)))) else (some ((i (a + 3 + (ix x1)) 4))))) else (some ((i (a + 3 + (ix x1)) 4))))
set_option maxHeartbeats 4000000 in
theorem c_Se_cellOf {n u : Nat} {t : MT} {i : MI} {r : MR} (s : Sh n t r) (a : Nat) (ha : SeaAd a) (x1 : Int32) : Cn 1 57 [.ref a, .int x1] (n, u, t, i, r) (f_Se_cellOf i a x1) (F_i0 n u t i r) PT := by
  refine cn_of (Y := K_Se_cellOf) (L0 := [.ref a, .int x1, uV]) rfl rfl rfl ?_
  intro d hd
  unfold f_Se_cellOf
  refine ge_run (pc' := 1) (L' := [.ref a, .int x1, uV]) (S' := [.ref a]) 1 rfl ?_
  refine ge_getR (b := (a + 2)) rfl (sT0 s ha) rfl (sR1 s ha) (sge ha) ?_
  refine ge_run (pc' := 3) (L' := [.ref a, .int x1, uV]) (S' := [.int x1, .ref (a + 2)]) 1 rfl ?_
  refine ge_grd (fun g_1 g_2 => ?_)
  refine ge_aald (jn := (ix x1)) (b := (a + 3 + (ix x1))) rfl (sT2 s ha) (Or.inl rfl) ⟨g_1, rfl⟩ g_2 (sRr_fish s ha g_2) (sge2 ha) ?_
  refine ge_run (pc' := 5) (L' := [.ref a, .int x1, uV]) (S' := [.int (5 : Int32), .ref (a + 3 + (ix x1))]) 1 rfl ?_
  refine ge_iald (jn := 5) rfl (sRow_fish s ha g_2) lk5 (by decide) ?_
  refine ge_run (pc' := 8) (L' := [.ref a, .int x1, .int (i (a + 3 + (ix x1)) 5)]) (S' := [.ref a]) 2 rfl ?_
  refine ge_getR (b := (a + 2)) rfl (sT0 s ha) rfl (sR1 s ha) (sge ha) ?_
  refine ge_run (pc' := 10) (L' := [.ref a, .int x1, .int (i (a + 3 + (ix x1)) 5)]) (S' := [.int x1, .ref (a + 2)]) 1 rfl ?_
  refine ge_aald (jn := (ix x1)) (b := (a + 3 + (ix x1))) rfl (sT2 s ha) (Or.inl rfl) ⟨g_1, rfl⟩ g_2 (sRr_fish s ha g_2) (sge2 ha) ?_
  refine ge_run (pc' := 12) (L' := [.ref a, .int x1, .int (i (a + 3 + (ix x1)) 5)]) (S' := [.int (3 : Int32), .ref (a + 3 + (ix x1))]) 1 rfl ?_
  refine ge_iald (jn := 3) rfl (sRow_fish s ha g_2) lk3 (by decide) ?_
  refine ge_run (pc' := 14) (L' := [.ref a, .int x1, .int (i (a + 3 + (ix x1)) 5)]) (S' := [.int (1 : Int32), .int (i (a + 3 + (ix x1)) 3)]) 1 rfl ?_
  refine ge_ne rfl (fun h_3 => ?_) (fun h_10 => ?_)
  · refine ge_run (pc' := 16) (L' := [.ref a, .int x1, .int (i (a + 3 + (ix x1)) 5)]) (S' := [.int (i (a + 3 + (ix x1)) 5)]) 1 rfl ?_
    refine ge_lt0 rfl (fun h_4 => ?_) (fun h_5 => ?_)
    · refine ge_run (pc' := 29) (L' := [.ref a, .int x1, .int (i (a + 3 + (ix x1)) 5)]) (S' := [.ref a]) 1 rfl ?_
      refine ge_getR (b := (a + 2)) rfl (sT0 s ha) rfl (sR1 s ha) (sge ha) ?_
      refine ge_run (pc' := 31) (L' := [.ref a, .int x1, .int (i (a + 3 + (ix x1)) 5)]) (S' := [.int x1, .ref (a + 2)]) 1 rfl ?_
      refine ge_aald (jn := (ix x1)) (b := (a + 3 + (ix x1))) rfl (sT2 s ha) (Or.inl rfl) ⟨g_1, rfl⟩ g_2 (sRr_fish s ha g_2) (sge2 ha) ?_
      refine ge_run (pc' := 33) (L' := [.ref a, .int x1, .int (i (a + 3 + (ix x1)) 5)]) (S' := [.int (4 : Int32), .ref (a + 3 + (ix x1))]) 1 rfl ?_
      refine ge_iald (jn := 4) rfl (sRow_fish s ha g_2) lk4 (by decide) ?_
      exact ge_ret rfl rfl (And.intro rfl trivial)
    · refine ge_run (pc' := 19) (L' := [.ref a, .int x1, .int (i (a + 3 + (ix x1)) 5)]) (S' := [.ref a, .int (i (a + 3 + (ix x1)) 5)]) 2 rfl ?_
      refine ge_getI rfl (sT0 s ha) rfl ?_
      refine ge_ge rfl (fun h_6 => ?_) (fun h_9 => ?_)
      · refine ge_run (pc' := 22) (L' := [.ref a, .int x1, .int (i (a + 3 + (ix x1)) 5)]) (S' := [.ref a]) 1 rfl ?_
        refine ge_getR (b := (a + 11)) rfl (sT0 s ha) rfl (sR2 s ha) (sge ha) ?_
        refine ge_run (pc' := 24) (L' := [.ref a, .int x1, .int (i (a + 3 + (ix x1)) 5)]) (S' := [.int (i (a + 3 + (ix x1)) 5), .ref (a + 11)]) 1 rfl ?_
        refine ge_grd (fun g_7 g_8 => ?_)
        refine ge_aald (jn := (ix (i (a + 3 + (ix x1)) 5))) (b := (a + 12 + (ix (i (a + 3 + (ix x1)) 5)))) rfl (sT11 s ha) (Or.inl rfl) ⟨g_7, rfl⟩ g_8 (sRr_boat s ha g_8) (sge2 ha) ?_
        refine ge_run (pc' := 26) (L' := [.ref a, .int x1, .int (i (a + 3 + (ix x1)) 5)]) (S' := [.int (0 : Int32), .ref (a + 12 + (ix (i (a + 3 + (ix x1)) 5)))]) 1 rfl ?_
        refine ge_iald (jn := 0) rfl (sRow_boat s ha g_8) lk0 (by decide) ?_
        exact ge_ret rfl rfl (And.intro rfl trivial)
      · refine ge_run (pc' := 29) (L' := [.ref a, .int x1, .int (i (a + 3 + (ix x1)) 5)]) (S' := [.ref a]) 1 rfl ?_
        refine ge_getR (b := (a + 2)) rfl (sT0 s ha) rfl (sR1 s ha) (sge ha) ?_
        refine ge_run (pc' := 31) (L' := [.ref a, .int x1, .int (i (a + 3 + (ix x1)) 5)]) (S' := [.int x1, .ref (a + 2)]) 1 rfl ?_
        refine ge_aald (jn := (ix x1)) (b := (a + 3 + (ix x1))) rfl (sT2 s ha) (Or.inl rfl) ⟨g_1, rfl⟩ g_2 (sRr_fish s ha g_2) (sge2 ha) ?_
        refine ge_run (pc' := 33) (L' := [.ref a, .int x1, .int (i (a + 3 + (ix x1)) 5)]) (S' := [.int (4 : Int32), .ref (a + 3 + (ix x1))]) 1 rfl ?_
        refine ge_iald (jn := 4) rfl (sRow_fish s ha g_2) lk4 (by decide) ?_
        exact ge_ret rfl rfl (And.intro rfl trivial)
  · refine ge_run (pc' := 29) (L' := [.ref a, .int x1, .int (i (a + 3 + (ix x1)) 5)]) (S' := [.ref a]) 1 rfl ?_
    refine ge_getR (b := (a + 2)) rfl (sT0 s ha) rfl (sR1 s ha) (sge ha) ?_
    refine ge_run (pc' := 31) (L' := [.ref a, .int x1, .int (i (a + 3 + (ix x1)) 5)]) (S' := [.int x1, .ref (a + 2)]) 1 rfl ?_
    refine ge_aald (jn := (ix x1)) (b := (a + 3 + (ix x1))) rfl (sT2 s ha) (Or.inl rfl) ⟨g_1, rfl⟩ g_2 (sRr_fish s ha g_2) (sge2 ha) ?_
    refine ge_run (pc' := 33) (L' := [.ref a, .int x1, .int (i (a + 3 + (ix x1)) 5)]) (S' := [.int (4 : Int32), .ref (a + 3 + (ix x1))]) 1 rfl ?_
    refine ge_iald (jn := 4) rfl (sRow_fish s ha g_2) lk4 (by decide) ?_
    exact ge_ret rfl rfl (And.intro rfl trivial)
def f_Se_moneyOfAll (i : MI) (a : Nat) : Option (Int32) :=
  (itr (σ := Int32 × Int32) (ρ := Int32) (fun (x1_1, x2_2) => if x2_2 < (i a 9) then (grd x2_2 5 (some (.inl ((x1_1 + (i (a + 16 + (ix x2_2)) 1)), (x2_2 + (1 : Int32)))))) else (some (.inr x1_1))) 1000000 ((0 : Int32), (0 : Int32))).bind (fun x1_3 => some (x1_3))
set_option maxHeartbeats 4000000 in
theorem c_Se_moneyOfAll {n u : Nat} {t : MT} {i : MI} {r : MR} (s : Sh n t r) (a : Nat) (ha : SeaAd a) : Cn 1 58 [.ref a] (n, u, t, i, r) (f_Se_moneyOfAll i a) (F_i0 n u t i r) PT := by
  refine cn_of (Y := K_Se_moneyOfAll) (L0 := [.ref a, uV, uV]) rfl rfl rfl ?_
  intro d hd
  unfold f_Se_moneyOfAll
  refine ge_run (pc' := 4) (L' := [.ref a, .int (0 : Int32), .int (0 : Int32)]) (S' := []) 4 rfl ?_
  refine ge_bind (K1 := fun (q : Int32) e => ∃ w_4 : Value, e = .inl (19, [.ref a, .int q, w_4], [], (n, u, t, i, r))) (ge_itr (C := fun (q : Int32 × Int32) e => e = .inl (4, [.ref a, .int q.1, .int q.2], [], (n, u, t, i, r))) ?_ _ _ _ rfl) ?_
  · rintro ⟨x1_1, x2_2⟩ _ rfl
    try dsimp only
    refine ge_run (pc' := 6) (L' := [.ref a, .int x1_1, .int x2_2]) (S' := [.ref a, .int x2_2]) 2 rfl ?_
    refine ge_getI rfl (sT0 s ha) rfl ?_
    refine ge_ge rfl (fun h_5 => ?_) (fun h_8 => ?_)
    · refine ge_run (pc' := 10) (L' := [.ref a, .int x1_1, .int x2_2]) (S' := [.ref a, .int x1_1]) 2 rfl ?_
      refine ge_getR (b := (a + 15)) rfl (sT0 s ha) rfl (sR3 s ha) (sge ha) ?_
      refine ge_run (pc' := 12) (L' := [.ref a, .int x1_1, .int x2_2]) (S' := [.int x2_2, .ref (a + 15), .int x1_1]) 1 rfl ?_
      refine ge_grd (fun g_6 g_7 => ?_)
      refine ge_aald (jn := (ix x2_2)) (b := (a + 16 + (ix x2_2))) rfl (sT15 s ha) (Or.inl rfl) ⟨g_6, rfl⟩ g_7 (sRr_buyer s ha g_7) (sge2 ha) ?_
      refine ge_run (pc' := 14) (L' := [.ref a, .int x1_1, .int x2_2]) (S' := [.int (1 : Int32), .ref (a + 16 + (ix x2_2)), .int x1_1]) 1 rfl ?_
      refine ge_iald (jn := 1) rfl (sRow_buyer s ha g_7) lk1 (by decide) ?_
      refine ge_run (pc' := 4) (L' := [.ref a, .int (x1_1 + (i (a + 16 + (ix x2_2)) 1)), .int (x2_2 + (1 : Int32))]) (S' := []) 4 rfl ?_
      exact ge_leaf (K := kX _ _) rfl
    · exact ge_leaf (K := kX _ _) (Exists.intro _ rfl)
  · rintro x1_3 _ ⟨w_4, rfl⟩
    try dsimp only
    refine ge_run (pc' := 20) (L' := [.ref a, .int x1_3, w_4]) (S' := [.int x1_3]) 1 rfl ?_
    exact ge_ret rfl rfl (And.intro rfl trivial)
def f_Se_breathOf (i : MI) (a : Nat) (x1 : Int32) : Option (Int32) :=
  (itr (σ := Int32 × Int32) (ρ := Int32) (fun (x2_1, x3_2) => if x3_2 < (i a 10) then ((if ((shr x1 x3_2) &&& (1 : Int32)) = 0 then (some x2_1) else (grd x3_2 6 (some (x2_1 + (i (a + 22 + (ix x3_2)) 1)))) : Option (Int32)).bind (fun x2_6 => some (.inl (x2_6, (x3_2 + (1 : Int32)))))) else (some (.inr x2_1))) 1000000 ((0 : Int32), (0 : Int32))).bind (fun x2_3 => some (x2_3))
set_option maxHeartbeats 4000000 in
theorem c_Se_breathOf {n u : Nat} {t : MT} {i : MI} {r : MR} (s : Sh n t r) (a : Nat) (ha : SeaAd a) (x1 : Int32) : Cn 1 59 [.ref a, .int x1] (n, u, t, i, r) (f_Se_breathOf i a x1) (F_i0 n u t i r) PT := by
  refine cn_of (Y := K_Se_breathOf) (L0 := [.ref a, .int x1, uV, uV]) rfl rfl rfl ?_
  intro d hd
  unfold f_Se_breathOf
  refine ge_run (pc' := 4) (L' := [.ref a, .int x1, .int (0 : Int32), .int (0 : Int32)]) (S' := []) 4 rfl ?_
  refine ge_bind (K1 := fun (q : Int32) e => ∃ w_4 : Value, e = .inl (25, [.ref a, .int x1, .int q, w_4], [], (n, u, t, i, r))) (ge_itr (C := fun (q : Int32 × Int32) e => e = .inl (4, [.ref a, .int x1, .int q.1, .int q.2], [], (n, u, t, i, r))) ?_ _ _ _ rfl) ?_
  · rintro ⟨x2_1, x3_2⟩ _ rfl
    try dsimp only
    refine ge_run (pc' := 6) (L' := [.ref a, .int x1, .int x2_1, .int x3_2]) (S' := [.ref a, .int x3_2]) 2 rfl ?_
    refine ge_getI rfl (sT0 s ha) rfl ?_
    refine ge_ge rfl (fun h_5 => ?_) (fun h_11 => ?_)
    · refine ge_run (pc' := 13) (L' := [.ref a, .int x1, .int x2_1, .int x3_2]) (S' := [.int ((shr x1 x3_2) &&& (1 : Int32))]) 5 rfl ?_
      refine ge_bind (K1 := fun (q : Int32) e => e = .inl (23, [.ref a, .int x1, .int q, .int x3_2], [], (n, u, t, i, r))) ?_ ?_
      · refine ge_eq0 rfl (fun h_7 => ?_) (fun h_8 => ?_)
        · exact ge_leaf rfl
        · refine ge_run (pc' := 16) (L' := [.ref a, .int x1, .int x2_1, .int x3_2]) (S' := [.ref a, .int x2_1]) 2 rfl ?_
          refine ge_getR (b := (a + 21)) rfl (sT0 s ha) rfl (sR4 s ha) (sge ha) ?_
          refine ge_run (pc' := 18) (L' := [.ref a, .int x1, .int x2_1, .int x3_2]) (S' := [.int x3_2, .ref (a + 21), .int x2_1]) 1 rfl ?_
          refine ge_grd (fun g_9 g_10 => ?_)
          refine ge_aald (jn := (ix x3_2)) (b := (a + 22 + (ix x3_2))) rfl (sT21 s ha) (Or.inl rfl) ⟨g_9, rfl⟩ g_10 (sRr_dead s ha g_10) (sge2 ha) ?_
          refine ge_run (pc' := 20) (L' := [.ref a, .int x1, .int x2_1, .int x3_2]) (S' := [.int (1 : Int32), .ref (a + 22 + (ix x3_2)), .int x2_1]) 1 rfl ?_
          refine ge_iald (jn := 1) rfl (sRow_dead s ha g_10) lk1 (by decide) ?_
          refine ge_run (pc' := 23) (L' := [.ref a, .int x1, .int (x2_1 + (i (a + 22 + (ix x3_2)) 1)), .int x3_2]) (S' := []) 2 rfl ?_
          exact ge_leaf rfl
      · rintro x2_6 _ rfl
        try dsimp only
        refine ge_run (pc' := 4) (L' := [.ref a, .int x1, .int x2_6, .int (x3_2 + (1 : Int32))]) (S' := []) 2 rfl ?_
        exact ge_leaf (K := kX _ _) rfl
    · exact ge_leaf (K := kX _ _) (Exists.intro _ rfl)
  · rintro x2_3 _ ⟨w_4, rfl⟩
    try dsimp only
    refine ge_run (pc' := 26) (L' := [.ref a, .int x1, .int x2_3, w_4]) (S' := [.int x2_3]) 1 rfl ?_
    exact ge_ret rfl rfl (And.intro rfl trivial)
def f_Se_maybe (i : MI) (a : Nat) (x1 : Int32) : Option (Int32) :=
  (itr (σ := Int32 × Int32) (ρ := Int32) (fun (x2_1, x3_2) => if x3_2 < (i a 10) then ((f_Se_saidKindOf i a x3_2 x1).bind (fun v_6 => (if v_6 = 0 then (some x2_1) else (grd x3_2 6 (grd x1 8 (if (i (a + 22 + (ix x3_2)) 1) < (i (a + 3 + (ix x1)) 1) then (some x2_1) else (some (x2_1 ||| (shl (1 : Int32) x3_2)))))) : Option (Int32)).bind (fun x2_7 => some (.inl (x2_7, (x3_2 + (1 : Int32))))))) else (some (.inr x2_1))) 1000000 ((0 : Int32), (0 : Int32))).bind (fun x2_3 => some (x2_3))
set_option maxHeartbeats 4000000 in
theorem c_Se_maybe {n u : Nat} {t : MT} {i : MI} {r : MR} (s : Sh n t r) (a : Nat) (ha : SeaAd a) (x1 : Int32) : Cn 2 61 [.ref a, .int x1] (n, u, t, i, r) (f_Se_maybe i a x1) (F_i0 n u t i r) PT := by
  refine cn_of (Y := K_Se_maybe) (L0 := [.ref a, .int x1, uV, uV]) rfl rfl rfl ?_
  intro d hd
  unfold f_Se_maybe
  refine ge_run (pc' := 4) (L' := [.ref a, .int x1, .int (0 : Int32), .int (0 : Int32)]) (S' := []) 4 rfl ?_
  refine ge_bind (K1 := fun (q : Int32) e => ∃ w_4 : Value, e = .inl (34, [.ref a, .int x1, .int q, w_4], [], (n, u, t, i, r))) (ge_itr (C := fun (q : Int32 × Int32) e => e = .inl (4, [.ref a, .int x1, .int q.1, .int q.2], [], (n, u, t, i, r))) ?_ _ _ _ rfl) ?_
  · rintro ⟨x2_1, x3_2⟩ _ rfl
    try dsimp only
    refine ge_run (pc' := 6) (L' := [.ref a, .int x1, .int x2_1, .int x3_2]) (S' := [.ref a, .int x3_2]) 2 rfl ?_
    refine ge_getI rfl (sT0 s ha) rfl ?_
    refine ge_ge rfl (fun h_5 => ?_) (fun h_16 => ?_)
    · refine ge_run (pc' := 11) (L' := [.ref a, .int x1, .int x2_1, .int x3_2]) (S' := [.int x1, .int x3_2, .ref a]) 3 rfl ?_
      refine ge_cv rfl rfl rfl (sT0 s ha) rfl rfl rfl (D := 1) (Nat.le_trans (by decide) hd) (c_Se_saidKindOf (n := n) (u := u) (t := t) (i := i) (r := r) s a ha x3_2 x1) ?_
      rintro v_6 -
      dsimp only [bkE, F_i0]
      refine ge_bind (K1 := fun (q : Int32) e => e = .inl (32, [.ref a, .int x1, .int q, .int x3_2], [], (n, u, t, i, r))) ?_ ?_
      · refine ge_eq0 rfl (fun h_8 => ?_) (fun h_9 => ?_)
        · exact ge_leaf rfl
        · refine ge_run (pc' := 14) (L' := [.ref a, .int x1, .int x2_1, .int x3_2]) (S' := [.ref a]) 1 rfl ?_
          refine ge_getR (b := (a + 21)) rfl (sT0 s ha) rfl (sR4 s ha) (sge ha) ?_
          refine ge_run (pc' := 16) (L' := [.ref a, .int x1, .int x2_1, .int x3_2]) (S' := [.int x3_2, .ref (a + 21)]) 1 rfl ?_
          refine ge_grd (fun g_10 g_11 => ?_)
          refine ge_aald (jn := (ix x3_2)) (b := (a + 22 + (ix x3_2))) rfl (sT21 s ha) (Or.inl rfl) ⟨g_10, rfl⟩ g_11 (sRr_dead s ha g_11) (sge2 ha) ?_
          refine ge_run (pc' := 18) (L' := [.ref a, .int x1, .int x2_1, .int x3_2]) (S' := [.int (1 : Int32), .ref (a + 22 + (ix x3_2))]) 1 rfl ?_
          refine ge_iald (jn := 1) rfl (sRow_dead s ha g_11) lk1 (by decide) ?_
          refine ge_run (pc' := 20) (L' := [.ref a, .int x1, .int x2_1, .int x3_2]) (S' := [.ref a, .int (i (a + 22 + (ix x3_2)) 1)]) 1 rfl ?_
          refine ge_getR (b := (a + 2)) rfl (sT0 s ha) rfl (sR1 s ha) (sge ha) ?_
          refine ge_run (pc' := 22) (L' := [.ref a, .int x1, .int x2_1, .int x3_2]) (S' := [.int x1, .ref (a + 2), .int (i (a + 22 + (ix x3_2)) 1)]) 1 rfl ?_
          refine ge_grd (fun g_12 g_13 => ?_)
          refine ge_aald (jn := (ix x1)) (b := (a + 3 + (ix x1))) rfl (sT2 s ha) (Or.inl rfl) ⟨g_12, rfl⟩ g_13 (sRr_fish s ha g_13) (sge2 ha) ?_
          refine ge_run (pc' := 24) (L' := [.ref a, .int x1, .int x2_1, .int x3_2]) (S' := [.int (1 : Int32), .ref (a + 3 + (ix x1)), .int (i (a + 22 + (ix x3_2)) 1)]) 1 rfl ?_
          refine ge_iald (jn := 1) rfl (sRow_fish s ha g_13) lk1 (by decide) ?_
          refine ge_lt rfl (fun h_14 => ?_) (fun h_15 => ?_)
          · exact ge_leaf rfl
          · refine ge_run (pc' := 32) (L' := [.ref a, .int x1, .int (x2_1 ||| (shl (1 : Int32) x3_2)), .int x3_2]) (S' := []) 6 rfl ?_
            exact ge_leaf rfl
      · rintro x2_7 _ rfl
        try dsimp only
        refine ge_run (pc' := 4) (L' := [.ref a, .int x1, .int x2_7, .int (x3_2 + (1 : Int32))]) (S' := []) 2 rfl ?_
        exact ge_leaf (K := kX _ _) rfl
    · exact ge_leaf (K := kX _ _) (Exists.intro _ rfl)
  · rintro x2_3 _ ⟨w_4, rfl⟩
    try dsimp only
    refine ge_run (pc' := 35) (L' := [.ref a, .int x1, .int x2_3, w_4]) (S' := [.int x2_3]) 1 rfl ?_
    exact ge_ret rfl rfl (And.intro rfl trivial)
def f_Se_turnsBy (t : MT) (r : MR) (i : MI) (a : Nat) (x1 : Int32) : Option (Int32 × MI) :=
  (f_Se_placed i a (2 : Int32)).bind (fun v_1 => (f_J_bitCount v_1).bind (fun v_2 => (f_La_sum t i (r a 16) (1 : Int32) a x1 v_2).bind (fun (v_3, i_4) => (f_La_sum t i_4 (r a 16) (0 : Int32) a x1 v_2).bind (fun (v_5, i_6) => (f_J_max (0 : Int32) (((5 : Int32) + v_3) - v_5)).bind (fun v_7 => some (v_7, i_6))))))
set_option maxHeartbeats 4000000 in
theorem c_Se_turnsBy {n u : Nat} {t : MT} {i : MI} {r : MR} (s : Sh n t r) (a : Nat) (ha : SeaAd a) (x1 : Int32) : Cn 3 62 [.ref a, .int x1] (n, u, t, i, r) (f_Se_turnsBy t r i a x1) (F_i1 n u t r) PT := by
  refine cn_of (Y := K_Se_turnsBy) (L0 := [.ref a, .int x1, uV, uV, uV]) rfl rfl rfl ?_
  intro d hd
  unfold f_Se_turnsBy
  refine ge_run (pc' := 2) (L' := [.ref a, .int x1, uV, uV, uV]) (S' := [.int (2 : Int32), .ref a]) 2 rfl ?_
  refine ge_cv rfl rfl rfl (sT0 s ha) rfl rfl rfl (D := 1) (Nat.le_trans (by decide) hd) (c_Se_placed (n := n) (u := u) (t := t) (i := i) (r := r) s a ha (2 : Int32)) ?_
  rintro v_1 -
  dsimp only [bkE, F_i0]
  refine ge_cs rfl rfl rfl rfl rfl rfl (D := 1) (Nat.le_trans (by decide) hd) (c_J_bitCount (n := n) (u := u) (t := t) (i := i) (r := r) s v_1) ?_
  rintro v_2 -
  dsimp only [bkE, F_i0]
  refine ge_run (pc' := 6) (L' := [.ref a, .int x1, .int v_2, uV, uV]) (S' := [.ref a]) 2 rfl ?_
  refine ge_getR (b := (r a 16)) rfl (sT0 s ha) rfl rfl (lge (sLaw s ha)) ?_
  refine ge_run (pc' := 11) (L' := [.ref a, .int x1, .int v_2, uV, uV]) (S' := [.int v_2, .int x1, .ref a, .int (1 : Int32), .ref (r a 16)]) 4 rfl ?_
  refine ge_cv rfl rfl rfl (lT (sLaw s ha)) rfl rfl rfl (D := 2) (Nat.le_trans (by decide) hd) (c_La_sum (n := n) (u := u) (t := t) (i := i) (r := r) s (r a 16) (sLaw s ha) (1 : Int32) a ha x1 v_2) ?_
  rintro ⟨v_3, i_4⟩ -
  dsimp only [bkE, F_i1]
  refine ge_run (pc' := 14) (L' := [.ref a, .int x1, .int v_2, .int v_3, uV]) (S' := [.ref a]) 2 rfl ?_
  refine ge_getR (b := (r a 16)) rfl (sT0 s ha) rfl rfl (lge (sLaw s ha)) ?_
  refine ge_run (pc' := 19) (L' := [.ref a, .int x1, .int v_2, .int v_3, uV]) (S' := [.int v_2, .int x1, .ref a, .int (0 : Int32), .ref (r a 16)]) 4 rfl ?_
  refine ge_cv rfl rfl rfl (lT (sLaw s ha)) rfl rfl rfl (D := 2) (Nat.le_trans (by decide) hd) (c_La_sum (n := n) (u := u) (t := t) (i := i_4) (r := r) s (r a 16) (sLaw s ha) (0 : Int32) a ha x1 v_2) ?_
  rintro ⟨v_5, i_6⟩ -
  dsimp only [bkE, F_i1]
  refine ge_run (pc' := 27) (L' := [.ref a, .int x1, .int v_2, .int v_3, .int v_5]) (S' := [.int (((5 : Int32) + v_3) - v_5), .int (0 : Int32)]) 7 rfl ?_
  refine ge_cs rfl rfl rfl rfl rfl rfl (D := 1) (Nat.le_trans (by decide) hd) (c_J_max (n := n) (u := u) (t := t) (i := i_6) (r := r) s (0 : Int32) (((5 : Int32) + v_3) - v_5)) ?_
  rintro v_7 -
  dsimp only [bkE, F_i0]
  exact ge_ret rfl rfl (And.intro rfl trivial)
def f_Se_price (t : MT) (r : MR) (i : MI) (a : Nat) (x1 : Int32) : Option (Int32 × MI) :=
  (f_Se_placed i a (2 : Int32)).bind (fun v_1 => (f_J_bitCount v_1).bind (fun v_2 => grd x1 8 ((f_La_sum t i (r a 16) (2 : Int32) a x1 v_2).bind (fun (v_5, i_6) => some (((((i (a + 3 + (ix x1)) 1) * (2 : Int32)) + ((i (a + 3 + (ix x1)) 2) / (10 : Int32))) + v_5), i_6)))))
set_option maxHeartbeats 4000000 in
theorem c_Se_price {n u : Nat} {t : MT} {i : MI} {r : MR} (s : Sh n t r) (a : Nat) (ha : SeaAd a) (x1 : Int32) : Cn 3 63 [.ref a, .int x1] (n, u, t, i, r) (f_Se_price t r i a x1) (F_i1 n u t r) PT := by
  refine cn_of (Y := K_Se_price) (L0 := [.ref a, .int x1, uV]) rfl rfl rfl ?_
  intro d hd
  unfold f_Se_price
  refine ge_run (pc' := 2) (L' := [.ref a, .int x1, uV]) (S' := [.int (2 : Int32), .ref a]) 2 rfl ?_
  refine ge_cv rfl rfl rfl (sT0 s ha) rfl rfl rfl (D := 1) (Nat.le_trans (by decide) hd) (c_Se_placed (n := n) (u := u) (t := t) (i := i) (r := r) s a ha (2 : Int32)) ?_
  rintro v_1 -
  dsimp only [bkE, F_i0]
  refine ge_cs rfl rfl rfl rfl rfl rfl (D := 1) (Nat.le_trans (by decide) hd) (c_J_bitCount (n := n) (u := u) (t := t) (i := i) (r := r) s v_1) ?_
  rintro v_2 -
  dsimp only [bkE, F_i0]
  refine ge_run (pc' := 6) (L' := [.ref a, .int x1, .int v_2]) (S' := [.ref a]) 2 rfl ?_
  refine ge_getR (b := (a + 2)) rfl (sT0 s ha) rfl (sR1 s ha) (sge ha) ?_
  refine ge_run (pc' := 8) (L' := [.ref a, .int x1, .int v_2]) (S' := [.int x1, .ref (a + 2)]) 1 rfl ?_
  refine ge_grd (fun g_3 g_4 => ?_)
  refine ge_aald (jn := (ix x1)) (b := (a + 3 + (ix x1))) rfl (sT2 s ha) (Or.inl rfl) ⟨g_3, rfl⟩ g_4 (sRr_fish s ha g_4) (sge2 ha) ?_
  refine ge_run (pc' := 10) (L' := [.ref a, .int x1, .int v_2]) (S' := [.int (1 : Int32), .ref (a + 3 + (ix x1))]) 1 rfl ?_
  refine ge_iald (jn := 1) rfl (sRow_fish s ha g_4) lk1 (by decide) ?_
  refine ge_run (pc' := 14) (L' := [.ref a, .int x1, .int v_2]) (S' := [.ref a, .int ((i (a + 3 + (ix x1)) 1) * (2 : Int32))]) 3 rfl ?_
  refine ge_getR (b := (a + 2)) rfl (sT0 s ha) rfl (sR1 s ha) (sge ha) ?_
  refine ge_run (pc' := 16) (L' := [.ref a, .int x1, .int v_2]) (S' := [.int x1, .ref (a + 2), .int ((i (a + 3 + (ix x1)) 1) * (2 : Int32))]) 1 rfl ?_
  refine ge_aald (jn := (ix x1)) (b := (a + 3 + (ix x1))) rfl (sT2 s ha) (Or.inl rfl) ⟨g_3, rfl⟩ g_4 (sRr_fish s ha g_4) (sge2 ha) ?_
  refine ge_run (pc' := 18) (L' := [.ref a, .int x1, .int v_2]) (S' := [.int (2 : Int32), .ref (a + 3 + (ix x1)), .int ((i (a + 3 + (ix x1)) 1) * (2 : Int32))]) 1 rfl ?_
  refine ge_iald (jn := 2) rfl (sRow_fish s ha g_4) lk2 (by decide) ?_
  refine ge_run (pc' := 20) (L' := [.ref a, .int x1, .int v_2]) (S' := [.int (10 : Int32), .int (i (a + 3 + (ix x1)) 2), .int ((i (a + 3 + (ix x1)) 1) * (2 : Int32))]) 1 rfl ?_
  refine ge_div rfl (by decide) ?_
  refine ge_run (pc' := 23) (L' := [.ref a, .int x1, .int v_2]) (S' := [.ref a, .int (((i (a + 3 + (ix x1)) 1) * (2 : Int32)) + ((i (a + 3 + (ix x1)) 2) / (10 : Int32)))]) 2 rfl ?_
  refine ge_getR (b := (r a 16)) rfl (sT0 s ha) rfl rfl (lge (sLaw s ha)) ?_
  refine ge_run (pc' := 28) (L' := [.ref a, .int x1, .int v_2]) (S' := [.int v_2, .int x1, .ref a, .int (2 : Int32), .ref (r a 16), .int (((i (a + 3 + (ix x1)) 1) * (2 : Int32)) + ((i (a + 3 + (ix x1)) 2) / (10 : Int32)))]) 4 rfl ?_
  refine ge_cv rfl rfl rfl (lT (sLaw s ha)) rfl rfl rfl (D := 2) (Nat.le_trans (by decide) hd) (c_La_sum (n := n) (u := u) (t := t) (i := i) (r := r) s (r a 16) (sLaw s ha) (2 : Int32) a ha x1 v_2) ?_
  rintro ⟨v_5, i_6⟩ -
  dsimp only [bkE, F_i1]
  refine ge_run (pc' := 30) (L' := [.ref a, .int x1, .int v_2]) (S' := [.int ((((i (a + 3 + (ix x1)) 1) * (2 : Int32)) + ((i (a + 3 + (ix x1)) 2) / (10 : Int32))) + v_5)]) 1 rfl ?_
  exact ge_ret rfl rfl (And.intro rfl trivial)
def f_Se_mayBuy (t : MT) (r : MR) (i : MI) (a : Nat) (x1 : Int32) : Option (Int32 × MI) :=
  (itr (σ := Int32 × Int32 × MI) (ρ := Int32 × MI) (fun (x2_1, x3_2, i_3) => if x3_2 < (i_3 a 7) then (grd x3_2 8 ((if (i_3 (a + 3 + (ix x3_2)) 3) = (2 : Int32) then (grd x1 5 (if (i_3 (a + 3 + (ix x3_2)) 0) = (i_3 (a + 16 + (ix x1)) 0) then (some (1 : Int32)) else (some (0 : Int32)))) else (some (0 : Int32)) : Option (Int32)).bind (fun y_12 => (if y_12 = 0 then (some (x2_1, i_3)) else (grd x1 5 (if (i_3 (a + 3 + (ix x3_2)) 2) < (i_3 (a + 16 + (ix x1)) 2) then (some (x2_1, i_3)) else ((f_Se_price t r i_3 a x3_2).bind (fun (v_27, i_28) => if (i_28 (a + 16 + (ix x1)) 1) < v_27 then (some (x2_1, i_28)) else (some ((x2_1 ||| (shl (1 : Int32) x3_2)), i_28)))))) : Option (Int32 × MI)).bind (fun (x2_19, i_20) => some (.inl (x2_19, (x3_2 + (1 : Int32)), i_20)))))) else (some (.inr (x2_1, i_3)))) 1000000 ((0 : Int32), (0 : Int32), i)).bind (fun (x2_5, i_6) => some (x2_5, i_6))
set_option maxHeartbeats 4000000 in
theorem c_Se_mayBuy {n u : Nat} {t : MT} {i : MI} {r : MR} (s : Sh n t r) (a : Nat) (ha : SeaAd a) (x1 : Int32) : Cn 4 64 [.ref a, .int x1] (n, u, t, i, r) (f_Se_mayBuy t r i a x1) (F_i1 n u t r) PT := by
  refine cn_of (Y := K_Se_mayBuy) (L0 := [.ref a, .int x1, uV, uV, uV]) rfl rfl rfl ?_
  intro d hd
  unfold f_Se_mayBuy
  refine ge_run (pc' := 4) (L' := [.ref a, .int x1, .int (0 : Int32), .int (0 : Int32), uV]) (S' := []) 4 rfl ?_
  refine ge_bind (K1 := fun (q : Int32 × MI) e => ∃ w_7 w_8 : Value, e = .inl (66, [.ref a, .int x1, .int q.1, w_7, w_8], [], (n, u, t, q.2, r))) (ge_itr (C := fun (q : Int32 × Int32 × MI) e => ∃ w_4 : Value, e = .inl (4, [.ref a, .int x1, .int q.1, .int q.2.1, w_4], [], (n, u, t, q.2.2, r))) ?_ _ _ _ (Exists.intro _ rfl)) ?_
  · rintro ⟨x2_1, x3_2, i_3⟩ _ ⟨w_4, rfl⟩
    try dsimp only
    refine ge_run (pc' := 6) (L' := [.ref a, .int x1, .int x2_1, .int x3_2, w_4]) (S' := [.ref a, .int x3_2]) 2 rfl ?_
    refine ge_getI rfl (sT0 s ha) rfl ?_
    refine ge_ge rfl (fun h_9 => ?_) (fun h_31 => ?_)
    · refine ge_run (pc' := 9) (L' := [.ref a, .int x1, .int x2_1, .int x3_2, w_4]) (S' := [.ref a]) 1 rfl ?_
      refine ge_getR (b := (a + 2)) rfl (sT0 s ha) rfl (sR1 s ha) (sge ha) ?_
      refine ge_run (pc' := 11) (L' := [.ref a, .int x1, .int x2_1, .int x3_2, w_4]) (S' := [.int x3_2, .ref (a + 2)]) 1 rfl ?_
      refine ge_grd (fun g_10 g_11 => ?_)
      refine ge_aald (jn := (ix x3_2)) (b := (a + 3 + (ix x3_2))) rfl (sT2 s ha) (Or.inl rfl) ⟨g_10, rfl⟩ g_11 (sRr_fish s ha g_11) (sge2 ha) ?_
      refine ge_run (pc' := 13) (L' := [.ref a, .int x1, .int x2_1, .int x3_2, w_4]) (S' := [.int (3 : Int32), .ref (a + 3 + (ix x3_2))]) 1 rfl ?_
      refine ge_iald (jn := 3) rfl (sRow_fish s ha g_11) lk3 (by decide) ?_
      refine ge_run (pc' := 15) (L' := [.ref a, .int x1, .int x2_1, .int x3_2, w_4]) (S' := [.int (2 : Int32), .int (i_3 (a + 3 + (ix x3_2)) 3)]) 1 rfl ?_
      refine ge_bind (K1 := fun (q : Int32) e => e = .inl (32, [.ref a, .int x1, .int x2_1, .int x3_2, w_4], [.int q], (n, u, t, i_3, r))) ?_ ?_
      · refine ge_ne rfl (fun h_13 => ?_) (fun h_18 => ?_)
        · refine ge_run (pc' := 17) (L' := [.ref a, .int x1, .int x2_1, .int x3_2, w_4]) (S' := [.ref a]) 1 rfl ?_
          refine ge_getR (b := (a + 2)) rfl (sT0 s ha) rfl (sR1 s ha) (sge ha) ?_
          refine ge_run (pc' := 19) (L' := [.ref a, .int x1, .int x2_1, .int x3_2, w_4]) (S' := [.int x3_2, .ref (a + 2)]) 1 rfl ?_
          refine ge_aald (jn := (ix x3_2)) (b := (a + 3 + (ix x3_2))) rfl (sT2 s ha) (Or.inl rfl) ⟨g_10, rfl⟩ g_11 (sRr_fish s ha g_11) (sge2 ha) ?_
          refine ge_run (pc' := 21) (L' := [.ref a, .int x1, .int x2_1, .int x3_2, w_4]) (S' := [.int (0 : Int32), .ref (a + 3 + (ix x3_2))]) 1 rfl ?_
          refine ge_iald (jn := 0) rfl (sRow_fish s ha g_11) lk0 (by decide) ?_
          refine ge_run (pc' := 23) (L' := [.ref a, .int x1, .int x2_1, .int x3_2, w_4]) (S' := [.ref a, .int (i_3 (a + 3 + (ix x3_2)) 0)]) 1 rfl ?_
          refine ge_getR (b := (a + 15)) rfl (sT0 s ha) rfl (sR3 s ha) (sge ha) ?_
          refine ge_run (pc' := 25) (L' := [.ref a, .int x1, .int x2_1, .int x3_2, w_4]) (S' := [.int x1, .ref (a + 15), .int (i_3 (a + 3 + (ix x3_2)) 0)]) 1 rfl ?_
          refine ge_grd (fun g_14 g_15 => ?_)
          refine ge_aald (jn := (ix x1)) (b := (a + 16 + (ix x1))) rfl (sT15 s ha) (Or.inl rfl) ⟨g_14, rfl⟩ g_15 (sRr_buyer s ha g_15) (sge2 ha) ?_
          refine ge_run (pc' := 27) (L' := [.ref a, .int x1, .int x2_1, .int x3_2, w_4]) (S' := [.int (0 : Int32), .ref (a + 16 + (ix x1)), .int (i_3 (a + 3 + (ix x3_2)) 0)]) 1 rfl ?_
          refine ge_iald (jn := 0) rfl (sRow_buyer s ha g_15) lk0 (by decide) ?_
          refine ge_ne rfl (fun h_16 => ?_) (fun h_17 => ?_)
          · refine ge_run (pc' := 32) (L' := [.ref a, .int x1, .int x2_1, .int x3_2, w_4]) (S' := [.int (1 : Int32)]) 2 rfl ?_
            exact ge_leaf rfl
          · refine ge_run (pc' := 32) (L' := [.ref a, .int x1, .int x2_1, .int x3_2, w_4]) (S' := [.int (0 : Int32)]) 1 rfl ?_
            exact ge_leaf rfl
        · refine ge_run (pc' := 32) (L' := [.ref a, .int x1, .int x2_1, .int x3_2, w_4]) (S' := [.int (0 : Int32)]) 1 rfl ?_
          exact ge_leaf rfl
      · rintro y_12 _ rfl
        try dsimp only
        refine ge_run (pc' := 34) (L' := [.ref a, .int x1, .int x2_1, .int x3_2, .int y_12]) (S' := [.int y_12]) 2 rfl ?_
        refine ge_bind (K1 := fun (q : Int32 × MI) e => e = .inl (64, [.ref a, .int x1, .int q.1, .int x3_2, .int y_12], [], (n, u, t, q.2, r))) ?_ ?_
        · refine ge_eq0 rfl (fun h_21 => ?_) (fun h_22 => ?_)
          · exact ge_leaf rfl
          · refine ge_run (pc' := 36) (L' := [.ref a, .int x1, .int x2_1, .int x3_2, .int y_12]) (S' := [.ref a]) 1 rfl ?_
            refine ge_getR (b := (a + 2)) rfl (sT0 s ha) rfl (sR1 s ha) (sge ha) ?_
            refine ge_run (pc' := 38) (L' := [.ref a, .int x1, .int x2_1, .int x3_2, .int y_12]) (S' := [.int x3_2, .ref (a + 2)]) 1 rfl ?_
            refine ge_aald (jn := (ix x3_2)) (b := (a + 3 + (ix x3_2))) rfl (sT2 s ha) (Or.inl rfl) ⟨g_10, rfl⟩ g_11 (sRr_fish s ha g_11) (sge2 ha) ?_
            refine ge_run (pc' := 40) (L' := [.ref a, .int x1, .int x2_1, .int x3_2, .int y_12]) (S' := [.int (2 : Int32), .ref (a + 3 + (ix x3_2))]) 1 rfl ?_
            refine ge_iald (jn := 2) rfl (sRow_fish s ha g_11) lk2 (by decide) ?_
            refine ge_run (pc' := 42) (L' := [.ref a, .int x1, .int x2_1, .int x3_2, .int y_12]) (S' := [.ref a, .int (i_3 (a + 3 + (ix x3_2)) 2)]) 1 rfl ?_
            refine ge_getR (b := (a + 15)) rfl (sT0 s ha) rfl (sR3 s ha) (sge ha) ?_
            refine ge_run (pc' := 44) (L' := [.ref a, .int x1, .int x2_1, .int x3_2, .int y_12]) (S' := [.int x1, .ref (a + 15), .int (i_3 (a + 3 + (ix x3_2)) 2)]) 1 rfl ?_
            refine ge_grd (fun g_23 g_24 => ?_)
            refine ge_aald (jn := (ix x1)) (b := (a + 16 + (ix x1))) rfl (sT15 s ha) (Or.inl rfl) ⟨g_23, rfl⟩ g_24 (sRr_buyer s ha g_24) (sge2 ha) ?_
            refine ge_run (pc' := 46) (L' := [.ref a, .int x1, .int x2_1, .int x3_2, .int y_12]) (S' := [.int (2 : Int32), .ref (a + 16 + (ix x1)), .int (i_3 (a + 3 + (ix x3_2)) 2)]) 1 rfl ?_
            refine ge_iald (jn := 2) rfl (sRow_buyer s ha g_24) lk2 (by decide) ?_
            refine ge_lt rfl (fun h_25 => ?_) (fun h_26 => ?_)
            · exact ge_leaf rfl
            · refine ge_run (pc' := 50) (L' := [.ref a, .int x1, .int x2_1, .int x3_2, .int y_12]) (S' := [.int x3_2, .ref a]) 2 rfl ?_
              refine ge_cv rfl rfl rfl (sT0 s ha) rfl rfl rfl (D := 3) (Nat.le_trans (by decide) hd) (c_Se_price (n := n) (u := u) (t := t) (i := i_3) (r := r) s a ha x3_2) ?_
              rintro ⟨v_27, i_28⟩ -
              dsimp only [bkE, F_i1]
              refine ge_run (pc' := 52) (L' := [.ref a, .int x1, .int x2_1, .int x3_2, .int y_12]) (S' := [.ref a, .int v_27]) 1 rfl ?_
              refine ge_getR (b := (a + 15)) rfl (sT0 s ha) rfl (sR3 s ha) (sge ha) ?_
              refine ge_run (pc' := 54) (L' := [.ref a, .int x1, .int x2_1, .int x3_2, .int y_12]) (S' := [.int x1, .ref (a + 15), .int v_27]) 1 rfl ?_
              refine ge_aald (jn := (ix x1)) (b := (a + 16 + (ix x1))) rfl (sT15 s ha) (Or.inl rfl) ⟨g_23, rfl⟩ g_24 (sRr_buyer s ha g_24) (sge2 ha) ?_
              refine ge_run (pc' := 56) (L' := [.ref a, .int x1, .int x2_1, .int x3_2, .int y_12]) (S' := [.int (1 : Int32), .ref (a + 16 + (ix x1)), .int v_27]) 1 rfl ?_
              refine ge_iald (jn := 1) rfl (sRow_buyer s ha g_24) lk1 (by decide) ?_
              refine ge_gt rfl (fun h_29 => ?_) (fun h_30 => ?_)
              · exact ge_leaf rfl
              · refine ge_run (pc' := 64) (L' := [.ref a, .int x1, .int (x2_1 ||| (shl (1 : Int32) x3_2)), .int x3_2, .int y_12]) (S' := []) 6 rfl ?_
                exact ge_leaf rfl
        · rintro ⟨x2_19, i_20⟩ _ rfl
          try dsimp only
          refine ge_run (pc' := 4) (L' := [.ref a, .int x1, .int x2_19, .int (x3_2 + (1 : Int32)), .int y_12]) (S' := []) 2 rfl ?_
          exact ge_leaf (K := kX _ _) (Exists.intro _ rfl)
    · exact ge_leaf (K := kX _ _) (Exists.intro _ (Exists.intro _ rfl))
  · rintro ⟨x2_5, i_6⟩ _ ⟨w_7, w_8, rfl⟩
    try dsimp only
    refine ge_run (pc' := 67) (L' := [.ref a, .int x1, .int x2_5, w_7, w_8]) (S' := [.int x2_5]) 1 rfl ?_
    exact ge_ret rfl rfl (And.intro rfl trivial)
def f_Se_freshestOf (i : MI) (a : Nat) (x1 : Int32) : Option (Int32) :=
  (itr (σ := Int32 × Int32) (ρ := Int32) (fun (x2_1, x3_2) => if x3_2 < (i a 7) then ((if ((shr x1 x3_2) &&& (1 : Int32)) = 0 then (some x2_1) else (if x2_1 = (-1 : Int32) then (some x3_2) else (grd x3_2 8 (grd x2_1 8 (if (i (a + 3 + (ix x2_1)) 2) < (i (a + 3 + (ix x3_2)) 2) then (some x3_2) else (some x2_1))))) : Option (Int32)).bind (fun x2_6 => some (.inl (x2_6, (x3_2 + (1 : Int32)))))) else (some (.inr x2_1))) 1000000 ((-1 : Int32), (0 : Int32))).bind (fun x2_3 => some (x2_3))
set_option maxHeartbeats 4000000 in
theorem c_Se_freshestOf {n u : Nat} {t : MT} {i : MI} {r : MR} (s : Sh n t r) (a : Nat) (ha : SeaAd a) (x1 : Int32) : Cn 1 65 [.ref a, .int x1] (n, u, t, i, r) (f_Se_freshestOf i a x1) (F_i0 n u t i r) PT := by
  refine cn_of (Y := K_Se_freshestOf) (L0 := [.ref a, .int x1, uV, uV]) rfl rfl rfl ?_
  intro d hd
  unfold f_Se_freshestOf
  refine ge_run (pc' := 4) (L' := [.ref a, .int x1, .int (-1 : Int32), .int (0 : Int32)]) (S' := []) 4 rfl ?_
  refine ge_bind (K1 := fun (q : Int32) e => ∃ w_4 : Value, e = .inl (34, [.ref a, .int x1, .int q, w_4], [], (n, u, t, i, r))) (ge_itr (C := fun (q : Int32 × Int32) e => e = .inl (4, [.ref a, .int x1, .int q.1, .int q.2], [], (n, u, t, i, r))) ?_ _ _ _ rfl) ?_
  · rintro ⟨x2_1, x3_2⟩ _ rfl
    try dsimp only
    refine ge_run (pc' := 6) (L' := [.ref a, .int x1, .int x2_1, .int x3_2]) (S' := [.ref a, .int x3_2]) 2 rfl ?_
    refine ge_getI rfl (sT0 s ha) rfl ?_
    refine ge_ge rfl (fun h_5 => ?_) (fun h_17 => ?_)
    · refine ge_run (pc' := 13) (L' := [.ref a, .int x1, .int x2_1, .int x3_2]) (S' := [.int ((shr x1 x3_2) &&& (1 : Int32))]) 5 rfl ?_
      refine ge_bind (K1 := fun (q : Int32) e => e = .inl (32, [.ref a, .int x1, .int q, .int x3_2], [], (n, u, t, i, r))) ?_ ?_
      · refine ge_eq0 rfl (fun h_7 => ?_) (fun h_8 => ?_)
        · exact ge_leaf rfl
        · refine ge_run (pc' := 16) (L' := [.ref a, .int x1, .int x2_1, .int x3_2]) (S' := [.int (-1 : Int32), .int x2_1]) 2 rfl ?_
          refine ge_eq rfl (fun h_9 => ?_) (fun h_10 => ?_)
          · refine ge_run (pc' := 32) (L' := [.ref a, .int x1, .int x3_2, .int x3_2]) (S' := []) 2 rfl ?_
            exact ge_leaf rfl
          · refine ge_run (pc' := 18) (L' := [.ref a, .int x1, .int x2_1, .int x3_2]) (S' := [.ref a]) 1 rfl ?_
            refine ge_getR (b := (a + 2)) rfl (sT0 s ha) rfl (sR1 s ha) (sge ha) ?_
            refine ge_run (pc' := 20) (L' := [.ref a, .int x1, .int x2_1, .int x3_2]) (S' := [.int x3_2, .ref (a + 2)]) 1 rfl ?_
            refine ge_grd (fun g_11 g_12 => ?_)
            refine ge_aald (jn := (ix x3_2)) (b := (a + 3 + (ix x3_2))) rfl (sT2 s ha) (Or.inl rfl) ⟨g_11, rfl⟩ g_12 (sRr_fish s ha g_12) (sge2 ha) ?_
            refine ge_run (pc' := 22) (L' := [.ref a, .int x1, .int x2_1, .int x3_2]) (S' := [.int (2 : Int32), .ref (a + 3 + (ix x3_2))]) 1 rfl ?_
            refine ge_iald (jn := 2) rfl (sRow_fish s ha g_12) lk2 (by decide) ?_
            refine ge_run (pc' := 24) (L' := [.ref a, .int x1, .int x2_1, .int x3_2]) (S' := [.ref a, .int (i (a + 3 + (ix x3_2)) 2)]) 1 rfl ?_
            refine ge_getR (b := (a + 2)) rfl (sT0 s ha) rfl (sR1 s ha) (sge ha) ?_
            refine ge_run (pc' := 26) (L' := [.ref a, .int x1, .int x2_1, .int x3_2]) (S' := [.int x2_1, .ref (a + 2), .int (i (a + 3 + (ix x3_2)) 2)]) 1 rfl ?_
            refine ge_grd (fun g_13 g_14 => ?_)
            refine ge_aald (jn := (ix x2_1)) (b := (a + 3 + (ix x2_1))) rfl (sT2 s ha) (Or.inl rfl) ⟨g_13, rfl⟩ g_14 (sRr_fish s ha g_14) (sge2 ha) ?_
            refine ge_run (pc' := 28) (L' := [.ref a, .int x1, .int x2_1, .int x3_2]) (S' := [.int (2 : Int32), .ref (a + 3 + (ix x2_1)), .int (i (a + 3 + (ix x3_2)) 2)]) 1 rfl ?_
            refine ge_iald (jn := 2) rfl (sRow_fish s ha g_14) lk2 (by decide) ?_
            refine ge_le rfl (fun h_15 => ?_) (fun h_16 => ?_)
            · refine ge_run (pc' := 32) (L' := [.ref a, .int x1, .int x3_2, .int x3_2]) (S' := []) 2 rfl ?_
              exact ge_leaf rfl
            · exact ge_leaf rfl
      · rintro x2_6 _ rfl
        try dsimp only
        refine ge_run (pc' := 4) (L' := [.ref a, .int x1, .int x2_6, .int (x3_2 + (1 : Int32))]) (S' := []) 2 rfl ?_
        exact ge_leaf (K := kX _ _) rfl
    · exact ge_leaf (K := kX _ _) (Exists.intro _ rfl)
  · rintro x2_3 _ ⟨w_4, rfl⟩
    try dsimp only
    refine ge_run (pc' := 35) (L' := [.ref a, .int x1, .int x2_3, w_4]) (S' := [.int x2_3]) 1 rfl ?_
    exact ge_ret rfl rfl (And.intro rfl trivial)
def f_Se_leastOf (i : MI) (a : Nat) (x1 : Int32) : Option (Int32) :=
  itr (σ := Int32) (ρ := Int32) (fun x2_1 => if x2_1 < (i a 7) then (if ((shr x1 x2_1) &&& (1 : Int32)) = 0 then (some (.inl (x2_1 + (1 : Int32)))) else (some (.inr ((x2_1))))) else (some (.inr (((0 : Int32)))))) 1000000 (0 : Int32)
set_option maxHeartbeats 4000000 in
theorem c_Se_leastOf {n u : Nat} {t : MT} {i : MI} {r : MR} (s : Sh n t r) (a : Nat) (ha : SeaAd a) (x1 : Int32) : Cn 1 66 [.ref a, .int x1] (n, u, t, i, r) (f_Se_leastOf i a x1) (F_i0 n u t i r) PT := by
  refine cn_of (Y := K_Se_leastOf) (L0 := [.ref a, .int x1, uV]) rfl rfl rfl ?_
  intro d hd
  unfold f_Se_leastOf
  refine ge_run (pc' := 2) (L' := [.ref a, .int x1, .int (0 : Int32)]) (S' := []) 2 rfl ?_
  refine ge_itr (C := fun (q : Int32) e => e = .inl (2, [.ref a, .int x1, .int q], [], (n, u, t, i, r))) ?_ _ _ _ rfl
  rintro x2_1 _ rfl
  try dsimp only
  refine ge_run (pc' := 4) (L' := [.ref a, .int x1, .int x2_1]) (S' := [.ref a, .int x2_1]) 2 rfl ?_
  refine ge_getI rfl (sT0 s ha) rfl ?_
  refine ge_ge rfl (fun h_2 => ?_) (fun h_5 => ?_)
  · refine ge_run (pc' := 11) (L' := [.ref a, .int x1, .int x2_1]) (S' := [.int ((shr x1 x2_1) &&& (1 : Int32))]) 5 rfl ?_
    refine ge_eq0 rfl (fun h_3 => ?_) (fun h_4 => ?_)
    · refine ge_run (pc' := 2) (L' := [.ref a, .int x1, .int (x2_1 + (1 : Int32))]) (S' := []) 2 rfl ?_
      exact ge_leaf (K := kX _ _) rfl
    · refine ge_run (pc' := 13) (L' := [.ref a, .int x1, .int x2_1]) (S' := [.int x2_1]) 1 rfl ?_
      exact ge_ret rfl rfl (And.intro rfl trivial)
  · refine ge_run (pc' := 17) (L' := [.ref a, .int x1, .int x2_1]) (S' := [.int (0 : Int32)]) 1 rfl ?_
    exact ge_ret rfl rfl (And.intro rfl trivial)
def f_Se_meetingOf (i : MI) (a : Nat) (x1 : Int32) (x2 : Int32) : Option (Int32) :=
  grd x2 8 (if (i (a + 3 + (ix x2)) 3) = 0 then (itr (σ := Int32 × Int32) (ρ := Int32) (fun (x3_4, x4_5) => if (60 : Int32) < x4_5 then (some (.inr (((-1 : Int32))))) else (grd x1 3 ((f_Se_distance (i (a + 12 + (ix x1)) 0) x3_4).bind (fun v_10 => if x4_5 < v_10 then ((f_Se_drift i a x3_4).bind (fun v_12 => some (.inl (v_12, (x4_5 + (1 : Int32)))))) else (some (.inr ((x4_5)))))))) 1000000 ((i (a + 3 + (ix x2)) 4), (0 : Int32))) else (some ((-1 : Int32))))
set_option maxHeartbeats 4000000 in
theorem c_Se_meetingOf {n u : Nat} {t : MT} {i : MI} {r : MR} (s : Sh n t r) (a : Nat) (ha : SeaAd a) (x1 : Int32) (x2 : Int32) : Cn 3 68 [.ref a, .int x1, .int x2] (n, u, t, i, r) (f_Se_meetingOf i a x1 x2) (F_i0 n u t i r) PT := by
  refine cn_of (Y := K_Se_meetingOf) (L0 := [.ref a, .int x1, .int x2, uV, uV]) rfl rfl rfl ?_
  intro d hd
  unfold f_Se_meetingOf
  refine ge_run (pc' := 1) (L' := [.ref a, .int x1, .int x2, uV, uV]) (S' := [.ref a]) 1 rfl ?_
  refine ge_getR (b := (a + 2)) rfl (sT0 s ha) rfl (sR1 s ha) (sge ha) ?_
  refine ge_run (pc' := 3) (L' := [.ref a, .int x1, .int x2, uV, uV]) (S' := [.int x2, .ref (a + 2)]) 1 rfl ?_
  refine ge_grd (fun g_1 g_2 => ?_)
  refine ge_aald (jn := (ix x2)) (b := (a + 3 + (ix x2))) rfl (sT2 s ha) (Or.inl rfl) ⟨g_1, rfl⟩ g_2 (sRr_fish s ha g_2) (sge2 ha) ?_
  refine ge_run (pc' := 5) (L' := [.ref a, .int x1, .int x2, uV, uV]) (S' := [.int (3 : Int32), .ref (a + 3 + (ix x2))]) 1 rfl ?_
  refine ge_iald (jn := 3) rfl (sRow_fish s ha g_2) lk3 (by decide) ?_
  refine ge_eq0 rfl (fun h_3 => ?_) (fun h_14 => ?_)
  · refine ge_run (pc' := 10) (L' := [.ref a, .int x1, .int x2, uV, uV]) (S' := [.ref a]) 1 rfl ?_
    refine ge_getR (b := (a + 2)) rfl (sT0 s ha) rfl (sR1 s ha) (sge ha) ?_
    refine ge_run (pc' := 12) (L' := [.ref a, .int x1, .int x2, uV, uV]) (S' := [.int x2, .ref (a + 2)]) 1 rfl ?_
    refine ge_aald (jn := (ix x2)) (b := (a + 3 + (ix x2))) rfl (sT2 s ha) (Or.inl rfl) ⟨g_1, rfl⟩ g_2 (sRr_fish s ha g_2) (sge2 ha) ?_
    refine ge_run (pc' := 14) (L' := [.ref a, .int x1, .int x2, uV, uV]) (S' := [.int (4 : Int32), .ref (a + 3 + (ix x2))]) 1 rfl ?_
    refine ge_iald (jn := 4) rfl (sRow_fish s ha g_2) lk4 (by decide) ?_
    refine ge_run (pc' := 18) (L' := [.ref a, .int x1, .int x2, .int (i (a + 3 + (ix x2)) 4), .int (0 : Int32)]) (S' := []) 3 rfl ?_
    refine ge_itr (C := fun (q : Int32 × Int32) e => e = .inl (18, [.ref a, .int x1, .int x2, .int q.1, .int q.2], [], (n, u, t, i, r))) ?_ _ _ _ rfl
    rintro ⟨x3_4, x4_5⟩ _ rfl
    try dsimp only
    refine ge_run (pc' := 20) (L' := [.ref a, .int x1, .int x2, .int x3_4, .int x4_5]) (S' := [.int (60 : Int32), .int x4_5]) 2 rfl ?_
    refine ge_gt rfl (fun h_6 => ?_) (fun h_7 => ?_)
    · refine ge_run (pc' := 40) (L' := [.ref a, .int x1, .int x2, .int x3_4, .int x4_5]) (S' := [.int (-1 : Int32)]) 1 rfl ?_
      exact ge_ret rfl rfl (And.intro rfl trivial)
    · refine ge_run (pc' := 22) (L' := [.ref a, .int x1, .int x2, .int x3_4, .int x4_5]) (S' := [.ref a]) 1 rfl ?_
      refine ge_getR (b := (a + 11)) rfl (sT0 s ha) rfl (sR2 s ha) (sge ha) ?_
      refine ge_run (pc' := 24) (L' := [.ref a, .int x1, .int x2, .int x3_4, .int x4_5]) (S' := [.int x1, .ref (a + 11)]) 1 rfl ?_
      refine ge_grd (fun g_8 g_9 => ?_)
      refine ge_aald (jn := (ix x1)) (b := (a + 12 + (ix x1))) rfl (sT11 s ha) (Or.inl rfl) ⟨g_8, rfl⟩ g_9 (sRr_boat s ha g_9) (sge2 ha) ?_
      refine ge_run (pc' := 26) (L' := [.ref a, .int x1, .int x2, .int x3_4, .int x4_5]) (S' := [.int (0 : Int32), .ref (a + 12 + (ix x1))]) 1 rfl ?_
      refine ge_iald (jn := 0) rfl (sRow_boat s ha g_9) lk0 (by decide) ?_
      refine ge_run (pc' := 28) (L' := [.ref a, .int x1, .int x2, .int x3_4, .int x4_5]) (S' := [.int x3_4, .int (i (a + 12 + (ix x1)) 0)]) 1 rfl ?_
      refine ge_cs rfl rfl rfl rfl rfl rfl (D := 2) (Nat.le_trans (by decide) hd) (c_Se_distance (n := n) (u := u) (t := t) (i := i) (r := r) s (i (a + 12 + (ix x1)) 0) x3_4) ?_
      rintro v_10 -
      dsimp only [bkE, F_i0]
      refine ge_run (pc' := 30) (L' := [.ref a, .int x1, .int x2, .int x3_4, .int x4_5]) (S' := [.int x4_5, .int v_10]) 1 rfl ?_
      refine ge_gt rfl (fun h_11 => ?_) (fun h_13 => ?_)
      · refine ge_run (pc' := 35) (L' := [.ref a, .int x1, .int x2, .int x3_4, .int x4_5]) (S' := [.int x3_4, .ref a]) 2 rfl ?_
        refine ge_cv rfl rfl rfl (sT0 s ha) rfl rfl rfl (D := 2) (Nat.le_trans (by decide) hd) (c_Se_drift (n := n) (u := u) (t := t) (i := i) (r := r) s a ha x3_4) ?_
        rintro v_12 -
        dsimp only [bkE, F_i0]
        refine ge_run (pc' := 18) (L' := [.ref a, .int x1, .int x2, .int v_12, .int (x4_5 + (1 : Int32))]) (S' := []) 3 rfl ?_
        exact ge_leaf (K := kX _ _) rfl
      · refine ge_run (pc' := 32) (L' := [.ref a, .int x1, .int x2, .int x3_4, .int x4_5]) (S' := [.int x4_5]) 1 rfl ?_
        exact ge_ret rfl rfl (And.intro rfl trivial)
  · refine ge_run (pc' := 8) (L' := [.ref a, .int x1, .int x2, uV, uV]) (S' := [.int (-1 : Int32)]) 1 rfl ?_
    exact ge_ret rfl rfl (And.intro rfl trivial)
def f_Se_sail (i : MI) (a : Nat) (x1 : Int32) : Option (MI) :=
  grd x1 3 (if (i (a + 12 + (ix x1)) 1) = (-1 : Int32) then (some i) else ((if (rm (i (a + 12 + (ix x1)) 0) (5 : Int32)) = (rm (i (a + 12 + (ix x1)) 1) (5 : Int32)) then (if (i (a + 12 + (ix x1)) 0) = (i (a + 12 + (ix x1)) 1) then (some (i (a + 12 + (ix x1)) 0)) else ((if (i (a + 12 + (ix x1)) 0) < (i (a + 12 + (ix x1)) 1) then (some (5 : Int32)) else (some (-5 : Int32)) : Option (Int32)).bind (fun y_9 => some ((i (a + 12 + (ix x1)) 0) + y_9)))) else ((if (rm (i (a + 12 + (ix x1)) 0) (5 : Int32)) < (rm (i (a + 12 + (ix x1)) 1) (5 : Int32)) then (some (1 : Int32)) else (some (-1 : Int32)) : Option (Int32)).bind (fun y_13 => some ((i (a + 12 + (ix x1)) 0) + y_13))) : Option (Int32)).bind (fun x3_5 => bnd (wr i (a + 12 + (ix x1)) 0 x3_5) (fun i_16 => if x3_5 = (i (a + 12 + (ix x1)) 1) then (bnd (wr i_16 (a + 12 + (ix x1)) 1 (-1 : Int32)) (fun i_18 => some i_18)) else (some i_16)))))
set_option maxHeartbeats 4000000 in
theorem c_Se_sail {n u : Nat} {t : MT} {i : MI} {r : MR} (s : Sh n t r) (a : Nat) (ha : SeaAd a) (x1 : Int32) : Cn 1 70 [.ref a, .int x1] (n, u, t, i, r) (f_Se_sail i a x1) (F_v1 n u t r) PT := by
  refine cn_of (Y := K_Se_sail) (L0 := [.ref a, .int x1, uV, uV]) rfl rfl rfl ?_
  intro d hd
  unfold f_Se_sail
  refine ge_run (pc' := 1) (L' := [.ref a, .int x1, uV, uV]) (S' := [.ref a]) 1 rfl ?_
  refine ge_getR (b := (a + 11)) rfl (sT0 s ha) rfl (sR2 s ha) (sge ha) ?_
  refine ge_run (pc' := 3) (L' := [.ref a, .int x1, uV, uV]) (S' := [.int x1, .ref (a + 11)]) 1 rfl ?_
  refine ge_grd (fun g_1 g_2 => ?_)
  refine ge_aald (jn := (ix x1)) (b := (a + 12 + (ix x1))) rfl (sT11 s ha) (Or.inl rfl) ⟨g_1, rfl⟩ g_2 (sRr_boat s ha g_2) (sge2 ha) ?_
  refine ge_run (pc' := 5) (L' := [.ref a, .int x1, uV, uV]) (S' := [.int (1 : Int32), .ref (a + 12 + (ix x1))]) 1 rfl ?_
  refine ge_iald (jn := 1) rfl (sRow_boat s ha g_2) lk1 (by decide) ?_
  refine ge_run (pc' := 9) (L' := [.ref a, .int x1, .int (i (a + 12 + (ix x1)) 1), uV]) (S' := [.int (-1 : Int32), .int (i (a + 12 + (ix x1)) 1)]) 3 rfl ?_
  refine ge_ne rfl (fun h_3 => ?_) (fun h_4 => ?_)
  · exact ge_retv rfl rfl (And.intro rfl trivial)
  · refine ge_run (pc' := 12) (L' := [.ref a, .int x1, .int (i (a + 12 + (ix x1)) 1), uV]) (S' := [.ref a]) 1 rfl ?_
    refine ge_getR (b := (a + 11)) rfl (sT0 s ha) rfl (sR2 s ha) (sge ha) ?_
    refine ge_run (pc' := 14) (L' := [.ref a, .int x1, .int (i (a + 12 + (ix x1)) 1), uV]) (S' := [.int x1, .ref (a + 11)]) 1 rfl ?_
    refine ge_aald (jn := (ix x1)) (b := (a + 12 + (ix x1))) rfl (sT11 s ha) (Or.inl rfl) ⟨g_1, rfl⟩ g_2 (sRr_boat s ha g_2) (sge2 ha) ?_
    refine ge_run (pc' := 16) (L' := [.ref a, .int x1, .int (i (a + 12 + (ix x1)) 1), uV]) (S' := [.int (0 : Int32), .ref (a + 12 + (ix x1))]) 1 rfl ?_
    refine ge_iald (jn := 0) rfl (sRow_boat s ha g_2) lk0 (by decide) ?_
    refine ge_run (pc' := 20) (L' := [.ref a, .int x1, .int (i (a + 12 + (ix x1)) 1), .int (i (a + 12 + (ix x1)) 0)]) (S' := [.int (5 : Int32), .int (i (a + 12 + (ix x1)) 0)]) 3 rfl ?_
    refine ge_rem rfl (by decide) ?_
    refine ge_run (pc' := 23) (L' := [.ref a, .int x1, .int (i (a + 12 + (ix x1)) 1), .int (i (a + 12 + (ix x1)) 0)]) (S' := [.int (5 : Int32), .int (i (a + 12 + (ix x1)) 1), .int (rm (i (a + 12 + (ix x1)) 0) (5 : Int32))]) 2 rfl ?_
    refine ge_rem rfl (by decide) ?_
    refine ge_bind (K1 := fun (q : Int32) e => e = .inl (51, [.ref a, .int x1, .int (i (a + 12 + (ix x1)) 1), .int q], [], (n, u, t, i, r))) ?_ ?_
    · refine ge_eq rfl (fun h_6 => ?_) (fun h_12 => ?_)
      · refine ge_run (pc' := 41) (L' := [.ref a, .int x1, .int (i (a + 12 + (ix x1)) 1), .int (i (a + 12 + (ix x1)) 0)]) (S' := [.int (i (a + 12 + (ix x1)) 1), .int (i (a + 12 + (ix x1)) 0)]) 2 rfl ?_
        refine ge_eq rfl (fun h_7 => ?_) (fun h_8 => ?_)
        · exact ge_leaf rfl
        · refine ge_run (pc' := 45) (L' := [.ref a, .int x1, .int (i (a + 12 + (ix x1)) 1), .int (i (a + 12 + (ix x1)) 0)]) (S' := [.int (i (a + 12 + (ix x1)) 1), .int (i (a + 12 + (ix x1)) 0), .int (i (a + 12 + (ix x1)) 0)]) 3 rfl ?_
          refine ge_bind (K1 := fun (q : Int32) e => e = .inl (49, [.ref a, .int x1, .int (i (a + 12 + (ix x1)) 1), .int (i (a + 12 + (ix x1)) 0)], [.int q, .int (i (a + 12 + (ix x1)) 0)], (n, u, t, i, r))) ?_ ?_
          · refine ge_ge rfl (fun h_10 => ?_) (fun h_11 => ?_)
            · refine ge_run (pc' := 49) (L' := [.ref a, .int x1, .int (i (a + 12 + (ix x1)) 1), .int (i (a + 12 + (ix x1)) 0)]) (S' := [.int (5 : Int32), .int (i (a + 12 + (ix x1)) 0)]) 2 rfl ?_
              exact ge_leaf rfl
            · refine ge_run (pc' := 49) (L' := [.ref a, .int x1, .int (i (a + 12 + (ix x1)) 1), .int (i (a + 12 + (ix x1)) 0)]) (S' := [.int (-5 : Int32), .int (i (a + 12 + (ix x1)) 0)]) 1 rfl ?_
              exact ge_leaf rfl
          · rintro y_9 _ rfl
            try dsimp only
            refine ge_run (pc' := 51) (L' := [.ref a, .int x1, .int (i (a + 12 + (ix x1)) 1), .int ((i (a + 12 + (ix x1)) 0) + y_9)]) (S' := []) 2 rfl ?_
            exact ge_leaf rfl
      · refine ge_run (pc' := 28) (L' := [.ref a, .int x1, .int (i (a + 12 + (ix x1)) 1), .int (i (a + 12 + (ix x1)) 0)]) (S' := [.int (5 : Int32), .int (i (a + 12 + (ix x1)) 0), .int (i (a + 12 + (ix x1)) 0)]) 3 rfl ?_
        refine ge_rem rfl (by decide) ?_
        refine ge_run (pc' := 31) (L' := [.ref a, .int x1, .int (i (a + 12 + (ix x1)) 1), .int (i (a + 12 + (ix x1)) 0)]) (S' := [.int (5 : Int32), .int (i (a + 12 + (ix x1)) 1), .int (rm (i (a + 12 + (ix x1)) 0) (5 : Int32)), .int (i (a + 12 + (ix x1)) 0)]) 2 rfl ?_
        refine ge_rem rfl (by decide) ?_
        refine ge_bind (K1 := fun (q : Int32) e => e = .inl (36, [.ref a, .int x1, .int (i (a + 12 + (ix x1)) 1), .int (i (a + 12 + (ix x1)) 0)], [.int q, .int (i (a + 12 + (ix x1)) 0)], (n, u, t, i, r))) ?_ ?_
        · refine ge_ge rfl (fun h_14 => ?_) (fun h_15 => ?_)
          · refine ge_run (pc' := 36) (L' := [.ref a, .int x1, .int (i (a + 12 + (ix x1)) 1), .int (i (a + 12 + (ix x1)) 0)]) (S' := [.int (1 : Int32), .int (i (a + 12 + (ix x1)) 0)]) 2 rfl ?_
            exact ge_leaf rfl
          · refine ge_run (pc' := 36) (L' := [.ref a, .int x1, .int (i (a + 12 + (ix x1)) 1), .int (i (a + 12 + (ix x1)) 0)]) (S' := [.int (-1 : Int32), .int (i (a + 12 + (ix x1)) 0)]) 1 rfl ?_
            exact ge_leaf rfl
        · rintro y_13 _ rfl
          try dsimp only
          refine ge_run (pc' := 51) (L' := [.ref a, .int x1, .int (i (a + 12 + (ix x1)) 1), .int ((i (a + 12 + (ix x1)) 0) + y_13)]) (S' := []) 3 rfl ?_
          exact ge_leaf rfl
    · rintro x3_5 _ rfl
      try dsimp only
      refine ge_run (pc' := 52) (L' := [.ref a, .int x1, .int (i (a + 12 + (ix x1)) 1), .int x3_5]) (S' := [.ref a]) 1 rfl ?_
      refine ge_getR (b := (a + 11)) rfl (sT0 s ha) rfl (sR2 s ha) (sge ha) ?_
      refine ge_run (pc' := 54) (L' := [.ref a, .int x1, .int (i (a + 12 + (ix x1)) 1), .int x3_5]) (S' := [.int x1, .ref (a + 11)]) 1 rfl ?_
      refine ge_aald (jn := (ix x1)) (b := (a + 12 + (ix x1))) rfl (sT11 s ha) (Or.inl rfl) ⟨g_1, rfl⟩ g_2 (sRr_boat s ha g_2) (sge2 ha) ?_
      refine ge_run (pc' := 57) (L' := [.ref a, .int x1, .int (i (a + 12 + (ix x1)) 1), .int x3_5]) (S' := [.int x3_5, .int (0 : Int32), .ref (a + 12 + (ix x1))]) 2 rfl ?_
      refine ge_iast (jn := 0) rfl (sRow_boat s ha g_2) (sge2 ha) lk0 (by decide) (fun i_16 => ?_)
      refine ge_run (pc' := 60) (L' := [.ref a, .int x1, .int (i (a + 12 + (ix x1)) 1), .int x3_5]) (S' := [.int (i (a + 12 + (ix x1)) 1), .int x3_5]) 2 rfl ?_
      refine ge_ne rfl (fun h_17 => ?_) (fun h_19 => ?_)
      · refine ge_run (pc' := 62) (L' := [.ref a, .int x1, .int (i (a + 12 + (ix x1)) 1), .int x3_5]) (S' := [.ref a]) 1 rfl ?_
        refine ge_getR (b := (a + 11)) rfl (sT0 s ha) rfl (sR2 s ha) (sge ha) ?_
        refine ge_run (pc' := 64) (L' := [.ref a, .int x1, .int (i (a + 12 + (ix x1)) 1), .int x3_5]) (S' := [.int x1, .ref (a + 11)]) 1 rfl ?_
        refine ge_aald (jn := (ix x1)) (b := (a + 12 + (ix x1))) rfl (sT11 s ha) (Or.inl rfl) ⟨g_1, rfl⟩ g_2 (sRr_boat s ha g_2) (sge2 ha) ?_
        refine ge_run (pc' := 67) (L' := [.ref a, .int x1, .int (i (a + 12 + (ix x1)) 1), .int x3_5]) (S' := [.int (-1 : Int32), .int (1 : Int32), .ref (a + 12 + (ix x1))]) 2 rfl ?_
        refine ge_iast (jn := 1) rfl (sRow_boat s ha g_2) (sge2 ha) lk1 (by decide) (fun i_18 => ?_)
        exact ge_retv rfl rfl (And.intro rfl trivial)
      · exact ge_retv rfl rfl (And.intro rfl trivial)
def f_Se_fill (i : MI) (a : Nat) (x1 : Int32) : Option (MI) :=
  grd x1 3 ((f_Se_aboard i a x1).bind (fun v_3 => (f_J_bitCount v_3).bind (fun v_4 => (itr (σ := Int32 × Int32 × MI) (ρ := MI) (fun (x2_5, x3_6, i_7) => if x3_6 < (i_7 a 7) then (if 0 < x2_5 then (grd x3_6 8 ((if (i_7 (a + 3 + (ix x3_6)) 3) = 0 then (grd x1 3 (if (i_7 (a + 3 + (ix x3_6)) 4) = (i_7 (a + 12 + (ix x1)) 0) then ((f_Se_put i_7 a x3_6 (1 : Int32) (-1 : Int32) x1).bind (fun i_21 => (f_Lo_add i_21 a (i_21 a 14) x3_6 (0 : Int32) x1 (i_21 (a + 3 + (ix x3_6)) 2)).bind (fun i_22 => some ((x2_5 + (-1 : Int32)), i_22)))) else (some (x2_5, i_7)))) else (some (x2_5, i_7)) : Option (Int32 × MI)).bind (fun (x2_15, i_16) => some (.inl (x2_15, (x3_6 + (1 : Int32)), i_16))))) else (some (.inr i_7))) else (some (.inr i_7))) 1000000 (((i (a + 12 + (ix x1)) 2) - v_4), (0 : Int32), i)).bind (fun i_8 => some i_8))))
set_option maxHeartbeats 4000000 in
theorem c_Se_fill {n u : Nat} {t : MT} {i : MI} {r : MR} (s : Sh n t r) (a : Nat) (ha : SeaAd a) (x1 : Int32) : Cn 3 71 [.ref a, .int x1] (n, u, t, i, r) (f_Se_fill i a x1) (F_v1 n u t r) PT := by
  refine cn_of (Y := K_Se_fill) (L0 := [.ref a, .int x1, uV, uV]) rfl rfl rfl ?_
  intro d hd
  unfold f_Se_fill
  refine ge_run (pc' := 1) (L' := [.ref a, .int x1, uV, uV]) (S' := [.ref a]) 1 rfl ?_
  refine ge_getR (b := (a + 11)) rfl (sT0 s ha) rfl (sR2 s ha) (sge ha) ?_
  refine ge_run (pc' := 3) (L' := [.ref a, .int x1, uV, uV]) (S' := [.int x1, .ref (a + 11)]) 1 rfl ?_
  refine ge_grd (fun g_1 g_2 => ?_)
  refine ge_aald (jn := (ix x1)) (b := (a + 12 + (ix x1))) rfl (sT11 s ha) (Or.inl rfl) ⟨g_1, rfl⟩ g_2 (sRr_boat s ha g_2) (sge2 ha) ?_
  refine ge_run (pc' := 5) (L' := [.ref a, .int x1, uV, uV]) (S' := [.int (2 : Int32), .ref (a + 12 + (ix x1))]) 1 rfl ?_
  refine ge_iald (jn := 2) rfl (sRow_boat s ha g_2) lk2 (by decide) ?_
  refine ge_run (pc' := 8) (L' := [.ref a, .int x1, uV, uV]) (S' := [.int x1, .ref a, .int (i (a + 12 + (ix x1)) 2)]) 2 rfl ?_
  refine ge_cv rfl rfl rfl (sT0 s ha) rfl rfl rfl (D := 1) (Nat.le_trans (by decide) hd) (c_Se_aboard (n := n) (u := u) (t := t) (i := i) (r := r) s a ha x1) ?_
  rintro v_3 -
  dsimp only [bkE, F_i0]
  refine ge_cs rfl rfl rfl rfl rfl rfl (D := 1) (Nat.le_trans (by decide) hd) (c_J_bitCount (n := n) (u := u) (t := t) (i := i) (r := r) s v_3) ?_
  rintro v_4 -
  dsimp only [bkE, F_i0]
  refine ge_run (pc' := 14) (L' := [.ref a, .int x1, .int ((i (a + 12 + (ix x1)) 2) - v_4), .int (0 : Int32)]) (S' := []) 4 rfl ?_
  refine ge_bind (K1 := fun (q : MI) e => ∃ w_9 w_10 : Value, e = .inl (63, [.ref a, .int x1, w_9, w_10], [], (n, u, t, q, r))) (ge_itr (C := fun (q : Int32 × Int32 × MI) e => e = .inl (14, [.ref a, .int x1, .int q.1, .int q.2.1], [], (n, u, t, q.2.2, r))) ?_ _ _ _ rfl) ?_
  · rintro ⟨x2_5, x3_6, i_7⟩ _ rfl
    try dsimp only
    refine ge_run (pc' := 16) (L' := [.ref a, .int x1, .int x2_5, .int x3_6]) (S' := [.ref a, .int x3_6]) 2 rfl ?_
    refine ge_getI rfl (sT0 s ha) rfl ?_
    refine ge_ge rfl (fun h_11 => ?_) (fun h_26 => ?_)
    · refine ge_run (pc' := 19) (L' := [.ref a, .int x1, .int x2_5, .int x3_6]) (S' := [.int x2_5]) 1 rfl ?_
      refine ge_le0 rfl (fun h_12 => ?_) (fun h_25 => ?_)
      · refine ge_run (pc' := 21) (L' := [.ref a, .int x1, .int x2_5, .int x3_6]) (S' := [.ref a]) 1 rfl ?_
        refine ge_getR (b := (a + 2)) rfl (sT0 s ha) rfl (sR1 s ha) (sge ha) ?_
        refine ge_run (pc' := 23) (L' := [.ref a, .int x1, .int x2_5, .int x3_6]) (S' := [.int x3_6, .ref (a + 2)]) 1 rfl ?_
        refine ge_grd (fun g_13 g_14 => ?_)
        refine ge_aald (jn := (ix x3_6)) (b := (a + 3 + (ix x3_6))) rfl (sT2 s ha) (Or.inl rfl) ⟨g_13, rfl⟩ g_14 (sRr_fish s ha g_14) (sge2 ha) ?_
        refine ge_run (pc' := 25) (L' := [.ref a, .int x1, .int x2_5, .int x3_6]) (S' := [.int (3 : Int32), .ref (a + 3 + (ix x3_6))]) 1 rfl ?_
        refine ge_iald (jn := 3) rfl (sRow_fish s ha g_14) lk3 (by decide) ?_
        refine ge_bind (K1 := fun (q : Int32 × MI) e => e = .inl (61, [.ref a, .int x1, .int q.1, .int x3_6], [], (n, u, t, q.2, r))) ?_ ?_
        · refine ge_ne0 rfl (fun h_17 => ?_) (fun h_24 => ?_)
          · refine ge_run (pc' := 28) (L' := [.ref a, .int x1, .int x2_5, .int x3_6]) (S' := [.ref a]) 1 rfl ?_
            refine ge_getR (b := (a + 2)) rfl (sT0 s ha) rfl (sR1 s ha) (sge ha) ?_
            refine ge_run (pc' := 30) (L' := [.ref a, .int x1, .int x2_5, .int x3_6]) (S' := [.int x3_6, .ref (a + 2)]) 1 rfl ?_
            refine ge_aald (jn := (ix x3_6)) (b := (a + 3 + (ix x3_6))) rfl (sT2 s ha) (Or.inl rfl) ⟨g_13, rfl⟩ g_14 (sRr_fish s ha g_14) (sge2 ha) ?_
            refine ge_run (pc' := 32) (L' := [.ref a, .int x1, .int x2_5, .int x3_6]) (S' := [.int (4 : Int32), .ref (a + 3 + (ix x3_6))]) 1 rfl ?_
            refine ge_iald (jn := 4) rfl (sRow_fish s ha g_14) lk4 (by decide) ?_
            refine ge_run (pc' := 34) (L' := [.ref a, .int x1, .int x2_5, .int x3_6]) (S' := [.ref a, .int (i_7 (a + 3 + (ix x3_6)) 4)]) 1 rfl ?_
            refine ge_getR (b := (a + 11)) rfl (sT0 s ha) rfl (sR2 s ha) (sge ha) ?_
            refine ge_run (pc' := 36) (L' := [.ref a, .int x1, .int x2_5, .int x3_6]) (S' := [.int x1, .ref (a + 11), .int (i_7 (a + 3 + (ix x3_6)) 4)]) 1 rfl ?_
            refine ge_grd (fun g_18 g_19 => ?_)
            refine ge_aald (jn := (ix x1)) (b := (a + 12 + (ix x1))) rfl (sT11 s ha) (Or.inl rfl) ⟨g_18, rfl⟩ g_19 (sRr_boat s ha g_19) (sge2 ha) ?_
            refine ge_run (pc' := 38) (L' := [.ref a, .int x1, .int x2_5, .int x3_6]) (S' := [.int (0 : Int32), .ref (a + 12 + (ix x1)), .int (i_7 (a + 3 + (ix x3_6)) 4)]) 1 rfl ?_
            refine ge_iald (jn := 0) rfl (sRow_boat s ha g_19) lk0 (by decide) ?_
            refine ge_ne rfl (fun h_20 => ?_) (fun h_23 => ?_)
            · refine ge_run (pc' := 45) (L' := [.ref a, .int x1, .int x2_5, .int x3_6]) (S' := [.int x1, .int (-1 : Int32), .int (1 : Int32), .int x3_6, .ref a]) 5 rfl ?_
              refine ge_cv rfl rfl rfl (sT0 s ha) rfl rfl rfl (D := 1) (Nat.le_trans (by decide) hd) (c_Se_put (n := n) (u := u) (t := t) (i := i_7) (r := r) s a ha x3_6 (1 : Int32) (-1 : Int32) x1) ?_
              rintro i_21 -
              dsimp only [bkE, F_v1]
              refine ge_run (pc' := 47) (L' := [.ref a, .int x1, .int x2_5, .int x3_6]) (S' := [.ref a]) 1 rfl ?_
              refine ge_getR (b := (a + 28)) rfl (sT0 s ha) rfl (sR5 s ha) (sge ha) ?_
              refine ge_run (pc' := 49) (L' := [.ref a, .int x1, .int x2_5, .int x3_6]) (S' := [.ref a, .ref (a + 28)]) 1 rfl ?_
              refine ge_getI rfl (sT0 s ha) rfl ?_
              refine ge_run (pc' := 54) (L' := [.ref a, .int x1, .int x2_5, .int x3_6]) (S' := [.ref a, .int x1, .int (0 : Int32), .int x3_6, .int (i_21 a 14), .ref (a + 28)]) 4 rfl ?_
              refine ge_getR (b := (a + 2)) rfl (sT0 s ha) rfl (sR1 s ha) (sge ha) ?_
              refine ge_run (pc' := 56) (L' := [.ref a, .int x1, .int x2_5, .int x3_6]) (S' := [.int x3_6, .ref (a + 2), .int x1, .int (0 : Int32), .int x3_6, .int (i_21 a 14), .ref (a + 28)]) 1 rfl ?_
              refine ge_aald (jn := (ix x3_6)) (b := (a + 3 + (ix x3_6))) rfl (sT2 s ha) (Or.inl rfl) ⟨g_13, rfl⟩ g_14 (sRr_fish s ha g_14) (sge2 ha) ?_
              refine ge_run (pc' := 58) (L' := [.ref a, .int x1, .int x2_5, .int x3_6]) (S' := [.int (2 : Int32), .ref (a + 3 + (ix x3_6)), .int x1, .int (0 : Int32), .int x3_6, .int (i_21 a 14), .ref (a + 28)]) 1 rfl ?_
              refine ge_iald (jn := 2) rfl (sRow_fish s ha g_14) lk2 (by decide) ?_
              refine ge_cv rfl rfl rfl (sT28 s ha) rfl rfl rfl (D := 2) (Nat.le_trans (by decide) hd) (c_Lo_add (n := n) (u := u) (t := t) (i := i_21) (r := r) s a ha (i_21 a 14) x3_6 (0 : Int32) x1 (i_21 (a + 3 + (ix x3_6)) 2)) ?_
              rintro i_22 -
              dsimp only [bkE, F_v1]
              refine ge_run (pc' := 61) (L' := [.ref a, .int x1, .int (x2_5 + (-1 : Int32)), .int x3_6]) (S' := []) 1 rfl ?_
              exact ge_leaf rfl
            · exact ge_leaf rfl
          · exact ge_leaf rfl
        · rintro ⟨x2_15, i_16⟩ _ rfl
          try dsimp only
          refine ge_run (pc' := 14) (L' := [.ref a, .int x1, .int x2_15, .int (x3_6 + (1 : Int32))]) (S' := []) 2 rfl ?_
          exact ge_leaf (K := kX _ _) rfl
      · exact ge_leaf (K := kX _ _) (Exists.intro _ (Exists.intro _ rfl))
    · exact ge_leaf (K := kX _ _) (Exists.intro _ (Exists.intro _ rfl))
  · rintro i_8 _ ⟨w_9, w_10, rfl⟩
    try dsimp only
    exact ge_retv rfl rfl (And.intro rfl trivial)
def f_Se_unload (i : MI) (a : Nat) (x1 : Int32) : Option (MI) :=
  grd x1 3 (if (i (a + 12 + (ix x1)) 0) = 0 then ((itr (σ := Int32 × MI) (ρ := MI) (fun (x2_4, i_5) => if x2_4 < (i_5 a 7) then (grd x2_4 8 ((if (i_5 (a + 3 + (ix x2_4)) 3) = (1 : Int32) then (if (i_5 (a + 3 + (ix x2_4)) 5) = x1 then ((f_Se_put i_5 a x2_4 (2 : Int32) (-1 : Int32) (-1 : Int32)).bind (fun i_14 => some i_14)) else (some i_5)) else (some i_5) : Option (MI)).bind (fun i_11 => some (.inl ((x2_4 + (1 : Int32)), i_11))))) else (some (.inr i_5))) 1000000 ((0 : Int32), i)).bind (fun i_6 => some i_6)) else (some i))
set_option maxHeartbeats 4000000 in
theorem c_Se_unload {n u : Nat} {t : MT} {i : MI} {r : MR} (s : Sh n t r) (a : Nat) (ha : SeaAd a) (x1 : Int32) : Cn 2 72 [.ref a, .int x1] (n, u, t, i, r) (f_Se_unload i a x1) (F_v1 n u t r) PT := by
  refine cn_of (Y := K_Se_unload) (L0 := [.ref a, .int x1, uV]) rfl rfl rfl ?_
  intro d hd
  unfold f_Se_unload
  refine ge_run (pc' := 1) (L' := [.ref a, .int x1, uV]) (S' := [.ref a]) 1 rfl ?_
  refine ge_getR (b := (a + 11)) rfl (sT0 s ha) rfl (sR2 s ha) (sge ha) ?_
  refine ge_run (pc' := 3) (L' := [.ref a, .int x1, uV]) (S' := [.int x1, .ref (a + 11)]) 1 rfl ?_
  refine ge_grd (fun g_1 g_2 => ?_)
  refine ge_aald (jn := (ix x1)) (b := (a + 12 + (ix x1))) rfl (sT11 s ha) (Or.inl rfl) ⟨g_1, rfl⟩ g_2 (sRr_boat s ha g_2) (sge2 ha) ?_
  refine ge_run (pc' := 5) (L' := [.ref a, .int x1, uV]) (S' := [.int (0 : Int32), .ref (a + 12 + (ix x1))]) 1 rfl ?_
  refine ge_iald (jn := 0) rfl (sRow_boat s ha g_2) lk0 (by decide) ?_
  refine ge_eq0 rfl (fun h_3 => ?_) (fun h_18 => ?_)
  · refine ge_run (pc' := 10) (L' := [.ref a, .int x1, .int (0 : Int32)]) (S' := []) 2 rfl ?_
    refine ge_bind (K1 := fun (q : MI) e => ∃ w_7 : Value, e = .inl (38, [.ref a, .int x1, w_7], [], (n, u, t, q, r))) (ge_itr (C := fun (q : Int32 × MI) e => e = .inl (10, [.ref a, .int x1, .int q.1], [], (n, u, t, q.2, r))) ?_ _ _ _ rfl) ?_
    · rintro ⟨x2_4, i_5⟩ _ rfl
      try dsimp only
      refine ge_run (pc' := 12) (L' := [.ref a, .int x1, .int x2_4]) (S' := [.ref a, .int x2_4]) 2 rfl ?_
      refine ge_getI rfl (sT0 s ha) rfl ?_
      refine ge_ge rfl (fun h_8 => ?_) (fun h_17 => ?_)
      · refine ge_run (pc' := 15) (L' := [.ref a, .int x1, .int x2_4]) (S' := [.ref a]) 1 rfl ?_
        refine ge_getR (b := (a + 2)) rfl (sT0 s ha) rfl (sR1 s ha) (sge ha) ?_
        refine ge_run (pc' := 17) (L' := [.ref a, .int x1, .int x2_4]) (S' := [.int x2_4, .ref (a + 2)]) 1 rfl ?_
        refine ge_grd (fun g_9 g_10 => ?_)
        refine ge_aald (jn := (ix x2_4)) (b := (a + 3 + (ix x2_4))) rfl (sT2 s ha) (Or.inl rfl) ⟨g_9, rfl⟩ g_10 (sRr_fish s ha g_10) (sge2 ha) ?_
        refine ge_run (pc' := 19) (L' := [.ref a, .int x1, .int x2_4]) (S' := [.int (3 : Int32), .ref (a + 3 + (ix x2_4))]) 1 rfl ?_
        refine ge_iald (jn := 3) rfl (sRow_fish s ha g_10) lk3 (by decide) ?_
        refine ge_run (pc' := 21) (L' := [.ref a, .int x1, .int x2_4]) (S' := [.int (1 : Int32), .int (i_5 (a + 3 + (ix x2_4)) 3)]) 1 rfl ?_
        refine ge_bind (K1 := fun (q : MI) e => e = .inl (36, [.ref a, .int x1, .int x2_4], [], (n, u, t, q, r))) ?_ ?_
        · refine ge_ne rfl (fun h_12 => ?_) (fun h_16 => ?_)
          · refine ge_run (pc' := 23) (L' := [.ref a, .int x1, .int x2_4]) (S' := [.ref a]) 1 rfl ?_
            refine ge_getR (b := (a + 2)) rfl (sT0 s ha) rfl (sR1 s ha) (sge ha) ?_
            refine ge_run (pc' := 25) (L' := [.ref a, .int x1, .int x2_4]) (S' := [.int x2_4, .ref (a + 2)]) 1 rfl ?_
            refine ge_aald (jn := (ix x2_4)) (b := (a + 3 + (ix x2_4))) rfl (sT2 s ha) (Or.inl rfl) ⟨g_9, rfl⟩ g_10 (sRr_fish s ha g_10) (sge2 ha) ?_
            refine ge_run (pc' := 27) (L' := [.ref a, .int x1, .int x2_4]) (S' := [.int (5 : Int32), .ref (a + 3 + (ix x2_4))]) 1 rfl ?_
            refine ge_iald (jn := 5) rfl (sRow_fish s ha g_10) lk5 (by decide) ?_
            refine ge_run (pc' := 29) (L' := [.ref a, .int x1, .int x2_4]) (S' := [.int x1, .int (i_5 (a + 3 + (ix x2_4)) 5)]) 1 rfl ?_
            refine ge_ne rfl (fun h_13 => ?_) (fun h_15 => ?_)
            · refine ge_run (pc' := 35) (L' := [.ref a, .int x1, .int x2_4]) (S' := [.int (-1 : Int32), .int (-1 : Int32), .int (2 : Int32), .int x2_4, .ref a]) 5 rfl ?_
              refine ge_cv rfl rfl rfl (sT0 s ha) rfl rfl rfl (D := 1) (Nat.le_trans (by decide) hd) (c_Se_put (n := n) (u := u) (t := t) (i := i_5) (r := r) s a ha x2_4 (2 : Int32) (-1 : Int32) (-1 : Int32)) ?_
              rintro i_14 -
              dsimp only [bkE, F_v1]
              exact ge_leaf rfl
            · exact ge_leaf rfl
          · exact ge_leaf rfl
        · rintro i_11 _ rfl
          try dsimp only
          refine ge_run (pc' := 10) (L' := [.ref a, .int x1, .int (x2_4 + (1 : Int32))]) (S' := []) 2 rfl ?_
          exact ge_leaf (K := kX _ _) rfl
      · exact ge_leaf (K := kX _ _) (Exists.intro _ rfl)
    · rintro i_6 _ ⟨w_7, rfl⟩
      try dsimp only
      exact ge_retv rfl rfl (And.intro rfl trivial)
  · exact ge_retv rfl rfl (And.intro rfl trivial)
def f_Se_isDead (i : MI) (a : Nat) (x1 : Int32) : Option (Int32) :=
  grd x1 8 (if (i (a + 3 + (ix x1)) 3) = (1 : Int32) then (some ((1 : Int32))) else (if (i (a + 3 + (ix x1)) 3) = (2 : Int32) then (some ((1 : Int32))) else (some ((0 : Int32)))))
set_option maxHeartbeats 4000000 in
theorem c_Se_isDead {n u : Nat} {t : MT} {i : MI} {r : MR} (s : Sh n t r) (a : Nat) (ha : SeaAd a) (x1 : Int32) : Cn 1 74 [.ref a, .int x1] (n, u, t, i, r) (f_Se_isDead i a x1) (F_i0 n u t i r) PT := by
  refine cn_of (Y := K_Se_isDead) (L0 := [.ref a, .int x1]) rfl rfl rfl ?_
  intro d hd
  unfold f_Se_isDead
  refine ge_run (pc' := 1) (L' := [.ref a, .int x1]) (S' := [.ref a]) 1 rfl ?_
  refine ge_getR (b := (a + 2)) rfl (sT0 s ha) rfl (sR1 s ha) (sge ha) ?_
  refine ge_run (pc' := 3) (L' := [.ref a, .int x1]) (S' := [.int x1, .ref (a + 2)]) 1 rfl ?_
  refine ge_grd (fun g_1 g_2 => ?_)
  refine ge_aald (jn := (ix x1)) (b := (a + 3 + (ix x1))) rfl (sT2 s ha) (Or.inl rfl) ⟨g_1, rfl⟩ g_2 (sRr_fish s ha g_2) (sge2 ha) ?_
  refine ge_run (pc' := 5) (L' := [.ref a, .int x1]) (S' := [.int (3 : Int32), .ref (a + 3 + (ix x1))]) 1 rfl ?_
  refine ge_iald (jn := 3) rfl (sRow_fish s ha g_2) lk3 (by decide) ?_
  refine ge_run (pc' := 7) (L' := [.ref a, .int x1]) (S' := [.int (1 : Int32), .int (i (a + 3 + (ix x1)) 3)]) 1 rfl ?_
  refine ge_eq rfl (fun h_3 => ?_) (fun h_4 => ?_)
  · refine ge_run (pc' := 19) (L' := [.ref a, .int x1]) (S' := [.int (1 : Int32)]) 2 rfl ?_
    exact ge_retz rfl rfl (Or.inr rfl) (And.intro rfl trivial)
  · refine ge_run (pc' := 9) (L' := [.ref a, .int x1]) (S' := [.ref a]) 1 rfl ?_
    refine ge_getR (b := (a + 2)) rfl (sT0 s ha) rfl (sR1 s ha) (sge ha) ?_
    refine ge_run (pc' := 11) (L' := [.ref a, .int x1]) (S' := [.int x1, .ref (a + 2)]) 1 rfl ?_
    refine ge_aald (jn := (ix x1)) (b := (a + 3 + (ix x1))) rfl (sT2 s ha) (Or.inl rfl) ⟨g_1, rfl⟩ g_2 (sRr_fish s ha g_2) (sge2 ha) ?_
    refine ge_run (pc' := 13) (L' := [.ref a, .int x1]) (S' := [.int (3 : Int32), .ref (a + 3 + (ix x1))]) 1 rfl ?_
    refine ge_iald (jn := 3) rfl (sRow_fish s ha g_2) lk3 (by decide) ?_
    refine ge_run (pc' := 15) (L' := [.ref a, .int x1]) (S' := [.int (2 : Int32), .int (i (a + 3 + (ix x1)) 3)]) 1 rfl ?_
    refine ge_ne rfl (fun h_5 => ?_) (fun h_6 => ?_)
    · refine ge_run (pc' := 19) (L' := [.ref a, .int x1]) (S' := [.int (1 : Int32)]) 2 rfl ?_
      exact ge_retz rfl rfl (Or.inr rfl) (And.intro rfl trivial)
    · refine ge_run (pc' := 19) (L' := [.ref a, .int x1]) (S' := [.int (0 : Int32)]) 1 rfl ?_
      exact ge_retz rfl rfl (Or.inl rfl) (And.intro rfl trivial)
def f_Se_turn (i : MI) (a : Nat) (x1 : Int32) : Option (MI) :=
  grd x1 8 ((f_J_max (0 : Int32) ((i (a + 3 + (ix x1)) 2) - (i (a + 30) (ix x1)))).bind (fun v_3 => bnd (wr i (a + 3 + (ix x1)) 2 v_3) (fun i_4 => if (i_4 (a + 3 + (ix x1)) 2) = 0 then ((f_Se_put i_4 a x1 (3 : Int32) (-1 : Int32) (-1 : Int32)).bind (fun i_6 => (f_Lo_add i_6 a (i_6 a 14) x1 (1 : Int32) (-1 : Int32) (0 : Int32)).bind (fun i_7 => some i_7))) else (some i_4))))
set_option maxHeartbeats 4000000 in
theorem c_Se_turn {n u : Nat} {t : MT} {i : MI} {r : MR} (s : Sh n t r) (a : Nat) (ha : SeaAd a) (x1 : Int32) : Cn 3 75 [.ref a, .int x1] (n, u, t, i, r) (f_Se_turn i a x1) (F_v1 n u t r) PT := by
  refine cn_of (Y := K_Se_turn) (L0 := [.ref a, .int x1]) rfl rfl rfl ?_
  intro d hd
  unfold f_Se_turn
  refine ge_run (pc' := 1) (L' := [.ref a, .int x1]) (S' := [.ref a]) 1 rfl ?_
  refine ge_getR (b := (a + 2)) rfl (sT0 s ha) rfl (sR1 s ha) (sge ha) ?_
  refine ge_run (pc' := 3) (L' := [.ref a, .int x1]) (S' := [.int x1, .ref (a + 2)]) 1 rfl ?_
  refine ge_grd (fun g_1 g_2 => ?_)
  refine ge_aald (jn := (ix x1)) (b := (a + 3 + (ix x1))) rfl (sT2 s ha) (Or.inl rfl) ⟨g_1, rfl⟩ g_2 (sRr_fish s ha g_2) (sge2 ha) ?_
  refine ge_run (pc' := 7) (L' := [.ref a, .int x1]) (S' := [.ref a, .int (0 : Int32), .int (2 : Int32), .ref (a + 3 + (ix x1))]) 3 rfl ?_
  refine ge_getR (b := (a + 2)) rfl (sT0 s ha) rfl (sR1 s ha) (sge ha) ?_
  refine ge_run (pc' := 9) (L' := [.ref a, .int x1]) (S' := [.int x1, .ref (a + 2), .int (0 : Int32), .int (2 : Int32), .ref (a + 3 + (ix x1))]) 1 rfl ?_
  refine ge_aald (jn := (ix x1)) (b := (a + 3 + (ix x1))) rfl (sT2 s ha) (Or.inl rfl) ⟨g_1, rfl⟩ g_2 (sRr_fish s ha g_2) (sge2 ha) ?_
  refine ge_run (pc' := 11) (L' := [.ref a, .int x1]) (S' := [.int (2 : Int32), .ref (a + 3 + (ix x1)), .int (0 : Int32), .int (2 : Int32), .ref (a + 3 + (ix x1))]) 1 rfl ?_
  refine ge_iald (jn := 2) rfl (sRow_fish s ha g_2) lk2 (by decide) ?_
  refine ge_run (pc' := 13) (L' := [.ref a, .int x1]) (S' := [.ref a, .int (i (a + 3 + (ix x1)) 2), .int (0 : Int32), .int (2 : Int32), .ref (a + 3 + (ix x1))]) 1 rfl ?_
  refine ge_getR (b := (a + 30)) rfl (sT0 s ha) rfl (sR6 s ha) (sge ha) ?_
  refine ge_run (pc' := 15) (L' := [.ref a, .int x1]) (S' := [.int x1, .ref (a + 30), .int (i (a + 3 + (ix x1)) 2), .int (0 : Int32), .int (2 : Int32), .ref (a + 3 + (ix x1))]) 1 rfl ?_
  refine ge_iald (jn := (ix x1)) rfl (sT30 s ha) ⟨g_1, rfl⟩ g_2 ?_
  refine ge_run (pc' := 17) (L' := [.ref a, .int x1]) (S' := [.int ((i (a + 3 + (ix x1)) 2) - (i (a + 30) (ix x1))), .int (0 : Int32), .int (2 : Int32), .ref (a + 3 + (ix x1))]) 1 rfl ?_
  refine ge_cs rfl rfl rfl rfl rfl rfl (D := 1) (Nat.le_trans (by decide) hd) (c_J_max (n := n) (u := u) (t := t) (i := i) (r := r) s (0 : Int32) ((i (a + 3 + (ix x1)) 2) - (i (a + 30) (ix x1)))) ?_
  rintro v_3 -
  dsimp only [bkE, F_i0]
  refine ge_iast (jn := 2) rfl (sRow_fish s ha g_2) (sge2 ha) lk2 (by decide) (fun i_4 => ?_)
  refine ge_run (pc' := 20) (L' := [.ref a, .int x1]) (S' := [.ref a]) 1 rfl ?_
  refine ge_getR (b := (a + 2)) rfl (sT0 s ha) rfl (sR1 s ha) (sge ha) ?_
  refine ge_run (pc' := 22) (L' := [.ref a, .int x1]) (S' := [.int x1, .ref (a + 2)]) 1 rfl ?_
  refine ge_aald (jn := (ix x1)) (b := (a + 3 + (ix x1))) rfl (sT2 s ha) (Or.inl rfl) ⟨g_1, rfl⟩ g_2 (sRr_fish s ha g_2) (sge2 ha) ?_
  refine ge_run (pc' := 24) (L' := [.ref a, .int x1]) (S' := [.int (2 : Int32), .ref (a + 3 + (ix x1))]) 1 rfl ?_
  refine ge_iald (jn := 2) rfl (sRow_fish s ha g_2) lk2 (by decide) ?_
  refine ge_ne0 rfl (fun h_5 => ?_) (fun h_8 => ?_)
  · refine ge_run (pc' := 31) (L' := [.ref a, .int x1]) (S' := [.int (-1 : Int32), .int (-1 : Int32), .int (3 : Int32), .int x1, .ref a]) 5 rfl ?_
    refine ge_cv rfl rfl rfl (sT0 s ha) rfl rfl rfl (D := 1) (Nat.le_trans (by decide) hd) (c_Se_put (n := n) (u := u) (t := t) (i := i_4) (r := r) s a ha x1 (3 : Int32) (-1 : Int32) (-1 : Int32)) ?_
    rintro i_6 -
    dsimp only [bkE, F_v1]
    refine ge_run (pc' := 33) (L' := [.ref a, .int x1]) (S' := [.ref a]) 1 rfl ?_
    refine ge_getR (b := (a + 28)) rfl (sT0 s ha) rfl (sR5 s ha) (sge ha) ?_
    refine ge_run (pc' := 35) (L' := [.ref a, .int x1]) (S' := [.ref a, .ref (a + 28)]) 1 rfl ?_
    refine ge_getI rfl (sT0 s ha) rfl ?_
    refine ge_run (pc' := 40) (L' := [.ref a, .int x1]) (S' := [.int (0 : Int32), .int (-1 : Int32), .int (1 : Int32), .int x1, .int (i_6 a 14), .ref (a + 28)]) 4 rfl ?_
    refine ge_cv rfl rfl rfl (sT28 s ha) rfl rfl rfl (D := 2) (Nat.le_trans (by decide) hd) (c_Lo_add (n := n) (u := u) (t := t) (i := i_6) (r := r) s a ha (i_6 a 14) x1 (1 : Int32) (-1 : Int32) (0 : Int32)) ?_
    rintro i_7 -
    dsimp only [bkE, F_v1]
    exact ge_retv rfl rfl (And.intro rfl trivial)
  · exact ge_retv rfl rfl (And.intro rfl trivial)
def f_Se_turnAll (t : MT) (r : MR) (i : MI) (a : Nat) : Option (MI) :=
  (itr (σ := Int32 × MI) (ρ := MI) (fun (x1_1, i_2) => if x1_1 < (i_2 a 7) then ((f_Se_isDead i_2 a x1_1).bind (fun v_6 => (if v_6 = 0 then (some ((0 : Int32), i_2)) else ((f_Se_turnsBy t r i_2 a x1_1).bind (fun (v_11, i_12) => some (v_11, i_12))) : Option (Int32 × MI)).bind (fun (y_7, i_8) => grd x1_1 8 (bnd (wr i_8 (a + 30) (ix x1_1) y_7) (fun i_15 => some (.inl ((x1_1 + (1 : Int32)), i_15))))))) else (some (.inr i_2))) 1000000 ((0 : Int32), i)).bind (fun i_3 => (itr (σ := Int32 × MI) (ρ := MI) (fun (x1_17, i_18) => if x1_17 < (i_18 a 7) then ((f_Se_isDead i_18 a x1_17).bind (fun v_22 => (if v_22 = 0 then (some i_18) else ((f_Se_turn i_18 a x1_17).bind (fun i_26 => some i_26)) : Option (MI)).bind (fun i_23 => some (.inl ((x1_17 + (1 : Int32)), i_23))))) else (some (.inr i_18))) 1000000 ((0 : Int32), i_3)).bind (fun i_19 => some i_19))
set_option maxHeartbeats 4000000 in
theorem c_Se_turnAll {n u : Nat} {t : MT} {i : MI} {r : MR} (s : Sh n t r) (a : Nat) (ha : SeaAd a) : Cn 4 73 [.ref a] (n, u, t, i, r) (f_Se_turnAll t r i a) (F_v1 n u t r) PT := by
  refine cn_of (Y := K_Se_turnAll) (L0 := [.ref a, uV]) rfl rfl rfl ?_
  intro d hd
  unfold f_Se_turnAll
  refine ge_run (pc' := 2) (L' := [.ref a, .int (0 : Int32)]) (S' := []) 2 rfl ?_
  refine ge_bind (K1 := fun (q : MI) e => ∃ w_4 : Value, e = .inl (21, [.ref a, w_4], [], (n, u, t, q, r))) (ge_itr (C := fun (q : Int32 × MI) e => e = .inl (2, [.ref a, .int q.1], [], (n, u, t, q.2, r))) ?_ _ _ _ rfl) ?_
  · rintro ⟨x1_1, i_2⟩ _ rfl
    try dsimp only
    refine ge_run (pc' := 4) (L' := [.ref a, .int x1_1]) (S' := [.ref a, .int x1_1]) 2 rfl ?_
    refine ge_getI rfl (sT0 s ha) rfl ?_
    refine ge_ge rfl (fun h_5 => ?_) (fun h_16 => ?_)
    · refine ge_run (pc' := 7) (L' := [.ref a, .int x1_1]) (S' := [.ref a]) 1 rfl ?_
      refine ge_getR (b := (a + 30)) rfl (sT0 s ha) rfl (sR6 s ha) (sge ha) ?_
      refine ge_run (pc' := 11) (L' := [.ref a, .int x1_1]) (S' := [.int x1_1, .ref a, .int x1_1, .ref (a + 30)]) 3 rfl ?_
      refine ge_cv rfl rfl rfl (sT0 s ha) rfl rfl rfl (D := 1) (Nat.le_trans (by decide) hd) (c_Se_isDead (n := n) (u := u) (t := t) (i := i_2) (r := r) s a ha x1_1) ?_
      rintro v_6 -
      dsimp only [bkE, F_i0]
      refine ge_bind (K1 := fun (q : Int32 × MI) e => e = .inl (18, [.ref a, .int x1_1], [.int q.1, .int x1_1, .ref (a + 30)], (n, u, t, q.2, r))) ?_ ?_
      · refine ge_eq0 rfl (fun h_9 => ?_) (fun h_10 => ?_)
        · refine ge_run (pc' := 18) (L' := [.ref a, .int x1_1]) (S' := [.int (0 : Int32), .int x1_1, .ref (a + 30)]) 1 rfl ?_
          exact ge_leaf rfl
        · refine ge_run (pc' := 15) (L' := [.ref a, .int x1_1]) (S' := [.int x1_1, .ref a, .int x1_1, .ref (a + 30)]) 2 rfl ?_
          refine ge_cv rfl rfl rfl (sT0 s ha) rfl rfl rfl (D := 3) (Nat.le_trans (by decide) hd) (c_Se_turnsBy (n := n) (u := u) (t := t) (i := i_2) (r := r) s a ha x1_1) ?_
          rintro ⟨v_11, i_12⟩ -
          dsimp only [bkE, F_i1]
          refine ge_run (pc' := 18) (L' := [.ref a, .int x1_1]) (S' := [.int v_11, .int x1_1, .ref (a + 30)]) 1 rfl ?_
          exact ge_leaf rfl
      · rintro ⟨y_7, i_8⟩ _ rfl
        try dsimp only
        refine ge_grd (fun g_13 g_14 => ?_)
        refine ge_iast (jn := (ix x1_1)) rfl (sT30 s ha) (sge ha) ⟨g_13, rfl⟩ g_14 (fun i_15 => ?_)
        refine ge_run (pc' := 2) (L' := [.ref a, .int (x1_1 + (1 : Int32))]) (S' := []) 2 rfl ?_
        exact ge_leaf (K := kX _ _) rfl
    · exact ge_leaf (K := kX _ _) (Exists.intro _ rfl)
  · rintro i_3 _ ⟨w_4, rfl⟩
    try dsimp only
    refine ge_run (pc' := 23) (L' := [.ref a, .int (0 : Int32)]) (S' := []) 2 rfl ?_
    refine ge_bind (K1 := fun (q : MI) e => ∃ w_20 : Value, e = .inl (36, [.ref a, w_20], [], (n, u, t, q, r))) (ge_itr (C := fun (q : Int32 × MI) e => e = .inl (23, [.ref a, .int q.1], [], (n, u, t, q.2, r))) ?_ _ _ _ rfl) ?_
    · rintro ⟨x1_17, i_18⟩ _ rfl
      try dsimp only
      refine ge_run (pc' := 25) (L' := [.ref a, .int x1_17]) (S' := [.ref a, .int x1_17]) 2 rfl ?_
      refine ge_getI rfl (sT0 s ha) rfl ?_
      refine ge_ge rfl (fun h_21 => ?_) (fun h_27 => ?_)
      · refine ge_run (pc' := 29) (L' := [.ref a, .int x1_17]) (S' := [.int x1_17, .ref a]) 2 rfl ?_
        refine ge_cv rfl rfl rfl (sT0 s ha) rfl rfl rfl (D := 1) (Nat.le_trans (by decide) hd) (c_Se_isDead (n := n) (u := u) (t := t) (i := i_18) (r := r) s a ha x1_17) ?_
        rintro v_22 -
        dsimp only [bkE, F_i0]
        refine ge_bind (K1 := fun (q : MI) e => e = .inl (34, [.ref a, .int x1_17], [], (n, u, t, q, r))) ?_ ?_
        · refine ge_eq0 rfl (fun h_24 => ?_) (fun h_25 => ?_)
          · exact ge_leaf rfl
          · refine ge_run (pc' := 33) (L' := [.ref a, .int x1_17]) (S' := [.int x1_17, .ref a]) 2 rfl ?_
            refine ge_cv rfl rfl rfl (sT0 s ha) rfl rfl rfl (D := 3) (Nat.le_trans (by decide) hd) (c_Se_turn (n := n) (u := u) (t := t) (i := i_18) (r := r) s a ha x1_17) ?_
            rintro i_26 -
            dsimp only [bkE, F_v1]
            exact ge_leaf rfl
        · rintro i_23 _ rfl
          try dsimp only
          refine ge_run (pc' := 23) (L' := [.ref a, .int (x1_17 + (1 : Int32))]) (S' := []) 2 rfl ?_
          exact ge_leaf (K := kX _ _) rfl
      · exact ge_leaf (K := kX _ _) (Exists.intro _ rfl)
    · rintro i_19 _ ⟨w_20, rfl⟩
      try dsimp only
      exact ge_retv rfl rfl (And.intro rfl trivial)
def f_Se_sellTo (i : MI) (a : Nat) (x1 : Int32) (x2 : Int32) (x3 : Int32) (x4 : Int32) : Option (MI) :=
  (f_Se_put i a x1 (3 : Int32) (-1 : Int32) (-1 : Int32)).bind (fun i_1 => grd x2 5 (bnd (wr i_1 (a + 16 + (ix x2)) 1 ((i_1 (a + 16 + (ix x2)) 1) - x3)) (fun i_4 => (f_J_min (9999 : Int32) ((i_4 a 13) + x3)).bind (fun v_5 => bnd (wr i_4 a 13 v_5) (fun i_6 => grd x1 8 ((f_Lo_add i_6 a (i_6 a 14) x1 x4 x2 (i_6 (a + 3 + (ix x1)) 2)).bind (fun i_9 => some i_9)))))))
set_option maxHeartbeats 4000000 in
theorem c_Se_sellTo {n u : Nat} {t : MT} {i : MI} {r : MR} (s : Sh n t r) (a : Nat) (ha : SeaAd a) (x1 : Int32) (x2 : Int32) (x3 : Int32) (x4 : Int32) : Cn 3 77 [.ref a, .int x1, .int x2, .int x3, .int x4] (n, u, t, i, r) (f_Se_sellTo i a x1 x2 x3 x4) (F_v1 n u t r) PT := by
  refine cn_of (Y := K_Se_sellTo) (L0 := [.ref a, .int x1, .int x2, .int x3, .int x4]) rfl rfl rfl ?_
  intro d hd
  unfold f_Se_sellTo
  refine ge_run (pc' := 5) (L' := [.ref a, .int x1, .int x2, .int x3, .int x4]) (S' := [.int (-1 : Int32), .int (-1 : Int32), .int (3 : Int32), .int x1, .ref a]) 5 rfl ?_
  refine ge_cv rfl rfl rfl (sT0 s ha) rfl rfl rfl (D := 1) (Nat.le_trans (by decide) hd) (c_Se_put (n := n) (u := u) (t := t) (i := i) (r := r) s a ha x1 (3 : Int32) (-1 : Int32) (-1 : Int32)) ?_
  rintro i_1 -
  dsimp only [bkE, F_v1]
  refine ge_run (pc' := 7) (L' := [.ref a, .int x1, .int x2, .int x3, .int x4]) (S' := [.ref a]) 1 rfl ?_
  refine ge_getR (b := (a + 15)) rfl (sT0 s ha) rfl (sR3 s ha) (sge ha) ?_
  refine ge_run (pc' := 9) (L' := [.ref a, .int x1, .int x2, .int x3, .int x4]) (S' := [.int x2, .ref (a + 15)]) 1 rfl ?_
  refine ge_grd (fun g_2 g_3 => ?_)
  refine ge_aald (jn := (ix x2)) (b := (a + 16 + (ix x2))) rfl (sT15 s ha) (Or.inl rfl) ⟨g_2, rfl⟩ g_3 (sRr_buyer s ha g_3) (sge2 ha) ?_
  refine ge_run (pc' := 12) (L' := [.ref a, .int x1, .int x2, .int x3, .int x4]) (S' := [.int (1 : Int32), .ref (a + 16 + (ix x2)), .int (1 : Int32), .ref (a + 16 + (ix x2))]) 2 rfl ?_
  refine ge_iald (jn := 1) rfl (sRow_buyer s ha g_3) lk1 (by decide) ?_
  refine ge_run (pc' := 15) (L' := [.ref a, .int x1, .int x2, .int x3, .int x4]) (S' := [.int ((i_1 (a + 16 + (ix x2)) 1) - x3), .int (1 : Int32), .ref (a + 16 + (ix x2))]) 2 rfl ?_
  refine ge_iast (jn := 1) rfl (sRow_buyer s ha g_3) (sge2 ha) lk1 (by decide) (fun i_4 => ?_)
  refine ge_run (pc' := 19) (L' := [.ref a, .int x1, .int x2, .int x3, .int x4]) (S' := [.ref a, .int (9999 : Int32), .ref a]) 3 rfl ?_
  refine ge_getI rfl (sT0 s ha) rfl ?_
  refine ge_run (pc' := 22) (L' := [.ref a, .int x1, .int x2, .int x3, .int x4]) (S' := [.int ((i_4 a 13) + x3), .int (9999 : Int32), .ref a]) 2 rfl ?_
  refine ge_cs rfl rfl rfl rfl rfl rfl (D := 1) (Nat.le_trans (by decide) hd) (c_J_min (n := n) (u := u) (t := t) (i := i_4) (r := r) s (9999 : Int32) ((i_4 a 13) + x3)) ?_
  rintro v_5 -
  dsimp only [bkE, F_i0]
  refine ge_putI rfl (sT0 s ha) (sge0 ha) rfl (fun i_6 => ?_)
  refine ge_run (pc' := 25) (L' := [.ref a, .int x1, .int x2, .int x3, .int x4]) (S' := [.ref a]) 1 rfl ?_
  refine ge_getR (b := (a + 28)) rfl (sT0 s ha) rfl (sR5 s ha) (sge ha) ?_
  refine ge_run (pc' := 27) (L' := [.ref a, .int x1, .int x2, .int x3, .int x4]) (S' := [.ref a, .ref (a + 28)]) 1 rfl ?_
  refine ge_getI rfl (sT0 s ha) rfl ?_
  refine ge_run (pc' := 32) (L' := [.ref a, .int x1, .int x2, .int x3, .int x4]) (S' := [.ref a, .int x2, .int x4, .int x1, .int (i_6 a 14), .ref (a + 28)]) 4 rfl ?_
  refine ge_getR (b := (a + 2)) rfl (sT0 s ha) rfl (sR1 s ha) (sge ha) ?_
  refine ge_run (pc' := 34) (L' := [.ref a, .int x1, .int x2, .int x3, .int x4]) (S' := [.int x1, .ref (a + 2), .int x2, .int x4, .int x1, .int (i_6 a 14), .ref (a + 28)]) 1 rfl ?_
  refine ge_grd (fun g_7 g_8 => ?_)
  refine ge_aald (jn := (ix x1)) (b := (a + 3 + (ix x1))) rfl (sT2 s ha) (Or.inl rfl) ⟨g_7, rfl⟩ g_8 (sRr_fish s ha g_8) (sge2 ha) ?_
  refine ge_run (pc' := 36) (L' := [.ref a, .int x1, .int x2, .int x3, .int x4]) (S' := [.int (2 : Int32), .ref (a + 3 + (ix x1)), .int x2, .int x4, .int x1, .int (i_6 a 14), .ref (a + 28)]) 1 rfl ?_
  refine ge_iald (jn := 2) rfl (sRow_fish s ha g_8) lk2 (by decide) ?_
  refine ge_cv rfl rfl rfl (sT28 s ha) rfl rfl rfl (D := 2) (Nat.le_trans (by decide) hd) (c_Lo_add (n := n) (u := u) (t := t) (i := i_6) (r := r) s a ha (i_6 a 14) x1 x4 x2 (i_6 (a + 3 + (ix x1)) 2)) ?_
  rintro i_9 -
  dsimp only [bkE, F_v1]
  exact ge_retv rfl rfl (And.intro rfl trivial)
def f_Se_draw (i : MI) (a : Nat) : Option (Int32 × MI) :=
  bnd (wr i a 15 (((1103515245 : Int32) * (i a 15)) + (12345 : Int32))) (fun i_1 => some (((ushr (i_1 a 15) (16 : Int32)) &&& (32767 : Int32)), i_1))
set_option maxHeartbeats 4000000 in
theorem c_Se_draw {n u : Nat} {t : MT} {i : MI} {r : MR} (s : Sh n t r) (a : Nat) (ha : SeaAd a) : Cn 1 78 [.ref a] (n, u, t, i, r) (f_Se_draw i a) (F_i1 n u t r) PT := by
  refine cn_of (Y := K_Se_draw) (L0 := [.ref a]) rfl rfl rfl ?_
  intro d hd
  unfold f_Se_draw
  refine ge_run (pc' := 3) (L' := [.ref a]) (S' := [.ref a, .int (1103515245 : Int32), .ref a]) 3 rfl ?_
  refine ge_getI rfl (sT0 s ha) rfl ?_
  refine ge_run (pc' := 7) (L' := [.ref a]) (S' := [.int (((1103515245 : Int32) * (i a 15)) + (12345 : Int32)), .ref a]) 3 rfl ?_
  refine ge_putI rfl (sT0 s ha) (sge0 ha) rfl (fun i_1 => ?_)
  refine ge_run (pc' := 9) (L' := [.ref a]) (S' := [.ref a]) 1 rfl ?_
  refine ge_getI rfl (sT0 s ha) rfl ?_
  refine ge_run (pc' := 14) (L' := [.ref a]) (S' := [.int ((ushr (i_1 a 15) (16 : Int32)) &&& (32767 : Int32))]) 4 rfl ?_
  exact ge_ret rfl rfl (And.intro rfl trivial)
